/-! X3_add -/
set_option maxRecDepth 20000 in
theorem qi_X3_add_X3 : ∀ w ∈ u_ws RX3 TX3 1, w ∈ wsX3_add := by decide +kernel
set_option maxRecDepth 20000 in
theorem q_X3_add_1 : Cond.fieldLink RX3 15 "StageTruths$PartSets" "words" "[J" ∈ wsX3_add := by decide +kernel
noncomputable def f_X3_add (v0 : Nat) (v1 : Int32) (v2 : Int32) (f : mmF) : Option (mmF) :=
  if (((3 : Int32) * v1) + (v2 >>> ((6 : Int32) &&& 31))) < 0 then
  (some (f))
  else
  (ldR f v0 3 0).bind fun x15 =>
  (lenA f x15).bind fun x18 =>
  if x18 ≤ (((3 : Int32) * v1) + (v2 >>> ((6 : Int32) &&& 31))) then
  (some (f))
  else
  (ldR f v0 3 0).bind fun x23 =>
  (ldL f x23 (((3 : Int32) * v1) + (v2 >>> ((6 : Int32) &&& 31)))).bind fun x28 =>
  (stL f x23 (((3 : Int32) * v1) + (v2 >>> ((6 : Int32) &&& 31))) (x28 ||| ((1 : Int64) <<< ((v2 &&& (63 : Int32)).toInt64 &&& 63)))).bind fun f36 =>
  some (f36)
section S_X3_add
variable {p : Program} {l : Launch} {e : Env} {s : State} {m : MethodId} {args : Array Value} {below : List Frame} {meth : Method} {c : Code} {D : mmD} {b0 sz : Nat} {f : mmF}
set_option maxHeartbeats 4000000 in
set_option maxRecDepth 100000 in
theorem w_X3_add (C0 : CX cX3_add 4 none wsX3_add RX3 p s m args meth c D b0) {v0 : Nat} {v1 : Int32} {v2 : Int32} {res : mmF} (h : f_X3_add v0 v1 v2 f = some res) : ∀ (H : Heap) (locs : List Loc) (ls : Array Slot), MM vwCl D b0 f sz s H → mS b0 s H locs → lv_has ls 4 [(0, .ref v0), (1, .int v1), (2, .int v2)] → W p l e ({ frames := 0, cells := 0, slots := 0, locals := 0 } : Room) s m args below meth c H locs 0 0 (MQ below (QW D b0 none res sz) args s 0 0 (fun q => b0 ≤ q)) (F0 m 0 ls []) := by
  obtain ⟨hx, hb, hr, hml, hown, hts, hlocks, hK⟩ := id C0
  intro H locs ls hM hS hl
  unfold f_X3_add at h
  refine lv_iconst (v := (3 : Int32)) hx hb dX3_add_0 (by decide) ?_
  refine lv_iload_n hx hb dX3_add_1 rfl (lv_at hl 1 rfl) ?_
  refine lv_imul hx hb dX3_add_2 ?_
  refine lv_iload_n hx hb dX3_add_3 rfl (lv_at hl 2 rfl) ?_
  refine lv_bipush (v := (6 : Int32)) hx hb dX3_add_4 (by decide) ?_
  refine lv_ishr hx hb dX3_add_6 ?_
  refine lv_iadd hx hb dX3_add_7 ?_
  refine lv_istore_n (lv' := [(3, .int (((3 : Int32) * v1) + (v2 >>> ((6 : Int32) &&& 31)))), (0, .ref v0), (1, .int v1), (2, .int v2)]) hx hb dX3_add_8 rfl hl (by decide) rfl (fun ls hl => ?_)
  refine lv_iload_n hx hb dX3_add_9 rfl (lv_at hl 0 rfl) ?_
  refine lv_if_lt (tgt := 37) hx hb dX3_add_10 (by decide) (fun c10 => ?_) (fun c10 => ?_)
  · replace h := o_t c10 h
    replace h := Option.some.inj h; subst h
    exact W.vret hx hb hr (fun t ht hW => ⟨rfl, by rw [ht]; exact hM.moved hW.alike, hS.F ht⟩) hS.2.2 dX3_add_37
  replace h := o_f c10 h
  refine lv_iload_n hx hb dX3_add_13 rfl (lv_at hl 0 rfl) ?_
  refine lv_aload_n hx hb dX3_add_14 rfl (lv_at hl 1 rfl) ?_
  replace h := o_b h; obtain ⟨x15, h15, h⟩ := h
  refine m_get (C := RX3) (T := TX3) (N := 1) (ci := 3) hx hb hts qi_X3_add_X3 hown hK.1 hM 0 (ldR_F h15) rfl (by decide) (hts _ q_X3_add_1) (fun _ h9 => h9) dX3_add_15 ?_
  replace h := o_b h; obtain ⟨x18, h18, h⟩ := h
  refine m_alen hx hb hK.1 hM h18 dX3_add_18 ?_
  refine lv_icmp_ge (tgt := 37) hx hb dX3_add_19 (by decide) (fun c19 => ?_) (fun c19 => ?_)
  · replace h := o_t c19 h
    replace h := Option.some.inj h; subst h
    exact W.vret hx hb hr (fun t ht hW => ⟨rfl, by rw [ht]; exact hM.moved hW.alike, hS.F ht⟩) hS.2.2 dX3_add_37
  replace h := o_f c19 h
  refine lv_aload_n hx hb dX3_add_22 rfl (lv_at hl 1 rfl) ?_
  replace h := o_b h; obtain ⟨x23, h23, h⟩ := h
  refine m_get (C := RX3) (T := TX3) (N := 1) (ci := 3) hx hb hts qi_X3_add_X3 hown hK.1 hM 0 (ldR_F h23) rfl (by decide) (hts _ q_X3_add_1) (fun _ h9 => h9) dX3_add_23 ?_
  refine lv_iload_n hx hb dX3_add_26 rfl (lv_at hl 0 rfl) ?_
  refine lv_dup2_11 hx hb dX3_add_27 rfl rfl ?_
  replace h := o_b h; obtain ⟨x28, h28, h⟩ := h
  refine m_lald hx hb hK.1 hM rfl h28 dX3_add_28 ?_
  refine lv_lconst (v := (1 : Int64)) hx hb dX3_add_29 (by decide) ?_
  refine lv_iload_n hx hb dX3_add_30 rfl (lv_at hl 3 rfl) ?_
  refine lv_bipush (v := (63 : Int32)) hx hb dX3_add_31 (by decide) ?_
  refine lv_iand hx hb dX3_add_33 ?_
  refine lv_lshl (v := ((1 : Int64) <<< ((v2 &&& (63 : Int32)).toInt64 &&& 63))) hx hb dX3_add_34 rfl ?_
  refine lv_lor hx hb dX3_add_35 ?_
  replace h := o_b h; obtain ⟨f36, h36, h⟩ := h
  refine m_last hx hb hK.1 hM hS rfl h36 dX3_add_36 (fun H locs hM hS => ?_)
  replace h := Option.some.inj h; subst h
  exact W.vret hx hb hr (fun t ht hW => ⟨rfl, by rw [ht]; exact hM.moved hW.alike, hS.F ht⟩) hS.2.2 dX3_add_37
set_option maxHeartbeats 4000000 in
set_option maxRecDepth 100000 in
theorem c_X3_add (l : Launch) (D : mmD) (b0 sz : Nat) {v0 : Nat} {v1 : Int32} {v2 : Int32} {f : mmF} {res : mmF} (h : f_X3_add v0 v1 v2 f = some res) : Met l yX3_add wsX3_add ({ frames := 0, cells := 0, slots := 0, locals := 0 } : Room) (va_Pc [.ref v0, .int v1, .int v2] (PW D b0 f sz)) (QW D b0 none res sz) 0 0 (fun q => b0 ≤ q) := by
  refine Met.ofW (cc := cX3_add) (maxL := 4) (ret := none) (by decide) rfl ?_
  intro p e s m args below meth c s₁ B hml hv
  obtain ⟨rfl, hM, hK⟩ := hv
  have hl := lv_entry ([.ref v0, .int v1, .int v2]) (n := 4) (Nat.le_of_ble_eq_true rfl)
  rw [lg_entry_eq]
  generalize (lg_sl ([.ref v0, .int v1, .int v2]) ++ List.replicate (4 - (lg_sl ([.ref v0, .int v1, .int v2])).length) Slot.unset).toArray = ls at hl ⊢
  have hl : lv_has ls 4 [(0, .ref v0), (1, .int v1), (2, .int v2)] := hl
  exact w_X3_add ⟨B.exec, B.bytes, B.returns, hml, findClass_of_methodNamed B.named, atoms_spec (ws := wsX3_add) B.pre, B.notSynchronized, hK⟩ h s.heap [] ls hM va_S.rf hl
end S_X3_add
/-! X2_infer -/
set_option maxRecDepth 20000 in
theorem qi_X2_infer_X2 : ∀ w ∈ u_ws RX2 TX2 5, w ∈ wsX2_infer := by decide +kernel
set_option maxRecDepth 20000 in
theorem q_X2_infer_1 : Cond.fieldLink RX2 20 "StageTruths$Known" "set" "LStageTruths$PartSets;" ∈ wsX2_infer := by decide +kernel
set_option maxRecDepth 20000 in
theorem q_X2_infer_2 : Cond.fieldLink RX2 9 "StageTruths$Known" "size" "I" ∈ wsX2_infer := by decide +kernel
set_option maxRecDepth 20000 in
theorem q_X2_infer_3 : Cond.fieldLink RX2 26 "StageTruths$Known" "order" "[I" ∈ wsX2_infer := by decide +kernel
set_option maxRecDepth 20000 in
theorem q_X2_infer_4 : Cond.fieldLink RX2 30 "StageTruths$Known" "reasons" "LStageTruths$PartSets;" ∈ wsX2_infer := by decide +kernel
noncomputable def f_X2_infer (v0 : Nat) (v1 : Int32) (v2 : Int32) (v3 : Int32) (f : mmF) : Option (mmF) :=
  (ldR f v0 2 1).bind fun x1 =>
  (ckO f x1 3).bind fun _ =>
  (f_X3_has x1 (0 : Int32) v1 f).bind fun q6 =>
  if q6 = 0 then
  ((ldI f v0 2 0).bind fun x13 =>
  if x13 < 0 then
  (some (f))
  else
  (ldI f v0 2 0).bind fun x20 =>
  (ldR f v0 2 3).bind fun x24 =>
  (lenA f x24).bind fun x27 =>
  if x27 ≤ x20 then
  (some (f))
  else
  (ldR f v0 2 4).bind fun x32 =>
  (ckO f x32 3).bind fun _ =>
  (f_X3_fill x32 v1 (0 : Int32) f).bind fun q37 =>
  (ldR q37 v0 2 4).bind fun x41 =>
  (ckO q37 x41 3).bind fun _ =>
  (f_X3_add x41 v1 v2 q37).bind fun q46 =>
  (ldR q46 v0 2 4).bind fun x50 =>
  (ckO q46 x50 3).bind fun _ =>
  (f_X3_add x50 v1 v3 q46).bind fun q55 =>
  (ldR q55 v0 2 1).bind fun x59 =>
  (ckO q55 x59 3).bind fun _ =>
  (f_X3_add x59 (0 : Int32) v1 q55).bind fun q64 =>
  (ldR q64 v0 2 3).bind fun x68 =>
  (ldI q64 v0 2 0).bind fun x72 =>
  (stA 0 q64 x68 x72 v1).bind fun f76 =>
  (ldI f76 v0 2 0).bind fun x79 =>
  (stF f76 v0 2 0 (.int (x79 + (1 : Int32)))).bind fun f84 =>
  some (f84))
  else
  some (f)
section S_X2_infer
variable {p : Program} {l : Launch} {e : Env} {s : State} {m : MethodId} {args : Array Value} {below : List Frame} {meth : Method} {c : Code} {D : mmD} {b0 sz : Nat} {f : mmF}
set_option maxHeartbeats 4000000 in
set_option maxRecDepth 100000 in
theorem w_X2_infer (C0 : CX cX2_infer 4 none wsX2_infer RX2 p s m args meth c D b0) {v0 : Nat} {v1 : Int32} {v2 : Int32} {v3 : Int32} {res : mmF} (h : f_X2_infer v0 v1 v2 v3 f = some res) : ∀ (H : Heap) (locs : List Loc) (ls : Array Slot), MM vwCl D b0 f sz s H → mS b0 s H locs → lv_has ls 4 [(0, .ref v0), (1, .int v1), (2, .int v2), (3, .int v3)] → W p l e ({ frames := 1, cells := 0, slots := 0, locals := 24 } : Room) s m args below meth c H locs 0 0 (MQ below (QW D b0 none res sz) args s 0 0 (fun q => b0 ≤ q)) (F0 m 0 ls []) := by
  obtain ⟨hx, hb, hr, hml, hown, hts, hlocks, hK⟩ := id C0
  intro H locs ls hM hS hl
  unfold f_X2_infer at h
  refine lv_aload_n hx hb dX2_infer_0 rfl (lv_at hl 0 rfl) ?_
  replace h := o_b h; obtain ⟨x1, h1, h⟩ := h
  refine m_get (C := RX2) (T := TX2) (N := 5) (ci := 2) hx hb hts qi_X2_infer_X2 hown hK.1 hM 1 (ldR_F h1) rfl (by decide) (hts _ q_X2_infer_1) (fun _ h9 => h9) dX2_infer_1 ?_
  refine lv_iconst (v := (0 : Int32)) hx hb dX2_infer_4 (by decide) ?_
  refine lv_iload_n hx hb dX2_infer_5 rfl (lv_at hl 1 rfl) ?_
  replace h := o_b h; obtain ⟨_, k6, h⟩ := h
  replace h := o_b h; obtain ⟨q6, h6, h⟩ := h
  refine m_call (va_runV (As := [.int (0 : Int32), .int v1]) (rest := []) ⟨hx, hb, hml, hown, hts⟩ (c_X3_has l D b0 sz h6) (cwV 2 hts gX2_infer_X3_has rfl rfl rfl (by decide +kernel) ⟨Nat.le_of_ble_eq_true rfl, Nat.le_of_ble_eq_true rfl⟩) ⟨PW.blind, m_recv (ci := 3) rfl hK hM k6, (fun U hU hW => ⟨rfl, PW.call hK hM hS hU hW⟩)⟩ rfl rfl hl.1 rfl (lv_room (Nat.le_of_ble_eq_true rfl)) dX2_infer_6 ⟨(Nat.le_refl _), (Nat.le_refl _)⟩) hS (fun H locs hM hS => ?_)
  refine lv_if_ne (tgt := 87) hx hb dX2_infer_9 (by decide) (fun c9 => ?_) (fun c9 => ?_)
  · replace h := o_f c9 h
    replace h := Option.some.inj h; subst h
    exact W.vret hx hb hr (fun t ht hW => ⟨rfl, by rw [ht]; exact hM.moved hW.alike, hS.F ht⟩) hS.2.2 dX2_infer_87
  replace h := o_t c9 h
  refine lv_aload_n hx hb dX2_infer_12 rfl (lv_at hl 0 rfl) ?_
  replace h := o_b h; obtain ⟨x13, h13, h⟩ := h
  refine m_get (C := RX2) (T := TX2) (N := 5) (ci := 2) hx hb hts qi_X2_infer_X2 hown hK.1 hM 0 (ldI_F h13) rfl (by decide) (hts _ q_X2_infer_2) (fun _ h9 => h9) dX2_infer_13 ?_
  refine lv_if_lt (tgt := 87) hx hb dX2_infer_16 (by decide) (fun c16 => ?_) (fun c16 => ?_)
  · replace h := o_t c16 h
    replace h := Option.some.inj h; subst h
    exact W.vret hx hb hr (fun t ht hW => ⟨rfl, by rw [ht]; exact hM.moved hW.alike, hS.F ht⟩) hS.2.2 dX2_infer_87
  replace h := o_f c16 h
  refine lv_aload_n hx hb dX2_infer_19 rfl (lv_at hl 0 rfl) ?_
  replace h := o_b h; obtain ⟨x20, h20, h⟩ := h
  refine m_get (C := RX2) (T := TX2) (N := 5) (ci := 2) hx hb hts qi_X2_infer_X2 hown hK.1 hM 0 (ldI_F h20) rfl (by decide) (hts _ q_X2_infer_2) (fun _ h9 => h9) dX2_infer_20 ?_
  refine lv_aload_n hx hb dX2_infer_23 rfl (lv_at hl 0 rfl) ?_
  replace h := o_b h; obtain ⟨x24, h24, h⟩ := h
  refine m_get (C := RX2) (T := TX2) (N := 5) (ci := 2) hx hb hts qi_X2_infer_X2 hown hK.1 hM 3 (ldR_F h24) rfl (by decide) (hts _ q_X2_infer_3) (fun _ h9 => h9) dX2_infer_24 ?_
  replace h := o_b h; obtain ⟨x27, h27, h⟩ := h
  refine m_alen hx hb hK.1 hM h27 dX2_infer_27 ?_
  refine lv_icmp_ge (tgt := 87) hx hb dX2_infer_28 (by decide) (fun c28 => ?_) (fun c28 => ?_)
  · replace h := o_t c28 h
    replace h := Option.some.inj h; subst h
    exact W.vret hx hb hr (fun t ht hW => ⟨rfl, by rw [ht]; exact hM.moved hW.alike, hS.F ht⟩) hS.2.2 dX2_infer_87
  replace h := o_f c28 h
  refine lv_aload_n hx hb dX2_infer_31 rfl (lv_at hl 0 rfl) ?_
  replace h := o_b h; obtain ⟨x32, h32, h⟩ := h
  refine m_get (C := RX2) (T := TX2) (N := 5) (ci := 2) hx hb hts qi_X2_infer_X2 hown hK.1 hM 4 (ldR_F h32) rfl (by decide) (hts _ q_X2_infer_4) (fun _ h9 => h9) dX2_infer_32 ?_
  refine lv_iload_n hx hb dX2_infer_35 rfl (lv_at hl 1 rfl) ?_
  refine lv_iconst (v := (0 : Int32)) hx hb dX2_infer_36 (by decide) ?_
  replace h := o_b h; obtain ⟨_, k37, h⟩ := h
  replace h := o_b h; obtain ⟨q37, h37, h⟩ := h
  refine m_call (va_runV (As := [.int v1, .int (0 : Int32)]) (rest := []) ⟨hx, hb, hml, hown, hts⟩ (c_X3_fill l D b0 sz h37) (cwV 2 hts gX2_infer_X3_fill rfl rfl rfl (by decide +kernel) ⟨Nat.le_of_ble_eq_true rfl, Nat.le_of_ble_eq_true rfl⟩) ⟨PW.blind, m_recv (ci := 3) rfl hK hM k37, (fun U hU hW => ⟨rfl, PW.call hK hM hS hU hW⟩)⟩ rfl rfl hl.1 rfl (lv_room (Nat.le_of_ble_eq_true rfl)) dX2_infer_37 ⟨(Nat.le_refl _), (Nat.le_refl _)⟩) hS (fun H locs hM hS => ?_)
  refine lv_aload_n hx hb dX2_infer_40 rfl (lv_at hl 0 rfl) ?_
  replace h := o_b h; obtain ⟨x41, h41, h⟩ := h
  refine m_get (C := RX2) (T := TX2) (N := 5) (ci := 2) hx hb hts qi_X2_infer_X2 hown hK.1 hM 4 (ldR_F h41) rfl (by decide) (hts _ q_X2_infer_4) (fun _ h9 => h9) dX2_infer_41 ?_
  refine lv_iload_n hx hb dX2_infer_44 rfl (lv_at hl 1 rfl) ?_
  refine lv_iload_n hx hb dX2_infer_45 rfl (lv_at hl 2 rfl) ?_
  replace h := o_b h; obtain ⟨_, k46, h⟩ := h
  replace h := o_b h; obtain ⟨q46, h46, h⟩ := h
  refine m_call (va_runV (As := [.int v1, .int v2]) (rest := []) ⟨hx, hb, hml, hown, hts⟩ (c_X3_add l D b0 sz h46) (cwV 2 hts gX2_infer_X3_add rfl rfl rfl (by decide +kernel) ⟨Nat.le_of_ble_eq_true rfl, Nat.le_of_ble_eq_true rfl⟩) ⟨PW.blind, m_recv (ci := 3) rfl hK hM k46, (fun U hU hW => ⟨rfl, PW.call hK hM hS hU hW⟩)⟩ rfl rfl hl.1 rfl (lv_room (Nat.le_of_ble_eq_true rfl)) dX2_infer_46 ⟨(Nat.le_refl _), (Nat.le_refl _)⟩) hS (fun H locs hM hS => ?_)
  refine lv_aload_n hx hb dX2_infer_49 rfl (lv_at hl 0 rfl) ?_
  replace h := o_b h; obtain ⟨x50, h50, h⟩ := h
  refine m_get (C := RX2) (T := TX2) (N := 5) (ci := 2) hx hb hts qi_X2_infer_X2 hown hK.1 hM 4 (ldR_F h50) rfl (by decide) (hts _ q_X2_infer_4) (fun _ h9 => h9) dX2_infer_50 ?_
  refine lv_iload_n hx hb dX2_infer_53 rfl (lv_at hl 1 rfl) ?_
  refine lv_iload_n hx hb dX2_infer_54 rfl (lv_at hl 3 rfl) ?_
  replace h := o_b h; obtain ⟨_, k55, h⟩ := h
  replace h := o_b h; obtain ⟨q55, h55, h⟩ := h
  refine m_call (va_runV (As := [.int v1, .int v3]) (rest := []) ⟨hx, hb, hml, hown, hts⟩ (c_X3_add l D b0 sz h55) (cwV 2 hts gX2_infer_X3_add rfl rfl rfl (by decide +kernel) ⟨Nat.le_of_ble_eq_true rfl, Nat.le_of_ble_eq_true rfl⟩) ⟨PW.blind, m_recv (ci := 3) rfl hK hM k55, (fun U hU hW => ⟨rfl, PW.call hK hM hS hU hW⟩)⟩ rfl rfl hl.1 rfl (lv_room (Nat.le_of_ble_eq_true rfl)) dX2_infer_55 ⟨(Nat.le_refl _), (Nat.le_refl _)⟩) hS (fun H locs hM hS => ?_)
  refine lv_aload_n hx hb dX2_infer_58 rfl (lv_at hl 0 rfl) ?_
  replace h := o_b h; obtain ⟨x59, h59, h⟩ := h
  refine m_get (C := RX2) (T := TX2) (N := 5) (ci := 2) hx hb hts qi_X2_infer_X2 hown hK.1 hM 1 (ldR_F h59) rfl (by decide) (hts _ q_X2_infer_1) (fun _ h9 => h9) dX2_infer_59 ?_
  refine lv_iconst (v := (0 : Int32)) hx hb dX2_infer_62 (by decide) ?_
  refine lv_iload_n hx hb dX2_infer_63 rfl (lv_at hl 1 rfl) ?_
  replace h := o_b h; obtain ⟨_, k64, h⟩ := h
  replace h := o_b h; obtain ⟨q64, h64, h⟩ := h
  refine m_call (va_runV (As := [.int (0 : Int32), .int v1]) (rest := []) ⟨hx, hb, hml, hown, hts⟩ (c_X3_add l D b0 sz h64) (cwV 2 hts gX2_infer_X3_add rfl rfl rfl (by decide +kernel) ⟨Nat.le_of_ble_eq_true rfl, Nat.le_of_ble_eq_true rfl⟩) ⟨PW.blind, m_recv (ci := 3) rfl hK hM k64, (fun U hU hW => ⟨rfl, PW.call hK hM hS hU hW⟩)⟩ rfl rfl hl.1 rfl (lv_room (Nat.le_of_ble_eq_true rfl)) dX2_infer_64 ⟨(Nat.le_refl _), (Nat.le_refl _)⟩) hS (fun H locs hM hS => ?_)
  refine lv_aload_n hx hb dX2_infer_67 rfl (lv_at hl 0 rfl) ?_
  replace h := o_b h; obtain ⟨x68, h68, h⟩ := h
  refine m_get (C := RX2) (T := TX2) (N := 5) (ci := 2) hx hb hts qi_X2_infer_X2 hown hK.1 hM 3 (ldR_F h68) rfl (by decide) (hts _ q_X2_infer_3) (fun _ h9 => h9) dX2_infer_68 ?_
  refine lv_aload_n hx hb dX2_infer_71 rfl (lv_at hl 0 rfl) ?_
  replace h := o_b h; obtain ⟨x72, h72, h⟩ := h
  refine m_get (C := RX2) (T := TX2) (N := 5) (ci := 2) hx hb hts qi_X2_infer_X2 hown hK.1 hM 0 (ldI_F h72) rfl (by decide) (hts _ q_X2_infer_2) (fun _ h9 => h9) dX2_infer_72 ?_
  refine lv_iload_n hx hb dX2_infer_75 rfl (lv_at hl 1 rfl) ?_
  replace h := o_b h; obtain ⟨f76, h76, h⟩ := h
  refine m_iast hx hb hK.1 hM hS rfl h76 dX2_infer_76 (fun H locs hM hS => ?_)
  refine lv_aload_n hx hb dX2_infer_77 rfl (lv_at hl 0 rfl) ?_
  refine lv_dup hx hb dX2_infer_78 rfl ?_
  replace h := o_b h; obtain ⟨x79, h79, h⟩ := h
  refine m_get (C := RX2) (T := TX2) (N := 5) (ci := 2) hx hb hts qi_X2_infer_X2 hown hK.1 hM 0 (ldI_F h79) rfl (by decide) (hts _ q_X2_infer_2) (fun _ h9 => h9) dX2_infer_79 ?_
  refine lv_iconst (v := (1 : Int32)) hx hb dX2_infer_82 (by decide) ?_
  refine lv_iadd hx hb dX2_infer_83 ?_
  replace h := o_b h; obtain ⟨f84, h84, h⟩ := h
  refine m_put (ty := .int) (C := RX2) (T := TX2) (N := 5) (ci := 2) hx hb hts qi_X2_infer_X2 tyX2 tyX2_ok nmX2 hown hK.1 hM hS 0 h84 rfl (by decide) (hts _ q_X2_infer_2) (fun _ h9 => h9) rfl (by decide +kernel) rfl rfl dX2_infer_84 (fun H locs hM hS => ?_)
  replace h := Option.some.inj h; subst h
  exact W.vret hx hb hr (fun t ht hW => ⟨rfl, by rw [ht]; exact hM.moved hW.alike, hS.F ht⟩) hS.2.2 dX2_infer_87
set_option maxHeartbeats 4000000 in
set_option maxRecDepth 100000 in
theorem c_X2_infer (l : Launch) (D : mmD) (b0 sz : Nat) {v0 : Nat} {v1 : Int32} {v2 : Int32} {v3 : Int32} {f : mmF} {res : mmF} (h : f_X2_infer v0 v1 v2 v3 f = some res) : Met l yX2_infer wsX2_infer ({ frames := 1, cells := 0, slots := 0, locals := 24 } : Room) (va_Pc [.ref v0, .int v1, .int v2, .int v3] (PW D b0 f sz)) (QW D b0 none res sz) 0 0 (fun q => b0 ≤ q) := by
  refine Met.ofW (cc := cX2_infer) (maxL := 4) (ret := none) (by decide) rfl ?_
  intro p e s m args below meth c s₁ B hml hv
  obtain ⟨rfl, hM, hK⟩ := hv
  have hl := lv_entry ([.ref v0, .int v1, .int v2, .int v3]) (n := 4) (Nat.le_of_ble_eq_true rfl)
  rw [lg_entry_eq]
  generalize (lg_sl ([.ref v0, .int v1, .int v2, .int v3]) ++ List.replicate (4 - (lg_sl ([.ref v0, .int v1, .int v2, .int v3])).length) Slot.unset).toArray = ls at hl ⊢
  have hl : lv_has ls 4 [(0, .ref v0), (1, .int v1), (2, .int v2), (3, .int v3)] := hl
  exact w_X2_infer ⟨B.exec, B.bytes, B.returns, hml, findClass_of_methodNamed B.named, atoms_spec (ws := wsX2_infer) B.pre, B.notSynchronized, hK⟩ h s.heap [] ls hM va_S.rf hl
end S_X2_infer
/-! X2_assume -/
noncomputable def f_X2_assume (v0 : Nat) (v1 : Int32) (f : mmF) : Option (mmF) :=
  (ckO f v0 2).bind fun _ =>
  (f_X2_infer v0 v1 v1 v1 f).bind fun q4 =>
  some (q4)
section S_X2_assume
variable {p : Program} {l : Launch} {e : Env} {s : State} {m : MethodId} {args : Array Value} {below : List Frame} {meth : Method} {c : Code} {D : mmD} {b0 sz : Nat} {f : mmF}
set_option maxHeartbeats 4000000 in
set_option maxRecDepth 100000 in
theorem w_X2_assume (C0 : CX cX2_assume 2 none wsX2_assume RX2 p s m args meth c D b0) {v0 : Nat} {v1 : Int32} {res : mmF} (h : f_X2_assume v0 v1 f = some res) : ∀ (H : Heap) (locs : List Loc) (ls : Array Slot), MM vwCl D b0 f sz s H → mS b0 s H locs → lv_has ls 2 [(0, .ref v0), (1, .int v1)] → W p l e ({ frames := 2, cells := 0, slots := 0, locals := 47 } : Room) s m args below meth c H locs 0 0 (MQ below (QW D b0 none res sz) args s 0 0 (fun q => b0 ≤ q)) (F0 m 0 ls []) := by
  obtain ⟨hx, hb, hr, hml, hown, hts, hlocks, hK⟩ := id C0
  intro H locs ls hM hS hl
  unfold f_X2_assume at h
  refine lv_aload_n hx hb dX2_assume_0 rfl (lv_at hl 0 rfl) ?_
  refine lv_iload_n hx hb dX2_assume_1 rfl (lv_at hl 1 rfl) ?_
  refine lv_iload_n hx hb dX2_assume_2 rfl (lv_at hl 1 rfl) ?_
  refine lv_iload_n hx hb dX2_assume_3 rfl (lv_at hl 1 rfl) ?_
  replace h := o_b h; obtain ⟨_, k4, h⟩ := h
  replace h := o_b h; obtain ⟨q4, h4, h⟩ := h
  refine m_call (va_runV (As := [.int v1, .int v1, .int v1]) (rest := []) ⟨hx, hb, hml, hown, hts⟩ (c_X2_infer l D b0 sz h4) (cwV 3 hts gX2_assume_X2_infer rfl rfl rfl (by decide +kernel) ⟨Nat.le_of_ble_eq_true rfl, Nat.le_of_ble_eq_true rfl⟩) ⟨PW.blind, m_recv (ci := 2) rfl hK hM k4, (fun U hU hW => ⟨rfl, PW.call hK hM hS hU hW⟩)⟩ rfl rfl hl.1 rfl (lv_room (Nat.le_of_ble_eq_true rfl)) dX2_assume_4 ⟨(Nat.le_refl _), (Nat.le_refl _)⟩) hS (fun H locs hM hS => ?_)
  replace h := Option.some.inj h; subst h
  exact W.vret hx hb hr (fun t ht hW => ⟨rfl, by rw [ht]; exact hM.moved hW.alike, hS.F ht⟩) hS.2.2 dX2_assume_7
set_option maxHeartbeats 4000000 in
set_option maxRecDepth 100000 in
theorem c_X2_assume (l : Launch) (D : mmD) (b0 sz : Nat) {v0 : Nat} {v1 : Int32} {f : mmF} {res : mmF} (h : f_X2_assume v0 v1 f = some res) : Met l yX2_assume wsX2_assume ({ frames := 2, cells := 0, slots := 0, locals := 47 } : Room) (va_Pc [.ref v0, .int v1] (PW D b0 f sz)) (QW D b0 none res sz) 0 0 (fun q => b0 ≤ q) := by
  refine Met.ofW (cc := cX2_assume) (maxL := 2) (ret := none) (by decide) rfl ?_
  intro p e s m args below meth c s₁ B hml hv
  obtain ⟨rfl, hM, hK⟩ := hv
  have hl := lv_entry ([.ref v0, .int v1]) (n := 2) (Nat.le_of_ble_eq_true rfl)
  rw [lg_entry_eq]
  generalize (lg_sl ([.ref v0, .int v1]) ++ List.replicate (2 - (lg_sl ([.ref v0, .int v1])).length) Slot.unset).toArray = ls at hl ⊢
  have hl : lv_has ls 2 [(0, .ref v0), (1, .int v1)] := hl
  exact w_X2_assume ⟨B.exec, B.bytes, B.returns, hml, findClass_of_methodNamed B.named, atoms_spec (ws := wsX2_assume) B.pre, B.notSynchronized, hK⟩ h s.heap [] ls hM va_S.rf hl
end S_X2_assume
/-! X3_unite -/
noncomputable def f_X3_unite_3   : Nat → Nat → Int32 → Nat → Int32 → Int32 → mmF → Option (mmF)
  | 0, _, _, _, _, _, _ => none
  | n + 1, v0, v1, v2, v3, v4, f =>
    if (3 : Int32) ≤ v4 then
    (some (f))
    else
    (ckO f v0 3).bind fun _ =>
    (f_X3_word v0 v1 v4 f).bind fun q17 =>
    (ckO f v2 3).bind fun _ =>
    (f_X3_word v2 v3 v4 f).bind fun q24 =>
    (ckO f v0 3).bind fun _ =>
    (f_X3_write v0 v1 v4 (q17 ||| q24) f).bind fun q28 =>
    f_X3_unite_3 n v0 v1 v2 v3 (v4 + (1 : Int32)) q28
noncomputable def f_X3_unite (v0 : Nat) (v1 : Int32) (v2 : Nat) (v3 : Int32) (f : mmF) : Option (mmF) :=
  f_X3_unite_3 FU v0 v1 v2 v3 (0 : Int32) f
section S_X3_unite
variable {p : Program} {l : Launch} {e : Env} {s : State} {m : MethodId} {args : Array Value} {below : List Frame} {meth : Method} {c : Code} {D : mmD} {b0 sz : Nat} {f : mmF}
set_option maxHeartbeats 4000000 in
set_option maxRecDepth 100000 in
theorem w_X3_unite_3 (C0 : CX cX3_unite 5 none wsX3_unite RX3 p s m args meth c D b0) {res : mmF} : ∀ (n : Nat), ∀ (v0 : Nat) (v1 : Int32) (v2 : Nat) (v3 : Int32) (v4 : Int32) (f : mmF), f_X3_unite_3 n v0 v1 v2 v3 v4 f = some res → ∀ (H : Heap) (locs : List Loc) (ls : Array Slot), MM vwCl D b0 f sz s H → mS b0 s H locs → lv_has ls 5 [(0, .ref v0), (1, .int v1), (2, .ref v2), (3, .int v3), (4, .int v4)] → W p l e ({ frames := 1, cells := 0, slots := 0, locals := 25 } : Room) s m args below meth c H locs 0 0 (MQ below (QW D b0 none res sz) args s 0 0 (fun q => b0 ≤ q)) (F0 m 3 ls []) := by
  obtain ⟨hx, hb, hr, hml, hown, hts, hlocks, hK⟩ := id C0
  intro n
  induction n with
  | zero =>
    intro v0 v1 v2 v3 v4 f h
    have h : (none : Option (mmF)) = some res := h
    cases h
  | succ n ih =>
    intro v0 v1 v2 v3 v4 f h H locs ls hM hS hl
    rw [f_X3_unite_3] at h
    refine lv_iload hx hb dX3_unite_3 (lv_at hl 4 rfl) ?_
    refine lv_iconst (v := (3 : Int32)) hx hb dX3_unite_5 (by decide) ?_
    refine lv_icmp_ge (tgt := 37) hx hb dX3_unite_6 (by decide) (fun c6 => ?_) (fun c6 => ?_)
    · replace h := o_t c6 h
      replace h := Option.some.inj h; subst h
      exact W.vret hx hb hr (fun t ht hW => ⟨rfl, by rw [ht]; exact hM.moved hW.alike, hS.F ht⟩) hS.2.2 dX3_unite_37
    replace h := o_f c6 h
    refine lv_aload_n hx hb dX3_unite_9 rfl (lv_at hl 0 rfl) ?_
    refine lv_iload_n hx hb dX3_unite_10 rfl (lv_at hl 1 rfl) ?_
    refine lv_iload hx hb dX3_unite_11 (lv_at hl 4 rfl) ?_
    refine lv_aload_n hx hb dX3_unite_13 rfl (lv_at hl 0 rfl) ?_
    refine lv_iload_n hx hb dX3_unite_14 rfl (lv_at hl 1 rfl) ?_
    refine lv_iload hx hb dX3_unite_15 (lv_at hl 4 rfl) ?_
    replace h := o_b h; obtain ⟨_, k17, h⟩ := h
    replace h := o_b h; obtain ⟨q17, h17, h⟩ := h
    refine m_call (va_runV (As := [.int v1, .int v4]) (rest := [.int v4, .int v1, .ref v0]) ⟨hx, hb, hml, hown, hts⟩ (c_X3_word l D b0 sz h17) (cwV 2 hts gX3_unite_X3_word rfl rfl rfl (by decide +kernel) ⟨Nat.le_of_ble_eq_true rfl, Nat.le_of_ble_eq_true rfl⟩) ⟨PW.blind, m_recv (ci := 3) rfl hK hM k17, (fun U hU hW => ⟨rfl, PW.call hK hM hS hU hW⟩)⟩ rfl rfl hl.1 rfl (lv_room (Nat.le_of_ble_eq_true rfl)) dX3_unite_17 ⟨(Nat.le_refl _), (Nat.le_refl _)⟩) hS (fun H locs hM hS => ?_)
    refine lv_aload_n hx hb dX3_unite_20 rfl (lv_at hl 2 rfl) ?_
    refine lv_iload_n hx hb dX3_unite_21 rfl (lv_at hl 3 rfl) ?_
    refine lv_iload hx hb dX3_unite_22 (lv_at hl 4 rfl) ?_
    replace h := o_b h; obtain ⟨_, k24, h⟩ := h
    replace h := o_b h; obtain ⟨q24, h24, h⟩ := h
    refine m_call (va_runV (As := [.int v3, .int v4]) (rest := [.long q17, .int v4, .int v1, .ref v0]) ⟨hx, hb, hml, hown, hts⟩ (c_X3_word l D b0 sz h24) (cwV 2 hts gX3_unite_X3_word rfl rfl rfl (by decide +kernel) ⟨Nat.le_of_ble_eq_true rfl, Nat.le_of_ble_eq_true rfl⟩) ⟨PW.blind, m_recv (ci := 3) rfl hK hM k24, (fun U hU hW => ⟨rfl, PW.call hK hM hS hU hW⟩)⟩ rfl rfl hl.1 rfl (lv_room (Nat.le_of_ble_eq_true rfl)) dX3_unite_24 ⟨(Nat.le_refl _), (Nat.le_refl _)⟩) hS (fun H locs hM hS => ?_)
    refine lv_lor hx hb dX3_unite_27 ?_
    replace h := o_b h; obtain ⟨_, k28, h⟩ := h
    replace h := o_b h; obtain ⟨q28, h28, h⟩ := h
    refine m_call (va_runV (As := [.int v1, .int v4, .long (q17 ||| q24)]) (rest := []) ⟨hx, hb, hml, hown, hts⟩ (c_X3_write l D b0 sz h28) (cwV 3 hts gX3_unite_X3_write rfl rfl rfl (by decide +kernel) ⟨Nat.le_of_ble_eq_true rfl, Nat.le_of_ble_eq_true rfl⟩) ⟨PW.blind, m_recv (ci := 3) rfl hK hM k28, (fun U hU hW => ⟨rfl, PW.call hK hM hS hU hW⟩)⟩ rfl rfl hl.1 rfl (lv_room (Nat.le_of_ble_eq_true rfl)) dX3_unite_28 ⟨(Nat.le_refl _), (Nat.le_refl _)⟩) hS (fun H locs hM hS => ?_)
    refine lv_iinc (v := (v4 + (1 : Int32))) (lv' := [(4, .int (v4 + (1 : Int32))), (0, .ref v0), (1, .int v1), (2, .ref v2), (3, .int v3)]) hx hb dX3_unite_31 hl (k := 4) rfl rfl (by decide) rfl (fun ls hl => ?_)
    refine lv_goto (tgt := 3) hx hb dX3_unite_34 (by decide) ?_
    exact ih _ _ _ _ _ _ h _ _ _ hM hS (lv_sub hl [1, 2, 3, 4, 0] rfl)
set_option maxHeartbeats 4000000 in
set_option maxRecDepth 100000 in
theorem w_X3_unite (C0 : CX cX3_unite 5 none wsX3_unite RX3 p s m args meth c D b0) {v0 : Nat} {v1 : Int32} {v2 : Nat} {v3 : Int32} {res : mmF} (h : f_X3_unite v0 v1 v2 v3 f = some res) : ∀ (H : Heap) (locs : List Loc) (ls : Array Slot), MM vwCl D b0 f sz s H → mS b0 s H locs → lv_has ls 5 [(0, .ref v0), (1, .int v1), (2, .ref v2), (3, .int v3)] → W p l e ({ frames := 1, cells := 0, slots := 0, locals := 25 } : Room) s m args below meth c H locs 0 0 (MQ below (QW D b0 none res sz) args s 0 0 (fun q => b0 ≤ q)) (F0 m 0 ls []) := by
  obtain ⟨hx, hb, hr, hml, hown, hts, hlocks, hK⟩ := id C0
  intro H locs ls hM hS hl
  unfold f_X3_unite at h
  refine lv_iconst (v := (0 : Int32)) hx hb dX3_unite_0 (by decide) ?_
  refine lv_istore (lv' := [(4, .int (0 : Int32)), (0, .ref v0), (1, .int v1), (2, .ref v2), (3, .int v3)]) hx hb dX3_unite_1 hl (by decide) rfl (fun ls hl => ?_)
  exact w_X3_unite_3 C0 FU _ _ _ _ _ _ h _ _ _ hM hS (lv_sub hl [1, 2, 3, 4, 0] rfl)
set_option maxHeartbeats 4000000 in
set_option maxRecDepth 100000 in
theorem c_X3_unite (l : Launch) (D : mmD) (b0 sz : Nat) {v0 : Nat} {v1 : Int32} {v2 : Nat} {v3 : Int32} {f : mmF} {res : mmF} (h : f_X3_unite v0 v1 v2 v3 f = some res) : Met l yX3_unite wsX3_unite ({ frames := 1, cells := 0, slots := 0, locals := 25 } : Room) (va_Pc [.ref v0, .int v1, .ref v2, .int v3] (PW D b0 f sz)) (QW D b0 none res sz) 0 0 (fun q => b0 ≤ q) := by
  refine Met.ofW (cc := cX3_unite) (maxL := 5) (ret := none) (by decide) rfl ?_
  intro p e s m args below meth c s₁ B hml hv
  obtain ⟨rfl, hM, hK⟩ := hv
  have hl := lv_entry ([.ref v0, .int v1, .ref v2, .int v3]) (n := 5) (Nat.le_of_ble_eq_true rfl)
  rw [lg_entry_eq]
  generalize (lg_sl ([.ref v0, .int v1, .ref v2, .int v3]) ++ List.replicate (5 - (lg_sl ([.ref v0, .int v1, .ref v2, .int v3])).length) Slot.unset).toArray = ls at hl ⊢
  have hl : lv_has ls 5 [(0, .ref v0), (1, .int v1), (2, .ref v2), (3, .int v3)] := hl
  exact w_X3_unite ⟨B.exec, B.bytes, B.returns, hml, findClass_of_methodNamed B.named, atoms_spec (ws := wsX3_unite) B.pre, B.notSynchronized, hK⟩ h s.heap [] ls hM va_S.rf hl
end S_X3_unite
/-! X3_keepOnly -/
noncomputable def f_X3_keepOnly_3   : Nat → Nat → Int32 → Nat → Int32 → Int32 → mmF → Option (mmF)
  | 0, _, _, _, _, _, _ => none
  | n + 1, v0, v1, v2, v3, v4, f =>
    if (3 : Int32) ≤ v4 then
    (some (f))
    else
    (ckO f v0 3).bind fun _ =>
    (f_X3_word v0 v1 v4 f).bind fun q17 =>
    (ckO f v2 3).bind fun _ =>
    (f_X3_word v2 v3 v4 f).bind fun q24 =>
    (ckO f v0 3).bind fun _ =>
    (f_X3_write v0 v1 v4 (q17 &&& q24) f).bind fun q28 =>
    f_X3_keepOnly_3 n v0 v1 v2 v3 (v4 + (1 : Int32)) q28
noncomputable def f_X3_keepOnly (v0 : Nat) (v1 : Int32) (v2 : Nat) (v3 : Int32) (f : mmF) : Option (mmF) :=
  f_X3_keepOnly_3 FU v0 v1 v2 v3 (0 : Int32) f
section S_X3_keepOnly
variable {p : Program} {l : Launch} {e : Env} {s : State} {m : MethodId} {args : Array Value} {below : List Frame} {meth : Method} {c : Code} {D : mmD} {b0 sz : Nat} {f : mmF}
set_option maxHeartbeats 4000000 in
set_option maxRecDepth 100000 in
theorem w_X3_keepOnly_3 (C0 : CX cX3_keepOnly 5 none wsX3_keepOnly RX3 p s m args meth c D b0) {res : mmF} : ∀ (n : Nat), ∀ (v0 : Nat) (v1 : Int32) (v2 : Nat) (v3 : Int32) (v4 : Int32) (f : mmF), f_X3_keepOnly_3 n v0 v1 v2 v3 v4 f = some res → ∀ (H : Heap) (locs : List Loc) (ls : Array Slot), MM vwCl D b0 f sz s H → mS b0 s H locs → lv_has ls 5 [(0, .ref v0), (1, .int v1), (2, .ref v2), (3, .int v3), (4, .int v4)] → W p l e ({ frames := 1, cells := 0, slots := 0, locals := 25 } : Room) s m args below meth c H locs 0 0 (MQ below (QW D b0 none res sz) args s 0 0 (fun q => b0 ≤ q)) (F0 m 3 ls []) := by
  obtain ⟨hx, hb, hr, hml, hown, hts, hlocks, hK⟩ := id C0
  intro n
  induction n with
  | zero =>
    intro v0 v1 v2 v3 v4 f h
    have h : (none : Option (mmF)) = some res := h
    cases h
  | succ n ih =>
    intro v0 v1 v2 v3 v4 f h H locs ls hM hS hl
    rw [f_X3_keepOnly_3] at h
    refine lv_iload hx hb dX3_keepOnly_3 (lv_at hl 4 rfl) ?_
    refine lv_iconst (v := (3 : Int32)) hx hb dX3_keepOnly_5 (by decide) ?_
    refine lv_icmp_ge (tgt := 37) hx hb dX3_keepOnly_6 (by decide) (fun c6 => ?_) (fun c6 => ?_)
    · replace h := o_t c6 h
      replace h := Option.some.inj h; subst h
      exact W.vret hx hb hr (fun t ht hW => ⟨rfl, by rw [ht]; exact hM.moved hW.alike, hS.F ht⟩) hS.2.2 dX3_keepOnly_37
    replace h := o_f c6 h
    refine lv_aload_n hx hb dX3_keepOnly_9 rfl (lv_at hl 0 rfl) ?_
    refine lv_iload_n hx hb dX3_keepOnly_10 rfl (lv_at hl 1 rfl) ?_
    refine lv_iload hx hb dX3_keepOnly_11 (lv_at hl 4 rfl) ?_
    refine lv_aload_n hx hb dX3_keepOnly_13 rfl (lv_at hl 0 rfl) ?_
    refine lv_iload_n hx hb dX3_keepOnly_14 rfl (lv_at hl 1 rfl) ?_
    refine lv_iload hx hb dX3_keepOnly_15 (lv_at hl 4 rfl) ?_
    replace h := o_b h; obtain ⟨_, k17, h⟩ := h
    replace h := o_b h; obtain ⟨q17, h17, h⟩ := h
    refine m_call (va_runV (As := [.int v1, .int v4]) (rest := [.int v4, .int v1, .ref v0]) ⟨hx, hb, hml, hown, hts⟩ (c_X3_word l D b0 sz h17) (cwV 2 hts gX3_keepOnly_X3_word rfl rfl rfl (by decide +kernel) ⟨Nat.le_of_ble_eq_true rfl, Nat.le_of_ble_eq_true rfl⟩) ⟨PW.blind, m_recv (ci := 3) rfl hK hM k17, (fun U hU hW => ⟨rfl, PW.call hK hM hS hU hW⟩)⟩ rfl rfl hl.1 rfl (lv_room (Nat.le_of_ble_eq_true rfl)) dX3_keepOnly_17 ⟨(Nat.le_refl _), (Nat.le_refl _)⟩) hS (fun H locs hM hS => ?_)
    refine lv_aload_n hx hb dX3_keepOnly_20 rfl (lv_at hl 2 rfl) ?_
    refine lv_iload_n hx hb dX3_keepOnly_21 rfl (lv_at hl 3 rfl) ?_
    refine lv_iload hx hb dX3_keepOnly_22 (lv_at hl 4 rfl) ?_
    replace h := o_b h; obtain ⟨_, k24, h⟩ := h
    replace h := o_b h; obtain ⟨q24, h24, h⟩ := h
    refine m_call (va_runV (As := [.int v3, .int v4]) (rest := [.long q17, .int v4, .int v1, .ref v0]) ⟨hx, hb, hml, hown, hts⟩ (c_X3_word l D b0 sz h24) (cwV 2 hts gX3_keepOnly_X3_word rfl rfl rfl (by decide +kernel) ⟨Nat.le_of_ble_eq_true rfl, Nat.le_of_ble_eq_true rfl⟩) ⟨PW.blind, m_recv (ci := 3) rfl hK hM k24, (fun U hU hW => ⟨rfl, PW.call hK hM hS hU hW⟩)⟩ rfl rfl hl.1 rfl (lv_room (Nat.le_of_ble_eq_true rfl)) dX3_keepOnly_24 ⟨(Nat.le_refl _), (Nat.le_refl _)⟩) hS (fun H locs hM hS => ?_)
    refine lv_land hx hb dX3_keepOnly_27 ?_
    replace h := o_b h; obtain ⟨_, k28, h⟩ := h
    replace h := o_b h; obtain ⟨q28, h28, h⟩ := h
    refine m_call (va_runV (As := [.int v1, .int v4, .long (q17 &&& q24)]) (rest := []) ⟨hx, hb, hml, hown, hts⟩ (c_X3_write l D b0 sz h28) (cwV 3 hts gX3_keepOnly_X3_write rfl rfl rfl (by decide +kernel) ⟨Nat.le_of_ble_eq_true rfl, Nat.le_of_ble_eq_true rfl⟩) ⟨PW.blind, m_recv (ci := 3) rfl hK hM k28, (fun U hU hW => ⟨rfl, PW.call hK hM hS hU hW⟩)⟩ rfl rfl hl.1 rfl (lv_room (Nat.le_of_ble_eq_true rfl)) dX3_keepOnly_28 ⟨(Nat.le_refl _), (Nat.le_refl _)⟩) hS (fun H locs hM hS => ?_)
    refine lv_iinc (v := (v4 + (1 : Int32))) (lv' := [(4, .int (v4 + (1 : Int32))), (0, .ref v0), (1, .int v1), (2, .ref v2), (3, .int v3)]) hx hb dX3_keepOnly_31 hl (k := 4) rfl rfl (by decide) rfl (fun ls hl => ?_)
    refine lv_goto (tgt := 3) hx hb dX3_keepOnly_34 (by decide) ?_
    exact ih _ _ _ _ _ _ h _ _ _ hM hS (lv_sub hl [1, 2, 3, 4, 0] rfl)
set_option maxHeartbeats 4000000 in
set_option maxRecDepth 100000 in
theorem w_X3_keepOnly (C0 : CX cX3_keepOnly 5 none wsX3_keepOnly RX3 p s m args meth c D b0) {v0 : Nat} {v1 : Int32} {v2 : Nat} {v3 : Int32} {res : mmF} (h : f_X3_keepOnly v0 v1 v2 v3 f = some res) : ∀ (H : Heap) (locs : List Loc) (ls : Array Slot), MM vwCl D b0 f sz s H → mS b0 s H locs → lv_has ls 5 [(0, .ref v0), (1, .int v1), (2, .ref v2), (3, .int v3)] → W p l e ({ frames := 1, cells := 0, slots := 0, locals := 25 } : Room) s m args below meth c H locs 0 0 (MQ below (QW D b0 none res sz) args s 0 0 (fun q => b0 ≤ q)) (F0 m 0 ls []) := by
  obtain ⟨hx, hb, hr, hml, hown, hts, hlocks, hK⟩ := id C0
  intro H locs ls hM hS hl
  unfold f_X3_keepOnly at h
  refine lv_iconst (v := (0 : Int32)) hx hb dX3_keepOnly_0 (by decide) ?_
  refine lv_istore (lv' := [(4, .int (0 : Int32)), (0, .ref v0), (1, .int v1), (2, .ref v2), (3, .int v3)]) hx hb dX3_keepOnly_1 hl (by decide) rfl (fun ls hl => ?_)
  exact w_X3_keepOnly_3 C0 FU _ _ _ _ _ _ h _ _ _ hM hS (lv_sub hl [1, 2, 3, 4, 0] rfl)
set_option maxHeartbeats 4000000 in
set_option maxRecDepth 100000 in
theorem c_X3_keepOnly (l : Launch) (D : mmD) (b0 sz : Nat) {v0 : Nat} {v1 : Int32} {v2 : Nat} {v3 : Int32} {f : mmF} {res : mmF} (h : f_X3_keepOnly v0 v1 v2 v3 f = some res) : Met l yX3_keepOnly wsX3_keepOnly ({ frames := 1, cells := 0, slots := 0, locals := 25 } : Room) (va_Pc [.ref v0, .int v1, .ref v2, .int v3] (PW D b0 f sz)) (QW D b0 none res sz) 0 0 (fun q => b0 ≤ q) := by
  refine Met.ofW (cc := cX3_keepOnly) (maxL := 5) (ret := none) (by decide) rfl ?_
  intro p e s m args below meth c s₁ B hml hv
  obtain ⟨rfl, hM, hK⟩ := hv
  have hl := lv_entry ([.ref v0, .int v1, .ref v2, .int v3]) (n := 5) (Nat.le_of_ble_eq_true rfl)
  rw [lg_entry_eq]
  generalize (lg_sl ([.ref v0, .int v1, .ref v2, .int v3]) ++ List.replicate (5 - (lg_sl ([.ref v0, .int v1, .ref v2, .int v3])).length) Slot.unset).toArray = ls at hl ⊢
  have hl : lv_has ls 5 [(0, .ref v0), (1, .int v1), (2, .ref v2), (3, .int v3)] := hl
  exact w_X3_keepOnly ⟨B.exec, B.bytes, B.returns, hml, findClass_of_methodNamed B.named, atoms_spec (ws := wsX3_keepOnly) B.pre, B.notSynchronized, hK⟩ h s.heap [] ls hM va_S.rf hl
end S_X3_keepOnly
/-! X2_conclude -/
set_option maxRecDepth 20000 in
theorem qi_X2_conclude_X2 : ∀ w ∈ u_ws RX2 TX2 5, w ∈ wsX2_conclude := by decide +kernel
set_option maxRecDepth 20000 in
theorem q_X2_conclude_1 : Cond.fieldLink RX2 30 "StageTruths$Known" "reasons" "LStageTruths$PartSets;" ∈ wsX2_conclude := by decide +kernel
set_option maxRecDepth 20000 in
theorem q_X2_conclude_2 : Cond.fieldLink RX2 20 "StageTruths$Known" "set" "LStageTruths$PartSets;" ∈ wsX2_conclude := by decide +kernel
noncomputable def f_X2_conclude (v0 : Nat) (v1 : Int32) (v2 : Nat) (v3 : Int32) (v4 : Int32) (f : mmF) : Option (mmF) :=
  (ckO f v0 2).bind fun _ =>
  (f_X2_has v0 v1 f).bind fun q2 =>
  if q2 = 0 then
  ((ckO f v0 2).bind fun _ =>
  (f_X2_infer v0 v1 v4 v4 f).bind fun q14 =>
  (ldR q14 v0 2 4).bind fun x18 =>
  (ckO q14 x18 3).bind fun _ =>
  (f_X3_unite x18 v1 v2 v3 q14).bind fun q24 =>
  (ldR q24 v0 2 4).bind fun x28 =>
  (ldR q24 v0 2 1).bind fun x33 =>
  (ckO q24 x28 3).bind fun _ =>
  (f_X3_keepOnly x28 v1 x33 (0 : Int32) q24).bind fun q37 =>
  (ldR q37 v0 2 4).bind fun x41 =>
  (ckO q37 x41 3).bind fun _ =>
  (f_X3_remove x41 v1 v1 q37).bind fun q46 =>
  some (q46))
  else
  some (f)
section S_X2_conclude
variable {p : Program} {l : Launch} {e : Env} {s : State} {m : MethodId} {args : Array Value} {below : List Frame} {meth : Method} {c : Code} {D : mmD} {b0 sz : Nat} {f : mmF}
set_option maxHeartbeats 4000000 in
set_option maxRecDepth 100000 in
theorem w_X2_conclude (C0 : CX cX2_conclude 5 none wsX2_conclude RX2 p s m args meth c D b0) {v0 : Nat} {v1 : Int32} {v2 : Nat} {v3 : Int32} {v4 : Int32} {res : mmF} (h : f_X2_conclude v0 v1 v2 v3 v4 f = some res) : ∀ (H : Heap) (locs : List Loc) (ls : Array Slot), MM vwCl D b0 f sz s H → mS b0 s H locs → lv_has ls 5 [(0, .ref v0), (1, .int v1), (2, .ref v2), (3, .int v3), (4, .int v4)] → W p l e ({ frames := 2, cells := 0, slots := 0, locals := 49 } : Room) s m args below meth c H locs 0 0 (MQ below (QW D b0 none res sz) args s 0 0 (fun q => b0 ≤ q)) (F0 m 0 ls []) := by
  obtain ⟨hx, hb, hr, hml, hown, hts, hlocks, hK⟩ := id C0
  intro H locs ls hM hS hl
  unfold f_X2_conclude at h
  refine lv_aload_n hx hb dX2_conclude_0 rfl (lv_at hl 0 rfl) ?_
  refine lv_iload_n hx hb dX2_conclude_1 rfl (lv_at hl 1 rfl) ?_
  replace h := o_b h; obtain ⟨_, k2, h⟩ := h
  replace h := o_b h; obtain ⟨q2, h2, h⟩ := h
  refine m_call (va_runV (As := [.int v1]) (rest := []) ⟨hx, hb, hml, hown, hts⟩ (c_X2_has l D b0 sz h2) (cwV 1 hts gX2_conclude_X2_has rfl rfl rfl (by decide +kernel) ⟨Nat.le_of_ble_eq_true rfl, Nat.le_of_ble_eq_true rfl⟩) ⟨PW.blind, m_recv (ci := 2) rfl hK hM k2, (fun U hU hW => ⟨rfl, PW.call hK hM hS hU hW⟩)⟩ rfl rfl hl.1 rfl (lv_room (Nat.le_of_ble_eq_true rfl)) dX2_conclude_2 ⟨(Nat.le_refl _), (Nat.le_refl _)⟩) hS (fun H locs hM hS => ?_)
  refine lv_if_ne (tgt := 49) hx hb dX2_conclude_5 (by decide) (fun c5 => ?_) (fun c5 => ?_)
  · replace h := o_f c5 h
    replace h := Option.some.inj h; subst h
    exact W.vret hx hb hr (fun t ht hW => ⟨rfl, by rw [ht]; exact hM.moved hW.alike, hS.F ht⟩) hS.2.2 dX2_conclude_49
  replace h := o_t c5 h
  refine lv_aload_n hx hb dX2_conclude_8 rfl (lv_at hl 0 rfl) ?_
  refine lv_iload_n hx hb dX2_conclude_9 rfl (lv_at hl 1 rfl) ?_
  refine lv_iload hx hb dX2_conclude_10 (lv_at hl 4 rfl) ?_
  refine lv_iload hx hb dX2_conclude_12 (lv_at hl 4 rfl) ?_
  replace h := o_b h; obtain ⟨_, k14, h⟩ := h
  replace h := o_b h; obtain ⟨q14, h14, h⟩ := h
  refine m_call (va_runV (As := [.int v1, .int v4, .int v4]) (rest := []) ⟨hx, hb, hml, hown, hts⟩ (c_X2_infer l D b0 sz h14) (cwV 3 hts gX2_conclude_X2_infer rfl rfl rfl (by decide +kernel) ⟨Nat.le_of_ble_eq_true rfl, Nat.le_of_ble_eq_true rfl⟩) ⟨PW.blind, m_recv (ci := 2) rfl hK hM k14, (fun U hU hW => ⟨rfl, PW.call hK hM hS hU hW⟩)⟩ rfl rfl hl.1 rfl (lv_room (Nat.le_of_ble_eq_true rfl)) dX2_conclude_14 ⟨(Nat.le_refl _), (Nat.le_refl _)⟩) hS (fun H locs hM hS => ?_)
  refine lv_aload_n hx hb dX2_conclude_17 rfl (lv_at hl 0 rfl) ?_
  replace h := o_b h; obtain ⟨x18, h18, h⟩ := h
  refine m_get (C := RX2) (T := TX2) (N := 5) (ci := 2) hx hb hts qi_X2_conclude_X2 hown hK.1 hM 4 (ldR_F h18) rfl (by decide) (hts _ q_X2_conclude_1) (fun _ h9 => h9) dX2_conclude_18 ?_
  refine lv_iload_n hx hb dX2_conclude_21 rfl (lv_at hl 1 rfl) ?_
  refine lv_aload_n hx hb dX2_conclude_22 rfl (lv_at hl 2 rfl) ?_
  refine lv_iload_n hx hb dX2_conclude_23 rfl (lv_at hl 3 rfl) ?_
  replace h := o_b h; obtain ⟨_, k24, h⟩ := h
  replace h := o_b h; obtain ⟨q24, h24, h⟩ := h
  refine m_call (va_runV (As := [.int v1, .ref v2, .int v3]) (rest := []) ⟨hx, hb, hml, hown, hts⟩ (c_X3_unite l D b0 sz h24) (cwV 3 hts gX2_conclude_X3_unite rfl rfl rfl (by decide +kernel) ⟨Nat.le_of_ble_eq_true rfl, Nat.le_of_ble_eq_true rfl⟩) ⟨PW.blind, m_recv (ci := 3) rfl hK hM k24, (fun U hU hW => ⟨rfl, PW.call hK hM hS hU hW⟩)⟩ rfl rfl hl.1 rfl (lv_room (Nat.le_of_ble_eq_true rfl)) dX2_conclude_24 ⟨(Nat.le_refl _), (Nat.le_refl _)⟩) hS (fun H locs hM hS => ?_)
  refine lv_aload_n hx hb dX2_conclude_27 rfl (lv_at hl 0 rfl) ?_
  replace h := o_b h; obtain ⟨x28, h28, h⟩ := h
  refine m_get (C := RX2) (T := TX2) (N := 5) (ci := 2) hx hb hts qi_X2_conclude_X2 hown hK.1 hM 4 (ldR_F h28) rfl (by decide) (hts _ q_X2_conclude_1) (fun _ h9 => h9) dX2_conclude_28 ?_
  refine lv_iload_n hx hb dX2_conclude_31 rfl (lv_at hl 1 rfl) ?_
  refine lv_aload_n hx hb dX2_conclude_32 rfl (lv_at hl 0 rfl) ?_
  replace h := o_b h; obtain ⟨x33, h33, h⟩ := h
  refine m_get (C := RX2) (T := TX2) (N := 5) (ci := 2) hx hb hts qi_X2_conclude_X2 hown hK.1 hM 1 (ldR_F h33) rfl (by decide) (hts _ q_X2_conclude_2) (fun _ h9 => h9) dX2_conclude_33 ?_
  refine lv_iconst (v := (0 : Int32)) hx hb dX2_conclude_36 (by decide) ?_
  replace h := o_b h; obtain ⟨_, k37, h⟩ := h
  replace h := o_b h; obtain ⟨q37, h37, h⟩ := h
  refine m_call (va_runV (As := [.int v1, .ref x33, .int (0 : Int32)]) (rest := []) ⟨hx, hb, hml, hown, hts⟩ (c_X3_keepOnly l D b0 sz h37) (cwV 3 hts gX2_conclude_X3_keepOnly rfl rfl rfl (by decide +kernel) ⟨Nat.le_of_ble_eq_true rfl, Nat.le_of_ble_eq_true rfl⟩) ⟨PW.blind, m_recv (ci := 3) rfl hK hM k37, (fun U hU hW => ⟨rfl, PW.call hK hM hS hU hW⟩)⟩ rfl rfl hl.1 rfl (lv_room (Nat.le_of_ble_eq_true rfl)) dX2_conclude_37 ⟨(Nat.le_refl _), (Nat.le_refl _)⟩) hS (fun H locs hM hS => ?_)
  refine lv_aload_n hx hb dX2_conclude_40 rfl (lv_at hl 0 rfl) ?_
  replace h := o_b h; obtain ⟨x41, h41, h⟩ := h
  refine m_get (C := RX2) (T := TX2) (N := 5) (ci := 2) hx hb hts qi_X2_conclude_X2 hown hK.1 hM 4 (ldR_F h41) rfl (by decide) (hts _ q_X2_conclude_1) (fun _ h9 => h9) dX2_conclude_41 ?_
  refine lv_iload_n hx hb dX2_conclude_44 rfl (lv_at hl 1 rfl) ?_
  refine lv_iload_n hx hb dX2_conclude_45 rfl (lv_at hl 1 rfl) ?_
  replace h := o_b h; obtain ⟨_, k46, h⟩ := h
  replace h := o_b h; obtain ⟨q46, h46, h⟩ := h
  refine m_call (va_runV (As := [.int v1, .int v1]) (rest := []) ⟨hx, hb, hml, hown, hts⟩ (c_X3_remove l D b0 sz h46) (cwV 2 hts gX2_conclude_X3_remove rfl rfl rfl (by decide +kernel) ⟨Nat.le_of_ble_eq_true rfl, Nat.le_of_ble_eq_true rfl⟩) ⟨PW.blind, m_recv (ci := 3) rfl hK hM k46, (fun U hU hW => ⟨rfl, PW.call hK hM hS hU hW⟩)⟩ rfl rfl hl.1 rfl (lv_room (Nat.le_of_ble_eq_true rfl)) dX2_conclude_46 ⟨(Nat.le_refl _), (Nat.le_refl _)⟩) hS (fun H locs hM hS => ?_)
  replace h := Option.some.inj h; subst h
  exact W.vret hx hb hr (fun t ht hW => ⟨rfl, by rw [ht]; exact hM.moved hW.alike, hS.F ht⟩) hS.2.2 dX2_conclude_49
set_option maxHeartbeats 4000000 in
set_option maxRecDepth 100000 in
theorem c_X2_conclude (l : Launch) (D : mmD) (b0 sz : Nat) {v0 : Nat} {v1 : Int32} {v2 : Nat} {v3 : Int32} {v4 : Int32} {f : mmF} {res : mmF} (h : f_X2_conclude v0 v1 v2 v3 v4 f = some res) : Met l yX2_conclude wsX2_conclude ({ frames := 2, cells := 0, slots := 0, locals := 49 } : Room) (va_Pc [.ref v0, .int v1, .ref v2, .int v3, .int v4] (PW D b0 f sz)) (QW D b0 none res sz) 0 0 (fun q => b0 ≤ q) := by
  refine Met.ofW (cc := cX2_conclude) (maxL := 5) (ret := none) (by decide) rfl ?_
  intro p e s m args below meth c s₁ B hml hv
  obtain ⟨rfl, hM, hK⟩ := hv
  have hl := lv_entry ([.ref v0, .int v1, .ref v2, .int v3, .int v4]) (n := 5) (Nat.le_of_ble_eq_true rfl)
  rw [lg_entry_eq]
  generalize (lg_sl ([.ref v0, .int v1, .ref v2, .int v3, .int v4]) ++ List.replicate (5 - (lg_sl ([.ref v0, .int v1, .ref v2, .int v3, .int v4])).length) Slot.unset).toArray = ls at hl ⊢
  have hl : lv_has ls 5 [(0, .ref v0), (1, .int v1), (2, .ref v2), (3, .int v3), (4, .int v4)] := hl
  exact w_X2_conclude ⟨B.exec, B.bytes, B.returns, hml, findClass_of_methodNamed B.named, atoms_spec (ws := wsX2_conclude) B.pre, B.notSynchronized, hK⟩ h s.heap [] ls hM va_S.rf hl
end S_X2_conclude
/-! X2_explain -/
set_option maxRecDepth 20000 in
theorem qi_X2_explain_X2 : ∀ w ∈ u_ws RX2 TX2 5, w ∈ wsX2_explain := by decide +kernel
set_option maxRecDepth 20000 in
theorem q_X2_explain_1 : Cond.fieldLink RX2 30 "StageTruths$Known" "reasons" "LStageTruths$PartSets;" ∈ wsX2_explain := by decide +kernel
set_option maxRecDepth 20000 in
theorem q_X2_explain_2 : Cond.fieldLink RX2 9 "StageTruths$Known" "size" "I" ∈ wsX2_explain := by decide +kernel
noncomputable def f_X2_explain_55 (k8 : Nat → Nat → Int32 → Int32 → Int32 → mmF → Option (mmF))  (v0 : Nat) (v1 : Nat) (v2 : Int32) (v3 : Int32) (v4 : Int32) (f : mmF) : Option (mmF) :=
  k8 v0 v1 v2 v3 (v4 + (-1 : Int32)) f
noncomputable def f_X2_explain_8   : Nat → Nat → Nat → Int32 → Int32 → Int32 → mmF → Option (mmF)
  | 0, _, _, _, _, _, _ => none
  | n + 1, v0, v1, v2, v3, v4, f =>
    if v4 < v3 then
    (some (f))
    else
    if v4 < 0 then
    (some (f))
    else
    (ckO f v0 2).bind fun _ =>
    (f_X2_part v0 v4 f).bind fun q22 =>
    (ckO f v1 3).bind fun _ =>
    (f_X3_has v1 v2 q22 f).bind fun q31 =>
    if q31 = 0 then
    (f_X2_explain_55 (fun a0 a1 a2 a3 a4 a5 => f_X2_explain_8 n a0 a1 a2 a3 a4 a5) v0 v1 v2 v3 v4 f)
    else
    (ckO f v1 3).bind fun _ =>
    (f_X3_remove v1 v2 q22 f).bind fun q41 =>
    (ldR q41 v0 2 4).bind fun x47 =>
    (ckO q41 v1 3).bind fun _ =>
    (f_X3_unite v1 v2 x47 q22 q41).bind fun q52 =>
    f_X2_explain_55 (fun a0 a1 a2 a3 a4 a5 => f_X2_explain_8 n a0 a1 a2 a3 a4 a5) v0 v1 v2 v3 v4 q52
noncomputable def f_X2_explain (v0 : Nat) (v1 : Nat) (v2 : Int32) (v3 : Int32) (f : mmF) : Option (mmF) :=
  (ldI f v0 2 0).bind fun x1 =>
  f_X2_explain_8 FU v0 v1 v2 v3 (x1 - (1 : Int32)) f
section S_X2_explain
variable {p : Program} {l : Launch} {e : Env} {s : State} {m : MethodId} {args : Array Value} {below : List Frame} {meth : Method} {c : Code} {D : mmD} {b0 sz : Nat} {f : mmF}
set_option maxHeartbeats 4000000 in
set_option maxRecDepth 100000 in
theorem w_X2_explain_55 (C0 : CX cX2_explain 6 none wsX2_explain RX2 p s m args meth c D b0) {k8 : Nat → Nat → Int32 → Int32 → Int32 → mmF → Option (mmF)} {res : mmF} (hk8 : ∀ (v0 : Nat) (v1 : Nat) (v2 : Int32) (v3 : Int32) (v4 : Int32) (f : mmF), k8 v0 v1 v2 v3 v4 f = some res → ∀ (H : Heap) (locs : List Loc) (ls : Array Slot), MM vwCl D b0 f sz s H → mS b0 s H locs → lv_has ls 6 [(0, .ref v0), (1, .ref v1), (2, .int v2), (3, .int v3), (4, .int v4)] → W p l e ({ frames := 2, cells := 0, slots := 0, locals := 49 } : Room) s m args below meth c H locs 0 0 (MQ below (QW D b0 none res sz) args s 0 0 (fun q => b0 ≤ q)) (F0 m 8 ls [])) : ∀ (v0 : Nat) (v1 : Nat) (v2 : Int32) (v3 : Int32) (v4 : Int32) (f : mmF), f_X2_explain_55 k8 v0 v1 v2 v3 v4 f = some res → ∀ (H : Heap) (locs : List Loc) (ls : Array Slot), MM vwCl D b0 f sz s H → mS b0 s H locs → lv_has ls 6 [(0, .ref v0), (1, .ref v1), (2, .int v2), (3, .int v3), (4, .int v4)] → W p l e ({ frames := 2, cells := 0, slots := 0, locals := 49 } : Room) s m args below meth c H locs 0 0 (MQ below (QW D b0 none res sz) args s 0 0 (fun q => b0 ≤ q)) (F0 m 55 ls []) := by
  obtain ⟨hx, hb, hr, hml, hown, hts, hlocks, hK⟩ := id C0
  intro v0 v1 v2 v3 v4 f h H locs ls hM hS hl
  unfold f_X2_explain_55 at h
  refine lv_iinc (v := (v4 + (-1 : Int32))) (lv' := [(4, .int (v4 + (-1 : Int32))), (0, .ref v0), (1, .ref v1), (2, .int v2), (3, .int v3)]) hx hb dX2_explain_55 hl (k := 4) rfl rfl (by decide) rfl (fun ls hl => ?_)
  refine lv_goto (tgt := 8) hx hb dX2_explain_58 (by decide) ?_
  exact hk8 _ _ _ _ _ _ h _ _ _ hM hS (lv_sub hl [1, 2, 3, 4, 0] rfl)
set_option maxHeartbeats 4000000 in
set_option maxRecDepth 100000 in
theorem w_X2_explain_8 (C0 : CX cX2_explain 6 none wsX2_explain RX2 p s m args meth c D b0) {res : mmF} : ∀ (n : Nat), ∀ (v0 : Nat) (v1 : Nat) (v2 : Int32) (v3 : Int32) (v4 : Int32) (f : mmF), f_X2_explain_8 n v0 v1 v2 v3 v4 f = some res → ∀ (H : Heap) (locs : List Loc) (ls : Array Slot), MM vwCl D b0 f sz s H → mS b0 s H locs → lv_has ls 6 [(0, .ref v0), (1, .ref v1), (2, .int v2), (3, .int v3), (4, .int v4)] → W p l e ({ frames := 2, cells := 0, slots := 0, locals := 49 } : Room) s m args below meth c H locs 0 0 (MQ below (QW D b0 none res sz) args s 0 0 (fun q => b0 ≤ q)) (F0 m 8 ls []) := by
  obtain ⟨hx, hb, hr, hml, hown, hts, hlocks, hK⟩ := id C0
  intro n
  induction n with
  | zero =>
    intro v0 v1 v2 v3 v4 f h
    have h : (none : Option (mmF)) = some res := h
    cases h
  | succ n ih =>
    intro v0 v1 v2 v3 v4 f h H locs ls hM hS hl
    rw [f_X2_explain_8] at h
    refine lv_iload hx hb dX2_explain_8 (lv_at hl 4 rfl) ?_
    refine lv_iload_n hx hb dX2_explain_10 rfl (lv_at hl 3 rfl) ?_
    refine lv_icmp_lt (tgt := 61) hx hb dX2_explain_11 (by decide) (fun c11 => ?_) (fun c11 => ?_)
    · replace h := o_t c11 h
      replace h := Option.some.inj h; subst h
      exact W.vret hx hb hr (fun t ht hW => ⟨rfl, by rw [ht]; exact hM.moved hW.alike, hS.F ht⟩) hS.2.2 dX2_explain_61
    replace h := o_f c11 h
    refine lv_iload hx hb dX2_explain_14 (lv_at hl 4 rfl) ?_
    refine lv_if_lt (tgt := 61) hx hb dX2_explain_16 (by decide) (fun c16 => ?_) (fun c16 => ?_)
    · replace h := o_t c16 h
      replace h := Option.some.inj h; subst h
      exact W.vret hx hb hr (fun t ht hW => ⟨rfl, by rw [ht]; exact hM.moved hW.alike, hS.F ht⟩) hS.2.2 dX2_explain_61
    replace h := o_f c16 h
    refine lv_aload_n hx hb dX2_explain_19 rfl (lv_at hl 0 rfl) ?_
    refine lv_iload hx hb dX2_explain_20 (lv_at hl 4 rfl) ?_
    replace h := o_b h; obtain ⟨_, k22, h⟩ := h
    replace h := o_b h; obtain ⟨q22, h22, h⟩ := h
    refine m_call (va_runV (As := [.int v4]) (rest := []) ⟨hx, hb, hml, hown, hts⟩ (c_X2_part l D b0 sz h22) (cwV 1 hts gX2_explain_X2_part rfl rfl rfl (by decide +kernel) ⟨Nat.le_of_ble_eq_true rfl, Nat.le_of_ble_eq_true rfl⟩) ⟨PW.blind, m_recv (ci := 2) rfl hK hM k22, (fun U hU hW => ⟨rfl, PW.call hK hM hS hU hW⟩)⟩ rfl rfl hl.1 rfl (lv_room (Nat.le_of_ble_eq_true rfl)) dX2_explain_22 ⟨(Nat.le_refl _), (Nat.le_refl _)⟩) hS (fun H locs hM hS => ?_)
    refine lv_istore (lv' := [(5, .int q22), (0, .ref v0), (1, .ref v1), (2, .int v2), (3, .int v3), (4, .int v4)]) hx hb dX2_explain_25 hl (by decide) rfl (fun ls hl => ?_)
    refine lv_aload_n hx hb dX2_explain_27 rfl (lv_at hl 2 rfl) ?_
    refine lv_iload_n hx hb dX2_explain_28 rfl (lv_at hl 3 rfl) ?_
    refine lv_iload hx hb dX2_explain_29 (lv_at hl 0 rfl) ?_
    replace h := o_b h; obtain ⟨_, k31, h⟩ := h
    replace h := o_b h; obtain ⟨q31, h31, h⟩ := h
    refine m_call (va_runV (As := [.int v2, .int q22]) (rest := []) ⟨hx, hb, hml, hown, hts⟩ (c_X3_has l D b0 sz h31) (cwV 2 hts gX2_explain_X3_has rfl rfl rfl (by decide +kernel) ⟨Nat.le_of_ble_eq_true rfl, Nat.le_of_ble_eq_true rfl⟩) ⟨PW.blind, m_recv (ci := 3) rfl hK hM k31, (fun U hU hW => ⟨rfl, PW.call hK hM hS hU hW⟩)⟩ rfl rfl hl.1 rfl (lv_room (Nat.le_of_ble_eq_true rfl)) dX2_explain_31 ⟨(Nat.le_refl _), (Nat.le_refl _)⟩) hS (fun H locs hM hS => ?_)
    refine lv_if_eq (tgt := 55) hx hb dX2_explain_34 (by decide) (fun c34 => ?_) (fun c34 => ?_)
    · replace h := o_t c34 h
      exact w_X2_explain_55 C0 ih _ _ _ _ _ _ h _ _ _ hM hS (lv_sub hl [1, 2, 3, 4, 5] rfl)
    replace h := o_f c34 h
    refine lv_aload_n hx hb dX2_explain_37 rfl (lv_at hl 2 rfl) ?_
    refine lv_iload_n hx hb dX2_explain_38 rfl (lv_at hl 3 rfl) ?_
    refine lv_iload hx hb dX2_explain_39 (lv_at hl 0 rfl) ?_
    replace h := o_b h; obtain ⟨_, k41, h⟩ := h
    replace h := o_b h; obtain ⟨q41, h41, h⟩ := h
    refine m_call (va_runV (As := [.int v2, .int q22]) (rest := []) ⟨hx, hb, hml, hown, hts⟩ (c_X3_remove l D b0 sz h41) (cwV 2 hts gX2_explain_X3_remove rfl rfl rfl (by decide +kernel) ⟨Nat.le_of_ble_eq_true rfl, Nat.le_of_ble_eq_true rfl⟩) ⟨PW.blind, m_recv (ci := 3) rfl hK hM k41, (fun U hU hW => ⟨rfl, PW.call hK hM hS hU hW⟩)⟩ rfl rfl hl.1 rfl (lv_room (Nat.le_of_ble_eq_true rfl)) dX2_explain_41 ⟨(Nat.le_refl _), (Nat.le_refl _)⟩) hS (fun H locs hM hS => ?_)
    refine lv_aload_n hx hb dX2_explain_44 rfl (lv_at hl 2 rfl) ?_
    refine lv_iload_n hx hb dX2_explain_45 rfl (lv_at hl 3 rfl) ?_
    refine lv_aload_n hx hb dX2_explain_46 rfl (lv_at hl 1 rfl) ?_
    replace h := o_b h; obtain ⟨x47, h47, h⟩ := h
    refine m_get (C := RX2) (T := TX2) (N := 5) (ci := 2) hx hb hts qi_X2_explain_X2 hown hK.1 hM 4 (ldR_F h47) rfl (by decide) (hts _ q_X2_explain_1) (fun _ h9 => h9) dX2_explain_47 ?_
    refine lv_iload hx hb dX2_explain_50 (lv_at hl 0 rfl) ?_
    replace h := o_b h; obtain ⟨_, k52, h⟩ := h
    replace h := o_b h; obtain ⟨q52, h52, h⟩ := h
    refine m_call (va_runV (As := [.int v2, .ref x47, .int q22]) (rest := []) ⟨hx, hb, hml, hown, hts⟩ (c_X3_unite l D b0 sz h52) (cwV 3 hts gX2_explain_X3_unite rfl rfl rfl (by decide +kernel) ⟨Nat.le_of_ble_eq_true rfl, Nat.le_of_ble_eq_true rfl⟩) ⟨PW.blind, m_recv (ci := 3) rfl hK hM k52, (fun U hU hW => ⟨rfl, PW.call hK hM hS hU hW⟩)⟩ rfl rfl hl.1 rfl (lv_room (Nat.le_of_ble_eq_true rfl)) dX2_explain_52 ⟨(Nat.le_refl _), (Nat.le_refl _)⟩) hS (fun H locs hM hS => ?_)
    exact w_X2_explain_55 C0 ih _ _ _ _ _ _ h _ _ _ hM hS (lv_sub hl [1, 2, 3, 4, 5] rfl)
set_option maxHeartbeats 4000000 in
set_option maxRecDepth 100000 in
theorem w_X2_explain (C0 : CX cX2_explain 6 none wsX2_explain RX2 p s m args meth c D b0) {v0 : Nat} {v1 : Nat} {v2 : Int32} {v3 : Int32} {res : mmF} (h : f_X2_explain v0 v1 v2 v3 f = some res) : ∀ (H : Heap) (locs : List Loc) (ls : Array Slot), MM vwCl D b0 f sz s H → mS b0 s H locs → lv_has ls 6 [(0, .ref v0), (1, .ref v1), (2, .int v2), (3, .int v3)] → W p l e ({ frames := 2, cells := 0, slots := 0, locals := 49 } : Room) s m args below meth c H locs 0 0 (MQ below (QW D b0 none res sz) args s 0 0 (fun q => b0 ≤ q)) (F0 m 0 ls []) := by
  obtain ⟨hx, hb, hr, hml, hown, hts, hlocks, hK⟩ := id C0
  intro H locs ls hM hS hl
  unfold f_X2_explain at h
  refine lv_aload_n hx hb dX2_explain_0 rfl (lv_at hl 0 rfl) ?_
  replace h := o_b h; obtain ⟨x1, h1, h⟩ := h
  refine m_get (C := RX2) (T := TX2) (N := 5) (ci := 2) hx hb hts qi_X2_explain_X2 hown hK.1 hM 0 (ldI_F h1) rfl (by decide) (hts _ q_X2_explain_2) (fun _ h9 => h9) dX2_explain_1 ?_
  refine lv_iconst (v := (1 : Int32)) hx hb dX2_explain_4 (by decide) ?_
  refine lv_isub hx hb dX2_explain_5 ?_
  refine lv_istore (lv' := [(4, .int (x1 - (1 : Int32))), (0, .ref v0), (1, .ref v1), (2, .int v2), (3, .int v3)]) hx hb dX2_explain_6 hl (by decide) rfl (fun ls hl => ?_)
  exact w_X2_explain_8 C0 FU _ _ _ _ _ _ h _ _ _ hM hS (lv_sub hl [1, 2, 3, 4, 0] rfl)
set_option maxHeartbeats 4000000 in
set_option maxRecDepth 100000 in
theorem c_X2_explain (l : Launch) (D : mmD) (b0 sz : Nat) {v0 : Nat} {v1 : Nat} {v2 : Int32} {v3 : Int32} {f : mmF} {res : mmF} (h : f_X2_explain v0 v1 v2 v3 f = some res) : Met l yX2_explain wsX2_explain ({ frames := 2, cells := 0, slots := 0, locals := 49 } : Room) (va_Pc [.ref v0, .ref v1, .int v2, .int v3] (PW D b0 f sz)) (QW D b0 none res sz) 0 0 (fun q => b0 ≤ q) := by
  refine Met.ofW (cc := cX2_explain) (maxL := 6) (ret := none) (by decide) rfl ?_
  intro p e s m args below meth c s₁ B hml hv
  obtain ⟨rfl, hM, hK⟩ := hv
  have hl := lv_entry ([.ref v0, .ref v1, .int v2, .int v3]) (n := 6) (Nat.le_of_ble_eq_true rfl)
  rw [lg_entry_eq]
  generalize (lg_sl ([.ref v0, .ref v1, .int v2, .int v3]) ++ List.replicate (6 - (lg_sl ([.ref v0, .ref v1, .int v2, .int v3])).length) Slot.unset).toArray = ls at hl ⊢
  have hl : lv_has ls 6 [(0, .ref v0), (1, .ref v1), (2, .int v2), (3, .int v3)] := hl
  exact w_X2_explain ⟨B.exec, B.bytes, B.returns, hml, findClass_of_methodNamed B.named, atoms_spec (ws := wsX2_explain) B.pre, B.notSynchronized, hK⟩ h s.heap [] ls hM va_S.rf hl
end S_X2_explain
/-! X4_isIf -/
set_option maxRecDepth 20000 in
theorem qi_X4_isIf_X4 : ∀ w ∈ u_ws RX4 TX4 8, w ∈ wsX4_isIf := by decide +kernel
set_option maxRecDepth 20000 in
theorem q_X4_isIf_1 : Cond.fieldLink RX4 11 "StageTruths$Parts" "size" "I" ∈ wsX4_isIf := by decide +kernel
set_option maxRecDepth 20000 in
theorem q_X4_isIf_2 : Cond.fieldLink RX4 15 "StageTruths$Parts" "kinds" "[I" ∈ wsX4_isIf := by decide +kernel
noncomputable def f_X4_isIf (v0 : Nat) (v1 : Int32) (f : mmF) : Option (Int32) :=
  if v1 < 0 then
  (some ((0 : Int32)))
  else
  (ldI f v0 4 0).bind fun x6 =>
  if x6 ≤ v1 then
  (some ((0 : Int32)))
  else
  (ldR f v0 4 1).bind fun x13 =>
  (ldA 0 f x13 v1).bind fun x17 =>
  if x17 = (9 : Int32) then
  (some ((1 : Int32)))
  else
  (ldR f v0 4 1).bind fun x24 =>
  (ldA 0 f x24 v1).bind fun x28 =>
  if x28 = (6 : Int32) then
  (some ((1 : Int32)))
  else
  some ((0 : Int32))
section S_X4_isIf
variable {p : Program} {l : Launch} {e : Env} {s : State} {m : MethodId} {args : Array Value} {below : List Frame} {meth : Method} {c : Code} {D : mmD} {b0 sz : Nat} {f : mmF}
set_option maxHeartbeats 4000000 in
set_option maxRecDepth 100000 in
theorem w_X4_isIf (C0 : CX cX4_isIf 2 (some .boolean) wsX4_isIf RX4 p s m args meth c D b0) {v0 : Nat} {v1 : Int32} {res : Int32} (h : f_X4_isIf v0 v1 f = some res) : ∀ (H : Heap) (locs : List Loc) (ls : Array Slot), MM vwCl D b0 f sz s H → mS b0 s H locs → lv_has ls 2 [(0, .ref v0), (1, .int v1)] → W p l e ({ frames := 0, cells := 0, slots := 0, locals := 0 } : Room) s m args below meth c H locs 0 0 (MQ below (QW D b0 (some (.int res)) f sz) args s 0 0 (fun q => b0 ≤ q)) (F0 m 0 ls []) := by
  obtain ⟨hx, hb, hr, hml, hown, hts, hlocks, hK⟩ := id C0
  intro H locs ls hM hS hl
  unfold f_X4_isIf at h
  refine lv_iload_n hx hb dX4_isIf_0 rfl (lv_at hl 1 rfl) ?_
  refine lv_if_lt (tgt := 38) hx hb dX4_isIf_1 (by decide) (fun c1 => ?_) (fun c1 => ?_)
  · replace h := o_t c1 h
    refine lv_iconst (v := (0 : Int32)) hx hb dX4_isIf_38 (by decide) ?_
    replace h := Option.some.inj h; subst h
    exact W.zret hx hb hr rfl (fun t ht hW => ⟨rfl, by rw [ht]; exact hM.moved hW.alike, hS.F ht⟩) hS.2.2 dX4_isIf_39
  replace h := o_f c1 h
  refine lv_iload_n hx hb dX4_isIf_4 rfl (lv_at hl 1 rfl) ?_
  refine lv_aload_n hx hb dX4_isIf_5 rfl (lv_at hl 0 rfl) ?_
  replace h := o_b h; obtain ⟨x6, h6, h⟩ := h
  refine m_get (C := RX4) (T := TX4) (N := 8) (ci := 4) hx hb hts qi_X4_isIf_X4 hown hK.1 hM 0 (ldI_F h6) rfl (by decide) (hts _ q_X4_isIf_1) (fun _ h9 => h9) dX4_isIf_6 ?_
  refine lv_icmp_ge (tgt := 38) hx hb dX4_isIf_9 (by decide) (fun c9 => ?_) (fun c9 => ?_)
  · replace h := o_t c9 h
    refine lv_iconst (v := (0 : Int32)) hx hb dX4_isIf_38 (by decide) ?_
    replace h := Option.some.inj h; subst h
    exact W.zret hx hb hr rfl (fun t ht hW => ⟨rfl, by rw [ht]; exact hM.moved hW.alike, hS.F ht⟩) hS.2.2 dX4_isIf_39
  replace h := o_f c9 h
  refine lv_aload_n hx hb dX4_isIf_12 rfl (lv_at hl 0 rfl) ?_
  replace h := o_b h; obtain ⟨x13, h13, h⟩ := h
  refine m_get (C := RX4) (T := TX4) (N := 8) (ci := 4) hx hb hts qi_X4_isIf_X4 hown hK.1 hM 1 (ldR_F h13) rfl (by decide) (hts _ q_X4_isIf_2) (fun _ h9 => h9) dX4_isIf_13 ?_
  refine lv_iload_n hx hb dX4_isIf_16 rfl (lv_at hl 1 rfl) ?_
  replace h := o_b h; obtain ⟨x17, h17, h⟩ := h
  refine m_iald hx hb hK.1 hM hS rfl h17 dX4_isIf_17 ?_
  refine lv_bipush (v := (9 : Int32)) hx hb dX4_isIf_18 (by decide) ?_
  refine lv_icmp_eq (tgt := 34) hx hb dX4_isIf_20 (by decide) (fun c20 => ?_) (fun c20 => ?_)
  · replace h := o_t c20 h
    refine lv_iconst (v := (1 : Int32)) hx hb dX4_isIf_34 (by decide) ?_
    refine lv_goto (tgt := 39) hx hb dX4_isIf_35 (by decide) ?_
    replace h := Option.some.inj h; subst h
    exact W.zret hx hb hr rfl (fun t ht hW => ⟨rfl, by rw [ht]; exact hM.moved hW.alike, hS.F ht⟩) hS.2.2 dX4_isIf_39
  replace h := o_f c20 h
  refine lv_aload_n hx hb dX4_isIf_23 rfl (lv_at hl 0 rfl) ?_
  replace h := o_b h; obtain ⟨x24, h24, h⟩ := h
  refine m_get (C := RX4) (T := TX4) (N := 8) (ci := 4) hx hb hts qi_X4_isIf_X4 hown hK.1 hM 1 (ldR_F h24) rfl (by decide) (hts _ q_X4_isIf_2) (fun _ h9 => h9) dX4_isIf_24 ?_
  refine lv_iload_n hx hb dX4_isIf_27 rfl (lv_at hl 1 rfl) ?_
  replace h := o_b h; obtain ⟨x28, h28, h⟩ := h
  refine m_iald hx hb hK.1 hM hS rfl h28 dX4_isIf_28 ?_
  refine lv_bipush (v := (6 : Int32)) hx hb dX4_isIf_29 (by decide) ?_
  refine lv_icmp_ne (tgt := 38) hx hb dX4_isIf_31 (by decide) (fun c31 => ?_) (fun c31 => ?_)
  · replace h := o_f c31 h
    refine lv_iconst (v := (0 : Int32)) hx hb dX4_isIf_38 (by decide) ?_
    replace h := Option.some.inj h; subst h
    exact W.zret hx hb hr rfl (fun t ht hW => ⟨rfl, by rw [ht]; exact hM.moved hW.alike, hS.F ht⟩) hS.2.2 dX4_isIf_39
  replace h := o_t c31 h
  refine lv_iconst (v := (1 : Int32)) hx hb dX4_isIf_34 (by decide) ?_
  refine lv_goto (tgt := 39) hx hb dX4_isIf_35 (by decide) ?_
  replace h := Option.some.inj h; subst h
  exact W.zret hx hb hr rfl (fun t ht hW => ⟨rfl, by rw [ht]; exact hM.moved hW.alike, hS.F ht⟩) hS.2.2 dX4_isIf_39
set_option maxHeartbeats 4000000 in
set_option maxRecDepth 100000 in
theorem c_X4_isIf (l : Launch) (D : mmD) (b0 sz : Nat) {v0 : Nat} {v1 : Int32} {f : mmF} {res : Int32} (h : f_X4_isIf v0 v1 f = some res) : Met l yX4_isIf wsX4_isIf ({ frames := 0, cells := 0, slots := 0, locals := 0 } : Room) (va_Pc [.ref v0, .int v1] (PW D b0 f sz)) (QW D b0 (some (.int res)) f sz) 0 0 (fun q => b0 ≤ q) := by
  refine Met.ofW (cc := cX4_isIf) (maxL := 2) (ret := (some .boolean)) (by decide) rfl ?_
  intro p e s m args below meth c s₁ B hml hv
  obtain ⟨rfl, hM, hK⟩ := hv
  have hl := lv_entry ([.ref v0, .int v1]) (n := 2) (Nat.le_of_ble_eq_true rfl)
  rw [lg_entry_eq]
  generalize (lg_sl ([.ref v0, .int v1]) ++ List.replicate (2 - (lg_sl ([.ref v0, .int v1])).length) Slot.unset).toArray = ls at hl ⊢
  have hl : lv_has ls 2 [(0, .ref v0), (1, .int v1)] := hl
  exact w_X4_isIf ⟨B.exec, B.bytes, B.returns, hml, findClass_of_methodNamed B.named, atoms_spec (ws := wsX4_isIf) B.pre, B.notSynchronized, hK⟩ h s.heap [] ls hM va_S.rf hl
end S_X4_isIf
/-! X2_grows -/
set_option maxRecDepth 20000 in
theorem qi_X2_grows_X2 : ∀ w ∈ u_ws RX2 TX2 5, w ∈ wsX2_grows := by decide +kernel
set_option maxRecDepth 20000 in
theorem q_X2_grows_1 : Cond.fieldLink RX2 33 "StageTruths$Known" "parts" "LStageTruths$Parts;" ∈ wsX2_grows := by decide +kernel
set_option maxRecDepth 20000 in
theorem qi_X2_grows_X4 : ∀ w ∈ u_ws RX4 TX4 8, w ∈ wsX2_grows := by decide +kernel
set_option maxRecDepth 20000 in
theorem q_X2_grows_3 : Cond.fieldLink RX2 78 "StageTruths$Parts" "kinds" "[I" ∈ wsX2_grows := by decide +kernel
set_option maxRecDepth 20000 in
theorem q_X2_grows_4 : Cond.initialized RX9 ∈ wsX2_grows := by decide +kernel
set_option maxRecDepth 20000 in
theorem q_X2_grows_5 : Cond.static yX9_at ∈ wsX2_grows := by decide +kernel
set_option maxRecDepth 20000 in
theorem q_X2_grows_6 : Cond.fieldLink RX2 81 "StageTruths$Parts" "left" "[I" ∈ wsX2_grows := by decide +kernel
set_option maxRecDepth 20000 in
theorem q_X2_grows_7 : Cond.fieldLink RX2 84 "StageTruths$Parts" "right" "[I" ∈ wsX2_grows := by decide +kernel
set_option maxRecDepth 20000 in
theorem q_X2_grows_8 : Cond.fieldLink RX2 20 "StageTruths$Known" "set" "LStageTruths$PartSets;" ∈ wsX2_grows := by decide +kernel
noncomputable def f_X2_grows_197   (v0 : Nat) (v1 : Int32) (v3 : Int32) (v4 : Int32) (v5 : Int32) (v6 : Int32) (f : mmF) : Option (Int32 × mmF) :=
  (ldR f v0 2 2).bind fun x198 =>
  (ckO f x198 4).bind fun _ =>
  (f_X4_isIf x198 v1 f).bind fun q202 =>
  if q202 = 0 then
  (some ((0 : Int32), f))
  else
  if v5 = 0 then
  (some ((0 : Int32), f))
  else
  if v6 = 0 then
  ((ckO f v0 2).bind fun _ =>
  (f_X2_infer v0 v4 v1 v3 f).bind fun q223 =>
  some ((1 : Int32), q223))
  else
  some ((0 : Int32), f)
noncomputable def f_X2_grows_180   (v0 : Nat) (v1 : Int32) (v3 : Int32) (v4 : Int32) (f : mmF) : Option (Int32 × mmF) :=
  (ckO f v0 2).bind fun _ =>
  (f_X2_infer v0 v3 v1 v1 f).bind fun q184 =>
  (ckO q184 v0 2).bind fun _ =>
  (f_X2_infer v0 v4 v1 v1 q184).bind fun q192 =>
  some ((1 : Int32), q192)
noncomputable def f_X2_grows_157   (t0 : Nat) (t1 : Int32) (t2 : Int32) (t3 : Int32) (f : mmF) : Option (Int32 × mmF) :=
  (ckO f t0 2).bind fun _ =>
  (f_X2_infer t0 t1 t2 t3 f).bind fun q157 =>
  some ((1 : Int32), q157)
noncomputable def f_X2_grows_155   (v4 : Int32) (t0 : Nat) (t1 : Int32) (t2 : Int32) (f : mmF) : Option (Int32 × mmF) :=
  f_X2_grows_157 t0 t1 t2 v4 f
noncomputable def f_X2_grows_140   (v2 : Int32) (v3 : Int32) (v4 : Int32) (v5 : Int32) (t0 : Nat) (t1 : Int32) (t2 : Int32) (f : mmF) : Option (Int32 × mmF) :=
  if v2 = (8 : Int32) then
  (if v5 = 0 then
  (f_X2_grows_155 v4 t0 t1 t2 f)
  else
  f_X2_grows_157 t0 t1 t2 v3 f)
  else
  f_X2_grows_155 v4 t0 t1 t2 f
noncomputable def f_X2_grows_134   (v2 : Int32) (v3 : Int32) (v4 : Int32) (v5 : Int32) (t0 : Nat) (t1 : Int32) (f : mmF) : Option (Int32 × mmF) :=
  f_X2_grows_140 v2 v3 v4 v5 t0 t1 v3 f
noncomputable def f_X2_grows_138   (v2 : Int32) (v3 : Int32) (v4 : Int32) (v5 : Int32) (t0 : Nat) (t1 : Int32) (f : mmF) : Option (Int32 × mmF) :=
  f_X2_grows_140 v2 v3 v4 v5 t0 t1 v4 f
noncomputable def f_X2_grows_115   (v0 : Nat) (v1 : Int32) (v2 : Int32) (v3 : Int32) (v4 : Int32) (v5 : Int32) (f : mmF) : Option (Int32 × mmF) :=
  if v2 = (7 : Int32) then
  (f_X2_grows_134 v2 v3 v4 v5 v0 v1 f)
  else
  if v2 = (8 : Int32) then
  (if v5 = 0 then
  (f_X2_grows_138 v2 v3 v4 v5 v0 v1 f)
  else
  f_X2_grows_134 v2 v3 v4 v5 v0 v1 f)
  else
  f_X2_grows_138 v2 v3 v4 v5 v0 v1 f
noncomputable def f_X2_grows (v0 : Nat) (v1 : Int32) (f : mmF) : Option (Int32 × mmF) :=
  (ldR f v0 2 2).bind fun x1 =>
  (ldR f x1 4 1).bind fun x4 =>
  (f_X9_at x4 v1 f).bind fun q8 =>
  (ldR f v0 2 2).bind fun x13 =>
  (ldR f x13 4 2).bind fun x16 =>
  (f_X9_at x16 v1 f).bind fun q20 =>
  (ldR f v0 2 2).bind fun x25 =>
  (ldR f x25 4 3).bind fun x28 =>
  (f_X9_at x28 v1 f).bind fun q32 =>
  (ldR f v0 2 1).bind fun x38 =>
  (ckO f x38 3).bind fun _ =>
  (f_X3_has x38 (0 : Int32) q20 f).bind fun q43 =>
  (ldR f v0 2 1).bind fun x49 =>
  (ckO f x49 3).bind fun _ =>
  (f_X3_has x49 (0 : Int32) q32 f).bind fun q55 =>
  (ldR f v0 2 1).bind fun x61 =>
  (ckO f x61 3).bind fun _ =>
  (f_X3_has x61 (0 : Int32) v1 f).bind fun q66 =>
  if q66 = 0 then
  (if q8 = (7 : Int32) then
  (if q43 = 0 then
  (some ((0 : Int32), f))
  else
  if q55 = 0 then
  (some ((0 : Int32), f))
  else
  f_X2_grows_115 v0 v1 q8 q20 q32 q43 f)
  else
  if q8 = (8 : Int32) then
  (if q43 = 0 then
  (if q55 = 0 then
  (some ((0 : Int32), f))
  else
  f_X2_grows_115 v0 v1 q8 q20 q32 q43 f)
  else
  f_X2_grows_115 v0 v1 q8 q20 q32 q43 f)
  else
  if q55 = 0 then
  (some ((0 : Int32), f))
  else
  f_X2_grows_115 v0 v1 q8 q20 q32 q43 f)
  else
  if q8 = (7 : Int32) then
  (if q43 = 0 then
  (f_X2_grows_180 v0 v1 q20 q32 f)
  else
  if q55 = 0 then
  (f_X2_grows_180 v0 v1 q20 q32 f)
  else
  f_X2_grows_197 v0 v1 q20 q32 q43 q55 f)
  else
  f_X2_grows_197 v0 v1 q20 q32 q43 q55 f
section S_X2_grows
variable {p : Program} {l : Launch} {e : Env} {s : State} {m : MethodId} {args : Array Value} {below : List Frame} {meth : Method} {c : Code} {D : mmD} {b0 sz : Nat} {f : mmF}
set_option maxHeartbeats 4000000 in
set_option maxRecDepth 100000 in
theorem w_X2_grows_197 (C0 : CX cX2_grows 7 (some .boolean) wsX2_grows RX2 p s m args meth c D b0) {res : Int32 × mmF} : ∀ (v0 : Nat) (v1 : Int32) (v3 : Int32) (v4 : Int32) (v5 : Int32) (v6 : Int32) (f : mmF), f_X2_grows_197 v0 v1 v3 v4 v5 v6 f = some res → ∀ (H : Heap) (locs : List Loc) (ls : Array Slot), MM vwCl D b0 f sz s H → mS b0 s H locs → lv_has ls 7 [(0, .ref v0), (1, .int v1), (3, .int v3), (4, .int v4), (5, .int v5), (6, .int v6)] → W p l e ({ frames := 2, cells := 0, slots := 0, locals := 47 } : Room) s m args below meth c H locs 0 0 (MQ below (QW D b0 (some (.int res.1)) res.2 sz) args s 0 0 (fun q => b0 ≤ q)) (F0 m 197 ls []) := by
  obtain ⟨hx, hb, hr, hml, hown, hts, hlocks, hK⟩ := id C0
  intro v0 v1 v3 v4 v5 v6 f h H locs ls hM hS hl
  unfold f_X2_grows_197 at h
  refine lv_aload_n hx hb dX2_grows_197 rfl (lv_at hl 0 rfl) ?_
  replace h := o_b h; obtain ⟨x198, h198, h⟩ := h
  refine m_get (C := RX2) (T := TX2) (N := 5) (ci := 2) hx hb hts qi_X2_grows_X2 hown hK.1 hM 2 (ldR_F h198) rfl (by decide) (hts _ q_X2_grows_1) (fun _ h9 => h9) dX2_grows_198 ?_
  refine lv_iload_n hx hb dX2_grows_201 rfl (lv_at hl 1 rfl) ?_
  replace h := o_b h; obtain ⟨_, k202, h⟩ := h
  replace h := o_b h; obtain ⟨q202, h202, h⟩ := h
  refine m_call (va_runV (As := [.int v1]) (rest := []) ⟨hx, hb, hml, hown, hts⟩ (c_X4_isIf l D b0 sz h202) (cwV 1 hts gX2_grows_X4_isIf rfl rfl rfl (by decide +kernel) ⟨Nat.le_of_ble_eq_true rfl, Nat.le_of_ble_eq_true rfl⟩) ⟨PW.blind, m_recv (ci := 4) rfl hK hM k202, (fun U hU hW => ⟨rfl, PW.call hK hM hS hU hW⟩)⟩ rfl rfl hl.1 rfl (lv_room (Nat.le_of_ble_eq_true rfl)) dX2_grows_202 ⟨(Nat.le_refl _), (Nat.le_refl _)⟩) hS (fun H locs hM hS => ?_)
  refine lv_if_eq (tgt := 228) hx hb dX2_grows_205 (by decide) (fun c205 => ?_) (fun c205 => ?_)
  · replace h := o_t c205 h
    refine lv_iconst (v := (0 : Int32)) hx hb dX2_grows_228 (by decide) ?_
    replace h := Option.some.inj h; subst h
    exact W.zret hx hb hr rfl (fun t ht hW => ⟨rfl, by rw [ht]; exact hM.moved hW.alike, hS.F ht⟩) hS.2.2 dX2_grows_229
  replace h := o_f c205 h
  refine lv_iload hx hb dX2_grows_208 (lv_at hl 4 rfl) ?_
  refine lv_if_eq (tgt := 228) hx hb dX2_grows_210 (by decide) (fun c210 => ?_) (fun c210 => ?_)
  · replace h := o_t c210 h
    refine lv_iconst (v := (0 : Int32)) hx hb dX2_grows_228 (by decide) ?_
    replace h := Option.some.inj h; subst h
    exact W.zret hx hb hr rfl (fun t ht hW => ⟨rfl, by rw [ht]; exact hM.moved hW.alike, hS.F ht⟩) hS.2.2 dX2_grows_229
  replace h := o_f c210 h
  refine lv_iload hx hb dX2_grows_213 (lv_at hl 5 rfl) ?_
  refine lv_if_ne (tgt := 228) hx hb dX2_grows_215 (by decide) (fun c215 => ?_) (fun c215 => ?_)
  · replace h := o_f c215 h
    refine lv_iconst (v := (0 : Int32)) hx hb dX2_grows_228 (by decide) ?_
    replace h := Option.some.inj h; subst h
    exact W.zret hx hb hr rfl (fun t ht hW => ⟨rfl, by rw [ht]; exact hM.moved hW.alike, hS.F ht⟩) hS.2.2 dX2_grows_229
  replace h := o_t c215 h
  refine lv_aload_n hx hb dX2_grows_218 rfl (lv_at hl 0 rfl) ?_
  refine lv_iload hx hb dX2_grows_219 (lv_at hl 3 rfl) ?_
  refine lv_iload_n hx hb dX2_grows_221 rfl (lv_at hl 1 rfl) ?_
  refine lv_iload_n hx hb dX2_grows_222 rfl (lv_at hl 2 rfl) ?_
  replace h := o_b h; obtain ⟨_, k223, h⟩ := h
  replace h := o_b h; obtain ⟨q223, h223, h⟩ := h
  refine m_call (va_runV (As := [.int v4, .int v1, .int v3]) (rest := []) ⟨hx, hb, hml, hown, hts⟩ (c_X2_infer l D b0 sz h223) (cwV 3 hts gX2_grows_X2_infer rfl rfl rfl (by decide +kernel) ⟨Nat.le_of_ble_eq_true rfl, Nat.le_of_ble_eq_true rfl⟩) ⟨PW.blind, m_recv (ci := 2) rfl hK hM k223, (fun U hU hW => ⟨rfl, PW.call hK hM hS hU hW⟩)⟩ rfl rfl hl.1 rfl (lv_room (Nat.le_of_ble_eq_true rfl)) dX2_grows_223 ⟨(Nat.le_refl _), (Nat.le_refl _)⟩) hS (fun H locs hM hS => ?_)
  refine lv_iconst (v := (1 : Int32)) hx hb dX2_grows_226 (by decide) ?_
  replace h := Option.some.inj h; subst h
  exact W.zret hx hb hr rfl (fun t ht hW => ⟨rfl, by rw [ht]; exact hM.moved hW.alike, hS.F ht⟩) hS.2.2 dX2_grows_227
set_option maxHeartbeats 4000000 in
set_option maxRecDepth 100000 in
theorem w_X2_grows_180 (C0 : CX cX2_grows 7 (some .boolean) wsX2_grows RX2 p s m args meth c D b0) {res : Int32 × mmF} : ∀ (v0 : Nat) (v1 : Int32) (v3 : Int32) (v4 : Int32) (f : mmF), f_X2_grows_180 v0 v1 v3 v4 f = some res → ∀ (H : Heap) (locs : List Loc) (ls : Array Slot), MM vwCl D b0 f sz s H → mS b0 s H locs → lv_has ls 7 [(0, .ref v0), (1, .int v1), (3, .int v3), (4, .int v4)] → W p l e ({ frames := 2, cells := 0, slots := 0, locals := 47 } : Room) s m args below meth c H locs 0 0 (MQ below (QW D b0 (some (.int res.1)) res.2 sz) args s 0 0 (fun q => b0 ≤ q)) (F0 m 180 ls []) := by
  obtain ⟨hx, hb, hr, hml, hown, hts, hlocks, hK⟩ := id C0
  intro v0 v1 v3 v4 f h H locs ls hM hS hl
  unfold f_X2_grows_180 at h
  refine lv_aload_n hx hb dX2_grows_180 rfl (lv_at hl 0 rfl) ?_
  refine lv_iload_n hx hb dX2_grows_181 rfl (lv_at hl 2 rfl) ?_
  refine lv_iload_n hx hb dX2_grows_182 rfl (lv_at hl 1 rfl) ?_
  refine lv_iload_n hx hb dX2_grows_183 rfl (lv_at hl 1 rfl) ?_
  replace h := o_b h; obtain ⟨_, k184, h⟩ := h
  replace h := o_b h; obtain ⟨q184, h184, h⟩ := h
  refine m_call (va_runV (As := [.int v3, .int v1, .int v1]) (rest := []) ⟨hx, hb, hml, hown, hts⟩ (c_X2_infer l D b0 sz h184) (cwV 3 hts gX2_grows_X2_infer rfl rfl rfl (by decide +kernel) ⟨Nat.le_of_ble_eq_true rfl, Nat.le_of_ble_eq_true rfl⟩) ⟨PW.blind, m_recv (ci := 2) rfl hK hM k184, (fun U hU hW => ⟨rfl, PW.call hK hM hS hU hW⟩)⟩ rfl rfl hl.1 rfl (lv_room (Nat.le_of_ble_eq_true rfl)) dX2_grows_184 ⟨(Nat.le_refl _), (Nat.le_refl _)⟩) hS (fun H locs hM hS => ?_)
  refine lv_aload_n hx hb dX2_grows_187 rfl (lv_at hl 0 rfl) ?_
  refine lv_iload hx hb dX2_grows_188 (lv_at hl 3 rfl) ?_
  refine lv_iload_n hx hb dX2_grows_190 rfl (lv_at hl 1 rfl) ?_
  refine lv_iload_n hx hb dX2_grows_191 rfl (lv_at hl 1 rfl) ?_
  replace h := o_b h; obtain ⟨_, k192, h⟩ := h
  replace h := o_b h; obtain ⟨q192, h192, h⟩ := h
  refine m_call (va_runV (As := [.int v4, .int v1, .int v1]) (rest := []) ⟨hx, hb, hml, hown, hts⟩ (c_X2_infer l D b0 sz h192) (cwV 3 hts gX2_grows_X2_infer rfl rfl rfl (by decide +kernel) ⟨Nat.le_of_ble_eq_true rfl, Nat.le_of_ble_eq_true rfl⟩) ⟨PW.blind, m_recv (ci := 2) rfl hK hM k192, (fun U hU hW => ⟨rfl, PW.call hK hM hS hU hW⟩)⟩ rfl rfl hl.1 rfl (lv_room (Nat.le_of_ble_eq_true rfl)) dX2_grows_192 ⟨(Nat.le_refl _), (Nat.le_refl _)⟩) hS (fun H locs hM hS => ?_)
  refine lv_iconst (v := (1 : Int32)) hx hb dX2_grows_195 (by decide) ?_
  replace h := Option.some.inj h; subst h
  exact W.zret hx hb hr rfl (fun t ht hW => ⟨rfl, by rw [ht]; exact hM.moved hW.alike, hS.F ht⟩) hS.2.2 dX2_grows_196
set_option maxHeartbeats 4000000 in
set_option maxRecDepth 100000 in
theorem w_X2_grows_157 (C0 : CX cX2_grows 7 (some .boolean) wsX2_grows RX2 p s m args meth c D b0) {res : Int32 × mmF} : ∀ (t0 : Nat) (t1 : Int32) (t2 : Int32) (t3 : Int32) (f : mmF), f_X2_grows_157 t0 t1 t2 t3 f = some res → ∀ (H : Heap) (locs : List Loc) (ls : Array Slot), MM vwCl D b0 f sz s H → mS b0 s H locs → lv_has ls 7 [] → W p l e ({ frames := 2, cells := 0, slots := 0, locals := 47 } : Room) s m args below meth c H locs 0 0 (MQ below (QW D b0 (some (.int res.1)) res.2 sz) args s 0 0 (fun q => b0 ≤ q)) (F0 m 157 ls [.int t3, .int t2, .int t1, .ref t0]) := by
  obtain ⟨hx, hb, hr, hml, hown, hts, hlocks, hK⟩ := id C0
  intro t0 t1 t2 t3 f h H locs ls hM hS hl
  unfold f_X2_grows_157 at h
  replace h := o_b h; obtain ⟨_, k157, h⟩ := h
  replace h := o_b h; obtain ⟨q157, h157, h⟩ := h
  refine m_call (va_runV (As := [.int t1, .int t2, .int t3]) (rest := []) ⟨hx, hb, hml, hown, hts⟩ (c_X2_infer l D b0 sz h157) (cwV 3 hts gX2_grows_X2_infer rfl rfl rfl (by decide +kernel) ⟨Nat.le_of_ble_eq_true rfl, Nat.le_of_ble_eq_true rfl⟩) ⟨PW.blind, m_recv (ci := 2) rfl hK hM k157, (fun U hU hW => ⟨rfl, PW.call hK hM hS hU hW⟩)⟩ rfl rfl hl.1 rfl (lv_room (Nat.le_of_ble_eq_true rfl)) dX2_grows_157 ⟨(Nat.le_refl _), (Nat.le_refl _)⟩) hS (fun H locs hM hS => ?_)
  refine lv_iconst (v := (1 : Int32)) hx hb dX2_grows_160 (by decide) ?_
  replace h := Option.some.inj h; subst h
  exact W.zret hx hb hr rfl (fun t ht hW => ⟨rfl, by rw [ht]; exact hM.moved hW.alike, hS.F ht⟩) hS.2.2 dX2_grows_161
set_option maxHeartbeats 4000000 in
set_option maxRecDepth 100000 in
theorem w_X2_grows_155 (C0 : CX cX2_grows 7 (some .boolean) wsX2_grows RX2 p s m args meth c D b0) {res : Int32 × mmF} : ∀ (v4 : Int32) (t0 : Nat) (t1 : Int32) (t2 : Int32) (f : mmF), f_X2_grows_155 v4 t0 t1 t2 f = some res → ∀ (H : Heap) (locs : List Loc) (ls : Array Slot), MM vwCl D b0 f sz s H → mS b0 s H locs → lv_has ls 7 [(4, .int v4)] → W p l e ({ frames := 2, cells := 0, slots := 0, locals := 47 } : Room) s m args below meth c H locs 0 0 (MQ below (QW D b0 (some (.int res.1)) res.2 sz) args s 0 0 (fun q => b0 ≤ q)) (F0 m 155 ls [.int t2, .int t1, .ref t0]) := by
  obtain ⟨hx, hb, hr, hml, hown, hts, hlocks, hK⟩ := id C0
  intro v4 t0 t1 t2 f h H locs ls hM hS hl
  unfold f_X2_grows_155 at h
  refine lv_iload hx hb dX2_grows_155 (lv_at hl 0 rfl) ?_
  exact w_X2_grows_157 C0 _ _ _ _ _ h _ _ _ hM hS (lv_sub hl [] rfl)
set_option maxHeartbeats 4000000 in
set_option maxRecDepth 100000 in
theorem w_X2_grows_140 (C0 : CX cX2_grows 7 (some .boolean) wsX2_grows RX2 p s m args meth c D b0) {res : Int32 × mmF} : ∀ (v2 : Int32) (v3 : Int32) (v4 : Int32) (v5 : Int32) (t0 : Nat) (t1 : Int32) (t2 : Int32) (f : mmF), f_X2_grows_140 v2 v3 v4 v5 t0 t1 t2 f = some res → ∀ (H : Heap) (locs : List Loc) (ls : Array Slot), MM vwCl D b0 f sz s H → mS b0 s H locs → lv_has ls 7 [(2, .int v2), (3, .int v3), (4, .int v4), (5, .int v5)] → W p l e ({ frames := 2, cells := 0, slots := 0, locals := 47 } : Room) s m args below meth c H locs 0 0 (MQ below (QW D b0 (some (.int res.1)) res.2 sz) args s 0 0 (fun q => b0 ≤ q)) (F0 m 140 ls [.int t2, .int t1, .ref t0]) := by
  obtain ⟨hx, hb, hr, hml, hown, hts, hlocks, hK⟩ := id C0
  intro v2 v3 v4 v5 t0 t1 t2 f h H locs ls hM hS hl
  unfold f_X2_grows_140 at h
  refine lv_iload_n hx hb dX2_grows_140 rfl (lv_at hl 0 rfl) ?_
  refine lv_bipush (v := (8 : Int32)) hx hb dX2_grows_141 (by decide) ?_
  refine lv_icmp_ne (tgt := 155) hx hb dX2_grows_143 (by decide) (fun c143 => ?_) (fun c143 => ?_)
  · replace h := o_f c143 h
    exact w_X2_grows_155 C0 _ _ _ _ _ h _ _ _ hM hS (lv_sub hl [2] rfl)
  replace h := o_t c143 h
  refine lv_iload hx hb dX2_grows_146 (lv_at hl 3 rfl) ?_
  refine lv_if_eq (tgt := 155) hx hb dX2_grows_148 (by decide) (fun c148 => ?_) (fun c148 => ?_)
  · replace h := o_t c148 h
    exact w_X2_grows_155 C0 _ _ _ _ _ h _ _ _ hM hS (lv_sub hl [2] rfl)
  replace h := o_f c148 h
  refine lv_iload_n hx hb dX2_grows_151 rfl (lv_at hl 1 rfl) ?_
  refine lv_goto (tgt := 157) hx hb dX2_grows_152 (by decide) ?_
  exact w_X2_grows_157 C0 _ _ _ _ _ h _ _ _ hM hS (lv_sub hl [] rfl)
set_option maxHeartbeats 4000000 in
set_option maxRecDepth 100000 in
theorem w_X2_grows_134 (C0 : CX cX2_grows 7 (some .boolean) wsX2_grows RX2 p s m args meth c D b0) {res : Int32 × mmF} : ∀ (v2 : Int32) (v3 : Int32) (v4 : Int32) (v5 : Int32) (t0 : Nat) (t1 : Int32) (f : mmF), f_X2_grows_134 v2 v3 v4 v5 t0 t1 f = some res → ∀ (H : Heap) (locs : List Loc) (ls : Array Slot), MM vwCl D b0 f sz s H → mS b0 s H locs → lv_has ls 7 [(2, .int v2), (3, .int v3), (4, .int v4), (5, .int v5)] → W p l e ({ frames := 2, cells := 0, slots := 0, locals := 47 } : Room) s m args below meth c H locs 0 0 (MQ below (QW D b0 (some (.int res.1)) res.2 sz) args s 0 0 (fun q => b0 ≤ q)) (F0 m 134 ls [.int t1, .ref t0]) := by
  obtain ⟨hx, hb, hr, hml, hown, hts, hlocks, hK⟩ := id C0
  intro v2 v3 v4 v5 t0 t1 f h H locs ls hM hS hl
  unfold f_X2_grows_134 at h
  refine lv_iload_n hx hb dX2_grows_134 rfl (lv_at hl 1 rfl) ?_
  refine lv_goto (tgt := 140) hx hb dX2_grows_135 (by decide) ?_
  exact w_X2_grows_140 C0 _ _ _ _ _ _ _ _ h _ _ _ hM hS (lv_sub hl [0, 1, 2, 3] rfl)
set_option maxHeartbeats 4000000 in
set_option maxRecDepth 100000 in
theorem w_X2_grows_138 (C0 : CX cX2_grows 7 (some .boolean) wsX2_grows RX2 p s m args meth c D b0) {res : Int32 × mmF} : ∀ (v2 : Int32) (v3 : Int32) (v4 : Int32) (v5 : Int32) (t0 : Nat) (t1 : Int32) (f : mmF), f_X2_grows_138 v2 v3 v4 v5 t0 t1 f = some res → ∀ (H : Heap) (locs : List Loc) (ls : Array Slot), MM vwCl D b0 f sz s H → mS b0 s H locs → lv_has ls 7 [(2, .int v2), (3, .int v3), (4, .int v4), (5, .int v5)] → W p l e ({ frames := 2, cells := 0, slots := 0, locals := 47 } : Room) s m args below meth c H locs 0 0 (MQ below (QW D b0 (some (.int res.1)) res.2 sz) args s 0 0 (fun q => b0 ≤ q)) (F0 m 138 ls [.int t1, .ref t0]) := by
  obtain ⟨hx, hb, hr, hml, hown, hts, hlocks, hK⟩ := id C0
  intro v2 v3 v4 v5 t0 t1 f h H locs ls hM hS hl
  unfold f_X2_grows_138 at h
  refine lv_iload hx hb dX2_grows_138 (lv_at hl 2 rfl) ?_
  exact w_X2_grows_140 C0 _ _ _ _ _ _ _ _ h _ _ _ hM hS (lv_sub hl [0, 1, 2, 3] rfl)
set_option maxHeartbeats 4000000 in
set_option maxRecDepth 100000 in
theorem w_X2_grows_115 (C0 : CX cX2_grows 7 (some .boolean) wsX2_grows RX2 p s m args meth c D b0) {res : Int32 × mmF} : ∀ (v0 : Nat) (v1 : Int32) (v2 : Int32) (v3 : Int32) (v4 : Int32) (v5 : Int32) (f : mmF), f_X2_grows_115 v0 v1 v2 v3 v4 v5 f = some res → ∀ (H : Heap) (locs : List Loc) (ls : Array Slot), MM vwCl D b0 f sz s H → mS b0 s H locs → lv_has ls 7 [(0, .ref v0), (1, .int v1), (2, .int v2), (3, .int v3), (4, .int v4), (5, .int v5)] → W p l e ({ frames := 2, cells := 0, slots := 0, locals := 47 } : Room) s m args below meth c H locs 0 0 (MQ below (QW D b0 (some (.int res.1)) res.2 sz) args s 0 0 (fun q => b0 ≤ q)) (F0 m 115 ls []) := by
  obtain ⟨hx, hb, hr, hml, hown, hts, hlocks, hK⟩ := id C0
  intro v0 v1 v2 v3 v4 v5 f h H locs ls hM hS hl
  unfold f_X2_grows_115 at h
  refine lv_aload_n hx hb dX2_grows_115 rfl (lv_at hl 0 rfl) ?_
  refine lv_iload_n hx hb dX2_grows_116 rfl (lv_at hl 1 rfl) ?_
  refine lv_iload_n hx hb dX2_grows_117 rfl (lv_at hl 2 rfl) ?_
  refine lv_bipush (v := (7 : Int32)) hx hb dX2_grows_118 (by decide) ?_
  refine lv_icmp_eq (tgt := 134) hx hb dX2_grows_120 (by decide) (fun c120 => ?_) (fun c120 => ?_)
  · replace h := o_t c120 h
    exact w_X2_grows_134 C0 _ _ _ _ _ _ _ h _ _ _ hM hS (lv_sub hl [2, 3, 4, 5] rfl)
  replace h := o_f c120 h
  refine lv_iload_n hx hb dX2_grows_123 rfl (lv_at hl 2 rfl) ?_
  refine lv_bipush (v := (8 : Int32)) hx hb dX2_grows_124 (by decide) ?_
  refine lv_icmp_ne (tgt := 138) hx hb dX2_grows_126 (by decide) (fun c126 => ?_) (fun c126 => ?_)
  · replace h := o_f c126 h
    exact w_X2_grows_138 C0 _ _ _ _ _ _ _ h _ _ _ hM hS (lv_sub hl [2, 3, 4, 5] rfl)
  replace h := o_t c126 h
  refine lv_iload hx hb dX2_grows_129 (lv_at hl 5 rfl) ?_
  refine lv_if_eq (tgt := 138) hx hb dX2_grows_131 (by decide) (fun c131 => ?_) (fun c131 => ?_)
  · replace h := o_t c131 h
    exact w_X2_grows_138 C0 _ _ _ _ _ _ _ h _ _ _ hM hS (lv_sub hl [2, 3, 4, 5] rfl)
  replace h := o_f c131 h
  exact w_X2_grows_134 C0 _ _ _ _ _ _ _ h _ _ _ hM hS (lv_sub hl [2, 3, 4, 5] rfl)
set_option maxHeartbeats 4000000 in
set_option maxRecDepth 100000 in
theorem w_X2_grows (C0 : CX cX2_grows 7 (some .boolean) wsX2_grows RX2 p s m args meth c D b0) {v0 : Nat} {v1 : Int32} {res : Int32 × mmF} (h : f_X2_grows v0 v1 f = some res) : ∀ (H : Heap) (locs : List Loc) (ls : Array Slot), MM vwCl D b0 f sz s H → mS b0 s H locs → lv_has ls 7 [(0, .ref v0), (1, .int v1)] → W p l e ({ frames := 2, cells := 0, slots := 0, locals := 47 } : Room) s m args below meth c H locs 0 0 (MQ below (QW D b0 (some (.int res.1)) res.2 sz) args s 0 0 (fun q => b0 ≤ q)) (F0 m 0 ls []) := by
  obtain ⟨hx, hb, hr, hml, hown, hts, hlocks, hK⟩ := id C0
  intro H locs ls hM hS hl
  unfold f_X2_grows at h
  refine lv_aload_n hx hb dX2_grows_0 rfl (lv_at hl 0 rfl) ?_
  replace h := o_b h; obtain ⟨x1, h1, h⟩ := h
  refine m_get (C := RX2) (T := TX2) (N := 5) (ci := 2) hx hb hts qi_X2_grows_X2 hown hK.1 hM 2 (ldR_F h1) rfl (by decide) (hts _ q_X2_grows_1) (fun _ h9 => h9) dX2_grows_1 ?_
  replace h := o_b h; obtain ⟨x4, h4, h⟩ := h
  refine m_get (C := RX4) (T := TX4) (N := 8) (ci := 4) hx hb hts qi_X2_grows_X4 hown hK.1 hM 1 (ldR_F h4) rfl (by decide) (hts _ q_X2_grows_3) (fun _ h9 => h9) dX2_grows_4 ?_
  refine lv_iload_n hx hb dX2_grows_7 rfl (lv_at hl 1 rfl) ?_
  replace h := o_b h; obtain ⟨q8, h8, h⟩ := h
  refine m_call (va_runSN (As := [.ref x4, .int v1]) (rest := []) ⟨hx, hb, hml, hown, hts⟩ (c_X9_at l D b0 sz h8) ⟨(va_cnB 2 hts gX2_grows_X9_at_n41 rfl rfl rfl (hK.2.1 (RX2, 41, yX9_at, "StageTruths") (by decide)) (hts _ q_X2_grows_4) (by decide +kernel) ⟨Nat.le_of_ble_eq_true rfl, Nat.le_of_ble_eq_true rfl⟩), (hts _ q_X2_grows_5), trivial⟩ ⟨PW.blind, (fun U hU hW => ⟨rfl, PW.call hK hM hS hU hW⟩)⟩ rfl rfl hl.1 rfl (lv_room (Nat.le_of_ble_eq_true rfl)) dX2_grows_8 ⟨(Nat.le_refl _), (Nat.le_refl _)⟩) hS (fun H locs hM hS => ?_)
  refine lv_istore_n (lv' := [(2, .int q8), (0, .ref v0), (1, .int v1)]) hx hb dX2_grows_11 rfl hl (by decide) rfl (fun ls hl => ?_)
  refine lv_aload_n hx hb dX2_grows_12 rfl (lv_at hl 1 rfl) ?_
  replace h := o_b h; obtain ⟨x13, h13, h⟩ := h
  refine m_get (C := RX2) (T := TX2) (N := 5) (ci := 2) hx hb hts qi_X2_grows_X2 hown hK.1 hM 2 (ldR_F h13) rfl (by decide) (hts _ q_X2_grows_1) (fun _ h9 => h9) dX2_grows_13 ?_
  replace h := o_b h; obtain ⟨x16, h16, h⟩ := h
  refine m_get (C := RX4) (T := TX4) (N := 8) (ci := 4) hx hb hts qi_X2_grows_X4 hown hK.1 hM 2 (ldR_F h16) rfl (by decide) (hts _ q_X2_grows_6) (fun _ h9 => h9) dX2_grows_16 ?_
  refine lv_iload_n hx hb dX2_grows_19 rfl (lv_at hl 2 rfl) ?_
  replace h := o_b h; obtain ⟨q20, h20, h⟩ := h
  refine m_call (va_runSN (As := [.ref x16, .int v1]) (rest := []) ⟨hx, hb, hml, hown, hts⟩ (c_X9_at l D b0 sz h20) ⟨(va_cnB 2 hts gX2_grows_X9_at_n41 rfl rfl rfl (hK.2.1 (RX2, 41, yX9_at, "StageTruths") (by decide)) (hts _ q_X2_grows_4) (by decide +kernel) ⟨Nat.le_of_ble_eq_true rfl, Nat.le_of_ble_eq_true rfl⟩), (hts _ q_X2_grows_5), trivial⟩ ⟨PW.blind, (fun U hU hW => ⟨rfl, PW.call hK hM hS hU hW⟩)⟩ rfl rfl hl.1 rfl (lv_room (Nat.le_of_ble_eq_true rfl)) dX2_grows_20 ⟨(Nat.le_refl _), (Nat.le_refl _)⟩) hS (fun H locs hM hS => ?_)
  refine lv_istore_n (lv' := [(3, .int q20), (2, .int q8), (0, .ref v0), (1, .int v1)]) hx hb dX2_grows_23 rfl hl (by decide) rfl (fun ls hl => ?_)
  refine lv_aload_n hx hb dX2_grows_24 rfl (lv_at hl 2 rfl) ?_
  replace h := o_b h; obtain ⟨x25, h25, h⟩ := h
  refine m_get (C := RX2) (T := TX2) (N := 5) (ci := 2) hx hb hts qi_X2_grows_X2 hown hK.1 hM 2 (ldR_F h25) rfl (by decide) (hts _ q_X2_grows_1) (fun _ h9 => h9) dX2_grows_25 ?_
  replace h := o_b h; obtain ⟨x28, h28, h⟩ := h
  refine m_get (C := RX4) (T := TX4) (N := 8) (ci := 4) hx hb hts qi_X2_grows_X4 hown hK.1 hM 3 (ldR_F h28) rfl (by decide) (hts _ q_X2_grows_7) (fun _ h9 => h9) dX2_grows_28 ?_
  refine lv_iload_n hx hb dX2_grows_31 rfl (lv_at hl 3 rfl) ?_
  replace h := o_b h; obtain ⟨q32, h32, h⟩ := h
  refine m_call (va_runSN (As := [.ref x28, .int v1]) (rest := []) ⟨hx, hb, hml, hown, hts⟩ (c_X9_at l D b0 sz h32) ⟨(va_cnB 2 hts gX2_grows_X9_at_n41 rfl rfl rfl (hK.2.1 (RX2, 41, yX9_at, "StageTruths") (by decide)) (hts _ q_X2_grows_4) (by decide +kernel) ⟨Nat.le_of_ble_eq_true rfl, Nat.le_of_ble_eq_true rfl⟩), (hts _ q_X2_grows_5), trivial⟩ ⟨PW.blind, (fun U hU hW => ⟨rfl, PW.call hK hM hS hU hW⟩)⟩ rfl rfl hl.1 rfl (lv_room (Nat.le_of_ble_eq_true rfl)) dX2_grows_32 ⟨(Nat.le_refl _), (Nat.le_refl _)⟩) hS (fun H locs hM hS => ?_)
  refine lv_istore (lv' := [(4, .int q32), (3, .int q20), (2, .int q8), (0, .ref v0), (1, .int v1)]) hx hb dX2_grows_35 hl (by decide) rfl (fun ls hl => ?_)
  refine lv_aload_n hx hb dX2_grows_37 rfl (lv_at hl 3 rfl) ?_
  replace h := o_b h; obtain ⟨x38, h38, h⟩ := h
  refine m_get (C := RX2) (T := TX2) (N := 5) (ci := 2) hx hb hts qi_X2_grows_X2 hown hK.1 hM 1 (ldR_F h38) rfl (by decide) (hts _ q_X2_grows_8) (fun _ h9 => h9) dX2_grows_38 ?_
  refine lv_iconst (v := (0 : Int32)) hx hb dX2_grows_41 (by decide) ?_
  refine lv_iload_n hx hb dX2_grows_42 rfl (lv_at hl 1 rfl) ?_
  replace h := o_b h; obtain ⟨_, k43, h⟩ := h
  replace h := o_b h; obtain ⟨q43, h43, h⟩ := h
  refine m_call (va_runV (As := [.int (0 : Int32), .int q20]) (rest := []) ⟨hx, hb, hml, hown, hts⟩ (c_X3_has l D b0 sz h43) (cwV 2 hts gX2_grows_X3_has rfl rfl rfl (by decide +kernel) ⟨Nat.le_of_ble_eq_true rfl, Nat.le_of_ble_eq_true rfl⟩) ⟨PW.blind, m_recv (ci := 3) rfl hK hM k43, (fun U hU hW => ⟨rfl, PW.call hK hM hS hU hW⟩)⟩ rfl rfl hl.1 rfl (lv_room (Nat.le_of_ble_eq_true rfl)) dX2_grows_43 ⟨(Nat.le_refl _), (Nat.le_refl _)⟩) hS (fun H locs hM hS => ?_)
  refine lv_istore (lv' := [(5, .int q43), (4, .int q32), (3, .int q20), (2, .int q8), (0, .ref v0), (1, .int v1)]) hx hb dX2_grows_46 hl (by decide) rfl (fun ls hl => ?_)
  refine lv_aload_n hx hb dX2_grows_48 rfl (lv_at hl 4 rfl) ?_
  replace h := o_b h; obtain ⟨x49, h49, h⟩ := h
  refine m_get (C := RX2) (T := TX2) (N := 5) (ci := 2) hx hb hts qi_X2_grows_X2 hown hK.1 hM 1 (ldR_F h49) rfl (by decide) (hts _ q_X2_grows_8) (fun _ h9 => h9) dX2_grows_49 ?_
  refine lv_iconst (v := (0 : Int32)) hx hb dX2_grows_52 (by decide) ?_
  refine lv_iload hx hb dX2_grows_53 (lv_at hl 1 rfl) ?_
  replace h := o_b h; obtain ⟨_, k55, h⟩ := h
  replace h := o_b h; obtain ⟨q55, h55, h⟩ := h
  refine m_call (va_runV (As := [.int (0 : Int32), .int q32]) (rest := []) ⟨hx, hb, hml, hown, hts⟩ (c_X3_has l D b0 sz h55) (cwV 2 hts gX2_grows_X3_has rfl rfl rfl (by decide +kernel) ⟨Nat.le_of_ble_eq_true rfl, Nat.le_of_ble_eq_true rfl⟩) ⟨PW.blind, m_recv (ci := 3) rfl hK hM k55, (fun U hU hW => ⟨rfl, PW.call hK hM hS hU hW⟩)⟩ rfl rfl hl.1 rfl (lv_room (Nat.le_of_ble_eq_true rfl)) dX2_grows_55 ⟨(Nat.le_refl _), (Nat.le_refl _)⟩) hS (fun H locs hM hS => ?_)
  refine lv_istore (lv' := [(6, .int q55), (5, .int q43), (4, .int q32), (3, .int q20), (2, .int q8), (0, .ref v0), (1, .int v1)]) hx hb dX2_grows_58 hl (by decide) rfl (fun ls hl => ?_)
  refine lv_aload_n hx hb dX2_grows_60 rfl (lv_at hl 5 rfl) ?_
  replace h := o_b h; obtain ⟨x61, h61, h⟩ := h
  refine m_get (C := RX2) (T := TX2) (N := 5) (ci := 2) hx hb hts qi_X2_grows_X2 hown hK.1 hM 1 (ldR_F h61) rfl (by decide) (hts _ q_X2_grows_8) (fun _ h9 => h9) dX2_grows_61 ?_
  refine lv_iconst (v := (0 : Int32)) hx hb dX2_grows_64 (by decide) ?_
  refine lv_iload_n hx hb dX2_grows_65 rfl (lv_at hl 6 rfl) ?_
  replace h := o_b h; obtain ⟨_, k66, h⟩ := h
  replace h := o_b h; obtain ⟨q66, h66, h⟩ := h
  refine m_call (va_runV (As := [.int (0 : Int32), .int v1]) (rest := []) ⟨hx, hb, hml, hown, hts⟩ (c_X3_has l D b0 sz h66) (cwV 2 hts gX2_grows_X3_has rfl rfl rfl (by decide +kernel) ⟨Nat.le_of_ble_eq_true rfl, Nat.le_of_ble_eq_true rfl⟩) ⟨PW.blind, m_recv (ci := 3) rfl hK hM k66, (fun U hU hW => ⟨rfl, PW.call hK hM hS hU hW⟩)⟩ rfl rfl hl.1 rfl (lv_room (Nat.le_of_ble_eq_true rfl)) dX2_grows_66 ⟨(Nat.le_refl _), (Nat.le_refl _)⟩) hS (fun H locs hM hS => ?_)
  refine lv_if_ne (tgt := 164) hx hb dX2_grows_69 (by decide) (fun c69 => ?_) (fun c69 => ?_)
  · replace h := o_f c69 h
    refine lv_iload_n hx hb dX2_grows_164 rfl (lv_at hl 4 rfl) ?_
    refine lv_bipush (v := (7 : Int32)) hx hb dX2_grows_165 (by decide) ?_
    refine lv_icmp_ne (tgt := 197) hx hb dX2_grows_167 (by decide) (fun c167 => ?_) (fun c167 => ?_)
    · replace h := o_f c167 h
      exact w_X2_grows_197 C0 _ _ _ _ _ _ _ h _ _ _ hM hS (lv_sub hl [5, 6, 3, 2, 1, 0] rfl)
    replace h := o_t c167 h
    refine lv_iload hx hb dX2_grows_170 (lv_at hl 1 rfl) ?_
    refine lv_if_eq (tgt := 180) hx hb dX2_grows_172 (by decide) (fun c172 => ?_) (fun c172 => ?_)
    · replace h := o_t c172 h
      exact w_X2_grows_180 C0 _ _ _ _ _ h _ _ _ hM hS (lv_sub hl [5, 6, 3, 2] rfl)
    replace h := o_f c172 h
    refine lv_iload hx hb dX2_grows_175 (lv_at hl 0 rfl) ?_
    refine lv_if_ne (tgt := 197) hx hb dX2_grows_177 (by decide) (fun c177 => ?_) (fun c177 => ?_)
    · replace h := o_f c177 h
      exact w_X2_grows_197 C0 _ _ _ _ _ _ _ h _ _ _ hM hS (lv_sub hl [5, 6, 3, 2, 1, 0] rfl)
    replace h := o_t c177 h
    exact w_X2_grows_180 C0 _ _ _ _ _ h _ _ _ hM hS (lv_sub hl [5, 6, 3, 2] rfl)
  replace h := o_t c69 h
  refine lv_iload_n hx hb dX2_grows_72 rfl (lv_at hl 4 rfl) ?_
  refine lv_bipush (v := (7 : Int32)) hx hb dX2_grows_73 (by decide) ?_
  refine lv_icmp_ne (tgt := 91) hx hb dX2_grows_75 (by decide) (fun c75 => ?_) (fun c75 => ?_)
  · replace h := o_f c75 h
    refine lv_iload_n hx hb dX2_grows_91 rfl (lv_at hl 4 rfl) ?_
    refine lv_bipush (v := (8 : Int32)) hx hb dX2_grows_92 (by decide) ?_
    refine lv_icmp_ne (tgt := 110) hx hb dX2_grows_94 (by decide) (fun c94 => ?_) (fun c94 => ?_)
    · replace h := o_f c94 h
      refine lv_iload hx hb dX2_grows_110 (lv_at hl 0 rfl) ?_
      refine lv_if_eq (tgt := 162) hx hb dX2_grows_112 (by decide) (fun c112 => ?_) (fun c112 => ?_)
      · replace h := o_t c112 h
        refine lv_iconst (v := (0 : Int32)) hx hb dX2_grows_162 (by decide) ?_
        replace h := Option.some.inj h; subst h
        exact W.zret hx hb hr rfl (fun t ht hW => ⟨rfl, by rw [ht]; exact hM.moved hW.alike, hS.F ht⟩) hS.2.2 dX2_grows_163
      replace h := o_f c112 h
      exact w_X2_grows_115 C0 _ _ _ _ _ _ _ h _ _ _ hM hS (lv_sub hl [5, 6, 4, 3, 2, 1] rfl)
    replace h := o_t c94 h
    refine lv_iload hx hb dX2_grows_97 (lv_at hl 1 rfl) ?_
    refine lv_if_ne (tgt := 115) hx hb dX2_grows_99 (by decide) (fun c99 => ?_) (fun c99 => ?_)
    · replace h := o_f c99 h
      exact w_X2_grows_115 C0 _ _ _ _ _ _ _ h _ _ _ hM hS (lv_sub hl [5, 6, 4, 3, 2, 1] rfl)
    replace h := o_t c99 h
    refine lv_iload hx hb dX2_grows_102 (lv_at hl 0 rfl) ?_
    refine lv_if_eq (tgt := 162) hx hb dX2_grows_104 (by decide) (fun c104 => ?_) (fun c104 => ?_)
    · replace h := o_t c104 h
      refine lv_iconst (v := (0 : Int32)) hx hb dX2_grows_162 (by decide) ?_
      replace h := Option.some.inj h; subst h
      exact W.zret hx hb hr rfl (fun t ht hW => ⟨rfl, by rw [ht]; exact hM.moved hW.alike, hS.F ht⟩) hS.2.2 dX2_grows_163
    replace h := o_f c104 h
    refine lv_goto (tgt := 115) hx hb dX2_grows_107 (by decide) ?_
    exact w_X2_grows_115 C0 _ _ _ _ _ _ _ h _ _ _ hM hS (lv_sub hl [5, 6, 4, 3, 2, 1] rfl)
  replace h := o_t c75 h
  refine lv_iload hx hb dX2_grows_78 (lv_at hl 1 rfl) ?_
  refine lv_if_eq (tgt := 162) hx hb dX2_grows_80 (by decide) (fun c80 => ?_) (fun c80 => ?_)
  · replace h := o_t c80 h
    refine lv_iconst (v := (0 : Int32)) hx hb dX2_grows_162 (by decide) ?_
    replace h := Option.some.inj h; subst h
    exact W.zret hx hb hr rfl (fun t ht hW => ⟨rfl, by rw [ht]; exact hM.moved hW.alike, hS.F ht⟩) hS.2.2 dX2_grows_163
  replace h := o_f c80 h
  refine lv_iload hx hb dX2_grows_83 (lv_at hl 0 rfl) ?_
  refine lv_if_eq (tgt := 162) hx hb dX2_grows_85 (by decide) (fun c85 => ?_) (fun c85 => ?_)
  · replace h := o_t c85 h
    refine lv_iconst (v := (0 : Int32)) hx hb dX2_grows_162 (by decide) ?_
    replace h := Option.some.inj h; subst h
    exact W.zret hx hb hr rfl (fun t ht hW => ⟨rfl, by rw [ht]; exact hM.moved hW.alike, hS.F ht⟩) hS.2.2 dX2_grows_163
  replace h := o_f c85 h
  refine lv_goto (tgt := 115) hx hb dX2_grows_88 (by decide) ?_
  exact w_X2_grows_115 C0 _ _ _ _ _ _ _ h _ _ _ hM hS (lv_sub hl [5, 6, 4, 3, 2, 1] rfl)
set_option maxHeartbeats 4000000 in
set_option maxRecDepth 100000 in
theorem c_X2_grows (l : Launch) (D : mmD) (b0 sz : Nat) {v0 : Nat} {v1 : Int32} {f : mmF} {res : Int32 × mmF} (h : f_X2_grows v0 v1 f = some res) : Met l yX2_grows wsX2_grows ({ frames := 2, cells := 0, slots := 0, locals := 47 } : Room) (va_Pc [.ref v0, .int v1] (PW D b0 f sz)) (QW D b0 (some (.int res.1)) res.2 sz) 0 0 (fun q => b0 ≤ q) := by
  refine Met.ofW (cc := cX2_grows) (maxL := 7) (ret := (some .boolean)) (by decide) rfl ?_
  intro p e s m args below meth c s₁ B hml hv
  obtain ⟨rfl, hM, hK⟩ := hv
  have hl := lv_entry ([.ref v0, .int v1]) (n := 7) (Nat.le_of_ble_eq_true rfl)
  rw [lg_entry_eq]
  generalize (lg_sl ([.ref v0, .int v1]) ++ List.replicate (7 - (lg_sl ([.ref v0, .int v1])).length) Slot.unset).toArray = ls at hl ⊢
  have hl : lv_has ls 7 [(0, .ref v0), (1, .int v1)] := hl
  exact w_X2_grows ⟨B.exec, B.bytes, B.returns, hml, findClass_of_methodNamed B.named, atoms_spec (ws := wsX2_grows) B.pre, B.notSynchronized, hK⟩ h s.heap [] ls hM va_S.rf hl
end S_X2_grows
/-! X2_spread -/
set_option maxRecDepth 20000 in
theorem qi_X2_spread_X2 : ∀ w ∈ u_ws RX2 TX2 5, w ∈ wsX2_spread := by decide +kernel
set_option maxRecDepth 20000 in
theorem q_X2_spread_1 : Cond.fieldLink RX2 33 "StageTruths$Known" "parts" "LStageTruths$Parts;" ∈ wsX2_spread := by decide +kernel
set_option maxRecDepth 20000 in
theorem qi_X2_spread_X4 : ∀ w ∈ u_ws RX4 TX4 8, w ∈ wsX2_spread := by decide +kernel
set_option maxRecDepth 20000 in
theorem q_X2_spread_3 : Cond.fieldLink RX2 74 "StageTruths$Parts" "size" "I" ∈ wsX2_spread := by decide +kernel
noncomputable def f_X2_spread_77 (k4 : Nat → Int32 → Int32 → mmF → Option (mmF))  (v0 : Nat) (v1 : Int32) (v2 : Int32) (f : mmF) : Option (mmF) :=
  k4 v0 v1 (v2 + (1 : Int32)) f
noncomputable def f_X2_spread_55 (k4 : Nat → Int32 → Int32 → mmF → Option (mmF))  : Nat → Nat → Int32 → Int32 → Int32 → mmF → Option (mmF)
  | 0, _, _, _, _, _ => none
  | n + 1, v0, v1, v2, v3, f =>
    if v1 = 0 then
    (f_X2_spread_77 k4 v0 v1 v2 f)
    else
    if v3 < (6 : Int32) then
    (f_X2_spread_77 k4 v0 v1 v2 f)
    else
    (ckO f v0 2).bind fun _ =>
    (f_X2_grows v0 v3 f).bind fun q67 =>
    f_X2_spread_55 k4 n v0 v1 v2 (v3 + (-1 : Int32)) q67.2
noncomputable def f_X2_spread_20 (k4 : Nat → Int32 → Int32 → mmF → Option (mmF))  : Nat → Nat → Int32 → Int32 → Int32 → mmF → Option (mmF)
  | 0, _, _, _, _, _ => none
  | n + 1, v0, v1, v2, v3, f =>
    (ldR f v0 2 2).bind fun x22 =>
    (ldI f x22 4 0).bind fun x25 =>
    if x25 ≤ v3 then
    ((ldR f v0 2 2).bind fun x46 =>
    (ldI f x46 4 0).bind fun x49 =>
    f_X2_spread_55 k4 FU v0 v1 v2 (x49 - (1 : Int32)) f)
    else
    (ckO f v0 2).bind fun _ =>
    (f_X2_grows v0 v3 f).bind fun q34 =>
    f_X2_spread_20 k4 n v0 (v1 ||| q34.1) v2 (v3 + (1 : Int32)) q34.2
noncomputable def f_X2_spread_4   : Nat → Nat → Int32 → Int32 → mmF → Option (mmF)
  | 0, _, _, _, _ => none
  | n + 1, v0, v1, v2, f =>
    if v1 = 0 then
    (some (f))
    else
    if (151 : Int32) < v2 then
    (some (f))
    else
    f_X2_spread_20 (fun a0 a1 a2 a3 => f_X2_spread_4 n a0 a1 a2 a3) FU v0 (0 : Int32) v2 (6 : Int32) f
noncomputable def f_X2_spread (v0 : Nat) (f : mmF) : Option (mmF) :=
  f_X2_spread_4 FU v0 (1 : Int32) (0 : Int32) f
section S_X2_spread
variable {p : Program} {l : Launch} {e : Env} {s : State} {m : MethodId} {args : Array Value} {below : List Frame} {meth : Method} {c : Code} {D : mmD} {b0 sz : Nat} {f : mmF}
set_option maxHeartbeats 4000000 in
set_option maxRecDepth 100000 in
theorem w_X2_spread_77 (C0 : CX cX2_spread 4 none wsX2_spread RX2 p s m args meth c D b0) {k4 : Nat → Int32 → Int32 → mmF → Option (mmF)} {res : mmF} (hk4 : ∀ (v0 : Nat) (v1 : Int32) (v2 : Int32) (f : mmF), k4 v0 v1 v2 f = some res → ∀ (H : Heap) (locs : List Loc) (ls : Array Slot), MM vwCl D b0 f sz s H → mS b0 s H locs → lv_has ls 4 [(0, .ref v0), (1, .int v1), (2, .int v2)] → W p l e ({ frames := 3, cells := 0, slots := 0, locals := 73 } : Room) s m args below meth c H locs 0 0 (MQ below (QW D b0 none res sz) args s 0 0 (fun q => b0 ≤ q)) (F0 m 4 ls [])) : ∀ (v0 : Nat) (v1 : Int32) (v2 : Int32) (f : mmF), f_X2_spread_77 k4 v0 v1 v2 f = some res → ∀ (H : Heap) (locs : List Loc) (ls : Array Slot), MM vwCl D b0 f sz s H → mS b0 s H locs → lv_has ls 4 [(0, .ref v0), (1, .int v1), (2, .int v2)] → W p l e ({ frames := 3, cells := 0, slots := 0, locals := 73 } : Room) s m args below meth c H locs 0 0 (MQ below (QW D b0 none res sz) args s 0 0 (fun q => b0 ≤ q)) (F0 m 77 ls []) := by
  obtain ⟨hx, hb, hr, hml, hown, hts, hlocks, hK⟩ := id C0
  intro v0 v1 v2 f h H locs ls hM hS hl
  unfold f_X2_spread_77 at h
  refine lv_iinc (v := (v2 + (1 : Int32))) (lv' := [(2, .int (v2 + (1 : Int32))), (0, .ref v0), (1, .int v1)]) hx hb dX2_spread_77 hl (k := 2) rfl rfl (by decide) rfl (fun ls hl => ?_)
  refine lv_goto (tgt := 4) hx hb dX2_spread_80 (by decide) ?_
  exact hk4 _ _ _ _ h _ _ _ hM hS (lv_sub hl [1, 2, 0] rfl)
set_option maxHeartbeats 4000000 in
set_option maxRecDepth 100000 in
theorem w_X2_spread_55 (C0 : CX cX2_spread 4 none wsX2_spread RX2 p s m args meth c D b0) {k4 : Nat → Int32 → Int32 → mmF → Option (mmF)} {res : mmF} (hk4 : ∀ (v0 : Nat) (v1 : Int32) (v2 : Int32) (f : mmF), k4 v0 v1 v2 f = some res → ∀ (H : Heap) (locs : List Loc) (ls : Array Slot), MM vwCl D b0 f sz s H → mS b0 s H locs → lv_has ls 4 [(0, .ref v0), (1, .int v1), (2, .int v2)] → W p l e ({ frames := 3, cells := 0, slots := 0, locals := 73 } : Room) s m args below meth c H locs 0 0 (MQ below (QW D b0 none res sz) args s 0 0 (fun q => b0 ≤ q)) (F0 m 4 ls [])) : ∀ (n : Nat), ∀ (v0 : Nat) (v1 : Int32) (v2 : Int32) (v3 : Int32) (f : mmF), f_X2_spread_55 k4 n v0 v1 v2 v3 f = some res → ∀ (H : Heap) (locs : List Loc) (ls : Array Slot), MM vwCl D b0 f sz s H → mS b0 s H locs → lv_has ls 4 [(0, .ref v0), (1, .int v1), (2, .int v2), (3, .int v3)] → W p l e ({ frames := 3, cells := 0, slots := 0, locals := 73 } : Room) s m args below meth c H locs 0 0 (MQ below (QW D b0 none res sz) args s 0 0 (fun q => b0 ≤ q)) (F0 m 55 ls []) := by
  obtain ⟨hx, hb, hr, hml, hown, hts, hlocks, hK⟩ := id C0
  intro n
  induction n with
  | zero =>
    intro v0 v1 v2 v3 f h
    have h : (none : Option (mmF)) = some res := h
    cases h
  | succ n ih =>
    intro v0 v1 v2 v3 f h H locs ls hM hS hl
    rw [f_X2_spread_55] at h
    refine lv_iload_n hx hb dX2_spread_55 rfl (lv_at hl 1 rfl) ?_
    refine lv_if_eq (tgt := 77) hx hb dX2_spread_56 (by decide) (fun c56 => ?_) (fun c56 => ?_)
    · replace h := o_t c56 h
      exact w_X2_spread_77 C0 hk4 _ _ _ _ h _ _ _ hM hS (lv_sub hl [0, 1, 2] rfl)
    replace h := o_f c56 h
    refine lv_iload_n hx hb dX2_spread_59 rfl (lv_at hl 3 rfl) ?_
    refine lv_bipush (v := (6 : Int32)) hx hb dX2_spread_60 (by decide) ?_
    refine lv_icmp_lt (tgt := 77) hx hb dX2_spread_62 (by decide) (fun c62 => ?_) (fun c62 => ?_)
    · replace h := o_t c62 h
      exact w_X2_spread_77 C0 hk4 _ _ _ _ h _ _ _ hM hS (lv_sub hl [0, 1, 2] rfl)
    replace h := o_f c62 h
    refine lv_aload_n hx hb dX2_spread_65 rfl (lv_at hl 0 rfl) ?_
    refine lv_iload_n hx hb dX2_spread_66 rfl (lv_at hl 3 rfl) ?_
    replace h := o_b h; obtain ⟨_, k67, h⟩ := h
    replace h := o_b h; obtain ⟨q67, h67, h⟩ := h
    refine m_call (va_runV (As := [.int v3]) (rest := []) ⟨hx, hb, hml, hown, hts⟩ (c_X2_grows l D b0 sz h67) (cwV 1 hts gX2_spread_X2_grows rfl rfl rfl (by decide +kernel) ⟨Nat.le_of_ble_eq_true rfl, Nat.le_of_ble_eq_true rfl⟩) ⟨PW.blind, m_recv (ci := 2) rfl hK hM k67, (fun U hU hW => ⟨rfl, PW.call hK hM hS hU hW⟩)⟩ rfl rfl hl.1 rfl (lv_room (Nat.le_of_ble_eq_true rfl)) dX2_spread_67 ⟨(Nat.le_refl _), (Nat.le_refl _)⟩) hS (fun H locs hM hS => ?_)
    refine lv_pop hx hb dX2_spread_70 rfl ?_
    refine lv_iinc (v := (v3 + (-1 : Int32))) (lv' := [(3, .int (v3 + (-1 : Int32))), (0, .ref v0), (1, .int v1), (2, .int v2)]) hx hb dX2_spread_71 hl (k := 3) rfl rfl (by decide) rfl (fun ls hl => ?_)
    refine lv_goto (tgt := 55) hx hb dX2_spread_74 (by decide) ?_
    exact ih _ _ _ _ _ h _ _ _ hM hS (lv_sub hl [1, 2, 3, 0] rfl)
set_option maxHeartbeats 4000000 in
set_option maxRecDepth 100000 in
theorem w_X2_spread_20 (C0 : CX cX2_spread 4 none wsX2_spread RX2 p s m args meth c D b0) {k4 : Nat → Int32 → Int32 → mmF → Option (mmF)} {res : mmF} (hk4 : ∀ (v0 : Nat) (v1 : Int32) (v2 : Int32) (f : mmF), k4 v0 v1 v2 f = some res → ∀ (H : Heap) (locs : List Loc) (ls : Array Slot), MM vwCl D b0 f sz s H → mS b0 s H locs → lv_has ls 4 [(0, .ref v0), (1, .int v1), (2, .int v2)] → W p l e ({ frames := 3, cells := 0, slots := 0, locals := 73 } : Room) s m args below meth c H locs 0 0 (MQ below (QW D b0 none res sz) args s 0 0 (fun q => b0 ≤ q)) (F0 m 4 ls [])) : ∀ (n : Nat), ∀ (v0 : Nat) (v1 : Int32) (v2 : Int32) (v3 : Int32) (f : mmF), f_X2_spread_20 k4 n v0 v1 v2 v3 f = some res → ∀ (H : Heap) (locs : List Loc) (ls : Array Slot), MM vwCl D b0 f sz s H → mS b0 s H locs → lv_has ls 4 [(0, .ref v0), (1, .int v1), (2, .int v2), (3, .int v3)] → W p l e ({ frames := 3, cells := 0, slots := 0, locals := 73 } : Room) s m args below meth c H locs 0 0 (MQ below (QW D b0 none res sz) args s 0 0 (fun q => b0 ≤ q)) (F0 m 20 ls []) := by
  obtain ⟨hx, hb, hr, hml, hown, hts, hlocks, hK⟩ := id C0
  intro n
  induction n with
  | zero =>
    intro v0 v1 v2 v3 f h
    have h : (none : Option (mmF)) = some res := h
    cases h
  | succ n ih =>
    intro v0 v1 v2 v3 f h H locs ls hM hS hl
    rw [f_X2_spread_20] at h
    refine lv_iload_n hx hb dX2_spread_20 rfl (lv_at hl 3 rfl) ?_
    refine lv_aload_n hx hb dX2_spread_21 rfl (lv_at hl 0 rfl) ?_
    replace h := o_b h; obtain ⟨x22, h22, h⟩ := h
    refine m_get (C := RX2) (T := TX2) (N := 5) (ci := 2) hx hb hts qi_X2_spread_X2 hown hK.1 hM 2 (ldR_F h22) rfl (by decide) (hts _ q_X2_spread_1) (fun _ h9 => h9) dX2_spread_22 ?_
    replace h := o_b h; obtain ⟨x25, h25, h⟩ := h
    refine m_get (C := RX4) (T := TX4) (N := 8) (ci := 4) hx hb hts qi_X2_spread_X4 hown hK.1 hM 0 (ldI_F h25) rfl (by decide) (hts _ q_X2_spread_3) (fun _ h9 => h9) dX2_spread_25 ?_
    refine lv_icmp_ge (tgt := 45) hx hb dX2_spread_28 (by decide) (fun c28 => ?_) (fun c28 => ?_)
    · replace h := o_t c28 h
      refine lv_aload_n hx hb dX2_spread_45 rfl (lv_at hl 0 rfl) ?_
      replace h := o_b h; obtain ⟨x46, h46, h⟩ := h
      refine m_get (C := RX2) (T := TX2) (N := 5) (ci := 2) hx hb hts qi_X2_spread_X2 hown hK.1 hM 2 (ldR_F h46) rfl (by decide) (hts _ q_X2_spread_1) (fun _ h9 => h9) dX2_spread_46 ?_
      replace h := o_b h; obtain ⟨x49, h49, h⟩ := h
      refine m_get (C := RX4) (T := TX4) (N := 8) (ci := 4) hx hb hts qi_X2_spread_X4 hown hK.1 hM 0 (ldI_F h49) rfl (by decide) (hts _ q_X2_spread_3) (fun _ h9 => h9) dX2_spread_49 ?_
      refine lv_iconst (v := (1 : Int32)) hx hb dX2_spread_52 (by decide) ?_
      refine lv_isub hx hb dX2_spread_53 ?_
      refine lv_istore_n (lv' := [(3, .int (x49 - (1 : Int32))), (0, .ref v0), (1, .int v1), (2, .int v2)]) hx hb dX2_spread_54 rfl hl (by decide) rfl (fun ls hl => ?_)
      exact w_X2_spread_55 C0 hk4 FU _ _ _ _ _ h _ _ _ hM hS (lv_sub hl [1, 2, 3, 0] rfl)
    replace h := o_f c28 h
    refine lv_iload_n hx hb dX2_spread_31 rfl (lv_at hl 1 rfl) ?_
    refine lv_aload_n hx hb dX2_spread_32 rfl (lv_at hl 0 rfl) ?_
    refine lv_iload_n hx hb dX2_spread_33 rfl (lv_at hl 3 rfl) ?_
    replace h := o_b h; obtain ⟨_, k34, h⟩ := h
    replace h := o_b h; obtain ⟨q34, h34, h⟩ := h
    refine m_call (va_runV (As := [.int v3]) (rest := [.int v1]) ⟨hx, hb, hml, hown, hts⟩ (c_X2_grows l D b0 sz h34) (cwV 1 hts gX2_spread_X2_grows rfl rfl rfl (by decide +kernel) ⟨Nat.le_of_ble_eq_true rfl, Nat.le_of_ble_eq_true rfl⟩) ⟨PW.blind, m_recv (ci := 2) rfl hK hM k34, (fun U hU hW => ⟨rfl, PW.call hK hM hS hU hW⟩)⟩ rfl rfl hl.1 rfl (lv_room (Nat.le_of_ble_eq_true rfl)) dX2_spread_34 ⟨(Nat.le_refl _), (Nat.le_refl _)⟩) hS (fun H locs hM hS => ?_)
    refine lv_ior hx hb dX2_spread_37 ?_
    refine lv_istore_n (lv' := [(1, .int (v1 ||| q34.1)), (0, .ref v0), (2, .int v2), (3, .int v3)]) hx hb dX2_spread_38 rfl hl (by decide) rfl (fun ls hl => ?_)
    refine lv_iinc (v := (v3 + (1 : Int32))) (lv' := [(3, .int (v3 + (1 : Int32))), (1, .int (v1 ||| q34.1)), (0, .ref v0), (2, .int v2)]) hx hb dX2_spread_39 hl (k := 3) rfl rfl (by decide) rfl (fun ls hl => ?_)
    refine lv_goto (tgt := 20) hx hb dX2_spread_42 (by decide) ?_
    exact ih _ _ _ _ _ h _ _ _ hM hS (lv_sub hl [2, 1, 3, 0] rfl)
set_option maxHeartbeats 4000000 in
set_option maxRecDepth 100000 in
theorem w_X2_spread_4 (C0 : CX cX2_spread 4 none wsX2_spread RX2 p s m args meth c D b0) {res : mmF} : ∀ (n : Nat), ∀ (v0 : Nat) (v1 : Int32) (v2 : Int32) (f : mmF), f_X2_spread_4 n v0 v1 v2 f = some res → ∀ (H : Heap) (locs : List Loc) (ls : Array Slot), MM vwCl D b0 f sz s H → mS b0 s H locs → lv_has ls 4 [(0, .ref v0), (1, .int v1), (2, .int v2)] → W p l e ({ frames := 3, cells := 0, slots := 0, locals := 73 } : Room) s m args below meth c H locs 0 0 (MQ below (QW D b0 none res sz) args s 0 0 (fun q => b0 ≤ q)) (F0 m 4 ls []) := by
  obtain ⟨hx, hb, hr, hml, hown, hts, hlocks, hK⟩ := id C0
  intro n
  induction n with
  | zero =>
    intro v0 v1 v2 f h
    have h : (none : Option (mmF)) = some res := h
    cases h
  | succ n ih =>
    intro v0 v1 v2 f h H locs ls hM hS hl
    rw [f_X2_spread_4] at h
    refine lv_iload_n hx hb dX2_spread_4 rfl (lv_at hl 1 rfl) ?_
    refine lv_if_eq (tgt := 83) hx hb dX2_spread_5 (by decide) (fun c5 => ?_) (fun c5 => ?_)
    · replace h := o_t c5 h
      replace h := Option.some.inj h; subst h
      exact W.vret hx hb hr (fun t ht hW => ⟨rfl, by rw [ht]; exact hM.moved hW.alike, hS.F ht⟩) hS.2.2 dX2_spread_83
    replace h := o_f c5 h
    refine lv_iload_n hx hb dX2_spread_8 rfl (lv_at hl 2 rfl) ?_
    refine lv_sipush (v := (151 : Int32)) hx hb dX2_spread_9 (by decide) ?_
    refine lv_icmp_gt (tgt := 83) hx hb dX2_spread_12 (by decide) (fun c12 => ?_) (fun c12 => ?_)
    · replace h := o_t c12 h
      replace h := Option.some.inj h; subst h
      exact W.vret hx hb hr (fun t ht hW => ⟨rfl, by rw [ht]; exact hM.moved hW.alike, hS.F ht⟩) hS.2.2 dX2_spread_83
    replace h := o_f c12 h
    refine lv_iconst (v := (0 : Int32)) hx hb dX2_spread_15 (by decide) ?_
    refine lv_istore_n (lv' := [(1, .int (0 : Int32)), (0, .ref v0), (2, .int v2)]) hx hb dX2_spread_16 rfl hl (by decide) rfl (fun ls hl => ?_)
    refine lv_bipush (v := (6 : Int32)) hx hb dX2_spread_17 (by decide) ?_
    refine lv_istore_n (lv' := [(3, .int (6 : Int32)), (1, .int (0 : Int32)), (0, .ref v0), (2, .int v2)]) hx hb dX2_spread_19 rfl hl (by decide) rfl (fun ls hl => ?_)
    exact w_X2_spread_20 C0 ih FU _ _ _ _ _ h _ _ _ hM hS (lv_sub hl [2, 1, 3, 0] rfl)
set_option maxHeartbeats 4000000 in
set_option maxRecDepth 100000 in
theorem w_X2_spread (C0 : CX cX2_spread 4 none wsX2_spread RX2 p s m args meth c D b0) {v0 : Nat} {res : mmF} (h : f_X2_spread v0 f = some res) : ∀ (H : Heap) (locs : List Loc) (ls : Array Slot), MM vwCl D b0 f sz s H → mS b0 s H locs → lv_has ls 4 [(0, .ref v0)] → W p l e ({ frames := 3, cells := 0, slots := 0, locals := 73 } : Room) s m args below meth c H locs 0 0 (MQ below (QW D b0 none res sz) args s 0 0 (fun q => b0 ≤ q)) (F0 m 0 ls []) := by
  obtain ⟨hx, hb, hr, hml, hown, hts, hlocks, hK⟩ := id C0
  intro H locs ls hM hS hl
  unfold f_X2_spread at h
  refine lv_iconst (v := (1 : Int32)) hx hb dX2_spread_0 (by decide) ?_
  refine lv_istore_n (lv' := [(1, .int (1 : Int32)), (0, .ref v0)]) hx hb dX2_spread_1 rfl hl (by decide) rfl (fun ls hl => ?_)
  refine lv_iconst (v := (0 : Int32)) hx hb dX2_spread_2 (by decide) ?_
  refine lv_istore_n (lv' := [(2, .int (0 : Int32)), (1, .int (1 : Int32)), (0, .ref v0)]) hx hb dX2_spread_3 rfl hl (by decide) rfl (fun ls hl => ?_)
  exact w_X2_spread_4 C0 FU _ _ _ _ h _ _ _ hM hS (lv_sub hl [2, 1, 0] rfl)
set_option maxHeartbeats 4000000 in
set_option maxRecDepth 100000 in
theorem c_X2_spread (l : Launch) (D : mmD) (b0 sz : Nat) {v0 : Nat} {f : mmF} {res : mmF} (h : f_X2_spread v0 f = some res) : Met l yX2_spread wsX2_spread ({ frames := 3, cells := 0, slots := 0, locals := 73 } : Room) (va_Pc [.ref v0] (PW D b0 f sz)) (QW D b0 none res sz) 0 0 (fun q => b0 ≤ q) := by
  refine Met.ofW (cc := cX2_spread) (maxL := 4) (ret := none) (by decide) rfl ?_
  intro p e s m args below meth c s₁ B hml hv
  obtain ⟨rfl, hM, hK⟩ := hv
  have hl := lv_entry ([.ref v0]) (n := 4) (Nat.le_of_ble_eq_true rfl)
  rw [lg_entry_eq]
  generalize (lg_sl ([.ref v0]) ++ List.replicate (4 - (lg_sl ([.ref v0])).length) Slot.unset).toArray = ls at hl ⊢
  have hl : lv_has ls 4 [(0, .ref v0)] := hl
  exact w_X2_spread ⟨B.exec, B.bytes, B.returns, hml, findClass_of_methodNamed B.named, atoms_spec (ws := wsX2_spread) B.pre, B.notSynchronized, hK⟩ h s.heap [] ls hM va_S.rf hl
end S_X2_spread
/-! X3_isWithin -/
set_option maxRecDepth 20000 in
theorem q_X3_isWithin_0 : Cond.constantLong RX3 19 (-1) ∈ wsX3_isWithin := by decide +kernel
noncomputable def f_X3_isWithin_3  (f : mmF) : Nat → Nat → Int32 → Nat → Int32 → Int32 → Option (Int32)
  | 0, _, _, _, _, _ => none
  | n + 1, v0, v1, v2, v3, v4 =>
    if (3 : Int32) ≤ v4 then
    (some ((1 : Int32)))
    else
    (ckO f v0 3).bind fun _ =>
    (f_X3_word v0 v1 v4 f).bind fun q13 =>
    (ckO f v2 3).bind fun _ =>
    (f_X3_word v2 v3 v4 f).bind fun q20 =>
    if (lg_cmp (q13 &&& (q20 ^^^ (-1 : Int64))) (0 : Int64)) = 0 then
    (f_X3_isWithin_3 f n v0 v1 v2 v3 (v4 + (1 : Int32)))
    else
    some ((0 : Int32))
noncomputable def f_X3_isWithin (v0 : Nat) (v1 : Int32) (v2 : Nat) (v3 : Int32) (f : mmF) : Option (Int32) :=
  f_X3_isWithin_3 f FU v0 v1 v2 v3 (0 : Int32)
section S_X3_isWithin
variable {p : Program} {l : Launch} {e : Env} {s : State} {m : MethodId} {args : Array Value} {below : List Frame} {meth : Method} {c : Code} {D : mmD} {b0 sz : Nat} {f : mmF}
set_option maxHeartbeats 4000000 in
set_option maxRecDepth 100000 in
theorem w_X3_isWithin_3 (C0 : CX cX3_isWithin 5 (some .boolean) wsX3_isWithin RX3 p s m args meth c D b0) {res : Int32} : ∀ (n : Nat), ∀ (v0 : Nat) (v1 : Int32) (v2 : Nat) (v3 : Int32) (v4 : Int32), f_X3_isWithin_3 f n v0 v1 v2 v3 v4 = some res → ∀ (H : Heap) (locs : List Loc) (ls : Array Slot), MM vwCl D b0 f sz s H → mS b0 s H locs → lv_has ls 5 [(0, .ref v0), (1, .int v1), (2, .ref v2), (3, .int v3), (4, .int v4)] → W p l e ({ frames := 1, cells := 0, slots := 0, locals := 23 } : Room) s m args below meth c H locs 0 0 (MQ below (QW D b0 (some (.int res)) f sz) args s 0 0 (fun q => b0 ≤ q)) (F0 m 3 ls []) := by
  obtain ⟨hx, hb, hr, hml, hown, hts, hlocks, hK⟩ := id C0
  intro n
  induction n with
  | zero =>
    intro v0 v1 v2 v3 v4 h
    have h : (none : Option (Int32)) = some res := h
    cases h
  | succ n ih =>
    intro v0 v1 v2 v3 v4 h H locs ls hM hS hl
    rw [f_X3_isWithin_3] at h
    refine lv_iload hx hb dX3_isWithin_3 (lv_at hl 4 rfl) ?_
    refine lv_iconst (v := (3 : Int32)) hx hb dX3_isWithin_5 (by decide) ?_
    refine lv_icmp_ge (tgt := 41) hx hb dX3_isWithin_6 (by decide) (fun c6 => ?_) (fun c6 => ?_)
    · replace h := o_t c6 h
      refine lv_iconst (v := (1 : Int32)) hx hb dX3_isWithin_41 (by decide) ?_
      replace h := Option.some.inj h; subst h
      exact W.zret hx hb hr rfl (fun t ht hW => ⟨rfl, by rw [ht]; exact hM.moved hW.alike, hS.F ht⟩) hS.2.2 dX3_isWithin_42
    replace h := o_f c6 h
    refine lv_aload_n hx hb dX3_isWithin_9 rfl (lv_at hl 0 rfl) ?_
    refine lv_iload_n hx hb dX3_isWithin_10 rfl (lv_at hl 1 rfl) ?_
    refine lv_iload hx hb dX3_isWithin_11 (lv_at hl 4 rfl) ?_
    replace h := o_b h; obtain ⟨_, k13, h⟩ := h
    replace h := o_b h; obtain ⟨q13, h13, h⟩ := h
    refine m_call (va_runV (As := [.int v1, .int v4]) (rest := []) ⟨hx, hb, hml, hown, hts⟩ (c_X3_word l D b0 sz h13) (cwV 2 hts gX3_isWithin_X3_word rfl rfl rfl (by decide +kernel) ⟨Nat.le_of_ble_eq_true rfl, Nat.le_of_ble_eq_true rfl⟩) ⟨PW.blind, m_recv (ci := 3) rfl hK hM k13, (fun U hU hW => ⟨rfl, PW.call hK hM hS hU hW⟩)⟩ rfl rfl hl.1 rfl (lv_room (Nat.le_of_ble_eq_true rfl)) dX3_isWithin_13 ⟨(Nat.le_refl _), (Nat.le_refl _)⟩) hS (fun H locs hM hS => ?_)
    refine lv_aload_n hx hb dX3_isWithin_16 rfl (lv_at hl 2 rfl) ?_
    refine lv_iload_n hx hb dX3_isWithin_17 rfl (lv_at hl 3 rfl) ?_
    refine lv_iload hx hb dX3_isWithin_18 (lv_at hl 4 rfl) ?_
    replace h := o_b h; obtain ⟨_, k20, h⟩ := h
    replace h := o_b h; obtain ⟨q20, h20, h⟩ := h
    refine m_call (va_runV (As := [.int v3, .int v4]) (rest := [.long q13]) ⟨hx, hb, hml, hown, hts⟩ (c_X3_word l D b0 sz h20) (cwV 2 hts gX3_isWithin_X3_word rfl rfl rfl (by decide +kernel) ⟨Nat.le_of_ble_eq_true rfl, Nat.le_of_ble_eq_true rfl⟩) ⟨PW.blind, m_recv (ci := 3) rfl hK hM k20, (fun U hU hW => ⟨rfl, PW.call hK hM hS hU hW⟩)⟩ rfl rfl hl.1 rfl (lv_room (Nat.le_of_ble_eq_true rfl)) dX3_isWithin_20 ⟨(Nat.le_refl _), (Nat.le_refl _)⟩) hS (fun H locs hM hS => ?_)
    refine lv_ldc2 (v := (-1 : Int64)) hx hb hown (hts _ q_X3_isWithin_0) dX3_isWithin_23 ?_
    refine lv_lxor hx hb dX3_isWithin_26 ?_
    refine lv_land hx hb dX3_isWithin_27 ?_
    refine lv_lconst (v := (0 : Int64)) hx hb dX3_isWithin_28 (by decide) ?_
    refine W.lcmp hx hb dX3_isWithin_29 ?_
    refine lv_if_eq (tgt := 35) hx hb dX3_isWithin_30 (by decide) (fun c30 => ?_) (fun c30 => ?_)
    · replace h := o_t c30 h
      refine lv_iinc (v := (v4 + (1 : Int32))) (lv' := [(4, .int (v4 + (1 : Int32))), (0, .ref v0), (1, .int v1), (2, .ref v2), (3, .int v3)]) hx hb dX3_isWithin_35 hl (k := 4) rfl rfl (by decide) rfl (fun ls hl => ?_)
      refine lv_goto (tgt := 3) hx hb dX3_isWithin_38 (by decide) ?_
      exact ih _ _ _ _ _ h _ _ _ hM hS (lv_sub hl [1, 2, 3, 4, 0] rfl)
    replace h := o_f c30 h
    refine lv_iconst (v := (0 : Int32)) hx hb dX3_isWithin_33 (by decide) ?_
    replace h := Option.some.inj h; subst h
    exact W.zret hx hb hr rfl (fun t ht hW => ⟨rfl, by rw [ht]; exact hM.moved hW.alike, hS.F ht⟩) hS.2.2 dX3_isWithin_34
set_option maxHeartbeats 4000000 in
set_option maxRecDepth 100000 in
theorem w_X3_isWithin (C0 : CX cX3_isWithin 5 (some .boolean) wsX3_isWithin RX3 p s m args meth c D b0) {v0 : Nat} {v1 : Int32} {v2 : Nat} {v3 : Int32} {res : Int32} (h : f_X3_isWithin v0 v1 v2 v3 f = some res) : ∀ (H : Heap) (locs : List Loc) (ls : Array Slot), MM vwCl D b0 f sz s H → mS b0 s H locs → lv_has ls 5 [(0, .ref v0), (1, .int v1), (2, .ref v2), (3, .int v3)] → W p l e ({ frames := 1, cells := 0, slots := 0, locals := 23 } : Room) s m args below meth c H locs 0 0 (MQ below (QW D b0 (some (.int res)) f sz) args s 0 0 (fun q => b0 ≤ q)) (F0 m 0 ls []) := by
  obtain ⟨hx, hb, hr, hml, hown, hts, hlocks, hK⟩ := id C0
  intro H locs ls hM hS hl
  unfold f_X3_isWithin at h
  refine lv_iconst (v := (0 : Int32)) hx hb dX3_isWithin_0 (by decide) ?_
  refine lv_istore (lv' := [(4, .int (0 : Int32)), (0, .ref v0), (1, .int v1), (2, .ref v2), (3, .int v3)]) hx hb dX3_isWithin_1 hl (by decide) rfl (fun ls hl => ?_)
  exact w_X3_isWithin_3 C0 FU _ _ _ _ _ h _ _ _ hM hS (lv_sub hl [1, 2, 3, 4, 0] rfl)
set_option maxHeartbeats 4000000 in
set_option maxRecDepth 100000 in
theorem c_X3_isWithin (l : Launch) (D : mmD) (b0 sz : Nat) {v0 : Nat} {v1 : Int32} {v2 : Nat} {v3 : Int32} {f : mmF} {res : Int32} (h : f_X3_isWithin v0 v1 v2 v3 f = some res) : Met l yX3_isWithin wsX3_isWithin ({ frames := 1, cells := 0, slots := 0, locals := 23 } : Room) (va_Pc [.ref v0, .int v1, .ref v2, .int v3] (PW D b0 f sz)) (QW D b0 (some (.int res)) f sz) 0 0 (fun q => b0 ≤ q) := by
  refine Met.ofW (cc := cX3_isWithin) (maxL := 5) (ret := (some .boolean)) (by decide) rfl ?_
  intro p e s m args below meth c s₁ B hml hv
  obtain ⟨rfl, hM, hK⟩ := hv
  have hl := lv_entry ([.ref v0, .int v1, .ref v2, .int v3]) (n := 5) (Nat.le_of_ble_eq_true rfl)
  rw [lg_entry_eq]
  generalize (lg_sl ([.ref v0, .int v1, .ref v2, .int v3]) ++ List.replicate (5 - (lg_sl ([.ref v0, .int v1, .ref v2, .int v3])).length) Slot.unset).toArray = ls at hl ⊢
  have hl : lv_has ls 5 [(0, .ref v0), (1, .int v1), (2, .ref v2), (3, .int v3)] := hl
  exact w_X3_isWithin ⟨B.exec, B.bytes, B.returns, hml, findClass_of_methodNamed B.named, atoms_spec (ws := wsX3_isWithin) B.pre, B.notSynchronized, hK⟩ h s.heap [] ls hM va_S.rf hl
end S_X3_isWithin
