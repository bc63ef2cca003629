/-! X10_noClaim -/
set_option maxRecDepth 20000 in
theorem qi_X10_noClaim_X10 : ∀ w ∈ u_ws RX10 TX10 25, w ∈ wsX10_noClaim := by decide +kernel
set_option maxRecDepth 20000 in
theorem q_X10_noClaim_1 : Cond.fieldLink RX10 7 "StageTruthsModel" "now" "[I" ∈ wsX10_noClaim := by decide +kernel
noncomputable def f_X10_noClaim (v0 : Nat) (v1 : Int32) (f : mmF) : Option (Int32) :=
  (f_X10_noPlace v1 f).bind fun q1 =>
  if q1 = 0 then
  ((ldR f v0 10 0).bind fun x8 =>
  (ldA 0 f x8 ((17 : Int32) + ((31 : Int32) * v1))).bind fun x18 =>
  if x18 = 0 then
  (some ((1 : Int32)))
  else
  some ((0 : Int32)))
  else
  some ((1 : Int32))
section S_X10_noClaim
variable {p : Program} {l : Launch} {e : Env} {s : State} {m : MethodId} {args : Array Value} {below : List Frame} {meth : Method} {c : Code} {D : mmD} {b0 sz : Nat} {f : mmF}
set_option maxHeartbeats 4000000 in
set_option maxRecDepth 100000 in
theorem w_X10_noClaim (C0 : CX cX10_noClaim 2 (some .boolean) wsX10_noClaim RX10 p s m args meth c D b0) {v0 : Nat} {v1 : Int32} {res : Int32} (h : f_X10_noClaim v0 v1 f = some res) : ∀ (H : Heap) (locs : List Loc) (ls : Array Slot), MM vwCl D b0 f sz s H → mS b0 s H locs → lv_has ls 2 [(0, .ref v0), (1, .int v1)] → W p l e ({ frames := 2, cells := 0, slots := 0, locals := 42 } : Room) s m args below meth c H locs 0 0 (MQ below (QW D b0 (some (.int res)) f sz) args s 0 0 (fun q => b0 ≤ q)) (F0 m 0 ls []) := by
  obtain ⟨hx, hb, hr, hml, hown, hts, hlocks, hK⟩ := id C0
  intro H locs ls hM hS hl
  unfold f_X10_noClaim at h
  refine lv_iload_n hx hb dX10_noClaim_0 rfl (lv_at hl 1 rfl) ?_
  replace h := o_b h; obtain ⟨q1, h1, h⟩ := h
  refine m_call (va_runS (As := [.int v1]) (rest := []) ⟨hx, hb, hml, hown, hts⟩ (c_X10_noPlace l D b0 sz h1) (va_cwS 1 hts gX10_noClaim_X10_noPlace rfl rfl rfl (by decide +kernel) ⟨Nat.le_of_ble_eq_true rfl, Nat.le_of_ble_eq_true rfl⟩) ⟨PW.blind, (fun U hU hW => ⟨rfl, PW.call hK hM hS hU hW⟩)⟩ rfl rfl hl.1 rfl (lv_room (Nat.le_of_ble_eq_true rfl)) dX10_noClaim_1 ⟨(Nat.le_refl _), (Nat.le_refl _)⟩) hS (fun H locs hM hS => ?_)
  refine lv_if_ne (tgt := 22) hx hb dX10_noClaim_4 (by decide) (fun c4 => ?_) (fun c4 => ?_)
  · replace h := o_f c4 h
    refine lv_iconst (v := (1 : Int32)) hx hb dX10_noClaim_22 (by decide) ?_
    refine lv_goto (tgt := 27) hx hb dX10_noClaim_23 (by decide) ?_
    replace h := Option.some.inj h; subst h
    exact W.zret hx hb hr rfl (fun t ht hW => ⟨rfl, by rw [ht]; exact hM.moved hW.alike, hS.F ht⟩) hS.2.2 dX10_noClaim_27
  replace h := o_t c4 h
  refine lv_aload_n hx hb dX10_noClaim_7 rfl (lv_at hl 0 rfl) ?_
  replace h := o_b h; obtain ⟨x8, h8, h⟩ := h
  refine m_get (C := RX10) (T := TX10) (N := 25) (ci := 10) hx hb hts qi_X10_noClaim_X10 hown hK.1 hM 0 (ldR_F h8) rfl (by decide) (hts _ q_X10_noClaim_1) (fun _ h9 => h9) dX10_noClaim_8 ?_
  refine lv_bipush (v := (17 : Int32)) hx hb dX10_noClaim_11 (by decide) ?_
  refine lv_bipush (v := (31 : Int32)) hx hb dX10_noClaim_13 (by decide) ?_
  refine lv_iload_n hx hb dX10_noClaim_15 rfl (lv_at hl 1 rfl) ?_
  refine lv_imul hx hb dX10_noClaim_16 ?_
  refine lv_iadd hx hb dX10_noClaim_17 ?_
  replace h := o_b h; obtain ⟨x18, h18, h⟩ := h
  refine m_iald hx hb hK.1 hM hS rfl h18 dX10_noClaim_18 ?_
  refine lv_if_ne (tgt := 26) hx hb dX10_noClaim_19 (by decide) (fun c19 => ?_) (fun c19 => ?_)
  · replace h := o_f c19 h
    refine lv_iconst (v := (0 : Int32)) hx hb dX10_noClaim_26 (by decide) ?_
    replace h := Option.some.inj h; subst h
    exact W.zret hx hb hr rfl (fun t ht hW => ⟨rfl, by rw [ht]; exact hM.moved hW.alike, hS.F ht⟩) hS.2.2 dX10_noClaim_27
  replace h := o_t c19 h
  refine lv_iconst (v := (1 : Int32)) hx hb dX10_noClaim_22 (by decide) ?_
  refine lv_goto (tgt := 27) hx hb dX10_noClaim_23 (by decide) ?_
  replace h := Option.some.inj h; subst h
  exact W.zret hx hb hr rfl (fun t ht hW => ⟨rfl, by rw [ht]; exact hM.moved hW.alike, hS.F ht⟩) hS.2.2 dX10_noClaim_27
set_option maxHeartbeats 4000000 in
set_option maxRecDepth 100000 in
theorem c_X10_noClaim (l : Launch) (D : mmD) (b0 sz : Nat) {v0 : Nat} {v1 : Int32} {f : mmF} {res : Int32} (h : f_X10_noClaim v0 v1 f = some res) : Met l yX10_noClaim wsX10_noClaim ({ frames := 2, cells := 0, slots := 0, locals := 42 } : Room) (va_Pc [.ref v0, .int v1] (PW D b0 f sz)) (QW D b0 (some (.int res)) f sz) 0 0 (fun q => b0 ≤ q) := by
  refine Met.ofW (cc := cX10_noClaim) (maxL := 2) (ret := (some .boolean)) (by decide) rfl ?_
  intro p e s m args below meth c s₁ B hml hv
  obtain ⟨rfl, hM, hK⟩ := hv
  have hl := lv_entry ([.ref v0, .int v1]) (n := 2) (Nat.le_of_ble_eq_true rfl)
  rw [lg_entry_eq]
  generalize (lg_sl ([.ref v0, .int v1]) ++ List.replicate (2 - (lg_sl ([.ref v0, .int v1])).length) Slot.unset).toArray = ls at hl ⊢
  have hl : lv_has ls 2 [(0, .ref v0), (1, .int v1)] := hl
  exact w_X10_noClaim ⟨B.exec, B.bytes, B.returns, hml, findClass_of_methodNamed B.named, atoms_spec (ws := wsX10_noClaim) B.pre, B.notSynchronized, hK⟩ h s.heap [] ls hM va_S.rf hl
end S_X10_noClaim
/-! X10_bits -/
noncomputable def f_X10_bits_4  (f : mmF) : Nat → Int32 → Int32 → Int32 → Option (Int32)
  | 0, _, _, _ => none
  | n + 1, v0, v1, v2 =>
    if (16 : Int32) ≤ v2 then
    (some (v1))
    else
    f_X10_bits_4 f n v0 (v1 + ((v0 >>> (v2 &&& 31)) &&& (1 : Int32))) (v2 + (1 : Int32))
noncomputable def f_X10_bits (v0 : Int32) (f : mmF) : Option (Int32) :=
  f_X10_bits_4 f FU v0 (0 : Int32) (0 : Int32)
section S_X10_bits
variable {p : Program} {l : Launch} {e : Env} {s : State} {m : MethodId} {args : Array Value} {below : List Frame} {meth : Method} {c : Code} {D : mmD} {b0 sz : Nat} {f : mmF}
set_option maxHeartbeats 4000000 in
set_option maxRecDepth 100000 in
theorem w_X10_bits_4 (C0 : CX cX10_bits 3 (some .int) wsX10_bits RX10 p s m args meth c D b0) {res : Int32} : ∀ (n : Nat), ∀ (v0 : Int32) (v1 : Int32) (v2 : Int32), f_X10_bits_4 f n v0 v1 v2 = some res → ∀ (H : Heap) (locs : List Loc) (ls : Array Slot), MM vwCl D b0 f sz s H → mS b0 s H locs → lv_has ls 3 [(0, .int v0), (1, .int v1), (2, .int v2)] → W p l e ({ frames := 0, cells := 0, slots := 0, locals := 0 } : Room) s m args below meth c H locs 0 0 (MQ below (QW D b0 (some (.int res)) f sz) args s 0 0 (fun q => b0 ≤ q)) (F0 m 4 ls []) := by
  obtain ⟨hx, hb, hr, hml, hown, hts, hlocks, hK⟩ := id C0
  intro n
  induction n with
  | zero =>
    intro v0 v1 v2 h
    have h : (none : Option (Int32)) = some res := h
    cases h
  | succ n ih =>
    intro v0 v1 v2 h H locs ls hM hS hl
    rw [f_X10_bits_4] at h
    refine lv_iload_n hx hb dX10_bits_4 rfl (lv_at hl 2 rfl) ?_
    refine lv_bipush (v := (16 : Int32)) hx hb dX10_bits_5 (by decide) ?_
    refine lv_icmp_ge (tgt := 24) hx hb dX10_bits_7 (by decide) (fun c7 => ?_) (fun c7 => ?_)
    · replace h := o_t c7 h
      refine lv_iload_n hx hb dX10_bits_24 rfl (lv_at hl 1 rfl) ?_
      replace h := Option.some.inj h; subst h
      exact W.iret hx hb hr (fun t ht hW => ⟨rfl, by rw [ht]; exact hM.moved hW.alike, hS.F ht⟩) hS.2.2 dX10_bits_25
    replace h := o_f c7 h
    refine lv_iload_n hx hb dX10_bits_10 rfl (lv_at hl 1 rfl) ?_
    refine lv_iload_n hx hb dX10_bits_11 rfl (lv_at hl 0 rfl) ?_
    refine lv_iload_n hx hb dX10_bits_12 rfl (lv_at hl 2 rfl) ?_
    refine lv_ishr hx hb dX10_bits_13 ?_
    refine lv_iconst (v := (1 : Int32)) hx hb dX10_bits_14 (by decide) ?_
    refine lv_iand hx hb dX10_bits_15 ?_
    refine lv_iadd hx hb dX10_bits_16 ?_
    refine lv_istore_n (lv' := [(1, .int (v1 + ((v0 >>> (v2 &&& 31)) &&& (1 : Int32)))), (0, .int v0), (2, .int v2)]) hx hb dX10_bits_17 rfl hl (by decide) rfl (fun ls hl => ?_)
    refine lv_iinc (v := (v2 + (1 : Int32))) (lv' := [(2, .int (v2 + (1 : Int32))), (1, .int (v1 + ((v0 >>> (v2 &&& 31)) &&& (1 : Int32)))), (0, .int v0)]) hx hb dX10_bits_18 hl (k := 2) rfl rfl (by decide) rfl (fun ls hl => ?_)
    refine lv_goto (tgt := 4) hx hb dX10_bits_21 (by decide) ?_
    exact ih _ _ _ h _ _ _ hM hS (lv_sub hl [2, 1, 0] rfl)
set_option maxHeartbeats 4000000 in
set_option maxRecDepth 100000 in
theorem w_X10_bits (C0 : CX cX10_bits 3 (some .int) wsX10_bits RX10 p s m args meth c D b0) {v0 : Int32} {res : Int32} (h : f_X10_bits v0 f = some res) : ∀ (H : Heap) (locs : List Loc) (ls : Array Slot), MM vwCl D b0 f sz s H → mS b0 s H locs → lv_has ls 3 [(0, .int v0)] → W p l e ({ frames := 0, cells := 0, slots := 0, locals := 0 } : Room) s m args below meth c H locs 0 0 (MQ below (QW D b0 (some (.int res)) f sz) args s 0 0 (fun q => b0 ≤ q)) (F0 m 0 ls []) := by
  obtain ⟨hx, hb, hr, hml, hown, hts, hlocks, hK⟩ := id C0
  intro H locs ls hM hS hl
  unfold f_X10_bits at h
  refine lv_iconst (v := (0 : Int32)) hx hb dX10_bits_0 (by decide) ?_
  refine lv_istore_n (lv' := [(1, .int (0 : Int32)), (0, .int v0)]) hx hb dX10_bits_1 rfl hl (by decide) rfl (fun ls hl => ?_)
  refine lv_iconst (v := (0 : Int32)) hx hb dX10_bits_2 (by decide) ?_
  refine lv_istore_n (lv' := [(2, .int (0 : Int32)), (1, .int (0 : Int32)), (0, .int v0)]) hx hb dX10_bits_3 rfl hl (by decide) rfl (fun ls hl => ?_)
  exact w_X10_bits_4 C0 FU _ _ _ h _ _ _ hM hS (lv_sub hl [2, 1, 0] rfl)
set_option maxHeartbeats 4000000 in
set_option maxRecDepth 100000 in
theorem c_X10_bits (l : Launch) (D : mmD) (b0 sz : Nat) {v0 : Int32} {f : mmF} {res : Int32} (h : f_X10_bits v0 f = some res) : Met l yX10_bits wsX10_bits ({ frames := 0, cells := 0, slots := 0, locals := 0 } : Room) (va_Pc [.int v0] (PW D b0 f sz)) (QW D b0 (some (.int res)) f sz) 0 0 (fun q => b0 ≤ q) := by
  refine Met.ofW (cc := cX10_bits) (maxL := 3) (ret := (some .int)) (by decide) rfl ?_
  intro p e s m args below meth c s₁ B hml hv
  obtain ⟨rfl, hM, hK⟩ := hv
  have hl := lv_entry ([.int v0]) (n := 3) (Nat.le_of_ble_eq_true rfl)
  rw [lg_entry_eq]
  generalize (lg_sl ([.int v0]) ++ List.replicate (3 - (lg_sl ([.int v0])).length) Slot.unset).toArray = ls at hl ⊢
  have hl : lv_has ls 3 [(0, .int v0)] := hl
  exact w_X10_bits ⟨B.exec, B.bytes, B.returns, hml, findClass_of_methodNamed B.named, atoms_spec (ws := wsX10_bits) B.pre, B.notSynchronized, hK⟩ h s.heap [] ls hM va_S.rf hl
end S_X10_bits
/-! X10_record -/
set_option maxRecDepth 20000 in
theorem qi_X10_record_X10 : ∀ w ∈ u_ws RX10 TX10 25, w ∈ wsX10_record := by decide +kernel
set_option maxRecDepth 20000 in
theorem q_X10_record_1 : Cond.fieldLink RX10 74 "StageTruthsModel" "kept" "I" ∈ wsX10_record := by decide +kernel
set_option maxRecDepth 20000 in
theorem q_X10_record_2 : Cond.fieldLink RX10 13 "StageTruthsModel" "history" "[I" ∈ wsX10_record := by decide +kernel
set_option maxRecDepth 20000 in
theorem q_X10_record_3 : Cond.fieldLink RX10 7 "StageTruthsModel" "now" "[I" ∈ wsX10_record := by decide +kernel
noncomputable def f_X10_record_51   : Nat → Nat → Int32 → mmF → Option (mmF)
  | 0, _, _, _ => none
  | n + 1, v0, v1, f =>
    if (172 : Int32) ≤ v1 then
    ((ldI f v0 10 2).bind fun x87 =>
    (stF f v0 10 2 (.int (x87 + (1 : Int32)))).bind fun f92 =>
    some (f92))
    else
    (ldR f v0 10 1).bind fun x59 =>
    (ldI f v0 10 2).bind fun x66 =>
    (ldR f v0 10 0).bind fun x73 =>
    (ldA 0 f x73 v1).bind fun x77 =>
    (stA 0 f x59 (((172 : Int32) * x66) + v1) x77).bind fun f78 =>
    f_X10_record_51 n v0 (v1 + (1 : Int32)) f78
noncomputable def f_X10_record_49   (v0 : Nat) (f : mmF) : Option (mmF) :=
  f_X10_record_51 FU v0 (0 : Int32) f
noncomputable def f_X10_record_10   : Nat → Nat → Int32 → mmF → Option (mmF)
  | 0, _, _, _ => none
  | n + 1, v0, v1, f =>
    if (516 : Int32) ≤ v1 then
    ((ldI f v0 10 2).bind fun x41 =>
    (stF f v0 10 2 (.int (x41 - (1 : Int32)))).bind fun f46 =>
    f_X10_record_49 v0 f46)
    else
    (ldR f v0 10 1).bind fun x18 =>
    (ldR f v0 10 1).bind fun x23 =>
    (ldA 0 f x23 (v1 + (172 : Int32))).bind fun x31 =>
    (stA 0 f x18 v1 x31).bind fun f32 =>
    f_X10_record_10 n v0 (v1 + (1 : Int32)) f32
noncomputable def f_X10_record (v0 : Nat) (f : mmF) : Option (mmF) :=
  (ldI f v0 10 2).bind fun x1 =>
  if x1 = (4 : Int32) then
  (f_X10_record_10 FU v0 (0 : Int32) f)
  else
  f_X10_record_49 v0 f
section S_X10_record
variable {p : Program} {l : Launch} {e : Env} {s : State} {m : MethodId} {args : Array Value} {below : List Frame} {meth : Method} {c : Code} {D : mmD} {b0 sz : Nat} {f : mmF}
set_option maxHeartbeats 4000000 in
set_option maxRecDepth 100000 in
theorem w_X10_record_51 (C0 : CX cX10_record 2 none wsX10_record RX10 p s m args meth c D b0) {res : mmF} : ∀ (n : Nat), ∀ (v0 : Nat) (v1 : Int32) (f : mmF), f_X10_record_51 n v0 v1 f = some res → ∀ (H : Heap) (locs : List Loc) (ls : Array Slot), MM vwCl D b0 f sz s H → mS b0 s H locs → lv_has ls 2 [(0, .ref v0), (1, .int v1)] → W p l e ({ frames := 0, cells := 0, slots := 0, locals := 0 } : Room) s m args below meth c H locs 0 0 (MQ below (QW D b0 none res sz) args s 0 0 (fun q => b0 ≤ q)) (F0 m 51 ls []) := by
  obtain ⟨hx, hb, hr, hml, hown, hts, hlocks, hK⟩ := id C0
  intro n
  induction n with
  | zero =>
    intro v0 v1 f h
    have h : (none : Option (mmF)) = some res := h
    cases h
  | succ n ih =>
    intro v0 v1 f h H locs ls hM hS hl
    rw [f_X10_record_51] at h
    refine lv_iload_n hx hb dX10_record_51 rfl (lv_at hl 1 rfl) ?_
    refine lv_sipush (v := (172 : Int32)) hx hb dX10_record_52 (by decide) ?_
    refine lv_icmp_ge (tgt := 85) hx hb dX10_record_55 (by decide) (fun c55 => ?_) (fun c55 => ?_)
    · replace h := o_t c55 h
      refine lv_aload_n hx hb dX10_record_85 rfl (lv_at hl 0 rfl) ?_
      refine lv_dup hx hb dX10_record_86 rfl ?_
      replace h := o_b h; obtain ⟨x87, h87, h⟩ := h
      refine m_get (C := RX10) (T := TX10) (N := 25) (ci := 10) hx hb hts qi_X10_record_X10 hown hK.1 hM 2 (ldI_F h87) rfl (by decide) (hts _ q_X10_record_1) (fun _ h9 => h9) dX10_record_87 ?_
      refine lv_iconst (v := (1 : Int32)) hx hb dX10_record_90 (by decide) ?_
      refine lv_iadd hx hb dX10_record_91 ?_
      replace h := o_b h; obtain ⟨f92, h92, h⟩ := h
      refine m_put (ty := .int) (C := RX10) (T := TX10) (N := 25) (ci := 10) hx hb hts qi_X10_record_X10 tyX10 tyX10_ok nmX10 hown hK.1 hM hS 2 h92 rfl (by decide) (hts _ q_X10_record_1) (fun _ h9 => h9) rfl (by decide +kernel) rfl rfl dX10_record_92 (fun H locs hM hS => ?_)
      replace h := Option.some.inj h; subst h
      exact W.vret hx hb hr (fun t ht hW => ⟨rfl, by rw [ht]; exact hM.moved hW.alike, hS.F ht⟩) hS.2.2 dX10_record_95
    replace h := o_f c55 h
    refine lv_aload_n hx hb dX10_record_58 rfl (lv_at hl 0 rfl) ?_
    replace h := o_b h; obtain ⟨x59, h59, h⟩ := h
    refine m_get (C := RX10) (T := TX10) (N := 25) (ci := 10) hx hb hts qi_X10_record_X10 hown hK.1 hM 1 (ldR_F h59) rfl (by decide) (hts _ q_X10_record_2) (fun _ h9 => h9) dX10_record_59 ?_
    refine lv_sipush (v := (172 : Int32)) hx hb dX10_record_62 (by decide) ?_
    refine lv_aload_n hx hb dX10_record_65 rfl (lv_at hl 0 rfl) ?_
    replace h := o_b h; obtain ⟨x66, h66, h⟩ := h
    refine m_get (C := RX10) (T := TX10) (N := 25) (ci := 10) hx hb hts qi_X10_record_X10 hown hK.1 hM 2 (ldI_F h66) rfl (by decide) (hts _ q_X10_record_1) (fun _ h9 => h9) dX10_record_66 ?_
    refine lv_imul hx hb dX10_record_69 ?_
    refine lv_iload_n hx hb dX10_record_70 rfl (lv_at hl 1 rfl) ?_
    refine lv_iadd hx hb dX10_record_71 ?_
    refine lv_aload_n hx hb dX10_record_72 rfl (lv_at hl 0 rfl) ?_
    replace h := o_b h; obtain ⟨x73, h73, h⟩ := h
    refine m_get (C := RX10) (T := TX10) (N := 25) (ci := 10) hx hb hts qi_X10_record_X10 hown hK.1 hM 0 (ldR_F h73) rfl (by decide) (hts _ q_X10_record_3) (fun _ h9 => h9) dX10_record_73 ?_
    refine lv_iload_n hx hb dX10_record_76 rfl (lv_at hl 1 rfl) ?_
    replace h := o_b h; obtain ⟨x77, h77, h⟩ := h
    refine m_iald hx hb hK.1 hM hS rfl h77 dX10_record_77 ?_
    replace h := o_b h; obtain ⟨f78, h78, h⟩ := h
    refine m_iast hx hb hK.1 hM hS rfl h78 dX10_record_78 (fun H locs hM hS => ?_)
    refine lv_iinc (v := (v1 + (1 : Int32))) (lv' := [(1, .int (v1 + (1 : Int32))), (0, .ref v0)]) hx hb dX10_record_79 hl (k := 1) rfl rfl (by decide) rfl (fun ls hl => ?_)
    refine lv_goto (tgt := 51) hx hb dX10_record_82 (by decide) ?_
    exact ih _ _ _ h _ _ _ hM hS (lv_sub hl [1, 0] rfl)
set_option maxHeartbeats 4000000 in
set_option maxRecDepth 100000 in
theorem w_X10_record_49 (C0 : CX cX10_record 2 none wsX10_record RX10 p s m args meth c D b0) {res : mmF} : ∀ (v0 : Nat) (f : mmF), f_X10_record_49 v0 f = some res → ∀ (H : Heap) (locs : List Loc) (ls : Array Slot), MM vwCl D b0 f sz s H → mS b0 s H locs → lv_has ls 2 [(0, .ref v0)] → W p l e ({ frames := 0, cells := 0, slots := 0, locals := 0 } : Room) s m args below meth c H locs 0 0 (MQ below (QW D b0 none res sz) args s 0 0 (fun q => b0 ≤ q)) (F0 m 49 ls []) := by
  obtain ⟨hx, hb, hr, hml, hown, hts, hlocks, hK⟩ := id C0
  intro v0 f h H locs ls hM hS hl
  unfold f_X10_record_49 at h
  refine lv_iconst (v := (0 : Int32)) hx hb dX10_record_49 (by decide) ?_
  refine lv_istore_n (lv' := [(1, .int (0 : Int32)), (0, .ref v0)]) hx hb dX10_record_50 rfl hl (by decide) rfl (fun ls hl => ?_)
  exact w_X10_record_51 C0 FU _ _ _ h _ _ _ hM hS (lv_sub hl [1, 0] rfl)
set_option maxHeartbeats 4000000 in
set_option maxRecDepth 100000 in
theorem w_X10_record_10 (C0 : CX cX10_record 2 none wsX10_record RX10 p s m args meth c D b0) {res : mmF} : ∀ (n : Nat), ∀ (v0 : Nat) (v1 : Int32) (f : mmF), f_X10_record_10 n v0 v1 f = some res → ∀ (H : Heap) (locs : List Loc) (ls : Array Slot), MM vwCl D b0 f sz s H → mS b0 s H locs → lv_has ls 2 [(0, .ref v0), (1, .int v1)] → W p l e ({ frames := 0, cells := 0, slots := 0, locals := 0 } : Room) s m args below meth c H locs 0 0 (MQ below (QW D b0 none res sz) args s 0 0 (fun q => b0 ≤ q)) (F0 m 10 ls []) := by
  obtain ⟨hx, hb, hr, hml, hown, hts, hlocks, hK⟩ := id C0
  intro n
  induction n with
  | zero =>
    intro v0 v1 f h
    have h : (none : Option (mmF)) = some res := h
    cases h
  | succ n ih =>
    intro v0 v1 f h H locs ls hM hS hl
    rw [f_X10_record_10] at h
    refine lv_iload_n hx hb dX10_record_10 rfl (lv_at hl 1 rfl) ?_
    refine lv_sipush (v := (516 : Int32)) hx hb dX10_record_11 (by decide) ?_
    refine lv_icmp_ge (tgt := 39) hx hb dX10_record_14 (by decide) (fun c14 => ?_) (fun c14 => ?_)
    · replace h := o_t c14 h
      refine lv_aload_n hx hb dX10_record_39 rfl (lv_at hl 0 rfl) ?_
      refine lv_dup hx hb dX10_record_40 rfl ?_
      replace h := o_b h; obtain ⟨x41, h41, h⟩ := h
      refine m_get (C := RX10) (T := TX10) (N := 25) (ci := 10) hx hb hts qi_X10_record_X10 hown hK.1 hM 2 (ldI_F h41) rfl (by decide) (hts _ q_X10_record_1) (fun _ h9 => h9) dX10_record_41 ?_
      refine lv_iconst (v := (1 : Int32)) hx hb dX10_record_44 (by decide) ?_
      refine lv_isub hx hb dX10_record_45 ?_
      replace h := o_b h; obtain ⟨f46, h46, h⟩ := h
      refine m_put (ty := .int) (C := RX10) (T := TX10) (N := 25) (ci := 10) hx hb hts qi_X10_record_X10 tyX10 tyX10_ok nmX10 hown hK.1 hM hS 2 h46 rfl (by decide) (hts _ q_X10_record_1) (fun _ h9 => h9) rfl (by decide +kernel) rfl rfl dX10_record_46 (fun H locs hM hS => ?_)
      exact w_X10_record_49 C0 _ _ h _ _ _ hM hS (lv_sub hl [0] rfl)
    replace h := o_f c14 h
    refine lv_aload_n hx hb dX10_record_17 rfl (lv_at hl 0 rfl) ?_
    replace h := o_b h; obtain ⟨x18, h18, h⟩ := h
    refine m_get (C := RX10) (T := TX10) (N := 25) (ci := 10) hx hb hts qi_X10_record_X10 hown hK.1 hM 1 (ldR_F h18) rfl (by decide) (hts _ q_X10_record_2) (fun _ h9 => h9) dX10_record_18 ?_
    refine lv_iload_n hx hb dX10_record_21 rfl (lv_at hl 1 rfl) ?_
    refine lv_aload_n hx hb dX10_record_22 rfl (lv_at hl 0 rfl) ?_
    replace h := o_b h; obtain ⟨x23, h23, h⟩ := h
    refine m_get (C := RX10) (T := TX10) (N := 25) (ci := 10) hx hb hts qi_X10_record_X10 hown hK.1 hM 1 (ldR_F h23) rfl (by decide) (hts _ q_X10_record_2) (fun _ h9 => h9) dX10_record_23 ?_
    refine lv_iload_n hx hb dX10_record_26 rfl (lv_at hl 1 rfl) ?_
    refine lv_sipush (v := (172 : Int32)) hx hb dX10_record_27 (by decide) ?_
    refine lv_iadd hx hb dX10_record_30 ?_
    replace h := o_b h; obtain ⟨x31, h31, h⟩ := h
    refine m_iald hx hb hK.1 hM hS rfl h31 dX10_record_31 ?_
    replace h := o_b h; obtain ⟨f32, h32, h⟩ := h
    refine m_iast hx hb hK.1 hM hS rfl h32 dX10_record_32 (fun H locs hM hS => ?_)
    refine lv_iinc (v := (v1 + (1 : Int32))) (lv' := [(1, .int (v1 + (1 : Int32))), (0, .ref v0)]) hx hb dX10_record_33 hl (k := 1) rfl rfl (by decide) rfl (fun ls hl => ?_)
    refine lv_goto (tgt := 10) hx hb dX10_record_36 (by decide) ?_
    exact ih _ _ _ h _ _ _ hM hS (lv_sub hl [1, 0] rfl)
set_option maxHeartbeats 4000000 in
set_option maxRecDepth 100000 in
theorem w_X10_record (C0 : CX cX10_record 2 none wsX10_record RX10 p s m args meth c D b0) {v0 : Nat} {res : mmF} (h : f_X10_record v0 f = some res) : ∀ (H : Heap) (locs : List Loc) (ls : Array Slot), MM vwCl D b0 f sz s H → mS b0 s H locs → lv_has ls 2 [(0, .ref v0)] → W p l e ({ frames := 0, cells := 0, slots := 0, locals := 0 } : Room) s m args below meth c H locs 0 0 (MQ below (QW D b0 none res sz) args s 0 0 (fun q => b0 ≤ q)) (F0 m 0 ls []) := by
  obtain ⟨hx, hb, hr, hml, hown, hts, hlocks, hK⟩ := id C0
  intro H locs ls hM hS hl
  unfold f_X10_record at h
  refine lv_aload_n hx hb dX10_record_0 rfl (lv_at hl 0 rfl) ?_
  replace h := o_b h; obtain ⟨x1, h1, h⟩ := h
  refine m_get (C := RX10) (T := TX10) (N := 25) (ci := 10) hx hb hts qi_X10_record_X10 hown hK.1 hM 2 (ldI_F h1) rfl (by decide) (hts _ q_X10_record_1) (fun _ h9 => h9) dX10_record_1 ?_
  refine lv_iconst (v := (4 : Int32)) hx hb dX10_record_4 (by decide) ?_
  refine lv_icmp_ne (tgt := 49) hx hb dX10_record_5 (by decide) (fun c5 => ?_) (fun c5 => ?_)
  · replace h := o_f c5 h
    exact w_X10_record_49 C0 _ _ h _ _ _ hM hS (lv_sub hl [0] rfl)
  replace h := o_t c5 h
  refine lv_iconst (v := (0 : Int32)) hx hb dX10_record_8 (by decide) ?_
  refine lv_istore_n (lv' := [(1, .int (0 : Int32)), (0, .ref v0)]) hx hb dX10_record_9 rfl hl (by decide) rfl (fun ls hl => ?_)
  exact w_X10_record_10 C0 FU _ _ _ h _ _ _ hM hS (lv_sub hl [1, 0] rfl)
set_option maxHeartbeats 4000000 in
set_option maxRecDepth 100000 in
theorem c_X10_record (l : Launch) (D : mmD) (b0 sz : Nat) {v0 : Nat} {f : mmF} {res : mmF} (h : f_X10_record v0 f = some res) : Met l yX10_record wsX10_record ({ frames := 0, cells := 0, slots := 0, locals := 0 } : Room) (va_Pc [.ref v0] (PW D b0 f sz)) (QW D b0 none res sz) 0 0 (fun q => b0 ≤ q) := by
  refine Met.ofW (cc := cX10_record) (maxL := 2) (ret := none) (by decide) rfl ?_
  intro p e s m args below meth c s₁ B hml hv
  obtain ⟨rfl, hM, hK⟩ := hv
  have hl := lv_entry ([.ref v0]) (n := 2) (Nat.le_of_ble_eq_true rfl)
  rw [lg_entry_eq]
  generalize (lg_sl ([.ref v0]) ++ List.replicate (2 - (lg_sl ([.ref v0])).length) Slot.unset).toArray = ls at hl ⊢
  have hl : lv_has ls 2 [(0, .ref v0)] := hl
  exact w_X10_record ⟨B.exec, B.bytes, B.returns, hml, findClass_of_methodNamed B.named, atoms_spec (ws := wsX10_record) B.pre, B.notSynchronized, hK⟩ h s.heap [] ls hM va_S.rf hl
end S_X10_record
/-! X10_knownAt -/
set_option maxRecDepth 20000 in
theorem qi_X10_knownAt_X10 : ∀ w ∈ u_ws RX10 TX10 25, w ∈ wsX10_knownAt := by decide +kernel
set_option maxRecDepth 20000 in
theorem q_X10_knownAt_1 : Cond.fieldLink RX10 7 "StageTruthsModel" "now" "[I" ∈ wsX10_knownAt := by decide +kernel
noncomputable def f_X10_knownAt_4  (f : mmF) : Nat → Nat → Int32 → Int32 → Int32 → Option (Int32)
  | 0, _, _, _, _ => none
  | n + 1, v0, v1, v2, v3 =>
    (ldR f v0 10 0).bind fun x6 =>
    (ldA 0 f x6 (16 : Int32)).bind fun x11 =>
    if x11 ≤ v3 then
    (some (v2))
    else
    (ldR f v0 10 0).bind fun x17 =>
    (ldA 0 f x17 ((8 : Int32) + v3)).bind fun x24 =>
    f_X10_knownAt_4 f n v0 v1 (v2 ||| (((x24 >>> (v1 &&& 31)) &&& (1 : Int32)) <<< (v3 &&& 31))) (v3 + (1 : Int32))
noncomputable def f_X10_knownAt (v0 : Nat) (v1 : Int32) (f : mmF) : Option (Int32) :=
  f_X10_knownAt_4 f FU v0 v1 (0 : Int32) (0 : Int32)
section S_X10_knownAt
variable {p : Program} {l : Launch} {e : Env} {s : State} {m : MethodId} {args : Array Value} {below : List Frame} {meth : Method} {c : Code} {D : mmD} {b0 sz : Nat} {f : mmF}
set_option maxHeartbeats 4000000 in
set_option maxRecDepth 100000 in
theorem w_X10_knownAt_4 (C0 : CX cX10_knownAt 4 (some .int) wsX10_knownAt RX10 p s m args meth c D b0) {res : Int32} : ∀ (n : Nat), ∀ (v0 : Nat) (v1 : Int32) (v2 : Int32) (v3 : Int32), f_X10_knownAt_4 f n v0 v1 v2 v3 = some res → ∀ (H : Heap) (locs : List Loc) (ls : Array Slot), MM vwCl D b0 f sz s H → mS b0 s H locs → lv_has ls 4 [(0, .ref v0), (1, .int v1), (2, .int v2), (3, .int v3)] → W p l e ({ frames := 0, cells := 0, slots := 0, locals := 0 } : Room) s m args below meth c H locs 0 0 (MQ below (QW D b0 (some (.int res)) f sz) args s 0 0 (fun q => b0 ≤ q)) (F0 m 4 ls []) := by
  obtain ⟨hx, hb, hr, hml, hown, hts, hlocks, hK⟩ := id C0
  intro n
  induction n with
  | zero =>
    intro v0 v1 v2 v3 h
    have h : (none : Option (Int32)) = some res := h
    cases h
  | succ n ih =>
    intro v0 v1 v2 v3 h H locs ls hM hS hl
    rw [f_X10_knownAt_4] at h
    refine lv_iload_n hx hb dX10_knownAt_4 rfl (lv_at hl 3 rfl) ?_
    refine lv_aload_n hx hb dX10_knownAt_5 rfl (lv_at hl 0 rfl) ?_
    replace h := o_b h; obtain ⟨x6, h6, h⟩ := h
    refine m_get (C := RX10) (T := TX10) (N := 25) (ci := 10) hx hb hts qi_X10_knownAt_X10 hown hK.1 hM 0 (ldR_F h6) rfl (by decide) (hts _ q_X10_knownAt_1) (fun _ h9 => h9) dX10_knownAt_6 ?_
    refine lv_bipush (v := (16 : Int32)) hx hb dX10_knownAt_9 (by decide) ?_
    replace h := o_b h; obtain ⟨x11, h11, h⟩ := h
    refine m_iald hx hb hK.1 hM hS rfl h11 dX10_knownAt_11 ?_
    refine lv_icmp_ge (tgt := 39) hx hb dX10_knownAt_12 (by decide) (fun c12 => ?_) (fun c12 => ?_)
    · replace h := o_t c12 h
      refine lv_iload_n hx hb dX10_knownAt_39 rfl (lv_at hl 2 rfl) ?_
      replace h := Option.some.inj h; subst h
      exact W.iret hx hb hr (fun t ht hW => ⟨rfl, by rw [ht]; exact hM.moved hW.alike, hS.F ht⟩) hS.2.2 dX10_knownAt_40
    replace h := o_f c12 h
    refine lv_iload_n hx hb dX10_knownAt_15 rfl (lv_at hl 2 rfl) ?_
    refine lv_aload_n hx hb dX10_knownAt_16 rfl (lv_at hl 0 rfl) ?_
    replace h := o_b h; obtain ⟨x17, h17, h⟩ := h
    refine m_get (C := RX10) (T := TX10) (N := 25) (ci := 10) hx hb hts qi_X10_knownAt_X10 hown hK.1 hM 0 (ldR_F h17) rfl (by decide) (hts _ q_X10_knownAt_1) (fun _ h9 => h9) dX10_knownAt_17 ?_
    refine lv_bipush (v := (8 : Int32)) hx hb dX10_knownAt_20 (by decide) ?_
    refine lv_iload_n hx hb dX10_knownAt_22 rfl (lv_at hl 3 rfl) ?_
    refine lv_iadd hx hb dX10_knownAt_23 ?_
    replace h := o_b h; obtain ⟨x24, h24, h⟩ := h
    refine m_iald hx hb hK.1 hM hS rfl h24 dX10_knownAt_24 ?_
    refine lv_iload_n hx hb dX10_knownAt_25 rfl (lv_at hl 1 rfl) ?_
    refine lv_ishr hx hb dX10_knownAt_26 ?_
    refine lv_iconst (v := (1 : Int32)) hx hb dX10_knownAt_27 (by decide) ?_
    refine lv_iand hx hb dX10_knownAt_28 ?_
    refine lv_iload_n hx hb dX10_knownAt_29 rfl (lv_at hl 3 rfl) ?_
    refine lv_ishl hx hb dX10_knownAt_30 ?_
    refine lv_ior hx hb dX10_knownAt_31 ?_
    refine lv_istore_n (lv' := [(2, .int (v2 ||| (((x24 >>> (v1 &&& 31)) &&& (1 : Int32)) <<< (v3 &&& 31)))), (0, .ref v0), (1, .int v1), (3, .int v3)]) hx hb dX10_knownAt_32 rfl hl (by decide) rfl (fun ls hl => ?_)
    refine lv_iinc (v := (v3 + (1 : Int32))) (lv' := [(3, .int (v3 + (1 : Int32))), (2, .int (v2 ||| (((x24 >>> (v1 &&& 31)) &&& (1 : Int32)) <<< (v3 &&& 31)))), (0, .ref v0), (1, .int v1)]) hx hb dX10_knownAt_33 hl (k := 3) rfl rfl (by decide) rfl (fun ls hl => ?_)
    refine lv_goto (tgt := 4) hx hb dX10_knownAt_36 (by decide) ?_
    exact ih _ _ _ _ h _ _ _ hM hS (lv_sub hl [2, 3, 1, 0] rfl)
set_option maxHeartbeats 4000000 in
set_option maxRecDepth 100000 in
theorem w_X10_knownAt (C0 : CX cX10_knownAt 4 (some .int) wsX10_knownAt RX10 p s m args meth c D b0) {v0 : Nat} {v1 : Int32} {res : Int32} (h : f_X10_knownAt v0 v1 f = some res) : ∀ (H : Heap) (locs : List Loc) (ls : Array Slot), MM vwCl D b0 f sz s H → mS b0 s H locs → lv_has ls 4 [(0, .ref v0), (1, .int v1)] → W p l e ({ frames := 0, cells := 0, slots := 0, locals := 0 } : Room) s m args below meth c H locs 0 0 (MQ below (QW D b0 (some (.int res)) f sz) args s 0 0 (fun q => b0 ≤ q)) (F0 m 0 ls []) := by
  obtain ⟨hx, hb, hr, hml, hown, hts, hlocks, hK⟩ := id C0
  intro H locs ls hM hS hl
  unfold f_X10_knownAt at h
  refine lv_iconst (v := (0 : Int32)) hx hb dX10_knownAt_0 (by decide) ?_
  refine lv_istore_n (lv' := [(2, .int (0 : Int32)), (0, .ref v0), (1, .int v1)]) hx hb dX10_knownAt_1 rfl hl (by decide) rfl (fun ls hl => ?_)
  refine lv_iconst (v := (0 : Int32)) hx hb dX10_knownAt_2 (by decide) ?_
  refine lv_istore_n (lv' := [(3, .int (0 : Int32)), (2, .int (0 : Int32)), (0, .ref v0), (1, .int v1)]) hx hb dX10_knownAt_3 rfl hl (by decide) rfl (fun ls hl => ?_)
  exact w_X10_knownAt_4 C0 FU _ _ _ _ h _ _ _ hM hS (lv_sub hl [2, 3, 1, 0] rfl)
set_option maxHeartbeats 4000000 in
set_option maxRecDepth 100000 in
theorem c_X10_knownAt (l : Launch) (D : mmD) (b0 sz : Nat) {v0 : Nat} {v1 : Int32} {f : mmF} {res : Int32} (h : f_X10_knownAt v0 v1 f = some res) : Met l yX10_knownAt wsX10_knownAt ({ frames := 0, cells := 0, slots := 0, locals := 0 } : Room) (va_Pc [.ref v0, .int v1] (PW D b0 f sz)) (QW D b0 (some (.int res)) f sz) 0 0 (fun q => b0 ≤ q) := by
  refine Met.ofW (cc := cX10_knownAt) (maxL := 4) (ret := (some .int)) (by decide) rfl ?_
  intro p e s m args below meth c s₁ B hml hv
  obtain ⟨rfl, hM, hK⟩ := hv
  have hl := lv_entry ([.ref v0, .int v1]) (n := 4) (Nat.le_of_ble_eq_true rfl)
  rw [lg_entry_eq]
  generalize (lg_sl ([.ref v0, .int v1]) ++ List.replicate (4 - (lg_sl ([.ref v0, .int v1])).length) Slot.unset).toArray = ls at hl ⊢
  have hl : lv_has ls 4 [(0, .ref v0), (1, .int v1)] := hl
  exact w_X10_knownAt ⟨B.exec, B.bytes, B.returns, hml, findClass_of_methodNamed B.named, atoms_spec (ws := wsX10_knownAt) B.pre, B.notSynchronized, hK⟩ h s.heap [] ls hM va_S.rf hl
end S_X10_knownAt
/-! X10_leadingTo -/
set_option maxRecDepth 20000 in
theorem qi_X10_leadingTo_X10 : ∀ w ∈ u_ws RX10 TX10 25, w ∈ wsX10_leadingTo := by decide +kernel
set_option maxRecDepth 20000 in
theorem q_X10_leadingTo_1 : Cond.fieldLink RX10 7 "StageTruthsModel" "now" "[I" ∈ wsX10_leadingTo := by decide +kernel
noncomputable def f_X10_leadingTo_32 (k4 : Nat → Int32 → Int32 → Int32 → Option (Int32)) (f : mmF) (v0 : Nat) (v1 : Int32) (v3 : Int32) (t0 : Int32) (t1 : Int32) : Option (Int32) :=
  k4 v0 v1 (t0 ||| t1) (v3 + (1 : Int32))
noncomputable def f_X10_leadingTo_4  (f : mmF) : Nat → Nat → Int32 → Int32 → Int32 → Option (Int32)
  | 0, _, _, _, _ => none
  | n + 1, v0, v1, v2, v3 =>
    (ldR f v0 10 0).bind fun x6 =>
    (ldA 0 f x6 (16 : Int32)).bind fun x11 =>
    if x11 ≤ v3 then
    (some (v2))
    else
    (ckO f v0 10).bind fun _ =>
    (f_X10_leadsTo v0 v3 v1 f).bind fun q19 =>
    if q19 = 0 then
    (f_X10_leadingTo_32 (fun a0 a1 a2 a3 => f_X10_leadingTo_4 f n a0 a1 a2 a3) f v0 v1 v3 v2 (0 : Int32))
    else
    f_X10_leadingTo_32 (fun a0 a1 a2 a3 => f_X10_leadingTo_4 f n a0 a1 a2 a3) f v0 v1 v3 v2 ((1 : Int32) <<< (v3 &&& 31))
noncomputable def f_X10_leadingTo (v0 : Nat) (v1 : Int32) (f : mmF) : Option (Int32) :=
  f_X10_leadingTo_4 f FU v0 v1 (0 : Int32) (0 : Int32)
section S_X10_leadingTo
variable {p : Program} {l : Launch} {e : Env} {s : State} {m : MethodId} {args : Array Value} {below : List Frame} {meth : Method} {c : Code} {D : mmD} {b0 sz : Nat} {f : mmF}
set_option maxHeartbeats 4000000 in
set_option maxRecDepth 100000 in
theorem w_X10_leadingTo_32 (C0 : CX cX10_leadingTo 4 (some .int) wsX10_leadingTo RX10 p s m args meth c D b0) {k4 : Nat → Int32 → Int32 → Int32 → Option (Int32)} {res : Int32} (hk4 : ∀ (v0 : Nat) (v1 : Int32) (v2 : Int32) (v3 : Int32), k4 v0 v1 v2 v3 = some res → ∀ (H : Heap) (locs : List Loc) (ls : Array Slot), MM vwCl D b0 f sz s H → mS b0 s H locs → lv_has ls 4 [(0, .ref v0), (1, .int v1), (2, .int v2), (3, .int v3)] → W p l e ({ frames := 1, cells := 0, slots := 0, locals := 22 } : Room) s m args below meth c H locs 0 0 (MQ below (QW D b0 (some (.int res)) f sz) args s 0 0 (fun q => b0 ≤ q)) (F0 m 4 ls [])) : ∀ (v0 : Nat) (v1 : Int32) (v3 : Int32) (t0 : Int32) (t1 : Int32), f_X10_leadingTo_32 k4 f v0 v1 v3 t0 t1 = some res → ∀ (H : Heap) (locs : List Loc) (ls : Array Slot), MM vwCl D b0 f sz s H → mS b0 s H locs → lv_has ls 4 [(0, .ref v0), (1, .int v1), (3, .int v3)] → W p l e ({ frames := 1, cells := 0, slots := 0, locals := 22 } : Room) s m args below meth c H locs 0 0 (MQ below (QW D b0 (some (.int res)) f sz) args s 0 0 (fun q => b0 ≤ q)) (F0 m 32 ls [.int t1, .int t0]) := by
  obtain ⟨hx, hb, hr, hml, hown, hts, hlocks, hK⟩ := id C0
  intro v0 v1 v3 t0 t1 h H locs ls hM hS hl
  unfold f_X10_leadingTo_32 at h
  refine lv_ior hx hb dX10_leadingTo_32 ?_
  refine lv_istore_n (lv' := [(2, .int (t0 ||| t1)), (0, .ref v0), (1, .int v1), (3, .int v3)]) hx hb dX10_leadingTo_33 rfl hl (by decide) rfl (fun ls hl => ?_)
  refine lv_iinc (v := (v3 + (1 : Int32))) (lv' := [(3, .int (v3 + (1 : Int32))), (2, .int (t0 ||| t1)), (0, .ref v0), (1, .int v1)]) hx hb dX10_leadingTo_34 hl (k := 3) rfl rfl (by decide) rfl (fun ls hl => ?_)
  refine lv_goto (tgt := 4) hx hb dX10_leadingTo_37 (by decide) ?_
  exact hk4 _ _ _ _ h _ _ _ hM hS (lv_sub hl [2, 3, 1, 0] rfl)
set_option maxHeartbeats 4000000 in
set_option maxRecDepth 100000 in
theorem w_X10_leadingTo_4 (C0 : CX cX10_leadingTo 4 (some .int) wsX10_leadingTo RX10 p s m args meth c D b0) {res : Int32} : ∀ (n : Nat), ∀ (v0 : Nat) (v1 : Int32) (v2 : Int32) (v3 : Int32), f_X10_leadingTo_4 f n v0 v1 v2 v3 = some res → ∀ (H : Heap) (locs : List Loc) (ls : Array Slot), MM vwCl D b0 f sz s H → mS b0 s H locs → lv_has ls 4 [(0, .ref v0), (1, .int v1), (2, .int v2), (3, .int v3)] → W p l e ({ frames := 1, cells := 0, slots := 0, locals := 22 } : Room) s m args below meth c H locs 0 0 (MQ below (QW D b0 (some (.int res)) f sz) args s 0 0 (fun q => b0 ≤ q)) (F0 m 4 ls []) := by
  obtain ⟨hx, hb, hr, hml, hown, hts, hlocks, hK⟩ := id C0
  intro n
  induction n with
  | zero =>
    intro v0 v1 v2 v3 h
    have h : (none : Option (Int32)) = some res := h
    cases h
  | succ n ih =>
    intro v0 v1 v2 v3 h H locs ls hM hS hl
    rw [f_X10_leadingTo_4] at h
    refine lv_iload_n hx hb dX10_leadingTo_4 rfl (lv_at hl 3 rfl) ?_
    refine lv_aload_n hx hb dX10_leadingTo_5 rfl (lv_at hl 0 rfl) ?_
    replace h := o_b h; obtain ⟨x6, h6, h⟩ := h
    refine m_get (C := RX10) (T := TX10) (N := 25) (ci := 10) hx hb hts qi_X10_leadingTo_X10 hown hK.1 hM 0 (ldR_F h6) rfl (by decide) (hts _ q_X10_leadingTo_1) (fun _ h9 => h9) dX10_leadingTo_6 ?_
    refine lv_bipush (v := (16 : Int32)) hx hb dX10_leadingTo_9 (by decide) ?_
    replace h := o_b h; obtain ⟨x11, h11, h⟩ := h
    refine m_iald hx hb hK.1 hM hS rfl h11 dX10_leadingTo_11 ?_
    refine lv_icmp_ge (tgt := 40) hx hb dX10_leadingTo_12 (by decide) (fun c12 => ?_) (fun c12 => ?_)
    · replace h := o_t c12 h
      refine lv_iload_n hx hb dX10_leadingTo_40 rfl (lv_at hl 2 rfl) ?_
      replace h := Option.some.inj h; subst h
      exact W.iret hx hb hr (fun t ht hW => ⟨rfl, by rw [ht]; exact hM.moved hW.alike, hS.F ht⟩) hS.2.2 dX10_leadingTo_41
    replace h := o_f c12 h
    refine lv_iload_n hx hb dX10_leadingTo_15 rfl (lv_at hl 2 rfl) ?_
    refine lv_aload_n hx hb dX10_leadingTo_16 rfl (lv_at hl 0 rfl) ?_
    refine lv_iload_n hx hb dX10_leadingTo_17 rfl (lv_at hl 3 rfl) ?_
    refine lv_iload_n hx hb dX10_leadingTo_18 rfl (lv_at hl 1 rfl) ?_
    replace h := o_b h; obtain ⟨_, k19, h⟩ := h
    replace h := o_b h; obtain ⟨q19, h19, h⟩ := h
    refine m_call (va_runV (As := [.int v3, .int v1]) (rest := [.int v2]) ⟨hx, hb, hml, hown, hts⟩ (c_X10_leadsTo l D b0 sz h19) (cwV 2 hts gX10_leadingTo_X10_leadsTo rfl rfl rfl (by decide +kernel) ⟨Nat.le_of_ble_eq_true rfl, Nat.le_of_ble_eq_true rfl⟩) ⟨PW.blind, m_recv (ci := 10) rfl hK hM k19, (fun U hU hW => ⟨rfl, PW.call hK hM hS hU hW⟩)⟩ rfl rfl hl.1 rfl (lv_room (Nat.le_of_ble_eq_true rfl)) dX10_leadingTo_19 ⟨(Nat.le_refl _), (Nat.le_refl _)⟩) hS (fun H locs hM hS => ?_)
    refine lv_if_eq (tgt := 31) hx hb dX10_leadingTo_22 (by decide) (fun c22 => ?_) (fun c22 => ?_)
    · replace h := o_t c22 h
      refine lv_iconst (v := (0 : Int32)) hx hb dX10_leadingTo_31 (by decide) ?_
      exact w_X10_leadingTo_32 C0 ih _ _ _ _ _ h _ _ _ hM hS (lv_sub hl [0, 1, 3] rfl)
    replace h := o_f c22 h
    refine lv_iconst (v := (1 : Int32)) hx hb dX10_leadingTo_25 (by decide) ?_
    refine lv_iload_n hx hb dX10_leadingTo_26 rfl (lv_at hl 3 rfl) ?_
    refine lv_ishl hx hb dX10_leadingTo_27 ?_
    refine lv_goto (tgt := 32) hx hb dX10_leadingTo_28 (by decide) ?_
    exact w_X10_leadingTo_32 C0 ih _ _ _ _ _ h _ _ _ hM hS (lv_sub hl [0, 1, 3] rfl)
set_option maxHeartbeats 4000000 in
set_option maxRecDepth 100000 in
theorem w_X10_leadingTo (C0 : CX cX10_leadingTo 4 (some .int) wsX10_leadingTo RX10 p s m args meth c D b0) {v0 : Nat} {v1 : Int32} {res : Int32} (h : f_X10_leadingTo v0 v1 f = some res) : ∀ (H : Heap) (locs : List Loc) (ls : Array Slot), MM vwCl D b0 f sz s H → mS b0 s H locs → lv_has ls 4 [(0, .ref v0), (1, .int v1)] → W p l e ({ frames := 1, cells := 0, slots := 0, locals := 22 } : Room) s m args below meth c H locs 0 0 (MQ below (QW D b0 (some (.int res)) f sz) args s 0 0 (fun q => b0 ≤ q)) (F0 m 0 ls []) := by
  obtain ⟨hx, hb, hr, hml, hown, hts, hlocks, hK⟩ := id C0
  intro H locs ls hM hS hl
  unfold f_X10_leadingTo at h
  refine lv_iconst (v := (0 : Int32)) hx hb dX10_leadingTo_0 (by decide) ?_
  refine lv_istore_n (lv' := [(2, .int (0 : Int32)), (0, .ref v0), (1, .int v1)]) hx hb dX10_leadingTo_1 rfl hl (by decide) rfl (fun ls hl => ?_)
  refine lv_iconst (v := (0 : Int32)) hx hb dX10_leadingTo_2 (by decide) ?_
  refine lv_istore_n (lv' := [(3, .int (0 : Int32)), (2, .int (0 : Int32)), (0, .ref v0), (1, .int v1)]) hx hb dX10_leadingTo_3 rfl hl (by decide) rfl (fun ls hl => ?_)
  exact w_X10_leadingTo_4 C0 FU _ _ _ _ h _ _ _ hM hS (lv_sub hl [2, 3, 1, 0] rfl)
set_option maxHeartbeats 4000000 in
set_option maxRecDepth 100000 in
theorem c_X10_leadingTo (l : Launch) (D : mmD) (b0 sz : Nat) {v0 : Nat} {v1 : Int32} {f : mmF} {res : Int32} (h : f_X10_leadingTo v0 v1 f = some res) : Met l yX10_leadingTo wsX10_leadingTo ({ frames := 1, cells := 0, slots := 0, locals := 22 } : Room) (va_Pc [.ref v0, .int v1] (PW D b0 f sz)) (QW D b0 (some (.int res)) f sz) 0 0 (fun q => b0 ≤ q) := by
  refine Met.ofW (cc := cX10_leadingTo) (maxL := 4) (ret := (some .int)) (by decide) rfl ?_
  intro p e s m args below meth c s₁ B hml hv
  obtain ⟨rfl, hM, hK⟩ := hv
  have hl := lv_entry ([.ref v0, .int v1]) (n := 4) (Nat.le_of_ble_eq_true rfl)
  rw [lg_entry_eq]
  generalize (lg_sl ([.ref v0, .int v1]) ++ List.replicate (4 - (lg_sl ([.ref v0, .int v1])).length) Slot.unset).toArray = ls at hl ⊢
  have hl : lv_has ls 4 [(0, .ref v0), (1, .int v1)] := hl
  exact w_X10_leadingTo ⟨B.exec, B.bytes, B.returns, hml, findClass_of_methodNamed B.named, atoms_spec (ws := wsX10_leadingTo) B.pre, B.notSynchronized, hK⟩ h s.heap [] ls hM va_S.rf hl
end S_X10_leadingTo
/-! X10_pairs -/
set_option maxRecDepth 20000 in
theorem qi_X10_pairs_X10 : ∀ w ∈ u_ws RX10 TX10 25, w ∈ wsX10_pairs := by decide +kernel
set_option maxRecDepth 20000 in
theorem q_X10_pairs_1 : Cond.fieldLink RX10 7 "StageTruthsModel" "now" "[I" ∈ wsX10_pairs := by decide +kernel
noncomputable def f_X10_pairs_4  (f : mmF) : Nat → Nat → Int32 → Int32 → Option (Int32)
  | 0, _, _, _ => none
  | n + 1, v0, v1, v2 =>
    (ldR f v0 10 0).bind fun x6 =>
    (ldA 0 f x6 (16 : Int32)).bind fun x11 =>
    if x11 ≤ v2 then
    (some (v1))
    else
    (ldR f v0 10 0).bind fun x17 =>
    (ldA 0 f x17 ((0 : Int32) + v2)).bind fun x23 =>
    (f_X10_bits x23 f).bind fun q24 =>
    f_X10_pairs_4 f n v0 (v1 + (q24 - (1 : Int32))) (v2 + (1 : Int32))
noncomputable def f_X10_pairs (v0 : Nat) (f : mmF) : Option (Int32) :=
  f_X10_pairs_4 f FU v0 (0 : Int32) (0 : Int32)
section S_X10_pairs
variable {p : Program} {l : Launch} {e : Env} {s : State} {m : MethodId} {args : Array Value} {below : List Frame} {meth : Method} {c : Code} {D : mmD} {b0 sz : Nat} {f : mmF}
set_option maxHeartbeats 4000000 in
set_option maxRecDepth 100000 in
theorem w_X10_pairs_4 (C0 : CX cX10_pairs 3 (some .int) wsX10_pairs RX10 p s m args meth c D b0) {res : Int32} : ∀ (n : Nat), ∀ (v0 : Nat) (v1 : Int32) (v2 : Int32), f_X10_pairs_4 f n v0 v1 v2 = some res → ∀ (H : Heap) (locs : List Loc) (ls : Array Slot), MM vwCl D b0 f sz s H → mS b0 s H locs → lv_has ls 3 [(0, .ref v0), (1, .int v1), (2, .int v2)] → W p l e ({ frames := 1, cells := 0, slots := 0, locals := 22 } : Room) s m args below meth c H locs 0 0 (MQ below (QW D b0 (some (.int res)) f sz) args s 0 0 (fun q => b0 ≤ q)) (F0 m 4 ls []) := by
  obtain ⟨hx, hb, hr, hml, hown, hts, hlocks, hK⟩ := id C0
  intro n
  induction n with
  | zero =>
    intro v0 v1 v2 h
    have h : (none : Option (Int32)) = some res := h
    cases h
  | succ n ih =>
    intro v0 v1 v2 h H locs ls hM hS hl
    rw [f_X10_pairs_4] at h
    refine lv_iload_n hx hb dX10_pairs_4 rfl (lv_at hl 2 rfl) ?_
    refine lv_aload_n hx hb dX10_pairs_5 rfl (lv_at hl 0 rfl) ?_
    replace h := o_b h; obtain ⟨x6, h6, h⟩ := h
    refine m_get (C := RX10) (T := TX10) (N := 25) (ci := 10) hx hb hts qi_X10_pairs_X10 hown hK.1 hM 0 (ldR_F h6) rfl (by decide) (hts _ q_X10_pairs_1) (fun _ h9 => h9) dX10_pairs_6 ?_
    refine lv_bipush (v := (16 : Int32)) hx hb dX10_pairs_9 (by decide) ?_
    replace h := o_b h; obtain ⟨x11, h11, h⟩ := h
    refine m_iald hx hb hK.1 hM hS rfl h11 dX10_pairs_11 ?_
    refine lv_icmp_ge (tgt := 37) hx hb dX10_pairs_12 (by decide) (fun c12 => ?_) (fun c12 => ?_)
    · replace h := o_t c12 h
      refine lv_iload_n hx hb dX10_pairs_37 rfl (lv_at hl 1 rfl) ?_
      replace h := Option.some.inj h; subst h
      exact W.iret hx hb hr (fun t ht hW => ⟨rfl, by rw [ht]; exact hM.moved hW.alike, hS.F ht⟩) hS.2.2 dX10_pairs_38
    replace h := o_f c12 h
    refine lv_iload_n hx hb dX10_pairs_15 rfl (lv_at hl 1 rfl) ?_
    refine lv_aload_n hx hb dX10_pairs_16 rfl (lv_at hl 0 rfl) ?_
    replace h := o_b h; obtain ⟨x17, h17, h⟩ := h
    refine m_get (C := RX10) (T := TX10) (N := 25) (ci := 10) hx hb hts qi_X10_pairs_X10 hown hK.1 hM 0 (ldR_F h17) rfl (by decide) (hts _ q_X10_pairs_1) (fun _ h9 => h9) dX10_pairs_17 ?_
    refine lv_iconst (v := (0 : Int32)) hx hb dX10_pairs_20 (by decide) ?_
    refine lv_iload_n hx hb dX10_pairs_21 rfl (lv_at hl 2 rfl) ?_
    refine lv_iadd hx hb dX10_pairs_22 ?_
    replace h := o_b h; obtain ⟨x23, h23, h⟩ := h
    refine m_iald hx hb hK.1 hM hS rfl h23 dX10_pairs_23 ?_
    replace h := o_b h; obtain ⟨q24, h24, h⟩ := h
    refine m_call (va_runS (As := [.int x23]) (rest := [.int v1]) ⟨hx, hb, hml, hown, hts⟩ (c_X10_bits l D b0 sz h24) (va_cwS 1 hts gX10_pairs_X10_bits rfl rfl rfl (by decide +kernel) ⟨Nat.le_of_ble_eq_true rfl, Nat.le_of_ble_eq_true rfl⟩) ⟨PW.blind, (fun U hU hW => ⟨rfl, PW.call hK hM hS hU hW⟩)⟩ rfl rfl hl.1 rfl (lv_room (Nat.le_of_ble_eq_true rfl)) dX10_pairs_24 ⟨(Nat.le_refl _), (Nat.le_refl _)⟩) hS (fun H locs hM hS => ?_)
    refine lv_iconst (v := (1 : Int32)) hx hb dX10_pairs_27 (by decide) ?_
    refine lv_isub hx hb dX10_pairs_28 ?_
    refine lv_iadd hx hb dX10_pairs_29 ?_
    refine lv_istore_n (lv' := [(1, .int (v1 + (q24 - (1 : Int32)))), (0, .ref v0), (2, .int v2)]) hx hb dX10_pairs_30 rfl hl (by decide) rfl (fun ls hl => ?_)
    refine lv_iinc (v := (v2 + (1 : Int32))) (lv' := [(2, .int (v2 + (1 : Int32))), (1, .int (v1 + (q24 - (1 : Int32)))), (0, .ref v0)]) hx hb dX10_pairs_31 hl (k := 2) rfl rfl (by decide) rfl (fun ls hl => ?_)
    refine lv_goto (tgt := 4) hx hb dX10_pairs_34 (by decide) ?_
    exact ih _ _ _ h _ _ _ hM hS (lv_sub hl [2, 1, 0] rfl)
set_option maxHeartbeats 4000000 in
set_option maxRecDepth 100000 in
theorem w_X10_pairs (C0 : CX cX10_pairs 3 (some .int) wsX10_pairs RX10 p s m args meth c D b0) {v0 : Nat} {res : Int32} (h : f_X10_pairs v0 f = some res) : ∀ (H : Heap) (locs : List Loc) (ls : Array Slot), MM vwCl D b0 f sz s H → mS b0 s H locs → lv_has ls 3 [(0, .ref v0)] → W p l e ({ frames := 1, cells := 0, slots := 0, locals := 22 } : Room) s m args below meth c H locs 0 0 (MQ below (QW D b0 (some (.int res)) f sz) args s 0 0 (fun q => b0 ≤ q)) (F0 m 0 ls []) := by
  obtain ⟨hx, hb, hr, hml, hown, hts, hlocks, hK⟩ := id C0
  intro H locs ls hM hS hl
  unfold f_X10_pairs at h
  refine lv_iconst (v := (0 : Int32)) hx hb dX10_pairs_0 (by decide) ?_
  refine lv_istore_n (lv' := [(1, .int (0 : Int32)), (0, .ref v0)]) hx hb dX10_pairs_1 rfl hl (by decide) rfl (fun ls hl => ?_)
  refine lv_iconst (v := (0 : Int32)) hx hb dX10_pairs_2 (by decide) ?_
  refine lv_istore_n (lv' := [(2, .int (0 : Int32)), (1, .int (0 : Int32)), (0, .ref v0)]) hx hb dX10_pairs_3 rfl hl (by decide) rfl (fun ls hl => ?_)
  exact w_X10_pairs_4 C0 FU _ _ _ h _ _ _ hM hS (lv_sub hl [2, 1, 0] rfl)
set_option maxHeartbeats 4000000 in
set_option maxRecDepth 100000 in
theorem c_X10_pairs (l : Launch) (D : mmD) (b0 sz : Nat) {v0 : Nat} {f : mmF} {res : Int32} (h : f_X10_pairs v0 f = some res) : Met l yX10_pairs wsX10_pairs ({ frames := 1, cells := 0, slots := 0, locals := 22 } : Room) (va_Pc [.ref v0] (PW D b0 f sz)) (QW D b0 (some (.int res)) f sz) 0 0 (fun q => b0 ≤ q) := by
  refine Met.ofW (cc := cX10_pairs) (maxL := 3) (ret := (some .int)) (by decide) rfl ?_
  intro p e s m args below meth c s₁ B hml hv
  obtain ⟨rfl, hM, hK⟩ := hv
  have hl := lv_entry ([.ref v0]) (n := 3) (Nat.le_of_ble_eq_true rfl)
  rw [lg_entry_eq]
  generalize (lg_sl ([.ref v0]) ++ List.replicate (3 - (lg_sl ([.ref v0])).length) Slot.unset).toArray = ls at hl ⊢
  have hl : lv_has ls 3 [(0, .ref v0)] := hl
  exact w_X10_pairs ⟨B.exec, B.bytes, B.returns, hml, findClass_of_methodNamed B.named, atoms_spec (ws := wsX10_pairs) B.pre, B.notSynchronized, hK⟩ h s.heap [] ls hM va_S.rf hl
end S_X10_pairs
/-! X10_addStage -/
set_option maxRecDepth 20000 in
theorem qi_X10_addStage_X10 : ∀ w ∈ u_ws RX10 TX10 25, w ∈ wsX10_addStage := by decide +kernel
set_option maxRecDepth 20000 in
theorem q_X10_addStage_1 : Cond.fieldLink RX10 7 "StageTruthsModel" "now" "[I" ∈ wsX10_addStage := by decide +kernel
noncomputable def f_X10_addStage_63 (k33 : Nat → Int32 → Int32 → Int32 → mmF → Option (Int32 × mmF))  (v0 : Nat) (v1 : Int32) (v2 : Int32) (v3 : Int32) (t0 : Nat) (t1 : Int32) (t2 : Int32) (t3 : Int32) (f : mmF) : Option (Int32 × mmF) :=
  (stA 0 f t0 t1 (t2 ||| t3)).bind fun f64 =>
  k33 v0 v1 v2 (v3 + (1 : Int32)) f64
noncomputable def f_X10_addStage_33   : Nat → Nat → Int32 → Int32 → Int32 → mmF → Option (Int32 × mmF)
  | 0, _, _, _, _, _ => none
  | n + 1, v0, v1, v2, v3, f =>
    if v2 ≤ v3 then
    ((ldR f v0 10 0).bind fun x72 =>
    (stA 0 f x72 ((0 : Int32) + v2) ((1 : Int32) <<< (v2 &&& 31))).bind fun f81 =>
    (ldR f81 v0 10 0).bind fun x83 =>
    (ldR f81 v0 10 0).bind fun x91 =>
    (ldA 0 f81 x91 ((8 : Int32) + v1)).bind fun x98 =>
    (stA 0 f81 x83 ((8 : Int32) + v2) x98).bind fun f99 =>
    (ldR f99 v0 10 0).bind fun x101 =>
    (ldA 0 f99 x101 (16 : Int32)).bind fun x107 =>
    (stA 0 f99 x101 (16 : Int32) (x107 + (1 : Int32))).bind fun f110 =>
    some (v2, f110))
    else
    (ldR f v0 10 0).bind fun x39 =>
    (ldA 0 f x39 ((0 : Int32) + v3)).bind fun x46 =>
    (ckO f v0 10).bind fun _ =>
    (f_X10_leadsTo v0 v3 v1 f).bind fun q50 =>
    if q50 = 0 then
    (f_X10_addStage_63 (fun a0 a1 a2 a3 a4 => f_X10_addStage_33 n a0 a1 a2 a3 a4) v0 v1 v2 v3 x39 ((0 : Int32) + v3) x46 (0 : Int32) f)
    else
    f_X10_addStage_63 (fun a0 a1 a2 a3 a4 => f_X10_addStage_33 n a0 a1 a2 a3 a4) v0 v1 v2 v3 x39 ((0 : Int32) + v3) x46 ((1 : Int32) <<< (v2 &&& 31)) f
noncomputable def f_X10_addStage (v0 : Nat) (v1 : Int32) (f : mmF) : Option (Int32 × mmF) :=
  (ckO f v0 10).bind fun _ =>
  (f_X10_noStage v0 v1 f).bind fun q2 =>
  if q2 = 0 then
  ((ldR f v0 10 0).bind fun x11 =>
  (ldA 0 f x11 (16 : Int32)).bind fun x16 =>
  if x16 = (8 : Int32) then
  (some ((-3 : Int32), f))
  else
  (ckO f v0 10).bind fun _ =>
  (f_X10_record v0 f).bind fun q28 =>
  f_X10_addStage_33 FU v0 v1 x16 (0 : Int32) q28)
  else
  some ((-1 : Int32), f)
section S_X10_addStage
variable {p : Program} {l : Launch} {e : Env} {s : State} {m : MethodId} {args : Array Value} {below : List Frame} {meth : Method} {c : Code} {D : mmD} {b0 sz : Nat} {f : mmF}
set_option maxHeartbeats 4000000 in
set_option maxRecDepth 100000 in
theorem w_X10_addStage_63 (C0 : CX cX10_addStage 4 (some .int) wsX10_addStage RX10 p s m args meth c D b0) {k33 : Nat → Int32 → Int32 → Int32 → mmF → Option (Int32 × mmF)} {res : Int32 × mmF} (hk33 : ∀ (v0 : Nat) (v1 : Int32) (v2 : Int32) (v3 : Int32) (f : mmF), k33 v0 v1 v2 v3 f = some res → ∀ (H : Heap) (locs : List Loc) (ls : Array Slot), MM vwCl D b0 f sz s H → mS b0 s H locs → lv_has ls 4 [(0, .ref v0), (1, .int v1), (2, .int v2), (3, .int v3)] → W p l e ({ frames := 2, cells := 0, slots := 0, locals := 43 } : Room) s m args below meth c H locs 0 0 (MQ below (QW D b0 (some (.int res.1)) res.2 sz) args s 0 0 (fun q => b0 ≤ q)) (F0 m 33 ls [])) : ∀ (v0 : Nat) (v1 : Int32) (v2 : Int32) (v3 : Int32) (t0 : Nat) (t1 : Int32) (t2 : Int32) (t3 : Int32) (f : mmF), f_X10_addStage_63 k33 v0 v1 v2 v3 t0 t1 t2 t3 f = some res → ∀ (H : Heap) (locs : List Loc) (ls : Array Slot), MM vwCl D b0 f sz s H → mS b0 s H locs → lv_has ls 4 [(0, .ref v0), (1, .int v1), (2, .int v2), (3, .int v3)] → W p l e ({ frames := 2, cells := 0, slots := 0, locals := 43 } : Room) s m args below meth c H locs 0 0 (MQ below (QW D b0 (some (.int res.1)) res.2 sz) args s 0 0 (fun q => b0 ≤ q)) (F0 m 63 ls [.int t3, .int t2, .int t1, .ref t0]) := by
  obtain ⟨hx, hb, hr, hml, hown, hts, hlocks, hK⟩ := id C0
  intro v0 v1 v2 v3 t0 t1 t2 t3 f h H locs ls hM hS hl
  unfold f_X10_addStage_63 at h
  refine lv_ior hx hb dX10_addStage_63 ?_
  replace h := o_b h; obtain ⟨f64, h64, h⟩ := h
  refine m_iast hx hb hK.1 hM hS rfl h64 dX10_addStage_64 (fun H locs hM hS => ?_)
  refine lv_iinc (v := (v3 + (1 : Int32))) (lv' := [(3, .int (v3 + (1 : Int32))), (0, .ref v0), (1, .int v1), (2, .int v2)]) hx hb dX10_addStage_65 hl (k := 3) rfl rfl (by decide) rfl (fun ls hl => ?_)
  refine lv_goto (tgt := 33) hx hb dX10_addStage_68 (by decide) ?_
  exact hk33 _ _ _ _ _ h _ _ _ hM hS (lv_sub hl [1, 2, 3, 0] rfl)
set_option maxHeartbeats 4000000 in
set_option maxRecDepth 100000 in
theorem w_X10_addStage_33 (C0 : CX cX10_addStage 4 (some .int) wsX10_addStage RX10 p s m args meth c D b0) {res : Int32 × mmF} : ∀ (n : Nat), ∀ (v0 : Nat) (v1 : Int32) (v2 : Int32) (v3 : Int32) (f : mmF), f_X10_addStage_33 n v0 v1 v2 v3 f = some res → ∀ (H : Heap) (locs : List Loc) (ls : Array Slot), MM vwCl D b0 f sz s H → mS b0 s H locs → lv_has ls 4 [(0, .ref v0), (1, .int v1), (2, .int v2), (3, .int v3)] → W p l e ({ frames := 2, cells := 0, slots := 0, locals := 43 } : Room) s m args below meth c H locs 0 0 (MQ below (QW D b0 (some (.int res.1)) res.2 sz) args s 0 0 (fun q => b0 ≤ q)) (F0 m 33 ls []) := by
  obtain ⟨hx, hb, hr, hml, hown, hts, hlocks, hK⟩ := id C0
  intro n
  induction n with
  | zero =>
    intro v0 v1 v2 v3 f h
    have h : (none : Option (Int32 × mmF)) = some res := h
    cases h
  | succ n ih =>
    intro v0 v1 v2 v3 f h H locs ls hM hS hl
    rw [f_X10_addStage_33] at h
    refine lv_iload_n hx hb dX10_addStage_33 rfl (lv_at hl 3 rfl) ?_
    refine lv_iload_n hx hb dX10_addStage_34 rfl (lv_at hl 2 rfl) ?_
    refine lv_icmp_ge (tgt := 71) hx hb dX10_addStage_35 (by decide) (fun c35 => ?_) (fun c35 => ?_)
    · replace h := o_t c35 h
      refine lv_aload_n hx hb dX10_addStage_71 rfl (lv_at hl 0 rfl) ?_
      replace h := o_b h; obtain ⟨x72, h72, h⟩ := h
      refine m_get (C := RX10) (T := TX10) (N := 25) (ci := 10) hx hb hts qi_X10_addStage_X10 hown hK.1 hM 0 (ldR_F h72) rfl (by decide) (hts _ q_X10_addStage_1) (fun _ h9 => h9) dX10_addStage_72 ?_
      refine lv_iconst (v := (0 : Int32)) hx hb dX10_addStage_75 (by decide) ?_
      refine lv_iload_n hx hb dX10_addStage_76 rfl (lv_at hl 2 rfl) ?_
      refine lv_iadd hx hb dX10_addStage_77 ?_
      refine lv_iconst (v := (1 : Int32)) hx hb dX10_addStage_78 (by decide) ?_
      refine lv_iload_n hx hb dX10_addStage_79 rfl (lv_at hl 2 rfl) ?_
      refine lv_ishl hx hb dX10_addStage_80 ?_
      replace h := o_b h; obtain ⟨f81, h81, h⟩ := h
      refine m_iast hx hb hK.1 hM hS rfl h81 dX10_addStage_81 (fun H locs hM hS => ?_)
      refine lv_aload_n hx hb dX10_addStage_82 rfl (lv_at hl 0 rfl) ?_
      replace h := o_b h; obtain ⟨x83, h83, h⟩ := h
      refine m_get (C := RX10) (T := TX10) (N := 25) (ci := 10) hx hb hts qi_X10_addStage_X10 hown hK.1 hM 0 (ldR_F h83) rfl (by decide) (hts _ q_X10_addStage_1) (fun _ h9 => h9) dX10_addStage_83 ?_
      refine lv_bipush (v := (8 : Int32)) hx hb dX10_addStage_86 (by decide) ?_
      refine lv_iload_n hx hb dX10_addStage_88 rfl (lv_at hl 2 rfl) ?_
      refine lv_iadd hx hb dX10_addStage_89 ?_
      refine lv_aload_n hx hb dX10_addStage_90 rfl (lv_at hl 0 rfl) ?_
      replace h := o_b h; obtain ⟨x91, h91, h⟩ := h
      refine m_get (C := RX10) (T := TX10) (N := 25) (ci := 10) hx hb hts qi_X10_addStage_X10 hown hK.1 hM 0 (ldR_F h91) rfl (by decide) (hts _ q_X10_addStage_1) (fun _ h9 => h9) dX10_addStage_91 ?_
      refine lv_bipush (v := (8 : Int32)) hx hb dX10_addStage_94 (by decide) ?_
      refine lv_iload_n hx hb dX10_addStage_96 rfl (lv_at hl 1 rfl) ?_
      refine lv_iadd hx hb dX10_addStage_97 ?_
      replace h := o_b h; obtain ⟨x98, h98, h⟩ := h
      refine m_iald hx hb hK.1 hM hS rfl h98 dX10_addStage_98 ?_
      replace h := o_b h; obtain ⟨f99, h99, h⟩ := h
      refine m_iast hx hb hK.1 hM hS rfl h99 dX10_addStage_99 (fun H locs hM hS => ?_)
      refine lv_aload_n hx hb dX10_addStage_100 rfl (lv_at hl 0 rfl) ?_
      replace h := o_b h; obtain ⟨x101, h101, h⟩ := h
      refine m_get (C := RX10) (T := TX10) (N := 25) (ci := 10) hx hb hts qi_X10_addStage_X10 hown hK.1 hM 0 (ldR_F h101) rfl (by decide) (hts _ q_X10_addStage_1) (fun _ h9 => h9) dX10_addStage_101 ?_
      refine lv_bipush (v := (16 : Int32)) hx hb dX10_addStage_104 (by decide) ?_
      refine lv_dup2_11 hx hb dX10_addStage_106 rfl rfl ?_
      replace h := o_b h; obtain ⟨x107, h107, h⟩ := h
      refine m_iald hx hb hK.1 hM hS rfl h107 dX10_addStage_107 ?_
      refine lv_iconst (v := (1 : Int32)) hx hb dX10_addStage_108 (by decide) ?_
      refine lv_iadd hx hb dX10_addStage_109 ?_
      replace h := o_b h; obtain ⟨f110, h110, h⟩ := h
      refine m_iast hx hb hK.1 hM hS rfl h110 dX10_addStage_110 (fun H locs hM hS => ?_)
      refine lv_iload_n hx hb dX10_addStage_111 rfl (lv_at hl 2 rfl) ?_
      replace h := Option.some.inj h; subst h
      exact W.iret hx hb hr (fun t ht hW => ⟨rfl, by rw [ht]; exact hM.moved hW.alike, hS.F ht⟩) hS.2.2 dX10_addStage_112
    replace h := o_f c35 h
    refine lv_aload_n hx hb dX10_addStage_38 rfl (lv_at hl 0 rfl) ?_
    replace h := o_b h; obtain ⟨x39, h39, h⟩ := h
    refine m_get (C := RX10) (T := TX10) (N := 25) (ci := 10) hx hb hts qi_X10_addStage_X10 hown hK.1 hM 0 (ldR_F h39) rfl (by decide) (hts _ q_X10_addStage_1) (fun _ h9 => h9) dX10_addStage_39 ?_
    refine lv_iconst (v := (0 : Int32)) hx hb dX10_addStage_42 (by decide) ?_
    refine lv_iload_n hx hb dX10_addStage_43 rfl (lv_at hl 3 rfl) ?_
    refine lv_iadd hx hb dX10_addStage_44 ?_
    refine lv_dup2_11 hx hb dX10_addStage_45 rfl rfl ?_
    replace h := o_b h; obtain ⟨x46, h46, h⟩ := h
    refine m_iald hx hb hK.1 hM hS rfl h46 dX10_addStage_46 ?_
    refine lv_aload_n hx hb dX10_addStage_47 rfl (lv_at hl 0 rfl) ?_
    refine lv_iload_n hx hb dX10_addStage_48 rfl (lv_at hl 3 rfl) ?_
    refine lv_iload_n hx hb dX10_addStage_49 rfl (lv_at hl 1 rfl) ?_
    replace h := o_b h; obtain ⟨_, k50, h⟩ := h
    replace h := o_b h; obtain ⟨q50, h50, h⟩ := h
    refine m_call (va_runV (As := [.int v3, .int v1]) (rest := [.int x46, .int ((0 : Int32) + v3), .ref x39]) ⟨hx, hb, hml, hown, hts⟩ (c_X10_leadsTo l D b0 sz h50) (cwV 2 hts gX10_addStage_X10_leadsTo rfl rfl rfl (by decide +kernel) ⟨Nat.le_of_ble_eq_true rfl, Nat.le_of_ble_eq_true rfl⟩) ⟨PW.blind, m_recv (ci := 10) rfl hK hM k50, (fun U hU hW => ⟨rfl, PW.call hK hM hS hU hW⟩)⟩ rfl rfl hl.1 rfl (lv_room (Nat.le_of_ble_eq_true rfl)) dX10_addStage_50 ⟨(Nat.le_refl _), (Nat.le_refl _)⟩) hS (fun H locs hM hS => ?_)
    refine lv_if_eq (tgt := 62) hx hb dX10_addStage_53 (by decide) (fun c53 => ?_) (fun c53 => ?_)
    · replace h := o_t c53 h
      refine lv_iconst (v := (0 : Int32)) hx hb dX10_addStage_62 (by decide) ?_
      exact w_X10_addStage_63 C0 ih _ _ _ _ _ _ _ _ _ h _ _ _ hM hS (lv_sub hl [0, 1, 2, 3] rfl)
    replace h := o_f c53 h
    refine lv_iconst (v := (1 : Int32)) hx hb dX10_addStage_56 (by decide) ?_
    refine lv_iload_n hx hb dX10_addStage_57 rfl (lv_at hl 2 rfl) ?_
    refine lv_ishl hx hb dX10_addStage_58 ?_
    refine lv_goto (tgt := 63) hx hb dX10_addStage_59 (by decide) ?_
    exact w_X10_addStage_63 C0 ih _ _ _ _ _ _ _ _ _ h _ _ _ hM hS (lv_sub hl [0, 1, 2, 3] rfl)
set_option maxHeartbeats 4000000 in
set_option maxRecDepth 100000 in
theorem w_X10_addStage (C0 : CX cX10_addStage 4 (some .int) wsX10_addStage RX10 p s m args meth c D b0) {v0 : Nat} {v1 : Int32} {res : Int32 × mmF} (h : f_X10_addStage v0 v1 f = some res) : ∀ (H : Heap) (locs : List Loc) (ls : Array Slot), MM vwCl D b0 f sz s H → mS b0 s H locs → lv_has ls 4 [(0, .ref v0), (1, .int v1)] → W p l e ({ frames := 2, cells := 0, slots := 0, locals := 43 } : Room) s m args below meth c H locs 0 0 (MQ below (QW D b0 (some (.int res.1)) res.2 sz) args s 0 0 (fun q => b0 ≤ q)) (F0 m 0 ls []) := by
  obtain ⟨hx, hb, hr, hml, hown, hts, hlocks, hK⟩ := id C0
  intro H locs ls hM hS hl
  unfold f_X10_addStage at h
  refine lv_aload_n hx hb dX10_addStage_0 rfl (lv_at hl 0 rfl) ?_
  refine lv_iload_n hx hb dX10_addStage_1 rfl (lv_at hl 1 rfl) ?_
  replace h := o_b h; obtain ⟨_, k2, h⟩ := h
  replace h := o_b h; obtain ⟨q2, h2, h⟩ := h
  refine m_call (va_runV (As := [.int v1]) (rest := []) ⟨hx, hb, hml, hown, hts⟩ (c_X10_noStage l D b0 sz h2) (cwV 1 hts gX10_addStage_X10_noStage rfl rfl rfl (by decide +kernel) ⟨Nat.le_of_ble_eq_true rfl, Nat.le_of_ble_eq_true rfl⟩) ⟨PW.blind, m_recv (ci := 10) rfl hK hM k2, (fun U hU hW => ⟨rfl, PW.call hK hM hS hU hW⟩)⟩ rfl rfl hl.1 rfl (lv_room (Nat.le_of_ble_eq_true rfl)) dX10_addStage_2 ⟨(Nat.le_refl _), (Nat.le_refl _)⟩) hS (fun H locs hM hS => ?_)
  refine lv_if_eq (tgt := 10) hx hb dX10_addStage_5 (by decide) (fun c5 => ?_) (fun c5 => ?_)
  · replace h := o_t c5 h
    refine lv_aload_n hx hb dX10_addStage_10 rfl (lv_at hl 0 rfl) ?_
    replace h := o_b h; obtain ⟨x11, h11, h⟩ := h
    refine m_get (C := RX10) (T := TX10) (N := 25) (ci := 10) hx hb hts qi_X10_addStage_X10 hown hK.1 hM 0 (ldR_F h11) rfl (by decide) (hts _ q_X10_addStage_1) (fun _ h9 => h9) dX10_addStage_11 ?_
    refine lv_bipush (v := (16 : Int32)) hx hb dX10_addStage_14 (by decide) ?_
    replace h := o_b h; obtain ⟨x16, h16, h⟩ := h
    refine m_iald hx hb hK.1 hM hS rfl h16 dX10_addStage_16 ?_
    refine lv_istore_n (lv' := [(2, .int x16), (0, .ref v0), (1, .int v1)]) hx hb dX10_addStage_17 rfl hl (by decide) rfl (fun ls hl => ?_)
    refine lv_iload_n hx hb dX10_addStage_18 rfl (lv_at hl 0 rfl) ?_
    refine lv_bipush (v := (8 : Int32)) hx hb dX10_addStage_19 (by decide) ?_
    refine lv_icmp_ne (tgt := 27) hx hb dX10_addStage_21 (by decide) (fun c21 => ?_) (fun c21 => ?_)
    · replace h := o_f c21 h
      refine lv_aload_n hx hb dX10_addStage_27 rfl (lv_at hl 1 rfl) ?_
      replace h := o_b h; obtain ⟨_, k28, h⟩ := h
      replace h := o_b h; obtain ⟨q28, h28, h⟩ := h
      refine m_call (va_runV (As := []) (rest := []) ⟨hx, hb, hml, hown, hts⟩ (c_X10_record l D b0 sz h28) (cwV 0 hts gX10_addStage_X10_record rfl rfl rfl (by decide +kernel) ⟨Nat.le_of_ble_eq_true rfl, Nat.le_of_ble_eq_true rfl⟩) ⟨PW.blind, m_recv (ci := 10) rfl hK hM k28, (fun U hU hW => ⟨rfl, PW.call hK hM hS hU hW⟩)⟩ rfl rfl hl.1 rfl (lv_room (Nat.le_of_ble_eq_true rfl)) dX10_addStage_28 ⟨(Nat.le_refl _), (Nat.le_refl _)⟩) hS (fun H locs hM hS => ?_)
      refine lv_iconst (v := (0 : Int32)) hx hb dX10_addStage_31 (by decide) ?_
      refine lv_istore_n (lv' := [(3, .int (0 : Int32)), (2, .int x16), (0, .ref v0), (1, .int v1)]) hx hb dX10_addStage_32 rfl hl (by decide) rfl (fun ls hl => ?_)
      exact w_X10_addStage_33 C0 FU _ _ _ _ _ h _ _ _ hM hS (lv_sub hl [2, 3, 1, 0] rfl)
    replace h := o_t c21 h
    refine lv_bipush (v := (-3 : Int32)) hx hb dX10_addStage_24 (by decide) ?_
    replace h := Option.some.inj h; subst h
    exact W.iret hx hb hr (fun t ht hW => ⟨rfl, by rw [ht]; exact hM.moved hW.alike, hS.F ht⟩) hS.2.2 dX10_addStage_26
  replace h := o_f c5 h
  refine lv_iconst (v := (-1 : Int32)) hx hb dX10_addStage_8 (by decide) ?_
  replace h := Option.some.inj h; subst h
  exact W.iret hx hb hr (fun t ht hW => ⟨rfl, by rw [ht]; exact hM.moved hW.alike, hS.F ht⟩) hS.2.2 dX10_addStage_9
set_option maxHeartbeats 4000000 in
set_option maxRecDepth 100000 in
theorem c_X10_addStage (l : Launch) (D : mmD) (b0 sz : Nat) {v0 : Nat} {v1 : Int32} {f : mmF} {res : Int32 × mmF} (h : f_X10_addStage v0 v1 f = some res) : Met l yX10_addStage wsX10_addStage ({ frames := 2, cells := 0, slots := 0, locals := 43 } : Room) (va_Pc [.ref v0, .int v1] (PW D b0 f sz)) (QW D b0 (some (.int res.1)) res.2 sz) 0 0 (fun q => b0 ≤ q) := by
  refine Met.ofW (cc := cX10_addStage) (maxL := 4) (ret := (some .int)) (by decide) rfl ?_
  intro p e s m args below meth c s₁ B hml hv
  obtain ⟨rfl, hM, hK⟩ := hv
  have hl := lv_entry ([.ref v0, .int v1]) (n := 4) (Nat.le_of_ble_eq_true rfl)
  rw [lg_entry_eq]
  generalize (lg_sl ([.ref v0, .int v1]) ++ List.replicate (4 - (lg_sl ([.ref v0, .int v1])).length) Slot.unset).toArray = ls at hl ⊢
  have hl : lv_has ls 4 [(0, .ref v0), (1, .int v1)] := hl
  exact w_X10_addStage ⟨B.exec, B.bytes, B.returns, hml, findClass_of_methodNamed B.named, atoms_spec (ws := wsX10_addStage) B.pre, B.notSynchronized, hK⟩ h s.heap [] ls hM va_S.rf hl
end S_X10_addStage
/-! X10_lead -/
set_option maxRecDepth 20000 in
theorem qi_X10_lead_X10 : ∀ w ∈ u_ws RX10 TX10 25, w ∈ wsX10_lead := by decide +kernel
set_option maxRecDepth 20000 in
theorem q_X10_lead_1 : Cond.fieldLink RX10 7 "StageTruthsModel" "now" "[I" ∈ wsX10_lead := by decide +kernel
noncomputable def f_X10_lead_143 (k67 : Nat → Int32 → Int32 → Int32 → Int32 → Int32 → mmF → Option (Int32 × mmF))  (v0 : Nat) (v1 : Int32) (v3 : Int32) (v4 : Int32) (v5 : Int32) (v6 : Int32) (t0 : Nat) (t1 : Int32) (t2 : Int32) (t3 : Int32) (f : mmF) : Option (Int32 × mmF) :=
  (stA 0 f t0 t1 (t2 ||| t3)).bind fun f144 =>
  k67 v0 v1 v3 v4 v5 (v6 + (1 : Int32)) f144
noncomputable def f_X10_lead_106 (k67 : Nat → Int32 → Int32 → Int32 → Int32 → Int32 → mmF → Option (Int32 × mmF))  (v0 : Nat) (v1 : Int32) (v3 : Int32) (v4 : Int32) (v5 : Int32) (v6 : Int32) (t0 : Nat) (t1 : Int32) (t2 : Int32) (t3 : Int32) (f : mmF) : Option (Int32 × mmF) :=
  (stA 0 f t0 t1 (t2 ||| t3)).bind fun f107 =>
  (ldR f107 v0 10 0).bind fun x109 =>
  (ldA 0 f107 x109 ((8 : Int32) + v6)).bind fun x118 =>
  if ((v4 >>> (v6 &&& 31)) &&& (1 : Int32)) = (1 : Int32) then
  ((ldR f107 v0 10 0).bind fun x131 =>
  (ldA 0 f107 x131 ((8 : Int32) + v1)).bind fun x138 =>
  f_X10_lead_143 k67 v0 v1 v3 v4 v5 v6 x109 ((8 : Int32) + v6) x118 x138 f107)
  else
  f_X10_lead_143 k67 v0 v1 v3 v4 v5 v6 x109 ((8 : Int32) + v6) x118 (0 : Int32) f107
noncomputable def f_X10_lead_67   : Nat → Nat → Int32 → Int32 → Int32 → Int32 → Int32 → mmF → Option (Int32 × mmF)
  | 0, _, _, _, _, _, _, _ => none
  | n + 1, v0, v1, v3, v4, v5, v6, f =>
    (ldR f v0 10 0).bind fun x70 =>
    (ldA 0 f x70 (16 : Int32)).bind fun x75 =>
    if x75 ≤ v6 then
    ((ckO f v0 10).bind fun _ =>
    (f_X10_pairs v0 f).bind fun q152 =>
    some ((q152 - v3), f))
    else
    (ldR f v0 10 0).bind fun x80 =>
    (ldA 0 f x80 ((0 : Int32) + v6)).bind fun x88 =>
    if ((v5 >>> (v6 &&& 31)) &&& (1 : Int32)) = (1 : Int32) then
    (f_X10_lead_106 (fun a0 a1 a2 a3 a4 a5 a6 => f_X10_lead_67 n a0 a1 a2 a3 a4 a5 a6) v0 v1 v3 v4 v5 v6 x80 ((0 : Int32) + v6) x88 v4 f)
    else
    f_X10_lead_106 (fun a0 a1 a2 a3 a4 a5 a6 => f_X10_lead_67 n a0 a1 a2 a3 a4 a5 a6) v0 v1 v3 v4 v5 v6 x80 ((0 : Int32) + v6) x88 (0 : Int32) f
noncomputable def f_X10_lead (v0 : Nat) (v1 : Int32) (v2 : Int32) (f : mmF) : Option (Int32 × mmF) :=
  (ckO f v0 10).bind fun _ =>
  (f_X10_noStage v0 v1 f).bind fun q2 =>
  if q2 = 0 then
  ((ckO f v0 10).bind fun _ =>
  (f_X10_noStage v0 v2 f).bind fun q10 =>
  if q10 = 0 then
  (if v1 < v2 then
  ((ckO f v0 10).bind fun _ =>
  (f_X10_leadsTo v0 v1 v2 f).bind fun q29 =>
  if q29 = 0 then
  ((ckO f v0 10).bind fun _ =>
  (f_X10_record v0 f).bind fun q39 =>
  (ckO q39 v0 10).bind fun _ =>
  (f_X10_pairs v0 q39).bind fun q43 =>
  (ldR q39 v0 10 0).bind fun x48 =>
  (ldA 0 q39 x48 ((0 : Int32) + v2)).bind fun x54 =>
  (ckO q39 v0 10).bind fun _ =>
  (f_X10_leadingTo v0 v1 q39).bind fun q59 =>
  f_X10_lead_67 FU v0 v1 q43 x54 q59 (0 : Int32) q39)
  else
  some ((-5 : Int32), f))
  else
  some ((-2 : Int32), f))
  else
  some ((-1 : Int32), f))
  else
  some ((-1 : Int32), f)
section S_X10_lead
variable {p : Program} {l : Launch} {e : Env} {s : State} {m : MethodId} {args : Array Value} {below : List Frame} {meth : Method} {c : Code} {D : mmD} {b0 sz : Nat} {f : mmF}
set_option maxHeartbeats 4000000 in
set_option maxRecDepth 100000 in
theorem w_X10_lead_143 (C0 : CX cX10_lead 7 (some .int) wsX10_lead RX10 p s m args meth c D b0) {k67 : Nat → Int32 → Int32 → Int32 → Int32 → Int32 → mmF → Option (Int32 × mmF)} {res : Int32 × mmF} (hk67 : ∀ (v0 : Nat) (v1 : Int32) (v3 : Int32) (v4 : Int32) (v5 : Int32) (v6 : Int32) (f : mmF), k67 v0 v1 v3 v4 v5 v6 f = some res → ∀ (H : Heap) (locs : List Loc) (ls : Array Slot), MM vwCl D b0 f sz s H → mS b0 s H locs → lv_has ls 7 [(0, .ref v0), (1, .int v1), (3, .int v3), (4, .int v4), (5, .int v5), (6, .int v6)] → W p l e ({ frames := 2, cells := 0, slots := 0, locals := 45 } : Room) s m args below meth c H locs 0 0 (MQ below (QW D b0 (some (.int res.1)) res.2 sz) args s 0 0 (fun q => b0 ≤ q)) (F0 m 67 ls [])) : ∀ (v0 : Nat) (v1 : Int32) (v3 : Int32) (v4 : Int32) (v5 : Int32) (v6 : Int32) (t0 : Nat) (t1 : Int32) (t2 : Int32) (t3 : Int32) (f : mmF), f_X10_lead_143 k67 v0 v1 v3 v4 v5 v6 t0 t1 t2 t3 f = some res → ∀ (H : Heap) (locs : List Loc) (ls : Array Slot), MM vwCl D b0 f sz s H → mS b0 s H locs → lv_has ls 7 [(0, .ref v0), (1, .int v1), (3, .int v3), (4, .int v4), (5, .int v5), (6, .int v6)] → W p l e ({ frames := 2, cells := 0, slots := 0, locals := 45 } : Room) s m args below meth c H locs 0 0 (MQ below (QW D b0 (some (.int res.1)) res.2 sz) args s 0 0 (fun q => b0 ≤ q)) (F0 m 143 ls [.int t3, .int t2, .int t1, .ref t0]) := by
  obtain ⟨hx, hb, hr, hml, hown, hts, hlocks, hK⟩ := id C0
  intro v0 v1 v3 v4 v5 v6 t0 t1 t2 t3 f h H locs ls hM hS hl
  unfold f_X10_lead_143 at h
  refine lv_ior hx hb dX10_lead_143 ?_
  replace h := o_b h; obtain ⟨f144, h144, h⟩ := h
  refine m_iast hx hb hK.1 hM hS rfl h144 dX10_lead_144 (fun H locs hM hS => ?_)
  refine lv_iinc (v := (v6 + (1 : Int32))) (lv' := [(6, .int (v6 + (1 : Int32))), (0, .ref v0), (1, .int v1), (3, .int v3), (4, .int v4), (5, .int v5)]) hx hb dX10_lead_145 hl (k := 5) rfl rfl (by decide) rfl (fun ls hl => ?_)
  refine lv_goto (tgt := 67) hx hb dX10_lead_148 (by decide) ?_
  exact hk67 _ _ _ _ _ _ _ h _ _ _ hM hS (lv_sub hl [1, 2, 3, 4, 5, 0] rfl)
set_option maxHeartbeats 4000000 in
set_option maxRecDepth 100000 in
theorem w_X10_lead_106 (C0 : CX cX10_lead 7 (some .int) wsX10_lead RX10 p s m args meth c D b0) {k67 : Nat → Int32 → Int32 → Int32 → Int32 → Int32 → mmF → Option (Int32 × mmF)} {res : Int32 × mmF} (hk67 : ∀ (v0 : Nat) (v1 : Int32) (v3 : Int32) (v4 : Int32) (v5 : Int32) (v6 : Int32) (f : mmF), k67 v0 v1 v3 v4 v5 v6 f = some res → ∀ (H : Heap) (locs : List Loc) (ls : Array Slot), MM vwCl D b0 f sz s H → mS b0 s H locs → lv_has ls 7 [(0, .ref v0), (1, .int v1), (3, .int v3), (4, .int v4), (5, .int v5), (6, .int v6)] → W p l e ({ frames := 2, cells := 0, slots := 0, locals := 45 } : Room) s m args below meth c H locs 0 0 (MQ below (QW D b0 (some (.int res.1)) res.2 sz) args s 0 0 (fun q => b0 ≤ q)) (F0 m 67 ls [])) : ∀ (v0 : Nat) (v1 : Int32) (v3 : Int32) (v4 : Int32) (v5 : Int32) (v6 : Int32) (t0 : Nat) (t1 : Int32) (t2 : Int32) (t3 : Int32) (f : mmF), f_X10_lead_106 k67 v0 v1 v3 v4 v5 v6 t0 t1 t2 t3 f = some res → ∀ (H : Heap) (locs : List Loc) (ls : Array Slot), MM vwCl D b0 f sz s H → mS b0 s H locs → lv_has ls 7 [(0, .ref v0), (1, .int v1), (3, .int v3), (4, .int v4), (5, .int v5), (6, .int v6)] → W p l e ({ frames := 2, cells := 0, slots := 0, locals := 45 } : Room) s m args below meth c H locs 0 0 (MQ below (QW D b0 (some (.int res.1)) res.2 sz) args s 0 0 (fun q => b0 ≤ q)) (F0 m 106 ls [.int t3, .int t2, .int t1, .ref t0]) := by
  obtain ⟨hx, hb, hr, hml, hown, hts, hlocks, hK⟩ := id C0
  intro v0 v1 v3 v4 v5 v6 t0 t1 t2 t3 f h H locs ls hM hS hl
  unfold f_X10_lead_106 at h
  refine lv_ior hx hb dX10_lead_106 ?_
  replace h := o_b h; obtain ⟨f107, h107, h⟩ := h
  refine m_iast hx hb hK.1 hM hS rfl h107 dX10_lead_107 (fun H locs hM hS => ?_)
  refine lv_aload_n hx hb dX10_lead_108 rfl (lv_at hl 0 rfl) ?_
  replace h := o_b h; obtain ⟨x109, h109, h⟩ := h
  refine m_get (C := RX10) (T := TX10) (N := 25) (ci := 10) hx hb hts qi_X10_lead_X10 hown hK.1 hM 0 (ldR_F h109) rfl (by decide) (hts _ q_X10_lead_1) (fun _ h9 => h9) dX10_lead_109 ?_
  refine lv_bipush (v := (8 : Int32)) hx hb dX10_lead_112 (by decide) ?_
  refine lv_iload hx hb dX10_lead_114 (lv_at hl 5 rfl) ?_
  refine lv_iadd hx hb dX10_lead_116 ?_
  refine lv_dup2_11 hx hb dX10_lead_117 rfl rfl ?_
  replace h := o_b h; obtain ⟨x118, h118, h⟩ := h
  refine m_iald hx hb hK.1 hM hS rfl h118 dX10_lead_118 ?_
  refine lv_iload hx hb dX10_lead_119 (lv_at hl 3 rfl) ?_
  refine lv_iload hx hb dX10_lead_121 (lv_at hl 5 rfl) ?_
  refine lv_ishr hx hb dX10_lead_123 ?_
  refine lv_iconst (v := (1 : Int32)) hx hb dX10_lead_124 (by decide) ?_
  refine lv_iand hx hb dX10_lead_125 ?_
  refine lv_iconst (v := (1 : Int32)) hx hb dX10_lead_126 (by decide) ?_
  refine lv_icmp_ne (tgt := 142) hx hb dX10_lead_127 (by decide) (fun c127 => ?_) (fun c127 => ?_)
  · replace h := o_f c127 h
    refine lv_iconst (v := (0 : Int32)) hx hb dX10_lead_142 (by decide) ?_
    exact w_X10_lead_143 C0 hk67 _ _ _ _ _ _ _ _ _ _ _ h _ _ _ hM hS (lv_sub hl [0, 1, 2, 3, 4, 5] rfl)
  replace h := o_t c127 h
  refine lv_aload_n hx hb dX10_lead_130 rfl (lv_at hl 0 rfl) ?_
  replace h := o_b h; obtain ⟨x131, h131, h⟩ := h
  refine m_get (C := RX10) (T := TX10) (N := 25) (ci := 10) hx hb hts qi_X10_lead_X10 hown hK.1 hM 0 (ldR_F h131) rfl (by decide) (hts _ q_X10_lead_1) (fun _ h9 => h9) dX10_lead_131 ?_
  refine lv_bipush (v := (8 : Int32)) hx hb dX10_lead_134 (by decide) ?_
  refine lv_iload_n hx hb dX10_lead_136 rfl (lv_at hl 1 rfl) ?_
  refine lv_iadd hx hb dX10_lead_137 ?_
  replace h := o_b h; obtain ⟨x138, h138, h⟩ := h
  refine m_iald hx hb hK.1 hM hS rfl h138 dX10_lead_138 ?_
  refine lv_goto (tgt := 143) hx hb dX10_lead_139 (by decide) ?_
  exact w_X10_lead_143 C0 hk67 _ _ _ _ _ _ _ _ _ _ _ h _ _ _ hM hS (lv_sub hl [0, 1, 2, 3, 4, 5] rfl)
set_option maxHeartbeats 4000000 in
set_option maxRecDepth 100000 in
theorem w_X10_lead_67 (C0 : CX cX10_lead 7 (some .int) wsX10_lead RX10 p s m args meth c D b0) {res : Int32 × mmF} : ∀ (n : Nat), ∀ (v0 : Nat) (v1 : Int32) (v3 : Int32) (v4 : Int32) (v5 : Int32) (v6 : Int32) (f : mmF), f_X10_lead_67 n v0 v1 v3 v4 v5 v6 f = some res → ∀ (H : Heap) (locs : List Loc) (ls : Array Slot), MM vwCl D b0 f sz s H → mS b0 s H locs → lv_has ls 7 [(0, .ref v0), (1, .int v1), (3, .int v3), (4, .int v4), (5, .int v5), (6, .int v6)] → W p l e ({ frames := 2, cells := 0, slots := 0, locals := 45 } : Room) s m args below meth c H locs 0 0 (MQ below (QW D b0 (some (.int res.1)) res.2 sz) args s 0 0 (fun q => b0 ≤ q)) (F0 m 67 ls []) := by
  obtain ⟨hx, hb, hr, hml, hown, hts, hlocks, hK⟩ := id C0
  intro n
  induction n with
  | zero =>
    intro v0 v1 v3 v4 v5 v6 f h
    have h : (none : Option (Int32 × mmF)) = some res := h
    cases h
  | succ n ih =>
    intro v0 v1 v3 v4 v5 v6 f h H locs ls hM hS hl
    rw [f_X10_lead_67] at h
    refine lv_iload hx hb dX10_lead_67 (lv_at hl 5 rfl) ?_
    refine lv_aload_n hx hb dX10_lead_69 rfl (lv_at hl 0 rfl) ?_
    replace h := o_b h; obtain ⟨x70, h70, h⟩ := h
    refine m_get (C := RX10) (T := TX10) (N := 25) (ci := 10) hx hb hts qi_X10_lead_X10 hown hK.1 hM 0 (ldR_F h70) rfl (by decide) (hts _ q_X10_lead_1) (fun _ h9 => h9) dX10_lead_70 ?_
    refine lv_bipush (v := (16 : Int32)) hx hb dX10_lead_73 (by decide) ?_
    replace h := o_b h; obtain ⟨x75, h75, h⟩ := h
    refine m_iald hx hb hK.1 hM hS rfl h75 dX10_lead_75 ?_
    refine lv_icmp_ge (tgt := 151) hx hb dX10_lead_76 (by decide) (fun c76 => ?_) (fun c76 => ?_)
    · replace h := o_t c76 h
      refine lv_aload_n hx hb dX10_lead_151 rfl (lv_at hl 0 rfl) ?_
      replace h := o_b h; obtain ⟨_, k152, h⟩ := h
      replace h := o_b h; obtain ⟨q152, h152, h⟩ := h
      refine m_call (va_runV (As := []) (rest := []) ⟨hx, hb, hml, hown, hts⟩ (c_X10_pairs l D b0 sz h152) (cwV 0 hts gX10_lead_X10_pairs rfl rfl rfl (by decide +kernel) ⟨Nat.le_of_ble_eq_true rfl, Nat.le_of_ble_eq_true rfl⟩) ⟨PW.blind, m_recv (ci := 10) rfl hK hM k152, (fun U hU hW => ⟨rfl, PW.call hK hM hS hU hW⟩)⟩ rfl rfl hl.1 rfl (lv_room (Nat.le_of_ble_eq_true rfl)) dX10_lead_152 ⟨(Nat.le_refl _), (Nat.le_refl _)⟩) hS (fun H locs hM hS => ?_)
      refine lv_iload_n hx hb dX10_lead_155 rfl (lv_at hl 2 rfl) ?_
      refine lv_isub hx hb dX10_lead_156 ?_
      replace h := Option.some.inj h; subst h
      exact W.iret hx hb hr (fun t ht hW => ⟨rfl, by rw [ht]; exact hM.moved hW.alike, hS.F ht⟩) hS.2.2 dX10_lead_157
    replace h := o_f c76 h
    refine lv_aload_n hx hb dX10_lead_79 rfl (lv_at hl 0 rfl) ?_
    replace h := o_b h; obtain ⟨x80, h80, h⟩ := h
    refine m_get (C := RX10) (T := TX10) (N := 25) (ci := 10) hx hb hts qi_X10_lead_X10 hown hK.1 hM 0 (ldR_F h80) rfl (by decide) (hts _ q_X10_lead_1) (fun _ h9 => h9) dX10_lead_80 ?_
    refine lv_iconst (v := (0 : Int32)) hx hb dX10_lead_83 (by decide) ?_
    refine lv_iload hx hb dX10_lead_84 (lv_at hl 5 rfl) ?_
    refine lv_iadd hx hb dX10_lead_86 ?_
    refine lv_dup2_11 hx hb dX10_lead_87 rfl rfl ?_
    replace h := o_b h; obtain ⟨x88, h88, h⟩ := h
    refine m_iald hx hb hK.1 hM hS rfl h88 dX10_lead_88 ?_
    refine lv_iload hx hb dX10_lead_89 (lv_at hl 4 rfl) ?_
    refine lv_iload hx hb dX10_lead_91 (lv_at hl 5 rfl) ?_
    refine lv_ishr hx hb dX10_lead_93 ?_
    refine lv_iconst (v := (1 : Int32)) hx hb dX10_lead_94 (by decide) ?_
    refine lv_iand hx hb dX10_lead_95 ?_
    refine lv_iconst (v := (1 : Int32)) hx hb dX10_lead_96 (by decide) ?_
    refine lv_icmp_ne (tgt := 105) hx hb dX10_lead_97 (by decide) (fun c97 => ?_) (fun c97 => ?_)
    · replace h := o_f c97 h
      refine lv_iconst (v := (0 : Int32)) hx hb dX10_lead_105 (by decide) ?_
      exact w_X10_lead_106 C0 ih _ _ _ _ _ _ _ _ _ _ _ h _ _ _ hM hS (lv_sub hl [0, 1, 2, 3, 4, 5] rfl)
    replace h := o_t c97 h
    refine lv_iload hx hb dX10_lead_100 (lv_at hl 3 rfl) ?_
    refine lv_goto (tgt := 106) hx hb dX10_lead_102 (by decide) ?_
    exact w_X10_lead_106 C0 ih _ _ _ _ _ _ _ _ _ _ _ h _ _ _ hM hS (lv_sub hl [0, 1, 2, 3, 4, 5] rfl)
set_option maxHeartbeats 4000000 in
set_option maxRecDepth 100000 in
theorem w_X10_lead (C0 : CX cX10_lead 7 (some .int) wsX10_lead RX10 p s m args meth c D b0) {v0 : Nat} {v1 : Int32} {v2 : Int32} {res : Int32 × mmF} (h : f_X10_lead v0 v1 v2 f = some res) : ∀ (H : Heap) (locs : List Loc) (ls : Array Slot), MM vwCl D b0 f sz s H → mS b0 s H locs → lv_has ls 7 [(0, .ref v0), (1, .int v1), (2, .int v2)] → W p l e ({ frames := 2, cells := 0, slots := 0, locals := 45 } : Room) s m args below meth c H locs 0 0 (MQ below (QW D b0 (some (.int res.1)) res.2 sz) args s 0 0 (fun q => b0 ≤ q)) (F0 m 0 ls []) := by
  obtain ⟨hx, hb, hr, hml, hown, hts, hlocks, hK⟩ := id C0
  intro H locs ls hM hS hl
  unfold f_X10_lead at h
  refine lv_aload_n hx hb dX10_lead_0 rfl (lv_at hl 0 rfl) ?_
  refine lv_iload_n hx hb dX10_lead_1 rfl (lv_at hl 1 rfl) ?_
  replace h := o_b h; obtain ⟨_, k2, h⟩ := h
  replace h := o_b h; obtain ⟨q2, h2, h⟩ := h
  refine m_call (va_runV (As := [.int v1]) (rest := []) ⟨hx, hb, hml, hown, hts⟩ (c_X10_noStage l D b0 sz h2) (cwV 1 hts gX10_lead_X10_noStage rfl rfl rfl (by decide +kernel) ⟨Nat.le_of_ble_eq_true rfl, Nat.le_of_ble_eq_true rfl⟩) ⟨PW.blind, m_recv (ci := 10) rfl hK hM k2, (fun U hU hW => ⟨rfl, PW.call hK hM hS hU hW⟩)⟩ rfl rfl hl.1 rfl (lv_room (Nat.le_of_ble_eq_true rfl)) dX10_lead_2 ⟨(Nat.le_refl _), (Nat.le_refl _)⟩) hS (fun H locs hM hS => ?_)
  refine lv_if_ne (tgt := 16) hx hb dX10_lead_5 (by decide) (fun c5 => ?_) (fun c5 => ?_)
  · replace h := o_f c5 h
    refine lv_iconst (v := (-1 : Int32)) hx hb dX10_lead_16 (by decide) ?_
    replace h := Option.some.inj h; subst h
    exact W.iret hx hb hr (fun t ht hW => ⟨rfl, by rw [ht]; exact hM.moved hW.alike, hS.F ht⟩) hS.2.2 dX10_lead_17
  replace h := o_t c5 h
  refine lv_aload_n hx hb dX10_lead_8 rfl (lv_at hl 0 rfl) ?_
  refine lv_iload_n hx hb dX10_lead_9 rfl (lv_at hl 2 rfl) ?_
  replace h := o_b h; obtain ⟨_, k10, h⟩ := h
  replace h := o_b h; obtain ⟨q10, h10, h⟩ := h
  refine m_call (va_runV (As := [.int v2]) (rest := []) ⟨hx, hb, hml, hown, hts⟩ (c_X10_noStage l D b0 sz h10) (cwV 1 hts gX10_lead_X10_noStage rfl rfl rfl (by decide +kernel) ⟨Nat.le_of_ble_eq_true rfl, Nat.le_of_ble_eq_true rfl⟩) ⟨PW.blind, m_recv (ci := 10) rfl hK hM k10, (fun U hU hW => ⟨rfl, PW.call hK hM hS hU hW⟩)⟩ rfl rfl hl.1 rfl (lv_room (Nat.le_of_ble_eq_true rfl)) dX10_lead_10 ⟨(Nat.le_refl _), (Nat.le_refl _)⟩) hS (fun H locs hM hS => ?_)
  refine lv_if_eq (tgt := 18) hx hb dX10_lead_13 (by decide) (fun c13 => ?_) (fun c13 => ?_)
  · replace h := o_t c13 h
    refine lv_iload_n hx hb dX10_lead_18 rfl (lv_at hl 2 rfl) ?_
    refine lv_iload_n hx hb dX10_lead_19 rfl (lv_at hl 1 rfl) ?_
    refine lv_icmp_gt (tgt := 26) hx hb dX10_lead_20 (by decide) (fun c20 => ?_) (fun c20 => ?_)
    · replace h := o_t c20 h
      refine lv_aload_n hx hb dX10_lead_26 rfl (lv_at hl 0 rfl) ?_
      refine lv_iload_n hx hb dX10_lead_27 rfl (lv_at hl 1 rfl) ?_
      refine lv_iload_n hx hb dX10_lead_28 rfl (lv_at hl 2 rfl) ?_
      replace h := o_b h; obtain ⟨_, k29, h⟩ := h
      replace h := o_b h; obtain ⟨q29, h29, h⟩ := h
      refine m_call (va_runV (As := [.int v1, .int v2]) (rest := []) ⟨hx, hb, hml, hown, hts⟩ (c_X10_leadsTo l D b0 sz h29) (cwV 2 hts gX10_lead_X10_leadsTo rfl rfl rfl (by decide +kernel) ⟨Nat.le_of_ble_eq_true rfl, Nat.le_of_ble_eq_true rfl⟩) ⟨PW.blind, m_recv (ci := 10) rfl hK hM k29, (fun U hU hW => ⟨rfl, PW.call hK hM hS hU hW⟩)⟩ rfl rfl hl.1 rfl (lv_room (Nat.le_of_ble_eq_true rfl)) dX10_lead_29 ⟨(Nat.le_refl _), (Nat.le_refl _)⟩) hS (fun H locs hM hS => ?_)
      refine lv_if_eq (tgt := 38) hx hb dX10_lead_32 (by decide) (fun c32 => ?_) (fun c32 => ?_)
      · replace h := o_t c32 h
        refine lv_aload_n hx hb dX10_lead_38 rfl (lv_at hl 0 rfl) ?_
        replace h := o_b h; obtain ⟨_, k39, h⟩ := h
        replace h := o_b h; obtain ⟨q39, h39, h⟩ := h
        refine m_call (va_runV (As := []) (rest := []) ⟨hx, hb, hml, hown, hts⟩ (c_X10_record l D b0 sz h39) (cwV 0 hts gX10_lead_X10_record rfl rfl rfl (by decide +kernel) ⟨Nat.le_of_ble_eq_true rfl, Nat.le_of_ble_eq_true rfl⟩) ⟨PW.blind, m_recv (ci := 10) rfl hK hM k39, (fun U hU hW => ⟨rfl, PW.call hK hM hS hU hW⟩)⟩ rfl rfl hl.1 rfl (lv_room (Nat.le_of_ble_eq_true rfl)) dX10_lead_39 ⟨(Nat.le_refl _), (Nat.le_refl _)⟩) hS (fun H locs hM hS => ?_)
        refine lv_aload_n hx hb dX10_lead_42 rfl (lv_at hl 0 rfl) ?_
        replace h := o_b h; obtain ⟨_, k43, h⟩ := h
        replace h := o_b h; obtain ⟨q43, h43, h⟩ := h
        refine m_call (va_runV (As := []) (rest := []) ⟨hx, hb, hml, hown, hts⟩ (c_X10_pairs l D b0 sz h43) (cwV 0 hts gX10_lead_X10_pairs rfl rfl rfl (by decide +kernel) ⟨Nat.le_of_ble_eq_true rfl, Nat.le_of_ble_eq_true rfl⟩) ⟨PW.blind, m_recv (ci := 10) rfl hK hM k43, (fun U hU hW => ⟨rfl, PW.call hK hM hS hU hW⟩)⟩ rfl rfl hl.1 rfl (lv_room (Nat.le_of_ble_eq_true rfl)) dX10_lead_43 ⟨(Nat.le_refl _), (Nat.le_refl _)⟩) hS (fun H locs hM hS => ?_)
        refine lv_istore_n (lv' := [(3, .int q43), (0, .ref v0), (1, .int v1), (2, .int v2)]) hx hb dX10_lead_46 rfl hl (by decide) rfl (fun ls hl => ?_)
        refine lv_aload_n hx hb dX10_lead_47 rfl (lv_at hl 1 rfl) ?_
        replace h := o_b h; obtain ⟨x48, h48, h⟩ := h
        refine m_get (C := RX10) (T := TX10) (N := 25) (ci := 10) hx hb hts qi_X10_lead_X10 hown hK.1 hM 0 (ldR_F h48) rfl (by decide) (hts _ q_X10_lead_1) (fun _ h9 => h9) dX10_lead_48 ?_
        refine lv_iconst (v := (0 : Int32)) hx hb dX10_lead_51 (by decide) ?_
        refine lv_iload_n hx hb dX10_lead_52 rfl (lv_at hl 3 rfl) ?_
        refine lv_iadd hx hb dX10_lead_53 ?_
        replace h := o_b h; obtain ⟨x54, h54, h⟩ := h
        refine m_iald hx hb hK.1 hM hS rfl h54 dX10_lead_54 ?_
        refine lv_istore (lv' := [(4, .int x54), (3, .int q43), (0, .ref v0), (1, .int v1), (2, .int v2)]) hx hb dX10_lead_55 hl (by decide) rfl (fun ls hl => ?_)
        refine lv_aload_n hx hb dX10_lead_57 rfl (lv_at hl 2 rfl) ?_
        refine lv_iload_n hx hb dX10_lead_58 rfl (lv_at hl 3 rfl) ?_
        replace h := o_b h; obtain ⟨_, k59, h⟩ := h
        replace h := o_b h; obtain ⟨q59, h59, h⟩ := h
        refine m_call (va_runV (As := [.int v1]) (rest := []) ⟨hx, hb, hml, hown, hts⟩ (c_X10_leadingTo l D b0 sz h59) (cwV 1 hts gX10_lead_X10_leadingTo rfl rfl rfl (by decide +kernel) ⟨Nat.le_of_ble_eq_true rfl, Nat.le_of_ble_eq_true rfl⟩) ⟨PW.blind, m_recv (ci := 10) rfl hK hM k59, (fun U hU hW => ⟨rfl, PW.call hK hM hS hU hW⟩)⟩ rfl rfl hl.1 rfl (lv_room (Nat.le_of_ble_eq_true rfl)) dX10_lead_59 ⟨(Nat.le_refl _), (Nat.le_refl _)⟩) hS (fun H locs hM hS => ?_)
        refine lv_istore (lv' := [(5, .int q59), (4, .int x54), (3, .int q43), (0, .ref v0), (1, .int v1), (2, .int v2)]) hx hb dX10_lead_62 hl (by decide) rfl (fun ls hl => ?_)
        refine lv_iconst (v := (0 : Int32)) hx hb dX10_lead_64 (by decide) ?_
        refine lv_istore (lv' := [(6, .int (0 : Int32)), (5, .int q59), (4, .int x54), (3, .int q43), (0, .ref v0), (1, .int v1), (2, .int v2)]) hx hb dX10_lead_65 hl (by decide) rfl (fun ls hl => ?_)
        exact w_X10_lead_67 C0 FU _ _ _ _ _ _ _ h _ _ _ hM hS (lv_sub hl [4, 5, 3, 2, 1, 0] rfl)
      replace h := o_f c32 h
      refine lv_bipush (v := (-5 : Int32)) hx hb dX10_lead_35 (by decide) ?_
      replace h := Option.some.inj h; subst h
      exact W.iret hx hb hr (fun t ht hW => ⟨rfl, by rw [ht]; exact hM.moved hW.alike, hS.F ht⟩) hS.2.2 dX10_lead_37
    replace h := o_f c20 h
    refine lv_bipush (v := (-2 : Int32)) hx hb dX10_lead_23 (by decide) ?_
    replace h := Option.some.inj h; subst h
    exact W.iret hx hb hr (fun t ht hW => ⟨rfl, by rw [ht]; exact hM.moved hW.alike, hS.F ht⟩) hS.2.2 dX10_lead_25
  replace h := o_f c13 h
  refine lv_iconst (v := (-1 : Int32)) hx hb dX10_lead_16 (by decide) ?_
  replace h := Option.some.inj h; subst h
  exact W.iret hx hb hr (fun t ht hW => ⟨rfl, by rw [ht]; exact hM.moved hW.alike, hS.F ht⟩) hS.2.2 dX10_lead_17
set_option maxHeartbeats 4000000 in
set_option maxRecDepth 100000 in
theorem c_X10_lead (l : Launch) (D : mmD) (b0 sz : Nat) {v0 : Nat} {v1 : Int32} {v2 : Int32} {f : mmF} {res : Int32 × mmF} (h : f_X10_lead v0 v1 v2 f = some res) : Met l yX10_lead wsX10_lead ({ frames := 2, cells := 0, slots := 0, locals := 45 } : Room) (va_Pc [.ref v0, .int v1, .int v2] (PW D b0 f sz)) (QW D b0 (some (.int res.1)) res.2 sz) 0 0 (fun q => b0 ≤ q) := by
  refine Met.ofW (cc := cX10_lead) (maxL := 7) (ret := (some .int)) (by decide) rfl ?_
  intro p e s m args below meth c s₁ B hml hv
  obtain ⟨rfl, hM, hK⟩ := hv
  have hl := lv_entry ([.ref v0, .int v1, .int v2]) (n := 7) (Nat.le_of_ble_eq_true rfl)
  rw [lg_entry_eq]
  generalize (lg_sl ([.ref v0, .int v1, .int v2]) ++ List.replicate (7 - (lg_sl ([.ref v0, .int v1, .int v2])).length) Slot.unset).toArray = ls at hl ⊢
  have hl : lv_has ls 7 [(0, .ref v0), (1, .int v1), (2, .int v2)] := hl
  exact w_X10_lead ⟨B.exec, B.bytes, B.returns, hml, findClass_of_methodNamed B.named, atoms_spec (ws := wsX10_lead) B.pre, B.notSynchronized, hK⟩ h s.heap [] ls hM va_S.rf hl
end S_X10_lead
/-! X10_learn -/
set_option maxRecDepth 20000 in
theorem qi_X10_learn_X10 : ∀ w ∈ u_ws RX10 TX10 25, w ∈ wsX10_learn := by decide +kernel
set_option maxRecDepth 20000 in
theorem q_X10_learn_1 : Cond.fieldLink RX10 7 "StageTruthsModel" "now" "[I" ∈ wsX10_learn := by decide +kernel
noncomputable def f_X10_learn_82 (k45 : Nat → Int32 → Int32 → Int32 → mmF → Option (Int32 × mmF))  (v0 : Nat) (v1 : Int32) (v2 : Int32) (v3 : Int32) (t0 : Nat) (t1 : Int32) (t2 : Int32) (t3 : Int32) (f : mmF) : Option (Int32 × mmF) :=
  (stA 0 f t0 t1 (t2 ||| t3)).bind fun f83 =>
  k45 v0 v1 v2 (v3 + (1 : Int32)) f83
noncomputable def f_X10_learn_45   : Nat → Nat → Int32 → Int32 → Int32 → mmF → Option (Int32 × mmF)
  | 0, _, _, _, _, _ => none
  | n + 1, v0, v1, v2, v3, f =>
    (ldR f v0 10 0).bind fun x47 =>
    (ldA 0 f x47 (16 : Int32)).bind fun x52 =>
    if x52 ≤ v3 then
    ((ckO f v0 10).bind fun _ =>
    (f_X10_knownAt v0 v2 f).bind fun q92 =>
    some (q92, f))
    else
    (ldR f v0 10 0).bind fun x57 =>
    (ldA 0 f x57 ((8 : Int32) + v3)).bind fun x65 =>
    (ckO f v0 10).bind fun _ =>
    (f_X10_leadsTo v0 v1 v3 f).bind fun q69 =>
    if q69 = 0 then
    (f_X10_learn_82 (fun a0 a1 a2 a3 a4 => f_X10_learn_45 n a0 a1 a2 a3 a4) v0 v1 v2 v3 x57 ((8 : Int32) + v3) x65 (0 : Int32) f)
    else
    f_X10_learn_82 (fun a0 a1 a2 a3 a4 => f_X10_learn_45 n a0 a1 a2 a3 a4) v0 v1 v2 v3 x57 ((8 : Int32) + v3) x65 ((1 : Int32) <<< (v2 &&& 31)) f
noncomputable def f_X10_learn (v0 : Nat) (v1 : Int32) (v2 : Int32) (f : mmF) : Option (Int32 × mmF) :=
  (ckO f v0 10).bind fun _ =>
  (f_X10_noStage v0 v1 f).bind fun q2 =>
  if q2 = 0 then
  ((f_X10_in v2 (0 : Int32) (3 : Int32) f).bind fun q11 =>
  if q11 = 0 then
  (some ((-1 : Int32), f))
  else
  (ldR f v0 10 0).bind fun x20 =>
  (ldA 0 f x20 ((8 : Int32) + v1)).bind fun x27 =>
  if ((x27 >>> (v2 &&& 31)) &&& (1 : Int32)) = (1 : Int32) then
  (some ((-5 : Int32), f))
  else
  (ckO f v0 10).bind fun _ =>
  (f_X10_record v0 f).bind fun q40 =>
  f_X10_learn_45 FU v0 v1 v2 (0 : Int32) q40)
  else
  some ((-1 : Int32), f)
section S_X10_learn
variable {p : Program} {l : Launch} {e : Env} {s : State} {m : MethodId} {args : Array Value} {below : List Frame} {meth : Method} {c : Code} {D : mmD} {b0 sz : Nat} {f : mmF}
set_option maxHeartbeats 4000000 in
set_option maxRecDepth 100000 in
theorem w_X10_learn_82 (C0 : CX cX10_learn 4 (some .int) wsX10_learn RX10 p s m args meth c D b0) {k45 : Nat → Int32 → Int32 → Int32 → mmF → Option (Int32 × mmF)} {res : Int32 × mmF} (hk45 : ∀ (v0 : Nat) (v1 : Int32) (v2 : Int32) (v3 : Int32) (f : mmF), k45 v0 v1 v2 v3 f = some res → ∀ (H : Heap) (locs : List Loc) (ls : Array Slot), MM vwCl D b0 f sz s H → mS b0 s H locs → lv_has ls 4 [(0, .ref v0), (1, .int v1), (2, .int v2), (3, .int v3)] → W p l e ({ frames := 2, cells := 0, slots := 0, locals := 43 } : Room) s m args below meth c H locs 0 0 (MQ below (QW D b0 (some (.int res.1)) res.2 sz) args s 0 0 (fun q => b0 ≤ q)) (F0 m 45 ls [])) : ∀ (v0 : Nat) (v1 : Int32) (v2 : Int32) (v3 : Int32) (t0 : Nat) (t1 : Int32) (t2 : Int32) (t3 : Int32) (f : mmF), f_X10_learn_82 k45 v0 v1 v2 v3 t0 t1 t2 t3 f = some res → ∀ (H : Heap) (locs : List Loc) (ls : Array Slot), MM vwCl D b0 f sz s H → mS b0 s H locs → lv_has ls 4 [(0, .ref v0), (1, .int v1), (2, .int v2), (3, .int v3)] → W p l e ({ frames := 2, cells := 0, slots := 0, locals := 43 } : Room) s m args below meth c H locs 0 0 (MQ below (QW D b0 (some (.int res.1)) res.2 sz) args s 0 0 (fun q => b0 ≤ q)) (F0 m 82 ls [.int t3, .int t2, .int t1, .ref t0]) := by
  obtain ⟨hx, hb, hr, hml, hown, hts, hlocks, hK⟩ := id C0
  intro v0 v1 v2 v3 t0 t1 t2 t3 f h H locs ls hM hS hl
  unfold f_X10_learn_82 at h
  refine lv_ior hx hb dX10_learn_82 ?_
  replace h := o_b h; obtain ⟨f83, h83, h⟩ := h
  refine m_iast hx hb hK.1 hM hS rfl h83 dX10_learn_83 (fun H locs hM hS => ?_)
  refine lv_iinc (v := (v3 + (1 : Int32))) (lv' := [(3, .int (v3 + (1 : Int32))), (0, .ref v0), (1, .int v1), (2, .int v2)]) hx hb dX10_learn_84 hl (k := 3) rfl rfl (by decide) rfl (fun ls hl => ?_)
  refine lv_goto (tgt := 45) hx hb dX10_learn_87 (by decide) ?_
  exact hk45 _ _ _ _ _ h _ _ _ hM hS (lv_sub hl [1, 2, 3, 0] rfl)
set_option maxHeartbeats 4000000 in
set_option maxRecDepth 100000 in
theorem w_X10_learn_45 (C0 : CX cX10_learn 4 (some .int) wsX10_learn RX10 p s m args meth c D b0) {res : Int32 × mmF} : ∀ (n : Nat), ∀ (v0 : Nat) (v1 : Int32) (v2 : Int32) (v3 : Int32) (f : mmF), f_X10_learn_45 n v0 v1 v2 v3 f = some res → ∀ (H : Heap) (locs : List Loc) (ls : Array Slot), MM vwCl D b0 f sz s H → mS b0 s H locs → lv_has ls 4 [(0, .ref v0), (1, .int v1), (2, .int v2), (3, .int v3)] → W p l e ({ frames := 2, cells := 0, slots := 0, locals := 43 } : Room) s m args below meth c H locs 0 0 (MQ below (QW D b0 (some (.int res.1)) res.2 sz) args s 0 0 (fun q => b0 ≤ q)) (F0 m 45 ls []) := by
  obtain ⟨hx, hb, hr, hml, hown, hts, hlocks, hK⟩ := id C0
  intro n
  induction n with
  | zero =>
    intro v0 v1 v2 v3 f h
    have h : (none : Option (Int32 × mmF)) = some res := h
    cases h
  | succ n ih =>
    intro v0 v1 v2 v3 f h H locs ls hM hS hl
    rw [f_X10_learn_45] at h
    refine lv_iload_n hx hb dX10_learn_45 rfl (lv_at hl 3 rfl) ?_
    refine lv_aload_n hx hb dX10_learn_46 rfl (lv_at hl 0 rfl) ?_
    replace h := o_b h; obtain ⟨x47, h47, h⟩ := h
    refine m_get (C := RX10) (T := TX10) (N := 25) (ci := 10) hx hb hts qi_X10_learn_X10 hown hK.1 hM 0 (ldR_F h47) rfl (by decide) (hts _ q_X10_learn_1) (fun _ h9 => h9) dX10_learn_47 ?_
    refine lv_bipush (v := (16 : Int32)) hx hb dX10_learn_50 (by decide) ?_
    replace h := o_b h; obtain ⟨x52, h52, h⟩ := h
    refine m_iald hx hb hK.1 hM hS rfl h52 dX10_learn_52 ?_
    refine lv_icmp_ge (tgt := 90) hx hb dX10_learn_53 (by decide) (fun c53 => ?_) (fun c53 => ?_)
    · replace h := o_t c53 h
      refine lv_aload_n hx hb dX10_learn_90 rfl (lv_at hl 0 rfl) ?_
      refine lv_iload_n hx hb dX10_learn_91 rfl (lv_at hl 2 rfl) ?_
      replace h := o_b h; obtain ⟨_, k92, h⟩ := h
      replace h := o_b h; obtain ⟨q92, h92, h⟩ := h
      refine m_call (va_runV (As := [.int v2]) (rest := []) ⟨hx, hb, hml, hown, hts⟩ (c_X10_knownAt l D b0 sz h92) (cwV 1 hts gX10_learn_X10_knownAt rfl rfl rfl (by decide +kernel) ⟨Nat.le_of_ble_eq_true rfl, Nat.le_of_ble_eq_true rfl⟩) ⟨PW.blind, m_recv (ci := 10) rfl hK hM k92, (fun U hU hW => ⟨rfl, PW.call hK hM hS hU hW⟩)⟩ rfl rfl hl.1 rfl (lv_room (Nat.le_of_ble_eq_true rfl)) dX10_learn_92 ⟨(Nat.le_refl _), (Nat.le_refl _)⟩) hS (fun H locs hM hS => ?_)
      replace h := Option.some.inj h; subst h
      exact W.iret hx hb hr (fun t ht hW => ⟨rfl, by rw [ht]; exact hM.moved hW.alike, hS.F ht⟩) hS.2.2 dX10_learn_95
    replace h := o_f c53 h
    refine lv_aload_n hx hb dX10_learn_56 rfl (lv_at hl 0 rfl) ?_
    replace h := o_b h; obtain ⟨x57, h57, h⟩ := h
    refine m_get (C := RX10) (T := TX10) (N := 25) (ci := 10) hx hb hts qi_X10_learn_X10 hown hK.1 hM 0 (ldR_F h57) rfl (by decide) (hts _ q_X10_learn_1) (fun _ h9 => h9) dX10_learn_57 ?_
    refine lv_bipush (v := (8 : Int32)) hx hb dX10_learn_60 (by decide) ?_
    refine lv_iload_n hx hb dX10_learn_62 rfl (lv_at hl 3 rfl) ?_
    refine lv_iadd hx hb dX10_learn_63 ?_
    refine lv_dup2_11 hx hb dX10_learn_64 rfl rfl ?_
    replace h := o_b h; obtain ⟨x65, h65, h⟩ := h
    refine m_iald hx hb hK.1 hM hS rfl h65 dX10_learn_65 ?_
    refine lv_aload_n hx hb dX10_learn_66 rfl (lv_at hl 0 rfl) ?_
    refine lv_iload_n hx hb dX10_learn_67 rfl (lv_at hl 1 rfl) ?_
    refine lv_iload_n hx hb dX10_learn_68 rfl (lv_at hl 3 rfl) ?_
    replace h := o_b h; obtain ⟨_, k69, h⟩ := h
    replace h := o_b h; obtain ⟨q69, h69, h⟩ := h
    refine m_call (va_runV (As := [.int v1, .int v3]) (rest := [.int x65, .int ((8 : Int32) + v3), .ref x57]) ⟨hx, hb, hml, hown, hts⟩ (c_X10_leadsTo l D b0 sz h69) (cwV 2 hts gX10_learn_X10_leadsTo rfl rfl rfl (by decide +kernel) ⟨Nat.le_of_ble_eq_true rfl, Nat.le_of_ble_eq_true rfl⟩) ⟨PW.blind, m_recv (ci := 10) rfl hK hM k69, (fun U hU hW => ⟨rfl, PW.call hK hM hS hU hW⟩)⟩ rfl rfl hl.1 rfl (lv_room (Nat.le_of_ble_eq_true rfl)) dX10_learn_69 ⟨(Nat.le_refl _), (Nat.le_refl _)⟩) hS (fun H locs hM hS => ?_)
    refine lv_if_eq (tgt := 81) hx hb dX10_learn_72 (by decide) (fun c72 => ?_) (fun c72 => ?_)
    · replace h := o_t c72 h
      refine lv_iconst (v := (0 : Int32)) hx hb dX10_learn_81 (by decide) ?_
      exact w_X10_learn_82 C0 ih _ _ _ _ _ _ _ _ _ h _ _ _ hM hS (lv_sub hl [0, 1, 2, 3] rfl)
    replace h := o_f c72 h
    refine lv_iconst (v := (1 : Int32)) hx hb dX10_learn_75 (by decide) ?_
    refine lv_iload_n hx hb dX10_learn_76 rfl (lv_at hl 2 rfl) ?_
    refine lv_ishl hx hb dX10_learn_77 ?_
    refine lv_goto (tgt := 82) hx hb dX10_learn_78 (by decide) ?_
    exact w_X10_learn_82 C0 ih _ _ _ _ _ _ _ _ _ h _ _ _ hM hS (lv_sub hl [0, 1, 2, 3] rfl)
set_option maxHeartbeats 4000000 in
set_option maxRecDepth 100000 in
theorem w_X10_learn (C0 : CX cX10_learn 4 (some .int) wsX10_learn RX10 p s m args meth c D b0) {v0 : Nat} {v1 : Int32} {v2 : Int32} {res : Int32 × mmF} (h : f_X10_learn v0 v1 v2 f = some res) : ∀ (H : Heap) (locs : List Loc) (ls : Array Slot), MM vwCl D b0 f sz s H → mS b0 s H locs → lv_has ls 4 [(0, .ref v0), (1, .int v1), (2, .int v2)] → W p l e ({ frames := 2, cells := 0, slots := 0, locals := 43 } : Room) s m args below meth c H locs 0 0 (MQ below (QW D b0 (some (.int res.1)) res.2 sz) args s 0 0 (fun q => b0 ≤ q)) (F0 m 0 ls []) := by
  obtain ⟨hx, hb, hr, hml, hown, hts, hlocks, hK⟩ := id C0
  intro H locs ls hM hS hl
  unfold f_X10_learn at h
  refine lv_aload_n hx hb dX10_learn_0 rfl (lv_at hl 0 rfl) ?_
  refine lv_iload_n hx hb dX10_learn_1 rfl (lv_at hl 1 rfl) ?_
  replace h := o_b h; obtain ⟨_, k2, h⟩ := h
  replace h := o_b h; obtain ⟨q2, h2, h⟩ := h
  refine m_call (va_runV (As := [.int v1]) (rest := []) ⟨hx, hb, hml, hown, hts⟩ (c_X10_noStage l D b0 sz h2) (cwV 1 hts gX10_learn_X10_noStage rfl rfl rfl (by decide +kernel) ⟨Nat.le_of_ble_eq_true rfl, Nat.le_of_ble_eq_true rfl⟩) ⟨PW.blind, m_recv (ci := 10) rfl hK hM k2, (fun U hU hW => ⟨rfl, PW.call hK hM hS hU hW⟩)⟩ rfl rfl hl.1 rfl (lv_room (Nat.le_of_ble_eq_true rfl)) dX10_learn_2 ⟨(Nat.le_refl _), (Nat.le_refl _)⟩) hS (fun H locs hM hS => ?_)
  refine lv_if_ne (tgt := 17) hx hb dX10_learn_5 (by decide) (fun c5 => ?_) (fun c5 => ?_)
  · replace h := o_f c5 h
    refine lv_iconst (v := (-1 : Int32)) hx hb dX10_learn_17 (by decide) ?_
    replace h := Option.some.inj h; subst h
    exact W.iret hx hb hr (fun t ht hW => ⟨rfl, by rw [ht]; exact hM.moved hW.alike, hS.F ht⟩) hS.2.2 dX10_learn_18
  replace h := o_t c5 h
  refine lv_iload_n hx hb dX10_learn_8 rfl (lv_at hl 2 rfl) ?_
  refine lv_iconst (v := (0 : Int32)) hx hb dX10_learn_9 (by decide) ?_
  refine lv_iconst (v := (3 : Int32)) hx hb dX10_learn_10 (by decide) ?_
  replace h := o_b h; obtain ⟨q11, h11, h⟩ := h
  refine m_call (va_runS (As := [.int v2, .int (0 : Int32), .int (3 : Int32)]) (rest := []) ⟨hx, hb, hml, hown, hts⟩ (c_X10_in l D b0 sz h11) (va_cwS 3 hts gX10_learn_X10_in rfl rfl rfl (by decide +kernel) ⟨Nat.le_of_ble_eq_true rfl, Nat.le_of_ble_eq_true rfl⟩) ⟨PW.blind, (fun U hU hW => ⟨rfl, PW.call hK hM hS hU hW⟩)⟩ rfl rfl hl.1 rfl (lv_room (Nat.le_of_ble_eq_true rfl)) dX10_learn_11 ⟨(Nat.le_refl _), (Nat.le_refl _)⟩) hS (fun H locs hM hS => ?_)
  refine lv_if_ne (tgt := 19) hx hb dX10_learn_14 (by decide) (fun c14 => ?_) (fun c14 => ?_)
  · replace h := o_f c14 h
    refine lv_aload_n hx hb dX10_learn_19 rfl (lv_at hl 0 rfl) ?_
    replace h := o_b h; obtain ⟨x20, h20, h⟩ := h
    refine m_get (C := RX10) (T := TX10) (N := 25) (ci := 10) hx hb hts qi_X10_learn_X10 hown hK.1 hM 0 (ldR_F h20) rfl (by decide) (hts _ q_X10_learn_1) (fun _ h9 => h9) dX10_learn_20 ?_
    refine lv_bipush (v := (8 : Int32)) hx hb dX10_learn_23 (by decide) ?_
    refine lv_iload_n hx hb dX10_learn_25 rfl (lv_at hl 1 rfl) ?_
    refine lv_iadd hx hb dX10_learn_26 ?_
    replace h := o_b h; obtain ⟨x27, h27, h⟩ := h
    refine m_iald hx hb hK.1 hM hS rfl h27 dX10_learn_27 ?_
    refine lv_iload_n hx hb dX10_learn_28 rfl (lv_at hl 2 rfl) ?_
    refine lv_ishr hx hb dX10_learn_29 ?_
    refine lv_iconst (v := (1 : Int32)) hx hb dX10_learn_30 (by decide) ?_
    refine lv_iand hx hb dX10_learn_31 ?_
    refine lv_iconst (v := (1 : Int32)) hx hb dX10_learn_32 (by decide) ?_
    refine lv_icmp_ne (tgt := 39) hx hb dX10_learn_33 (by decide) (fun c33 => ?_) (fun c33 => ?_)
    · replace h := o_f c33 h
      refine lv_aload_n hx hb dX10_learn_39 rfl (lv_at hl 0 rfl) ?_
      replace h := o_b h; obtain ⟨_, k40, h⟩ := h
      replace h := o_b h; obtain ⟨q40, h40, h⟩ := h
      refine m_call (va_runV (As := []) (rest := []) ⟨hx, hb, hml, hown, hts⟩ (c_X10_record l D b0 sz h40) (cwV 0 hts gX10_learn_X10_record rfl rfl rfl (by decide +kernel) ⟨Nat.le_of_ble_eq_true rfl, Nat.le_of_ble_eq_true rfl⟩) ⟨PW.blind, m_recv (ci := 10) rfl hK hM k40, (fun U hU hW => ⟨rfl, PW.call hK hM hS hU hW⟩)⟩ rfl rfl hl.1 rfl (lv_room (Nat.le_of_ble_eq_true rfl)) dX10_learn_40 ⟨(Nat.le_refl _), (Nat.le_refl _)⟩) hS (fun H locs hM hS => ?_)
      refine lv_iconst (v := (0 : Int32)) hx hb dX10_learn_43 (by decide) ?_
      refine lv_istore_n (lv' := [(3, .int (0 : Int32)), (0, .ref v0), (1, .int v1), (2, .int v2)]) hx hb dX10_learn_44 rfl hl (by decide) rfl (fun ls hl => ?_)
      exact w_X10_learn_45 C0 FU _ _ _ _ _ h _ _ _ hM hS (lv_sub hl [1, 2, 3, 0] rfl)
    replace h := o_t c33 h
    refine lv_bipush (v := (-5 : Int32)) hx hb dX10_learn_36 (by decide) ?_
    replace h := Option.some.inj h; subst h
    exact W.iret hx hb hr (fun t ht hW => ⟨rfl, by rw [ht]; exact hM.moved hW.alike, hS.F ht⟩) hS.2.2 dX10_learn_38
  replace h := o_t c14 h
  refine lv_iconst (v := (-1 : Int32)) hx hb dX10_learn_17 (by decide) ?_
  replace h := Option.some.inj h; subst h
  exact W.iret hx hb hr (fun t ht hW => ⟨rfl, by rw [ht]; exact hM.moved hW.alike, hS.F ht⟩) hS.2.2 dX10_learn_18
set_option maxHeartbeats 4000000 in
set_option maxRecDepth 100000 in
theorem c_X10_learn (l : Launch) (D : mmD) (b0 sz : Nat) {v0 : Nat} {v1 : Int32} {v2 : Int32} {f : mmF} {res : Int32 × mmF} (h : f_X10_learn v0 v1 v2 f = some res) : Met l yX10_learn wsX10_learn ({ frames := 2, cells := 0, slots := 0, locals := 43 } : Room) (va_Pc [.ref v0, .int v1, .int v2] (PW D b0 f sz)) (QW D b0 (some (.int res.1)) res.2 sz) 0 0 (fun q => b0 ≤ q) := by
  refine Met.ofW (cc := cX10_learn) (maxL := 4) (ret := (some .int)) (by decide) rfl ?_
  intro p e s m args below meth c s₁ B hml hv
  obtain ⟨rfl, hM, hK⟩ := hv
  have hl := lv_entry ([.ref v0, .int v1, .int v2]) (n := 4) (Nat.le_of_ble_eq_true rfl)
  rw [lg_entry_eq]
  generalize (lg_sl ([.ref v0, .int v1, .int v2]) ++ List.replicate (4 - (lg_sl ([.ref v0, .int v1, .int v2])).length) Slot.unset).toArray = ls at hl ⊢
  have hl : lv_has ls 4 [(0, .ref v0), (1, .int v1), (2, .int v2)] := hl
  exact w_X10_learn ⟨B.exec, B.bytes, B.returns, hml, findClass_of_methodNamed B.named, atoms_spec (ws := wsX10_learn) B.pre, B.notSynchronized, hK⟩ h s.heap [] ls hM va_S.rf hl
end S_X10_learn
