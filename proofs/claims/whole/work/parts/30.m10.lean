/-! X9_shrink -/
set_option maxRecDepth 20000 in
theorem qi_X9_shrink_X9 : ∀ w ∈ u_ws RX9 TX9 9, w ∈ wsX9_shrink := by decide +kernel
set_option maxRecDepth 20000 in
theorem q_X9_shrink_1 : Cond.fieldLink RX9 10 "StageTruths" "state" "LStageTruths$State;" ∈ wsX9_shrink := by decide +kernel
set_option maxRecDepth 20000 in
theorem qi_X9_shrink_X7 : ∀ w ∈ u_ws RX7 TX7 7, w ∈ wsX9_shrink := by decide +kernel
set_option maxRecDepth 20000 in
theorem q_X9_shrink_3 : Cond.fieldLink RX9 61 "StageTruths$State" "stages" "I" ∈ wsX9_shrink := by decide +kernel
noncomputable def f_X9_shrink (v0 : Nat) (f : mmF) : Option (Int32 × mmF) :=
  (ldR f v0 9 0).bind fun x1 =>
  (ckO f x1 7).bind fun _ =>
  (f_X7_findLikes x1 f).bind fun q4 =>
  (ldR q4 v0 9 0).bind fun x8 =>
  (ldI q4 x8 7 0).bind fun x11 =>
  (ldR q4 v0 9 0).bind fun x15 =>
  (ckO q4 x15 7).bind fun _ =>
  (f_X7_unlike x15 q4).bind fun q18 =>
  (ldR q4 v0 9 0).bind fun x24 =>
  (ckO q4 x24 7).bind fun _ =>
  (f_X7_mergeLeadsBack x24 q4).bind fun q27 =>
  if q27 = 0 then
  (if (x11 - q18) = 0 then
  (some ((-5 : Int32), q4))
  else
  (ckO q4 v0 9).bind fun _ =>
  (f_X9_record v0 q4).bind fun q44 =>
  (ldR q44 v0 9 0).bind fun x48 =>
  (ckO q44 x48 7).bind fun _ =>
  (f_X7_merge x48 q44).bind fun q51 =>
  some ((x11 - q18), q51))
  else
  some ((-4 : Int32), q4)
section S_X9_shrink
variable {p : Program} {l : Launch} {e : Env} {s : State} {m : MethodId} {args : Array Value} {below : List Frame} {meth : Method} {c : Code} {D : mmD} {b0 sz : Nat} {f : mmF}
set_option maxHeartbeats 4000000 in
set_option maxRecDepth 100000 in
theorem w_X9_shrink (C0 : CX cX9_shrink 2 (some .int) wsX9_shrink RX9 p s m args meth c D b0) {v0 : Nat} {res : Int32 × mmF} (h : f_X9_shrink v0 f = some res) : ∀ (H : Heap) (locs : List Loc) (ls : Array Slot), MM vwCl D b0 f sz s H → mS b0 s H locs → lv_has ls 2 [(0, .ref v0)] → W p l e ({ frames := 3, cells := 0, slots := 0, locals := 66 } : Room) s m args below meth c H locs 0 0 (MQ below (QW D b0 (some (.int res.1)) res.2 sz) args s 0 0 (fun q => b0 ≤ q)) (F0 m 0 ls []) := by
  obtain ⟨hx, hb, hr, hml, hown, hts, hlocks, hK⟩ := id C0
  intro H locs ls hM hS hl
  unfold f_X9_shrink at h
  refine lv_aload_n hx hb dX9_shrink_0 rfl (lv_at hl 0 rfl) ?_
  replace h := o_b h; obtain ⟨x1, h1, h⟩ := h
  refine m_get (C := RX9) (T := TX9) (N := 9) (ci := 9) hx hb hts qi_X9_shrink_X9 hown hK.1 hM 0 (ldR_F h1) rfl (by decide) (hts _ q_X9_shrink_1) (fun _ h9 => h9) dX9_shrink_1 ?_
  replace h := o_b h; obtain ⟨_, k4, h⟩ := h
  replace h := o_b h; obtain ⟨q4, h4, h⟩ := h
  refine m_call (va_runV (As := []) (rest := []) ⟨hx, hb, hml, hown, hts⟩ (c_X7_findLikes l D b0 sz h4) (cwV 0 hts gX9_shrink_X7_findLikes rfl rfl rfl (by decide +kernel) ⟨Nat.le_of_ble_eq_true rfl, Nat.le_of_ble_eq_true rfl⟩) ⟨PW.blind, m_recv (ci := 7) rfl hK hM k4, (fun U hU hW => ⟨rfl, PW.call hK hM hS hU hW⟩)⟩ rfl rfl hl.1 rfl (lv_room (Nat.le_of_ble_eq_true rfl)) dX9_shrink_4 ⟨(Nat.le_refl _), (Nat.le_refl _)⟩) hS (fun H locs hM hS => ?_)
  refine lv_aload_n hx hb dX9_shrink_7 rfl (lv_at hl 0 rfl) ?_
  replace h := o_b h; obtain ⟨x8, h8, h⟩ := h
  refine m_get (C := RX9) (T := TX9) (N := 9) (ci := 9) hx hb hts qi_X9_shrink_X9 hown hK.1 hM 0 (ldR_F h8) rfl (by decide) (hts _ q_X9_shrink_1) (fun _ h9 => h9) dX9_shrink_8 ?_
  replace h := o_b h; obtain ⟨x11, h11, h⟩ := h
  refine m_get (C := RX7) (T := TX7) (N := 7) (ci := 7) hx hb hts qi_X9_shrink_X7 hown hK.1 hM 0 (ldI_F h11) rfl (by decide) (hts _ q_X9_shrink_3) (fun _ h9 => h9) dX9_shrink_11 ?_
  refine lv_aload_n hx hb dX9_shrink_14 rfl (lv_at hl 0 rfl) ?_
  replace h := o_b h; obtain ⟨x15, h15, h⟩ := h
  refine m_get (C := RX9) (T := TX9) (N := 9) (ci := 9) hx hb hts qi_X9_shrink_X9 hown hK.1 hM 0 (ldR_F h15) rfl (by decide) (hts _ q_X9_shrink_1) (fun _ h9 => h9) dX9_shrink_15 ?_
  replace h := o_b h; obtain ⟨_, k18, h⟩ := h
  replace h := o_b h; obtain ⟨q18, h18, h⟩ := h
  refine m_call (va_runV (As := []) (rest := [.int x11]) ⟨hx, hb, hml, hown, hts⟩ (c_X7_unlike l D b0 sz h18) (cwV 0 hts gX9_shrink_X7_unlike rfl rfl rfl (by decide +kernel) ⟨Nat.le_of_ble_eq_true rfl, Nat.le_of_ble_eq_true rfl⟩) ⟨PW.blind, m_recv (ci := 7) rfl hK hM k18, (fun U hU hW => ⟨rfl, PW.call hK hM hS hU hW⟩)⟩ rfl rfl hl.1 rfl (lv_room (Nat.le_of_ble_eq_true rfl)) dX9_shrink_18 ⟨(Nat.le_refl _), (Nat.le_refl _)⟩) hS (fun H locs hM hS => ?_)
  refine lv_isub hx hb dX9_shrink_21 ?_
  refine lv_istore_n (lv' := [(1, .int (x11 - q18)), (0, .ref v0)]) hx hb dX9_shrink_22 rfl hl (by decide) rfl (fun ls hl => ?_)
  refine lv_aload_n hx hb dX9_shrink_23 rfl (lv_at hl 1 rfl) ?_
  replace h := o_b h; obtain ⟨x24, h24, h⟩ := h
  refine m_get (C := RX9) (T := TX9) (N := 9) (ci := 9) hx hb hts qi_X9_shrink_X9 hown hK.1 hM 0 (ldR_F h24) rfl (by decide) (hts _ q_X9_shrink_1) (fun _ h9 => h9) dX9_shrink_24 ?_
  replace h := o_b h; obtain ⟨_, k27, h⟩ := h
  replace h := o_b h; obtain ⟨q27, h27, h⟩ := h
  refine m_call (va_runV (As := []) (rest := []) ⟨hx, hb, hml, hown, hts⟩ (c_X7_mergeLeadsBack l D b0 sz h27) (cwV 0 hts gX9_shrink_X7_mergeLeadsBack rfl rfl rfl (by decide +kernel) ⟨Nat.le_of_ble_eq_true rfl, Nat.le_of_ble_eq_true rfl⟩) ⟨PW.blind, m_recv (ci := 7) rfl hK hM k27, (fun U hU hW => ⟨rfl, PW.call hK hM hS hU hW⟩)⟩ rfl rfl hl.1 rfl (lv_room (Nat.le_of_ble_eq_true rfl)) dX9_shrink_27 ⟨(Nat.le_refl _), (Nat.le_refl _)⟩) hS (fun H locs hM hS => ?_)
  refine lv_if_eq (tgt := 36) hx hb dX9_shrink_30 (by decide) (fun c30 => ?_) (fun c30 => ?_)
  · replace h := o_t c30 h
    refine lv_iload_n hx hb dX9_shrink_36 rfl (lv_at hl 0 rfl) ?_
    refine lv_if_ne (tgt := 43) hx hb dX9_shrink_37 (by decide) (fun c37 => ?_) (fun c37 => ?_)
    · replace h := o_f c37 h
      refine lv_aload_n hx hb dX9_shrink_43 rfl (lv_at hl 1 rfl) ?_
      replace h := o_b h; obtain ⟨_, k44, h⟩ := h
      replace h := o_b h; obtain ⟨q44, h44, h⟩ := h
      refine m_call (va_runV (As := []) (rest := []) ⟨hx, hb, hml, hown, hts⟩ (c_X9_record l D b0 sz h44) (cwV 0 hts gX9_shrink_X9_record rfl rfl rfl (by decide +kernel) ⟨Nat.le_of_ble_eq_true rfl, Nat.le_of_ble_eq_true rfl⟩) ⟨PW.blind, m_recv (ci := 9) rfl hK hM k44, (fun U hU hW => ⟨rfl, PW.call hK hM hS hU hW⟩)⟩ rfl rfl hl.1 rfl (lv_room (Nat.le_of_ble_eq_true rfl)) dX9_shrink_44 ⟨(Nat.le_refl _), (Nat.le_refl _)⟩) hS (fun H locs hM hS => ?_)
      refine lv_aload_n hx hb dX9_shrink_47 rfl (lv_at hl 1 rfl) ?_
      replace h := o_b h; obtain ⟨x48, h48, h⟩ := h
      refine m_get (C := RX9) (T := TX9) (N := 9) (ci := 9) hx hb hts qi_X9_shrink_X9 hown hK.1 hM 0 (ldR_F h48) rfl (by decide) (hts _ q_X9_shrink_1) (fun _ h9 => h9) dX9_shrink_48 ?_
      replace h := o_b h; obtain ⟨_, k51, h⟩ := h
      replace h := o_b h; obtain ⟨q51, h51, h⟩ := h
      refine m_call (va_runV (As := []) (rest := []) ⟨hx, hb, hml, hown, hts⟩ (c_X7_merge l D b0 sz h51) (cwV 0 hts gX9_shrink_X7_merge rfl rfl rfl (by decide +kernel) ⟨Nat.le_of_ble_eq_true rfl, Nat.le_of_ble_eq_true rfl⟩) ⟨PW.blind, m_recv (ci := 7) rfl hK hM k51, (fun U hU hW => ⟨rfl, PW.call hK hM hS hU hW⟩)⟩ rfl rfl hl.1 rfl (lv_room (Nat.le_of_ble_eq_true rfl)) dX9_shrink_51 ⟨(Nat.le_refl _), (Nat.le_refl _)⟩) hS (fun H locs hM hS => ?_)
      refine lv_iload_n hx hb dX9_shrink_54 rfl (lv_at hl 0 rfl) ?_
      replace h := Option.some.inj h; subst h
      exact W.iret hx hb hr (fun t ht hW => ⟨rfl, by rw [ht]; exact hM.moved hW.alike, hS.F ht⟩) hS.2.2 dX9_shrink_55
    replace h := o_t c37 h
    refine lv_bipush (v := (-5 : Int32)) hx hb dX9_shrink_40 (by decide) ?_
    replace h := Option.some.inj h; subst h
    exact W.iret hx hb hr (fun t ht hW => ⟨rfl, by rw [ht]; exact hM.moved hW.alike, hS.F ht⟩) hS.2.2 dX9_shrink_42
  replace h := o_f c30 h
  refine lv_bipush (v := (-4 : Int32)) hx hb dX9_shrink_33 (by decide) ?_
  replace h := Option.some.inj h; subst h
  exact W.iret hx hb hr (fun t ht hW => ⟨rfl, by rw [ht]; exact hM.moved hW.alike, hS.F ht⟩) hS.2.2 dX9_shrink_35
set_option maxHeartbeats 4000000 in
set_option maxRecDepth 100000 in
theorem c_X9_shrink (l : Launch) (D : mmD) (b0 sz : Nat) {v0 : Nat} {f : mmF} {res : Int32 × mmF} (h : f_X9_shrink v0 f = some res) : Met l yX9_shrink wsX9_shrink ({ frames := 3, cells := 0, slots := 0, locals := 66 } : Room) (va_Pc [.ref v0] (PW D b0 f sz)) (QW D b0 (some (.int res.1)) res.2 sz) 0 0 (fun q => b0 ≤ q) := by
  refine Met.ofW (cc := cX9_shrink) (maxL := 2) (ret := (some .int)) (by decide) rfl ?_
  intro p e s m args below meth c s₁ B hml hv
  obtain ⟨rfl, hM, hK⟩ := hv
  have hl := lv_entry ([.ref v0]) (n := 2) (Nat.le_of_ble_eq_true rfl)
  rw [lg_entry_eq]
  generalize (lg_sl ([.ref v0]) ++ List.replicate (2 - (lg_sl ([.ref v0])).length) Slot.unset).toArray = ls at hl ⊢
  have hl : lv_has ls 2 [(0, .ref v0)] := hl
  exact w_X9_shrink ⟨B.exec, B.bytes, B.returns, hml, findClass_of_methodNamed B.named, atoms_spec (ws := wsX9_shrink) B.pre, B.notSynchronized, hK⟩ h s.heap [] ls hM va_S.rf hl
end S_X9_shrink
/-! X9_isPlace -/
noncomputable def f_X9_isPlace (v0 : Int32) (f : mmF) : Option (Int32) :=
  if v0 < 0 then
  (some ((0 : Int32)))
  else
  if (5 : Int32) ≤ v0 then
  (some ((0 : Int32)))
  else
  some ((1 : Int32))
section S_X9_isPlace
variable {p : Program} {l : Launch} {e : Env} {s : State} {m : MethodId} {args : Array Value} {below : List Frame} {meth : Method} {c : Code} {D : mmD} {b0 sz : Nat} {f : mmF}
set_option maxHeartbeats 4000000 in
set_option maxRecDepth 100000 in
theorem w_X9_isPlace (C0 : CX cX9_isPlace 1 (some .boolean) wsX9_isPlace RX9 p s m args meth c D b0) {v0 : Int32} {res : Int32} (h : f_X9_isPlace v0 f = some res) : ∀ (H : Heap) (locs : List Loc) (ls : Array Slot), MM vwCl D b0 f sz s H → mS b0 s H locs → lv_has ls 1 [(0, .int v0)] → W p l e ({ frames := 0, cells := 0, slots := 0, locals := 0 } : Room) s m args below meth c H locs 0 0 (MQ below (QW D b0 (some (.int res)) f sz) args s 0 0 (fun q => b0 ≤ q)) (F0 m 0 ls []) := by
  obtain ⟨hx, hb, hr, hml, hown, hts, hlocks, hK⟩ := id C0
  intro H locs ls hM hS hl
  unfold f_X9_isPlace at h
  refine lv_iload_n hx hb dX9_isPlace_0 rfl (lv_at hl 0 rfl) ?_
  refine lv_if_lt (tgt := 13) hx hb dX9_isPlace_1 (by decide) (fun c1 => ?_) (fun c1 => ?_)
  · replace h := o_t c1 h
    refine lv_iconst (v := (0 : Int32)) hx hb dX9_isPlace_13 (by decide) ?_
    replace h := Option.some.inj h; subst h
    exact W.zret hx hb hr rfl (fun t ht hW => ⟨rfl, by rw [ht]; exact hM.moved hW.alike, hS.F ht⟩) hS.2.2 dX9_isPlace_14
  replace h := o_f c1 h
  refine lv_iload_n hx hb dX9_isPlace_4 rfl (lv_at hl 0 rfl) ?_
  refine lv_iconst (v := (5 : Int32)) hx hb dX9_isPlace_5 (by decide) ?_
  refine lv_icmp_ge (tgt := 13) hx hb dX9_isPlace_6 (by decide) (fun c6 => ?_) (fun c6 => ?_)
  · replace h := o_t c6 h
    refine lv_iconst (v := (0 : Int32)) hx hb dX9_isPlace_13 (by decide) ?_
    replace h := Option.some.inj h; subst h
    exact W.zret hx hb hr rfl (fun t ht hW => ⟨rfl, by rw [ht]; exact hM.moved hW.alike, hS.F ht⟩) hS.2.2 dX9_isPlace_14
  replace h := o_f c6 h
  refine lv_iconst (v := (1 : Int32)) hx hb dX9_isPlace_9 (by decide) ?_
  refine lv_goto (tgt := 14) hx hb dX9_isPlace_10 (by decide) ?_
  replace h := Option.some.inj h; subst h
  exact W.zret hx hb hr rfl (fun t ht hW => ⟨rfl, by rw [ht]; exact hM.moved hW.alike, hS.F ht⟩) hS.2.2 dX9_isPlace_14
set_option maxHeartbeats 4000000 in
set_option maxRecDepth 100000 in
theorem c_X9_isPlace (l : Launch) (D : mmD) (b0 sz : Nat) {v0 : Int32} {f : mmF} {res : Int32} (h : f_X9_isPlace v0 f = some res) : Met l yX9_isPlace wsX9_isPlace ({ frames := 0, cells := 0, slots := 0, locals := 0 } : Room) (va_Pc [.int v0] (PW D b0 f sz)) (QW D b0 (some (.int res)) f sz) 0 0 (fun q => b0 ≤ q) := by
  refine Met.ofW (cc := cX9_isPlace) (maxL := 1) (ret := (some .boolean)) (by decide) rfl ?_
  intro p e s m args below meth c s₁ B hml hv
  obtain ⟨rfl, hM, hK⟩ := hv
  have hl := lv_entry ([.int v0]) (n := 1) (Nat.le_of_ble_eq_true rfl)
  rw [lg_entry_eq]
  generalize (lg_sl ([.int v0]) ++ List.replicate (1 - (lg_sl ([.int v0])).length) Slot.unset).toArray = ls at hl ⊢
  have hl : lv_has ls 1 [(0, .int v0)] := hl
  exact w_X9_isPlace ⟨B.exec, B.bytes, B.returns, hml, findClass_of_methodNamed B.named, atoms_spec (ws := wsX9_isPlace) B.pre, B.notSynchronized, hK⟩ h s.heap [] ls hM va_S.rf hl
end S_X9_isPlace
/-! X9_claimAt -/
set_option maxRecDepth 20000 in
theorem qi_X9_claimAt_X9 : ∀ w ∈ u_ws RX9 TX9 9, w ∈ wsX9_claimAt := by decide +kernel
set_option maxRecDepth 20000 in
theorem q_X9_claimAt_1 : Cond.fieldLink RX9 10 "StageTruths" "state" "LStageTruths$State;" ∈ wsX9_claimAt := by decide +kernel
set_option maxRecDepth 20000 in
theorem qi_X9_claimAt_X7 : ∀ w ∈ u_ws RX7 TX7 7, w ∈ wsX9_claimAt := by decide +kernel
set_option maxRecDepth 20000 in
theorem q_X9_claimAt_3 : Cond.fieldLink RX9 142 "StageTruths$State" "shelf" "[LStageTruths$Claim;" ∈ wsX9_claimAt := by decide +kernel
noncomputable def f_X9_claimAt (v0 : Nat) (v1 : Int32) (f : mmF) : Option (Option Nat) :=
  (f_X9_isPlace v1 f).bind fun q1 =>
  if q1 = 0 then
  (some (none))
  else
  (ldR f v0 9 0).bind fun x8 =>
  (ldR f x8 7 3).bind fun x11 =>
  (ldQ 3 f x11 v1).bind fun x15 =>
  some (x15)
section S_X9_claimAt
variable {p : Program} {l : Launch} {e : Env} {s : State} {m : MethodId} {args : Array Value} {below : List Frame} {meth : Method} {c : Code} {D : mmD} {b0 sz : Nat} {f : mmF}
set_option maxHeartbeats 4000000 in
set_option maxRecDepth 100000 in
theorem w_X9_claimAt (C0 : CX cX9_claimAt 2 (some (.object "StageTruths$Claim")) wsX9_claimAt RX9 p s m args meth c D b0) {v0 : Nat} {v1 : Int32} {res : Option Nat} (h : f_X9_claimAt v0 v1 f = some res) : ∀ (H : Heap) (locs : List Loc) (ls : Array Slot), MM vwCl D b0 f sz s H → mS b0 s H locs → lv_has ls 2 [(0, .ref v0), (1, .int v1)] → W p l e ({ frames := 1, cells := 0, slots := 0, locals := 20 } : Room) s m args below meth c H locs 0 0 (MQ below (QW D b0 (some (va_rf res)) f sz) args s 0 0 (fun q => b0 ≤ q)) (F0 m 0 ls []) := by
  obtain ⟨hx, hb, hr, hml, hown, hts, hlocks, hK⟩ := id C0
  intro H locs ls hM hS hl
  unfold f_X9_claimAt at h
  refine lv_iload_n hx hb dX9_claimAt_0 rfl (lv_at hl 1 rfl) ?_
  replace h := o_b h; obtain ⟨q1, h1, h⟩ := h
  refine m_call (va_runS (As := [.int v1]) (rest := []) ⟨hx, hb, hml, hown, hts⟩ (c_X9_isPlace l D b0 sz h1) (va_cwS 1 hts gX9_claimAt_X9_isPlace rfl rfl rfl (by decide +kernel) ⟨Nat.le_of_ble_eq_true rfl, Nat.le_of_ble_eq_true rfl⟩) ⟨PW.blind, (fun U hU hW => ⟨rfl, PW.call hK hM hS hU hW⟩)⟩ rfl rfl hl.1 rfl (lv_room (Nat.le_of_ble_eq_true rfl)) dX9_claimAt_1 ⟨(Nat.le_refl _), (Nat.le_refl _)⟩) hS (fun H locs hM hS => ?_)
  refine lv_if_eq (tgt := 19) hx hb dX9_claimAt_4 (by decide) (fun c4 => ?_) (fun c4 => ?_)
  · replace h := o_t c4 h
    refine lv_null hx hb dX9_claimAt_19 ?_
    replace h := Option.some.inj h; subst h
    exact W.aret (v := va_rf none) hx hb hr (Or.inl ⟨_, rfl⟩) (va_rf_or _) (fun t ht hW => ⟨rfl, by rw [ht]; exact hM.moved hW.alike, hS.F ht⟩) hS.2.2 dX9_claimAt_20
  replace h := o_f c4 h
  refine lv_aload_n hx hb dX9_claimAt_7 rfl (lv_at hl 0 rfl) ?_
  replace h := o_b h; obtain ⟨x8, h8, h⟩ := h
  refine m_get (C := RX9) (T := TX9) (N := 9) (ci := 9) hx hb hts qi_X9_claimAt_X9 hown hK.1 hM 0 (ldR_F h8) rfl (by decide) (hts _ q_X9_claimAt_1) (fun _ h9 => h9) dX9_claimAt_8 ?_
  replace h := o_b h; obtain ⟨x11, h11, h⟩ := h
  refine m_get (C := RX7) (T := TX7) (N := 7) (ci := 7) hx hb hts qi_X9_claimAt_X7 hown hK.1 hM 3 (ldR_F h11) rfl (by decide) (hts _ q_X9_claimAt_3) (fun _ h9 => h9) dX9_claimAt_11 ?_
  refine lv_iload_n hx hb dX9_claimAt_14 rfl (lv_at hl 1 rfl) ?_
  replace h := o_b h; obtain ⟨x15, h15, h⟩ := h
  refine m_aldq 3 (by decide) rfl hx hb hK.1 hM h15 dX9_claimAt_15 ?_
  refine lv_goto (tgt := 20) hx hb dX9_claimAt_16 (by decide) ?_
  replace h := Option.some.inj h; subst h
  exact W.aret (v := va_rf x15) hx hb hr (Or.inl ⟨_, rfl⟩) (va_rf_or _) (fun t ht hW => ⟨rfl, by rw [ht]; exact hM.moved hW.alike, hS.F ht⟩) hS.2.2 dX9_claimAt_20
set_option maxHeartbeats 4000000 in
set_option maxRecDepth 100000 in
theorem c_X9_claimAt (l : Launch) (D : mmD) (b0 sz : Nat) {v0 : Nat} {v1 : Int32} {f : mmF} {res : Option Nat} (h : f_X9_claimAt v0 v1 f = some res) : Met l yX9_claimAt wsX9_claimAt ({ frames := 1, cells := 0, slots := 0, locals := 20 } : Room) (va_Pc [.ref v0, .int v1] (PW D b0 f sz)) (QW D b0 (some (va_rf res)) f sz) 0 0 (fun q => b0 ≤ q) := by
  refine Met.ofW (cc := cX9_claimAt) (maxL := 2) (ret := (some (.object "StageTruths$Claim"))) (by decide) rfl ?_
  intro p e s m args below meth c s₁ B hml hv
  obtain ⟨rfl, hM, hK⟩ := hv
  have hl := lv_entry ([.ref v0, .int v1]) (n := 2) (Nat.le_of_ble_eq_true rfl)
  rw [lg_entry_eq]
  generalize (lg_sl ([.ref v0, .int v1]) ++ List.replicate (2 - (lg_sl ([.ref v0, .int v1])).length) Slot.unset).toArray = ls at hl ⊢
  have hl : lv_has ls 2 [(0, .ref v0), (1, .int v1)] := hl
  exact w_X9_claimAt ⟨B.exec, B.bytes, B.returns, hml, findClass_of_methodNamed B.named, atoms_spec (ws := wsX9_claimAt) B.pre, B.notSynchronized, hK⟩ h s.heap [] ls hM va_S.rf hl
end S_X9_claimAt
/-! X9_stagesOf -/
set_option maxRecDepth 20000 in
theorem qi_X9_stagesOf_X9 : ∀ w ∈ u_ws RX9 TX9 9, w ∈ wsX9_stagesOf := by decide +kernel
set_option maxRecDepth 20000 in
theorem q_X9_stagesOf_1 : Cond.fieldLink RX9 56 "StageTruths" "parts" "LStageTruths$Parts;" ∈ wsX9_stagesOf := by decide +kernel
set_option maxRecDepth 20000 in
theorem q_X9_stagesOf_2 : Cond.fieldLink RX9 10 "StageTruths" "state" "LStageTruths$State;" ∈ wsX9_stagesOf := by decide +kernel
set_option maxRecDepth 20000 in
theorem qi_X9_stagesOf_X7 : ∀ w ∈ u_ws RX7 TX7 7, w ∈ wsX9_stagesOf := by decide +kernel
set_option maxRecDepth 20000 in
theorem q_X9_stagesOf_4 : Cond.fieldLink RX9 142 "StageTruths$State" "shelf" "[LStageTruths$Claim;" ∈ wsX9_stagesOf := by decide +kernel
noncomputable def f_X9_stagesOf (v0 : Nat) (v1 : Int32) (f : mmF) : Option (Int32 × mmF) :=
  (ldR f v0 9 8).bind fun x1 =>
  (ldR f v0 9 0).bind fun x5 =>
  (ldR f x5 7 3).bind fun x8 =>
  (ckO f x1 4).bind fun _ =>
  (f_X4_take x1 x8 ((1 : Int32) <<< (v1 &&& 31)) f).bind fun q14 =>
  (ldR q14 v0 9 0).bind fun x18 =>
  (ldR q14 v0 9 8).bind fun x22 =>
  (ldR q14 v0 9 8).bind fun x26 =>
  (ckO q14 x26 4).bind fun _ =>
  (f_X4_whole x26 v1 q14).bind fun q30 =>
  (ckO q14 x18 7).bind fun _ =>
  (f_X7_stagesWith x18 x22 q30 q14).bind fun q33 =>
  some (q33.1, q33.2)
section S_X9_stagesOf
variable {p : Program} {l : Launch} {e : Env} {s : State} {m : MethodId} {args : Array Value} {below : List Frame} {meth : Method} {c : Code} {D : mmD} {b0 sz : Nat} {f : mmF}
set_option maxHeartbeats 4000000 in
set_option maxRecDepth 100000 in
theorem w_X9_stagesOf (C0 : CX cX9_stagesOf 2 (some .int) wsX9_stagesOf RX9 p s m args meth c D b0) {v0 : Nat} {v1 : Int32} {res : Int32 × mmF} (h : f_X9_stagesOf v0 v1 f = some res) : ∀ (H : Heap) (locs : List Loc) (ls : Array Slot), MM vwCl D b0 f sz s H → mS b0 s H locs → lv_has ls 2 [(0, .ref v0), (1, .int v1)] → W p l e ({ frames := 3, cells := 0, slots := 0, locals := 73 } : Room) s m args below meth c H locs 0 0 (MQ below (QW D b0 (some (.int res.1)) res.2 sz) args s 0 0 (fun q => b0 ≤ q)) (F0 m 0 ls []) := by
  obtain ⟨hx, hb, hr, hml, hown, hts, hlocks, hK⟩ := id C0
  intro H locs ls hM hS hl
  unfold f_X9_stagesOf at h
  refine lv_aload_n hx hb dX9_stagesOf_0 rfl (lv_at hl 0 rfl) ?_
  replace h := o_b h; obtain ⟨x1, h1, h⟩ := h
  refine m_get (C := RX9) (T := TX9) (N := 9) (ci := 9) hx hb hts qi_X9_stagesOf_X9 hown hK.1 hM 8 (ldR_F h1) rfl (by decide) (hts _ q_X9_stagesOf_1) (fun _ h9 => h9) dX9_stagesOf_1 ?_
  refine lv_aload_n hx hb dX9_stagesOf_4 rfl (lv_at hl 0 rfl) ?_
  replace h := o_b h; obtain ⟨x5, h5, h⟩ := h
  refine m_get (C := RX9) (T := TX9) (N := 9) (ci := 9) hx hb hts qi_X9_stagesOf_X9 hown hK.1 hM 0 (ldR_F h5) rfl (by decide) (hts _ q_X9_stagesOf_2) (fun _ h9 => h9) dX9_stagesOf_5 ?_
  replace h := o_b h; obtain ⟨x8, h8, h⟩ := h
  refine m_get (C := RX7) (T := TX7) (N := 7) (ci := 7) hx hb hts qi_X9_stagesOf_X7 hown hK.1 hM 3 (ldR_F h8) rfl (by decide) (hts _ q_X9_stagesOf_4) (fun _ h9 => h9) dX9_stagesOf_8 ?_
  refine lv_iconst (v := (1 : Int32)) hx hb dX9_stagesOf_11 (by decide) ?_
  refine lv_iload_n hx hb dX9_stagesOf_12 rfl (lv_at hl 1 rfl) ?_
  refine lv_ishl hx hb dX9_stagesOf_13 ?_
  replace h := o_b h; obtain ⟨_, k14, h⟩ := h
  replace h := o_b h; obtain ⟨q14, h14, h⟩ := h
  refine m_call (va_runV (As := [.ref x8, .int ((1 : Int32) <<< (v1 &&& 31))]) (rest := []) ⟨hx, hb, hml, hown, hts⟩ (c_X4_take l D b0 sz h14) (cwV 2 hts gX9_stagesOf_X4_take rfl rfl rfl (by decide +kernel) ⟨Nat.le_of_ble_eq_true rfl, Nat.le_of_ble_eq_true rfl⟩) ⟨PW.blind, m_recv (ci := 4) rfl hK hM k14, (fun U hU hW => ⟨rfl, PW.call hK hM hS hU hW⟩)⟩ rfl rfl hl.1 rfl (lv_room (Nat.le_of_ble_eq_true rfl)) dX9_stagesOf_14 ⟨(Nat.le_refl _), (Nat.le_refl _)⟩) hS (fun H locs hM hS => ?_)
  refine lv_aload_n hx hb dX9_stagesOf_17 rfl (lv_at hl 0 rfl) ?_
  replace h := o_b h; obtain ⟨x18, h18, h⟩ := h
  refine m_get (C := RX9) (T := TX9) (N := 9) (ci := 9) hx hb hts qi_X9_stagesOf_X9 hown hK.1 hM 0 (ldR_F h18) rfl (by decide) (hts _ q_X9_stagesOf_2) (fun _ h9 => h9) dX9_stagesOf_18 ?_
  refine lv_aload_n hx hb dX9_stagesOf_21 rfl (lv_at hl 0 rfl) ?_
  replace h := o_b h; obtain ⟨x22, h22, h⟩ := h
  refine m_get (C := RX9) (T := TX9) (N := 9) (ci := 9) hx hb hts qi_X9_stagesOf_X9 hown hK.1 hM 8 (ldR_F h22) rfl (by decide) (hts _ q_X9_stagesOf_1) (fun _ h9 => h9) dX9_stagesOf_22 ?_
  refine lv_aload_n hx hb dX9_stagesOf_25 rfl (lv_at hl 0 rfl) ?_
  replace h := o_b h; obtain ⟨x26, h26, h⟩ := h
  refine m_get (C := RX9) (T := TX9) (N := 9) (ci := 9) hx hb hts qi_X9_stagesOf_X9 hown hK.1 hM 8 (ldR_F h26) rfl (by decide) (hts _ q_X9_stagesOf_1) (fun _ h9 => h9) dX9_stagesOf_26 ?_
  refine lv_iload_n hx hb dX9_stagesOf_29 rfl (lv_at hl 1 rfl) ?_
  replace h := o_b h; obtain ⟨_, k30, h⟩ := h
  replace h := o_b h; obtain ⟨q30, h30, h⟩ := h
  refine m_call (va_runV (As := [.int v1]) (rest := [.ref x22, .ref x18]) ⟨hx, hb, hml, hown, hts⟩ (c_X4_whole l D b0 sz h30) (cwV 1 hts gX9_stagesOf_X4_whole rfl rfl rfl (by decide +kernel) ⟨Nat.le_of_ble_eq_true rfl, Nat.le_of_ble_eq_true rfl⟩) ⟨PW.blind, m_recv (ci := 4) rfl hK hM k30, (fun U hU hW => ⟨rfl, PW.call hK hM hS hU hW⟩)⟩ rfl rfl hl.1 rfl (lv_room (Nat.le_of_ble_eq_true rfl)) dX9_stagesOf_30 ⟨(Nat.le_refl _), (Nat.le_refl _)⟩) hS (fun H locs hM hS => ?_)
  replace h := o_b h; obtain ⟨_, k33, h⟩ := h
  replace h := o_b h; obtain ⟨q33, h33, h⟩ := h
  refine m_call (va_runV (As := [.ref x22, .int q30]) (rest := []) ⟨hx, hb, hml, hown, hts⟩ (c_X7_stagesWith l D b0 sz h33) (cwV 2 hts gX9_stagesOf_X7_stagesWith rfl rfl rfl (by decide +kernel) ⟨Nat.le_of_ble_eq_true rfl, Nat.le_of_ble_eq_true rfl⟩) ⟨PW.blind, m_recv (ci := 7) rfl hK hM k33, (fun U hU hW => ⟨rfl, PW.call hK hM hS hU hW⟩)⟩ rfl rfl hl.1 rfl (lv_room (Nat.le_of_ble_eq_true rfl)) dX9_stagesOf_33 ⟨(Nat.le_refl _), (Nat.le_refl _)⟩) hS (fun H locs hM hS => ?_)
  replace h := Option.some.inj h; subst h
  exact W.iret hx hb hr (fun t ht hW => ⟨rfl, by rw [ht]; exact hM.moved hW.alike, hS.F ht⟩) hS.2.2 dX9_stagesOf_36
set_option maxHeartbeats 4000000 in
set_option maxRecDepth 100000 in
theorem c_X9_stagesOf (l : Launch) (D : mmD) (b0 sz : Nat) {v0 : Nat} {v1 : Int32} {f : mmF} {res : Int32 × mmF} (h : f_X9_stagesOf v0 v1 f = some res) : Met l yX9_stagesOf wsX9_stagesOf ({ frames := 3, cells := 0, slots := 0, locals := 73 } : Room) (va_Pc [.ref v0, .int v1] (PW D b0 f sz)) (QW D b0 (some (.int res.1)) res.2 sz) 0 0 (fun q => b0 ≤ q) := by
  refine Met.ofW (cc := cX9_stagesOf) (maxL := 2) (ret := (some .int)) (by decide) rfl ?_
  intro p e s m args below meth c s₁ B hml hv
  obtain ⟨rfl, hM, hK⟩ := hv
  have hl := lv_entry ([.ref v0, .int v1]) (n := 2) (Nat.le_of_ble_eq_true rfl)
  rw [lg_entry_eq]
  generalize (lg_sl ([.ref v0, .int v1]) ++ List.replicate (2 - (lg_sl ([.ref v0, .int v1])).length) Slot.unset).toArray = ls at hl ⊢
  have hl : lv_has ls 2 [(0, .ref v0), (1, .int v1)] := hl
  exact w_X9_stagesOf ⟨B.exec, B.bytes, B.returns, hml, findClass_of_methodNamed B.named, atoms_spec (ws := wsX9_stagesOf) B.pre, B.notSynchronized, hK⟩ h s.heap [] ls hM va_S.rf hl
end S_X9_stagesOf
/-! X9_put -/
set_option maxRecDepth 20000 in
theorem qi_X9_put_X9 : ∀ w ∈ u_ws RX9 TX9 9, w ∈ wsX9_put := by decide +kernel
set_option maxRecDepth 20000 in
theorem q_X9_put_1 : Cond.fieldLink RX9 10 "StageTruths" "state" "LStageTruths$State;" ∈ wsX9_put := by decide +kernel
set_option maxRecDepth 20000 in
theorem qi_X9_put_X7 : ∀ w ∈ u_ws RX7 TX7 7, w ∈ wsX9_put := by decide +kernel
set_option maxRecDepth 20000 in
theorem q_X9_put_3 : Cond.fieldLink RX9 142 "StageTruths$State" "shelf" "[LStageTruths$Claim;" ∈ wsX9_put := by decide +kernel
set_option maxRecDepth 20000 in
theorem q_X9_put_4 : Cond.fieldLink RX9 34 "StageTruths" "text" "LStageTruths$Text;" ∈ wsX9_put := by decide +kernel
noncomputable def f_X9_put_58   (v0 : Nat) (v1 : Int32) (v3 : Nat) (f : mmF) (sz : Nat) : Option (Int32 × mmF × Nat) :=
  (ckO f v0 9).bind fun _ =>
  (f_X9_record v0 f).bind fun q59 =>
  (ldR q59 v0 9 0).bind fun x63 =>
  (ldR q59 x63 7 3).bind fun x66 =>
  (stQ 3 0 q59 x66 v1 (some v3)).bind fun f71 =>
  (ckO f71 v0 9).bind fun _ =>
  (f_X9_stagesOf v0 v1 f71).bind fun q74 =>
  some (q74.1, q74.2, sz)
noncomputable def f_X9_put (v0 : Nat) (v1 : Int32) (f : mmF) (sz : Nat) : Option (Int32 × mmF × Nat) :=
  (f_X9_isPlace v1 f).bind fun q1 =>
  if q1 = 0 then
  (some ((-1 : Int32), f, sz))
  else
  (ldR f v0 9 5).bind fun x10 =>
  (ckO f x10 8).bind fun _ =>
  (f_X8_readFault x10 f).bind fun q13 =>
  if q13.1 < 0 then
  ((ldR q13.2 v0 9 5).bind fun x27 =>
  (ckO q13.2 x27 8).bind fun _ =>
  (f_X8_made x27 q13.2 sz).bind fun q30 =>
  (ckO q30.2.1 v0 9).bind fun _ =>
  (f_X9_claimAt v0 v1 q30.2.1).bind fun q36 =>
  qc q36 (f_X9_put_58 v0 v1 q30.1 q30.2.1 q30.2.2) (fun r43 =>
  (ckO q30.2.1 q30.1 0).bind fun _ =>
  (f_X0_isSameAs q30.1 r43 q30.2.1).bind fun q49 =>
  if q49 = 0 then
  (f_X9_put_58 v0 v1 q30.1 q30.2.1 q30.2.2)
  else
  some ((-5 : Int32), q30.2.1, q30.2.2)))
  else
  some (((-100 : Int32) - q13.1), q13.2, sz)
section S_X9_put
variable {p : Program} {l : Launch} {e : Env} {s : State} {m : MethodId} {args : Array Value} {below : List Frame} {meth : Method} {c : Code} {D : mmD} {b0 sz : Nat} {f : mmF}
set_option maxHeartbeats 4000000 in
set_option maxRecDepth 100000 in
theorem w_X9_put_58 (C0 : CX cX9_put 5 (some .int) wsX9_put RX9 p s m args meth c D b0) {res : Int32 × mmF × Nat} : ∀ (v0 : Nat) (v1 : Int32) (v3 : Nat) (f : mmF) (sz : Nat), f_X9_put_58 v0 v1 v3 f sz = some res → ∀ (H : Heap) (locs : List Loc) (ls : Array Slot), MM vwCl D b0 f sz s H → mS b0 s H locs → lv_has ls 5 [(0, .ref v0), (1, .int v1), (3, .ref v3)] → W p l e ({ frames := 4, cells := 2, slots := 66, locals := 94 } : Room) s m args below meth c H locs 2 66 (MQ below (QW D b0 (some (.int res.1)) res.2.1 res.2.2) args s 2 66 (fun q => b0 ≤ q)) (F0 m 58 ls []) := by
  obtain ⟨hx, hb, hr, hml, hown, hts, hlocks, hK⟩ := id C0
  intro v0 v1 v3 f sz h H locs ls hM hS hl
  unfold f_X9_put_58 at h
  refine lv_aload_n hx hb dX9_put_58 rfl (lv_at hl 0 rfl) ?_
  replace h := o_b h; obtain ⟨_, k59, h⟩ := h
  replace h := o_b h; obtain ⟨q59, h59, h⟩ := h
  refine m_call (va_runV (As := []) (rest := []) ⟨hx, hb, hml, hown, hts⟩ (c_X9_record l D b0 sz h59) (cwV 0 hts gX9_put_X9_record rfl rfl rfl (by decide +kernel) ⟨Nat.le_of_ble_eq_true rfl, Nat.le_of_ble_eq_true rfl⟩) ⟨PW.blind, m_recv (ci := 9) rfl hK hM k59, (fun U hU hW => ⟨rfl, PW.call hK hM hS hU hW⟩)⟩ rfl rfl hl.1 rfl (lv_room (Nat.le_of_ble_eq_true rfl)) dX9_put_59 ⟨(Nat.le_of_ble_eq_true rfl), (Nat.le_of_ble_eq_true rfl)⟩) hS (fun H locs hM hS => ?_)
  refine lv_aload_n hx hb dX9_put_62 rfl (lv_at hl 0 rfl) ?_
  replace h := o_b h; obtain ⟨x63, h63, h⟩ := h
  refine m_get (C := RX9) (T := TX9) (N := 9) (ci := 9) hx hb hts qi_X9_put_X9 hown hK.1 hM 0 (ldR_F h63) rfl (by decide) (hts _ q_X9_put_1) (fun _ h9 => h9) dX9_put_63 ?_
  replace h := o_b h; obtain ⟨x66, h66, h⟩ := h
  refine m_get (C := RX7) (T := TX7) (N := 7) (ci := 7) hx hb hts qi_X9_put_X7 hown hK.1 hM 3 (ldR_F h66) rfl (by decide) (hts _ q_X9_put_3) (fun _ h9 => h9) dX9_put_66 ?_
  refine lv_iload_n hx hb dX9_put_69 rfl (lv_at hl 1 rfl) ?_
  refine lv_aload_n hx hb dX9_put_70 rfl (lv_at hl 2 rfl) ?_
  replace h := o_b h; obtain ⟨f71, h71, h⟩ := h
  refine m_astq 3 0 (by decide) (r0 := (RX0, TX0, 2)) rfl rfl hx hb hK.1 hM hS (r := (some v3)) h71 dX9_put_71 (fun H locs hM hS => ?_)
  refine lv_aload_n hx hb dX9_put_72 rfl (lv_at hl 0 rfl) ?_
  refine lv_iload_n hx hb dX9_put_73 rfl (lv_at hl 1 rfl) ?_
  replace h := o_b h; obtain ⟨_, k74, h⟩ := h
  replace h := o_b h; obtain ⟨q74, h74, h⟩ := h
  refine m_call (va_runV (As := [.int v1]) (rest := []) ⟨hx, hb, hml, hown, hts⟩ (c_X9_stagesOf l D b0 sz h74) (cwV 1 hts gX9_put_X9_stagesOf rfl rfl rfl (by decide +kernel) ⟨Nat.le_of_ble_eq_true rfl, Nat.le_of_ble_eq_true rfl⟩) ⟨PW.blind, m_recv (ci := 9) rfl hK hM k74, (fun U hU hW => ⟨rfl, PW.call hK hM hS hU hW⟩)⟩ rfl rfl hl.1 rfl (lv_room (Nat.le_of_ble_eq_true rfl)) dX9_put_74 ⟨(Nat.le_of_ble_eq_true rfl), (Nat.le_of_ble_eq_true rfl)⟩) hS (fun H locs hM hS => ?_)
  refine W.widen (k := 2) (n := 66) (Nat.le_of_ble_eq_true rfl) (Nat.le_of_ble_eq_true rfl) ?_
  replace h := Option.some.inj h; subst h
  exact W.iret hx hb hr (fun t ht hW => ⟨rfl, by rw [ht]; exact hM.moved hW.alike, hS.F ht⟩) hS.2.2 dX9_put_77
set_option maxHeartbeats 4000000 in
set_option maxRecDepth 100000 in
theorem w_X9_put (C0 : CX cX9_put 5 (some .int) wsX9_put RX9 p s m args meth c D b0) {v0 : Nat} {v1 : Int32} {res : Int32 × mmF × Nat} (h : f_X9_put v0 v1 f sz = some res) : ∀ (H : Heap) (locs : List Loc) (ls : Array Slot), MM vwCl D b0 f sz s H → mS b0 s H locs → lv_has ls 5 [(0, .ref v0), (1, .int v1)] → W p l e ({ frames := 4, cells := 2, slots := 66, locals := 94 } : Room) s m args below meth c H locs 0 0 (MQ below (QW D b0 (some (.int res.1)) res.2.1 res.2.2) args s 2 66 (fun q => b0 ≤ q)) (F0 m 0 ls []) := by
  obtain ⟨hx, hb, hr, hml, hown, hts, hlocks, hK⟩ := id C0
  intro H locs ls hM hS hl
  unfold f_X9_put at h
  refine lv_iload_n hx hb dX9_put_0 rfl (lv_at hl 1 rfl) ?_
  replace h := o_b h; obtain ⟨q1, h1, h⟩ := h
  refine m_call (va_runS (As := [.int v1]) (rest := []) ⟨hx, hb, hml, hown, hts⟩ (c_X9_isPlace l D b0 sz h1) (va_cwS 1 hts gX9_put_X9_isPlace rfl rfl rfl (by decide +kernel) ⟨Nat.le_of_ble_eq_true rfl, Nat.le_of_ble_eq_true rfl⟩) ⟨PW.blind, (fun U hU hW => ⟨rfl, PW.call hK hM hS hU hW⟩)⟩ rfl rfl hl.1 rfl (lv_room (Nat.le_of_ble_eq_true rfl)) dX9_put_1 ⟨(Nat.le_of_ble_eq_true rfl), (Nat.le_of_ble_eq_true rfl)⟩) hS (fun H locs hM hS => ?_)
  refine lv_if_ne (tgt := 9) hx hb dX9_put_4 (by decide) (fun c4 => ?_) (fun c4 => ?_)
  · replace h := o_f c4 h
    refine lv_aload_n hx hb dX9_put_9 rfl (lv_at hl 0 rfl) ?_
    replace h := o_b h; obtain ⟨x10, h10, h⟩ := h
    refine m_get (C := RX9) (T := TX9) (N := 9) (ci := 9) hx hb hts qi_X9_put_X9 hown hK.1 hM 5 (ldR_F h10) rfl (by decide) (hts _ q_X9_put_4) (fun _ h9 => h9) dX9_put_10 ?_
    replace h := o_b h; obtain ⟨_, k13, h⟩ := h
    replace h := o_b h; obtain ⟨q13, h13, h⟩ := h
    refine m_call (va_runV (As := []) (rest := []) ⟨hx, hb, hml, hown, hts⟩ (c_X8_readFault l D b0 sz h13) (cwV 0 hts gX9_put_X8_readFault rfl rfl rfl (by decide +kernel) ⟨Nat.le_of_ble_eq_true rfl, Nat.le_of_ble_eq_true rfl⟩) ⟨PW.blind, m_recv (ci := 8) rfl hK hM k13, (fun U hU hW => ⟨rfl, PW.call hK hM hS hU hW⟩)⟩ rfl rfl hl.1 rfl (lv_room (Nat.le_of_ble_eq_true rfl)) dX9_put_13 ⟨(Nat.le_of_ble_eq_true rfl), (Nat.le_of_ble_eq_true rfl)⟩) hS (fun H locs hM hS => ?_)
    refine lv_istore_n (lv' := [(2, .int q13.1), (0, .ref v0), (1, .int v1)]) hx hb dX9_put_16 rfl hl (by decide) rfl (fun ls hl => ?_)
    refine lv_iload_n hx hb dX9_put_17 rfl (lv_at hl 0 rfl) ?_
    refine lv_if_lt (tgt := 26) hx hb dX9_put_18 (by decide) (fun c18 => ?_) (fun c18 => ?_)
    · replace h := o_t c18 h
      refine lv_aload_n hx hb dX9_put_26 rfl (lv_at hl 1 rfl) ?_
      replace h := o_b h; obtain ⟨x27, h27, h⟩ := h
      refine m_get (C := RX9) (T := TX9) (N := 9) (ci := 9) hx hb hts qi_X9_put_X9 hown hK.1 hM 5 (ldR_F h27) rfl (by decide) (hts _ q_X9_put_4) (fun _ h9 => h9) dX9_put_27 ?_
      replace h := o_b h; obtain ⟨_, k30, h⟩ := h
      replace h := o_b h; obtain ⟨q30, h30, h⟩ := h
      refine m_call (va_runV (As := []) (rest := []) ⟨hx, hb, hml, hown, hts⟩ (c_X8_made l D b0 sz h30) (cwV 0 hts gX9_put_X8_made rfl rfl rfl (by decide +kernel) ⟨Nat.le_of_ble_eq_true rfl, Nat.le_of_ble_eq_true rfl⟩) ⟨PW.blind, m_recv (ci := 8) rfl hK hM k30, (fun U hU hW => ⟨rfl, PW.call hK hM hS hU hW⟩)⟩ rfl rfl hl.1 rfl (lv_room (Nat.le_of_ble_eq_true rfl)) dX9_put_30 ⟨(Nat.le_of_ble_eq_true rfl), (Nat.le_of_ble_eq_true rfl)⟩) hS (fun H locs hM hS => ?_)
      refine lv_astore_n (lv' := [(3, .ref q30.1), (2, .int q13.1), (0, .ref v0), (1, .int v1)]) hx hb dX9_put_33 rfl hl (by decide) rfl (fun ls hl => ?_)
      refine lv_aload_n hx hb dX9_put_34 rfl (lv_at hl 2 rfl) ?_
      refine lv_iload_n hx hb dX9_put_35 rfl (lv_at hl 3 rfl) ?_
      replace h := o_b h; obtain ⟨_, k36, h⟩ := h
      replace h := o_b h; obtain ⟨q36, h36, h⟩ := h
      refine m_call (va_runV (As := [.int v1]) (rest := []) ⟨hx, hb, hml, hown, hts⟩ (c_X9_claimAt l D b0 q30.2.2 h36) (cwV 1 hts gX9_put_X9_claimAt rfl rfl rfl (by decide +kernel) ⟨Nat.le_of_ble_eq_true rfl, Nat.le_of_ble_eq_true rfl⟩) ⟨PW.blind, m_recv (ci := 9) rfl hK hM k36, (fun U hU hW => ⟨rfl, PW.call hK hM hS hU hW⟩)⟩ rfl rfl hl.1 rfl (lv_room (Nat.le_of_ble_eq_true rfl)) dX9_put_36 ⟨(Nat.le_of_ble_eq_true rfl), (Nat.le_of_ble_eq_true rfl)⟩) hS (fun H locs hM hS => ?_)
      refine m_astore (lv' := [(4, va_rf q36), (3, .ref q30.1), (2, .int q13.1), (0, .ref v0), (1, .int v1)]) hx hb dX9_put_39 hl (by decide) rfl (fun ls hl => ?_)
      refine m_aload hx hb dX9_put_41 (lv_at hl 0 rfl) ?_
      rcases q36 with _ | r43
      · replace h := qc_n h
        refine lv_ifnullN (tgt := 58) hx hb dX9_put_43 (by decide) ?_
        exact w_X9_put_58 C0 _ _ _ _ _ h _ _ _ hM hS (lv_sub hl [3, 4, 1] rfl)
      replace h := qc_s h
      refine lv_ifnull hx hb dX9_put_43 ?_
      refine lv_aload_n hx hb dX9_put_46 rfl (lv_at hl 1 rfl) ?_
      refine lv_aload hx hb dX9_put_47 (lv_at hl 0 rfl) ?_
      replace h := o_b h; obtain ⟨_, k49, h⟩ := h
      replace h := o_b h; obtain ⟨q49, h49, h⟩ := h
      refine m_call (va_runV (As := [.ref r43]) (rest := []) ⟨hx, hb, hml, hown, hts⟩ (c_X0_isSameAs l D b0 q30.2.2 h49) (cwV 1 hts gX9_put_X0_isSameAs rfl rfl rfl (by decide +kernel) ⟨Nat.le_of_ble_eq_true rfl, Nat.le_of_ble_eq_true rfl⟩) ⟨PW.blind, m_recv (ci := 0) rfl hK hM k49, (fun U hU hW => ⟨rfl, PW.call hK hM hS hU hW⟩)⟩ rfl rfl hl.1 rfl (lv_room (Nat.le_of_ble_eq_true rfl)) dX9_put_49 ⟨(Nat.le_of_ble_eq_true rfl), (Nat.le_of_ble_eq_true rfl)⟩) hS (fun H locs hM hS => ?_)
      refine lv_if_eq (tgt := 58) hx hb dX9_put_52 (by decide) (fun c52 => ?_) (fun c52 => ?_)
      · replace h := o_t c52 h
        exact w_X9_put_58 C0 _ _ _ _ _ h _ _ _ hM hS (lv_sub hl [3, 4, 1] rfl)
      replace h := o_f c52 h
      refine lv_bipush (v := (-5 : Int32)) hx hb dX9_put_55 (by decide) ?_
      refine W.widen (k := 2) (n := 66) (Nat.le_of_ble_eq_true rfl) (Nat.le_of_ble_eq_true rfl) ?_
      replace h := Option.some.inj h; subst h
      exact W.iret hx hb hr (fun t ht hW => ⟨rfl, by rw [ht]; exact hM.moved hW.alike, hS.F ht⟩) hS.2.2 dX9_put_57
    replace h := o_f c18 h
    refine lv_bipush (v := (-100 : Int32)) hx hb dX9_put_21 (by decide) ?_
    refine lv_iload_n hx hb dX9_put_23 rfl (lv_at hl 0 rfl) ?_
    refine lv_isub hx hb dX9_put_24 ?_
    refine W.widen (k := 2) (n := 66) (Nat.le_of_ble_eq_true rfl) (Nat.le_of_ble_eq_true rfl) ?_
    replace h := Option.some.inj h; subst h
    exact W.iret hx hb hr (fun t ht hW => ⟨rfl, by rw [ht]; exact hM.moved hW.alike, hS.F ht⟩) hS.2.2 dX9_put_25
  replace h := o_t c4 h
  refine lv_iconst (v := (-1 : Int32)) hx hb dX9_put_7 (by decide) ?_
  refine W.widen (k := 2) (n := 66) (Nat.le_of_ble_eq_true rfl) (Nat.le_of_ble_eq_true rfl) ?_
  replace h := Option.some.inj h; subst h
  exact W.iret hx hb hr (fun t ht hW => ⟨rfl, by rw [ht]; exact hM.moved hW.alike, hS.F ht⟩) hS.2.2 dX9_put_8
set_option maxHeartbeats 4000000 in
set_option maxRecDepth 100000 in
theorem c_X9_put (l : Launch) (D : mmD) (b0 sz : Nat) {v0 : Nat} {v1 : Int32} {f : mmF} {res : Int32 × mmF × Nat} (h : f_X9_put v0 v1 f sz = some res) : Met l yX9_put wsX9_put ({ frames := 4, cells := 2, slots := 66, locals := 94 } : Room) (va_Pc [.ref v0, .int v1] (PW D b0 f sz)) (QW D b0 (some (.int res.1)) res.2.1 res.2.2) 2 66 (fun q => b0 ≤ q) := by
  refine Met.ofW (cc := cX9_put) (maxL := 5) (ret := (some .int)) (by decide) rfl ?_
  intro p e s m args below meth c s₁ B hml hv
  obtain ⟨rfl, hM, hK⟩ := hv
  have hl := lv_entry ([.ref v0, .int v1]) (n := 5) (Nat.le_of_ble_eq_true rfl)
  rw [lg_entry_eq]
  generalize (lg_sl ([.ref v0, .int v1]) ++ List.replicate (5 - (lg_sl ([.ref v0, .int v1])).length) Slot.unset).toArray = ls at hl ⊢
  have hl : lv_has ls 5 [(0, .ref v0), (1, .int v1)] := hl
  exact w_X9_put ⟨B.exec, B.bytes, B.returns, hml, findClass_of_methodNamed B.named, atoms_spec (ws := wsX9_put) B.pre, B.notSynchronized, hK⟩ h s.heap [] ls hM va_S.rf hl
end S_X9_put
/-! X9_drop -/
set_option maxRecDepth 20000 in
theorem qi_X9_drop_X9 : ∀ w ∈ u_ws RX9 TX9 9, w ∈ wsX9_drop := by decide +kernel
set_option maxRecDepth 20000 in
theorem q_X9_drop_1 : Cond.fieldLink RX9 10 "StageTruths" "state" "LStageTruths$State;" ∈ wsX9_drop := by decide +kernel
set_option maxRecDepth 20000 in
theorem qi_X9_drop_X7 : ∀ w ∈ u_ws RX7 TX7 7, w ∈ wsX9_drop := by decide +kernel
set_option maxRecDepth 20000 in
theorem q_X9_drop_3 : Cond.fieldLink RX9 142 "StageTruths$State" "shelf" "[LStageTruths$Claim;" ∈ wsX9_drop := by decide +kernel
noncomputable def f_X9_drop (v0 : Nat) (v1 : Int32) (f : mmF) : Option (Int32 × mmF) :=
  (ckO f v0 9).bind fun _ =>
  (f_X9_claimAt v0 v1 f).bind fun q2 =>
  qc q2 (some ((-1 : Int32), f)) (fun r5 =>
  (ckO f v0 9).bind fun _ =>
  (f_X9_record v0 f).bind fun q11 =>
  (ldR q11 v0 9 0).bind fun x15 =>
  (ldR q11 x15 7 3).bind fun x18 =>
  (stQ 3 0 q11 x18 v1 none).bind fun f23 =>
  (ldR f23 v0 9 0).bind fun x25 =>
  (ckO f23 x25 7).bind fun _ =>
  (f_X7_filledPlaces x25 f23).bind fun q28 =>
  (f_J6_bitCount_0f7a4 q28 f23).bind fun q31 =>
  some (q31, f23))
section S_X9_drop
variable {p : Program} {l : Launch} {e : Env} {s : State} {m : MethodId} {args : Array Value} {below : List Frame} {meth : Method} {c : Code} {D : mmD} {b0 sz : Nat} {f : mmF}
set_option maxHeartbeats 4000000 in
set_option maxRecDepth 100000 in
theorem w_X9_drop (C0 : CX cX9_drop 2 (some .int) wsX9_drop RX9 p s m args meth c D b0) {v0 : Nat} {v1 : Int32} {res : Int32 × mmF} (h : f_X9_drop v0 v1 f = some res) : ∀ (H : Heap) (locs : List Loc) (ls : Array Slot), MM vwCl D b0 f sz s H → mS b0 s H locs → lv_has ls 2 [(0, .ref v0), (1, .int v1)] → W p l e ({ frames := 2, cells := 0, slots := 0, locals := 44 } : Room) s m args below meth c H locs 0 0 (MQ below (QW D b0 (some (.int res.1)) res.2 sz) args s 0 0 (fun q => b0 ≤ q)) (F0 m 0 ls []) := by
  obtain ⟨hx, hb, hr, hml, hown, hts, hlocks, hK⟩ := id C0
  intro H locs ls hM hS hl
  unfold f_X9_drop at h
  refine lv_aload_n hx hb dX9_drop_0 rfl (lv_at hl 0 rfl) ?_
  refine lv_iload_n hx hb dX9_drop_1 rfl (lv_at hl 1 rfl) ?_
  replace h := o_b h; obtain ⟨_, k2, h⟩ := h
  replace h := o_b h; obtain ⟨q2, h2, h⟩ := h
  refine m_call (va_runV (As := [.int v1]) (rest := []) ⟨hx, hb, hml, hown, hts⟩ (c_X9_claimAt l D b0 sz h2) (cwV 1 hts gX9_drop_X9_claimAt rfl rfl rfl (by decide +kernel) ⟨Nat.le_of_ble_eq_true rfl, Nat.le_of_ble_eq_true rfl⟩) ⟨PW.blind, m_recv (ci := 9) rfl hK hM k2, (fun U hU hW => ⟨rfl, PW.call hK hM hS hU hW⟩)⟩ rfl rfl hl.1 rfl (lv_room (Nat.le_of_ble_eq_true rfl)) dX9_drop_2 ⟨(Nat.le_refl _), (Nat.le_refl _)⟩) hS (fun H locs hM hS => ?_)
  rcases q2 with _ | r5
  · replace h := qc_n h
    refine lv_ifnonnullN hx hb dX9_drop_5 ?_
    refine lv_iconst (v := (-1 : Int32)) hx hb dX9_drop_8 (by decide) ?_
    replace h := Option.some.inj h; subst h
    exact W.iret hx hb hr (fun t ht hW => ⟨rfl, by rw [ht]; exact hM.moved hW.alike, hS.F ht⟩) hS.2.2 dX9_drop_9
  replace h := qc_s h
  refine lv_ifnonnull (tgt := 10) hx hb dX9_drop_5 (by decide) ?_
  refine lv_aload_n hx hb dX9_drop_10 rfl (lv_at hl 0 rfl) ?_
  replace h := o_b h; obtain ⟨_, k11, h⟩ := h
  replace h := o_b h; obtain ⟨q11, h11, h⟩ := h
  refine m_call (va_runV (As := []) (rest := []) ⟨hx, hb, hml, hown, hts⟩ (c_X9_record l D b0 sz h11) (cwV 0 hts gX9_drop_X9_record rfl rfl rfl (by decide +kernel) ⟨Nat.le_of_ble_eq_true rfl, Nat.le_of_ble_eq_true rfl⟩) ⟨PW.blind, m_recv (ci := 9) rfl hK hM k11, (fun U hU hW => ⟨rfl, PW.call hK hM hS hU hW⟩)⟩ rfl rfl hl.1 rfl (lv_room (Nat.le_of_ble_eq_true rfl)) dX9_drop_11 ⟨(Nat.le_refl _), (Nat.le_refl _)⟩) hS (fun H locs hM hS => ?_)
  refine lv_aload_n hx hb dX9_drop_14 rfl (lv_at hl 0 rfl) ?_
  replace h := o_b h; obtain ⟨x15, h15, h⟩ := h
  refine m_get (C := RX9) (T := TX9) (N := 9) (ci := 9) hx hb hts qi_X9_drop_X9 hown hK.1 hM 0 (ldR_F h15) rfl (by decide) (hts _ q_X9_drop_1) (fun _ h9 => h9) dX9_drop_15 ?_
  replace h := o_b h; obtain ⟨x18, h18, h⟩ := h
  refine m_get (C := RX7) (T := TX7) (N := 7) (ci := 7) hx hb hts qi_X9_drop_X7 hown hK.1 hM 3 (ldR_F h18) rfl (by decide) (hts _ q_X9_drop_3) (fun _ h9 => h9) dX9_drop_18 ?_
  refine lv_iload_n hx hb dX9_drop_21 rfl (lv_at hl 1 rfl) ?_
  refine lv_null hx hb dX9_drop_22 ?_
  replace h := o_b h; obtain ⟨f23, h23, h⟩ := h
  refine m_astq 3 0 (by decide) (r0 := (RX0, TX0, 2)) rfl rfl hx hb hK.1 hM hS (r := none) h23 dX9_drop_23 (fun H locs hM hS => ?_)
  refine lv_aload_n hx hb dX9_drop_24 rfl (lv_at hl 0 rfl) ?_
  replace h := o_b h; obtain ⟨x25, h25, h⟩ := h
  refine m_get (C := RX9) (T := TX9) (N := 9) (ci := 9) hx hb hts qi_X9_drop_X9 hown hK.1 hM 0 (ldR_F h25) rfl (by decide) (hts _ q_X9_drop_1) (fun _ h9 => h9) dX9_drop_25 ?_
  replace h := o_b h; obtain ⟨_, k28, h⟩ := h
  replace h := o_b h; obtain ⟨q28, h28, h⟩ := h
  refine m_call (va_runV (As := []) (rest := []) ⟨hx, hb, hml, hown, hts⟩ (c_X7_filledPlaces l D b0 sz h28) (cwV 0 hts gX9_drop_X7_filledPlaces rfl rfl rfl (by decide +kernel) ⟨Nat.le_of_ble_eq_true rfl, Nat.le_of_ble_eq_true rfl⟩) ⟨PW.blind, m_recv (ci := 7) rfl hK hM k28, (fun U hU hW => ⟨rfl, PW.call hK hM hS hU hW⟩)⟩ rfl rfl hl.1 rfl (lv_room (Nat.le_of_ble_eq_true rfl)) dX9_drop_28 ⟨(Nat.le_refl _), (Nat.le_refl _)⟩) hS (fun H locs hM hS => ?_)
  replace h := o_b h; obtain ⟨q31, h31, h⟩ := h
  refine m_call (va_runS (As := [.int q28]) (rest := []) ⟨hx, hb, hml, hown, hts⟩ (c_J6_bitCount_0f7a4 l D b0 sz h31) (va_cwS 1 hts gX9_drop_J6_bitCount_0f7a4 rfl rfl rfl (by decide +kernel) ⟨Nat.le_of_ble_eq_true rfl, Nat.le_of_ble_eq_true rfl⟩) ⟨PW.blind, (fun U hU hW => ⟨rfl, PW.call hK hM hS hU hW⟩)⟩ rfl rfl hl.1 rfl (lv_room (Nat.le_of_ble_eq_true rfl)) dX9_drop_31 ⟨(Nat.le_refl _), (Nat.le_refl _)⟩) hS (fun H locs hM hS => ?_)
  replace h := Option.some.inj h; subst h
  exact W.iret hx hb hr (fun t ht hW => ⟨rfl, by rw [ht]; exact hM.moved hW.alike, hS.F ht⟩) hS.2.2 dX9_drop_34
set_option maxHeartbeats 4000000 in
set_option maxRecDepth 100000 in
theorem c_X9_drop (l : Launch) (D : mmD) (b0 sz : Nat) {v0 : Nat} {v1 : Int32} {f : mmF} {res : Int32 × mmF} (h : f_X9_drop v0 v1 f = some res) : Met l yX9_drop wsX9_drop ({ frames := 2, cells := 0, slots := 0, locals := 44 } : Room) (va_Pc [.ref v0, .int v1] (PW D b0 f sz)) (QW D b0 (some (.int res.1)) res.2 sz) 0 0 (fun q => b0 ≤ q) := by
  refine Met.ofW (cc := cX9_drop) (maxL := 2) (ret := (some .int)) (by decide) rfl ?_
  intro p e s m args below meth c s₁ B hml hv
  obtain ⟨rfl, hM, hK⟩ := hv
  have hl := lv_entry ([.ref v0, .int v1]) (n := 2) (Nat.le_of_ble_eq_true rfl)
  rw [lg_entry_eq]
  generalize (lg_sl ([.ref v0, .int v1]) ++ List.replicate (2 - (lg_sl ([.ref v0, .int v1])).length) Slot.unset).toArray = ls at hl ⊢
  have hl : lv_has ls 2 [(0, .ref v0), (1, .int v1)] := hl
  exact w_X9_drop ⟨B.exec, B.bytes, B.returns, hml, findClass_of_methodNamed B.named, atoms_spec (ws := wsX9_drop) B.pre, B.notSynchronized, hK⟩ h s.heap [] ls hM va_S.rf hl
end S_X9_drop
/-! X9_join -/
set_option maxRecDepth 20000 in
theorem qi_X9_join_X0 : ∀ w ∈ u_ws RX0 TX0 2, w ∈ wsX9_join := by decide +kernel
set_option maxRecDepth 20000 in
theorem q_X9_join_1 : Cond.fieldLink RX9 157 "StageTruths$Claim" "size" "I" ∈ wsX9_join := by decide +kernel
set_option maxRecDepth 20000 in
theorem qi_X9_join_X9 : ∀ w ∈ u_ws RX9 TX9 9, w ∈ wsX9_join := by decide +kernel
set_option maxRecDepth 20000 in
theorem q_X9_join_3 : Cond.fieldLink RX9 10 "StageTruths" "state" "LStageTruths$State;" ∈ wsX9_join := by decide +kernel
set_option maxRecDepth 20000 in
theorem qi_X9_join_X7 : ∀ w ∈ u_ws RX7 TX7 7, w ∈ wsX9_join := by decide +kernel
set_option maxRecDepth 20000 in
theorem q_X9_join_5 : Cond.fieldLink RX9 142 "StageTruths$State" "shelf" "[LStageTruths$Claim;" ∈ wsX9_join := by decide +kernel
noncomputable def f_X9_join (v0 : Nat) (v1 : Int32) (v2 : Int32) (v3 : Int32) (v4 : Int32) (f : mmF) (sz : Nat) : Option (Int32 × mmF × Nat) :=
  (ckO f v0 9).bind fun _ =>
  (f_X9_claimAt v0 v2 f).bind fun q2 =>
  (ckO f v0 9).bind fun _ =>
  (f_X9_claimAt v0 v4 f).bind fun q10 =>
  (f_X9_isPlace v1 f).bind fun q16 =>
  if q16 = 0 then
  (some ((-1 : Int32), f, sz))
  else
  qc q2 (some ((-1 : Int32), f, sz)) (fun r24 =>
  qc q10 (some ((-1 : Int32), f, sz)) (fun r29 =>
  if v3 < 0 then
  (some ((-2 : Int32), f, sz))
  else
  if v3 ≤ (2 : Int32) then
  ((ldI f r24 0 0).bind fun x48 =>
  (ldI f r29 0 0).bind fun x53 =>
  if ((x48 + x53) + (1 : Int32)) ≤ (24 : Int32) then
  ((f_X0_joined r24 r29 ((7 : Int32) + v3) f sz).bind fun q75 =>
  (ckO q75.2.1 v0 9).bind fun _ =>
  (f_X9_record v0 q75.2.1).bind fun q81 =>
  (ldR q81 v0 9 0).bind fun x85 =>
  (ldR q81 x85 7 3).bind fun x88 =>
  (stQ 3 0 q81 x88 v1 (some q75.1)).bind fun f94 =>
  (ckO f94 v0 9).bind fun _ =>
  (f_X9_stagesOf v0 v1 f94).bind fun q97 =>
  some (q97.1, q97.2, q75.2.2))
  else
  some ((-4 : Int32), f, sz))
  else
  some ((-2 : Int32), f, sz)))
section S_X9_join
variable {p : Program} {l : Launch} {e : Env} {s : State} {m : MethodId} {args : Array Value} {below : List Frame} {meth : Method} {c : Code} {D : mmD} {b0 sz : Nat} {f : mmF}
set_option maxHeartbeats 4000000 in
set_option maxRecDepth 100000 in
theorem w_X9_join (C0 : CX cX9_join 8 (some .int) wsX9_join RX9 p s m args meth c D b0) {v0 : Nat} {v1 : Int32} {v2 : Int32} {v3 : Int32} {v4 : Int32} {res : Int32 × mmF × Nat} (h : f_X9_join v0 v1 v2 v3 v4 f sz = some res) : ∀ (H : Heap) (locs : List Loc) (ls : Array Slot), MM vwCl D b0 f sz s H → mS b0 s H locs → lv_has ls 8 [(0, .ref v0), (1, .int v1), (2, .int v2), (3, .int v3), (4, .int v4)] → W p l e ({ frames := 4, cells := 3, slots := 130, locals := 94 } : Room) s m args below meth c H locs 0 0 (MQ below (QW D b0 (some (.int res.1)) res.2.1 res.2.2) args s 3 130 (fun q => b0 ≤ q)) (F0 m 0 ls []) := by
  obtain ⟨hx, hb, hr, hml, hown, hts, hlocks, hK⟩ := id C0
  intro H locs ls hM hS hl
  unfold f_X9_join at h
  refine lv_aload_n hx hb dX9_join_0 rfl (lv_at hl 0 rfl) ?_
  refine lv_iload_n hx hb dX9_join_1 rfl (lv_at hl 2 rfl) ?_
  replace h := o_b h; obtain ⟨_, k2, h⟩ := h
  replace h := o_b h; obtain ⟨q2, h2, h⟩ := h
  refine m_call (va_runV (As := [.int v2]) (rest := []) ⟨hx, hb, hml, hown, hts⟩ (c_X9_claimAt l D b0 sz h2) (cwV 1 hts gX9_join_X9_claimAt rfl rfl rfl (by decide +kernel) ⟨Nat.le_of_ble_eq_true rfl, Nat.le_of_ble_eq_true rfl⟩) ⟨PW.blind, m_recv (ci := 9) rfl hK hM k2, (fun U hU hW => ⟨rfl, PW.call hK hM hS hU hW⟩)⟩ rfl rfl hl.1 rfl (lv_room (Nat.le_of_ble_eq_true rfl)) dX9_join_2 ⟨(Nat.le_of_ble_eq_true rfl), (Nat.le_of_ble_eq_true rfl)⟩) hS (fun H locs hM hS => ?_)
  refine m_astore (lv' := [(5, va_rf q2), (0, .ref v0), (1, .int v1), (2, .int v2), (3, .int v3), (4, .int v4)]) hx hb dX9_join_5 hl (by decide) rfl (fun ls hl => ?_)
  refine lv_aload_n hx hb dX9_join_7 rfl (lv_at hl 1 rfl) ?_
  refine lv_iload hx hb dX9_join_8 (lv_at hl 5 rfl) ?_
  replace h := o_b h; obtain ⟨_, k10, h⟩ := h
  replace h := o_b h; obtain ⟨q10, h10, h⟩ := h
  refine m_call (va_runV (As := [.int v4]) (rest := []) ⟨hx, hb, hml, hown, hts⟩ (c_X9_claimAt l D b0 sz h10) (cwV 1 hts gX9_join_X9_claimAt rfl rfl rfl (by decide +kernel) ⟨Nat.le_of_ble_eq_true rfl, Nat.le_of_ble_eq_true rfl⟩) ⟨PW.blind, m_recv (ci := 9) rfl hK hM k10, (fun U hU hW => ⟨rfl, PW.call hK hM hS hU hW⟩)⟩ rfl rfl hl.1 rfl (lv_room (Nat.le_of_ble_eq_true rfl)) dX9_join_10 ⟨(Nat.le_of_ble_eq_true rfl), (Nat.le_of_ble_eq_true rfl)⟩) hS (fun H locs hM hS => ?_)
  refine m_astore (lv' := [(6, va_rf q10), (5, va_rf q2), (0, .ref v0), (1, .int v1), (2, .int v2), (3, .int v3), (4, .int v4)]) hx hb dX9_join_13 hl (by decide) (by simp [va_rf_cat]) (fun ls hl => ?_)
  refine lv_iload_n hx hb dX9_join_15 rfl (lv_at hl 3 rfl) ?_
  replace h := o_b h; obtain ⟨q16, h16, h⟩ := h
  refine m_call (va_runS (As := [.int v1]) (rest := []) ⟨hx, hb, hml, hown, hts⟩ (c_X9_isPlace l D b0 sz h16) (va_cwS 1 hts gX9_join_X9_isPlace rfl rfl rfl (by decide +kernel) ⟨Nat.le_of_ble_eq_true rfl, Nat.le_of_ble_eq_true rfl⟩) ⟨PW.blind, (fun U hU hW => ⟨rfl, PW.call hK hM hS hU hW⟩)⟩ rfl rfl hl.1 rfl (lv_room (Nat.le_of_ble_eq_true rfl)) dX9_join_16 ⟨(Nat.le_of_ble_eq_true rfl), (Nat.le_of_ble_eq_true rfl)⟩) hS (fun H locs hM hS => ?_)
  refine lv_if_eq (tgt := 32) hx hb dX9_join_19 (by decide) (fun c19 => ?_) (fun c19 => ?_)
  · replace h := o_t c19 h
    refine lv_iconst (v := (-1 : Int32)) hx hb dX9_join_32 (by decide) ?_
    refine W.widen (k := 3) (n := 130) (Nat.le_of_ble_eq_true rfl) (Nat.le_of_ble_eq_true rfl) ?_
    replace h := Option.some.inj h; subst h
    exact W.iret hx hb hr (fun t ht hW => ⟨rfl, by rw [ht]; exact hM.moved hW.alike, hS.F ht⟩) hS.2.2 dX9_join_33
  replace h := o_f c19 h
  refine m_aload hx hb dX9_join_22 (lv_at hl 1 rfl) ?_
  rcases q2 with _ | r24
  · replace h := qc_n h
    refine lv_ifnullN (tgt := 32) hx hb dX9_join_24 (by decide) ?_
    refine lv_iconst (v := (-1 : Int32)) hx hb dX9_join_32 (by decide) ?_
    refine W.widen (k := 3) (n := 130) (Nat.le_of_ble_eq_true rfl) (Nat.le_of_ble_eq_true rfl) ?_
    replace h := Option.some.inj h; subst h
    exact W.iret hx hb hr (fun t ht hW => ⟨rfl, by rw [ht]; exact hM.moved hW.alike, hS.F ht⟩) hS.2.2 dX9_join_33
  replace h := qc_s h
  refine lv_ifnull hx hb dX9_join_24 ?_
  refine m_aload hx hb dX9_join_27 (lv_at hl 0 rfl) ?_
  rcases q10 with _ | r29
  · replace h := qc_n h
    refine lv_ifnonnullN hx hb dX9_join_29 ?_
    refine lv_iconst (v := (-1 : Int32)) hx hb dX9_join_32 (by decide) ?_
    refine W.widen (k := 3) (n := 130) (Nat.le_of_ble_eq_true rfl) (Nat.le_of_ble_eq_true rfl) ?_
    replace h := Option.some.inj h; subst h
    exact W.iret hx hb hr (fun t ht hW => ⟨rfl, by rw [ht]; exact hM.moved hW.alike, hS.F ht⟩) hS.2.2 dX9_join_33
  replace h := qc_s h
  refine lv_ifnonnull (tgt := 34) hx hb dX9_join_29 (by decide) ?_
  refine lv_iload_n hx hb dX9_join_34 rfl (lv_at hl 5 rfl) ?_
  refine lv_if_lt (tgt := 43) hx hb dX9_join_35 (by decide) (fun c35 => ?_) (fun c35 => ?_)
  · replace h := o_t c35 h
    refine lv_bipush (v := (-2 : Int32)) hx hb dX9_join_43 (by decide) ?_
    refine W.widen (k := 3) (n := 130) (Nat.le_of_ble_eq_true rfl) (Nat.le_of_ble_eq_true rfl) ?_
    replace h := Option.some.inj h; subst h
    exact W.iret hx hb hr (fun t ht hW => ⟨rfl, by rw [ht]; exact hM.moved hW.alike, hS.F ht⟩) hS.2.2 dX9_join_45
  replace h := o_f c35 h
  refine lv_iload_n hx hb dX9_join_38 rfl (lv_at hl 5 rfl) ?_
  refine lv_iconst (v := (2 : Int32)) hx hb dX9_join_39 (by decide) ?_
  refine lv_icmp_le (tgt := 46) hx hb dX9_join_40 (by decide) (fun c40 => ?_) (fun c40 => ?_)
  · replace h := o_t c40 h
    refine lv_aload hx hb dX9_join_46 (lv_at hl 1 rfl) ?_
    replace h := o_b h; obtain ⟨x48, h48, h⟩ := h
    refine m_get (C := RX0) (T := TX0) (N := 2) (ci := 0) hx hb hts qi_X9_join_X0 hown hK.1 hM 0 (ldI_F h48) rfl (by decide) (hts _ q_X9_join_1) (fun _ h9 => h9) dX9_join_48 ?_
    refine lv_aload hx hb dX9_join_51 (lv_at hl 0 rfl) ?_
    replace h := o_b h; obtain ⟨x53, h53, h⟩ := h
    refine m_get (C := RX0) (T := TX0) (N := 2) (ci := 0) hx hb hts qi_X9_join_X0 hown hK.1 hM 0 (ldI_F h53) rfl (by decide) (hts _ q_X9_join_1) (fun _ h9 => h9) dX9_join_53 ?_
    refine lv_iadd hx hb dX9_join_56 ?_
    refine lv_iconst (v := (1 : Int32)) hx hb dX9_join_57 (by decide) ?_
    refine lv_iadd hx hb dX9_join_58 ?_
    refine lv_bipush (v := (24 : Int32)) hx hb dX9_join_59 (by decide) ?_
    refine lv_icmp_le (tgt := 67) hx hb dX9_join_61 (by decide) (fun c61 => ?_) (fun c61 => ?_)
    · replace h := o_t c61 h
      refine lv_aload hx hb dX9_join_67 (lv_at hl 1 rfl) ?_
      refine lv_aload hx hb dX9_join_69 (lv_at hl 0 rfl) ?_
      refine lv_bipush (v := (7 : Int32)) hx hb dX9_join_71 (by decide) ?_
      refine lv_iload_n hx hb dX9_join_73 rfl (lv_at hl 5 rfl) ?_
      refine lv_iadd hx hb dX9_join_74 ?_
      replace h := o_b h; obtain ⟨q75, h75, h⟩ := h
      refine m_call (va_runS (As := [.ref r24, .ref r29, .int ((7 : Int32) + v3)]) (rest := []) ⟨hx, hb, hml, hown, hts⟩ (c_X0_joined l D b0 sz h75) (va_cwS 3 hts gX9_join_X0_joined rfl rfl rfl (by decide +kernel) ⟨Nat.le_of_ble_eq_true rfl, Nat.le_of_ble_eq_true rfl⟩) ⟨PW.blind, (fun U hU hW => ⟨rfl, PW.call hK hM hS hU hW⟩)⟩ rfl rfl hl.1 rfl (lv_room (Nat.le_of_ble_eq_true rfl)) dX9_join_75 ⟨(Nat.le_of_ble_eq_true rfl), (Nat.le_of_ble_eq_true rfl)⟩) hS (fun H locs hM hS => ?_)
      refine lv_astore (lv' := [(7, .ref q75.1), (6, .ref r29), (5, .ref r24), (0, .ref v0), (1, .int v1), (2, .int v2), (3, .int v3), (4, .int v4)]) hx hb dX9_join_78 hl (by decide) rfl (fun ls hl => ?_)
      refine lv_aload_n hx hb dX9_join_80 rfl (lv_at hl 3 rfl) ?_
      replace h := o_b h; obtain ⟨_, k81, h⟩ := h
      replace h := o_b h; obtain ⟨q81, h81, h⟩ := h
      refine m_call (va_runV (As := []) (rest := []) ⟨hx, hb, hml, hown, hts⟩ (c_X9_record l D b0 q75.2.2 h81) (cwV 0 hts gX9_join_X9_record rfl rfl rfl (by decide +kernel) ⟨Nat.le_of_ble_eq_true rfl, Nat.le_of_ble_eq_true rfl⟩) ⟨PW.blind, m_recv (ci := 9) rfl hK hM k81, (fun U hU hW => ⟨rfl, PW.call hK hM hS hU hW⟩)⟩ rfl rfl hl.1 rfl (lv_room (Nat.le_of_ble_eq_true rfl)) dX9_join_81 ⟨(Nat.le_of_ble_eq_true rfl), (Nat.le_of_ble_eq_true rfl)⟩) hS (fun H locs hM hS => ?_)
      refine lv_aload_n hx hb dX9_join_84 rfl (lv_at hl 3 rfl) ?_
      replace h := o_b h; obtain ⟨x85, h85, h⟩ := h
      refine m_get (C := RX9) (T := TX9) (N := 9) (ci := 9) hx hb hts qi_X9_join_X9 hown hK.1 hM 0 (ldR_F h85) rfl (by decide) (hts _ q_X9_join_3) (fun _ h9 => h9) dX9_join_85 ?_
      replace h := o_b h; obtain ⟨x88, h88, h⟩ := h
      refine m_get (C := RX7) (T := TX7) (N := 7) (ci := 7) hx hb hts qi_X9_join_X7 hown hK.1 hM 3 (ldR_F h88) rfl (by decide) (hts _ q_X9_join_5) (fun _ h9 => h9) dX9_join_88 ?_
      refine lv_iload_n hx hb dX9_join_91 rfl (lv_at hl 4 rfl) ?_
      refine lv_aload hx hb dX9_join_92 (lv_at hl 0 rfl) ?_
      replace h := o_b h; obtain ⟨f94, h94, h⟩ := h
      refine m_astq 3 0 (by decide) (r0 := (RX0, TX0, 2)) rfl rfl hx hb hK.1 hM hS (r := (some q75.1)) h94 dX9_join_94 (fun H locs hM hS => ?_)
      refine lv_aload_n hx hb dX9_join_95 rfl (lv_at hl 3 rfl) ?_
      refine lv_iload_n hx hb dX9_join_96 rfl (lv_at hl 4 rfl) ?_
      replace h := o_b h; obtain ⟨_, k97, h⟩ := h
      replace h := o_b h; obtain ⟨q97, h97, h⟩ := h
      refine m_call (va_runV (As := [.int v1]) (rest := []) ⟨hx, hb, hml, hown, hts⟩ (c_X9_stagesOf l D b0 q75.2.2 h97) (cwV 1 hts gX9_join_X9_stagesOf rfl rfl rfl (by decide +kernel) ⟨Nat.le_of_ble_eq_true rfl, Nat.le_of_ble_eq_true rfl⟩) ⟨PW.blind, m_recv (ci := 9) rfl hK hM k97, (fun U hU hW => ⟨rfl, PW.call hK hM hS hU hW⟩)⟩ rfl rfl hl.1 rfl (lv_room (Nat.le_of_ble_eq_true rfl)) dX9_join_97 ⟨(Nat.le_of_ble_eq_true rfl), (Nat.le_of_ble_eq_true rfl)⟩) hS (fun H locs hM hS => ?_)
      refine W.widen (k := 3) (n := 130) (Nat.le_of_ble_eq_true rfl) (Nat.le_of_ble_eq_true rfl) ?_
      replace h := Option.some.inj h; subst h
      exact W.iret hx hb hr (fun t ht hW => ⟨rfl, by rw [ht]; exact hM.moved hW.alike, hS.F ht⟩) hS.2.2 dX9_join_100
    replace h := o_f c61 h
    refine lv_bipush (v := (-4 : Int32)) hx hb dX9_join_64 (by decide) ?_
    refine W.widen (k := 3) (n := 130) (Nat.le_of_ble_eq_true rfl) (Nat.le_of_ble_eq_true rfl) ?_
    replace h := Option.some.inj h; subst h
    exact W.iret hx hb hr (fun t ht hW => ⟨rfl, by rw [ht]; exact hM.moved hW.alike, hS.F ht⟩) hS.2.2 dX9_join_66
  replace h := o_f c40 h
  refine lv_bipush (v := (-2 : Int32)) hx hb dX9_join_43 (by decide) ?_
  refine W.widen (k := 3) (n := 130) (Nat.le_of_ble_eq_true rfl) (Nat.le_of_ble_eq_true rfl) ?_
  replace h := Option.some.inj h; subst h
  exact W.iret hx hb hr (fun t ht hW => ⟨rfl, by rw [ht]; exact hM.moved hW.alike, hS.F ht⟩) hS.2.2 dX9_join_45
set_option maxHeartbeats 4000000 in
set_option maxRecDepth 100000 in
theorem c_X9_join (l : Launch) (D : mmD) (b0 sz : Nat) {v0 : Nat} {v1 : Int32} {v2 : Int32} {v3 : Int32} {v4 : Int32} {f : mmF} {res : Int32 × mmF × Nat} (h : f_X9_join v0 v1 v2 v3 v4 f sz = some res) : Met l yX9_join wsX9_join ({ frames := 4, cells := 3, slots := 130, locals := 94 } : Room) (va_Pc [.ref v0, .int v1, .int v2, .int v3, .int v4] (PW D b0 f sz)) (QW D b0 (some (.int res.1)) res.2.1 res.2.2) 3 130 (fun q => b0 ≤ q) := by
  refine Met.ofW (cc := cX9_join) (maxL := 8) (ret := (some .int)) (by decide) rfl ?_
  intro p e s m args below meth c s₁ B hml hv
  obtain ⟨rfl, hM, hK⟩ := hv
  have hl := lv_entry ([.ref v0, .int v1, .int v2, .int v3, .int v4]) (n := 8) (Nat.le_of_ble_eq_true rfl)
  rw [lg_entry_eq]
  generalize (lg_sl ([.ref v0, .int v1, .int v2, .int v3, .int v4]) ++ List.replicate (8 - (lg_sl ([.ref v0, .int v1, .int v2, .int v3, .int v4])).length) Slot.unset).toArray = ls at hl ⊢
  have hl : lv_has ls 8 [(0, .ref v0), (1, .int v1), (2, .int v2), (3, .int v3), (4, .int v4)] := hl
  exact w_X9_join ⟨B.exec, B.bytes, B.returns, hml, findClass_of_methodNamed B.named, atoms_spec (ws := wsX9_join) B.pre, B.notSynchronized, hK⟩ h s.heap [] ls hM va_S.rf hl
end S_X9_join
/-! X9_type -/
set_option maxRecDepth 20000 in
theorem qi_X9_type_X9 : ∀ w ∈ u_ws RX9 TX9 9, w ∈ wsX9_type := by decide +kernel
set_option maxRecDepth 20000 in
theorem q_X9_type_1 : Cond.fieldLink RX9 34 "StageTruths" "text" "LStageTruths$Text;" ∈ wsX9_type := by decide +kernel
set_option maxRecDepth 20000 in
theorem qi_X9_type_X8 : ∀ w ∈ u_ws RX8 TX8 7, w ∈ wsX9_type := by decide +kernel
set_option maxRecDepth 20000 in
theorem q_X9_type_3 : Cond.fieldLink RX9 164 "StageTruths$Text" "length" "I" ∈ wsX9_type := by decide +kernel
noncomputable def f_X9_type (v0 : Nat) (v1 : Int32) (f : mmF) : Option (Int32 × mmF) :=
  (ldR f v0 9 5).bind fun x1 =>
  (ldI f x1 8 0).bind fun x4 =>
  if x4 < (30 : Int32) then
  ((ldR f v0 9 5).bind fun x16 =>
  (ckO f x16 8).bind fun _ =>
  (f_X8_append x16 v1 f).bind fun q20 =>
  (ldR q20 v0 9 5).bind fun x24 =>
  (ldI q20 x24 8 0).bind fun x27 =>
  some (x27, q20))
  else
  some ((-3 : Int32), f)
section S_X9_type
variable {p : Program} {l : Launch} {e : Env} {s : State} {m : MethodId} {args : Array Value} {below : List Frame} {meth : Method} {c : Code} {D : mmD} {b0 sz : Nat} {f : mmF}
set_option maxHeartbeats 4000000 in
set_option maxRecDepth 100000 in
theorem w_X9_type (C0 : CX cX9_type 2 (some .int) wsX9_type RX9 p s m args meth c D b0) {v0 : Nat} {v1 : Int32} {res : Int32 × mmF} (h : f_X9_type v0 v1 f = some res) : ∀ (H : Heap) (locs : List Loc) (ls : Array Slot), MM vwCl D b0 f sz s H → mS b0 s H locs → lv_has ls 2 [(0, .ref v0), (1, .int v1)] → W p l e ({ frames := 2, cells := 0, slots := 0, locals := 41 } : Room) s m args below meth c H locs 0 0 (MQ below (QW D b0 (some (.int res.1)) res.2 sz) args s 0 0 (fun q => b0 ≤ q)) (F0 m 0 ls []) := by
  obtain ⟨hx, hb, hr, hml, hown, hts, hlocks, hK⟩ := id C0
  intro H locs ls hM hS hl
  unfold f_X9_type at h
  refine lv_aload_n hx hb dX9_type_0 rfl (lv_at hl 0 rfl) ?_
  replace h := o_b h; obtain ⟨x1, h1, h⟩ := h
  refine m_get (C := RX9) (T := TX9) (N := 9) (ci := 9) hx hb hts qi_X9_type_X9 hown hK.1 hM 5 (ldR_F h1) rfl (by decide) (hts _ q_X9_type_1) (fun _ h9 => h9) dX9_type_1 ?_
  replace h := o_b h; obtain ⟨x4, h4, h⟩ := h
  refine m_get (C := RX8) (T := TX8) (N := 7) (ci := 8) hx hb hts qi_X9_type_X8 hown hK.1 hM 0 (ldI_F h4) rfl (by decide) (hts _ q_X9_type_3) (fun _ h9 => h9) dX9_type_4 ?_
  refine lv_bipush (v := (30 : Int32)) hx hb dX9_type_7 (by decide) ?_
  refine lv_icmp_lt (tgt := 15) hx hb dX9_type_9 (by decide) (fun c9 => ?_) (fun c9 => ?_)
  · replace h := o_t c9 h
    refine lv_aload_n hx hb dX9_type_15 rfl (lv_at hl 0 rfl) ?_
    replace h := o_b h; obtain ⟨x16, h16, h⟩ := h
    refine m_get (C := RX9) (T := TX9) (N := 9) (ci := 9) hx hb hts qi_X9_type_X9 hown hK.1 hM 5 (ldR_F h16) rfl (by decide) (hts _ q_X9_type_1) (fun _ h9 => h9) dX9_type_16 ?_
    refine lv_iload_n hx hb dX9_type_19 rfl (lv_at hl 1 rfl) ?_
    replace h := o_b h; obtain ⟨_, k20, h⟩ := h
    replace h := o_b h; obtain ⟨q20, h20, h⟩ := h
    refine m_call (va_runV (As := [.int v1]) (rest := []) ⟨hx, hb, hml, hown, hts⟩ (c_X8_append l D b0 sz h20) (cwV 1 hts gX9_type_X8_append rfl rfl rfl (by decide +kernel) ⟨Nat.le_of_ble_eq_true rfl, Nat.le_of_ble_eq_true rfl⟩) ⟨PW.blind, m_recv (ci := 8) rfl hK hM k20, (fun U hU hW => ⟨rfl, PW.call hK hM hS hU hW⟩)⟩ rfl rfl hl.1 rfl (lv_room (Nat.le_of_ble_eq_true rfl)) dX9_type_20 ⟨(Nat.le_refl _), (Nat.le_refl _)⟩) hS (fun H locs hM hS => ?_)
    refine lv_aload_n hx hb dX9_type_23 rfl (lv_at hl 0 rfl) ?_
    replace h := o_b h; obtain ⟨x24, h24, h⟩ := h
    refine m_get (C := RX9) (T := TX9) (N := 9) (ci := 9) hx hb hts qi_X9_type_X9 hown hK.1 hM 5 (ldR_F h24) rfl (by decide) (hts _ q_X9_type_1) (fun _ h9 => h9) dX9_type_24 ?_
    replace h := o_b h; obtain ⟨x27, h27, h⟩ := h
    refine m_get (C := RX8) (T := TX8) (N := 7) (ci := 8) hx hb hts qi_X9_type_X8 hown hK.1 hM 0 (ldI_F h27) rfl (by decide) (hts _ q_X9_type_3) (fun _ h9 => h9) dX9_type_27 ?_
    replace h := Option.some.inj h; subst h
    exact W.iret hx hb hr (fun t ht hW => ⟨rfl, by rw [ht]; exact hM.moved hW.alike, hS.F ht⟩) hS.2.2 dX9_type_30
  replace h := o_f c9 h
  refine lv_bipush (v := (-3 : Int32)) hx hb dX9_type_12 (by decide) ?_
  replace h := Option.some.inj h; subst h
  exact W.iret hx hb hr (fun t ht hW => ⟨rfl, by rw [ht]; exact hM.moved hW.alike, hS.F ht⟩) hS.2.2 dX9_type_14
set_option maxHeartbeats 4000000 in
set_option maxRecDepth 100000 in
theorem c_X9_type (l : Launch) (D : mmD) (b0 sz : Nat) {v0 : Nat} {v1 : Int32} {f : mmF} {res : Int32 × mmF} (h : f_X9_type v0 v1 f = some res) : Met l yX9_type wsX9_type ({ frames := 2, cells := 0, slots := 0, locals := 41 } : Room) (va_Pc [.ref v0, .int v1] (PW D b0 f sz)) (QW D b0 (some (.int res.1)) res.2 sz) 0 0 (fun q => b0 ≤ q) := by
  refine Met.ofW (cc := cX9_type) (maxL := 2) (ret := (some .int)) (by decide) rfl ?_
  intro p e s m args below meth c s₁ B hml hv
  obtain ⟨rfl, hM, hK⟩ := hv
  have hl := lv_entry ([.ref v0, .int v1]) (n := 2) (Nat.le_of_ble_eq_true rfl)
  rw [lg_entry_eq]
  generalize (lg_sl ([.ref v0, .int v1]) ++ List.replicate (2 - (lg_sl ([.ref v0, .int v1])).length) Slot.unset).toArray = ls at hl ⊢
  have hl : lv_has ls 2 [(0, .ref v0), (1, .int v1)] := hl
  exact w_X9_type ⟨B.exec, B.bytes, B.returns, hml, findClass_of_methodNamed B.named, atoms_spec (ws := wsX9_type) B.pre, B.notSynchronized, hK⟩ h s.heap [] ls hM va_S.rf hl
end S_X9_type
/-! X9_clearText -/
set_option maxRecDepth 20000 in
theorem qi_X9_clearText_X9 : ∀ w ∈ u_ws RX9 TX9 9, w ∈ wsX9_clearText := by decide +kernel
set_option maxRecDepth 20000 in
theorem q_X9_clearText_1 : Cond.fieldLink RX9 34 "StageTruths" "text" "LStageTruths$Text;" ∈ wsX9_clearText := by decide +kernel
set_option maxRecDepth 20000 in
theorem qi_X9_clearText_X8 : ∀ w ∈ u_ws RX8 TX8 7, w ∈ wsX9_clearText := by decide +kernel
set_option maxRecDepth 20000 in
theorem q_X9_clearText_3 : Cond.fieldLink RX9 164 "StageTruths$Text" "length" "I" ∈ wsX9_clearText := by decide +kernel
noncomputable def f_X9_clearText (v0 : Nat) (f : mmF) : Option (Int32 × mmF) :=
  (ldR f v0 9 5).bind fun x1 =>
  (ldI f x1 8 0).bind fun x4 =>
  (ldR f v0 9 5).bind fun x9 =>
  (stF f x9 8 0 (.int (0 : Int32))).bind fun f13 =>
  some (x4, f13)
section S_X9_clearText
variable {p : Program} {l : Launch} {e : Env} {s : State} {m : MethodId} {args : Array Value} {below : List Frame} {meth : Method} {c : Code} {D : mmD} {b0 sz : Nat} {f : mmF}
set_option maxHeartbeats 4000000 in
set_option maxRecDepth 100000 in
theorem w_X9_clearText (C0 : CX cX9_clearText 2 (some .int) wsX9_clearText RX9 p s m args meth c D b0) {v0 : Nat} {res : Int32 × mmF} (h : f_X9_clearText v0 f = some res) : ∀ (H : Heap) (locs : List Loc) (ls : Array Slot), MM vwCl D b0 f sz s H → mS b0 s H locs → lv_has ls 2 [(0, .ref v0)] → W p l e ({ frames := 0, cells := 0, slots := 0, locals := 0 } : Room) s m args below meth c H locs 0 0 (MQ below (QW D b0 (some (.int res.1)) res.2 sz) args s 0 0 (fun q => b0 ≤ q)) (F0 m 0 ls []) := by
  obtain ⟨hx, hb, hr, hml, hown, hts, hlocks, hK⟩ := id C0
  intro H locs ls hM hS hl
  unfold f_X9_clearText at h
  refine lv_aload_n hx hb dX9_clearText_0 rfl (lv_at hl 0 rfl) ?_
  replace h := o_b h; obtain ⟨x1, h1, h⟩ := h
  refine m_get (C := RX9) (T := TX9) (N := 9) (ci := 9) hx hb hts qi_X9_clearText_X9 hown hK.1 hM 5 (ldR_F h1) rfl (by decide) (hts _ q_X9_clearText_1) (fun _ h9 => h9) dX9_clearText_1 ?_
  replace h := o_b h; obtain ⟨x4, h4, h⟩ := h
  refine m_get (C := RX8) (T := TX8) (N := 7) (ci := 8) hx hb hts qi_X9_clearText_X8 hown hK.1 hM 0 (ldI_F h4) rfl (by decide) (hts _ q_X9_clearText_3) (fun _ h9 => h9) dX9_clearText_4 ?_
  refine lv_istore_n (lv' := [(1, .int x4), (0, .ref v0)]) hx hb dX9_clearText_7 rfl hl (by decide) rfl (fun ls hl => ?_)
  refine lv_aload_n hx hb dX9_clearText_8 rfl (lv_at hl 1 rfl) ?_
  replace h := o_b h; obtain ⟨x9, h9, h⟩ := h
  refine m_get (C := RX9) (T := TX9) (N := 9) (ci := 9) hx hb hts qi_X9_clearText_X9 hown hK.1 hM 5 (ldR_F h9) rfl (by decide) (hts _ q_X9_clearText_1) (fun _ h9 => h9) dX9_clearText_9 ?_
  refine lv_iconst (v := (0 : Int32)) hx hb dX9_clearText_12 (by decide) ?_
  replace h := o_b h; obtain ⟨f13, h13, h⟩ := h
  refine m_put (ty := .int) (C := RX8) (T := TX8) (N := 7) (ci := 8) hx hb hts qi_X9_clearText_X8 tyX8 tyX8_ok nmX8 hown hK.1 hM hS 0 h13 rfl (by decide) (hts _ q_X9_clearText_3) (fun _ h9 => h9) rfl (by decide +kernel) rfl rfl dX9_clearText_13 (fun H locs hM hS => ?_)
  refine lv_iload_n hx hb dX9_clearText_16 rfl (lv_at hl 0 rfl) ?_
  replace h := Option.some.inj h; subst h
  exact W.iret hx hb hr (fun t ht hW => ⟨rfl, by rw [ht]; exact hM.moved hW.alike, hS.F ht⟩) hS.2.2 dX9_clearText_17
set_option maxHeartbeats 4000000 in
set_option maxRecDepth 100000 in
theorem c_X9_clearText (l : Launch) (D : mmD) (b0 sz : Nat) {v0 : Nat} {f : mmF} {res : Int32 × mmF} (h : f_X9_clearText v0 f = some res) : Met l yX9_clearText wsX9_clearText ({ frames := 0, cells := 0, slots := 0, locals := 0 } : Room) (va_Pc [.ref v0] (PW D b0 f sz)) (QW D b0 (some (.int res.1)) res.2 sz) 0 0 (fun q => b0 ≤ q) := by
  refine Met.ofW (cc := cX9_clearText) (maxL := 2) (ret := (some .int)) (by decide) rfl ?_
  intro p e s m args below meth c s₁ B hml hv
  obtain ⟨rfl, hM, hK⟩ := hv
  have hl := lv_entry ([.ref v0]) (n := 2) (Nat.le_of_ble_eq_true rfl)
  rw [lg_entry_eq]
  generalize (lg_sl ([.ref v0]) ++ List.replicate (2 - (lg_sl ([.ref v0])).length) Slot.unset).toArray = ls at hl ⊢
  have hl : lv_has ls 2 [(0, .ref v0)] := hl
  exact w_X9_clearText ⟨B.exec, B.bytes, B.returns, hml, findClass_of_methodNamed B.named, atoms_spec (ws := wsX9_clearText) B.pre, B.notSynchronized, hK⟩ h s.heap [] ls hM va_S.rf hl
end S_X9_clearText
/-! X9_undo -/
set_option maxRecDepth 20000 in
theorem qi_X9_undo_X9 : ∀ w ∈ u_ws RX9 TX9 9, w ∈ wsX9_undo := by decide +kernel
set_option maxRecDepth 20000 in
theorem q_X9_undo_1 : Cond.fieldLink RX9 20 "StageTruths" "recorded" "I" ∈ wsX9_undo := by decide +kernel
set_option maxRecDepth 20000 in
theorem q_X9_undo_2 : Cond.fieldLink RX9 10 "StageTruths" "state" "LStageTruths$State;" ∈ wsX9_undo := by decide +kernel
set_option maxRecDepth 20000 in
theorem q_X9_undo_3 : Cond.fieldLink RX9 16 "StageTruths" "history" "[LStageTruths$State;" ∈ wsX9_undo := by decide +kernel
noncomputable def f_X9_undo (v0 : Nat) (f : mmF) : Option (Int32 × mmF) :=
  (ldI f v0 9 2).bind fun x1 =>
  if x1 ≤ 0 then
  (some ((-5 : Int32), f))
  else
  (ldI f v0 9 2).bind fun x8 =>
  if x8 ≤ (4 : Int32) then
  ((ldI f v0 9 2).bind fun x20 =>
  (stF f v0 9 2 (.int (x20 - (1 : Int32)))).bind fun f25 =>
  (ldR f25 v0 9 0).bind fun x29 =>
  (ldR f25 v0 9 1).bind fun x33 =>
  (ldI f25 v0 9 2).bind fun x37 =>
  (ldN 2 f25 x33 x37).bind fun x40 =>
  (ckO f25 x29 7).bind fun _ =>
  (f_X7_takeFrom x29 x40 f25).bind fun q41 =>
  (ldI q41 v0 9 2).bind fun x45 =>
  some (x45, q41))
  else
  some ((-5 : Int32), f)
section S_X9_undo
variable {p : Program} {l : Launch} {e : Env} {s : State} {m : MethodId} {args : Array Value} {below : List Frame} {meth : Method} {c : Code} {D : mmD} {b0 sz : Nat} {f : mmF}
set_option maxHeartbeats 4000000 in
set_option maxRecDepth 100000 in
theorem w_X9_undo (C0 : CX cX9_undo 1 (some .int) wsX9_undo RX9 p s m args meth c D b0) {v0 : Nat} {res : Int32 × mmF} (h : f_X9_undo v0 f = some res) : ∀ (H : Heap) (locs : List Loc) (ls : Array Slot), MM vwCl D b0 f sz s H → mS b0 s H locs → lv_has ls 1 [(0, .ref v0)] → W p l e ({ frames := 1, cells := 0, slots := 0, locals := 22 } : Room) s m args below meth c H locs 0 0 (MQ below (QW D b0 (some (.int res.1)) res.2 sz) args s 0 0 (fun q => b0 ≤ q)) (F0 m 0 ls []) := by
  obtain ⟨hx, hb, hr, hml, hown, hts, hlocks, hK⟩ := id C0
  intro H locs ls hM hS hl
  unfold f_X9_undo at h
  refine lv_aload_n hx hb dX9_undo_0 rfl (lv_at hl 0 rfl) ?_
  replace h := o_b h; obtain ⟨x1, h1, h⟩ := h
  refine m_get (C := RX9) (T := TX9) (N := 9) (ci := 9) hx hb hts qi_X9_undo_X9 hown hK.1 hM 2 (ldI_F h1) rfl (by decide) (hts _ q_X9_undo_1) (fun _ h9 => h9) dX9_undo_1 ?_
  refine lv_if_le (tgt := 15) hx hb dX9_undo_4 (by decide) (fun c4 => ?_) (fun c4 => ?_)
  · replace h := o_t c4 h
    refine lv_bipush (v := (-5 : Int32)) hx hb dX9_undo_15 (by decide) ?_
    replace h := Option.some.inj h; subst h
    exact W.iret hx hb hr (fun t ht hW => ⟨rfl, by rw [ht]; exact hM.moved hW.alike, hS.F ht⟩) hS.2.2 dX9_undo_17
  replace h := o_f c4 h
  refine lv_aload_n hx hb dX9_undo_7 rfl (lv_at hl 0 rfl) ?_
  replace h := o_b h; obtain ⟨x8, h8, h⟩ := h
  refine m_get (C := RX9) (T := TX9) (N := 9) (ci := 9) hx hb hts qi_X9_undo_X9 hown hK.1 hM 2 (ldI_F h8) rfl (by decide) (hts _ q_X9_undo_1) (fun _ h9 => h9) dX9_undo_8 ?_
  refine lv_iconst (v := (4 : Int32)) hx hb dX9_undo_11 (by decide) ?_
  refine lv_icmp_le (tgt := 18) hx hb dX9_undo_12 (by decide) (fun c12 => ?_) (fun c12 => ?_)
  · replace h := o_t c12 h
    refine lv_aload_n hx hb dX9_undo_18 rfl (lv_at hl 0 rfl) ?_
    refine lv_dup hx hb dX9_undo_19 rfl ?_
    replace h := o_b h; obtain ⟨x20, h20, h⟩ := h
    refine m_get (C := RX9) (T := TX9) (N := 9) (ci := 9) hx hb hts qi_X9_undo_X9 hown hK.1 hM 2 (ldI_F h20) rfl (by decide) (hts _ q_X9_undo_1) (fun _ h9 => h9) dX9_undo_20 ?_
    refine lv_iconst (v := (1 : Int32)) hx hb dX9_undo_23 (by decide) ?_
    refine lv_isub hx hb dX9_undo_24 ?_
    replace h := o_b h; obtain ⟨f25, h25, h⟩ := h
    refine m_put (ty := .int) (C := RX9) (T := TX9) (N := 9) (ci := 9) hx hb hts qi_X9_undo_X9 tyX9 tyX9_ok nmX9 hown hK.1 hM hS 2 h25 rfl (by decide) (hts _ q_X9_undo_1) (fun _ h9 => h9) rfl (by decide +kernel) rfl rfl dX9_undo_25 (fun H locs hM hS => ?_)
    refine lv_aload_n hx hb dX9_undo_28 rfl (lv_at hl 0 rfl) ?_
    replace h := o_b h; obtain ⟨x29, h29, h⟩ := h
    refine m_get (C := RX9) (T := TX9) (N := 9) (ci := 9) hx hb hts qi_X9_undo_X9 hown hK.1 hM 0 (ldR_F h29) rfl (by decide) (hts _ q_X9_undo_2) (fun _ h9 => h9) dX9_undo_29 ?_
    refine lv_aload_n hx hb dX9_undo_32 rfl (lv_at hl 0 rfl) ?_
    replace h := o_b h; obtain ⟨x33, h33, h⟩ := h
    refine m_get (C := RX9) (T := TX9) (N := 9) (ci := 9) hx hb hts qi_X9_undo_X9 hown hK.1 hM 1 (ldR_F h33) rfl (by decide) (hts _ q_X9_undo_3) (fun _ h9 => h9) dX9_undo_33 ?_
    refine lv_aload_n hx hb dX9_undo_36 rfl (lv_at hl 0 rfl) ?_
    replace h := o_b h; obtain ⟨x37, h37, h⟩ := h
    refine m_get (C := RX9) (T := TX9) (N := 9) (ci := 9) hx hb hts qi_X9_undo_X9 hown hK.1 hM 2 (ldI_F h37) rfl (by decide) (hts _ q_X9_undo_1) (fun _ h9 => h9) dX9_undo_37 ?_
    replace h := o_b h; obtain ⟨x40, h40, h⟩ := h
    refine m_aldn 2 (by decide) rfl hx hb hK.1 hM h40 dX9_undo_40 ?_
    replace h := o_b h; obtain ⟨_, k41, h⟩ := h
    replace h := o_b h; obtain ⟨q41, h41, h⟩ := h
    refine m_call (va_runV (As := [.ref x40]) (rest := []) ⟨hx, hb, hml, hown, hts⟩ (c_X7_takeFrom l D b0 sz h41) (cwV 1 hts gX9_undo_X7_takeFrom rfl rfl rfl (by decide +kernel) ⟨Nat.le_of_ble_eq_true rfl, Nat.le_of_ble_eq_true rfl⟩) ⟨PW.blind, m_recv (ci := 7) rfl hK hM k41, (fun U hU hW => ⟨rfl, PW.call hK hM hS hU hW⟩)⟩ rfl rfl hl.1 rfl (lv_room (Nat.le_of_ble_eq_true rfl)) dX9_undo_41 ⟨(Nat.le_refl _), (Nat.le_refl _)⟩) hS (fun H locs hM hS => ?_)
    refine lv_aload_n hx hb dX9_undo_44 rfl (lv_at hl 0 rfl) ?_
    replace h := o_b h; obtain ⟨x45, h45, h⟩ := h
    refine m_get (C := RX9) (T := TX9) (N := 9) (ci := 9) hx hb hts qi_X9_undo_X9 hown hK.1 hM 2 (ldI_F h45) rfl (by decide) (hts _ q_X9_undo_1) (fun _ h9 => h9) dX9_undo_45 ?_
    replace h := Option.some.inj h; subst h
    exact W.iret hx hb hr (fun t ht hW => ⟨rfl, by rw [ht]; exact hM.moved hW.alike, hS.F ht⟩) hS.2.2 dX9_undo_48
  replace h := o_f c12 h
  refine lv_bipush (v := (-5 : Int32)) hx hb dX9_undo_15 (by decide) ?_
  replace h := Option.some.inj h; subst h
  exact W.iret hx hb hr (fun t ht hW => ⟨rfl, by rw [ht]; exact hM.moved hW.alike, hS.F ht⟩) hS.2.2 dX9_undo_17
set_option maxHeartbeats 4000000 in
set_option maxRecDepth 100000 in
theorem c_X9_undo (l : Launch) (D : mmD) (b0 sz : Nat) {v0 : Nat} {f : mmF} {res : Int32 × mmF} (h : f_X9_undo v0 f = some res) : Met l yX9_undo wsX9_undo ({ frames := 1, cells := 0, slots := 0, locals := 22 } : Room) (va_Pc [.ref v0] (PW D b0 f sz)) (QW D b0 (some (.int res.1)) res.2 sz) 0 0 (fun q => b0 ≤ q) := by
  refine Met.ofW (cc := cX9_undo) (maxL := 1) (ret := (some .int)) (by decide) rfl ?_
  intro p e s m args below meth c s₁ B hml hv
  obtain ⟨rfl, hM, hK⟩ := hv
  have hl := lv_entry ([.ref v0]) (n := 1) (Nat.le_of_ble_eq_true rfl)
  rw [lg_entry_eq]
  generalize (lg_sl ([.ref v0]) ++ List.replicate (1 - (lg_sl ([.ref v0])).length) Slot.unset).toArray = ls at hl ⊢
  have hl : lv_has ls 1 [(0, .ref v0)] := hl
  exact w_X9_undo ⟨B.exec, B.bytes, B.returns, hml, findClass_of_methodNamed B.named, atoms_spec (ws := wsX9_undo) B.pre, B.notSynchronized, hK⟩ h s.heap [] ls hM va_S.rf hl
end S_X9_undo
/-! X9_keep -/
set_option maxRecDepth 20000 in
theorem qi_X9_keep_X9 : ∀ w ∈ u_ws RX9 TX9 9, w ∈ wsX9_keep := by decide +kernel
set_option maxRecDepth 20000 in
theorem q_X9_keep_1 : Cond.fieldLink RX9 24 "StageTruths" "snapshot" "LStageTruths$State;" ∈ wsX9_keep := by decide +kernel
set_option maxRecDepth 20000 in
theorem q_X9_keep_2 : Cond.fieldLink RX9 10 "StageTruths" "state" "LStageTruths$State;" ∈ wsX9_keep := by decide +kernel
set_option maxRecDepth 20000 in
theorem q_X9_keep_3 : Cond.fieldLink RX9 27 "StageTruths" "hasSnapshot" "Z" ∈ wsX9_keep := by decide +kernel
set_option maxRecDepth 20000 in
theorem qi_X9_keep_X7 : ∀ w ∈ u_ws RX7 TX7 7, w ∈ wsX9_keep := by decide +kernel
set_option maxRecDepth 20000 in
theorem q_X9_keep_5 : Cond.fieldLink RX9 61 "StageTruths$State" "stages" "I" ∈ wsX9_keep := by decide +kernel
noncomputable def f_X9_keep (v0 : Nat) (f : mmF) : Option (Int32 × mmF) :=
  (ldR f v0 9 3).bind fun x1 =>
  (ldR f v0 9 0).bind fun x5 =>
  (ckO f x1 7).bind fun _ =>
  (f_X7_takeFrom x1 x5 f).bind fun q8 =>
  (stF q8 v0 9 4 (.int (1 : Int32))).bind fun f13 =>
  (ldR f13 v0 9 0).bind fun x17 =>
  (ldI f13 x17 7 0).bind fun x20 =>
  some (x20, f13)
section S_X9_keep
variable {p : Program} {l : Launch} {e : Env} {s : State} {m : MethodId} {args : Array Value} {below : List Frame} {meth : Method} {c : Code} {D : mmD} {b0 sz : Nat} {f : mmF}
set_option maxHeartbeats 4000000 in
set_option maxRecDepth 100000 in
theorem w_X9_keep (C0 : CX cX9_keep 1 (some .int) wsX9_keep RX9 p s m args meth c D b0) {v0 : Nat} {res : Int32 × mmF} (h : f_X9_keep v0 f = some res) : ∀ (H : Heap) (locs : List Loc) (ls : Array Slot), MM vwCl D b0 f sz s H → mS b0 s H locs → lv_has ls 1 [(0, .ref v0)] → W p l e ({ frames := 1, cells := 0, slots := 0, locals := 22 } : Room) s m args below meth c H locs 0 0 (MQ below (QW D b0 (some (.int res.1)) res.2 sz) args s 0 0 (fun q => b0 ≤ q)) (F0 m 0 ls []) := by
  obtain ⟨hx, hb, hr, hml, hown, hts, hlocks, hK⟩ := id C0
  intro H locs ls hM hS hl
  unfold f_X9_keep at h
  refine lv_aload_n hx hb dX9_keep_0 rfl (lv_at hl 0 rfl) ?_
  replace h := o_b h; obtain ⟨x1, h1, h⟩ := h
  refine m_get (C := RX9) (T := TX9) (N := 9) (ci := 9) hx hb hts qi_X9_keep_X9 hown hK.1 hM 3 (ldR_F h1) rfl (by decide) (hts _ q_X9_keep_1) (fun _ h9 => h9) dX9_keep_1 ?_
  refine lv_aload_n hx hb dX9_keep_4 rfl (lv_at hl 0 rfl) ?_
  replace h := o_b h; obtain ⟨x5, h5, h⟩ := h
  refine m_get (C := RX9) (T := TX9) (N := 9) (ci := 9) hx hb hts qi_X9_keep_X9 hown hK.1 hM 0 (ldR_F h5) rfl (by decide) (hts _ q_X9_keep_2) (fun _ h9 => h9) dX9_keep_5 ?_
  replace h := o_b h; obtain ⟨_, k8, h⟩ := h
  replace h := o_b h; obtain ⟨q8, h8, h⟩ := h
  refine m_call (va_runV (As := [.ref x5]) (rest := []) ⟨hx, hb, hml, hown, hts⟩ (c_X7_takeFrom l D b0 sz h8) (cwV 1 hts gX9_keep_X7_takeFrom rfl rfl rfl (by decide +kernel) ⟨Nat.le_of_ble_eq_true rfl, Nat.le_of_ble_eq_true rfl⟩) ⟨PW.blind, m_recv (ci := 7) rfl hK hM k8, (fun U hU hW => ⟨rfl, PW.call hK hM hS hU hW⟩)⟩ rfl rfl hl.1 rfl (lv_room (Nat.le_of_ble_eq_true rfl)) dX9_keep_8 ⟨(Nat.le_refl _), (Nat.le_refl _)⟩) hS (fun H locs hM hS => ?_)
  refine lv_aload_n hx hb dX9_keep_11 rfl (lv_at hl 0 rfl) ?_
  refine lv_iconst (v := (1 : Int32)) hx hb dX9_keep_12 (by decide) ?_
  replace h := o_b h; obtain ⟨f13, h13, h⟩ := h
  refine m_put (ty := .boolean) (C := RX9) (T := TX9) (N := 9) (ci := 9) hx hb hts qi_X9_keep_X9 tyX9 tyX9_ok nmX9 hown hK.1 hM hS 4 h13 rfl (by decide) (hts _ q_X9_keep_3) (fun _ h9 => h9) rfl (by decide +kernel) rfl rfl dX9_keep_13 (fun H locs hM hS => ?_)
  refine lv_aload_n hx hb dX9_keep_16 rfl (lv_at hl 0 rfl) ?_
  replace h := o_b h; obtain ⟨x17, h17, h⟩ := h
  refine m_get (C := RX9) (T := TX9) (N := 9) (ci := 9) hx hb hts qi_X9_keep_X9 hown hK.1 hM 0 (ldR_F h17) rfl (by decide) (hts _ q_X9_keep_2) (fun _ h9 => h9) dX9_keep_17 ?_
  replace h := o_b h; obtain ⟨x20, h20, h⟩ := h
  refine m_get (C := RX7) (T := TX7) (N := 7) (ci := 7) hx hb hts qi_X9_keep_X7 hown hK.1 hM 0 (ldI_F h20) rfl (by decide) (hts _ q_X9_keep_5) (fun _ h9 => h9) dX9_keep_20 ?_
  replace h := Option.some.inj h; subst h
  exact W.iret hx hb hr (fun t ht hW => ⟨rfl, by rw [ht]; exact hM.moved hW.alike, hS.F ht⟩) hS.2.2 dX9_keep_23
set_option maxHeartbeats 4000000 in
set_option maxRecDepth 100000 in
theorem c_X9_keep (l : Launch) (D : mmD) (b0 sz : Nat) {v0 : Nat} {f : mmF} {res : Int32 × mmF} (h : f_X9_keep v0 f = some res) : Met l yX9_keep wsX9_keep ({ frames := 1, cells := 0, slots := 0, locals := 22 } : Room) (va_Pc [.ref v0] (PW D b0 f sz)) (QW D b0 (some (.int res.1)) res.2 sz) 0 0 (fun q => b0 ≤ q) := by
  refine Met.ofW (cc := cX9_keep) (maxL := 1) (ret := (some .int)) (by decide) rfl ?_
  intro p e s m args below meth c s₁ B hml hv
  obtain ⟨rfl, hM, hK⟩ := hv
  have hl := lv_entry ([.ref v0]) (n := 1) (Nat.le_of_ble_eq_true rfl)
  rw [lg_entry_eq]
  generalize (lg_sl ([.ref v0]) ++ List.replicate (1 - (lg_sl ([.ref v0])).length) Slot.unset).toArray = ls at hl ⊢
  have hl : lv_has ls 1 [(0, .ref v0)] := hl
  exact w_X9_keep ⟨B.exec, B.bytes, B.returns, hml, findClass_of_methodNamed B.named, atoms_spec (ws := wsX9_keep) B.pre, B.notSynchronized, hK⟩ h s.heap [] ls hM va_S.rf hl
end S_X9_keep
/-! X9_restore -/
set_option maxRecDepth 20000 in
theorem qi_X9_restore_X9 : ∀ w ∈ u_ws RX9 TX9 9, w ∈ wsX9_restore := by decide +kernel
set_option maxRecDepth 20000 in
theorem q_X9_restore_1 : Cond.fieldLink RX9 27 "StageTruths" "hasSnapshot" "Z" ∈ wsX9_restore := by decide +kernel
set_option maxRecDepth 20000 in
theorem q_X9_restore_2 : Cond.fieldLink RX9 10 "StageTruths" "state" "LStageTruths$State;" ∈ wsX9_restore := by decide +kernel
set_option maxRecDepth 20000 in
theorem q_X9_restore_3 : Cond.fieldLink RX9 24 "StageTruths" "snapshot" "LStageTruths$State;" ∈ wsX9_restore := by decide +kernel
set_option maxRecDepth 20000 in
theorem qi_X9_restore_X7 : ∀ w ∈ u_ws RX7 TX7 7, w ∈ wsX9_restore := by decide +kernel
set_option maxRecDepth 20000 in
theorem q_X9_restore_5 : Cond.fieldLink RX9 61 "StageTruths$State" "stages" "I" ∈ wsX9_restore := by decide +kernel
noncomputable def f_X9_restore (v0 : Nat) (f : mmF) : Option (Int32 × mmF) :=
  (ldI f v0 9 4).bind fun x1 =>
  if x1 = 0 then
  (some ((-5 : Int32), f))
  else
  (ckO f v0 9).bind fun _ =>
  (f_X9_record v0 f).bind fun q11 =>
  (ldR q11 v0 9 0).bind fun x15 =>
  (ldR q11 v0 9 3).bind fun x19 =>
  (ckO q11 x15 7).bind fun _ =>
  (f_X7_takeFrom x15 x19 q11).bind fun q22 =>
  (ldR q22 v0 9 0).bind fun x26 =>
  (ldI q22 x26 7 0).bind fun x29 =>
  some (x29, q22)
section S_X9_restore
variable {p : Program} {l : Launch} {e : Env} {s : State} {m : MethodId} {args : Array Value} {below : List Frame} {meth : Method} {c : Code} {D : mmD} {b0 sz : Nat} {f : mmF}
set_option maxHeartbeats 4000000 in
set_option maxRecDepth 100000 in
theorem w_X9_restore (C0 : CX cX9_restore 1 (some .int) wsX9_restore RX9 p s m args meth c D b0) {v0 : Nat} {res : Int32 × mmF} (h : f_X9_restore v0 f = some res) : ∀ (H : Heap) (locs : List Loc) (ls : Array Slot), MM vwCl D b0 f sz s H → mS b0 s H locs → lv_has ls 1 [(0, .ref v0)] → W p l e ({ frames := 2, cells := 0, slots := 0, locals := 44 } : Room) s m args below meth c H locs 0 0 (MQ below (QW D b0 (some (.int res.1)) res.2 sz) args s 0 0 (fun q => b0 ≤ q)) (F0 m 0 ls []) := by
  obtain ⟨hx, hb, hr, hml, hown, hts, hlocks, hK⟩ := id C0
  intro H locs ls hM hS hl
  unfold f_X9_restore at h
  refine lv_aload_n hx hb dX9_restore_0 rfl (lv_at hl 0 rfl) ?_
  replace h := o_b h; obtain ⟨x1, h1, h⟩ := h
  refine m_get (C := RX9) (T := TX9) (N := 9) (ci := 9) hx hb hts qi_X9_restore_X9 hown hK.1 hM 4 (ldI_F h1) rfl (by decide) (hts _ q_X9_restore_1) (fun _ h9 => h9) dX9_restore_1 ?_
  refine lv_if_ne (tgt := 10) hx hb dX9_restore_4 (by decide) (fun c4 => ?_) (fun c4 => ?_)
  · replace h := o_f c4 h
    refine lv_aload_n hx hb dX9_restore_10 rfl (lv_at hl 0 rfl) ?_
    replace h := o_b h; obtain ⟨_, k11, h⟩ := h
    replace h := o_b h; obtain ⟨q11, h11, h⟩ := h
    refine m_call (va_runV (As := []) (rest := []) ⟨hx, hb, hml, hown, hts⟩ (c_X9_record l D b0 sz h11) (cwV 0 hts gX9_restore_X9_record rfl rfl rfl (by decide +kernel) ⟨Nat.le_of_ble_eq_true rfl, Nat.le_of_ble_eq_true rfl⟩) ⟨PW.blind, m_recv (ci := 9) rfl hK hM k11, (fun U hU hW => ⟨rfl, PW.call hK hM hS hU hW⟩)⟩ rfl rfl hl.1 rfl (lv_room (Nat.le_of_ble_eq_true rfl)) dX9_restore_11 ⟨(Nat.le_refl _), (Nat.le_refl _)⟩) hS (fun H locs hM hS => ?_)
    refine lv_aload_n hx hb dX9_restore_14 rfl (lv_at hl 0 rfl) ?_
    replace h := o_b h; obtain ⟨x15, h15, h⟩ := h
    refine m_get (C := RX9) (T := TX9) (N := 9) (ci := 9) hx hb hts qi_X9_restore_X9 hown hK.1 hM 0 (ldR_F h15) rfl (by decide) (hts _ q_X9_restore_2) (fun _ h9 => h9) dX9_restore_15 ?_
    refine lv_aload_n hx hb dX9_restore_18 rfl (lv_at hl 0 rfl) ?_
    replace h := o_b h; obtain ⟨x19, h19, h⟩ := h
    refine m_get (C := RX9) (T := TX9) (N := 9) (ci := 9) hx hb hts qi_X9_restore_X9 hown hK.1 hM 3 (ldR_F h19) rfl (by decide) (hts _ q_X9_restore_3) (fun _ h9 => h9) dX9_restore_19 ?_
    replace h := o_b h; obtain ⟨_, k22, h⟩ := h
    replace h := o_b h; obtain ⟨q22, h22, h⟩ := h
    refine m_call (va_runV (As := [.ref x19]) (rest := []) ⟨hx, hb, hml, hown, hts⟩ (c_X7_takeFrom l D b0 sz h22) (cwV 1 hts gX9_restore_X7_takeFrom rfl rfl rfl (by decide +kernel) ⟨Nat.le_of_ble_eq_true rfl, Nat.le_of_ble_eq_true rfl⟩) ⟨PW.blind, m_recv (ci := 7) rfl hK hM k22, (fun U hU hW => ⟨rfl, PW.call hK hM hS hU hW⟩)⟩ rfl rfl hl.1 rfl (lv_room (Nat.le_of_ble_eq_true rfl)) dX9_restore_22 ⟨(Nat.le_refl _), (Nat.le_refl _)⟩) hS (fun H locs hM hS => ?_)
    refine lv_aload_n hx hb dX9_restore_25 rfl (lv_at hl 0 rfl) ?_
    replace h := o_b h; obtain ⟨x26, h26, h⟩ := h
    refine m_get (C := RX9) (T := TX9) (N := 9) (ci := 9) hx hb hts qi_X9_restore_X9 hown hK.1 hM 0 (ldR_F h26) rfl (by decide) (hts _ q_X9_restore_2) (fun _ h9 => h9) dX9_restore_26 ?_
    replace h := o_b h; obtain ⟨x29, h29, h⟩ := h
    refine m_get (C := RX7) (T := TX7) (N := 7) (ci := 7) hx hb hts qi_X9_restore_X7 hown hK.1 hM 0 (ldI_F h29) rfl (by decide) (hts _ q_X9_restore_5) (fun _ h9 => h9) dX9_restore_29 ?_
    replace h := Option.some.inj h; subst h
    exact W.iret hx hb hr (fun t ht hW => ⟨rfl, by rw [ht]; exact hM.moved hW.alike, hS.F ht⟩) hS.2.2 dX9_restore_32
  replace h := o_t c4 h
  refine lv_bipush (v := (-5 : Int32)) hx hb dX9_restore_7 (by decide) ?_
  replace h := Option.some.inj h; subst h
  exact W.iret hx hb hr (fun t ht hW => ⟨rfl, by rw [ht]; exact hM.moved hW.alike, hS.F ht⟩) hS.2.2 dX9_restore_9
set_option maxHeartbeats 4000000 in
set_option maxRecDepth 100000 in
theorem c_X9_restore (l : Launch) (D : mmD) (b0 sz : Nat) {v0 : Nat} {f : mmF} {res : Int32 × mmF} (h : f_X9_restore v0 f = some res) : Met l yX9_restore wsX9_restore ({ frames := 2, cells := 0, slots := 0, locals := 44 } : Room) (va_Pc [.ref v0] (PW D b0 f sz)) (QW D b0 (some (.int res.1)) res.2 sz) 0 0 (fun q => b0 ≤ q) := by
  refine Met.ofW (cc := cX9_restore) (maxL := 1) (ret := (some .int)) (by decide) rfl ?_
  intro p e s m args below meth c s₁ B hml hv
  obtain ⟨rfl, hM, hK⟩ := hv
  have hl := lv_entry ([.ref v0]) (n := 1) (Nat.le_of_ble_eq_true rfl)
  rw [lg_entry_eq]
  generalize (lg_sl ([.ref v0]) ++ List.replicate (1 - (lg_sl ([.ref v0])).length) Slot.unset).toArray = ls at hl ⊢
  have hl : lv_has ls 1 [(0, .ref v0)] := hl
  exact w_X9_restore ⟨B.exec, B.bytes, B.returns, hml, findClass_of_methodNamed B.named, atoms_spec (ws := wsX9_restore) B.pre, B.notSynchronized, hK⟩ h s.heap [] ls hM va_S.rf hl
end S_X9_restore
/-! X9_stage -/
set_option maxRecDepth 20000 in
theorem qi_X9_stage_X9 : ∀ w ∈ u_ws RX9 TX9 9, w ∈ wsX9_stage := by decide +kernel
set_option maxRecDepth 20000 in
theorem q_X9_stage_1 : Cond.fieldLink RX9 10 "StageTruths" "state" "LStageTruths$State;" ∈ wsX9_stage := by decide +kernel
set_option maxRecDepth 20000 in
theorem qi_X9_stage_X7 : ∀ w ∈ u_ws RX7 TX7 7, w ∈ wsX9_stage := by decide +kernel
set_option maxRecDepth 20000 in
theorem q_X9_stage_3 : Cond.fieldLink RX9 71 "StageTruths$State" "later" "[I" ∈ wsX9_stage := by decide +kernel
set_option maxRecDepth 20000 in
theorem q_X9_stage_4 : Cond.fieldLink RX9 90 "StageTruths$State" "facts" "[I" ∈ wsX9_stage := by decide +kernel
set_option maxRecDepth 20000 in
theorem q_X9_stage_5 : Cond.fieldLink RX9 175 "StageTruths$State" "like" "[I" ∈ wsX9_stage := by decide +kernel
noncomputable def f_X9_stage (v0 : Nat) (v1 : Int32) (v2 : Int32) (f : mmF) : Option (Int32 × mmF) :=
  (ldR f v0 9 0).bind fun x1 =>
  (ckO f x1 7).bind fun _ =>
  (f_X7_isStage x1 v1 f).bind fun q5 =>
  if q5 = 0 then
  (some ((-1 : Int32), f))
  else
  if v2 = (0 : Int32) then
  ((ldR f v0 9 0).bind fun x45 =>
  (ldR f x45 7 1).bind fun x48 =>
  (ldA 0 f x48 v1).bind fun x52 =>
  some (x52, f))
  else
  if v2 = (1 : Int32) then
  ((ldR f v0 9 0).bind fun x55 =>
  (ckO f x55 7).bind fun _ =>
  (f_X7_earlier x55 v1 f).bind fun q59 =>
  some (q59, f))
  else
  if v2 = (2 : Int32) then
  ((ldR f v0 9 0).bind fun x64 =>
  (ldR f x64 7 2).bind fun x67 =>
  (ldA 0 f x67 v1).bind fun x71 =>
  some (x71, f))
  else
  if v2 = (3 : Int32) then
  ((ldR f v0 9 0).bind fun x74 =>
  (ckO f x74 7).bind fun _ =>
  (f_X7_findLikes x74 f).bind fun q77 =>
  (ldR q77 v0 9 0).bind fun x81 =>
  (ldR q77 x81 7 4).bind fun x84 =>
  (ldA 0 q77 x84 v1).bind fun x88 =>
  some (x88, q77))
  else
  some ((-2 : Int32), f)
section S_X9_stage
variable {p : Program} {l : Launch} {e : Env} {s : State} {m : MethodId} {args : Array Value} {below : List Frame} {meth : Method} {c : Code} {D : mmD} {b0 sz : Nat} {f : mmF}
set_option maxHeartbeats 4000000 in
set_option maxRecDepth 100000 in
theorem w_X9_stage (C0 : CX cX9_stage 3 (some .int) wsX9_stage RX9 p s m args meth c D b0) {v0 : Nat} {v1 : Int32} {v2 : Int32} {res : Int32 × mmF} (h : f_X9_stage v0 v1 v2 f = some res) : ∀ (H : Heap) (locs : List Loc) (ls : Array Slot), MM vwCl D b0 f sz s H → mS b0 s H locs → lv_has ls 3 [(0, .ref v0), (1, .int v1), (2, .int v2)] → W p l e ({ frames := 3, cells := 0, slots := 0, locals := 66 } : Room) s m args below meth c H locs 0 0 (MQ below (QW D b0 (some (.int res.1)) res.2 sz) args s 0 0 (fun q => b0 ≤ q)) (F0 m 0 ls []) := by
  obtain ⟨hx, hb, hr, hml, hown, hts, hlocks, hK⟩ := id C0
  intro H locs ls hM hS hl
  unfold f_X9_stage at h
  refine lv_aload_n hx hb dX9_stage_0 rfl (lv_at hl 0 rfl) ?_
  replace h := o_b h; obtain ⟨x1, h1, h⟩ := h
  refine m_get (C := RX9) (T := TX9) (N := 9) (ci := 9) hx hb hts qi_X9_stage_X9 hown hK.1 hM 0 (ldR_F h1) rfl (by decide) (hts _ q_X9_stage_1) (fun _ h9 => h9) dX9_stage_1 ?_
  refine lv_iload_n hx hb dX9_stage_4 rfl (lv_at hl 1 rfl) ?_
  replace h := o_b h; obtain ⟨_, k5, h⟩ := h
  replace h := o_b h; obtain ⟨q5, h5, h⟩ := h
  refine m_call (va_runV (As := [.int v1]) (rest := []) ⟨hx, hb, hml, hown, hts⟩ (c_X7_isStage l D b0 sz h5) (cwV 1 hts gX9_stage_X7_isStage rfl rfl rfl (by decide +kernel) ⟨Nat.le_of_ble_eq_true rfl, Nat.le_of_ble_eq_true rfl⟩) ⟨PW.blind, m_recv (ci := 7) rfl hK hM k5, (fun U hU hW => ⟨rfl, PW.call hK hM hS hU hW⟩)⟩ rfl rfl hl.1 rfl (lv_room (Nat.le_of_ble_eq_true rfl)) dX9_stage_5 ⟨(Nat.le_refl _), (Nat.le_refl _)⟩) hS (fun H locs hM hS => ?_)
  refine lv_if_ne (tgt := 13) hx hb dX9_stage_8 (by decide) (fun c8 => ?_) (fun c8 => ?_)
  · replace h := o_f c8 h
    refine lv_iload_n hx hb dX9_stage_13 rfl (lv_at hl 2 rfl) ?_
    by_cases c14_0 : v2 = (0 : Int32)
    · replace h := o_t c14_0 h
      refine lv_tableIn (tgt := 44) hx hb dX9_stage_14 (by rw [c14_0]; decide) (by rw [c14_0]; decide) (by rw [c14_0]; rfl) (by decide) ?_
      refine lv_aload_n hx hb dX9_stage_44 rfl (lv_at hl 0 rfl) ?_
      replace h := o_b h; obtain ⟨x45, h45, h⟩ := h
      refine m_get (C := RX9) (T := TX9) (N := 9) (ci := 9) hx hb hts qi_X9_stage_X9 hown hK.1 hM 0 (ldR_F h45) rfl (by decide) (hts _ q_X9_stage_1) (fun _ h9 => h9) dX9_stage_45 ?_
      replace h := o_b h; obtain ⟨x48, h48, h⟩ := h
      refine m_get (C := RX7) (T := TX7) (N := 7) (ci := 7) hx hb hts qi_X9_stage_X7 hown hK.1 hM 1 (ldR_F h48) rfl (by decide) (hts _ q_X9_stage_3) (fun _ h9 => h9) dX9_stage_48 ?_
      refine lv_iload_n hx hb dX9_stage_51 rfl (lv_at hl 1 rfl) ?_
      replace h := o_b h; obtain ⟨x52, h52, h⟩ := h
      refine m_iald hx hb hK.1 hM hS rfl h52 dX9_stage_52 ?_
      replace h := Option.some.inj h; subst h
      exact W.iret hx hb hr (fun t ht hW => ⟨rfl, by rw [ht]; exact hM.moved hW.alike, hS.F ht⟩) hS.2.2 dX9_stage_53
    replace h := o_f c14_0 h
    by_cases c14_1 : v2 = (1 : Int32)
    · replace h := o_t c14_1 h
      refine lv_tableIn (tgt := 54) hx hb dX9_stage_14 (by rw [c14_1]; decide) (by rw [c14_1]; decide) (by rw [c14_1]; rfl) (by decide) ?_
      refine lv_aload_n hx hb dX9_stage_54 rfl (lv_at hl 0 rfl) ?_
      replace h := o_b h; obtain ⟨x55, h55, h⟩ := h
      refine m_get (C := RX9) (T := TX9) (N := 9) (ci := 9) hx hb hts qi_X9_stage_X9 hown hK.1 hM 0 (ldR_F h55) rfl (by decide) (hts _ q_X9_stage_1) (fun _ h9 => h9) dX9_stage_55 ?_
      refine lv_iload_n hx hb dX9_stage_58 rfl (lv_at hl 1 rfl) ?_
      replace h := o_b h; obtain ⟨_, k59, h⟩ := h
      replace h := o_b h; obtain ⟨q59, h59, h⟩ := h
      refine m_call (va_runV (As := [.int v1]) (rest := []) ⟨hx, hb, hml, hown, hts⟩ (c_X7_earlier l D b0 sz h59) (cwV 1 hts gX9_stage_X7_earlier rfl rfl rfl (by decide +kernel) ⟨Nat.le_of_ble_eq_true rfl, Nat.le_of_ble_eq_true rfl⟩) ⟨PW.blind, m_recv (ci := 7) rfl hK hM k59, (fun U hU hW => ⟨rfl, PW.call hK hM hS hU hW⟩)⟩ rfl rfl hl.1 rfl (lv_room (Nat.le_of_ble_eq_true rfl)) dX9_stage_59 ⟨(Nat.le_refl _), (Nat.le_refl _)⟩) hS (fun H locs hM hS => ?_)
      replace h := Option.some.inj h; subst h
      exact W.iret hx hb hr (fun t ht hW => ⟨rfl, by rw [ht]; exact hM.moved hW.alike, hS.F ht⟩) hS.2.2 dX9_stage_62
    replace h := o_f c14_1 h
    by_cases c14_2 : v2 = (2 : Int32)
    · replace h := o_t c14_2 h
      refine lv_tableIn (tgt := 63) hx hb dX9_stage_14 (by rw [c14_2]; decide) (by rw [c14_2]; decide) (by rw [c14_2]; rfl) (by decide) ?_
      refine lv_aload_n hx hb dX9_stage_63 rfl (lv_at hl 0 rfl) ?_
      replace h := o_b h; obtain ⟨x64, h64, h⟩ := h
      refine m_get (C := RX9) (T := TX9) (N := 9) (ci := 9) hx hb hts qi_X9_stage_X9 hown hK.1 hM 0 (ldR_F h64) rfl (by decide) (hts _ q_X9_stage_1) (fun _ h9 => h9) dX9_stage_64 ?_
      replace h := o_b h; obtain ⟨x67, h67, h⟩ := h
      refine m_get (C := RX7) (T := TX7) (N := 7) (ci := 7) hx hb hts qi_X9_stage_X7 hown hK.1 hM 2 (ldR_F h67) rfl (by decide) (hts _ q_X9_stage_4) (fun _ h9 => h9) dX9_stage_67 ?_
      refine lv_iload_n hx hb dX9_stage_70 rfl (lv_at hl 1 rfl) ?_
      replace h := o_b h; obtain ⟨x71, h71, h⟩ := h
      refine m_iald hx hb hK.1 hM hS rfl h71 dX9_stage_71 ?_
      replace h := Option.some.inj h; subst h
      exact W.iret hx hb hr (fun t ht hW => ⟨rfl, by rw [ht]; exact hM.moved hW.alike, hS.F ht⟩) hS.2.2 dX9_stage_72
    replace h := o_f c14_2 h
    by_cases c14_3 : v2 = (3 : Int32)
    · replace h := o_t c14_3 h
      refine lv_tableIn (tgt := 73) hx hb dX9_stage_14 (by rw [c14_3]; decide) (by rw [c14_3]; decide) (by rw [c14_3]; rfl) (by decide) ?_
      refine lv_aload_n hx hb dX9_stage_73 rfl (lv_at hl 0 rfl) ?_
      replace h := o_b h; obtain ⟨x74, h74, h⟩ := h
      refine m_get (C := RX9) (T := TX9) (N := 9) (ci := 9) hx hb hts qi_X9_stage_X9 hown hK.1 hM 0 (ldR_F h74) rfl (by decide) (hts _ q_X9_stage_1) (fun _ h9 => h9) dX9_stage_74 ?_
      replace h := o_b h; obtain ⟨_, k77, h⟩ := h
      replace h := o_b h; obtain ⟨q77, h77, h⟩ := h
      refine m_call (va_runV (As := []) (rest := []) ⟨hx, hb, hml, hown, hts⟩ (c_X7_findLikes l D b0 sz h77) (cwV 0 hts gX9_stage_X7_findLikes rfl rfl rfl (by decide +kernel) ⟨Nat.le_of_ble_eq_true rfl, Nat.le_of_ble_eq_true rfl⟩) ⟨PW.blind, m_recv (ci := 7) rfl hK hM k77, (fun U hU hW => ⟨rfl, PW.call hK hM hS hU hW⟩)⟩ rfl rfl hl.1 rfl (lv_room (Nat.le_of_ble_eq_true rfl)) dX9_stage_77 ⟨(Nat.le_refl _), (Nat.le_refl _)⟩) hS (fun H locs hM hS => ?_)
      refine lv_aload_n hx hb dX9_stage_80 rfl (lv_at hl 0 rfl) ?_
      replace h := o_b h; obtain ⟨x81, h81, h⟩ := h
      refine m_get (C := RX9) (T := TX9) (N := 9) (ci := 9) hx hb hts qi_X9_stage_X9 hown hK.1 hM 0 (ldR_F h81) rfl (by decide) (hts _ q_X9_stage_1) (fun _ h9 => h9) dX9_stage_81 ?_
      replace h := o_b h; obtain ⟨x84, h84, h⟩ := h
      refine m_get (C := RX7) (T := TX7) (N := 7) (ci := 7) hx hb hts qi_X9_stage_X7 hown hK.1 hM 4 (ldR_F h84) rfl (by decide) (hts _ q_X9_stage_5) (fun _ h9 => h9) dX9_stage_84 ?_
      refine lv_iload_n hx hb dX9_stage_87 rfl (lv_at hl 1 rfl) ?_
      replace h := o_b h; obtain ⟨x88, h88, h⟩ := h
      refine m_iald hx hb hK.1 hM hS rfl h88 dX9_stage_88 ?_
      replace h := Option.some.inj h; subst h
      exact W.iret hx hb hr (fun t ht hW => ⟨rfl, by rw [ht]; exact hM.moved hW.alike, hS.F ht⟩) hS.2.2 dX9_stage_89
    replace h := o_f c14_3 h
    refine lv_tableOut (tgt := 90) hx hb dX9_stage_14 (by have n0 := lv_neT c14_0 (a := 0) (by decide); have n1 := lv_neT c14_1 (a := 1) (by decide); have n2 := lv_neT c14_2 (a := 2) (by decide); have n3 := lv_neT c14_3 (a := 3) (by decide); omega) (by decide) ?_
    refine lv_bipush (v := (-2 : Int32)) hx hb dX9_stage_90 (by decide) ?_
    replace h := Option.some.inj h; subst h
    exact W.iret hx hb hr (fun t ht hW => ⟨rfl, by rw [ht]; exact hM.moved hW.alike, hS.F ht⟩) hS.2.2 dX9_stage_92
  replace h := o_t c8 h
  refine lv_iconst (v := (-1 : Int32)) hx hb dX9_stage_11 (by decide) ?_
  replace h := Option.some.inj h; subst h
  exact W.iret hx hb hr (fun t ht hW => ⟨rfl, by rw [ht]; exact hM.moved hW.alike, hS.F ht⟩) hS.2.2 dX9_stage_12
set_option maxHeartbeats 4000000 in
set_option maxRecDepth 100000 in
theorem c_X9_stage (l : Launch) (D : mmD) (b0 sz : Nat) {v0 : Nat} {v1 : Int32} {v2 : Int32} {f : mmF} {res : Int32 × mmF} (h : f_X9_stage v0 v1 v2 f = some res) : Met l yX9_stage wsX9_stage ({ frames := 3, cells := 0, slots := 0, locals := 66 } : Room) (va_Pc [.ref v0, .int v1, .int v2] (PW D b0 f sz)) (QW D b0 (some (.int res.1)) res.2 sz) 0 0 (fun q => b0 ≤ q) := by
  refine Met.ofW (cc := cX9_stage) (maxL := 3) (ret := (some .int)) (by decide) rfl ?_
  intro p e s m args below meth c s₁ B hml hv
  obtain ⟨rfl, hM, hK⟩ := hv
  have hl := lv_entry ([.ref v0, .int v1, .int v2]) (n := 3) (Nat.le_of_ble_eq_true rfl)
  rw [lg_entry_eq]
  generalize (lg_sl ([.ref v0, .int v1, .int v2]) ++ List.replicate (3 - (lg_sl ([.ref v0, .int v1, .int v2])).length) Slot.unset).toArray = ls at hl ⊢
  have hl : lv_has ls 3 [(0, .ref v0), (1, .int v1), (2, .int v2)] := hl
  exact w_X9_stage ⟨B.exec, B.bytes, B.returns, hml, findClass_of_methodNamed B.named, atoms_spec (ws := wsX9_stage) B.pre, B.notSynchronized, hK⟩ h s.heap [] ls hM va_S.rf hl
end S_X9_stage
/-! X9_alike -/
set_option maxRecDepth 20000 in
theorem qi_X9_alike_X9 : ∀ w ∈ u_ws RX9 TX9 9, w ∈ wsX9_alike := by decide +kernel
set_option maxRecDepth 20000 in
theorem q_X9_alike_1 : Cond.fieldLink RX9 10 "StageTruths" "state" "LStageTruths$State;" ∈ wsX9_alike := by decide +kernel
set_option maxRecDepth 20000 in
theorem qi_X9_alike_X7 : ∀ w ∈ u_ws RX7 TX7 7, w ∈ wsX9_alike := by decide +kernel
set_option maxRecDepth 20000 in
theorem q_X9_alike_3 : Cond.fieldLink RX9 175 "StageTruths$State" "like" "[I" ∈ wsX9_alike := by decide +kernel
noncomputable def f_X9_alike_57   (t0 : Int32) (f : mmF) : Option (Int32 × mmF) :=
  (f_X9_truth t0 f).bind fun q57 =>
  some (q57, f)
noncomputable def f_X9_alike (v0 : Nat) (v1 : Int32) (v2 : Int32) (f : mmF) : Option (Int32 × mmF) :=
  (ldR f v0 9 0).bind fun x1 =>
  (ckO f x1 7).bind fun _ =>
  (f_X7_isStage x1 v1 f).bind fun q5 =>
  if q5 = 0 then
  (some ((-1 : Int32), f))
  else
  (ldR f v0 9 0).bind fun x12 =>
  (ckO f x12 7).bind fun _ =>
  (f_X7_isStage x12 v2 f).bind fun q16 =>
  if q16 = 0 then
  (some ((-1 : Int32), f))
  else
  (ldR f v0 9 0).bind fun x25 =>
  (ckO f x25 7).bind fun _ =>
  (f_X7_findLikes x25 f).bind fun q28 =>
  (ldR q28 v0 9 0).bind fun x32 =>
  (ldR q28 x32 7 4).bind fun x35 =>
  (ldA 0 q28 x35 v1).bind fun x39 =>
  (ldR q28 v0 9 0).bind fun x41 =>
  (ldR q28 x41 7 4).bind fun x44 =>
  (ldA 0 q28 x44 v2).bind fun x48 =>
  if x39 = x48 then
  (f_X9_alike_57 (1 : Int32) q28)
  else
  f_X9_alike_57 (0 : Int32) q28
section S_X9_alike
variable {p : Program} {l : Launch} {e : Env} {s : State} {m : MethodId} {args : Array Value} {below : List Frame} {meth : Method} {c : Code} {D : mmD} {b0 sz : Nat} {f : mmF}
set_option maxHeartbeats 4000000 in
set_option maxRecDepth 100000 in
theorem w_X9_alike_57 (C0 : CX cX9_alike 3 (some .int) wsX9_alike RX9 p s m args meth c D b0) {res : Int32 × mmF} : ∀ (t0 : Int32) (f : mmF), f_X9_alike_57 t0 f = some res → ∀ (H : Heap) (locs : List Loc) (ls : Array Slot), MM vwCl D b0 f sz s H → mS b0 s H locs → lv_has ls 3 [] → W p l e ({ frames := 3, cells := 0, slots := 0, locals := 66 } : Room) s m args below meth c H locs 0 0 (MQ below (QW D b0 (some (.int res.1)) res.2 sz) args s 0 0 (fun q => b0 ≤ q)) (F0 m 57 ls [.int t0]) := by
  obtain ⟨hx, hb, hr, hml, hown, hts, hlocks, hK⟩ := id C0
  intro t0 f h H locs ls hM hS hl
  unfold f_X9_alike_57 at h
  replace h := o_b h; obtain ⟨q57, h57, h⟩ := h
  refine m_call (va_runS (As := [.int t0]) (rest := []) ⟨hx, hb, hml, hown, hts⟩ (c_X9_truth l D b0 sz h57) (va_cwS 1 hts gX9_alike_X9_truth rfl rfl rfl (by decide +kernel) ⟨Nat.le_of_ble_eq_true rfl, Nat.le_of_ble_eq_true rfl⟩) ⟨PW.blind, (fun U hU hW => ⟨rfl, PW.call hK hM hS hU hW⟩)⟩ rfl rfl hl.1 rfl (lv_room (Nat.le_of_ble_eq_true rfl)) dX9_alike_57 ⟨(Nat.le_refl _), (Nat.le_refl _)⟩) hS (fun H locs hM hS => ?_)
  replace h := Option.some.inj h; subst h
  exact W.iret hx hb hr (fun t ht hW => ⟨rfl, by rw [ht]; exact hM.moved hW.alike, hS.F ht⟩) hS.2.2 dX9_alike_60
set_option maxHeartbeats 4000000 in
set_option maxRecDepth 100000 in
theorem w_X9_alike (C0 : CX cX9_alike 3 (some .int) wsX9_alike RX9 p s m args meth c D b0) {v0 : Nat} {v1 : Int32} {v2 : Int32} {res : Int32 × mmF} (h : f_X9_alike v0 v1 v2 f = some res) : ∀ (H : Heap) (locs : List Loc) (ls : Array Slot), MM vwCl D b0 f sz s H → mS b0 s H locs → lv_has ls 3 [(0, .ref v0), (1, .int v1), (2, .int v2)] → W p l e ({ frames := 3, cells := 0, slots := 0, locals := 66 } : Room) s m args below meth c H locs 0 0 (MQ below (QW D b0 (some (.int res.1)) res.2 sz) args s 0 0 (fun q => b0 ≤ q)) (F0 m 0 ls []) := by
  obtain ⟨hx, hb, hr, hml, hown, hts, hlocks, hK⟩ := id C0
  intro H locs ls hM hS hl
  unfold f_X9_alike at h
  refine lv_aload_n hx hb dX9_alike_0 rfl (lv_at hl 0 rfl) ?_
  replace h := o_b h; obtain ⟨x1, h1, h⟩ := h
  refine m_get (C := RX9) (T := TX9) (N := 9) (ci := 9) hx hb hts qi_X9_alike_X9 hown hK.1 hM 0 (ldR_F h1) rfl (by decide) (hts _ q_X9_alike_1) (fun _ h9 => h9) dX9_alike_1 ?_
  refine lv_iload_n hx hb dX9_alike_4 rfl (lv_at hl 1 rfl) ?_
  replace h := o_b h; obtain ⟨_, k5, h⟩ := h
  replace h := o_b h; obtain ⟨q5, h5, h⟩ := h
  refine m_call (va_runV (As := [.int v1]) (rest := []) ⟨hx, hb, hml, hown, hts⟩ (c_X7_isStage l D b0 sz h5) (cwV 1 hts gX9_alike_X7_isStage rfl rfl rfl (by decide +kernel) ⟨Nat.le_of_ble_eq_true rfl, Nat.le_of_ble_eq_true rfl⟩) ⟨PW.blind, m_recv (ci := 7) rfl hK hM k5, (fun U hU hW => ⟨rfl, PW.call hK hM hS hU hW⟩)⟩ rfl rfl hl.1 rfl (lv_room (Nat.le_of_ble_eq_true rfl)) dX9_alike_5 ⟨(Nat.le_refl _), (Nat.le_refl _)⟩) hS (fun H locs hM hS => ?_)
  refine lv_if_eq (tgt := 22) hx hb dX9_alike_8 (by decide) (fun c8 => ?_) (fun c8 => ?_)
  · replace h := o_t c8 h
    refine lv_iconst (v := (-1 : Int32)) hx hb dX9_alike_22 (by decide) ?_
    replace h := Option.some.inj h; subst h
    exact W.iret hx hb hr (fun t ht hW => ⟨rfl, by rw [ht]; exact hM.moved hW.alike, hS.F ht⟩) hS.2.2 dX9_alike_23
  replace h := o_f c8 h
  refine lv_aload_n hx hb dX9_alike_11 rfl (lv_at hl 0 rfl) ?_
  replace h := o_b h; obtain ⟨x12, h12, h⟩ := h
  refine m_get (C := RX9) (T := TX9) (N := 9) (ci := 9) hx hb hts qi_X9_alike_X9 hown hK.1 hM 0 (ldR_F h12) rfl (by decide) (hts _ q_X9_alike_1) (fun _ h9 => h9) dX9_alike_12 ?_
  refine lv_iload_n hx hb dX9_alike_15 rfl (lv_at hl 2 rfl) ?_
  replace h := o_b h; obtain ⟨_, k16, h⟩ := h
  replace h := o_b h; obtain ⟨q16, h16, h⟩ := h
  refine m_call (va_runV (As := [.int v2]) (rest := []) ⟨hx, hb, hml, hown, hts⟩ (c_X7_isStage l D b0 sz h16) (cwV 1 hts gX9_alike_X7_isStage rfl rfl rfl (by decide +kernel) ⟨Nat.le_of_ble_eq_true rfl, Nat.le_of_ble_eq_true rfl⟩) ⟨PW.blind, m_recv (ci := 7) rfl hK hM k16, (fun U hU hW => ⟨rfl, PW.call hK hM hS hU hW⟩)⟩ rfl rfl hl.1 rfl (lv_room (Nat.le_of_ble_eq_true rfl)) dX9_alike_16 ⟨(Nat.le_refl _), (Nat.le_refl _)⟩) hS (fun H locs hM hS => ?_)
  refine lv_if_ne (tgt := 24) hx hb dX9_alike_19 (by decide) (fun c19 => ?_) (fun c19 => ?_)
  · replace h := o_f c19 h
    refine lv_aload_n hx hb dX9_alike_24 rfl (lv_at hl 0 rfl) ?_
    replace h := o_b h; obtain ⟨x25, h25, h⟩ := h
    refine m_get (C := RX9) (T := TX9) (N := 9) (ci := 9) hx hb hts qi_X9_alike_X9 hown hK.1 hM 0 (ldR_F h25) rfl (by decide) (hts _ q_X9_alike_1) (fun _ h9 => h9) dX9_alike_25 ?_
    replace h := o_b h; obtain ⟨_, k28, h⟩ := h
    replace h := o_b h; obtain ⟨q28, h28, h⟩ := h
    refine m_call (va_runV (As := []) (rest := []) ⟨hx, hb, hml, hown, hts⟩ (c_X7_findLikes l D b0 sz h28) (cwV 0 hts gX9_alike_X7_findLikes rfl rfl rfl (by decide +kernel) ⟨Nat.le_of_ble_eq_true rfl, Nat.le_of_ble_eq_true rfl⟩) ⟨PW.blind, m_recv (ci := 7) rfl hK hM k28, (fun U hU hW => ⟨rfl, PW.call hK hM hS hU hW⟩)⟩ rfl rfl hl.1 rfl (lv_room (Nat.le_of_ble_eq_true rfl)) dX9_alike_28 ⟨(Nat.le_refl _), (Nat.le_refl _)⟩) hS (fun H locs hM hS => ?_)
    refine lv_aload_n hx hb dX9_alike_31 rfl (lv_at hl 0 rfl) ?_
    replace h := o_b h; obtain ⟨x32, h32, h⟩ := h
    refine m_get (C := RX9) (T := TX9) (N := 9) (ci := 9) hx hb hts qi_X9_alike_X9 hown hK.1 hM 0 (ldR_F h32) rfl (by decide) (hts _ q_X9_alike_1) (fun _ h9 => h9) dX9_alike_32 ?_
    replace h := o_b h; obtain ⟨x35, h35, h⟩ := h
    refine m_get (C := RX7) (T := TX7) (N := 7) (ci := 7) hx hb hts qi_X9_alike_X7 hown hK.1 hM 4 (ldR_F h35) rfl (by decide) (hts _ q_X9_alike_3) (fun _ h9 => h9) dX9_alike_35 ?_
    refine lv_iload_n hx hb dX9_alike_38 rfl (lv_at hl 1 rfl) ?_
    replace h := o_b h; obtain ⟨x39, h39, h⟩ := h
    refine m_iald hx hb hK.1 hM hS rfl h39 dX9_alike_39 ?_
    refine lv_aload_n hx hb dX9_alike_40 rfl (lv_at hl 0 rfl) ?_
    replace h := o_b h; obtain ⟨x41, h41, h⟩ := h
    refine m_get (C := RX9) (T := TX9) (N := 9) (ci := 9) hx hb hts qi_X9_alike_X9 hown hK.1 hM 0 (ldR_F h41) rfl (by decide) (hts _ q_X9_alike_1) (fun _ h9 => h9) dX9_alike_41 ?_
    replace h := o_b h; obtain ⟨x44, h44, h⟩ := h
    refine m_get (C := RX7) (T := TX7) (N := 7) (ci := 7) hx hb hts qi_X9_alike_X7 hown hK.1 hM 4 (ldR_F h44) rfl (by decide) (hts _ q_X9_alike_3) (fun _ h9 => h9) dX9_alike_44 ?_
    refine lv_iload_n hx hb dX9_alike_47 rfl (lv_at hl 2 rfl) ?_
    replace h := o_b h; obtain ⟨x48, h48, h⟩ := h
    refine m_iald hx hb hK.1 hM hS rfl h48 dX9_alike_48 ?_
    refine lv_icmp_ne (tgt := 56) hx hb dX9_alike_49 (by decide) (fun c49 => ?_) (fun c49 => ?_)
    · replace h := o_f c49 h
      refine lv_iconst (v := (0 : Int32)) hx hb dX9_alike_56 (by decide) ?_
      exact w_X9_alike_57 C0 _ _ h _ _ _ hM hS (lv_sub hl [] rfl)
    replace h := o_t c49 h
    refine lv_iconst (v := (1 : Int32)) hx hb dX9_alike_52 (by decide) ?_
    refine lv_goto (tgt := 57) hx hb dX9_alike_53 (by decide) ?_
    exact w_X9_alike_57 C0 _ _ h _ _ _ hM hS (lv_sub hl [] rfl)
  replace h := o_t c19 h
  refine lv_iconst (v := (-1 : Int32)) hx hb dX9_alike_22 (by decide) ?_
  replace h := Option.some.inj h; subst h
  exact W.iret hx hb hr (fun t ht hW => ⟨rfl, by rw [ht]; exact hM.moved hW.alike, hS.F ht⟩) hS.2.2 dX9_alike_23
set_option maxHeartbeats 4000000 in
set_option maxRecDepth 100000 in
theorem c_X9_alike (l : Launch) (D : mmD) (b0 sz : Nat) {v0 : Nat} {v1 : Int32} {v2 : Int32} {f : mmF} {res : Int32 × mmF} (h : f_X9_alike v0 v1 v2 f = some res) : Met l yX9_alike wsX9_alike ({ frames := 3, cells := 0, slots := 0, locals := 66 } : Room) (va_Pc [.ref v0, .int v1, .int v2] (PW D b0 f sz)) (QW D b0 (some (.int res.1)) res.2 sz) 0 0 (fun q => b0 ≤ q) := by
  refine Met.ofW (cc := cX9_alike) (maxL := 3) (ret := (some .int)) (by decide) rfl ?_
  intro p e s m args below meth c s₁ B hml hv
  obtain ⟨rfl, hM, hK⟩ := hv
  have hl := lv_entry ([.ref v0, .int v1, .int v2]) (n := 3) (Nat.le_of_ble_eq_true rfl)
  rw [lg_entry_eq]
  generalize (lg_sl ([.ref v0, .int v1, .int v2]) ++ List.replicate (3 - (lg_sl ([.ref v0, .int v1, .int v2])).length) Slot.unset).toArray = ls at hl ⊢
  have hl : lv_has ls 3 [(0, .ref v0), (1, .int v1), (2, .int v2)] := hl
  exact w_X9_alike ⟨B.exec, B.bytes, B.returns, hml, findClass_of_methodNamed B.named, atoms_spec (ws := wsX9_alike) B.pre, B.notSynchronized, hK⟩ h s.heap [] ls hM va_S.rf hl
end S_X9_alike
/-! X9_lookAt -/
set_option maxRecDepth 20000 in
theorem qi_X9_lookAt_X9 : ∀ w ∈ u_ws RX9 TX9 9, w ∈ wsX9_lookAt := by decide +kernel
set_option maxRecDepth 20000 in
theorem q_X9_lookAt_1 : Cond.fieldLink RX9 56 "StageTruths" "parts" "LStageTruths$Parts;" ∈ wsX9_lookAt := by decide +kernel
set_option maxRecDepth 20000 in
theorem q_X9_lookAt_2 : Cond.fieldLink RX9 10 "StageTruths" "state" "LStageTruths$State;" ∈ wsX9_lookAt := by decide +kernel
set_option maxRecDepth 20000 in
theorem qi_X9_lookAt_X7 : ∀ w ∈ u_ws RX7 TX7 7, w ∈ wsX9_lookAt := by decide +kernel
set_option maxRecDepth 20000 in
theorem q_X9_lookAt_4 : Cond.fieldLink RX9 142 "StageTruths$State" "shelf" "[LStageTruths$Claim;" ∈ wsX9_lookAt := by decide +kernel
set_option maxRecDepth 20000 in
theorem q_X9_lookAt_5 : Cond.fieldLink RX9 49 "StageTruths" "models" "LStageTruths$SmallModels;" ∈ wsX9_lookAt := by decide +kernel
set_option maxRecDepth 20000 in
theorem q_X9_lookAt_6 : Cond.fieldLink RX9 41 "StageTruths" "proof" "LStageTruths$Proof;" ∈ wsX9_lookAt := by decide +kernel
noncomputable def f_X9_lookAt (kn : Nat) (v0 : Nat) (v1 : Int32) (f : mmF) : Option (mmF) :=
  (ldR f v0 9 8).bind fun x1 =>
  (ldR f v0 9 0).bind fun x5 =>
  (ldR f x5 7 3).bind fun x8 =>
  (ckO f x1 4).bind fun _ =>
  (f_X4_take x1 x8 v1 f).bind fun q12 =>
  (ldR q12 v0 9 7).bind fun x16 =>
  (ckO q12 x16 6).bind fun _ =>
  (f_X6_fillSingle kn x16 q12).bind fun q19 =>
  (ldR q19 v0 9 6).bind fun x23 =>
  (ckO q19 x23 5).bind fun _ =>
  (f_X5_startAnew x23 q19).bind fun q26 =>
  some (q26)
section S_X9_lookAt
variable {p : Program} {l : Launch} {e : Env} {s : State} {m : MethodId} {args : Array Value} {below : List Frame} {meth : Method} {c : Code} {D : mmD} {b0 sz : Nat} {f : mmF}
set_option maxHeartbeats 4000000 in
set_option maxRecDepth 100000 in
theorem w_X9_lookAt (C0 : CX cX9_lookAt 2 none wsX9_lookAt RX9 p s m args meth c D b0) {v0 : Nat} {v1 : Int32} {kn : Nat} (ek : kn = D.2 9) {res : mmF} (h : f_X9_lookAt kn v0 v1 f = some res) : ∀ (H : Heap) (locs : List Loc) (ls : Array Slot), MM vwCl D b0 f sz s H → mS b0 s H locs → lv_has ls 2 [(0, .ref v0), (1, .int v1)] → W p l e ({ frames := 3, cells := 0, slots := 0, locals := 73 } : Room) s m args below meth c H locs 0 0 (MQ below (QW D b0 none res sz) args s 0 0 (fun q => b0 ≤ q)) (F0 m 0 ls []) := by
  obtain ⟨hx, hb, hr, hml, hown, hts, hlocks, hK⟩ := id C0
  intro H locs ls hM hS hl
  unfold f_X9_lookAt at h
  refine lv_aload_n hx hb dX9_lookAt_0 rfl (lv_at hl 0 rfl) ?_
  replace h := o_b h; obtain ⟨x1, h1, h⟩ := h
  refine m_get (C := RX9) (T := TX9) (N := 9) (ci := 9) hx hb hts qi_X9_lookAt_X9 hown hK.1 hM 8 (ldR_F h1) rfl (by decide) (hts _ q_X9_lookAt_1) (fun _ h9 => h9) dX9_lookAt_1 ?_
  refine lv_aload_n hx hb dX9_lookAt_4 rfl (lv_at hl 0 rfl) ?_
  replace h := o_b h; obtain ⟨x5, h5, h⟩ := h
  refine m_get (C := RX9) (T := TX9) (N := 9) (ci := 9) hx hb hts qi_X9_lookAt_X9 hown hK.1 hM 0 (ldR_F h5) rfl (by decide) (hts _ q_X9_lookAt_2) (fun _ h9 => h9) dX9_lookAt_5 ?_
  replace h := o_b h; obtain ⟨x8, h8, h⟩ := h
  refine m_get (C := RX7) (T := TX7) (N := 7) (ci := 7) hx hb hts qi_X9_lookAt_X7 hown hK.1 hM 3 (ldR_F h8) rfl (by decide) (hts _ q_X9_lookAt_4) (fun _ h9 => h9) dX9_lookAt_8 ?_
  refine lv_iload_n hx hb dX9_lookAt_11 rfl (lv_at hl 1 rfl) ?_
  replace h := o_b h; obtain ⟨_, k12, h⟩ := h
  replace h := o_b h; obtain ⟨q12, h12, h⟩ := h
  refine m_call (va_runV (As := [.ref x8, .int v1]) (rest := []) ⟨hx, hb, hml, hown, hts⟩ (c_X4_take l D b0 sz h12) (cwV 2 hts gX9_lookAt_X4_take rfl rfl rfl (by decide +kernel) ⟨Nat.le_of_ble_eq_true rfl, Nat.le_of_ble_eq_true rfl⟩) ⟨PW.blind, m_recv (ci := 4) rfl hK hM k12, (fun U hU hW => ⟨rfl, PW.call hK hM hS hU hW⟩)⟩ rfl rfl hl.1 rfl (lv_room (Nat.le_of_ble_eq_true rfl)) dX9_lookAt_12 ⟨(Nat.le_refl _), (Nat.le_refl _)⟩) hS (fun H locs hM hS => ?_)
  refine lv_aload_n hx hb dX9_lookAt_15 rfl (lv_at hl 0 rfl) ?_
  replace h := o_b h; obtain ⟨x16, h16, h⟩ := h
  refine m_get (C := RX9) (T := TX9) (N := 9) (ci := 9) hx hb hts qi_X9_lookAt_X9 hown hK.1 hM 7 (ldR_F h16) rfl (by decide) (hts _ q_X9_lookAt_5) (fun _ h9 => h9) dX9_lookAt_16 ?_
  replace h := o_b h; obtain ⟨_, k19, h⟩ := h
  replace h := o_b h; obtain ⟨q19, h19, h⟩ := h
  refine m_call (va_runV (As := []) (rest := []) ⟨hx, hb, hml, hown, hts⟩ (c_X6_fillSingle l D b0 sz ek h19) (cwV 0 hts gX9_lookAt_X6_fillSingle rfl rfl rfl (by decide +kernel) ⟨Nat.le_of_ble_eq_true rfl, Nat.le_of_ble_eq_true rfl⟩) ⟨PW.blind, m_recv (ci := 6) rfl hK hM k19, (fun U hU hW => ⟨rfl, PW.call hK hM hS hU hW⟩)⟩ rfl rfl hl.1 rfl (lv_room (Nat.le_of_ble_eq_true rfl)) dX9_lookAt_19 ⟨(Nat.le_refl _), (Nat.le_refl _)⟩) hS (fun H locs hM hS => ?_)
  refine lv_aload_n hx hb dX9_lookAt_22 rfl (lv_at hl 0 rfl) ?_
  replace h := o_b h; obtain ⟨x23, h23, h⟩ := h
  refine m_get (C := RX9) (T := TX9) (N := 9) (ci := 9) hx hb hts qi_X9_lookAt_X9 hown hK.1 hM 6 (ldR_F h23) rfl (by decide) (hts _ q_X9_lookAt_6) (fun _ h9 => h9) dX9_lookAt_23 ?_
  replace h := o_b h; obtain ⟨_, k26, h⟩ := h
  replace h := o_b h; obtain ⟨q26, h26, h⟩ := h
  refine m_call (va_runV (As := []) (rest := []) ⟨hx, hb, hml, hown, hts⟩ (c_X5_startAnew l D b0 sz h26) (cwV 0 hts gX9_lookAt_X5_startAnew rfl rfl rfl (by decide +kernel) ⟨Nat.le_of_ble_eq_true rfl, Nat.le_of_ble_eq_true rfl⟩) ⟨PW.blind, m_recv (ci := 5) rfl hK hM k26, (fun U hU hW => ⟨rfl, PW.call hK hM hS hU hW⟩)⟩ rfl rfl hl.1 rfl (lv_room (Nat.le_of_ble_eq_true rfl)) dX9_lookAt_26 ⟨(Nat.le_refl _), (Nat.le_refl _)⟩) hS (fun H locs hM hS => ?_)
  replace h := Option.some.inj h; subst h
  exact W.vret hx hb hr (fun t ht hW => ⟨rfl, by rw [ht]; exact hM.moved hW.alike, hS.F ht⟩) hS.2.2 dX9_lookAt_29
set_option maxHeartbeats 4000000 in
set_option maxRecDepth 100000 in
theorem c_X9_lookAt (l : Launch) (D : mmD) (b0 sz : Nat) {kn : Nat} (ek : kn = D.2 9) {v0 : Nat} {v1 : Int32} {f : mmF} {res : mmF} (h : f_X9_lookAt kn v0 v1 f = some res) : Met l yX9_lookAt wsX9_lookAt ({ frames := 3, cells := 0, slots := 0, locals := 73 } : Room) (va_Pc [.ref v0, .int v1] (PW D b0 f sz)) (QW D b0 none res sz) 0 0 (fun q => b0 ≤ q) := by
  refine Met.ofW (cc := cX9_lookAt) (maxL := 2) (ret := none) (by decide) rfl ?_
  intro p e s m args below meth c s₁ B hml hv
  obtain ⟨rfl, hM, hK⟩ := hv
  have hl := lv_entry ([.ref v0, .int v1]) (n := 2) (Nat.le_of_ble_eq_true rfl)
  rw [lg_entry_eq]
  generalize (lg_sl ([.ref v0, .int v1]) ++ List.replicate (2 - (lg_sl ([.ref v0, .int v1])).length) Slot.unset).toArray = ls at hl ⊢
  have hl : lv_has ls 2 [(0, .ref v0), (1, .int v1)] := hl
  exact w_X9_lookAt ⟨B.exec, B.bytes, B.returns, hml, findClass_of_methodNamed B.named, atoms_spec (ws := wsX9_lookAt) B.pre, B.notSynchronized, hK⟩ ek h s.heap [] ls hM va_S.rf hl
end S_X9_lookAt
/-! X9_claim -/
set_option maxRecDepth 20000 in
theorem qi_X9_claim_X9 : ∀ w ∈ u_ws RX9 TX9 9, w ∈ wsX9_claim := by decide +kernel
set_option maxRecDepth 20000 in
theorem q_X9_claim_1 : Cond.fieldLink RX9 10 "StageTruths" "state" "LStageTruths$State;" ∈ wsX9_claim := by decide +kernel
set_option maxRecDepth 20000 in
theorem q_X9_claim_2 : Cond.fieldLink RX9 56 "StageTruths" "parts" "LStageTruths$Parts;" ∈ wsX9_claim := by decide +kernel
set_option maxRecDepth 20000 in
theorem qi_X9_claim_X0 : ∀ w ∈ u_ws RX0 TX0 2, w ∈ wsX9_claim := by decide +kernel
set_option maxRecDepth 20000 in
theorem q_X9_claim_4 : Cond.fieldLink RX9 157 "StageTruths$Claim" "size" "I" ∈ wsX9_claim := by decide +kernel
set_option maxRecDepth 20000 in
theorem q_X9_claim_5 : Cond.fieldLink RX9 41 "StageTruths" "proof" "LStageTruths$Proof;" ∈ wsX9_claim := by decide +kernel
set_option maxRecDepth 20000 in
theorem q_X9_claim_6 : Cond.fieldLink RX9 49 "StageTruths" "models" "LStageTruths$SmallModels;" ∈ wsX9_claim := by decide +kernel
noncomputable def f_X9_claim (kn : Nat) (v0 : Nat) (v1 : Int32) (v2 : Int32) (f : mmF) : Option (Int32 × mmF) :=
  (ckO f v0 9).bind fun _ =>
  (f_X9_claimAt v0 v1 f).bind fun q2 =>
  qc q2 (some ((-1 : Int32), f)) (fun r7 =>
  (ckO f v0 9).bind fun _ =>
  (f_X9_lookAt kn v0 ((1 : Int32) <<< (v1 &&& 31)) f).bind fun q16 =>
  (ldR q16 v0 9 0).bind fun x20 =>
  (ldR q16 v0 9 8).bind fun x24 =>
  (ldR q16 v0 9 8).bind fun x28 =>
  (ckO q16 x28 4).bind fun _ =>
  (f_X4_whole x28 v1 q16).bind fun q32 =>
  (ckO q16 x20 7).bind fun _ =>
  (f_X7_stagesWith x20 x24 q32 q16).bind fun q35 =>
  if v2 = (0 : Int32) then
  (some (q35.1, q35.2))
  else
  if v2 = (1 : Int32) then
  ((ldR q35.2 v0 9 0).bind fun x92 =>
  (ckO q35.2 x92 7).bind fun _ =>
  (f_X7_lowestOutside x92 q35.1 q35.2).bind fun q97 =>
  some (q97, q35.2))
  else
  if v2 = (2 : Int32) then
  ((ldI q35.2 r7 0 0).bind fun x102 =>
  some (x102, q35.2))
  else
  if v2 = (3 : Int32) then
  ((ldR q35.2 v0 9 8).bind fun x107 =>
  (ckO q35.2 x107 4).bind fun _ =>
  (f_X4_different x107 q35.2).bind fun q110 =>
  some (q110, q35.2))
  else
  if v2 = (4 : Int32) then
  ((ldR q35.2 v0 9 8).bind fun x115 =>
  (ckO q35.2 x115 4).bind fun _ =>
  (f_X4_usedFacts x115 q35.2).bind fun q118 =>
  some (q118, q35.2))
  else
  if v2 = (5 : Int32) then
  ((ldR q35.2 v0 9 6).bind fun x123 =>
  (ckO q35.2 x123 5).bind fun _ =>
  (f_X5_isFound x123 (0 : Int32) v1 q35.2).bind fun q128 =>
  (f_X9_truth q128.1 q128.2).bind fun q131 =>
  some (q131, q128.2))
  else
  if v2 = (6 : Int32) then
  ((ldR q35.2 v0 9 7).bind fun x136 =>
  (ckO q35.2 x136 6).bind fun _ =>
  (f_X6_entailsPlainly x136 (0 : Int32) v1 q35.2).bind fun q141 =>
  (f_X9_truth q141 q35.2).bind fun q144 =>
  some (q144, q35.2))
  else
  if v2 = (7 : Int32) then
  ((ldR q35.2 v0 9 8).bind fun x149 =>
  (ckO q35.2 x149 4).bind fun _ =>
  (f_X4_depth x149 v1 q35.2).bind fun q153 =>
  some (q153.1, q153.2))
  else
  some ((-2 : Int32), q35.2))
section S_X9_claim
variable {p : Program} {l : Launch} {e : Env} {s : State} {m : MethodId} {args : Array Value} {below : List Frame} {meth : Method} {c : Code} {D : mmD} {b0 sz : Nat} {f : mmF}
set_option maxHeartbeats 4000000 in
set_option maxRecDepth 100000 in
theorem w_X9_claim (C0 : CX cX9_claim 5 (some .int) wsX9_claim RX9 p s m args meth c D b0) {v0 : Nat} {v1 : Int32} {v2 : Int32} {kn : Nat} (ek : kn = D.2 9) {res : Int32 × mmF} (h : f_X9_claim kn v0 v1 v2 f = some res) : ∀ (H : Heap) (locs : List Loc) (ls : Array Slot), MM vwCl D b0 f sz s H → mS b0 s H locs → lv_has ls 5 [(0, .ref v0), (1, .int v1), (2, .int v2)] → W p l e ({ frames := 167, cells := 0, slots := 0, locals := 4971 } : Room) s m args below meth c H locs 0 0 (MQ below (QW D b0 (some (.int res.1)) res.2 sz) args s 0 0 (fun q => b0 ≤ q)) (F0 m 0 ls []) := by
  obtain ⟨hx, hb, hr, hml, hown, hts, hlocks, hK⟩ := id C0
  intro H locs ls hM hS hl
  unfold f_X9_claim at h
  refine lv_aload_n hx hb dX9_claim_0 rfl (lv_at hl 0 rfl) ?_
  refine lv_iload_n hx hb dX9_claim_1 rfl (lv_at hl 1 rfl) ?_
  replace h := o_b h; obtain ⟨_, k2, h⟩ := h
  replace h := o_b h; obtain ⟨q2, h2, h⟩ := h
  refine m_call (va_runV (As := [.int v1]) (rest := []) ⟨hx, hb, hml, hown, hts⟩ (c_X9_claimAt l D b0 sz h2) (cwV 1 hts gX9_claim_X9_claimAt rfl rfl rfl (by decide +kernel) ⟨Nat.le_of_ble_eq_true rfl, Nat.le_of_ble_eq_true rfl⟩) ⟨PW.blind, m_recv (ci := 9) rfl hK hM k2, (fun U hU hW => ⟨rfl, PW.call hK hM hS hU hW⟩)⟩ rfl rfl hl.1 rfl (lv_room (Nat.le_of_ble_eq_true rfl)) dX9_claim_2 ⟨(Nat.le_refl _), (Nat.le_refl _)⟩) hS (fun H locs hM hS => ?_)
  refine m_astore_n (lv' := [(3, va_rf q2), (0, .ref v0), (1, .int v1), (2, .int v2)]) hx hb dX9_claim_5 rfl hl (by decide) rfl (fun ls hl => ?_)
  refine m_aload_n hx hb dX9_claim_6 rfl (lv_at hl 0 rfl) ?_
  rcases q2 with _ | r7
  · replace h := qc_n h
    refine lv_ifnonnullN hx hb dX9_claim_7 ?_
    refine lv_iconst (v := (-1 : Int32)) hx hb dX9_claim_10 (by decide) ?_
    replace h := Option.some.inj h; subst h
    exact W.iret hx hb hr (fun t ht hW => ⟨rfl, by rw [ht]; exact hM.moved hW.alike, hS.F ht⟩) hS.2.2 dX9_claim_11
  replace h := qc_s h
  refine lv_ifnonnull (tgt := 12) hx hb dX9_claim_7 (by decide) ?_
  refine lv_aload_n hx hb dX9_claim_12 rfl (lv_at hl 1 rfl) ?_
  refine lv_iconst (v := (1 : Int32)) hx hb dX9_claim_13 (by decide) ?_
  refine lv_iload_n hx hb dX9_claim_14 rfl (lv_at hl 2 rfl) ?_
  refine lv_ishl hx hb dX9_claim_15 ?_
  replace h := o_b h; obtain ⟨_, k16, h⟩ := h
  replace h := o_b h; obtain ⟨q16, h16, h⟩ := h
  refine m_call (va_runV (As := [.int ((1 : Int32) <<< (v1 &&& 31))]) (rest := []) ⟨hx, hb, hml, hown, hts⟩ (c_X9_lookAt l D b0 sz ek h16) (cwV 1 hts gX9_claim_X9_lookAt rfl rfl rfl (by decide +kernel) ⟨Nat.le_of_ble_eq_true rfl, Nat.le_of_ble_eq_true rfl⟩) ⟨PW.blind, m_recv (ci := 9) rfl hK hM k16, (fun U hU hW => ⟨rfl, PW.call hK hM hS hU hW⟩)⟩ rfl rfl hl.1 rfl (lv_room (Nat.le_of_ble_eq_true rfl)) dX9_claim_16 ⟨(Nat.le_refl _), (Nat.le_refl _)⟩) hS (fun H locs hM hS => ?_)
  refine lv_aload_n hx hb dX9_claim_19 rfl (lv_at hl 1 rfl) ?_
  replace h := o_b h; obtain ⟨x20, h20, h⟩ := h
  refine m_get (C := RX9) (T := TX9) (N := 9) (ci := 9) hx hb hts qi_X9_claim_X9 hown hK.1 hM 0 (ldR_F h20) rfl (by decide) (hts _ q_X9_claim_1) (fun _ h9 => h9) dX9_claim_20 ?_
  refine lv_aload_n hx hb dX9_claim_23 rfl (lv_at hl 1 rfl) ?_
  replace h := o_b h; obtain ⟨x24, h24, h⟩ := h
  refine m_get (C := RX9) (T := TX9) (N := 9) (ci := 9) hx hb hts qi_X9_claim_X9 hown hK.1 hM 8 (ldR_F h24) rfl (by decide) (hts _ q_X9_claim_2) (fun _ h9 => h9) dX9_claim_24 ?_
  refine lv_aload_n hx hb dX9_claim_27 rfl (lv_at hl 1 rfl) ?_
  replace h := o_b h; obtain ⟨x28, h28, h⟩ := h
  refine m_get (C := RX9) (T := TX9) (N := 9) (ci := 9) hx hb hts qi_X9_claim_X9 hown hK.1 hM 8 (ldR_F h28) rfl (by decide) (hts _ q_X9_claim_2) (fun _ h9 => h9) dX9_claim_28 ?_
  refine lv_iload_n hx hb dX9_claim_31 rfl (lv_at hl 2 rfl) ?_
  replace h := o_b h; obtain ⟨_, k32, h⟩ := h
  replace h := o_b h; obtain ⟨q32, h32, h⟩ := h
  refine m_call (va_runV (As := [.int v1]) (rest := [.ref x24, .ref x20]) ⟨hx, hb, hml, hown, hts⟩ (c_X4_whole l D b0 sz h32) (cwV 1 hts gX9_claim_X4_whole rfl rfl rfl (by decide +kernel) ⟨Nat.le_of_ble_eq_true rfl, Nat.le_of_ble_eq_true rfl⟩) ⟨PW.blind, m_recv (ci := 4) rfl hK hM k32, (fun U hU hW => ⟨rfl, PW.call hK hM hS hU hW⟩)⟩ rfl rfl hl.1 rfl (lv_room (Nat.le_of_ble_eq_true rfl)) dX9_claim_32 ⟨(Nat.le_refl _), (Nat.le_refl _)⟩) hS (fun H locs hM hS => ?_)
  replace h := o_b h; obtain ⟨_, k35, h⟩ := h
  replace h := o_b h; obtain ⟨q35, h35, h⟩ := h
  refine m_call (va_runV (As := [.ref x24, .int q32]) (rest := []) ⟨hx, hb, hml, hown, hts⟩ (c_X7_stagesWith l D b0 sz h35) (cwV 2 hts gX9_claim_X7_stagesWith rfl rfl rfl (by decide +kernel) ⟨Nat.le_of_ble_eq_true rfl, Nat.le_of_ble_eq_true rfl⟩) ⟨PW.blind, m_recv (ci := 7) rfl hK hM k35, (fun U hU hW => ⟨rfl, PW.call hK hM hS hU hW⟩)⟩ rfl rfl hl.1 rfl (lv_room (Nat.le_of_ble_eq_true rfl)) dX9_claim_35 ⟨(Nat.le_refl _), (Nat.le_refl _)⟩) hS (fun H locs hM hS => ?_)
  refine lv_istore (lv' := [(4, .int q35.1), (3, .ref r7), (0, .ref v0), (1, .int v1), (2, .int v2)]) hx hb dX9_claim_38 hl (by decide) rfl (fun ls hl => ?_)
  refine lv_iload_n hx hb dX9_claim_40 rfl (lv_at hl 4 rfl) ?_
  by_cases c41_0 : v2 = (0 : Int32)
  · replace h := o_t c41_0 h
    refine lv_tableIn (tgt := 88) hx hb dX9_claim_41 (by rw [c41_0]; decide) (by rw [c41_0]; decide) (by rw [c41_0]; rfl) (by decide) ?_
    refine lv_iload hx hb dX9_claim_88 (lv_at hl 0 rfl) ?_
    replace h := Option.some.inj h; subst h
    exact W.iret hx hb hr (fun t ht hW => ⟨rfl, by rw [ht]; exact hM.moved hW.alike, hS.F ht⟩) hS.2.2 dX9_claim_90
  replace h := o_f c41_0 h
  by_cases c41_1 : v2 = (1 : Int32)
  · replace h := o_t c41_1 h
    refine lv_tableIn (tgt := 91) hx hb dX9_claim_41 (by rw [c41_1]; decide) (by rw [c41_1]; decide) (by rw [c41_1]; rfl) (by decide) ?_
    refine lv_aload_n hx hb dX9_claim_91 rfl (lv_at hl 2 rfl) ?_
    replace h := o_b h; obtain ⟨x92, h92, h⟩ := h
    refine m_get (C := RX9) (T := TX9) (N := 9) (ci := 9) hx hb hts qi_X9_claim_X9 hown hK.1 hM 0 (ldR_F h92) rfl (by decide) (hts _ q_X9_claim_1) (fun _ h9 => h9) dX9_claim_92 ?_
    refine lv_iload hx hb dX9_claim_95 (lv_at hl 0 rfl) ?_
    replace h := o_b h; obtain ⟨_, k97, h⟩ := h
    replace h := o_b h; obtain ⟨q97, h97, h⟩ := h
    refine m_call (va_runV (As := [.int q35.1]) (rest := []) ⟨hx, hb, hml, hown, hts⟩ (c_X7_lowestOutside l D b0 sz h97) (cwV 1 hts gX9_claim_X7_lowestOutside rfl rfl rfl (by decide +kernel) ⟨Nat.le_of_ble_eq_true rfl, Nat.le_of_ble_eq_true rfl⟩) ⟨PW.blind, m_recv (ci := 7) rfl hK hM k97, (fun U hU hW => ⟨rfl, PW.call hK hM hS hU hW⟩)⟩ rfl rfl hl.1 rfl (lv_room (Nat.le_of_ble_eq_true rfl)) dX9_claim_97 ⟨(Nat.le_refl _), (Nat.le_refl _)⟩) hS (fun H locs hM hS => ?_)
    replace h := Option.some.inj h; subst h
    exact W.iret hx hb hr (fun t ht hW => ⟨rfl, by rw [ht]; exact hM.moved hW.alike, hS.F ht⟩) hS.2.2 dX9_claim_100
  replace h := o_f c41_1 h
  by_cases c41_2 : v2 = (2 : Int32)
  · replace h := o_t c41_2 h
    refine lv_tableIn (tgt := 101) hx hb dX9_claim_41 (by rw [c41_2]; decide) (by rw [c41_2]; decide) (by rw [c41_2]; rfl) (by decide) ?_
    refine lv_aload_n hx hb dX9_claim_101 rfl (lv_at hl 1 rfl) ?_
    replace h := o_b h; obtain ⟨x102, h102, h⟩ := h
    refine m_get (C := RX0) (T := TX0) (N := 2) (ci := 0) hx hb hts qi_X9_claim_X0 hown hK.1 hM 0 (ldI_F h102) rfl (by decide) (hts _ q_X9_claim_4) (fun _ h9 => h9) dX9_claim_102 ?_
    replace h := Option.some.inj h; subst h
    exact W.iret hx hb hr (fun t ht hW => ⟨rfl, by rw [ht]; exact hM.moved hW.alike, hS.F ht⟩) hS.2.2 dX9_claim_105
  replace h := o_f c41_2 h
  by_cases c41_3 : v2 = (3 : Int32)
  · replace h := o_t c41_3 h
    refine lv_tableIn (tgt := 106) hx hb dX9_claim_41 (by rw [c41_3]; decide) (by rw [c41_3]; decide) (by rw [c41_3]; rfl) (by decide) ?_
    refine lv_aload_n hx hb dX9_claim_106 rfl (lv_at hl 2 rfl) ?_
    replace h := o_b h; obtain ⟨x107, h107, h⟩ := h
    refine m_get (C := RX9) (T := TX9) (N := 9) (ci := 9) hx hb hts qi_X9_claim_X9 hown hK.1 hM 8 (ldR_F h107) rfl (by decide) (hts _ q_X9_claim_2) (fun _ h9 => h9) dX9_claim_107 ?_
    replace h := o_b h; obtain ⟨_, k110, h⟩ := h
    replace h := o_b h; obtain ⟨q110, h110, h⟩ := h
    refine m_call (va_runV (As := []) (rest := []) ⟨hx, hb, hml, hown, hts⟩ (c_X4_different l D b0 sz h110) (cwV 0 hts gX9_claim_X4_different rfl rfl rfl (by decide +kernel) ⟨Nat.le_of_ble_eq_true rfl, Nat.le_of_ble_eq_true rfl⟩) ⟨PW.blind, m_recv (ci := 4) rfl hK hM k110, (fun U hU hW => ⟨rfl, PW.call hK hM hS hU hW⟩)⟩ rfl rfl hl.1 rfl (lv_room (Nat.le_of_ble_eq_true rfl)) dX9_claim_110 ⟨(Nat.le_refl _), (Nat.le_refl _)⟩) hS (fun H locs hM hS => ?_)
    replace h := Option.some.inj h; subst h
    exact W.iret hx hb hr (fun t ht hW => ⟨rfl, by rw [ht]; exact hM.moved hW.alike, hS.F ht⟩) hS.2.2 dX9_claim_113
  replace h := o_f c41_3 h
  by_cases c41_4 : v2 = (4 : Int32)
  · replace h := o_t c41_4 h
    refine lv_tableIn (tgt := 114) hx hb dX9_claim_41 (by rw [c41_4]; decide) (by rw [c41_4]; decide) (by rw [c41_4]; rfl) (by decide) ?_
    refine lv_aload_n hx hb dX9_claim_114 rfl (lv_at hl 2 rfl) ?_
    replace h := o_b h; obtain ⟨x115, h115, h⟩ := h
    refine m_get (C := RX9) (T := TX9) (N := 9) (ci := 9) hx hb hts qi_X9_claim_X9 hown hK.1 hM 8 (ldR_F h115) rfl (by decide) (hts _ q_X9_claim_2) (fun _ h9 => h9) dX9_claim_115 ?_
    replace h := o_b h; obtain ⟨_, k118, h⟩ := h
    replace h := o_b h; obtain ⟨q118, h118, h⟩ := h
    refine m_call (va_runV (As := []) (rest := []) ⟨hx, hb, hml, hown, hts⟩ (c_X4_usedFacts l D b0 sz h118) (cwV 0 hts gX9_claim_X4_usedFacts rfl rfl rfl (by decide +kernel) ⟨Nat.le_of_ble_eq_true rfl, Nat.le_of_ble_eq_true rfl⟩) ⟨PW.blind, m_recv (ci := 4) rfl hK hM k118, (fun U hU hW => ⟨rfl, PW.call hK hM hS hU hW⟩)⟩ rfl rfl hl.1 rfl (lv_room (Nat.le_of_ble_eq_true rfl)) dX9_claim_118 ⟨(Nat.le_refl _), (Nat.le_refl _)⟩) hS (fun H locs hM hS => ?_)
    replace h := Option.some.inj h; subst h
    exact W.iret hx hb hr (fun t ht hW => ⟨rfl, by rw [ht]; exact hM.moved hW.alike, hS.F ht⟩) hS.2.2 dX9_claim_121
  replace h := o_f c41_4 h
  by_cases c41_5 : v2 = (5 : Int32)
  · replace h := o_t c41_5 h
    refine lv_tableIn (tgt := 122) hx hb dX9_claim_41 (by rw [c41_5]; decide) (by rw [c41_5]; decide) (by rw [c41_5]; rfl) (by decide) ?_
    refine lv_aload_n hx hb dX9_claim_122 rfl (lv_at hl 2 rfl) ?_
    replace h := o_b h; obtain ⟨x123, h123, h⟩ := h
    refine m_get (C := RX9) (T := TX9) (N := 9) (ci := 9) hx hb hts qi_X9_claim_X9 hown hK.1 hM 6 (ldR_F h123) rfl (by decide) (hts _ q_X9_claim_5) (fun _ h9 => h9) dX9_claim_123 ?_
    refine lv_iconst (v := (0 : Int32)) hx hb dX9_claim_126 (by decide) ?_
    refine lv_iload_n hx hb dX9_claim_127 rfl (lv_at hl 3 rfl) ?_
    replace h := o_b h; obtain ⟨_, k128, h⟩ := h
    replace h := o_b h; obtain ⟨q128, h128, h⟩ := h
    refine m_call (va_runV (As := [.int (0 : Int32), .int v1]) (rest := []) ⟨hx, hb, hml, hown, hts⟩ (c_X5_isFound l D b0 sz h128) (cwV 2 hts gX9_claim_X5_isFound rfl rfl rfl (by decide +kernel) ⟨Nat.le_of_ble_eq_true rfl, Nat.le_of_ble_eq_true rfl⟩) ⟨PW.blind, m_recv (ci := 5) rfl hK hM k128, (fun U hU hW => ⟨rfl, PW.call hK hM hS hU hW⟩)⟩ rfl rfl hl.1 rfl (lv_room (Nat.le_of_ble_eq_true rfl)) dX9_claim_128 ⟨(Nat.le_refl _), (Nat.le_refl _)⟩) hS (fun H locs hM hS => ?_)
    replace h := o_b h; obtain ⟨q131, h131, h⟩ := h
    refine m_call (va_runS (As := [.int q128.1]) (rest := []) ⟨hx, hb, hml, hown, hts⟩ (c_X9_truth l D b0 sz h131) (va_cwS 1 hts gX9_claim_X9_truth rfl rfl rfl (by decide +kernel) ⟨Nat.le_of_ble_eq_true rfl, Nat.le_of_ble_eq_true rfl⟩) ⟨PW.blind, (fun U hU hW => ⟨rfl, PW.call hK hM hS hU hW⟩)⟩ rfl rfl hl.1 rfl (lv_room (Nat.le_of_ble_eq_true rfl)) dX9_claim_131 ⟨(Nat.le_refl _), (Nat.le_refl _)⟩) hS (fun H locs hM hS => ?_)
    replace h := Option.some.inj h; subst h
    exact W.iret hx hb hr (fun t ht hW => ⟨rfl, by rw [ht]; exact hM.moved hW.alike, hS.F ht⟩) hS.2.2 dX9_claim_134
  replace h := o_f c41_5 h
  by_cases c41_6 : v2 = (6 : Int32)
  · replace h := o_t c41_6 h
    refine lv_tableIn (tgt := 135) hx hb dX9_claim_41 (by rw [c41_6]; decide) (by rw [c41_6]; decide) (by rw [c41_6]; rfl) (by decide) ?_
    refine lv_aload_n hx hb dX9_claim_135 rfl (lv_at hl 2 rfl) ?_
    replace h := o_b h; obtain ⟨x136, h136, h⟩ := h
    refine m_get (C := RX9) (T := TX9) (N := 9) (ci := 9) hx hb hts qi_X9_claim_X9 hown hK.1 hM 7 (ldR_F h136) rfl (by decide) (hts _ q_X9_claim_6) (fun _ h9 => h9) dX9_claim_136 ?_
    refine lv_iconst (v := (0 : Int32)) hx hb dX9_claim_139 (by decide) ?_
    refine lv_iload_n hx hb dX9_claim_140 rfl (lv_at hl 3 rfl) ?_
    replace h := o_b h; obtain ⟨_, k141, h⟩ := h
    replace h := o_b h; obtain ⟨q141, h141, h⟩ := h
    refine m_call (va_runV (As := [.int (0 : Int32), .int v1]) (rest := []) ⟨hx, hb, hml, hown, hts⟩ (c_X6_entailsPlainly l D b0 sz h141) (cwV 2 hts gX9_claim_X6_entailsPlainly rfl rfl rfl (by decide +kernel) ⟨Nat.le_of_ble_eq_true rfl, Nat.le_of_ble_eq_true rfl⟩) ⟨PW.blind, m_recv (ci := 6) rfl hK hM k141, (fun U hU hW => ⟨rfl, PW.call hK hM hS hU hW⟩)⟩ rfl rfl hl.1 rfl (lv_room (Nat.le_of_ble_eq_true rfl)) dX9_claim_141 ⟨(Nat.le_refl _), (Nat.le_refl _)⟩) hS (fun H locs hM hS => ?_)
    replace h := o_b h; obtain ⟨q144, h144, h⟩ := h
    refine m_call (va_runS (As := [.int q141]) (rest := []) ⟨hx, hb, hml, hown, hts⟩ (c_X9_truth l D b0 sz h144) (va_cwS 1 hts gX9_claim_X9_truth rfl rfl rfl (by decide +kernel) ⟨Nat.le_of_ble_eq_true rfl, Nat.le_of_ble_eq_true rfl⟩) ⟨PW.blind, (fun U hU hW => ⟨rfl, PW.call hK hM hS hU hW⟩)⟩ rfl rfl hl.1 rfl (lv_room (Nat.le_of_ble_eq_true rfl)) dX9_claim_144 ⟨(Nat.le_refl _), (Nat.le_refl _)⟩) hS (fun H locs hM hS => ?_)
    replace h := Option.some.inj h; subst h
    exact W.iret hx hb hr (fun t ht hW => ⟨rfl, by rw [ht]; exact hM.moved hW.alike, hS.F ht⟩) hS.2.2 dX9_claim_147
  replace h := o_f c41_6 h
  by_cases c41_7 : v2 = (7 : Int32)
  · replace h := o_t c41_7 h
    refine lv_tableIn (tgt := 148) hx hb dX9_claim_41 (by rw [c41_7]; decide) (by rw [c41_7]; decide) (by rw [c41_7]; rfl) (by decide) ?_
    refine lv_aload_n hx hb dX9_claim_148 rfl (lv_at hl 2 rfl) ?_
    replace h := o_b h; obtain ⟨x149, h149, h⟩ := h
    refine m_get (C := RX9) (T := TX9) (N := 9) (ci := 9) hx hb hts qi_X9_claim_X9 hown hK.1 hM 8 (ldR_F h149) rfl (by decide) (hts _ q_X9_claim_2) (fun _ h9 => h9) dX9_claim_149 ?_
    refine lv_iload_n hx hb dX9_claim_152 rfl (lv_at hl 3 rfl) ?_
    replace h := o_b h; obtain ⟨_, k153, h⟩ := h
    replace h := o_b h; obtain ⟨q153, h153, h⟩ := h
    refine m_call (va_runV (As := [.int v1]) (rest := []) ⟨hx, hb, hml, hown, hts⟩ (c_X4_depth l D b0 sz h153) (cwV 1 hts gX9_claim_X4_depth rfl rfl rfl (by decide +kernel) ⟨Nat.le_of_ble_eq_true rfl, Nat.le_of_ble_eq_true rfl⟩) ⟨PW.blind, m_recv (ci := 4) rfl hK hM k153, (fun U hU hW => ⟨rfl, PW.call hK hM hS hU hW⟩)⟩ rfl rfl hl.1 rfl (lv_room (Nat.le_of_ble_eq_true rfl)) dX9_claim_153 ⟨(Nat.le_refl _), (Nat.le_refl _)⟩) hS (fun H locs hM hS => ?_)
    replace h := Option.some.inj h; subst h
    exact W.iret hx hb hr (fun t ht hW => ⟨rfl, by rw [ht]; exact hM.moved hW.alike, hS.F ht⟩) hS.2.2 dX9_claim_156
  replace h := o_f c41_7 h
  refine lv_tableOut (tgt := 157) hx hb dX9_claim_41 (by have n0 := lv_neT c41_0 (a := 0) (by decide); have n1 := lv_neT c41_1 (a := 1) (by decide); have n2 := lv_neT c41_2 (a := 2) (by decide); have n3 := lv_neT c41_3 (a := 3) (by decide); have n4 := lv_neT c41_4 (a := 4) (by decide); have n5 := lv_neT c41_5 (a := 5) (by decide); have n6 := lv_neT c41_6 (a := 6) (by decide); have n7 := lv_neT c41_7 (a := 7) (by decide); omega) (by decide) ?_
  refine lv_bipush (v := (-2 : Int32)) hx hb dX9_claim_157 (by decide) ?_
  replace h := Option.some.inj h; subst h
  exact W.iret hx hb hr (fun t ht hW => ⟨rfl, by rw [ht]; exact hM.moved hW.alike, hS.F ht⟩) hS.2.2 dX9_claim_159
set_option maxHeartbeats 4000000 in
set_option maxRecDepth 100000 in
theorem c_X9_claim (l : Launch) (D : mmD) (b0 sz : Nat) {kn : Nat} (ek : kn = D.2 9) {v0 : Nat} {v1 : Int32} {v2 : Int32} {f : mmF} {res : Int32 × mmF} (h : f_X9_claim kn v0 v1 v2 f = some res) : Met l yX9_claim wsX9_claim ({ frames := 167, cells := 0, slots := 0, locals := 4971 } : Room) (va_Pc [.ref v0, .int v1, .int v2] (PW D b0 f sz)) (QW D b0 (some (.int res.1)) res.2 sz) 0 0 (fun q => b0 ≤ q) := by
  refine Met.ofW (cc := cX9_claim) (maxL := 5) (ret := (some .int)) (by decide) rfl ?_
  intro p e s m args below meth c s₁ B hml hv
  obtain ⟨rfl, hM, hK⟩ := hv
  have hl := lv_entry ([.ref v0, .int v1, .int v2]) (n := 5) (Nat.le_of_ble_eq_true rfl)
  rw [lg_entry_eq]
  generalize (lg_sl ([.ref v0, .int v1, .int v2]) ++ List.replicate (5 - (lg_sl ([.ref v0, .int v1, .int v2])).length) Slot.unset).toArray = ls at hl ⊢
  have hl : lv_has ls 5 [(0, .ref v0), (1, .int v1), (2, .int v2)] := hl
  exact w_X9_claim ⟨B.exec, B.bytes, B.returns, hml, findClass_of_methodNamed B.named, atoms_spec (ws := wsX9_claim) B.pre, B.notSynchronized, hK⟩ ek h s.heap [] ls hM va_S.rf hl
end S_X9_claim
