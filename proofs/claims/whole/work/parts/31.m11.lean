/-! X9_holds -/
set_option maxRecDepth 20000 in
theorem qi_X9_holds_X9 : ∀ w ∈ u_ws RX9 TX9 9, w ∈ wsX9_holds := by decide +kernel
set_option maxRecDepth 20000 in
theorem q_X9_holds_1 : Cond.fieldLink RX9 10 "StageTruths" "state" "LStageTruths$State;" ∈ wsX9_holds := by decide +kernel
noncomputable def f_X9_holds (v0 : Nat) (v1 : Int32) (v2 : Int32) (f : mmF) : Option (Int32 × mmF) :=
  (ckO f v0 9).bind fun _ =>
  (f_X9_claimAt v0 v1 f).bind fun q2 =>
  qc q2 (some ((-1 : Int32), f)) (fun r5 =>
  (ldR f v0 9 0).bind fun x9 =>
  (ckO f x9 7).bind fun _ =>
  (f_X7_isStage x9 v2 f).bind fun q13 =>
  if q13 = 0 then
  (some ((-1 : Int32), f))
  else
  (ckO f v0 9).bind fun _ =>
  (f_X9_stagesOf v0 v1 f).bind fun q23 =>
  (f_X9_has q23.1 v2 q23.2).bind fun q27 =>
  (f_X9_truth q27 q23.2).bind fun q30 =>
  some (q30, q23.2))
section S_X9_holds
variable {p : Program} {l : Launch} {e : Env} {s : State} {m : MethodId} {args : Array Value} {below : List Frame} {meth : Method} {c : Code} {D : mmD} {b0 sz : Nat} {f : mmF}
set_option maxHeartbeats 4000000 in
set_option maxRecDepth 100000 in
theorem w_X9_holds (C0 : CX cX9_holds 3 (some .int) wsX9_holds RX9 p s m args meth c D b0) {v0 : Nat} {v1 : Int32} {v2 : Int32} {res : Int32 × mmF} (h : f_X9_holds v0 v1 v2 f = some res) : ∀ (H : Heap) (locs : List Loc) (ls : Array Slot), MM vwCl D b0 f sz s H → mS b0 s H locs → lv_has ls 3 [(0, .ref v0), (1, .int v1), (2, .int v2)] → W p l e ({ frames := 4, cells := 0, slots := 0, locals := 94 } : Room) s m args below meth c H locs 0 0 (MQ below (QW D b0 (some (.int res.1)) res.2 sz) args s 0 0 (fun q => b0 ≤ q)) (F0 m 0 ls []) := by
  obtain ⟨hx, hb, hr, hml, hown, hts, hlocks, hK⟩ := id C0
  intro H locs ls hM hS hl
  unfold f_X9_holds at h
  refine lv_aload_n hx hb dX9_holds_0 rfl (lv_at hl 0 rfl) ?_
  refine lv_iload_n hx hb dX9_holds_1 rfl (lv_at hl 1 rfl) ?_
  replace h := o_b h; obtain ⟨_, k2, h⟩ := h
  replace h := o_b h; obtain ⟨q2, h2, h⟩ := h
  refine m_call (va_runV (As := [.int v1]) (rest := []) ⟨hx, hb, hml, hown, hts⟩ (c_X9_claimAt l D b0 sz h2) (cwV 1 hts gX9_holds_X9_claimAt rfl rfl rfl (by decide +kernel) ⟨Nat.le_of_ble_eq_true rfl, Nat.le_of_ble_eq_true rfl⟩) ⟨PW.blind, m_recv (ci := 9) rfl hK hM k2, (fun U hU hW => ⟨rfl, PW.call hK hM hS hU hW⟩)⟩ rfl rfl hl.1 rfl (lv_room (Nat.le_of_ble_eq_true rfl)) dX9_holds_2 ⟨(Nat.le_refl _), (Nat.le_refl _)⟩) hS (fun H locs hM hS => ?_)
  rcases q2 with _ | r5
  · replace h := qc_n h
    refine lv_ifnullN (tgt := 19) hx hb dX9_holds_5 (by decide) ?_
    refine lv_iconst (v := (-1 : Int32)) hx hb dX9_holds_19 (by decide) ?_
    replace h := Option.some.inj h; subst h
    exact W.iret hx hb hr (fun t ht hW => ⟨rfl, by rw [ht]; exact hM.moved hW.alike, hS.F ht⟩) hS.2.2 dX9_holds_20
  replace h := qc_s h
  refine lv_ifnull hx hb dX9_holds_5 ?_
  refine lv_aload_n hx hb dX9_holds_8 rfl (lv_at hl 0 rfl) ?_
  replace h := o_b h; obtain ⟨x9, h9, h⟩ := h
  refine m_get (C := RX9) (T := TX9) (N := 9) (ci := 9) hx hb hts qi_X9_holds_X9 hown hK.1 hM 0 (ldR_F h9) rfl (by decide) (hts _ q_X9_holds_1) (fun _ h9 => h9) dX9_holds_9 ?_
  refine lv_iload_n hx hb dX9_holds_12 rfl (lv_at hl 2 rfl) ?_
  replace h := o_b h; obtain ⟨_, k13, h⟩ := h
  replace h := o_b h; obtain ⟨q13, h13, h⟩ := h
  refine m_call (va_runV (As := [.int v2]) (rest := []) ⟨hx, hb, hml, hown, hts⟩ (c_X7_isStage l D b0 sz h13) (cwV 1 hts gX9_holds_X7_isStage rfl rfl rfl (by decide +kernel) ⟨Nat.le_of_ble_eq_true rfl, Nat.le_of_ble_eq_true rfl⟩) ⟨PW.blind, m_recv (ci := 7) rfl hK hM k13, (fun U hU hW => ⟨rfl, PW.call hK hM hS hU hW⟩)⟩ rfl rfl hl.1 rfl (lv_room (Nat.le_of_ble_eq_true rfl)) dX9_holds_13 ⟨(Nat.le_refl _), (Nat.le_refl _)⟩) hS (fun H locs hM hS => ?_)
  refine lv_if_ne (tgt := 21) hx hb dX9_holds_16 (by decide) (fun c16 => ?_) (fun c16 => ?_)
  · replace h := o_f c16 h
    refine lv_aload_n hx hb dX9_holds_21 rfl (lv_at hl 0 rfl) ?_
    refine lv_iload_n hx hb dX9_holds_22 rfl (lv_at hl 1 rfl) ?_
    replace h := o_b h; obtain ⟨_, k23, h⟩ := h
    replace h := o_b h; obtain ⟨q23, h23, h⟩ := h
    refine m_call (va_runV (As := [.int v1]) (rest := []) ⟨hx, hb, hml, hown, hts⟩ (c_X9_stagesOf l D b0 sz h23) (cwV 1 hts gX9_holds_X9_stagesOf rfl rfl rfl (by decide +kernel) ⟨Nat.le_of_ble_eq_true rfl, Nat.le_of_ble_eq_true rfl⟩) ⟨PW.blind, m_recv (ci := 9) rfl hK hM k23, (fun U hU hW => ⟨rfl, PW.call hK hM hS hU hW⟩)⟩ rfl rfl hl.1 rfl (lv_room (Nat.le_of_ble_eq_true rfl)) dX9_holds_23 ⟨(Nat.le_refl _), (Nat.le_refl _)⟩) hS (fun H locs hM hS => ?_)
    refine lv_iload_n hx hb dX9_holds_26 rfl (lv_at hl 2 rfl) ?_
    replace h := o_b h; obtain ⟨q27, h27, h⟩ := h
    refine m_call (va_runS (As := [.int q23.1, .int v2]) (rest := []) ⟨hx, hb, hml, hown, hts⟩ (c_X9_has l D b0 sz h27) (va_cwS 2 hts gX9_holds_X9_has rfl rfl rfl (by decide +kernel) ⟨Nat.le_of_ble_eq_true rfl, Nat.le_of_ble_eq_true rfl⟩) ⟨PW.blind, (fun U hU hW => ⟨rfl, PW.call hK hM hS hU hW⟩)⟩ rfl rfl hl.1 rfl (lv_room (Nat.le_of_ble_eq_true rfl)) dX9_holds_27 ⟨(Nat.le_refl _), (Nat.le_refl _)⟩) hS (fun H locs hM hS => ?_)
    replace h := o_b h; obtain ⟨q30, h30, h⟩ := h
    refine m_call (va_runS (As := [.int q27]) (rest := []) ⟨hx, hb, hml, hown, hts⟩ (c_X9_truth l D b0 sz h30) (va_cwS 1 hts gX9_holds_X9_truth rfl rfl rfl (by decide +kernel) ⟨Nat.le_of_ble_eq_true rfl, Nat.le_of_ble_eq_true rfl⟩) ⟨PW.blind, (fun U hU hW => ⟨rfl, PW.call hK hM hS hU hW⟩)⟩ rfl rfl hl.1 rfl (lv_room (Nat.le_of_ble_eq_true rfl)) dX9_holds_30 ⟨(Nat.le_refl _), (Nat.le_refl _)⟩) hS (fun H locs hM hS => ?_)
    replace h := Option.some.inj h; subst h
    exact W.iret hx hb hr (fun t ht hW => ⟨rfl, by rw [ht]; exact hM.moved hW.alike, hS.F ht⟩) hS.2.2 dX9_holds_33
  replace h := o_t c16 h
  refine lv_iconst (v := (-1 : Int32)) hx hb dX9_holds_19 (by decide) ?_
  replace h := Option.some.inj h; subst h
  exact W.iret hx hb hr (fun t ht hW => ⟨rfl, by rw [ht]; exact hM.moved hW.alike, hS.F ht⟩) hS.2.2 dX9_holds_20
set_option maxHeartbeats 4000000 in
set_option maxRecDepth 100000 in
theorem c_X9_holds (l : Launch) (D : mmD) (b0 sz : Nat) {v0 : Nat} {v1 : Int32} {v2 : Int32} {f : mmF} {res : Int32 × mmF} (h : f_X9_holds v0 v1 v2 f = some res) : Met l yX9_holds wsX9_holds ({ frames := 4, cells := 0, slots := 0, locals := 94 } : Room) (va_Pc [.ref v0, .int v1, .int v2] (PW D b0 f sz)) (QW D b0 (some (.int res.1)) res.2 sz) 0 0 (fun q => b0 ≤ q) := by
  refine Met.ofW (cc := cX9_holds) (maxL := 3) (ret := (some .int)) (by decide) rfl ?_
  intro p e s m args below meth c s₁ B hml hv
  obtain ⟨rfl, hM, hK⟩ := hv
  have hl := lv_entry ([.ref v0, .int v1, .int v2]) (n := 3) (Nat.le_of_ble_eq_true rfl)
  rw [lg_entry_eq]
  generalize (lg_sl ([.ref v0, .int v1, .int v2]) ++ List.replicate (3 - (lg_sl ([.ref v0, .int v1, .int v2])).length) Slot.unset).toArray = ls at hl ⊢
  have hl : lv_has ls 3 [(0, .ref v0), (1, .int v1), (2, .int v2)] := hl
  exact w_X9_holds ⟨B.exec, B.bytes, B.returns, hml, findClass_of_methodNamed B.named, atoms_spec (ws := wsX9_holds) B.pre, B.notSynchronized, hK⟩ h s.heap [] ls hM va_S.rf hl
end S_X9_holds
/-! X9_questionError -/
set_option maxRecDepth 20000 in
theorem qi_X9_questionError_X9 : ∀ w ∈ u_ws RX9 TX9 9, w ∈ wsX9_questionError := by decide +kernel
set_option maxRecDepth 20000 in
theorem q_X9_questionError_1 : Cond.fieldLink RX9 10 "StageTruths" "state" "LStageTruths$State;" ∈ wsX9_questionError := by decide +kernel
noncomputable def f_X9_questionError (v0 : Nat) (v1 : Int32) (v2 : Int32) (f : mmF) : Option (Int32) :=
  if v1 < 0 then
  (some ((-2 : Int32)))
  else
  if (32 : Int32) ≤ v1 then
  (some ((-2 : Int32)))
  else
  (ldR f v0 9 0).bind fun x12 =>
  (ckO f x12 7).bind fun _ =>
  (f_X7_filledPlaces x12 f).bind fun q15 =>
  if (v1 &&& (q15 ^^^ (-1 : Int32))) = 0 then
  ((ckO f v0 9).bind fun _ =>
  (f_X9_claimAt v0 v2 f).bind fun q29 =>
  qc q29 (some ((-1 : Int32))) (fun r32 =>
  some ((0 : Int32))))
  else
  some ((-2 : Int32))
section S_X9_questionError
variable {p : Program} {l : Launch} {e : Env} {s : State} {m : MethodId} {args : Array Value} {below : List Frame} {meth : Method} {c : Code} {D : mmD} {b0 sz : Nat} {f : mmF}
set_option maxHeartbeats 4000000 in
set_option maxRecDepth 100000 in
theorem w_X9_questionError (C0 : CX cX9_questionError 3 (some .int) wsX9_questionError RX9 p s m args meth c D b0) {v0 : Nat} {v1 : Int32} {v2 : Int32} {res : Int32} (h : f_X9_questionError v0 v1 v2 f = some res) : ∀ (H : Heap) (locs : List Loc) (ls : Array Slot), MM vwCl D b0 f sz s H → mS b0 s H locs → lv_has ls 3 [(0, .ref v0), (1, .int v1), (2, .int v2)] → W p l e ({ frames := 2, cells := 0, slots := 0, locals := 41 } : Room) s m args below meth c H locs 0 0 (MQ below (QW D b0 (some (.int res)) f sz) args s 0 0 (fun q => b0 ≤ q)) (F0 m 0 ls []) := by
  obtain ⟨hx, hb, hr, hml, hown, hts, hlocks, hK⟩ := id C0
  intro H locs ls hM hS hl
  unfold f_X9_questionError at h
  refine lv_iload_n hx hb dX9_questionError_0 rfl (lv_at hl 1 rfl) ?_
  refine lv_if_lt (tgt := 24) hx hb dX9_questionError_1 (by decide) (fun c1 => ?_) (fun c1 => ?_)
  · replace h := o_t c1 h
    refine lv_bipush (v := (-2 : Int32)) hx hb dX9_questionError_24 (by decide) ?_
    replace h := Option.some.inj h; subst h
    exact W.iret hx hb hr (fun t ht hW => ⟨rfl, by rw [ht]; exact hM.moved hW.alike, hS.F ht⟩) hS.2.2 dX9_questionError_26
  replace h := o_f c1 h
  refine lv_iload_n hx hb dX9_questionError_4 rfl (lv_at hl 1 rfl) ?_
  refine lv_bipush (v := (32 : Int32)) hx hb dX9_questionError_5 (by decide) ?_
  refine lv_icmp_ge (tgt := 24) hx hb dX9_questionError_7 (by decide) (fun c7 => ?_) (fun c7 => ?_)
  · replace h := o_t c7 h
    refine lv_bipush (v := (-2 : Int32)) hx hb dX9_questionError_24 (by decide) ?_
    replace h := Option.some.inj h; subst h
    exact W.iret hx hb hr (fun t ht hW => ⟨rfl, by rw [ht]; exact hM.moved hW.alike, hS.F ht⟩) hS.2.2 dX9_questionError_26
  replace h := o_f c7 h
  refine lv_iload_n hx hb dX9_questionError_10 rfl (lv_at hl 1 rfl) ?_
  refine lv_aload_n hx hb dX9_questionError_11 rfl (lv_at hl 0 rfl) ?_
  replace h := o_b h; obtain ⟨x12, h12, h⟩ := h
  refine m_get (C := RX9) (T := TX9) (N := 9) (ci := 9) hx hb hts qi_X9_questionError_X9 hown hK.1 hM 0 (ldR_F h12) rfl (by decide) (hts _ q_X9_questionError_1) (fun _ h9 => h9) dX9_questionError_12 ?_
  replace h := o_b h; obtain ⟨_, k15, h⟩ := h
  replace h := o_b h; obtain ⟨q15, h15, h⟩ := h
  refine m_call (va_runV (As := []) (rest := [.int v1]) ⟨hx, hb, hml, hown, hts⟩ (c_X7_filledPlaces l D b0 sz h15) (cwV 0 hts gX9_questionError_X7_filledPlaces rfl rfl rfl (by decide +kernel) ⟨Nat.le_of_ble_eq_true rfl, Nat.le_of_ble_eq_true rfl⟩) ⟨PW.blind, m_recv (ci := 7) rfl hK hM k15, (fun U hU hW => ⟨rfl, PW.call hK hM hS hU hW⟩)⟩ rfl rfl hl.1 rfl (lv_room (Nat.le_of_ble_eq_true rfl)) dX9_questionError_15 ⟨(Nat.le_refl _), (Nat.le_refl _)⟩) hS (fun H locs hM hS => ?_)
  refine lv_iconst (v := (-1 : Int32)) hx hb dX9_questionError_18 (by decide) ?_
  refine lv_ixor hx hb dX9_questionError_19 ?_
  refine lv_iand hx hb dX9_questionError_20 ?_
  refine lv_if_eq (tgt := 27) hx hb dX9_questionError_21 (by decide) (fun c21 => ?_) (fun c21 => ?_)
  · replace h := o_t c21 h
    refine lv_aload_n hx hb dX9_questionError_27 rfl (lv_at hl 0 rfl) ?_
    refine lv_iload_n hx hb dX9_questionError_28 rfl (lv_at hl 2 rfl) ?_
    replace h := o_b h; obtain ⟨_, k29, h⟩ := h
    replace h := o_b h; obtain ⟨q29, h29, h⟩ := h
    refine m_call (va_runV (As := [.int v2]) (rest := []) ⟨hx, hb, hml, hown, hts⟩ (c_X9_claimAt l D b0 sz h29) (cwV 1 hts gX9_questionError_X9_claimAt rfl rfl rfl (by decide +kernel) ⟨Nat.le_of_ble_eq_true rfl, Nat.le_of_ble_eq_true rfl⟩) ⟨PW.blind, m_recv (ci := 9) rfl hK hM k29, (fun U hU hW => ⟨rfl, PW.call hK hM hS hU hW⟩)⟩ rfl rfl hl.1 rfl (lv_room (Nat.le_of_ble_eq_true rfl)) dX9_questionError_29 ⟨(Nat.le_refl _), (Nat.le_refl _)⟩) hS (fun H locs hM hS => ?_)
    rcases q29 with _ | r32
    · replace h := qc_n h
      refine lv_ifnonnullN hx hb dX9_questionError_32 ?_
      refine lv_iconst (v := (-1 : Int32)) hx hb dX9_questionError_35 (by decide) ?_
      refine lv_goto (tgt := 40) hx hb dX9_questionError_36 (by decide) ?_
      replace h := Option.some.inj h; subst h
      exact W.iret hx hb hr (fun t ht hW => ⟨rfl, by rw [ht]; exact hM.moved hW.alike, hS.F ht⟩) hS.2.2 dX9_questionError_40
    replace h := qc_s h
    refine lv_ifnonnull (tgt := 39) hx hb dX9_questionError_32 (by decide) ?_
    refine lv_iconst (v := (0 : Int32)) hx hb dX9_questionError_39 (by decide) ?_
    replace h := Option.some.inj h; subst h
    exact W.iret hx hb hr (fun t ht hW => ⟨rfl, by rw [ht]; exact hM.moved hW.alike, hS.F ht⟩) hS.2.2 dX9_questionError_40
  replace h := o_f c21 h
  refine lv_bipush (v := (-2 : Int32)) hx hb dX9_questionError_24 (by decide) ?_
  replace h := Option.some.inj h; subst h
  exact W.iret hx hb hr (fun t ht hW => ⟨rfl, by rw [ht]; exact hM.moved hW.alike, hS.F ht⟩) hS.2.2 dX9_questionError_26
set_option maxHeartbeats 4000000 in
set_option maxRecDepth 100000 in
theorem c_X9_questionError (l : Launch) (D : mmD) (b0 sz : Nat) {v0 : Nat} {v1 : Int32} {v2 : Int32} {f : mmF} {res : Int32} (h : f_X9_questionError v0 v1 v2 f = some res) : Met l yX9_questionError wsX9_questionError ({ frames := 2, cells := 0, slots := 0, locals := 41 } : Room) (va_Pc [.ref v0, .int v1, .int v2] (PW D b0 f sz)) (QW D b0 (some (.int res)) f sz) 0 0 (fun q => b0 ≤ q) := by
  refine Met.ofW (cc := cX9_questionError) (maxL := 3) (ret := (some .int)) (by decide) rfl ?_
  intro p e s m args below meth c s₁ B hml hv
  obtain ⟨rfl, hM, hK⟩ := hv
  have hl := lv_entry ([.ref v0, .int v1, .int v2]) (n := 3) (Nat.le_of_ble_eq_true rfl)
  rw [lg_entry_eq]
  generalize (lg_sl ([.ref v0, .int v1, .int v2]) ++ List.replicate (3 - (lg_sl ([.ref v0, .int v1, .int v2])).length) Slot.unset).toArray = ls at hl ⊢
  have hl : lv_has ls 3 [(0, .ref v0), (1, .int v1), (2, .int v2)] := hl
  exact w_X9_questionError ⟨B.exec, B.bytes, B.returns, hml, findClass_of_methodNamed B.named, atoms_spec (ws := wsX9_questionError) B.pre, B.notSynchronized, hK⟩ h s.heap [] ls hM va_S.rf hl
end S_X9_questionError
/-! X9_follows -/
set_option maxRecDepth 20000 in
theorem qi_X9_follows_X9 : ∀ w ∈ u_ws RX9 TX9 9, w ∈ wsX9_follows := by decide +kernel
set_option maxRecDepth 20000 in
theorem q_X9_follows_1 : Cond.fieldLink RX9 41 "StageTruths" "proof" "LStageTruths$Proof;" ∈ wsX9_follows := by decide +kernel
noncomputable def f_X9_follows (kn : Nat) (v0 : Nat) (v1 : Int32) (v2 : Int32) (f : mmF) : Option (Int32 × mmF) :=
  (ckO f v0 9).bind fun _ =>
  (f_X9_questionError v0 v1 v2 f).bind fun q3 =>
  if q3 = 0 then
  ((ckO f v0 9).bind fun _ =>
  (f_X9_lookAt kn v0 (v1 ||| ((1 : Int32) <<< (v2 &&& 31))) f).bind fun q19 =>
  (ldR q19 v0 9 6).bind fun x23 =>
  (ckO q19 x23 5).bind fun _ =>
  (f_X5_isFound x23 v1 v2 q19).bind fun q28 =>
  (f_X9_truth q28.1 q28.2).bind fun q31 =>
  some (q31, q28.2))
  else
  some (q3, f)
section S_X9_follows
variable {p : Program} {l : Launch} {e : Env} {s : State} {m : MethodId} {args : Array Value} {below : List Frame} {meth : Method} {c : Code} {D : mmD} {b0 sz : Nat} {f : mmF}
set_option maxHeartbeats 4000000 in
set_option maxRecDepth 100000 in
theorem w_X9_follows (C0 : CX cX9_follows 4 (some .int) wsX9_follows RX9 p s m args meth c D b0) {v0 : Nat} {v1 : Int32} {v2 : Int32} {kn : Nat} (ek : kn = D.2 9) {res : Int32 × mmF} (h : f_X9_follows kn v0 v1 v2 f = some res) : ∀ (H : Heap) (locs : List Loc) (ls : Array Slot), MM vwCl D b0 f sz s H → mS b0 s H locs → lv_has ls 4 [(0, .ref v0), (1, .int v1), (2, .int v2)] → W p l e ({ frames := 167, cells := 0, slots := 0, locals := 4971 } : Room) s m args below meth c H locs 0 0 (MQ below (QW D b0 (some (.int res.1)) res.2 sz) args s 0 0 (fun q => b0 ≤ q)) (F0 m 0 ls []) := by
  obtain ⟨hx, hb, hr, hml, hown, hts, hlocks, hK⟩ := id C0
  intro H locs ls hM hS hl
  unfold f_X9_follows at h
  refine lv_aload_n hx hb dX9_follows_0 rfl (lv_at hl 0 rfl) ?_
  refine lv_iload_n hx hb dX9_follows_1 rfl (lv_at hl 1 rfl) ?_
  refine lv_iload_n hx hb dX9_follows_2 rfl (lv_at hl 2 rfl) ?_
  replace h := o_b h; obtain ⟨_, k3, h⟩ := h
  replace h := o_b h; obtain ⟨q3, h3, h⟩ := h
  refine m_call (va_runV (As := [.int v1, .int v2]) (rest := []) ⟨hx, hb, hml, hown, hts⟩ (c_X9_questionError l D b0 sz h3) (cwV 2 hts gX9_follows_X9_questionError rfl rfl rfl (by decide +kernel) ⟨Nat.le_of_ble_eq_true rfl, Nat.le_of_ble_eq_true rfl⟩) ⟨PW.blind, m_recv (ci := 9) rfl hK hM k3, (fun U hU hW => ⟨rfl, PW.call hK hM hS hU hW⟩)⟩ rfl rfl hl.1 rfl (lv_room (Nat.le_of_ble_eq_true rfl)) dX9_follows_3 ⟨(Nat.le_refl _), (Nat.le_refl _)⟩) hS (fun H locs hM hS => ?_)
  refine lv_istore_n (lv' := [(3, .int q3), (0, .ref v0), (1, .int v1), (2, .int v2)]) hx hb dX9_follows_6 rfl hl (by decide) rfl (fun ls hl => ?_)
  refine lv_iload_n hx hb dX9_follows_7 rfl (lv_at hl 0 rfl) ?_
  refine lv_if_eq (tgt := 13) hx hb dX9_follows_8 (by decide) (fun c8 => ?_) (fun c8 => ?_)
  · replace h := o_t c8 h
    refine lv_aload_n hx hb dX9_follows_13 rfl (lv_at hl 1 rfl) ?_
    refine lv_iload_n hx hb dX9_follows_14 rfl (lv_at hl 2 rfl) ?_
    refine lv_iconst (v := (1 : Int32)) hx hb dX9_follows_15 (by decide) ?_
    refine lv_iload_n hx hb dX9_follows_16 rfl (lv_at hl 3 rfl) ?_
    refine lv_ishl hx hb dX9_follows_17 ?_
    refine lv_ior hx hb dX9_follows_18 ?_
    replace h := o_b h; obtain ⟨_, k19, h⟩ := h
    replace h := o_b h; obtain ⟨q19, h19, h⟩ := h
    refine m_call (va_runV (As := [.int (v1 ||| ((1 : Int32) <<< (v2 &&& 31)))]) (rest := []) ⟨hx, hb, hml, hown, hts⟩ (c_X9_lookAt l D b0 sz ek h19) (cwV 1 hts gX9_follows_X9_lookAt rfl rfl rfl (by decide +kernel) ⟨Nat.le_of_ble_eq_true rfl, Nat.le_of_ble_eq_true rfl⟩) ⟨PW.blind, m_recv (ci := 9) rfl hK hM k19, (fun U hU hW => ⟨rfl, PW.call hK hM hS hU hW⟩)⟩ rfl rfl hl.1 rfl (lv_room (Nat.le_of_ble_eq_true rfl)) dX9_follows_19 ⟨(Nat.le_refl _), (Nat.le_refl _)⟩) hS (fun H locs hM hS => ?_)
    refine lv_aload_n hx hb dX9_follows_22 rfl (lv_at hl 1 rfl) ?_
    replace h := o_b h; obtain ⟨x23, h23, h⟩ := h
    refine m_get (C := RX9) (T := TX9) (N := 9) (ci := 9) hx hb hts qi_X9_follows_X9 hown hK.1 hM 6 (ldR_F h23) rfl (by decide) (hts _ q_X9_follows_1) (fun _ h9 => h9) dX9_follows_23 ?_
    refine lv_iload_n hx hb dX9_follows_26 rfl (lv_at hl 2 rfl) ?_
    refine lv_iload_n hx hb dX9_follows_27 rfl (lv_at hl 3 rfl) ?_
    replace h := o_b h; obtain ⟨_, k28, h⟩ := h
    replace h := o_b h; obtain ⟨q28, h28, h⟩ := h
    refine m_call (va_runV (As := [.int v1, .int v2]) (rest := []) ⟨hx, hb, hml, hown, hts⟩ (c_X5_isFound l D b0 sz h28) (cwV 2 hts gX9_follows_X5_isFound rfl rfl rfl (by decide +kernel) ⟨Nat.le_of_ble_eq_true rfl, Nat.le_of_ble_eq_true rfl⟩) ⟨PW.blind, m_recv (ci := 5) rfl hK hM k28, (fun U hU hW => ⟨rfl, PW.call hK hM hS hU hW⟩)⟩ rfl rfl hl.1 rfl (lv_room (Nat.le_of_ble_eq_true rfl)) dX9_follows_28 ⟨(Nat.le_refl _), (Nat.le_refl _)⟩) hS (fun H locs hM hS => ?_)
    replace h := o_b h; obtain ⟨q31, h31, h⟩ := h
    refine m_call (va_runS (As := [.int q28.1]) (rest := []) ⟨hx, hb, hml, hown, hts⟩ (c_X9_truth l D b0 sz h31) (va_cwS 1 hts gX9_follows_X9_truth rfl rfl rfl (by decide +kernel) ⟨Nat.le_of_ble_eq_true rfl, Nat.le_of_ble_eq_true rfl⟩) ⟨PW.blind, (fun U hU hW => ⟨rfl, PW.call hK hM hS hU hW⟩)⟩ rfl rfl hl.1 rfl (lv_room (Nat.le_of_ble_eq_true rfl)) dX9_follows_31 ⟨(Nat.le_refl _), (Nat.le_refl _)⟩) hS (fun H locs hM hS => ?_)
    replace h := Option.some.inj h; subst h
    exact W.iret hx hb hr (fun t ht hW => ⟨rfl, by rw [ht]; exact hM.moved hW.alike, hS.F ht⟩) hS.2.2 dX9_follows_34
  replace h := o_f c8 h
  refine lv_iload_n hx hb dX9_follows_11 rfl (lv_at hl 0 rfl) ?_
  replace h := Option.some.inj h; subst h
  exact W.iret hx hb hr (fun t ht hW => ⟨rfl, by rw [ht]; exact hM.moved hW.alike, hS.F ht⟩) hS.2.2 dX9_follows_12
set_option maxHeartbeats 4000000 in
set_option maxRecDepth 100000 in
theorem c_X9_follows (l : Launch) (D : mmD) (b0 sz : Nat) {kn : Nat} (ek : kn = D.2 9) {v0 : Nat} {v1 : Int32} {v2 : Int32} {f : mmF} {res : Int32 × mmF} (h : f_X9_follows kn v0 v1 v2 f = some res) : Met l yX9_follows wsX9_follows ({ frames := 167, cells := 0, slots := 0, locals := 4971 } : Room) (va_Pc [.ref v0, .int v1, .int v2] (PW D b0 f sz)) (QW D b0 (some (.int res.1)) res.2 sz) 0 0 (fun q => b0 ≤ q) := by
  refine Met.ofW (cc := cX9_follows) (maxL := 4) (ret := (some .int)) (by decide) rfl ?_
  intro p e s m args below meth c s₁ B hml hv
  obtain ⟨rfl, hM, hK⟩ := hv
  have hl := lv_entry ([.ref v0, .int v1, .int v2]) (n := 4) (Nat.le_of_ble_eq_true rfl)
  rw [lg_entry_eq]
  generalize (lg_sl ([.ref v0, .int v1, .int v2]) ++ List.replicate (4 - (lg_sl ([.ref v0, .int v1, .int v2])).length) Slot.unset).toArray = ls at hl ⊢
  have hl : lv_has ls 4 [(0, .ref v0), (1, .int v1), (2, .int v2)] := hl
  exact w_X9_follows ⟨B.exec, B.bytes, B.returns, hml, findClass_of_methodNamed B.named, atoms_spec (ws := wsX9_follows) B.pre, B.notSynchronized, hK⟩ ek h s.heap [] ls hM va_S.rf hl
end S_X9_follows
/-! X9_followsPlainly -/
set_option maxRecDepth 20000 in
theorem qi_X9_followsPlainly_X9 : ∀ w ∈ u_ws RX9 TX9 9, w ∈ wsX9_followsPlainly := by decide +kernel
set_option maxRecDepth 20000 in
theorem q_X9_followsPlainly_1 : Cond.fieldLink RX9 49 "StageTruths" "models" "LStageTruths$SmallModels;" ∈ wsX9_followsPlainly := by decide +kernel
noncomputable def f_X9_followsPlainly (kn : Nat) (v0 : Nat) (v1 : Int32) (v2 : Int32) (f : mmF) : Option (Int32 × mmF) :=
  (ckO f v0 9).bind fun _ =>
  (f_X9_questionError v0 v1 v2 f).bind fun q3 =>
  if q3 = 0 then
  ((ckO f v0 9).bind fun _ =>
  (f_X9_lookAt kn v0 (v1 ||| ((1 : Int32) <<< (v2 &&& 31))) f).bind fun q19 =>
  (ldR q19 v0 9 7).bind fun x23 =>
  (ckO q19 x23 6).bind fun _ =>
  (f_X6_entailsPlainly x23 v1 v2 q19).bind fun q28 =>
  (f_X9_truth q28 q19).bind fun q31 =>
  some (q31, q19))
  else
  some (q3, f)
section S_X9_followsPlainly
variable {p : Program} {l : Launch} {e : Env} {s : State} {m : MethodId} {args : Array Value} {below : List Frame} {meth : Method} {c : Code} {D : mmD} {b0 sz : Nat} {f : mmF}
set_option maxHeartbeats 4000000 in
set_option maxRecDepth 100000 in
theorem w_X9_followsPlainly (C0 : CX cX9_followsPlainly 4 (some .int) wsX9_followsPlainly RX9 p s m args meth c D b0) {v0 : Nat} {v1 : Int32} {v2 : Int32} {kn : Nat} (ek : kn = D.2 9) {res : Int32 × mmF} (h : f_X9_followsPlainly kn v0 v1 v2 f = some res) : ∀ (H : Heap) (locs : List Loc) (ls : Array Slot), MM vwCl D b0 f sz s H → mS b0 s H locs → lv_has ls 4 [(0, .ref v0), (1, .int v1), (2, .int v2)] → W p l e ({ frames := 5, cells := 0, slots := 0, locals := 111 } : Room) s m args below meth c H locs 0 0 (MQ below (QW D b0 (some (.int res.1)) res.2 sz) args s 0 0 (fun q => b0 ≤ q)) (F0 m 0 ls []) := by
  obtain ⟨hx, hb, hr, hml, hown, hts, hlocks, hK⟩ := id C0
  intro H locs ls hM hS hl
  unfold f_X9_followsPlainly at h
  refine lv_aload_n hx hb dX9_followsPlainly_0 rfl (lv_at hl 0 rfl) ?_
  refine lv_iload_n hx hb dX9_followsPlainly_1 rfl (lv_at hl 1 rfl) ?_
  refine lv_iload_n hx hb dX9_followsPlainly_2 rfl (lv_at hl 2 rfl) ?_
  replace h := o_b h; obtain ⟨_, k3, h⟩ := h
  replace h := o_b h; obtain ⟨q3, h3, h⟩ := h
  refine m_call (va_runV (As := [.int v1, .int v2]) (rest := []) ⟨hx, hb, hml, hown, hts⟩ (c_X9_questionError l D b0 sz h3) (cwV 2 hts gX9_followsPlainly_X9_questionError rfl rfl rfl (by decide +kernel) ⟨Nat.le_of_ble_eq_true rfl, Nat.le_of_ble_eq_true rfl⟩) ⟨PW.blind, m_recv (ci := 9) rfl hK hM k3, (fun U hU hW => ⟨rfl, PW.call hK hM hS hU hW⟩)⟩ rfl rfl hl.1 rfl (lv_room (Nat.le_of_ble_eq_true rfl)) dX9_followsPlainly_3 ⟨(Nat.le_refl _), (Nat.le_refl _)⟩) hS (fun H locs hM hS => ?_)
  refine lv_istore_n (lv' := [(3, .int q3), (0, .ref v0), (1, .int v1), (2, .int v2)]) hx hb dX9_followsPlainly_6 rfl hl (by decide) rfl (fun ls hl => ?_)
  refine lv_iload_n hx hb dX9_followsPlainly_7 rfl (lv_at hl 0 rfl) ?_
  refine lv_if_eq (tgt := 13) hx hb dX9_followsPlainly_8 (by decide) (fun c8 => ?_) (fun c8 => ?_)
  · replace h := o_t c8 h
    refine lv_aload_n hx hb dX9_followsPlainly_13 rfl (lv_at hl 1 rfl) ?_
    refine lv_iload_n hx hb dX9_followsPlainly_14 rfl (lv_at hl 2 rfl) ?_
    refine lv_iconst (v := (1 : Int32)) hx hb dX9_followsPlainly_15 (by decide) ?_
    refine lv_iload_n hx hb dX9_followsPlainly_16 rfl (lv_at hl 3 rfl) ?_
    refine lv_ishl hx hb dX9_followsPlainly_17 ?_
    refine lv_ior hx hb dX9_followsPlainly_18 ?_
    replace h := o_b h; obtain ⟨_, k19, h⟩ := h
    replace h := o_b h; obtain ⟨q19, h19, h⟩ := h
    refine m_call (va_runV (As := [.int (v1 ||| ((1 : Int32) <<< (v2 &&& 31)))]) (rest := []) ⟨hx, hb, hml, hown, hts⟩ (c_X9_lookAt l D b0 sz ek h19) (cwV 1 hts gX9_followsPlainly_X9_lookAt rfl rfl rfl (by decide +kernel) ⟨Nat.le_of_ble_eq_true rfl, Nat.le_of_ble_eq_true rfl⟩) ⟨PW.blind, m_recv (ci := 9) rfl hK hM k19, (fun U hU hW => ⟨rfl, PW.call hK hM hS hU hW⟩)⟩ rfl rfl hl.1 rfl (lv_room (Nat.le_of_ble_eq_true rfl)) dX9_followsPlainly_19 ⟨(Nat.le_refl _), (Nat.le_refl _)⟩) hS (fun H locs hM hS => ?_)
    refine lv_aload_n hx hb dX9_followsPlainly_22 rfl (lv_at hl 1 rfl) ?_
    replace h := o_b h; obtain ⟨x23, h23, h⟩ := h
    refine m_get (C := RX9) (T := TX9) (N := 9) (ci := 9) hx hb hts qi_X9_followsPlainly_X9 hown hK.1 hM 7 (ldR_F h23) rfl (by decide) (hts _ q_X9_followsPlainly_1) (fun _ h9 => h9) dX9_followsPlainly_23 ?_
    refine lv_iload_n hx hb dX9_followsPlainly_26 rfl (lv_at hl 2 rfl) ?_
    refine lv_iload_n hx hb dX9_followsPlainly_27 rfl (lv_at hl 3 rfl) ?_
    replace h := o_b h; obtain ⟨_, k28, h⟩ := h
    replace h := o_b h; obtain ⟨q28, h28, h⟩ := h
    refine m_call (va_runV (As := [.int v1, .int v2]) (rest := []) ⟨hx, hb, hml, hown, hts⟩ (c_X6_entailsPlainly l D b0 sz h28) (cwV 2 hts gX9_followsPlainly_X6_entailsPlainly rfl rfl rfl (by decide +kernel) ⟨Nat.le_of_ble_eq_true rfl, Nat.le_of_ble_eq_true rfl⟩) ⟨PW.blind, m_recv (ci := 6) rfl hK hM k28, (fun U hU hW => ⟨rfl, PW.call hK hM hS hU hW⟩)⟩ rfl rfl hl.1 rfl (lv_room (Nat.le_of_ble_eq_true rfl)) dX9_followsPlainly_28 ⟨(Nat.le_refl _), (Nat.le_refl _)⟩) hS (fun H locs hM hS => ?_)
    replace h := o_b h; obtain ⟨q31, h31, h⟩ := h
    refine m_call (va_runS (As := [.int q28]) (rest := []) ⟨hx, hb, hml, hown, hts⟩ (c_X9_truth l D b0 sz h31) (va_cwS 1 hts gX9_followsPlainly_X9_truth rfl rfl rfl (by decide +kernel) ⟨Nat.le_of_ble_eq_true rfl, Nat.le_of_ble_eq_true rfl⟩) ⟨PW.blind, (fun U hU hW => ⟨rfl, PW.call hK hM hS hU hW⟩)⟩ rfl rfl hl.1 rfl (lv_room (Nat.le_of_ble_eq_true rfl)) dX9_followsPlainly_31 ⟨(Nat.le_refl _), (Nat.le_refl _)⟩) hS (fun H locs hM hS => ?_)
    replace h := Option.some.inj h; subst h
    exact W.iret hx hb hr (fun t ht hW => ⟨rfl, by rw [ht]; exact hM.moved hW.alike, hS.F ht⟩) hS.2.2 dX9_followsPlainly_34
  replace h := o_f c8 h
  refine lv_iload_n hx hb dX9_followsPlainly_11 rfl (lv_at hl 0 rfl) ?_
  replace h := Option.some.inj h; subst h
  exact W.iret hx hb hr (fun t ht hW => ⟨rfl, by rw [ht]; exact hM.moved hW.alike, hS.F ht⟩) hS.2.2 dX9_followsPlainly_12
set_option maxHeartbeats 4000000 in
set_option maxRecDepth 100000 in
theorem c_X9_followsPlainly (l : Launch) (D : mmD) (b0 sz : Nat) {kn : Nat} (ek : kn = D.2 9) {v0 : Nat} {v1 : Int32} {v2 : Int32} {f : mmF} {res : Int32 × mmF} (h : f_X9_followsPlainly kn v0 v1 v2 f = some res) : Met l yX9_followsPlainly wsX9_followsPlainly ({ frames := 5, cells := 0, slots := 0, locals := 111 } : Room) (va_Pc [.ref v0, .int v1, .int v2] (PW D b0 f sz)) (QW D b0 (some (.int res.1)) res.2 sz) 0 0 (fun q => b0 ≤ q) := by
  refine Met.ofW (cc := cX9_followsPlainly) (maxL := 4) (ret := (some .int)) (by decide) rfl ?_
  intro p e s m args below meth c s₁ B hml hv
  obtain ⟨rfl, hM, hK⟩ := hv
  have hl := lv_entry ([.ref v0, .int v1, .int v2]) (n := 4) (Nat.le_of_ble_eq_true rfl)
  rw [lg_entry_eq]
  generalize (lg_sl ([.ref v0, .int v1, .int v2]) ++ List.replicate (4 - (lg_sl ([.ref v0, .int v1, .int v2])).length) Slot.unset).toArray = ls at hl ⊢
  have hl : lv_has ls 4 [(0, .ref v0), (1, .int v1), (2, .int v2)] := hl
  exact w_X9_followsPlainly ⟨B.exec, B.bytes, B.returns, hml, findClass_of_methodNamed B.named, atoms_spec (ws := wsX9_followsPlainly) B.pre, B.notSynchronized, hK⟩ ek h s.heap [] ls hM va_S.rf hl
end S_X9_followsPlainly
/-! X9_fewestStages -/
set_option maxRecDepth 20000 in
theorem qi_X9_fewestStages_X9 : ∀ w ∈ u_ws RX9 TX9 9, w ∈ wsX9_fewestStages := by decide +kernel
set_option maxRecDepth 20000 in
theorem q_X9_fewestStages_1 : Cond.fieldLink RX9 49 "StageTruths" "models" "LStageTruths$SmallModels;" ∈ wsX9_fewestStages := by decide +kernel
set_option maxRecDepth 20000 in
theorem q_X9_fewestStages_2 : Cond.fieldLink RX9 41 "StageTruths" "proof" "LStageTruths$Proof;" ∈ wsX9_fewestStages := by decide +kernel
noncomputable def f_X9_fewestStages (kn : Nat) (v0 : Nat) (v1 : Int32) (v2 : Int32) (f : mmF) : Option (Int32 × mmF) :=
  (ckO f v0 9).bind fun _ =>
  (f_X9_questionError v0 v1 v2 f).bind fun q3 =>
  if q3 = 0 then
  ((ckO f v0 9).bind fun _ =>
  (f_X9_lookAt kn v0 (v1 ||| ((1 : Int32) <<< (v2 &&& 31))) f).bind fun q19 =>
  (ldR q19 v0 9 7).bind fun x23 =>
  (ckO q19 x23 6).bind fun _ =>
  (f_X6_entailsPlainly x23 v1 v2 q19).bind fun q28 =>
  if q28 = 0 then
  (some ((1 : Int32), q19))
  else
  (ldR q19 v0 9 7).bind fun x37 =>
  (ckO q19 x37 6).bind fun _ =>
  (f_X6_refutesWithTwo kn x37 v1 v2 q19).bind fun q42 =>
  if q42.1 = 0 then
  ((ldR q42.2 v0 9 6).bind fun x51 =>
  (ckO q42.2 x51 5).bind fun _ =>
  (f_X5_isFound x51 v1 v2 q42.2).bind fun q56 =>
  if q56.1 = 0 then
  ((ldR q56.2 v0 9 7).bind fun x63 =>
  (ckO q56.2 x63 6).bind fun _ =>
  (f_X6_refutesWithThree kn x63 v1 v2 q56.2).bind fun q68 =>
  if q68.1 = 0 then
  (some ((-5 : Int32), q68.2))
  else
  some ((3 : Int32), q68.2))
  else
  some ((-5 : Int32), q56.2))
  else
  some ((2 : Int32), q42.2))
  else
  some (q3, f)
section S_X9_fewestStages
variable {p : Program} {l : Launch} {e : Env} {s : State} {m : MethodId} {args : Array Value} {below : List Frame} {meth : Method} {c : Code} {D : mmD} {b0 sz : Nat} {f : mmF}
set_option maxHeartbeats 4000000 in
set_option maxRecDepth 100000 in
theorem w_X9_fewestStages (C0 : CX cX9_fewestStages 4 (some .int) wsX9_fewestStages RX9 p s m args meth c D b0) {v0 : Nat} {v1 : Int32} {v2 : Int32} {kn : Nat} (ek : kn = D.2 9) {res : Int32 × mmF} (h : f_X9_fewestStages kn v0 v1 v2 f = some res) : ∀ (H : Heap) (locs : List Loc) (ls : Array Slot), MM vwCl D b0 f sz s H → mS b0 s H locs → lv_has ls 4 [(0, .ref v0), (1, .int v1), (2, .int v2)] → W p l e ({ frames := 167, cells := 0, slots := 0, locals := 4971 } : Room) s m args below meth c H locs 0 0 (MQ below (QW D b0 (some (.int res.1)) res.2 sz) args s 0 0 (fun q => b0 ≤ q)) (F0 m 0 ls []) := by
  obtain ⟨hx, hb, hr, hml, hown, hts, hlocks, hK⟩ := id C0
  intro H locs ls hM hS hl
  unfold f_X9_fewestStages at h
  refine lv_aload_n hx hb dX9_fewestStages_0 rfl (lv_at hl 0 rfl) ?_
  refine lv_iload_n hx hb dX9_fewestStages_1 rfl (lv_at hl 1 rfl) ?_
  refine lv_iload_n hx hb dX9_fewestStages_2 rfl (lv_at hl 2 rfl) ?_
  replace h := o_b h; obtain ⟨_, k3, h⟩ := h
  replace h := o_b h; obtain ⟨q3, h3, h⟩ := h
  refine m_call (va_runV (As := [.int v1, .int v2]) (rest := []) ⟨hx, hb, hml, hown, hts⟩ (c_X9_questionError l D b0 sz h3) (cwV 2 hts gX9_fewestStages_X9_questionError rfl rfl rfl (by decide +kernel) ⟨Nat.le_of_ble_eq_true rfl, Nat.le_of_ble_eq_true rfl⟩) ⟨PW.blind, m_recv (ci := 9) rfl hK hM k3, (fun U hU hW => ⟨rfl, PW.call hK hM hS hU hW⟩)⟩ rfl rfl hl.1 rfl (lv_room (Nat.le_of_ble_eq_true rfl)) dX9_fewestStages_3 ⟨(Nat.le_refl _), (Nat.le_refl _)⟩) hS (fun H locs hM hS => ?_)
  refine lv_istore_n (lv' := [(3, .int q3), (0, .ref v0), (1, .int v1), (2, .int v2)]) hx hb dX9_fewestStages_6 rfl hl (by decide) rfl (fun ls hl => ?_)
  refine lv_iload_n hx hb dX9_fewestStages_7 rfl (lv_at hl 0 rfl) ?_
  refine lv_if_eq (tgt := 13) hx hb dX9_fewestStages_8 (by decide) (fun c8 => ?_) (fun c8 => ?_)
  · replace h := o_t c8 h
    refine lv_aload_n hx hb dX9_fewestStages_13 rfl (lv_at hl 1 rfl) ?_
    refine lv_iload_n hx hb dX9_fewestStages_14 rfl (lv_at hl 2 rfl) ?_
    refine lv_iconst (v := (1 : Int32)) hx hb dX9_fewestStages_15 (by decide) ?_
    refine lv_iload_n hx hb dX9_fewestStages_16 rfl (lv_at hl 3 rfl) ?_
    refine lv_ishl hx hb dX9_fewestStages_17 ?_
    refine lv_ior hx hb dX9_fewestStages_18 ?_
    replace h := o_b h; obtain ⟨_, k19, h⟩ := h
    replace h := o_b h; obtain ⟨q19, h19, h⟩ := h
    refine m_call (va_runV (As := [.int (v1 ||| ((1 : Int32) <<< (v2 &&& 31)))]) (rest := []) ⟨hx, hb, hml, hown, hts⟩ (c_X9_lookAt l D b0 sz ek h19) (cwV 1 hts gX9_fewestStages_X9_lookAt rfl rfl rfl (by decide +kernel) ⟨Nat.le_of_ble_eq_true rfl, Nat.le_of_ble_eq_true rfl⟩) ⟨PW.blind, m_recv (ci := 9) rfl hK hM k19, (fun U hU hW => ⟨rfl, PW.call hK hM hS hU hW⟩)⟩ rfl rfl hl.1 rfl (lv_room (Nat.le_of_ble_eq_true rfl)) dX9_fewestStages_19 ⟨(Nat.le_refl _), (Nat.le_refl _)⟩) hS (fun H locs hM hS => ?_)
    refine lv_aload_n hx hb dX9_fewestStages_22 rfl (lv_at hl 1 rfl) ?_
    replace h := o_b h; obtain ⟨x23, h23, h⟩ := h
    refine m_get (C := RX9) (T := TX9) (N := 9) (ci := 9) hx hb hts qi_X9_fewestStages_X9 hown hK.1 hM 7 (ldR_F h23) rfl (by decide) (hts _ q_X9_fewestStages_1) (fun _ h9 => h9) dX9_fewestStages_23 ?_
    refine lv_iload_n hx hb dX9_fewestStages_26 rfl (lv_at hl 2 rfl) ?_
    refine lv_iload_n hx hb dX9_fewestStages_27 rfl (lv_at hl 3 rfl) ?_
    replace h := o_b h; obtain ⟨_, k28, h⟩ := h
    replace h := o_b h; obtain ⟨q28, h28, h⟩ := h
    refine m_call (va_runV (As := [.int v1, .int v2]) (rest := []) ⟨hx, hb, hml, hown, hts⟩ (c_X6_entailsPlainly l D b0 sz h28) (cwV 2 hts gX9_fewestStages_X6_entailsPlainly rfl rfl rfl (by decide +kernel) ⟨Nat.le_of_ble_eq_true rfl, Nat.le_of_ble_eq_true rfl⟩) ⟨PW.blind, m_recv (ci := 6) rfl hK hM k28, (fun U hU hW => ⟨rfl, PW.call hK hM hS hU hW⟩)⟩ rfl rfl hl.1 rfl (lv_room (Nat.le_of_ble_eq_true rfl)) dX9_fewestStages_28 ⟨(Nat.le_refl _), (Nat.le_refl _)⟩) hS (fun H locs hM hS => ?_)
    refine lv_if_ne (tgt := 36) hx hb dX9_fewestStages_31 (by decide) (fun c31 => ?_) (fun c31 => ?_)
    · replace h := o_f c31 h
      refine lv_aload_n hx hb dX9_fewestStages_36 rfl (lv_at hl 1 rfl) ?_
      replace h := o_b h; obtain ⟨x37, h37, h⟩ := h
      refine m_get (C := RX9) (T := TX9) (N := 9) (ci := 9) hx hb hts qi_X9_fewestStages_X9 hown hK.1 hM 7 (ldR_F h37) rfl (by decide) (hts _ q_X9_fewestStages_1) (fun _ h9 => h9) dX9_fewestStages_37 ?_
      refine lv_iload_n hx hb dX9_fewestStages_40 rfl (lv_at hl 2 rfl) ?_
      refine lv_iload_n hx hb dX9_fewestStages_41 rfl (lv_at hl 3 rfl) ?_
      replace h := o_b h; obtain ⟨_, k42, h⟩ := h
      replace h := o_b h; obtain ⟨q42, h42, h⟩ := h
      refine m_call (va_runV (As := [.int v1, .int v2]) (rest := []) ⟨hx, hb, hml, hown, hts⟩ (c_X6_refutesWithTwo l D b0 sz ek h42) (cwV 2 hts gX9_fewestStages_X6_refutesWithTwo rfl rfl rfl (by decide +kernel) ⟨Nat.le_of_ble_eq_true rfl, Nat.le_of_ble_eq_true rfl⟩) ⟨PW.blind, m_recv (ci := 6) rfl hK hM k42, (fun U hU hW => ⟨rfl, PW.call hK hM hS hU hW⟩)⟩ rfl rfl hl.1 rfl (lv_room (Nat.le_of_ble_eq_true rfl)) dX9_fewestStages_42 ⟨(Nat.le_refl _), (Nat.le_refl _)⟩) hS (fun H locs hM hS => ?_)
      refine lv_if_eq (tgt := 50) hx hb dX9_fewestStages_45 (by decide) (fun c45 => ?_) (fun c45 => ?_)
      · replace h := o_t c45 h
        refine lv_aload_n hx hb dX9_fewestStages_50 rfl (lv_at hl 1 rfl) ?_
        replace h := o_b h; obtain ⟨x51, h51, h⟩ := h
        refine m_get (C := RX9) (T := TX9) (N := 9) (ci := 9) hx hb hts qi_X9_fewestStages_X9 hown hK.1 hM 6 (ldR_F h51) rfl (by decide) (hts _ q_X9_fewestStages_2) (fun _ h9 => h9) dX9_fewestStages_51 ?_
        refine lv_iload_n hx hb dX9_fewestStages_54 rfl (lv_at hl 2 rfl) ?_
        refine lv_iload_n hx hb dX9_fewestStages_55 rfl (lv_at hl 3 rfl) ?_
        replace h := o_b h; obtain ⟨_, k56, h⟩ := h
        replace h := o_b h; obtain ⟨q56, h56, h⟩ := h
        refine m_call (va_runV (As := [.int v1, .int v2]) (rest := []) ⟨hx, hb, hml, hown, hts⟩ (c_X5_isFound l D b0 sz h56) (cwV 2 hts gX9_fewestStages_X5_isFound rfl rfl rfl (by decide +kernel) ⟨Nat.le_of_ble_eq_true rfl, Nat.le_of_ble_eq_true rfl⟩) ⟨PW.blind, m_recv (ci := 5) rfl hK hM k56, (fun U hU hW => ⟨rfl, PW.call hK hM hS hU hW⟩)⟩ rfl rfl hl.1 rfl (lv_room (Nat.le_of_ble_eq_true rfl)) dX9_fewestStages_56 ⟨(Nat.le_refl _), (Nat.le_refl _)⟩) hS (fun H locs hM hS => ?_)
        refine lv_if_ne (tgt := 78) hx hb dX9_fewestStages_59 (by decide) (fun c59 => ?_) (fun c59 => ?_)
        · replace h := o_f c59 h
          refine lv_bipush (v := (-5 : Int32)) hx hb dX9_fewestStages_78 (by decide) ?_
          replace h := Option.some.inj h; subst h
          exact W.iret hx hb hr (fun t ht hW => ⟨rfl, by rw [ht]; exact hM.moved hW.alike, hS.F ht⟩) hS.2.2 dX9_fewestStages_80
        replace h := o_t c59 h
        refine lv_aload_n hx hb dX9_fewestStages_62 rfl (lv_at hl 1 rfl) ?_
        replace h := o_b h; obtain ⟨x63, h63, h⟩ := h
        refine m_get (C := RX9) (T := TX9) (N := 9) (ci := 9) hx hb hts qi_X9_fewestStages_X9 hown hK.1 hM 7 (ldR_F h63) rfl (by decide) (hts _ q_X9_fewestStages_1) (fun _ h9 => h9) dX9_fewestStages_63 ?_
        refine lv_iload_n hx hb dX9_fewestStages_66 rfl (lv_at hl 2 rfl) ?_
        refine lv_iload_n hx hb dX9_fewestStages_67 rfl (lv_at hl 3 rfl) ?_
        replace h := o_b h; obtain ⟨_, k68, h⟩ := h
        replace h := o_b h; obtain ⟨q68, h68, h⟩ := h
        refine m_call (va_runV (As := [.int v1, .int v2]) (rest := []) ⟨hx, hb, hml, hown, hts⟩ (c_X6_refutesWithThree l D b0 sz ek h68) (cwV 2 hts gX9_fewestStages_X6_refutesWithThree rfl rfl rfl (by decide +kernel) ⟨Nat.le_of_ble_eq_true rfl, Nat.le_of_ble_eq_true rfl⟩) ⟨PW.blind, m_recv (ci := 6) rfl hK hM k68, (fun U hU hW => ⟨rfl, PW.call hK hM hS hU hW⟩)⟩ rfl rfl hl.1 rfl (lv_room (Nat.le_of_ble_eq_true rfl)) dX9_fewestStages_68 ⟨(Nat.le_refl _), (Nat.le_refl _)⟩) hS (fun H locs hM hS => ?_)
        refine lv_if_eq (tgt := 78) hx hb dX9_fewestStages_71 (by decide) (fun c71 => ?_) (fun c71 => ?_)
        · replace h := o_t c71 h
          refine lv_bipush (v := (-5 : Int32)) hx hb dX9_fewestStages_78 (by decide) ?_
          replace h := Option.some.inj h; subst h
          exact W.iret hx hb hr (fun t ht hW => ⟨rfl, by rw [ht]; exact hM.moved hW.alike, hS.F ht⟩) hS.2.2 dX9_fewestStages_80
        replace h := o_f c71 h
        refine lv_iconst (v := (3 : Int32)) hx hb dX9_fewestStages_74 (by decide) ?_
        refine lv_goto (tgt := 80) hx hb dX9_fewestStages_75 (by decide) ?_
        replace h := Option.some.inj h; subst h
        exact W.iret hx hb hr (fun t ht hW => ⟨rfl, by rw [ht]; exact hM.moved hW.alike, hS.F ht⟩) hS.2.2 dX9_fewestStages_80
      replace h := o_f c45 h
      refine lv_iconst (v := (2 : Int32)) hx hb dX9_fewestStages_48 (by decide) ?_
      replace h := Option.some.inj h; subst h
      exact W.iret hx hb hr (fun t ht hW => ⟨rfl, by rw [ht]; exact hM.moved hW.alike, hS.F ht⟩) hS.2.2 dX9_fewestStages_49
    replace h := o_t c31 h
    refine lv_iconst (v := (1 : Int32)) hx hb dX9_fewestStages_34 (by decide) ?_
    replace h := Option.some.inj h; subst h
    exact W.iret hx hb hr (fun t ht hW => ⟨rfl, by rw [ht]; exact hM.moved hW.alike, hS.F ht⟩) hS.2.2 dX9_fewestStages_35
  replace h := o_f c8 h
  refine lv_iload_n hx hb dX9_fewestStages_11 rfl (lv_at hl 0 rfl) ?_
  replace h := Option.some.inj h; subst h
  exact W.iret hx hb hr (fun t ht hW => ⟨rfl, by rw [ht]; exact hM.moved hW.alike, hS.F ht⟩) hS.2.2 dX9_fewestStages_12
set_option maxHeartbeats 4000000 in
set_option maxRecDepth 100000 in
theorem c_X9_fewestStages (l : Launch) (D : mmD) (b0 sz : Nat) {kn : Nat} (ek : kn = D.2 9) {v0 : Nat} {v1 : Int32} {v2 : Int32} {f : mmF} {res : Int32 × mmF} (h : f_X9_fewestStages kn v0 v1 v2 f = some res) : Met l yX9_fewestStages wsX9_fewestStages ({ frames := 167, cells := 0, slots := 0, locals := 4971 } : Room) (va_Pc [.ref v0, .int v1, .int v2] (PW D b0 f sz)) (QW D b0 (some (.int res.1)) res.2 sz) 0 0 (fun q => b0 ≤ q) := by
  refine Met.ofW (cc := cX9_fewestStages) (maxL := 4) (ret := (some .int)) (by decide) rfl ?_
  intro p e s m args below meth c s₁ B hml hv
  obtain ⟨rfl, hM, hK⟩ := hv
  have hl := lv_entry ([.ref v0, .int v1, .int v2]) (n := 4) (Nat.le_of_ble_eq_true rfl)
  rw [lg_entry_eq]
  generalize (lg_sl ([.ref v0, .int v1, .int v2]) ++ List.replicate (4 - (lg_sl ([.ref v0, .int v1, .int v2])).length) Slot.unset).toArray = ls at hl ⊢
  have hl : lv_has ls 4 [(0, .ref v0), (1, .int v1), (2, .int v2)] := hl
  exact w_X9_fewestStages ⟨B.exec, B.bytes, B.returns, hml, findClass_of_methodNamed B.named, atoms_spec (ws := wsX9_fewestStages) B.pre, B.notSynchronized, hK⟩ ek h s.heap [] ls hM va_S.rf hl
end S_X9_fewestStages
/-! X9_fewestPremises -/
set_option maxRecDepth 20000 in
theorem qi_X9_fewestPremises_X9 : ∀ w ∈ u_ws RX9 TX9 9, w ∈ wsX9_fewestPremises := by decide +kernel
set_option maxRecDepth 20000 in
theorem q_X9_fewestPremises_1 : Cond.fieldLink RX9 41 "StageTruths" "proof" "LStageTruths$Proof;" ∈ wsX9_fewestPremises := by decide +kernel
noncomputable def f_X9_fewestPremises_90 (kn : Nat) (k40 : Nat → Int32 → Int32 → Int32 → mmF → Option (Int32 × mmF)) (k49 : Nat → Int32 → Int32 → Int32 → Int32 → mmF → Option (Int32 × mmF))  (v0 : Nat) (v1 : Int32) (v2 : Int32) (v4 : Int32) (v5 : Int32) (f : mmF) : Option (Int32 × mmF) :=
  k49 v0 v1 v2 v4 (v5 + (1 : Int32)) f
noncomputable def f_X9_fewestPremises_49 (kn : Nat) (k40 : Nat → Int32 → Int32 → Int32 → mmF → Option (Int32 × mmF))  : Nat → Nat → Int32 → Int32 → Int32 → Int32 → mmF → Option (Int32 × mmF)
  | 0, _, _, _, _, _, _ => none
  | n + 1, v0, v1, v2, v4, v5, f =>
    if v1 ≤ v5 then
    (k40 v0 v1 v2 (v4 + (1 : Int32)) f)
    else
    if (v5 &&& (v1 ^^^ (-1 : Int32))) = 0 then
    ((f_J6_bitCount_0f7a4 v5 f).bind fun q66 =>
    if q66 = v4 then
    ((ldR f v0 9 6).bind fun x75 =>
    (ckO f x75 5).bind fun _ =>
    (f_X5_isFound x75 v5 v2 f).bind fun q81 =>
    if q81.1 = 0 then
    (f_X9_fewestPremises_90 kn k40 (fun a0 a1 a2 a3 a4 a5 => f_X9_fewestPremises_49 kn k40 n a0 a1 a2 a3 a4 a5) v0 v1 v2 v4 v5 q81.2)
    else
    some (v5, q81.2))
    else
    f_X9_fewestPremises_90 kn k40 (fun a0 a1 a2 a3 a4 a5 => f_X9_fewestPremises_49 kn k40 n a0 a1 a2 a3 a4 a5) v0 v1 v2 v4 v5 f)
    else
    f_X9_fewestPremises_90 kn k40 (fun a0 a1 a2 a3 a4 a5 => f_X9_fewestPremises_49 kn k40 n a0 a1 a2 a3 a4 a5) v0 v1 v2 v4 v5 f
noncomputable def f_X9_fewestPremises_40 (kn : Nat)   : Nat → Nat → Int32 → Int32 → Int32 → mmF → Option (Int32 × mmF)
  | 0, _, _, _, _, _ => none
  | n + 1, v0, v1, v2, v4, f =>
    if (5 : Int32) ≤ v4 then
    (some (v1, f))
    else
    f_X9_fewestPremises_49 kn (fun a0 a1 a2 a3 a4 => f_X9_fewestPremises_40 kn n a0 a1 a2 a3 a4) FU v0 v1 v2 v4 (0 : Int32) f
noncomputable def f_X9_fewestPremises (kn : Nat) (v0 : Nat) (v1 : Int32) (v2 : Int32) (f : mmF) : Option (Int32 × mmF) :=
  (ckO f v0 9).bind fun _ =>
  (f_X9_questionError v0 v1 v2 f).bind fun q3 =>
  if q3 = 0 then
  ((ckO f v0 9).bind fun _ =>
  (f_X9_lookAt kn v0 (v1 ||| ((1 : Int32) <<< (v2 &&& 31))) f).bind fun q19 =>
  (ldR q19 v0 9 6).bind fun x23 =>
  (ckO q19 x23 5).bind fun _ =>
  (f_X5_isFound x23 v1 v2 q19).bind fun q28 =>
  if q28.1 = 0 then
  (some ((-4 : Int32), q28.2))
  else
  f_X9_fewestPremises_40 kn FU v0 v1 v2 (0 : Int32) q28.2)
  else
  some (q3, f)
section S_X9_fewestPremises
variable {p : Program} {l : Launch} {e : Env} {s : State} {m : MethodId} {args : Array Value} {below : List Frame} {meth : Method} {c : Code} {D : mmD} {b0 sz : Nat} {f : mmF}
set_option maxHeartbeats 4000000 in
set_option maxRecDepth 100000 in
theorem w_X9_fewestPremises_90 (C0 : CX cX9_fewestPremises 6 (some .int) wsX9_fewestPremises RX9 p s m args meth c D b0) {kn : Nat} (ek : kn = D.2 9) {k40 : Nat → Int32 → Int32 → Int32 → mmF → Option (Int32 × mmF)} {k49 : Nat → Int32 → Int32 → Int32 → Int32 → mmF → Option (Int32 × mmF)} {res : Int32 × mmF} (hk40 : ∀ (v0 : Nat) (v1 : Int32) (v2 : Int32) (v4 : Int32) (f : mmF), k40 v0 v1 v2 v4 f = some res → ∀ (H : Heap) (locs : List Loc) (ls : Array Slot), MM vwCl D b0 f sz s H → mS b0 s H locs → lv_has ls 6 [(0, .ref v0), (1, .int v1), (2, .int v2), (4, .int v4)] → W p l e ({ frames := 167, cells := 0, slots := 0, locals := 4971 } : Room) s m args below meth c H locs 0 0 (MQ below (QW D b0 (some (.int res.1)) res.2 sz) args s 0 0 (fun q => b0 ≤ q)) (F0 m 40 ls [])) (hk49 : ∀ (v0 : Nat) (v1 : Int32) (v2 : Int32) (v4 : Int32) (v5 : Int32) (f : mmF), k49 v0 v1 v2 v4 v5 f = some res → ∀ (H : Heap) (locs : List Loc) (ls : Array Slot), MM vwCl D b0 f sz s H → mS b0 s H locs → lv_has ls 6 [(0, .ref v0), (1, .int v1), (2, .int v2), (4, .int v4), (5, .int v5)] → W p l e ({ frames := 167, cells := 0, slots := 0, locals := 4971 } : Room) s m args below meth c H locs 0 0 (MQ below (QW D b0 (some (.int res.1)) res.2 sz) args s 0 0 (fun q => b0 ≤ q)) (F0 m 49 ls [])) : ∀ (v0 : Nat) (v1 : Int32) (v2 : Int32) (v4 : Int32) (v5 : Int32) (f : mmF), f_X9_fewestPremises_90 kn k40 k49 v0 v1 v2 v4 v5 f = some res → ∀ (H : Heap) (locs : List Loc) (ls : Array Slot), MM vwCl D b0 f sz s H → mS b0 s H locs → lv_has ls 6 [(0, .ref v0), (1, .int v1), (2, .int v2), (4, .int v4), (5, .int v5)] → W p l e ({ frames := 167, cells := 0, slots := 0, locals := 4971 } : Room) s m args below meth c H locs 0 0 (MQ below (QW D b0 (some (.int res.1)) res.2 sz) args s 0 0 (fun q => b0 ≤ q)) (F0 m 90 ls []) := by
  obtain ⟨hx, hb, hr, hml, hown, hts, hlocks, hK⟩ := id C0
  intro v0 v1 v2 v4 v5 f h H locs ls hM hS hl
  unfold f_X9_fewestPremises_90 at h
  refine lv_iinc (v := (v5 + (1 : Int32))) (lv' := [(5, .int (v5 + (1 : Int32))), (0, .ref v0), (1, .int v1), (2, .int v2), (4, .int v4)]) hx hb dX9_fewestPremises_90 hl (k := 4) rfl rfl (by decide) rfl (fun ls hl => ?_)
  refine lv_goto (tgt := 49) hx hb dX9_fewestPremises_93 (by decide) ?_
  exact hk49 _ _ _ _ _ _ h _ _ _ hM hS (lv_sub hl [1, 2, 3, 4, 0] rfl)
set_option maxHeartbeats 4000000 in
set_option maxRecDepth 100000 in
theorem w_X9_fewestPremises_49 (C0 : CX cX9_fewestPremises 6 (some .int) wsX9_fewestPremises RX9 p s m args meth c D b0) {kn : Nat} (ek : kn = D.2 9) {k40 : Nat → Int32 → Int32 → Int32 → mmF → Option (Int32 × mmF)} {res : Int32 × mmF} (hk40 : ∀ (v0 : Nat) (v1 : Int32) (v2 : Int32) (v4 : Int32) (f : mmF), k40 v0 v1 v2 v4 f = some res → ∀ (H : Heap) (locs : List Loc) (ls : Array Slot), MM vwCl D b0 f sz s H → mS b0 s H locs → lv_has ls 6 [(0, .ref v0), (1, .int v1), (2, .int v2), (4, .int v4)] → W p l e ({ frames := 167, cells := 0, slots := 0, locals := 4971 } : Room) s m args below meth c H locs 0 0 (MQ below (QW D b0 (some (.int res.1)) res.2 sz) args s 0 0 (fun q => b0 ≤ q)) (F0 m 40 ls [])) : ∀ (n : Nat), ∀ (v0 : Nat) (v1 : Int32) (v2 : Int32) (v4 : Int32) (v5 : Int32) (f : mmF), f_X9_fewestPremises_49 kn k40 n v0 v1 v2 v4 v5 f = some res → ∀ (H : Heap) (locs : List Loc) (ls : Array Slot), MM vwCl D b0 f sz s H → mS b0 s H locs → lv_has ls 6 [(0, .ref v0), (1, .int v1), (2, .int v2), (4, .int v4), (5, .int v5)] → W p l e ({ frames := 167, cells := 0, slots := 0, locals := 4971 } : Room) s m args below meth c H locs 0 0 (MQ below (QW D b0 (some (.int res.1)) res.2 sz) args s 0 0 (fun q => b0 ≤ q)) (F0 m 49 ls []) := by
  obtain ⟨hx, hb, hr, hml, hown, hts, hlocks, hK⟩ := id C0
  intro n
  induction n with
  | zero =>
    intro v0 v1 v2 v4 v5 f h
    have h : (none : Option (Int32 × mmF)) = some res := h
    cases h
  | succ n ih =>
    intro v0 v1 v2 v4 v5 f h H locs ls hM hS hl
    rw [f_X9_fewestPremises_49] at h
    refine lv_iload hx hb dX9_fewestPremises_49 (lv_at hl 4 rfl) ?_
    refine lv_iload_n hx hb dX9_fewestPremises_51 rfl (lv_at hl 1 rfl) ?_
    refine lv_icmp_ge (tgt := 96) hx hb dX9_fewestPremises_52 (by decide) (fun c52 => ?_) (fun c52 => ?_)
    · replace h := o_t c52 h
      refine lv_iinc (v := (v4 + (1 : Int32))) (lv' := [(4, .int (v4 + (1 : Int32))), (0, .ref v0), (1, .int v1), (2, .int v2), (5, .int v5)]) hx hb dX9_fewestPremises_96 hl (k := 3) rfl rfl (by decide) rfl (fun ls hl => ?_)
      refine lv_goto (tgt := 40) hx hb dX9_fewestPremises_99 (by decide) ?_
      exact hk40 _ _ _ _ _ h _ _ _ hM hS (lv_sub hl [1, 2, 3, 0] rfl)
    replace h := o_f c52 h
    refine lv_iload hx hb dX9_fewestPremises_55 (lv_at hl 4 rfl) ?_
    refine lv_iload_n hx hb dX9_fewestPremises_57 rfl (lv_at hl 1 rfl) ?_
    refine lv_iconst (v := (-1 : Int32)) hx hb dX9_fewestPremises_58 (by decide) ?_
    refine lv_ixor hx hb dX9_fewestPremises_59 ?_
    refine lv_iand hx hb dX9_fewestPremises_60 ?_
    refine lv_if_ne (tgt := 90) hx hb dX9_fewestPremises_61 (by decide) (fun c61 => ?_) (fun c61 => ?_)
    · replace h := o_f c61 h
      exact w_X9_fewestPremises_90 C0 ek hk40 ih _ _ _ _ _ _ h _ _ _ hM hS (lv_sub hl [0, 1, 2, 3, 4] rfl)
    replace h := o_t c61 h
    refine lv_iload hx hb dX9_fewestPremises_64 (lv_at hl 4 rfl) ?_
    replace h := o_b h; obtain ⟨q66, h66, h⟩ := h
    refine m_call (va_runS (As := [.int v5]) (rest := []) ⟨hx, hb, hml, hown, hts⟩ (c_J6_bitCount_0f7a4 l D b0 sz h66) (va_cwS 1 hts gX9_fewestPremises_J6_bitCount_0f7a4 rfl rfl rfl (by decide +kernel) ⟨Nat.le_of_ble_eq_true rfl, Nat.le_of_ble_eq_true rfl⟩) ⟨PW.blind, (fun U hU hW => ⟨rfl, PW.call hK hM hS hU hW⟩)⟩ rfl rfl hl.1 rfl (lv_room (Nat.le_of_ble_eq_true rfl)) dX9_fewestPremises_66 ⟨(Nat.le_refl _), (Nat.le_refl _)⟩) hS (fun H locs hM hS => ?_)
    refine lv_iload hx hb dX9_fewestPremises_69 (lv_at hl 3 rfl) ?_
    refine lv_icmp_ne (tgt := 90) hx hb dX9_fewestPremises_71 (by decide) (fun c71 => ?_) (fun c71 => ?_)
    · replace h := o_f c71 h
      exact w_X9_fewestPremises_90 C0 ek hk40 ih _ _ _ _ _ _ h _ _ _ hM hS (lv_sub hl [0, 1, 2, 3, 4] rfl)
    replace h := o_t c71 h
    refine lv_aload_n hx hb dX9_fewestPremises_74 rfl (lv_at hl 0 rfl) ?_
    replace h := o_b h; obtain ⟨x75, h75, h⟩ := h
    refine m_get (C := RX9) (T := TX9) (N := 9) (ci := 9) hx hb hts qi_X9_fewestPremises_X9 hown hK.1 hM 6 (ldR_F h75) rfl (by decide) (hts _ q_X9_fewestPremises_1) (fun _ h9 => h9) dX9_fewestPremises_75 ?_
    refine lv_iload hx hb dX9_fewestPremises_78 (lv_at hl 4 rfl) ?_
    refine lv_iload_n hx hb dX9_fewestPremises_80 rfl (lv_at hl 2 rfl) ?_
    replace h := o_b h; obtain ⟨_, k81, h⟩ := h
    replace h := o_b h; obtain ⟨q81, h81, h⟩ := h
    refine m_call (va_runV (As := [.int v5, .int v2]) (rest := []) ⟨hx, hb, hml, hown, hts⟩ (c_X5_isFound l D b0 sz h81) (cwV 2 hts gX9_fewestPremises_X5_isFound rfl rfl rfl (by decide +kernel) ⟨Nat.le_of_ble_eq_true rfl, Nat.le_of_ble_eq_true rfl⟩) ⟨PW.blind, m_recv (ci := 5) rfl hK hM k81, (fun U hU hW => ⟨rfl, PW.call hK hM hS hU hW⟩)⟩ rfl rfl hl.1 rfl (lv_room (Nat.le_of_ble_eq_true rfl)) dX9_fewestPremises_81 ⟨(Nat.le_refl _), (Nat.le_refl _)⟩) hS (fun H locs hM hS => ?_)
    refine lv_if_eq (tgt := 90) hx hb dX9_fewestPremises_84 (by decide) (fun c84 => ?_) (fun c84 => ?_)
    · replace h := o_t c84 h
      exact w_X9_fewestPremises_90 C0 ek hk40 ih _ _ _ _ _ _ h _ _ _ hM hS (lv_sub hl [0, 1, 2, 3, 4] rfl)
    replace h := o_f c84 h
    refine lv_iload hx hb dX9_fewestPremises_87 (lv_at hl 4 rfl) ?_
    replace h := Option.some.inj h; subst h
    exact W.iret hx hb hr (fun t ht hW => ⟨rfl, by rw [ht]; exact hM.moved hW.alike, hS.F ht⟩) hS.2.2 dX9_fewestPremises_89
set_option maxHeartbeats 4000000 in
set_option maxRecDepth 100000 in
theorem w_X9_fewestPremises_40 (C0 : CX cX9_fewestPremises 6 (some .int) wsX9_fewestPremises RX9 p s m args meth c D b0) {kn : Nat} (ek : kn = D.2 9) {res : Int32 × mmF} : ∀ (n : Nat), ∀ (v0 : Nat) (v1 : Int32) (v2 : Int32) (v4 : Int32) (f : mmF), f_X9_fewestPremises_40 kn n v0 v1 v2 v4 f = some res → ∀ (H : Heap) (locs : List Loc) (ls : Array Slot), MM vwCl D b0 f sz s H → mS b0 s H locs → lv_has ls 6 [(0, .ref v0), (1, .int v1), (2, .int v2), (4, .int v4)] → W p l e ({ frames := 167, cells := 0, slots := 0, locals := 4971 } : Room) s m args below meth c H locs 0 0 (MQ below (QW D b0 (some (.int res.1)) res.2 sz) args s 0 0 (fun q => b0 ≤ q)) (F0 m 40 ls []) := by
  obtain ⟨hx, hb, hr, hml, hown, hts, hlocks, hK⟩ := id C0
  intro n
  induction n with
  | zero =>
    intro v0 v1 v2 v4 f h
    have h : (none : Option (Int32 × mmF)) = some res := h
    cases h
  | succ n ih =>
    intro v0 v1 v2 v4 f h H locs ls hM hS hl
    rw [f_X9_fewestPremises_40] at h
    refine lv_iload hx hb dX9_fewestPremises_40 (lv_at hl 3 rfl) ?_
    refine lv_iconst (v := (5 : Int32)) hx hb dX9_fewestPremises_42 (by decide) ?_
    refine lv_icmp_ge (tgt := 102) hx hb dX9_fewestPremises_43 (by decide) (fun c43 => ?_) (fun c43 => ?_)
    · replace h := o_t c43 h
      refine lv_iload_n hx hb dX9_fewestPremises_102 rfl (lv_at hl 1 rfl) ?_
      replace h := Option.some.inj h; subst h
      exact W.iret hx hb hr (fun t ht hW => ⟨rfl, by rw [ht]; exact hM.moved hW.alike, hS.F ht⟩) hS.2.2 dX9_fewestPremises_103
    replace h := o_f c43 h
    refine lv_iconst (v := (0 : Int32)) hx hb dX9_fewestPremises_46 (by decide) ?_
    refine lv_istore (lv' := [(5, .int (0 : Int32)), (0, .ref v0), (1, .int v1), (2, .int v2), (4, .int v4)]) hx hb dX9_fewestPremises_47 hl (by decide) rfl (fun ls hl => ?_)
    exact w_X9_fewestPremises_49 C0 ek ih FU _ _ _ _ _ _ h _ _ _ hM hS (lv_sub hl [1, 2, 3, 4, 0] rfl)
set_option maxHeartbeats 4000000 in
set_option maxRecDepth 100000 in
theorem w_X9_fewestPremises (C0 : CX cX9_fewestPremises 6 (some .int) wsX9_fewestPremises RX9 p s m args meth c D b0) {v0 : Nat} {v1 : Int32} {v2 : Int32} {kn : Nat} (ek : kn = D.2 9) {res : Int32 × mmF} (h : f_X9_fewestPremises kn v0 v1 v2 f = some res) : ∀ (H : Heap) (locs : List Loc) (ls : Array Slot), MM vwCl D b0 f sz s H → mS b0 s H locs → lv_has ls 6 [(0, .ref v0), (1, .int v1), (2, .int v2)] → W p l e ({ frames := 167, cells := 0, slots := 0, locals := 4971 } : Room) s m args below meth c H locs 0 0 (MQ below (QW D b0 (some (.int res.1)) res.2 sz) args s 0 0 (fun q => b0 ≤ q)) (F0 m 0 ls []) := by
  obtain ⟨hx, hb, hr, hml, hown, hts, hlocks, hK⟩ := id C0
  intro H locs ls hM hS hl
  unfold f_X9_fewestPremises at h
  refine lv_aload_n hx hb dX9_fewestPremises_0 rfl (lv_at hl 0 rfl) ?_
  refine lv_iload_n hx hb dX9_fewestPremises_1 rfl (lv_at hl 1 rfl) ?_
  refine lv_iload_n hx hb dX9_fewestPremises_2 rfl (lv_at hl 2 rfl) ?_
  replace h := o_b h; obtain ⟨_, k3, h⟩ := h
  replace h := o_b h; obtain ⟨q3, h3, h⟩ := h
  refine m_call (va_runV (As := [.int v1, .int v2]) (rest := []) ⟨hx, hb, hml, hown, hts⟩ (c_X9_questionError l D b0 sz h3) (cwV 2 hts gX9_fewestPremises_X9_questionError rfl rfl rfl (by decide +kernel) ⟨Nat.le_of_ble_eq_true rfl, Nat.le_of_ble_eq_true rfl⟩) ⟨PW.blind, m_recv (ci := 9) rfl hK hM k3, (fun U hU hW => ⟨rfl, PW.call hK hM hS hU hW⟩)⟩ rfl rfl hl.1 rfl (lv_room (Nat.le_of_ble_eq_true rfl)) dX9_fewestPremises_3 ⟨(Nat.le_refl _), (Nat.le_refl _)⟩) hS (fun H locs hM hS => ?_)
  refine lv_istore_n (lv' := [(3, .int q3), (0, .ref v0), (1, .int v1), (2, .int v2)]) hx hb dX9_fewestPremises_6 rfl hl (by decide) rfl (fun ls hl => ?_)
  refine lv_iload_n hx hb dX9_fewestPremises_7 rfl (lv_at hl 0 rfl) ?_
  refine lv_if_eq (tgt := 13) hx hb dX9_fewestPremises_8 (by decide) (fun c8 => ?_) (fun c8 => ?_)
  · replace h := o_t c8 h
    refine lv_aload_n hx hb dX9_fewestPremises_13 rfl (lv_at hl 1 rfl) ?_
    refine lv_iload_n hx hb dX9_fewestPremises_14 rfl (lv_at hl 2 rfl) ?_
    refine lv_iconst (v := (1 : Int32)) hx hb dX9_fewestPremises_15 (by decide) ?_
    refine lv_iload_n hx hb dX9_fewestPremises_16 rfl (lv_at hl 3 rfl) ?_
    refine lv_ishl hx hb dX9_fewestPremises_17 ?_
    refine lv_ior hx hb dX9_fewestPremises_18 ?_
    replace h := o_b h; obtain ⟨_, k19, h⟩ := h
    replace h := o_b h; obtain ⟨q19, h19, h⟩ := h
    refine m_call (va_runV (As := [.int (v1 ||| ((1 : Int32) <<< (v2 &&& 31)))]) (rest := []) ⟨hx, hb, hml, hown, hts⟩ (c_X9_lookAt l D b0 sz ek h19) (cwV 1 hts gX9_fewestPremises_X9_lookAt rfl rfl rfl (by decide +kernel) ⟨Nat.le_of_ble_eq_true rfl, Nat.le_of_ble_eq_true rfl⟩) ⟨PW.blind, m_recv (ci := 9) rfl hK hM k19, (fun U hU hW => ⟨rfl, PW.call hK hM hS hU hW⟩)⟩ rfl rfl hl.1 rfl (lv_room (Nat.le_of_ble_eq_true rfl)) dX9_fewestPremises_19 ⟨(Nat.le_refl _), (Nat.le_refl _)⟩) hS (fun H locs hM hS => ?_)
    refine lv_aload_n hx hb dX9_fewestPremises_22 rfl (lv_at hl 1 rfl) ?_
    replace h := o_b h; obtain ⟨x23, h23, h⟩ := h
    refine m_get (C := RX9) (T := TX9) (N := 9) (ci := 9) hx hb hts qi_X9_fewestPremises_X9 hown hK.1 hM 6 (ldR_F h23) rfl (by decide) (hts _ q_X9_fewestPremises_1) (fun _ h9 => h9) dX9_fewestPremises_23 ?_
    refine lv_iload_n hx hb dX9_fewestPremises_26 rfl (lv_at hl 2 rfl) ?_
    refine lv_iload_n hx hb dX9_fewestPremises_27 rfl (lv_at hl 3 rfl) ?_
    replace h := o_b h; obtain ⟨_, k28, h⟩ := h
    replace h := o_b h; obtain ⟨q28, h28, h⟩ := h
    refine m_call (va_runV (As := [.int v1, .int v2]) (rest := []) ⟨hx, hb, hml, hown, hts⟩ (c_X5_isFound l D b0 sz h28) (cwV 2 hts gX9_fewestPremises_X5_isFound rfl rfl rfl (by decide +kernel) ⟨Nat.le_of_ble_eq_true rfl, Nat.le_of_ble_eq_true rfl⟩) ⟨PW.blind, m_recv (ci := 5) rfl hK hM k28, (fun U hU hW => ⟨rfl, PW.call hK hM hS hU hW⟩)⟩ rfl rfl hl.1 rfl (lv_room (Nat.le_of_ble_eq_true rfl)) dX9_fewestPremises_28 ⟨(Nat.le_refl _), (Nat.le_refl _)⟩) hS (fun H locs hM hS => ?_)
    refine lv_if_ne (tgt := 37) hx hb dX9_fewestPremises_31 (by decide) (fun c31 => ?_) (fun c31 => ?_)
    · replace h := o_f c31 h
      refine lv_iconst (v := (0 : Int32)) hx hb dX9_fewestPremises_37 (by decide) ?_
      refine lv_istore (lv' := [(4, .int (0 : Int32)), (3, .int q3), (0, .ref v0), (1, .int v1), (2, .int v2)]) hx hb dX9_fewestPremises_38 hl (by decide) rfl (fun ls hl => ?_)
      exact w_X9_fewestPremises_40 C0 ek FU _ _ _ _ _ h _ _ _ hM hS (lv_sub hl [2, 3, 4, 0] rfl)
    replace h := o_t c31 h
    refine lv_bipush (v := (-4 : Int32)) hx hb dX9_fewestPremises_34 (by decide) ?_
    replace h := Option.some.inj h; subst h
    exact W.iret hx hb hr (fun t ht hW => ⟨rfl, by rw [ht]; exact hM.moved hW.alike, hS.F ht⟩) hS.2.2 dX9_fewestPremises_36
  replace h := o_f c8 h
  refine lv_iload_n hx hb dX9_fewestPremises_11 rfl (lv_at hl 0 rfl) ?_
  replace h := Option.some.inj h; subst h
  exact W.iret hx hb hr (fun t ht hW => ⟨rfl, by rw [ht]; exact hM.moved hW.alike, hS.F ht⟩) hS.2.2 dX9_fewestPremises_12
set_option maxHeartbeats 4000000 in
set_option maxRecDepth 100000 in
theorem c_X9_fewestPremises (l : Launch) (D : mmD) (b0 sz : Nat) {kn : Nat} (ek : kn = D.2 9) {v0 : Nat} {v1 : Int32} {v2 : Int32} {f : mmF} {res : Int32 × mmF} (h : f_X9_fewestPremises kn v0 v1 v2 f = some res) : Met l yX9_fewestPremises wsX9_fewestPremises ({ frames := 167, cells := 0, slots := 0, locals := 4971 } : Room) (va_Pc [.ref v0, .int v1, .int v2] (PW D b0 f sz)) (QW D b0 (some (.int res.1)) res.2 sz) 0 0 (fun q => b0 ≤ q) := by
  refine Met.ofW (cc := cX9_fewestPremises) (maxL := 6) (ret := (some .int)) (by decide) rfl ?_
  intro p e s m args below meth c s₁ B hml hv
  obtain ⟨rfl, hM, hK⟩ := hv
  have hl := lv_entry ([.ref v0, .int v1, .int v2]) (n := 6) (Nat.le_of_ble_eq_true rfl)
  rw [lg_entry_eq]
  generalize (lg_sl ([.ref v0, .int v1, .int v2]) ++ List.replicate (6 - (lg_sl ([.ref v0, .int v1, .int v2])).length) Slot.unset).toArray = ls at hl ⊢
  have hl : lv_has ls 6 [(0, .ref v0), (1, .int v1), (2, .int v2)] := hl
  exact w_X9_fewestPremises ⟨B.exec, B.bytes, B.returns, hml, findClass_of_methodNamed B.named, atoms_spec (ws := wsX9_fewestPremises) B.pre, B.notSynchronized, hK⟩ ek h s.heap [] ls hM va_S.rf hl
end S_X9_fewestPremises
/-! X9_relation -/
set_option maxRecDepth 20000 in
theorem qi_X9_relation_X9 : ∀ w ∈ u_ws RX9 TX9 9, w ∈ wsX9_relation := by decide +kernel
set_option maxRecDepth 20000 in
theorem q_X9_relation_1 : Cond.fieldLink RX9 41 "StageTruths" "proof" "LStageTruths$Proof;" ∈ wsX9_relation := by decide +kernel
noncomputable def f_X9_relation (kn : Nat) (v0 : Nat) (v1 : Int32) (v2 : Int32) (f : mmF) : Option (Int32 × mmF) :=
  (ckO f v0 9).bind fun _ =>
  (f_X9_claimAt v0 v1 f).bind fun q2 =>
  qc q2 (some ((-1 : Int32), f)) (fun r5 =>
  (ckO f v0 9).bind fun _ =>
  (f_X9_claimAt v0 v2 f).bind fun q10 =>
  qc q10 (some ((-1 : Int32), f)) (fun r13 =>
  (ckO f v0 9).bind fun _ =>
  (f_X9_lookAt kn v0 (((1 : Int32) <<< (v1 &&& 31)) ||| ((1 : Int32) <<< (v2 &&& 31))) f).bind fun q26 =>
  (ldR q26 v0 9 6).bind fun x30 =>
  (ckO q26 x30 5).bind fun _ =>
  (f_X5_isFound x30 ((1 : Int32) <<< (v1 &&& 31)) v2 q26).bind fun q37 =>
  (f_X9_truth q37.1 q37.2).bind fun q40 =>
  (ldR q37.2 v0 9 6).bind fun x45 =>
  (ckO q37.2 x45 5).bind fun _ =>
  (f_X5_isFound x45 ((1 : Int32) <<< (v2 &&& 31)) v1 q37.2).bind fun q52 =>
  (f_X9_truth q52.1 q52.2).bind fun q55 =>
  some ((q40 + ((2 : Int32) * q55)), q52.2)))
section S_X9_relation
variable {p : Program} {l : Launch} {e : Env} {s : State} {m : MethodId} {args : Array Value} {below : List Frame} {meth : Method} {c : Code} {D : mmD} {b0 sz : Nat} {f : mmF}
set_option maxHeartbeats 4000000 in
set_option maxRecDepth 100000 in
theorem w_X9_relation (C0 : CX cX9_relation 5 (some .int) wsX9_relation RX9 p s m args meth c D b0) {v0 : Nat} {v1 : Int32} {v2 : Int32} {kn : Nat} (ek : kn = D.2 9) {res : Int32 × mmF} (h : f_X9_relation kn v0 v1 v2 f = some res) : ∀ (H : Heap) (locs : List Loc) (ls : Array Slot), MM vwCl D b0 f sz s H → mS b0 s H locs → lv_has ls 5 [(0, .ref v0), (1, .int v1), (2, .int v2)] → W p l e ({ frames := 167, cells := 0, slots := 0, locals := 4971 } : Room) s m args below meth c H locs 0 0 (MQ below (QW D b0 (some (.int res.1)) res.2 sz) args s 0 0 (fun q => b0 ≤ q)) (F0 m 0 ls []) := by
  obtain ⟨hx, hb, hr, hml, hown, hts, hlocks, hK⟩ := id C0
  intro H locs ls hM hS hl
  unfold f_X9_relation at h
  refine lv_aload_n hx hb dX9_relation_0 rfl (lv_at hl 0 rfl) ?_
  refine lv_iload_n hx hb dX9_relation_1 rfl (lv_at hl 1 rfl) ?_
  replace h := o_b h; obtain ⟨_, k2, h⟩ := h
  replace h := o_b h; obtain ⟨q2, h2, h⟩ := h
  refine m_call (va_runV (As := [.int v1]) (rest := []) ⟨hx, hb, hml, hown, hts⟩ (c_X9_claimAt l D b0 sz h2) (cwV 1 hts gX9_relation_X9_claimAt rfl rfl rfl (by decide +kernel) ⟨Nat.le_of_ble_eq_true rfl, Nat.le_of_ble_eq_true rfl⟩) ⟨PW.blind, m_recv (ci := 9) rfl hK hM k2, (fun U hU hW => ⟨rfl, PW.call hK hM hS hU hW⟩)⟩ rfl rfl hl.1 rfl (lv_room (Nat.le_of_ble_eq_true rfl)) dX9_relation_2 ⟨(Nat.le_refl _), (Nat.le_refl _)⟩) hS (fun H locs hM hS => ?_)
  rcases q2 with _ | r5
  · replace h := qc_n h
    refine lv_ifnullN (tgt := 16) hx hb dX9_relation_5 (by decide) ?_
    refine lv_iconst (v := (-1 : Int32)) hx hb dX9_relation_16 (by decide) ?_
    replace h := Option.some.inj h; subst h
    exact W.iret hx hb hr (fun t ht hW => ⟨rfl, by rw [ht]; exact hM.moved hW.alike, hS.F ht⟩) hS.2.2 dX9_relation_17
  replace h := qc_s h
  refine lv_ifnull hx hb dX9_relation_5 ?_
  refine lv_aload_n hx hb dX9_relation_8 rfl (lv_at hl 0 rfl) ?_
  refine lv_iload_n hx hb dX9_relation_9 rfl (lv_at hl 2 rfl) ?_
  replace h := o_b h; obtain ⟨_, k10, h⟩ := h
  replace h := o_b h; obtain ⟨q10, h10, h⟩ := h
  refine m_call (va_runV (As := [.int v2]) (rest := []) ⟨hx, hb, hml, hown, hts⟩ (c_X9_claimAt l D b0 sz h10) (cwV 1 hts gX9_relation_X9_claimAt rfl rfl rfl (by decide +kernel) ⟨Nat.le_of_ble_eq_true rfl, Nat.le_of_ble_eq_true rfl⟩) ⟨PW.blind, m_recv (ci := 9) rfl hK hM k10, (fun U hU hW => ⟨rfl, PW.call hK hM hS hU hW⟩)⟩ rfl rfl hl.1 rfl (lv_room (Nat.le_of_ble_eq_true rfl)) dX9_relation_10 ⟨(Nat.le_refl _), (Nat.le_refl _)⟩) hS (fun H locs hM hS => ?_)
  rcases q10 with _ | r13
  · replace h := qc_n h
    refine lv_ifnonnullN hx hb dX9_relation_13 ?_
    refine lv_iconst (v := (-1 : Int32)) hx hb dX9_relation_16 (by decide) ?_
    replace h := Option.some.inj h; subst h
    exact W.iret hx hb hr (fun t ht hW => ⟨rfl, by rw [ht]; exact hM.moved hW.alike, hS.F ht⟩) hS.2.2 dX9_relation_17
  replace h := qc_s h
  refine lv_ifnonnull (tgt := 18) hx hb dX9_relation_13 (by decide) ?_
  refine lv_aload_n hx hb dX9_relation_18 rfl (lv_at hl 0 rfl) ?_
  refine lv_iconst (v := (1 : Int32)) hx hb dX9_relation_19 (by decide) ?_
  refine lv_iload_n hx hb dX9_relation_20 rfl (lv_at hl 1 rfl) ?_
  refine lv_ishl hx hb dX9_relation_21 ?_
  refine lv_iconst (v := (1 : Int32)) hx hb dX9_relation_22 (by decide) ?_
  refine lv_iload_n hx hb dX9_relation_23 rfl (lv_at hl 2 rfl) ?_
  refine lv_ishl hx hb dX9_relation_24 ?_
  refine lv_ior hx hb dX9_relation_25 ?_
  replace h := o_b h; obtain ⟨_, k26, h⟩ := h
  replace h := o_b h; obtain ⟨q26, h26, h⟩ := h
  refine m_call (va_runV (As := [.int (((1 : Int32) <<< (v1 &&& 31)) ||| ((1 : Int32) <<< (v2 &&& 31)))]) (rest := []) ⟨hx, hb, hml, hown, hts⟩ (c_X9_lookAt l D b0 sz ek h26) (cwV 1 hts gX9_relation_X9_lookAt rfl rfl rfl (by decide +kernel) ⟨Nat.le_of_ble_eq_true rfl, Nat.le_of_ble_eq_true rfl⟩) ⟨PW.blind, m_recv (ci := 9) rfl hK hM k26, (fun U hU hW => ⟨rfl, PW.call hK hM hS hU hW⟩)⟩ rfl rfl hl.1 rfl (lv_room (Nat.le_of_ble_eq_true rfl)) dX9_relation_26 ⟨(Nat.le_refl _), (Nat.le_refl _)⟩) hS (fun H locs hM hS => ?_)
  refine lv_aload_n hx hb dX9_relation_29 rfl (lv_at hl 0 rfl) ?_
  replace h := o_b h; obtain ⟨x30, h30, h⟩ := h
  refine m_get (C := RX9) (T := TX9) (N := 9) (ci := 9) hx hb hts qi_X9_relation_X9 hown hK.1 hM 6 (ldR_F h30) rfl (by decide) (hts _ q_X9_relation_1) (fun _ h9 => h9) dX9_relation_30 ?_
  refine lv_iconst (v := (1 : Int32)) hx hb dX9_relation_33 (by decide) ?_
  refine lv_iload_n hx hb dX9_relation_34 rfl (lv_at hl 1 rfl) ?_
  refine lv_ishl hx hb dX9_relation_35 ?_
  refine lv_iload_n hx hb dX9_relation_36 rfl (lv_at hl 2 rfl) ?_
  replace h := o_b h; obtain ⟨_, k37, h⟩ := h
  replace h := o_b h; obtain ⟨q37, h37, h⟩ := h
  refine m_call (va_runV (As := [.int ((1 : Int32) <<< (v1 &&& 31)), .int v2]) (rest := []) ⟨hx, hb, hml, hown, hts⟩ (c_X5_isFound l D b0 sz h37) (cwV 2 hts gX9_relation_X5_isFound rfl rfl rfl (by decide +kernel) ⟨Nat.le_of_ble_eq_true rfl, Nat.le_of_ble_eq_true rfl⟩) ⟨PW.blind, m_recv (ci := 5) rfl hK hM k37, (fun U hU hW => ⟨rfl, PW.call hK hM hS hU hW⟩)⟩ rfl rfl hl.1 rfl (lv_room (Nat.le_of_ble_eq_true rfl)) dX9_relation_37 ⟨(Nat.le_refl _), (Nat.le_refl _)⟩) hS (fun H locs hM hS => ?_)
  replace h := o_b h; obtain ⟨q40, h40, h⟩ := h
  refine m_call (va_runS (As := [.int q37.1]) (rest := []) ⟨hx, hb, hml, hown, hts⟩ (c_X9_truth l D b0 sz h40) (va_cwS 1 hts gX9_relation_X9_truth rfl rfl rfl (by decide +kernel) ⟨Nat.le_of_ble_eq_true rfl, Nat.le_of_ble_eq_true rfl⟩) ⟨PW.blind, (fun U hU hW => ⟨rfl, PW.call hK hM hS hU hW⟩)⟩ rfl rfl hl.1 rfl (lv_room (Nat.le_of_ble_eq_true rfl)) dX9_relation_40 ⟨(Nat.le_refl _), (Nat.le_refl _)⟩) hS (fun H locs hM hS => ?_)
  refine lv_istore_n (lv' := [(3, .int q40), (0, .ref v0), (1, .int v1), (2, .int v2)]) hx hb dX9_relation_43 rfl hl (by decide) rfl (fun ls hl => ?_)
  refine lv_aload_n hx hb dX9_relation_44 rfl (lv_at hl 1 rfl) ?_
  replace h := o_b h; obtain ⟨x45, h45, h⟩ := h
  refine m_get (C := RX9) (T := TX9) (N := 9) (ci := 9) hx hb hts qi_X9_relation_X9 hown hK.1 hM 6 (ldR_F h45) rfl (by decide) (hts _ q_X9_relation_1) (fun _ h9 => h9) dX9_relation_45 ?_
  refine lv_iconst (v := (1 : Int32)) hx hb dX9_relation_48 (by decide) ?_
  refine lv_iload_n hx hb dX9_relation_49 rfl (lv_at hl 3 rfl) ?_
  refine lv_ishl hx hb dX9_relation_50 ?_
  refine lv_iload_n hx hb dX9_relation_51 rfl (lv_at hl 2 rfl) ?_
  replace h := o_b h; obtain ⟨_, k52, h⟩ := h
  replace h := o_b h; obtain ⟨q52, h52, h⟩ := h
  refine m_call (va_runV (As := [.int ((1 : Int32) <<< (v2 &&& 31)), .int v1]) (rest := []) ⟨hx, hb, hml, hown, hts⟩ (c_X5_isFound l D b0 sz h52) (cwV 2 hts gX9_relation_X5_isFound rfl rfl rfl (by decide +kernel) ⟨Nat.le_of_ble_eq_true rfl, Nat.le_of_ble_eq_true rfl⟩) ⟨PW.blind, m_recv (ci := 5) rfl hK hM k52, (fun U hU hW => ⟨rfl, PW.call hK hM hS hU hW⟩)⟩ rfl rfl hl.1 rfl (lv_room (Nat.le_of_ble_eq_true rfl)) dX9_relation_52 ⟨(Nat.le_refl _), (Nat.le_refl _)⟩) hS (fun H locs hM hS => ?_)
  replace h := o_b h; obtain ⟨q55, h55, h⟩ := h
  refine m_call (va_runS (As := [.int q52.1]) (rest := []) ⟨hx, hb, hml, hown, hts⟩ (c_X9_truth l D b0 sz h55) (va_cwS 1 hts gX9_relation_X9_truth rfl rfl rfl (by decide +kernel) ⟨Nat.le_of_ble_eq_true rfl, Nat.le_of_ble_eq_true rfl⟩) ⟨PW.blind, (fun U hU hW => ⟨rfl, PW.call hK hM hS hU hW⟩)⟩ rfl rfl hl.1 rfl (lv_room (Nat.le_of_ble_eq_true rfl)) dX9_relation_55 ⟨(Nat.le_refl _), (Nat.le_refl _)⟩) hS (fun H locs hM hS => ?_)
  refine lv_istore (lv' := [(4, .int q55), (3, .int q40), (0, .ref v0), (1, .int v1), (2, .int v2)]) hx hb dX9_relation_58 hl (by decide) rfl (fun ls hl => ?_)
  refine lv_iload_n hx hb dX9_relation_60 rfl (lv_at hl 1 rfl) ?_
  refine lv_iconst (v := (2 : Int32)) hx hb dX9_relation_61 (by decide) ?_
  refine lv_iload hx hb dX9_relation_62 (lv_at hl 0 rfl) ?_
  refine lv_imul hx hb dX9_relation_64 ?_
  refine lv_iadd hx hb dX9_relation_65 ?_
  replace h := Option.some.inj h; subst h
  exact W.iret hx hb hr (fun t ht hW => ⟨rfl, by rw [ht]; exact hM.moved hW.alike, hS.F ht⟩) hS.2.2 dX9_relation_66
set_option maxHeartbeats 4000000 in
set_option maxRecDepth 100000 in
theorem c_X9_relation (l : Launch) (D : mmD) (b0 sz : Nat) {kn : Nat} (ek : kn = D.2 9) {v0 : Nat} {v1 : Int32} {v2 : Int32} {f : mmF} {res : Int32 × mmF} (h : f_X9_relation kn v0 v1 v2 f = some res) : Met l yX9_relation wsX9_relation ({ frames := 167, cells := 0, slots := 0, locals := 4971 } : Room) (va_Pc [.ref v0, .int v1, .int v2] (PW D b0 f sz)) (QW D b0 (some (.int res.1)) res.2 sz) 0 0 (fun q => b0 ≤ q) := by
  refine Met.ofW (cc := cX9_relation) (maxL := 5) (ret := (some .int)) (by decide) rfl ?_
  intro p e s m args below meth c s₁ B hml hv
  obtain ⟨rfl, hM, hK⟩ := hv
  have hl := lv_entry ([.ref v0, .int v1, .int v2]) (n := 5) (Nat.le_of_ble_eq_true rfl)
  rw [lg_entry_eq]
  generalize (lg_sl ([.ref v0, .int v1, .int v2]) ++ List.replicate (5 - (lg_sl ([.ref v0, .int v1, .int v2])).length) Slot.unset).toArray = ls at hl ⊢
  have hl : lv_has ls 5 [(0, .ref v0), (1, .int v1), (2, .int v2)] := hl
  exact w_X9_relation ⟨B.exec, B.bytes, B.returns, hml, findClass_of_methodNamed B.named, atoms_spec (ws := wsX9_relation) B.pre, B.notSynchronized, hK⟩ ek h s.heap [] ls hM va_S.rf hl
end S_X9_relation
/-! X9_count -/
set_option maxRecDepth 20000 in
theorem qi_X9_count_X9 : ∀ w ∈ u_ws RX9 TX9 9, w ∈ wsX9_count := by decide +kernel
set_option maxRecDepth 20000 in
theorem q_X9_count_1 : Cond.fieldLink RX9 10 "StageTruths" "state" "LStageTruths$State;" ∈ wsX9_count := by decide +kernel
set_option maxRecDepth 20000 in
theorem qi_X9_count_X7 : ∀ w ∈ u_ws RX7 TX7 7, w ∈ wsX9_count := by decide +kernel
set_option maxRecDepth 20000 in
theorem q_X9_count_3 : Cond.fieldLink RX9 61 "StageTruths$State" "stages" "I" ∈ wsX9_count := by decide +kernel
set_option maxRecDepth 20000 in
theorem q_X9_count_4 : Cond.fieldLink RX9 20 "StageTruths" "recorded" "I" ∈ wsX9_count := by decide +kernel
set_option maxRecDepth 20000 in
theorem q_X9_count_5 : Cond.fieldLink RX9 34 "StageTruths" "text" "LStageTruths$Text;" ∈ wsX9_count := by decide +kernel
set_option maxRecDepth 20000 in
theorem qi_X9_count_X8 : ∀ w ∈ u_ws RX8 TX8 7, w ∈ wsX9_count := by decide +kernel
set_option maxRecDepth 20000 in
theorem q_X9_count_7 : Cond.fieldLink RX9 164 "StageTruths$Text" "length" "I" ∈ wsX9_count := by decide +kernel
noncomputable def f_X9_count (v0 : Nat) (v1 : Int32) (f : mmF) : Option (Int32 × mmF) :=
  if v1 = (0 : Int32) then
  ((ldR f v0 9 0).bind fun x53 =>
  (ldI f x53 7 0).bind fun x56 =>
  some (x56, f))
  else
  if v1 = (1 : Int32) then
  ((ldR f v0 9 0).bind fun x61 =>
  (ckO f x61 7).bind fun _ =>
  (f_X7_pairs x61 f).bind fun q64 =>
  (ldR f v0 9 0).bind fun x68 =>
  (ldI f x68 7 0).bind fun x71 =>
  some ((q64 - x71), f))
  else
  if v1 = (2 : Int32) then
  ((ldR f v0 9 0).bind fun x77 =>
  (ckO f x77 7).bind fun _ =>
  (f_X7_filledPlaces x77 f).bind fun q80 =>
  (f_J6_bitCount_0f7a4 q80 f).bind fun q83 =>
  some (q83, f))
  else
  if v1 = (3 : Int32) then
  ((ldR f v0 9 0).bind fun x88 =>
  (ckO f x88 7).bind fun _ =>
  (f_X7_lastStages x88 f).bind fun q91 =>
  some (q91, f))
  else
  if v1 = (4 : Int32) then
  ((ldR f v0 9 0).bind fun x96 =>
  (ckO f x96 7).bind fun _ =>
  (f_X7_firstStages x96 f).bind fun q99 =>
  some (q99, f))
  else
  if v1 = (5 : Int32) then
  ((ldR f v0 9 0).bind fun x104 =>
  (ckO f x104 7).bind fun _ =>
  (f_X7_findLikes x104 f).bind fun q107 =>
  (ldR q107 v0 9 0).bind fun x111 =>
  (ckO q107 x111 7).bind fun _ =>
  (f_X7_unlike x111 q107).bind fun q114 =>
  some (q114, q107))
  else
  if v1 = (6 : Int32) then
  ((ldR f v0 9 0).bind fun x119 =>
  (ckO f x119 7).bind fun _ =>
  (f_X7_commonFacts x119 f).bind fun q122 =>
  some (q122, f))
  else
  if v1 = (7 : Int32) then
  ((ldI f v0 9 2).bind fun x127 =>
  some (x127, f))
  else
  if v1 = (8 : Int32) then
  ((ldR f v0 9 5).bind fun x132 =>
  (ldI f x132 8 0).bind fun x135 =>
  some (x135, f))
  else
  some ((-2 : Int32), f)
section S_X9_count
variable {p : Program} {l : Launch} {e : Env} {s : State} {m : MethodId} {args : Array Value} {below : List Frame} {meth : Method} {c : Code} {D : mmD} {b0 sz : Nat} {f : mmF}
set_option maxHeartbeats 4000000 in
set_option maxRecDepth 100000 in
theorem w_X9_count (C0 : CX cX9_count 2 (some .int) wsX9_count RX9 p s m args meth c D b0) {v0 : Nat} {v1 : Int32} {res : Int32 × mmF} (h : f_X9_count v0 v1 f = some res) : ∀ (H : Heap) (locs : List Loc) (ls : Array Slot), MM vwCl D b0 f sz s H → mS b0 s H locs → lv_has ls 2 [(0, .ref v0), (1, .int v1)] → W p l e ({ frames := 3, cells := 0, slots := 0, locals := 66 } : Room) s m args below meth c H locs 0 0 (MQ below (QW D b0 (some (.int res.1)) res.2 sz) args s 0 0 (fun q => b0 ≤ q)) (F0 m 0 ls []) := by
  obtain ⟨hx, hb, hr, hml, hown, hts, hlocks, hK⟩ := id C0
  intro H locs ls hM hS hl
  unfold f_X9_count at h
  refine lv_iload_n hx hb dX9_count_0 rfl (lv_at hl 1 rfl) ?_
  by_cases c1_0 : v1 = (0 : Int32)
  · replace h := o_t c1_0 h
    refine lv_tableIn (tgt := 52) hx hb dX9_count_1 (by rw [c1_0]; decide) (by rw [c1_0]; decide) (by rw [c1_0]; rfl) (by decide) ?_
    refine lv_aload_n hx hb dX9_count_52 rfl (lv_at hl 0 rfl) ?_
    replace h := o_b h; obtain ⟨x53, h53, h⟩ := h
    refine m_get (C := RX9) (T := TX9) (N := 9) (ci := 9) hx hb hts qi_X9_count_X9 hown hK.1 hM 0 (ldR_F h53) rfl (by decide) (hts _ q_X9_count_1) (fun _ h9 => h9) dX9_count_53 ?_
    replace h := o_b h; obtain ⟨x56, h56, h⟩ := h
    refine m_get (C := RX7) (T := TX7) (N := 7) (ci := 7) hx hb hts qi_X9_count_X7 hown hK.1 hM 0 (ldI_F h56) rfl (by decide) (hts _ q_X9_count_3) (fun _ h9 => h9) dX9_count_56 ?_
    replace h := Option.some.inj h; subst h
    exact W.iret hx hb hr (fun t ht hW => ⟨rfl, by rw [ht]; exact hM.moved hW.alike, hS.F ht⟩) hS.2.2 dX9_count_59
  replace h := o_f c1_0 h
  by_cases c1_1 : v1 = (1 : Int32)
  · replace h := o_t c1_1 h
    refine lv_tableIn (tgt := 60) hx hb dX9_count_1 (by rw [c1_1]; decide) (by rw [c1_1]; decide) (by rw [c1_1]; rfl) (by decide) ?_
    refine lv_aload_n hx hb dX9_count_60 rfl (lv_at hl 0 rfl) ?_
    replace h := o_b h; obtain ⟨x61, h61, h⟩ := h
    refine m_get (C := RX9) (T := TX9) (N := 9) (ci := 9) hx hb hts qi_X9_count_X9 hown hK.1 hM 0 (ldR_F h61) rfl (by decide) (hts _ q_X9_count_1) (fun _ h9 => h9) dX9_count_61 ?_
    replace h := o_b h; obtain ⟨_, k64, h⟩ := h
    replace h := o_b h; obtain ⟨q64, h64, h⟩ := h
    refine m_call (va_runV (As := []) (rest := []) ⟨hx, hb, hml, hown, hts⟩ (c_X7_pairs l D b0 sz h64) (cwV 0 hts gX9_count_X7_pairs rfl rfl rfl (by decide +kernel) ⟨Nat.le_of_ble_eq_true rfl, Nat.le_of_ble_eq_true rfl⟩) ⟨PW.blind, m_recv (ci := 7) rfl hK hM k64, (fun U hU hW => ⟨rfl, PW.call hK hM hS hU hW⟩)⟩ rfl rfl hl.1 rfl (lv_room (Nat.le_of_ble_eq_true rfl)) dX9_count_64 ⟨(Nat.le_refl _), (Nat.le_refl _)⟩) hS (fun H locs hM hS => ?_)
    refine lv_aload_n hx hb dX9_count_67 rfl (lv_at hl 0 rfl) ?_
    replace h := o_b h; obtain ⟨x68, h68, h⟩ := h
    refine m_get (C := RX9) (T := TX9) (N := 9) (ci := 9) hx hb hts qi_X9_count_X9 hown hK.1 hM 0 (ldR_F h68) rfl (by decide) (hts _ q_X9_count_1) (fun _ h9 => h9) dX9_count_68 ?_
    replace h := o_b h; obtain ⟨x71, h71, h⟩ := h
    refine m_get (C := RX7) (T := TX7) (N := 7) (ci := 7) hx hb hts qi_X9_count_X7 hown hK.1 hM 0 (ldI_F h71) rfl (by decide) (hts _ q_X9_count_3) (fun _ h9 => h9) dX9_count_71 ?_
    refine lv_isub hx hb dX9_count_74 ?_
    replace h := Option.some.inj h; subst h
    exact W.iret hx hb hr (fun t ht hW => ⟨rfl, by rw [ht]; exact hM.moved hW.alike, hS.F ht⟩) hS.2.2 dX9_count_75
  replace h := o_f c1_1 h
  by_cases c1_2 : v1 = (2 : Int32)
  · replace h := o_t c1_2 h
    refine lv_tableIn (tgt := 76) hx hb dX9_count_1 (by rw [c1_2]; decide) (by rw [c1_2]; decide) (by rw [c1_2]; rfl) (by decide) ?_
    refine lv_aload_n hx hb dX9_count_76 rfl (lv_at hl 0 rfl) ?_
    replace h := o_b h; obtain ⟨x77, h77, h⟩ := h
    refine m_get (C := RX9) (T := TX9) (N := 9) (ci := 9) hx hb hts qi_X9_count_X9 hown hK.1 hM 0 (ldR_F h77) rfl (by decide) (hts _ q_X9_count_1) (fun _ h9 => h9) dX9_count_77 ?_
    replace h := o_b h; obtain ⟨_, k80, h⟩ := h
    replace h := o_b h; obtain ⟨q80, h80, h⟩ := h
    refine m_call (va_runV (As := []) (rest := []) ⟨hx, hb, hml, hown, hts⟩ (c_X7_filledPlaces l D b0 sz h80) (cwV 0 hts gX9_count_X7_filledPlaces rfl rfl rfl (by decide +kernel) ⟨Nat.le_of_ble_eq_true rfl, Nat.le_of_ble_eq_true rfl⟩) ⟨PW.blind, m_recv (ci := 7) rfl hK hM k80, (fun U hU hW => ⟨rfl, PW.call hK hM hS hU hW⟩)⟩ rfl rfl hl.1 rfl (lv_room (Nat.le_of_ble_eq_true rfl)) dX9_count_80 ⟨(Nat.le_refl _), (Nat.le_refl _)⟩) hS (fun H locs hM hS => ?_)
    replace h := o_b h; obtain ⟨q83, h83, h⟩ := h
    refine m_call (va_runS (As := [.int q80]) (rest := []) ⟨hx, hb, hml, hown, hts⟩ (c_J6_bitCount_0f7a4 l D b0 sz h83) (va_cwS 1 hts gX9_count_J6_bitCount_0f7a4 rfl rfl rfl (by decide +kernel) ⟨Nat.le_of_ble_eq_true rfl, Nat.le_of_ble_eq_true rfl⟩) ⟨PW.blind, (fun U hU hW => ⟨rfl, PW.call hK hM hS hU hW⟩)⟩ rfl rfl hl.1 rfl (lv_room (Nat.le_of_ble_eq_true rfl)) dX9_count_83 ⟨(Nat.le_refl _), (Nat.le_refl _)⟩) hS (fun H locs hM hS => ?_)
    replace h := Option.some.inj h; subst h
    exact W.iret hx hb hr (fun t ht hW => ⟨rfl, by rw [ht]; exact hM.moved hW.alike, hS.F ht⟩) hS.2.2 dX9_count_86
  replace h := o_f c1_2 h
  by_cases c1_3 : v1 = (3 : Int32)
  · replace h := o_t c1_3 h
    refine lv_tableIn (tgt := 87) hx hb dX9_count_1 (by rw [c1_3]; decide) (by rw [c1_3]; decide) (by rw [c1_3]; rfl) (by decide) ?_
    refine lv_aload_n hx hb dX9_count_87 rfl (lv_at hl 0 rfl) ?_
    replace h := o_b h; obtain ⟨x88, h88, h⟩ := h
    refine m_get (C := RX9) (T := TX9) (N := 9) (ci := 9) hx hb hts qi_X9_count_X9 hown hK.1 hM 0 (ldR_F h88) rfl (by decide) (hts _ q_X9_count_1) (fun _ h9 => h9) dX9_count_88 ?_
    replace h := o_b h; obtain ⟨_, k91, h⟩ := h
    replace h := o_b h; obtain ⟨q91, h91, h⟩ := h
    refine m_call (va_runV (As := []) (rest := []) ⟨hx, hb, hml, hown, hts⟩ (c_X7_lastStages l D b0 sz h91) (cwV 0 hts gX9_count_X7_lastStages rfl rfl rfl (by decide +kernel) ⟨Nat.le_of_ble_eq_true rfl, Nat.le_of_ble_eq_true rfl⟩) ⟨PW.blind, m_recv (ci := 7) rfl hK hM k91, (fun U hU hW => ⟨rfl, PW.call hK hM hS hU hW⟩)⟩ rfl rfl hl.1 rfl (lv_room (Nat.le_of_ble_eq_true rfl)) dX9_count_91 ⟨(Nat.le_refl _), (Nat.le_refl _)⟩) hS (fun H locs hM hS => ?_)
    replace h := Option.some.inj h; subst h
    exact W.iret hx hb hr (fun t ht hW => ⟨rfl, by rw [ht]; exact hM.moved hW.alike, hS.F ht⟩) hS.2.2 dX9_count_94
  replace h := o_f c1_3 h
  by_cases c1_4 : v1 = (4 : Int32)
  · replace h := o_t c1_4 h
    refine lv_tableIn (tgt := 95) hx hb dX9_count_1 (by rw [c1_4]; decide) (by rw [c1_4]; decide) (by rw [c1_4]; rfl) (by decide) ?_
    refine lv_aload_n hx hb dX9_count_95 rfl (lv_at hl 0 rfl) ?_
    replace h := o_b h; obtain ⟨x96, h96, h⟩ := h
    refine m_get (C := RX9) (T := TX9) (N := 9) (ci := 9) hx hb hts qi_X9_count_X9 hown hK.1 hM 0 (ldR_F h96) rfl (by decide) (hts _ q_X9_count_1) (fun _ h9 => h9) dX9_count_96 ?_
    replace h := o_b h; obtain ⟨_, k99, h⟩ := h
    replace h := o_b h; obtain ⟨q99, h99, h⟩ := h
    refine m_call (va_runV (As := []) (rest := []) ⟨hx, hb, hml, hown, hts⟩ (c_X7_firstStages l D b0 sz h99) (cwV 0 hts gX9_count_X7_firstStages rfl rfl rfl (by decide +kernel) ⟨Nat.le_of_ble_eq_true rfl, Nat.le_of_ble_eq_true rfl⟩) ⟨PW.blind, m_recv (ci := 7) rfl hK hM k99, (fun U hU hW => ⟨rfl, PW.call hK hM hS hU hW⟩)⟩ rfl rfl hl.1 rfl (lv_room (Nat.le_of_ble_eq_true rfl)) dX9_count_99 ⟨(Nat.le_refl _), (Nat.le_refl _)⟩) hS (fun H locs hM hS => ?_)
    replace h := Option.some.inj h; subst h
    exact W.iret hx hb hr (fun t ht hW => ⟨rfl, by rw [ht]; exact hM.moved hW.alike, hS.F ht⟩) hS.2.2 dX9_count_102
  replace h := o_f c1_4 h
  by_cases c1_5 : v1 = (5 : Int32)
  · replace h := o_t c1_5 h
    refine lv_tableIn (tgt := 103) hx hb dX9_count_1 (by rw [c1_5]; decide) (by rw [c1_5]; decide) (by rw [c1_5]; rfl) (by decide) ?_
    refine lv_aload_n hx hb dX9_count_103 rfl (lv_at hl 0 rfl) ?_
    replace h := o_b h; obtain ⟨x104, h104, h⟩ := h
    refine m_get (C := RX9) (T := TX9) (N := 9) (ci := 9) hx hb hts qi_X9_count_X9 hown hK.1 hM 0 (ldR_F h104) rfl (by decide) (hts _ q_X9_count_1) (fun _ h9 => h9) dX9_count_104 ?_
    replace h := o_b h; obtain ⟨_, k107, h⟩ := h
    replace h := o_b h; obtain ⟨q107, h107, h⟩ := h
    refine m_call (va_runV (As := []) (rest := []) ⟨hx, hb, hml, hown, hts⟩ (c_X7_findLikes l D b0 sz h107) (cwV 0 hts gX9_count_X7_findLikes rfl rfl rfl (by decide +kernel) ⟨Nat.le_of_ble_eq_true rfl, Nat.le_of_ble_eq_true rfl⟩) ⟨PW.blind, m_recv (ci := 7) rfl hK hM k107, (fun U hU hW => ⟨rfl, PW.call hK hM hS hU hW⟩)⟩ rfl rfl hl.1 rfl (lv_room (Nat.le_of_ble_eq_true rfl)) dX9_count_107 ⟨(Nat.le_refl _), (Nat.le_refl _)⟩) hS (fun H locs hM hS => ?_)
    refine lv_aload_n hx hb dX9_count_110 rfl (lv_at hl 0 rfl) ?_
    replace h := o_b h; obtain ⟨x111, h111, h⟩ := h
    refine m_get (C := RX9) (T := TX9) (N := 9) (ci := 9) hx hb hts qi_X9_count_X9 hown hK.1 hM 0 (ldR_F h111) rfl (by decide) (hts _ q_X9_count_1) (fun _ h9 => h9) dX9_count_111 ?_
    replace h := o_b h; obtain ⟨_, k114, h⟩ := h
    replace h := o_b h; obtain ⟨q114, h114, h⟩ := h
    refine m_call (va_runV (As := []) (rest := []) ⟨hx, hb, hml, hown, hts⟩ (c_X7_unlike l D b0 sz h114) (cwV 0 hts gX9_count_X7_unlike rfl rfl rfl (by decide +kernel) ⟨Nat.le_of_ble_eq_true rfl, Nat.le_of_ble_eq_true rfl⟩) ⟨PW.blind, m_recv (ci := 7) rfl hK hM k114, (fun U hU hW => ⟨rfl, PW.call hK hM hS hU hW⟩)⟩ rfl rfl hl.1 rfl (lv_room (Nat.le_of_ble_eq_true rfl)) dX9_count_114 ⟨(Nat.le_refl _), (Nat.le_refl _)⟩) hS (fun H locs hM hS => ?_)
    replace h := Option.some.inj h; subst h
    exact W.iret hx hb hr (fun t ht hW => ⟨rfl, by rw [ht]; exact hM.moved hW.alike, hS.F ht⟩) hS.2.2 dX9_count_117
  replace h := o_f c1_5 h
  by_cases c1_6 : v1 = (6 : Int32)
  · replace h := o_t c1_6 h
    refine lv_tableIn (tgt := 118) hx hb dX9_count_1 (by rw [c1_6]; decide) (by rw [c1_6]; decide) (by rw [c1_6]; rfl) (by decide) ?_
    refine lv_aload_n hx hb dX9_count_118 rfl (lv_at hl 0 rfl) ?_
    replace h := o_b h; obtain ⟨x119, h119, h⟩ := h
    refine m_get (C := RX9) (T := TX9) (N := 9) (ci := 9) hx hb hts qi_X9_count_X9 hown hK.1 hM 0 (ldR_F h119) rfl (by decide) (hts _ q_X9_count_1) (fun _ h9 => h9) dX9_count_119 ?_
    replace h := o_b h; obtain ⟨_, k122, h⟩ := h
    replace h := o_b h; obtain ⟨q122, h122, h⟩ := h
    refine m_call (va_runV (As := []) (rest := []) ⟨hx, hb, hml, hown, hts⟩ (c_X7_commonFacts l D b0 sz h122) (cwV 0 hts gX9_count_X7_commonFacts rfl rfl rfl (by decide +kernel) ⟨Nat.le_of_ble_eq_true rfl, Nat.le_of_ble_eq_true rfl⟩) ⟨PW.blind, m_recv (ci := 7) rfl hK hM k122, (fun U hU hW => ⟨rfl, PW.call hK hM hS hU hW⟩)⟩ rfl rfl hl.1 rfl (lv_room (Nat.le_of_ble_eq_true rfl)) dX9_count_122 ⟨(Nat.le_refl _), (Nat.le_refl _)⟩) hS (fun H locs hM hS => ?_)
    replace h := Option.some.inj h; subst h
    exact W.iret hx hb hr (fun t ht hW => ⟨rfl, by rw [ht]; exact hM.moved hW.alike, hS.F ht⟩) hS.2.2 dX9_count_125
  replace h := o_f c1_6 h
  by_cases c1_7 : v1 = (7 : Int32)
  · replace h := o_t c1_7 h
    refine lv_tableIn (tgt := 126) hx hb dX9_count_1 (by rw [c1_7]; decide) (by rw [c1_7]; decide) (by rw [c1_7]; rfl) (by decide) ?_
    refine lv_aload_n hx hb dX9_count_126 rfl (lv_at hl 0 rfl) ?_
    replace h := o_b h; obtain ⟨x127, h127, h⟩ := h
    refine m_get (C := RX9) (T := TX9) (N := 9) (ci := 9) hx hb hts qi_X9_count_X9 hown hK.1 hM 2 (ldI_F h127) rfl (by decide) (hts _ q_X9_count_4) (fun _ h9 => h9) dX9_count_127 ?_
    replace h := Option.some.inj h; subst h
    exact W.iret hx hb hr (fun t ht hW => ⟨rfl, by rw [ht]; exact hM.moved hW.alike, hS.F ht⟩) hS.2.2 dX9_count_130
  replace h := o_f c1_7 h
  by_cases c1_8 : v1 = (8 : Int32)
  · replace h := o_t c1_8 h
    refine lv_tableIn (tgt := 131) hx hb dX9_count_1 (by rw [c1_8]; decide) (by rw [c1_8]; decide) (by rw [c1_8]; rfl) (by decide) ?_
    refine lv_aload_n hx hb dX9_count_131 rfl (lv_at hl 0 rfl) ?_
    replace h := o_b h; obtain ⟨x132, h132, h⟩ := h
    refine m_get (C := RX9) (T := TX9) (N := 9) (ci := 9) hx hb hts qi_X9_count_X9 hown hK.1 hM 5 (ldR_F h132) rfl (by decide) (hts _ q_X9_count_5) (fun _ h9 => h9) dX9_count_132 ?_
    replace h := o_b h; obtain ⟨x135, h135, h⟩ := h
    refine m_get (C := RX8) (T := TX8) (N := 7) (ci := 8) hx hb hts qi_X9_count_X8 hown hK.1 hM 0 (ldI_F h135) rfl (by decide) (hts _ q_X9_count_7) (fun _ h9 => h9) dX9_count_135 ?_
    replace h := Option.some.inj h; subst h
    exact W.iret hx hb hr (fun t ht hW => ⟨rfl, by rw [ht]; exact hM.moved hW.alike, hS.F ht⟩) hS.2.2 dX9_count_138
  replace h := o_f c1_8 h
  refine lv_tableOut (tgt := 139) hx hb dX9_count_1 (by have n0 := lv_neT c1_0 (a := 0) (by decide); have n1 := lv_neT c1_1 (a := 1) (by decide); have n2 := lv_neT c1_2 (a := 2) (by decide); have n3 := lv_neT c1_3 (a := 3) (by decide); have n4 := lv_neT c1_4 (a := 4) (by decide); have n5 := lv_neT c1_5 (a := 5) (by decide); have n6 := lv_neT c1_6 (a := 6) (by decide); have n7 := lv_neT c1_7 (a := 7) (by decide); have n8 := lv_neT c1_8 (a := 8) (by decide); omega) (by decide) ?_
  refine lv_bipush (v := (-2 : Int32)) hx hb dX9_count_139 (by decide) ?_
  replace h := Option.some.inj h; subst h
  exact W.iret hx hb hr (fun t ht hW => ⟨rfl, by rw [ht]; exact hM.moved hW.alike, hS.F ht⟩) hS.2.2 dX9_count_141
set_option maxHeartbeats 4000000 in
set_option maxRecDepth 100000 in
theorem c_X9_count (l : Launch) (D : mmD) (b0 sz : Nat) {v0 : Nat} {v1 : Int32} {f : mmF} {res : Int32 × mmF} (h : f_X9_count v0 v1 f = some res) : Met l yX9_count wsX9_count ({ frames := 3, cells := 0, slots := 0, locals := 66 } : Room) (va_Pc [.ref v0, .int v1] (PW D b0 f sz)) (QW D b0 (some (.int res.1)) res.2 sz) 0 0 (fun q => b0 ≤ q) := by
  refine Met.ofW (cc := cX9_count) (maxL := 2) (ret := (some .int)) (by decide) rfl ?_
  intro p e s m args below meth c s₁ B hml hv
  obtain ⟨rfl, hM, hK⟩ := hv
  have hl := lv_entry ([.ref v0, .int v1]) (n := 2) (Nat.le_of_ble_eq_true rfl)
  rw [lg_entry_eq]
  generalize (lg_sl ([.ref v0, .int v1]) ++ List.replicate (2 - (lg_sl ([.ref v0, .int v1])).length) Slot.unset).toArray = ls at hl ⊢
  have hl : lv_has ls 2 [(0, .ref v0), (1, .int v1)] := hl
  exact w_X9_count ⟨B.exec, B.bytes, B.returns, hml, findClass_of_methodNamed B.named, atoms_spec (ws := wsX9_count) B.pre, B.notSynchronized, hK⟩ h s.heap [] ls hM va_S.rf hl
end S_X9_count
/-! X10_init -/
set_option maxRecDepth 20000 in
theorem q_X10_init_0 : Cond.methodLink RX10 1 objectInit ∈ wsX10_init := by decide +kernel
set_option maxRecDepth 20000 in
theorem q_X10_init_1 : Cond.instanceMethod objectInit ∈ wsX10_init := by decide +kernel
set_option maxRecDepth 20000 in
theorem q_X10_init_2 : Cond.code objectInit ⟨#[0xb1]⟩ 1 none ∈ wsX10_init := by decide +kernel
set_option maxRecDepth 20000 in
theorem q_X10_init_3 : Cond.arrayClass .int ∈ wsX10_init := by decide +kernel
set_option maxRecDepth 20000 in
theorem qi_X10_init_X10 : ∀ w ∈ u_ws RX10 TX10 25, w ∈ wsX10_init := by decide +kernel
set_option maxRecDepth 20000 in
theorem q_X10_init_5 : Cond.fieldLink RX10 7 "StageTruthsModel" "now" "[I" ∈ wsX10_init := by decide +kernel
set_option maxRecDepth 20000 in
theorem q_X10_init_6 : Cond.fieldLink RX10 13 "StageTruthsModel" "history" "[I" ∈ wsX10_init := by decide +kernel
set_option maxRecDepth 20000 in
theorem q_X10_init_7 : Cond.fieldLink RX10 16 "StageTruthsModel" "slot" "[I" ∈ wsX10_init := by decide +kernel
set_option maxRecDepth 20000 in
theorem q_X10_init_8 : Cond.fieldLink RX10 19 "StageTruthsModel" "like" "[I" ∈ wsX10_init := by decide +kernel
set_option maxRecDepth 20000 in
theorem q_X10_init_9 : Cond.fieldLink RX10 22 "StageTruthsModel" "leadsThen" "[I" ∈ wsX10_init := by decide +kernel
set_option maxRecDepth 20000 in
theorem q_X10_init_10 : Cond.arrayClass .char ∈ wsX10_init := by decide +kernel
set_option maxRecDepth 20000 in
theorem q_X10_init_11 : Cond.fieldLink RX10 25 "StageTruthsModel" "text" "[C" ∈ wsX10_init := by decide +kernel
set_option maxRecDepth 20000 in
theorem q_X10_init_12 : Cond.fieldLink RX10 29 "StageTruthsModel" "signs" "[I" ∈ wsX10_init := by decide +kernel
set_option maxRecDepth 20000 in
theorem q_X10_init_13 : Cond.fieldLink RX10 32 "StageTruthsModel" "waiting" "[I" ∈ wsX10_init := by decide +kernel
set_option maxRecDepth 20000 in
theorem q_X10_init_14 : Cond.fieldLink RX10 35 "StageTruthsModel" "stack" "[I" ∈ wsX10_init := by decide +kernel
set_option maxRecDepth 20000 in
theorem q_X10_init_15 : Cond.fieldLink RX10 38 "StageTruthsModel" "op" "[I" ∈ wsX10_init := by decide +kernel
set_option maxRecDepth 20000 in
theorem q_X10_init_16 : Cond.fieldLink RX10 41 "StageTruthsModel" "left" "[I" ∈ wsX10_init := by decide +kernel
set_option maxRecDepth 20000 in
theorem q_X10_init_17 : Cond.fieldLink RX10 44 "StageTruthsModel" "right" "[I" ∈ wsX10_init := by decide +kernel
set_option maxRecDepth 20000 in
theorem q_X10_init_18 : Cond.constant RX10 47 (91000) ∈ wsX10_init := by decide +kernel
set_option maxRecDepth 20000 in
theorem q_X10_init_19 : Cond.fieldLink RX10 48 "StageTruthsModel" "where" "[I" ∈ wsX10_init := by decide +kernel
set_option maxRecDepth 20000 in
theorem q_X10_init_20 : Cond.fieldLink RX10 51 "StageTruthsModel" "given" "[I" ∈ wsX10_init := by decide +kernel
set_option maxRecDepth 20000 in
theorem q_X10_init_21 : Cond.fieldLink RX10 54 "StageTruthsModel" "goal" "[I" ∈ wsX10_init := by decide +kernel
set_option maxRecDepth 20000 in
theorem q_X10_init_22 : Cond.fieldLink RX10 57 "StageTruthsModel" "phase" "[I" ∈ wsX10_init := by decide +kernel
set_option maxRecDepth 20000 in
theorem q_X10_init_23 : Cond.fieldLink RX10 60 "StageTruthsModel" "option" "[I" ∈ wsX10_init := by decide +kernel
set_option maxRecDepth 20000 in
theorem q_X10_init_24 : Cond.fieldLink RX10 63 "StageTruthsModel" "start" "[I" ∈ wsX10_init := by decide +kernel
noncomputable def f_X10_init (v0 : Nat) (f : mmF) (sz : Nat) : Option (mmF × Nat) :=
  (some (va_up f sz (some (.inl (0, 172, .inl (fun _ => 0)))))).bind fun f8 =>
  (stF f8 v0 10 0 (.ref sz)).bind fun f10 =>
  (some (va_up f10 (sz + 1) (some (.inl (0, 688, .inl (fun _ => 0)))))).bind fun f17 =>
  (stF f17 v0 10 1 (.ref (sz + 1))).bind fun f19 =>
  (some (va_up f19 ((sz + 1) + 1) (some (.inl (0, 172, .inl (fun _ => 0)))))).bind fun f26 =>
  (stF f26 v0 10 3 (.ref ((sz + 1) + 1))).bind fun f28 =>
  (some (va_up f28 (((sz + 1) + 1) + 1) (some (.inl (0, 8, .inl (fun _ => 0)))))).bind fun f34 =>
  (stF f34 v0 10 5 (.ref (((sz + 1) + 1) + 1))).bind fun f36 =>
  (some (va_up f36 ((((sz + 1) + 1) + 1) + 1) (some (.inl (0, 8, .inl (fun _ => 0)))))).bind fun f42 =>
  (stF f42 v0 10 6 (.ref ((((sz + 1) + 1) + 1) + 1))).bind fun f44 =>
  (some (va_up f44 (((((sz + 1) + 1) + 1) + 1) + 1) (some (.inl (1, 30, .inl (fun _ => 0)))))).bind fun f50 =>
  (stF f50 v0 10 8 (.ref (((((sz + 1) + 1) + 1) + 1) + 1))).bind fun f52 =>
  (some (va_up f52 ((((((sz + 1) + 1) + 1) + 1) + 1) + 1) (some (.inl (0, 31, .inl (fun _ => 0)))))).bind fun f58 =>
  (stF f58 v0 10 10 (.ref ((((((sz + 1) + 1) + 1) + 1) + 1) + 1))).bind fun f60 =>
  (some (va_up f60 (((((((sz + 1) + 1) + 1) + 1) + 1) + 1) + 1) (some (.inl (0, 31, .inl (fun _ => 0)))))).bind fun f66 =>
  (stF f66 v0 10 12 (.ref (((((((sz + 1) + 1) + 1) + 1) + 1) + 1) + 1))).bind fun f68 =>
  (some (va_up f68 ((((((((sz + 1) + 1) + 1) + 1) + 1) + 1) + 1) + 1) (some (.inl (0, 32, .inl (fun _ => 0)))))).bind fun f74 =>
  (stF f74 v0 10 14 (.ref ((((((((sz + 1) + 1) + 1) + 1) + 1) + 1) + 1) + 1))).bind fun f76 =>
  (some (va_up f76 (((((((((sz + 1) + 1) + 1) + 1) + 1) + 1) + 1) + 1) + 1) (some (.inl (0, 1000, .inl (fun _ => 0)))))).bind fun f83 =>
  (stF f83 v0 10 15 (.ref (((((((((sz + 1) + 1) + 1) + 1) + 1) + 1) + 1) + 1) + 1))).bind fun f85 =>
  (some (va_up f85 ((((((((((sz + 1) + 1) + 1) + 1) + 1) + 1) + 1) + 1) + 1) + 1) (some (.inl (0, 1000, .inl (fun _ => 0)))))).bind fun f92 =>
  (stF f92 v0 10 16 (.ref ((((((((((sz + 1) + 1) + 1) + 1) + 1) + 1) + 1) + 1) + 1) + 1))).bind fun f94 =>
  (some (va_up f94 (((((((((((sz + 1) + 1) + 1) + 1) + 1) + 1) + 1) + 1) + 1) + 1) + 1) (some (.inl (0, 1000, .inl (fun _ => 0)))))).bind fun f101 =>
  (stF f101 v0 10 17 (.ref (((((((((((sz + 1) + 1) + 1) + 1) + 1) + 1) + 1) + 1) + 1) + 1) + 1))).bind fun f103 =>
  (some (va_up f103 ((((((((((((sz + 1) + 1) + 1) + 1) + 1) + 1) + 1) + 1) + 1) + 1) + 1) + 1) (some (.inl (0, 91000, .inl (fun _ => 0)))))).bind fun f109 =>
  (stF f109 v0 10 18 (.ref ((((((((((((sz + 1) + 1) + 1) + 1) + 1) + 1) + 1) + 1) + 1) + 1) + 1) + 1))).bind fun f111 =>
  (some (va_up f111 (((((((((((((sz + 1) + 1) + 1) + 1) + 1) + 1) + 1) + 1) + 1) + 1) + 1) + 1) + 1) (some (.inl (0, 19200, .inl (fun _ => 0)))))).bind fun f118 =>
  (stF f118 v0 10 20 (.ref (((((((((((((sz + 1) + 1) + 1) + 1) + 1) + 1) + 1) + 1) + 1) + 1) + 1) + 1) + 1))).bind fun f120 =>
  (some (va_up f120 ((((((((((((((sz + 1) + 1) + 1) + 1) + 1) + 1) + 1) + 1) + 1) + 1) + 1) + 1) + 1) + 1) (some (.inl (0, 600, .inl (fun _ => 0)))))).bind fun f127 =>
  (stF f127 v0 10 21 (.ref ((((((((((((((sz + 1) + 1) + 1) + 1) + 1) + 1) + 1) + 1) + 1) + 1) + 1) + 1) + 1) + 1))).bind fun f129 =>
  (some (va_up f129 (((((((((((((((sz + 1) + 1) + 1) + 1) + 1) + 1) + 1) + 1) + 1) + 1) + 1) + 1) + 1) + 1) + 1) (some (.inl (0, 600, .inl (fun _ => 0)))))).bind fun f136 =>
  (stF f136 v0 10 22 (.ref (((((((((((((((sz + 1) + 1) + 1) + 1) + 1) + 1) + 1) + 1) + 1) + 1) + 1) + 1) + 1) + 1) + 1))).bind fun f138 =>
  (some (va_up f138 ((((((((((((((((sz + 1) + 1) + 1) + 1) + 1) + 1) + 1) + 1) + 1) + 1) + 1) + 1) + 1) + 1) + 1) + 1) (some (.inl (0, 600, .inl (fun _ => 0)))))).bind fun f145 =>
  (stF f145 v0 10 23 (.ref ((((((((((((((((sz + 1) + 1) + 1) + 1) + 1) + 1) + 1) + 1) + 1) + 1) + 1) + 1) + 1) + 1) + 1) + 1))).bind fun f147 =>
  (some (va_up f147 (((((((((((((((((sz + 1) + 1) + 1) + 1) + 1) + 1) + 1) + 1) + 1) + 1) + 1) + 1) + 1) + 1) + 1) + 1) + 1) (some (.inl (0, 31, .inl (fun _ => 0)))))).bind fun f153 =>
  (stF f153 v0 10 24 (.ref (((((((((((((((((sz + 1) + 1) + 1) + 1) + 1) + 1) + 1) + 1) + 1) + 1) + 1) + 1) + 1) + 1) + 1) + 1) + 1))).bind fun f155 =>
  (ldR f155 v0 10 0).bind fun x159 =>
  (stA 0 f155 x159 (0 : Int32) (1 : Int32)).bind fun f164 =>
  (ldR f164 v0 10 0).bind fun x166 =>
  (stA 0 f164 x166 (16 : Int32) (1 : Int32)).bind fun f172 =>
  some (f172, ((((((((((((((((((sz + 1) + 1) + 1) + 1) + 1) + 1) + 1) + 1) + 1) + 1) + 1) + 1) + 1) + 1) + 1) + 1) + 1) + 1))
section S_X10_init
variable {p : Program} {l : Launch} {e : Env} {s : State} {m : MethodId} {args : Array Value} {below : List Frame} {meth : Method} {c : Code} {D : mmD} {b0 sz : Nat} {f : mmF}
set_option maxHeartbeats 4000000 in
set_option maxRecDepth 100000 in
theorem w_X10_init (C0 : CX cX10_init 1 none wsX10_init RX10 p s m args meth c D b0) (hin : meth.name = "<init>") {v0 : Nat} {res : mmF × Nat} (h : f_X10_init v0 f sz = some res) : ∀ (H : Heap) (locs : List Loc) (ls : Array Slot), MM vwCl D b0 f sz s H → mS b0 s H locs → lv_has ls 1 [(0, .ref v0)] → W p l e ({ frames := 1, cells := 18, slots := 116203, locals := 24 } : Room) s m args below meth c H locs 0 0 (MQ below (QW D b0 none res.1 res.2) args s 18 116203 (fun q => b0 ≤ q)) (F0 m 0 ls []) := by
  obtain ⟨hx, hb, hr, hml, hown, hts, hlocks, hK⟩ := id C0
  intro H locs ls hM hS hl
  unfold f_X10_init at h
  refine lv_aload_n hx hb dX10_init_0 rfl (lv_at hl 0 rfl) ?_
  refine W.objInit hx hb hown (hts _ q_X10_init_0) (hts _ q_X10_init_1) (hts _ q_X10_init_2) rfl (by rw [hml]; exact hl.1) rfl dX10_init_1 (Nat.le_of_ble_eq_true rfl) (Nat.le_of_ble_eq_true rfl) ?_
  refine lv_aload_n hx hb dX10_init_4 rfl (lv_at hl 0 rfl) ?_
  refine lv_sipush (v := (172 : Int32)) hx hb dX10_init_5 (by decide) ?_
  refine m_newa 0 (by decide) hx hb (atype := .int) (N' := 172) (hts _ q_X10_init_3) rfl rfl hK.1 hM hS (y := .inl (fun _ => 0)) (fun _ => rfl) (fun _ => Iff.rfl) (by decide) (by decide) (Nat.le_of_ble_eq_true rfl) (Nat.le_of_ble_eq_true rfl) (Nat.le_of_ble_eq_true rfl) dX10_init_8 (fun H hM hS => ?_)
  replace h := o_b h; obtain ⟨f8, h8, h⟩ := h
  replace h8 := Option.some.inj h8
  subst h8
  replace h := o_b h; obtain ⟨f10, h10, h⟩ := h
  refine m_putF (ty := (.array .int)) (C := RX10) (T := TX10) (N := 25) (ci := 10) hx hb hts qi_X10_init_X10 tyX10 tyX10_ok nmX10 hown hK.1 hM hS 0 h10 rfl (by decide) (hts _ q_X10_init_5) (fun _ h9 => h9) rfl hin rfl (by decide +kernel) rfl rfl dX10_init_10 (fun H locs hM hS => ?_)
  refine lv_aload_n hx hb dX10_init_13 rfl (lv_at hl 0 rfl) ?_
  refine lv_sipush (v := (688 : Int32)) hx hb dX10_init_14 (by decide) ?_
  refine m_newa 0 (by decide) hx hb (atype := .int) (N' := 688) (hts _ q_X10_init_3) rfl rfl hK.1 hM hS (y := .inl (fun _ => 0)) (fun _ => rfl) (fun _ => Iff.rfl) (by decide) (by decide) (Nat.le_of_ble_eq_true rfl) (Nat.le_of_ble_eq_true rfl) (Nat.le_of_ble_eq_true rfl) dX10_init_17 (fun H hM hS => ?_)
  replace h := o_b h; obtain ⟨f17, h17, h⟩ := h
  replace h17 := Option.some.inj h17
  subst h17
  replace h := o_b h; obtain ⟨f19, h19, h⟩ := h
  refine m_putF (ty := (.array .int)) (C := RX10) (T := TX10) (N := 25) (ci := 10) hx hb hts qi_X10_init_X10 tyX10 tyX10_ok nmX10 hown hK.1 hM hS 1 h19 rfl (by decide) (hts _ q_X10_init_6) (fun _ h9 => h9) rfl hin rfl (by decide +kernel) rfl rfl dX10_init_19 (fun H locs hM hS => ?_)
  refine lv_aload_n hx hb dX10_init_22 rfl (lv_at hl 0 rfl) ?_
  refine lv_sipush (v := (172 : Int32)) hx hb dX10_init_23 (by decide) ?_
  refine m_newa 0 (by decide) hx hb (atype := .int) (N' := 172) (hts _ q_X10_init_3) rfl rfl hK.1 hM hS (y := .inl (fun _ => 0)) (fun _ => rfl) (fun _ => Iff.rfl) (by decide) (by decide) (Nat.le_of_ble_eq_true rfl) (Nat.le_of_ble_eq_true rfl) (Nat.le_of_ble_eq_true rfl) dX10_init_26 (fun H hM hS => ?_)
  replace h := o_b h; obtain ⟨f26, h26, h⟩ := h
  replace h26 := Option.some.inj h26
  subst h26
  replace h := o_b h; obtain ⟨f28, h28, h⟩ := h
  refine m_putF (ty := (.array .int)) (C := RX10) (T := TX10) (N := 25) (ci := 10) hx hb hts qi_X10_init_X10 tyX10 tyX10_ok nmX10 hown hK.1 hM hS 3 h28 rfl (by decide) (hts _ q_X10_init_7) (fun _ h9 => h9) rfl hin rfl (by decide +kernel) rfl rfl dX10_init_28 (fun H locs hM hS => ?_)
  refine lv_aload_n hx hb dX10_init_31 rfl (lv_at hl 0 rfl) ?_
  refine lv_bipush (v := (8 : Int32)) hx hb dX10_init_32 (by decide) ?_
  refine m_newa 0 (by decide) hx hb (atype := .int) (N' := 8) (hts _ q_X10_init_3) rfl rfl hK.1 hM hS (y := .inl (fun _ => 0)) (fun _ => rfl) (fun _ => Iff.rfl) (by decide) (by decide) (Nat.le_of_ble_eq_true rfl) (Nat.le_of_ble_eq_true rfl) (Nat.le_of_ble_eq_true rfl) dX10_init_34 (fun H hM hS => ?_)
  replace h := o_b h; obtain ⟨f34, h34, h⟩ := h
  replace h34 := Option.some.inj h34
  subst h34
  replace h := o_b h; obtain ⟨f36, h36, h⟩ := h
  refine m_putF (ty := (.array .int)) (C := RX10) (T := TX10) (N := 25) (ci := 10) hx hb hts qi_X10_init_X10 tyX10 tyX10_ok nmX10 hown hK.1 hM hS 5 h36 rfl (by decide) (hts _ q_X10_init_8) (fun _ h9 => h9) rfl hin rfl (by decide +kernel) rfl rfl dX10_init_36 (fun H locs hM hS => ?_)
  refine lv_aload_n hx hb dX10_init_39 rfl (lv_at hl 0 rfl) ?_
  refine lv_bipush (v := (8 : Int32)) hx hb dX10_init_40 (by decide) ?_
  refine m_newa 0 (by decide) hx hb (atype := .int) (N' := 8) (hts _ q_X10_init_3) rfl rfl hK.1 hM hS (y := .inl (fun _ => 0)) (fun _ => rfl) (fun _ => Iff.rfl) (by decide) (by decide) (Nat.le_of_ble_eq_true rfl) (Nat.le_of_ble_eq_true rfl) (Nat.le_of_ble_eq_true rfl) dX10_init_42 (fun H hM hS => ?_)
  replace h := o_b h; obtain ⟨f42, h42, h⟩ := h
  replace h42 := Option.some.inj h42
  subst h42
  replace h := o_b h; obtain ⟨f44, h44, h⟩ := h
  refine m_putF (ty := (.array .int)) (C := RX10) (T := TX10) (N := 25) (ci := 10) hx hb hts qi_X10_init_X10 tyX10 tyX10_ok nmX10 hown hK.1 hM hS 6 h44 rfl (by decide) (hts _ q_X10_init_9) (fun _ h9 => h9) rfl hin rfl (by decide +kernel) rfl rfl dX10_init_44 (fun H locs hM hS => ?_)
  refine lv_aload_n hx hb dX10_init_47 rfl (lv_at hl 0 rfl) ?_
  refine lv_bipush (v := (30 : Int32)) hx hb dX10_init_48 (by decide) ?_
  refine m_newa 1 (by decide) hx hb (atype := .char) (N' := 30) (hts _ q_X10_init_10) rfl rfl hK.1 hM hS (y := .inl (fun _ => 0)) (fun _ => rfl) (fun _ => Iff.rfl) (by decide) (by decide) (Nat.le_of_ble_eq_true rfl) (Nat.le_of_ble_eq_true rfl) (Nat.le_of_ble_eq_true rfl) dX10_init_50 (fun H hM hS => ?_)
  replace h := o_b h; obtain ⟨f50, h50, h⟩ := h
  replace h50 := Option.some.inj h50
  subst h50
  replace h := o_b h; obtain ⟨f52, h52, h⟩ := h
  refine m_putF (ty := (.array .char)) (C := RX10) (T := TX10) (N := 25) (ci := 10) hx hb hts qi_X10_init_X10 tyX10 tyX10_ok nmX10 hown hK.1 hM hS 8 h52 rfl (by decide) (hts _ q_X10_init_11) (fun _ h9 => h9) rfl hin rfl (by decide +kernel) rfl rfl dX10_init_52 (fun H locs hM hS => ?_)
  refine lv_aload_n hx hb dX10_init_55 rfl (lv_at hl 0 rfl) ?_
  refine lv_bipush (v := (31 : Int32)) hx hb dX10_init_56 (by decide) ?_
  refine m_newa 0 (by decide) hx hb (atype := .int) (N' := 31) (hts _ q_X10_init_3) rfl rfl hK.1 hM hS (y := .inl (fun _ => 0)) (fun _ => rfl) (fun _ => Iff.rfl) (by decide) (by decide) (Nat.le_of_ble_eq_true rfl) (Nat.le_of_ble_eq_true rfl) (Nat.le_of_ble_eq_true rfl) dX10_init_58 (fun H hM hS => ?_)
  replace h := o_b h; obtain ⟨f58, h58, h⟩ := h
  replace h58 := Option.some.inj h58
  subst h58
  replace h := o_b h; obtain ⟨f60, h60, h⟩ := h
  refine m_putF (ty := (.array .int)) (C := RX10) (T := TX10) (N := 25) (ci := 10) hx hb hts qi_X10_init_X10 tyX10 tyX10_ok nmX10 hown hK.1 hM hS 10 h60 rfl (by decide) (hts _ q_X10_init_12) (fun _ h9 => h9) rfl hin rfl (by decide +kernel) rfl rfl dX10_init_60 (fun H locs hM hS => ?_)
  refine lv_aload_n hx hb dX10_init_63 rfl (lv_at hl 0 rfl) ?_
  refine lv_bipush (v := (31 : Int32)) hx hb dX10_init_64 (by decide) ?_
  refine m_newa 0 (by decide) hx hb (atype := .int) (N' := 31) (hts _ q_X10_init_3) rfl rfl hK.1 hM hS (y := .inl (fun _ => 0)) (fun _ => rfl) (fun _ => Iff.rfl) (by decide) (by decide) (Nat.le_of_ble_eq_true rfl) (Nat.le_of_ble_eq_true rfl) (Nat.le_of_ble_eq_true rfl) dX10_init_66 (fun H hM hS => ?_)
  replace h := o_b h; obtain ⟨f66, h66, h⟩ := h
  replace h66 := Option.some.inj h66
  subst h66
  replace h := o_b h; obtain ⟨f68, h68, h⟩ := h
  refine m_putF (ty := (.array .int)) (C := RX10) (T := TX10) (N := 25) (ci := 10) hx hb hts qi_X10_init_X10 tyX10 tyX10_ok nmX10 hown hK.1 hM hS 12 h68 rfl (by decide) (hts _ q_X10_init_13) (fun _ h9 => h9) rfl hin rfl (by decide +kernel) rfl rfl dX10_init_68 (fun H locs hM hS => ?_)
  refine lv_aload_n hx hb dX10_init_71 rfl (lv_at hl 0 rfl) ?_
  refine lv_bipush (v := (32 : Int32)) hx hb dX10_init_72 (by decide) ?_
  refine m_newa 0 (by decide) hx hb (atype := .int) (N' := 32) (hts _ q_X10_init_3) rfl rfl hK.1 hM hS (y := .inl (fun _ => 0)) (fun _ => rfl) (fun _ => Iff.rfl) (by decide) (by decide) (Nat.le_of_ble_eq_true rfl) (Nat.le_of_ble_eq_true rfl) (Nat.le_of_ble_eq_true rfl) dX10_init_74 (fun H hM hS => ?_)
  replace h := o_b h; obtain ⟨f74, h74, h⟩ := h
  replace h74 := Option.some.inj h74
  subst h74
  replace h := o_b h; obtain ⟨f76, h76, h⟩ := h
  refine m_putF (ty := (.array .int)) (C := RX10) (T := TX10) (N := 25) (ci := 10) hx hb hts qi_X10_init_X10 tyX10 tyX10_ok nmX10 hown hK.1 hM hS 14 h76 rfl (by decide) (hts _ q_X10_init_14) (fun _ h9 => h9) rfl hin rfl (by decide +kernel) rfl rfl dX10_init_76 (fun H locs hM hS => ?_)
  refine lv_aload_n hx hb dX10_init_79 rfl (lv_at hl 0 rfl) ?_
  refine lv_sipush (v := (1000 : Int32)) hx hb dX10_init_80 (by decide) ?_
  refine m_newa 0 (by decide) hx hb (atype := .int) (N' := 1000) (hts _ q_X10_init_3) rfl rfl hK.1 hM hS (y := .inl (fun _ => 0)) (fun _ => rfl) (fun _ => Iff.rfl) (by decide) (by decide) (Nat.le_of_ble_eq_true rfl) (Nat.le_of_ble_eq_true rfl) (Nat.le_of_ble_eq_true rfl) dX10_init_83 (fun H hM hS => ?_)
  replace h := o_b h; obtain ⟨f83, h83, h⟩ := h
  replace h83 := Option.some.inj h83
  subst h83
  replace h := o_b h; obtain ⟨f85, h85, h⟩ := h
  refine m_putF (ty := (.array .int)) (C := RX10) (T := TX10) (N := 25) (ci := 10) hx hb hts qi_X10_init_X10 tyX10 tyX10_ok nmX10 hown hK.1 hM hS 15 h85 rfl (by decide) (hts _ q_X10_init_15) (fun _ h9 => h9) rfl hin rfl (by decide +kernel) rfl rfl dX10_init_85 (fun H locs hM hS => ?_)
  refine lv_aload_n hx hb dX10_init_88 rfl (lv_at hl 0 rfl) ?_
  refine lv_sipush (v := (1000 : Int32)) hx hb dX10_init_89 (by decide) ?_
  refine m_newa 0 (by decide) hx hb (atype := .int) (N' := 1000) (hts _ q_X10_init_3) rfl rfl hK.1 hM hS (y := .inl (fun _ => 0)) (fun _ => rfl) (fun _ => Iff.rfl) (by decide) (by decide) (Nat.le_of_ble_eq_true rfl) (Nat.le_of_ble_eq_true rfl) (Nat.le_of_ble_eq_true rfl) dX10_init_92 (fun H hM hS => ?_)
  replace h := o_b h; obtain ⟨f92, h92, h⟩ := h
  replace h92 := Option.some.inj h92
  subst h92
  replace h := o_b h; obtain ⟨f94, h94, h⟩ := h
  refine m_putF (ty := (.array .int)) (C := RX10) (T := TX10) (N := 25) (ci := 10) hx hb hts qi_X10_init_X10 tyX10 tyX10_ok nmX10 hown hK.1 hM hS 16 h94 rfl (by decide) (hts _ q_X10_init_16) (fun _ h9 => h9) rfl hin rfl (by decide +kernel) rfl rfl dX10_init_94 (fun H locs hM hS => ?_)
  refine lv_aload_n hx hb dX10_init_97 rfl (lv_at hl 0 rfl) ?_
  refine lv_sipush (v := (1000 : Int32)) hx hb dX10_init_98 (by decide) ?_
  refine m_newa 0 (by decide) hx hb (atype := .int) (N' := 1000) (hts _ q_X10_init_3) rfl rfl hK.1 hM hS (y := .inl (fun _ => 0)) (fun _ => rfl) (fun _ => Iff.rfl) (by decide) (by decide) (Nat.le_of_ble_eq_true rfl) (Nat.le_of_ble_eq_true rfl) (Nat.le_of_ble_eq_true rfl) dX10_init_101 (fun H hM hS => ?_)
  replace h := o_b h; obtain ⟨f101, h101, h⟩ := h
  replace h101 := Option.some.inj h101
  subst h101
  replace h := o_b h; obtain ⟨f103, h103, h⟩ := h
  refine m_putF (ty := (.array .int)) (C := RX10) (T := TX10) (N := 25) (ci := 10) hx hb hts qi_X10_init_X10 tyX10 tyX10_ok nmX10 hown hK.1 hM hS 17 h103 rfl (by decide) (hts _ q_X10_init_17) (fun _ h9 => h9) rfl hin rfl (by decide +kernel) rfl rfl dX10_init_103 (fun H locs hM hS => ?_)
  refine lv_aload_n hx hb dX10_init_106 rfl (lv_at hl 0 rfl) ?_
  refine lv_ldc (v := (91000 : Int32)) hx hb hown (hts _ q_X10_init_18) dX10_init_107 ?_
  refine m_newa 0 (by decide) hx hb (atype := .int) (N' := 91000) (hts _ q_X10_init_3) rfl rfl hK.1 hM hS (y := .inl (fun _ => 0)) (fun _ => rfl) (fun _ => Iff.rfl) (by decide) (by decide) (Nat.le_of_ble_eq_true rfl) (Nat.le_of_ble_eq_true rfl) (Nat.le_of_ble_eq_true rfl) dX10_init_109 (fun H hM hS => ?_)
  replace h := o_b h; obtain ⟨f109, h109, h⟩ := h
  replace h109 := Option.some.inj h109
  subst h109
  replace h := o_b h; obtain ⟨f111, h111, h⟩ := h
  refine m_putF (ty := (.array .int)) (C := RX10) (T := TX10) (N := 25) (ci := 10) hx hb hts qi_X10_init_X10 tyX10 tyX10_ok nmX10 hown hK.1 hM hS 18 h111 rfl (by decide) (hts _ q_X10_init_19) (fun _ h9 => h9) rfl hin rfl (by decide +kernel) rfl rfl dX10_init_111 (fun H locs hM hS => ?_)
  refine lv_aload_n hx hb dX10_init_114 rfl (lv_at hl 0 rfl) ?_
  refine lv_sipush (v := (19200 : Int32)) hx hb dX10_init_115 (by decide) ?_
  refine m_newa 0 (by decide) hx hb (atype := .int) (N' := 19200) (hts _ q_X10_init_3) rfl rfl hK.1 hM hS (y := .inl (fun _ => 0)) (fun _ => rfl) (fun _ => Iff.rfl) (by decide) (by decide) (Nat.le_of_ble_eq_true rfl) (Nat.le_of_ble_eq_true rfl) (Nat.le_of_ble_eq_true rfl) dX10_init_118 (fun H hM hS => ?_)
  replace h := o_b h; obtain ⟨f118, h118, h⟩ := h
  replace h118 := Option.some.inj h118
  subst h118
  replace h := o_b h; obtain ⟨f120, h120, h⟩ := h
  refine m_putF (ty := (.array .int)) (C := RX10) (T := TX10) (N := 25) (ci := 10) hx hb hts qi_X10_init_X10 tyX10 tyX10_ok nmX10 hown hK.1 hM hS 20 h120 rfl (by decide) (hts _ q_X10_init_20) (fun _ h9 => h9) rfl hin rfl (by decide +kernel) rfl rfl dX10_init_120 (fun H locs hM hS => ?_)
  refine lv_aload_n hx hb dX10_init_123 rfl (lv_at hl 0 rfl) ?_
  refine lv_sipush (v := (600 : Int32)) hx hb dX10_init_124 (by decide) ?_
  refine m_newa 0 (by decide) hx hb (atype := .int) (N' := 600) (hts _ q_X10_init_3) rfl rfl hK.1 hM hS (y := .inl (fun _ => 0)) (fun _ => rfl) (fun _ => Iff.rfl) (by decide) (by decide) (Nat.le_of_ble_eq_true rfl) (Nat.le_of_ble_eq_true rfl) (Nat.le_of_ble_eq_true rfl) dX10_init_127 (fun H hM hS => ?_)
  replace h := o_b h; obtain ⟨f127, h127, h⟩ := h
  replace h127 := Option.some.inj h127
  subst h127
  replace h := o_b h; obtain ⟨f129, h129, h⟩ := h
  refine m_putF (ty := (.array .int)) (C := RX10) (T := TX10) (N := 25) (ci := 10) hx hb hts qi_X10_init_X10 tyX10 tyX10_ok nmX10 hown hK.1 hM hS 21 h129 rfl (by decide) (hts _ q_X10_init_21) (fun _ h9 => h9) rfl hin rfl (by decide +kernel) rfl rfl dX10_init_129 (fun H locs hM hS => ?_)
  refine lv_aload_n hx hb dX10_init_132 rfl (lv_at hl 0 rfl) ?_
  refine lv_sipush (v := (600 : Int32)) hx hb dX10_init_133 (by decide) ?_
  refine m_newa 0 (by decide) hx hb (atype := .int) (N' := 600) (hts _ q_X10_init_3) rfl rfl hK.1 hM hS (y := .inl (fun _ => 0)) (fun _ => rfl) (fun _ => Iff.rfl) (by decide) (by decide) (Nat.le_of_ble_eq_true rfl) (Nat.le_of_ble_eq_true rfl) (Nat.le_of_ble_eq_true rfl) dX10_init_136 (fun H hM hS => ?_)
  replace h := o_b h; obtain ⟨f136, h136, h⟩ := h
  replace h136 := Option.some.inj h136
  subst h136
  replace h := o_b h; obtain ⟨f138, h138, h⟩ := h
  refine m_putF (ty := (.array .int)) (C := RX10) (T := TX10) (N := 25) (ci := 10) hx hb hts qi_X10_init_X10 tyX10 tyX10_ok nmX10 hown hK.1 hM hS 22 h138 rfl (by decide) (hts _ q_X10_init_22) (fun _ h9 => h9) rfl hin rfl (by decide +kernel) rfl rfl dX10_init_138 (fun H locs hM hS => ?_)
  refine lv_aload_n hx hb dX10_init_141 rfl (lv_at hl 0 rfl) ?_
  refine lv_sipush (v := (600 : Int32)) hx hb dX10_init_142 (by decide) ?_
  refine m_newa 0 (by decide) hx hb (atype := .int) (N' := 600) (hts _ q_X10_init_3) rfl rfl hK.1 hM hS (y := .inl (fun _ => 0)) (fun _ => rfl) (fun _ => Iff.rfl) (by decide) (by decide) (Nat.le_of_ble_eq_true rfl) (Nat.le_of_ble_eq_true rfl) (Nat.le_of_ble_eq_true rfl) dX10_init_145 (fun H hM hS => ?_)
  replace h := o_b h; obtain ⟨f145, h145, h⟩ := h
  replace h145 := Option.some.inj h145
  subst h145
  replace h := o_b h; obtain ⟨f147, h147, h⟩ := h
  refine m_putF (ty := (.array .int)) (C := RX10) (T := TX10) (N := 25) (ci := 10) hx hb hts qi_X10_init_X10 tyX10 tyX10_ok nmX10 hown hK.1 hM hS 23 h147 rfl (by decide) (hts _ q_X10_init_23) (fun _ h9 => h9) rfl hin rfl (by decide +kernel) rfl rfl dX10_init_147 (fun H locs hM hS => ?_)
  refine lv_aload_n hx hb dX10_init_150 rfl (lv_at hl 0 rfl) ?_
  refine lv_bipush (v := (31 : Int32)) hx hb dX10_init_151 (by decide) ?_
  refine m_newa 0 (by decide) hx hb (atype := .int) (N' := 31) (hts _ q_X10_init_3) rfl rfl hK.1 hM hS (y := .inl (fun _ => 0)) (fun _ => rfl) (fun _ => Iff.rfl) (by decide) (by decide) (Nat.le_of_ble_eq_true rfl) (Nat.le_of_ble_eq_true rfl) (Nat.le_of_ble_eq_true rfl) dX10_init_153 (fun H hM hS => ?_)
  replace h := o_b h; obtain ⟨f153, h153, h⟩ := h
  replace h153 := Option.some.inj h153
  subst h153
  replace h := o_b h; obtain ⟨f155, h155, h⟩ := h
  refine m_putF (ty := (.array .int)) (C := RX10) (T := TX10) (N := 25) (ci := 10) hx hb hts qi_X10_init_X10 tyX10 tyX10_ok nmX10 hown hK.1 hM hS 24 h155 rfl (by decide) (hts _ q_X10_init_24) (fun _ h9 => h9) rfl hin rfl (by decide +kernel) rfl rfl dX10_init_155 (fun H locs hM hS => ?_)
  refine lv_aload_n hx hb dX10_init_158 rfl (lv_at hl 0 rfl) ?_
  replace h := o_b h; obtain ⟨x159, h159, h⟩ := h
  refine m_get (C := RX10) (T := TX10) (N := 25) (ci := 10) hx hb hts qi_X10_init_X10 hown hK.1 hM 0 (ldR_F h159) rfl (by decide) (hts _ q_X10_init_5) (fun _ h9 => h9) dX10_init_159 ?_
  refine lv_iconst (v := (0 : Int32)) hx hb dX10_init_162 (by decide) ?_
  refine lv_iconst (v := (1 : Int32)) hx hb dX10_init_163 (by decide) ?_
  replace h := o_b h; obtain ⟨f164, h164, h⟩ := h
  refine m_iast hx hb hK.1 hM hS rfl h164 dX10_init_164 (fun H locs hM hS => ?_)
  refine lv_aload_n hx hb dX10_init_165 rfl (lv_at hl 0 rfl) ?_
  replace h := o_b h; obtain ⟨x166, h166, h⟩ := h
  refine m_get (C := RX10) (T := TX10) (N := 25) (ci := 10) hx hb hts qi_X10_init_X10 hown hK.1 hM 0 (ldR_F h166) rfl (by decide) (hts _ q_X10_init_5) (fun _ h9 => h9) dX10_init_166 ?_
  refine lv_bipush (v := (16 : Int32)) hx hb dX10_init_169 (by decide) ?_
  refine lv_iconst (v := (1 : Int32)) hx hb dX10_init_171 (by decide) ?_
  replace h := o_b h; obtain ⟨f172, h172, h⟩ := h
  refine m_iast hx hb hK.1 hM hS rfl h172 dX10_init_172 (fun H locs hM hS => ?_)
  refine W.widen (k := 18) (n := 116203) (Nat.le_of_ble_eq_true rfl) (Nat.le_of_ble_eq_true rfl) ?_
  replace h := Option.some.inj h; subst h
  exact W.vret hx hb hr (fun t ht hW => ⟨rfl, by rw [ht]; exact hM.moved hW.alike, hS.F ht⟩) hS.2.2 dX10_init_173
set_option maxHeartbeats 4000000 in
set_option maxRecDepth 100000 in
theorem c_X10_init (l : Launch) (D : mmD) (b0 sz : Nat) {v0 : Nat} {f : mmF} {res : mmF × Nat} (h : f_X10_init v0 f sz = some res) : Met l yX10_init wsX10_init ({ frames := 1, cells := 18, slots := 116203, locals := 24 } : Room) (va_Pc [.ref v0] (PW D b0 f sz)) (QW D b0 none res.1 res.2) 18 116203 (fun q => b0 ≤ q) := by
  refine Met.ofW (cc := cX10_init) (maxL := 1) (ret := none) (by decide) rfl ?_
  intro p e s m args below meth c s₁ B hml hv
  obtain ⟨rfl, hM, hK⟩ := hv
  have hl := lv_entry ([.ref v0]) (n := 1) (Nat.le_of_ble_eq_true rfl)
  rw [lg_entry_eq]
  generalize (lg_sl ([.ref v0]) ++ List.replicate (1 - (lg_sl ([.ref v0])).length) Slot.unset).toArray = ls at hl ⊢
  have hl : lv_has ls 1 [(0, .ref v0)] := hl
  exact w_X10_init ⟨B.exec, B.bytes, B.returns, hml, findClass_of_methodNamed B.named, atoms_spec (ws := wsX10_init) B.pre, B.notSynchronized, hK⟩ (name_of_methodNamed B.named B.method).1 h s.heap [] ls hM va_S.rf hl
end S_X10_init
/-! X10_in -/
noncomputable def f_X10_in (v0 : Int32) (v1 : Int32) (v2 : Int32) (f : mmF) : Option (Int32) :=
  if v0 < v1 then
  (some ((0 : Int32)))
  else
  if v2 < v0 then
  (some ((0 : Int32)))
  else
  some ((1 : Int32))
section S_X10_in
variable {p : Program} {l : Launch} {e : Env} {s : State} {m : MethodId} {args : Array Value} {below : List Frame} {meth : Method} {c : Code} {D : mmD} {b0 sz : Nat} {f : mmF}
set_option maxHeartbeats 4000000 in
set_option maxRecDepth 100000 in
theorem w_X10_in (C0 : CX cX10_in 3 (some .boolean) wsX10_in RX10 p s m args meth c D b0) {v0 : Int32} {v1 : Int32} {v2 : Int32} {res : Int32} (h : f_X10_in v0 v1 v2 f = some res) : ∀ (H : Heap) (locs : List Loc) (ls : Array Slot), MM vwCl D b0 f sz s H → mS b0 s H locs → lv_has ls 3 [(0, .int v0), (1, .int v1), (2, .int v2)] → W p l e ({ frames := 0, cells := 0, slots := 0, locals := 0 } : Room) s m args below meth c H locs 0 0 (MQ below (QW D b0 (some (.int res)) f sz) args s 0 0 (fun q => b0 ≤ q)) (F0 m 0 ls []) := by
  obtain ⟨hx, hb, hr, hml, hown, hts, hlocks, hK⟩ := id C0
  intro H locs ls hM hS hl
  unfold f_X10_in at h
  refine lv_iload_n hx hb dX10_in_0 rfl (lv_at hl 0 rfl) ?_
  refine lv_iload_n hx hb dX10_in_1 rfl (lv_at hl 1 rfl) ?_
  refine lv_icmp_lt (tgt := 14) hx hb dX10_in_2 (by decide) (fun c2 => ?_) (fun c2 => ?_)
  · replace h := o_t c2 h
    refine lv_iconst (v := (0 : Int32)) hx hb dX10_in_14 (by decide) ?_
    replace h := Option.some.inj h; subst h
    exact W.zret hx hb hr rfl (fun t ht hW => ⟨rfl, by rw [ht]; exact hM.moved hW.alike, hS.F ht⟩) hS.2.2 dX10_in_15
  replace h := o_f c2 h
  refine lv_iload_n hx hb dX10_in_5 rfl (lv_at hl 0 rfl) ?_
  refine lv_iload_n hx hb dX10_in_6 rfl (lv_at hl 2 rfl) ?_
  refine lv_icmp_gt (tgt := 14) hx hb dX10_in_7 (by decide) (fun c7 => ?_) (fun c7 => ?_)
  · replace h := o_t c7 h
    refine lv_iconst (v := (0 : Int32)) hx hb dX10_in_14 (by decide) ?_
    replace h := Option.some.inj h; subst h
    exact W.zret hx hb hr rfl (fun t ht hW => ⟨rfl, by rw [ht]; exact hM.moved hW.alike, hS.F ht⟩) hS.2.2 dX10_in_15
  replace h := o_f c7 h
  refine lv_iconst (v := (1 : Int32)) hx hb dX10_in_10 (by decide) ?_
  refine lv_goto (tgt := 15) hx hb dX10_in_11 (by decide) ?_
  replace h := Option.some.inj h; subst h
  exact W.zret hx hb hr rfl (fun t ht hW => ⟨rfl, by rw [ht]; exact hM.moved hW.alike, hS.F ht⟩) hS.2.2 dX10_in_15
set_option maxHeartbeats 4000000 in
set_option maxRecDepth 100000 in
theorem c_X10_in (l : Launch) (D : mmD) (b0 sz : Nat) {v0 : Int32} {v1 : Int32} {v2 : Int32} {f : mmF} {res : Int32} (h : f_X10_in v0 v1 v2 f = some res) : Met l yX10_in wsX10_in ({ frames := 0, cells := 0, slots := 0, locals := 0 } : Room) (va_Pc [.int v0, .int v1, .int v2] (PW D b0 f sz)) (QW D b0 (some (.int res)) f sz) 0 0 (fun q => b0 ≤ q) := by
  refine Met.ofW (cc := cX10_in) (maxL := 3) (ret := (some .boolean)) (by decide) rfl ?_
  intro p e s m args below meth c s₁ B hml hv
  obtain ⟨rfl, hM, hK⟩ := hv
  have hl := lv_entry ([.int v0, .int v1, .int v2]) (n := 3) (Nat.le_of_ble_eq_true rfl)
  rw [lg_entry_eq]
  generalize (lg_sl ([.int v0, .int v1, .int v2]) ++ List.replicate (3 - (lg_sl ([.int v0, .int v1, .int v2])).length) Slot.unset).toArray = ls at hl ⊢
  have hl : lv_has ls 3 [(0, .int v0), (1, .int v1), (2, .int v2)] := hl
  exact w_X10_in ⟨B.exec, B.bytes, B.returns, hml, findClass_of_methodNamed B.named, atoms_spec (ws := wsX10_in) B.pre, B.notSynchronized, hK⟩ h s.heap [] ls hM va_S.rf hl
end S_X10_in
/-! X10_noStage -/
set_option maxRecDepth 20000 in
theorem qi_X10_noStage_X10 : ∀ w ∈ u_ws RX10 TX10 25, w ∈ wsX10_noStage := by decide +kernel
set_option maxRecDepth 20000 in
theorem q_X10_noStage_1 : Cond.fieldLink RX10 7 "StageTruthsModel" "now" "[I" ∈ wsX10_noStage := by decide +kernel
noncomputable def f_X10_noStage (v0 : Nat) (v1 : Int32) (f : mmF) : Option (Int32) :=
  (ldR f v0 10 0).bind fun x3 =>
  (ldA 0 f x3 (16 : Int32)).bind fun x8 =>
  (f_X10_in v1 (0 : Int32) (x8 - (1 : Int32)) f).bind fun q11 =>
  if q11 = 0 then
  (some ((1 : Int32)))
  else
  some ((0 : Int32))
section S_X10_noStage
variable {p : Program} {l : Launch} {e : Env} {s : State} {m : MethodId} {args : Array Value} {below : List Frame} {meth : Method} {c : Code} {D : mmD} {b0 sz : Nat} {f : mmF}
set_option maxHeartbeats 4000000 in
set_option maxRecDepth 100000 in
theorem w_X10_noStage (C0 : CX cX10_noStage 2 (some .boolean) wsX10_noStage RX10 p s m args meth c D b0) {v0 : Nat} {v1 : Int32} {res : Int32} (h : f_X10_noStage v0 v1 f = some res) : ∀ (H : Heap) (locs : List Loc) (ls : Array Slot), MM vwCl D b0 f sz s H → mS b0 s H locs → lv_has ls 2 [(0, .ref v0), (1, .int v1)] → W p l e ({ frames := 1, cells := 0, slots := 0, locals := 22 } : Room) s m args below meth c H locs 0 0 (MQ below (QW D b0 (some (.int res)) f sz) args s 0 0 (fun q => b0 ≤ q)) (F0 m 0 ls []) := by
  obtain ⟨hx, hb, hr, hml, hown, hts, hlocks, hK⟩ := id C0
  intro H locs ls hM hS hl
  unfold f_X10_noStage at h
  refine lv_iload_n hx hb dX10_noStage_0 rfl (lv_at hl 1 rfl) ?_
  refine lv_iconst (v := (0 : Int32)) hx hb dX10_noStage_1 (by decide) ?_
  refine lv_aload_n hx hb dX10_noStage_2 rfl (lv_at hl 0 rfl) ?_
  replace h := o_b h; obtain ⟨x3, h3, h⟩ := h
  refine m_get (C := RX10) (T := TX10) (N := 25) (ci := 10) hx hb hts qi_X10_noStage_X10 hown hK.1 hM 0 (ldR_F h3) rfl (by decide) (hts _ q_X10_noStage_1) (fun _ h9 => h9) dX10_noStage_3 ?_
  refine lv_bipush (v := (16 : Int32)) hx hb dX10_noStage_6 (by decide) ?_
  replace h := o_b h; obtain ⟨x8, h8, h⟩ := h
  refine m_iald hx hb hK.1 hM hS rfl h8 dX10_noStage_8 ?_
  refine lv_iconst (v := (1 : Int32)) hx hb dX10_noStage_9 (by decide) ?_
  refine lv_isub hx hb dX10_noStage_10 ?_
  replace h := o_b h; obtain ⟨q11, h11, h⟩ := h
  refine m_call (va_runS (As := [.int v1, .int (0 : Int32), .int (x8 - (1 : Int32))]) (rest := []) ⟨hx, hb, hml, hown, hts⟩ (c_X10_in l D b0 sz h11) (va_cwS 3 hts gX10_noStage_X10_in rfl rfl rfl (by decide +kernel) ⟨Nat.le_of_ble_eq_true rfl, Nat.le_of_ble_eq_true rfl⟩) ⟨PW.blind, (fun U hU hW => ⟨rfl, PW.call hK hM hS hU hW⟩)⟩ rfl rfl hl.1 rfl (lv_room (Nat.le_of_ble_eq_true rfl)) dX10_noStage_11 ⟨(Nat.le_refl _), (Nat.le_refl _)⟩) hS (fun H locs hM hS => ?_)
  refine lv_if_ne (tgt := 21) hx hb dX10_noStage_14 (by decide) (fun c14 => ?_) (fun c14 => ?_)
  · replace h := o_f c14 h
    refine lv_iconst (v := (0 : Int32)) hx hb dX10_noStage_21 (by decide) ?_
    replace h := Option.some.inj h; subst h
    exact W.zret hx hb hr rfl (fun t ht hW => ⟨rfl, by rw [ht]; exact hM.moved hW.alike, hS.F ht⟩) hS.2.2 dX10_noStage_22
  replace h := o_t c14 h
  refine lv_iconst (v := (1 : Int32)) hx hb dX10_noStage_17 (by decide) ?_
  refine lv_goto (tgt := 22) hx hb dX10_noStage_18 (by decide) ?_
  replace h := Option.some.inj h; subst h
  exact W.zret hx hb hr rfl (fun t ht hW => ⟨rfl, by rw [ht]; exact hM.moved hW.alike, hS.F ht⟩) hS.2.2 dX10_noStage_22
set_option maxHeartbeats 4000000 in
set_option maxRecDepth 100000 in
theorem c_X10_noStage (l : Launch) (D : mmD) (b0 sz : Nat) {v0 : Nat} {v1 : Int32} {f : mmF} {res : Int32} (h : f_X10_noStage v0 v1 f = some res) : Met l yX10_noStage wsX10_noStage ({ frames := 1, cells := 0, slots := 0, locals := 22 } : Room) (va_Pc [.ref v0, .int v1] (PW D b0 f sz)) (QW D b0 (some (.int res)) f sz) 0 0 (fun q => b0 ≤ q) := by
  refine Met.ofW (cc := cX10_noStage) (maxL := 2) (ret := (some .boolean)) (by decide) rfl ?_
  intro p e s m args below meth c s₁ B hml hv
  obtain ⟨rfl, hM, hK⟩ := hv
  have hl := lv_entry ([.ref v0, .int v1]) (n := 2) (Nat.le_of_ble_eq_true rfl)
  rw [lg_entry_eq]
  generalize (lg_sl ([.ref v0, .int v1]) ++ List.replicate (2 - (lg_sl ([.ref v0, .int v1])).length) Slot.unset).toArray = ls at hl ⊢
  have hl : lv_has ls 2 [(0, .ref v0), (1, .int v1)] := hl
  exact w_X10_noStage ⟨B.exec, B.bytes, B.returns, hml, findClass_of_methodNamed B.named, atoms_spec (ws := wsX10_noStage) B.pre, B.notSynchronized, hK⟩ h s.heap [] ls hM va_S.rf hl
end S_X10_noStage
/-! X10_leadsTo -/
set_option maxRecDepth 20000 in
theorem qi_X10_leadsTo_X10 : ∀ w ∈ u_ws RX10 TX10 25, w ∈ wsX10_leadsTo := by decide +kernel
set_option maxRecDepth 20000 in
theorem q_X10_leadsTo_1 : Cond.fieldLink RX10 7 "StageTruthsModel" "now" "[I" ∈ wsX10_leadsTo := by decide +kernel
noncomputable def f_X10_leadsTo (v0 : Nat) (v1 : Int32) (v2 : Int32) (f : mmF) : Option (Int32) :=
  (ldR f v0 10 0).bind fun x1 =>
  (ldA 0 f x1 ((0 : Int32) + v1)).bind fun x7 =>
  if ((x7 >>> (v2 &&& 31)) &&& (1 : Int32)) = (1 : Int32) then
  (some ((1 : Int32)))
  else
  some ((0 : Int32))
section S_X10_leadsTo
variable {p : Program} {l : Launch} {e : Env} {s : State} {m : MethodId} {args : Array Value} {below : List Frame} {meth : Method} {c : Code} {D : mmD} {b0 sz : Nat} {f : mmF}
set_option maxHeartbeats 4000000 in
set_option maxRecDepth 100000 in
theorem w_X10_leadsTo (C0 : CX cX10_leadsTo 3 (some .boolean) wsX10_leadsTo RX10 p s m args meth c D b0) {v0 : Nat} {v1 : Int32} {v2 : Int32} {res : Int32} (h : f_X10_leadsTo v0 v1 v2 f = some res) : ∀ (H : Heap) (locs : List Loc) (ls : Array Slot), MM vwCl D b0 f sz s H → mS b0 s H locs → lv_has ls 3 [(0, .ref v0), (1, .int v1), (2, .int v2)] → W p l e ({ frames := 0, cells := 0, slots := 0, locals := 0 } : Room) s m args below meth c H locs 0 0 (MQ below (QW D b0 (some (.int res)) f sz) args s 0 0 (fun q => b0 ≤ q)) (F0 m 0 ls []) := by
  obtain ⟨hx, hb, hr, hml, hown, hts, hlocks, hK⟩ := id C0
  intro H locs ls hM hS hl
  unfold f_X10_leadsTo at h
  refine lv_aload_n hx hb dX10_leadsTo_0 rfl (lv_at hl 0 rfl) ?_
  replace h := o_b h; obtain ⟨x1, h1, h⟩ := h
  refine m_get (C := RX10) (T := TX10) (N := 25) (ci := 10) hx hb hts qi_X10_leadsTo_X10 hown hK.1 hM 0 (ldR_F h1) rfl (by decide) (hts _ q_X10_leadsTo_1) (fun _ h9 => h9) dX10_leadsTo_1 ?_
  refine lv_iconst (v := (0 : Int32)) hx hb dX10_leadsTo_4 (by decide) ?_
  refine lv_iload_n hx hb dX10_leadsTo_5 rfl (lv_at hl 1 rfl) ?_
  refine lv_iadd hx hb dX10_leadsTo_6 ?_
  replace h := o_b h; obtain ⟨x7, h7, h⟩ := h
  refine m_iald hx hb hK.1 hM hS rfl h7 dX10_leadsTo_7 ?_
  refine lv_iload_n hx hb dX10_leadsTo_8 rfl (lv_at hl 2 rfl) ?_
  refine lv_ishr hx hb dX10_leadsTo_9 ?_
  refine lv_iconst (v := (1 : Int32)) hx hb dX10_leadsTo_10 (by decide) ?_
  refine lv_iand hx hb dX10_leadsTo_11 ?_
  refine lv_iconst (v := (1 : Int32)) hx hb dX10_leadsTo_12 (by decide) ?_
  refine lv_icmp_ne (tgt := 20) hx hb dX10_leadsTo_13 (by decide) (fun c13 => ?_) (fun c13 => ?_)
  · replace h := o_f c13 h
    refine lv_iconst (v := (0 : Int32)) hx hb dX10_leadsTo_20 (by decide) ?_
    replace h := Option.some.inj h; subst h
    exact W.zret hx hb hr rfl (fun t ht hW => ⟨rfl, by rw [ht]; exact hM.moved hW.alike, hS.F ht⟩) hS.2.2 dX10_leadsTo_21
  replace h := o_t c13 h
  refine lv_iconst (v := (1 : Int32)) hx hb dX10_leadsTo_16 (by decide) ?_
  refine lv_goto (tgt := 21) hx hb dX10_leadsTo_17 (by decide) ?_
  replace h := Option.some.inj h; subst h
  exact W.zret hx hb hr rfl (fun t ht hW => ⟨rfl, by rw [ht]; exact hM.moved hW.alike, hS.F ht⟩) hS.2.2 dX10_leadsTo_21
set_option maxHeartbeats 4000000 in
set_option maxRecDepth 100000 in
theorem c_X10_leadsTo (l : Launch) (D : mmD) (b0 sz : Nat) {v0 : Nat} {v1 : Int32} {v2 : Int32} {f : mmF} {res : Int32} (h : f_X10_leadsTo v0 v1 v2 f = some res) : Met l yX10_leadsTo wsX10_leadsTo ({ frames := 0, cells := 0, slots := 0, locals := 0 } : Room) (va_Pc [.ref v0, .int v1, .int v2] (PW D b0 f sz)) (QW D b0 (some (.int res)) f sz) 0 0 (fun q => b0 ≤ q) := by
  refine Met.ofW (cc := cX10_leadsTo) (maxL := 3) (ret := (some .boolean)) (by decide) rfl ?_
  intro p e s m args below meth c s₁ B hml hv
  obtain ⟨rfl, hM, hK⟩ := hv
  have hl := lv_entry ([.ref v0, .int v1, .int v2]) (n := 3) (Nat.le_of_ble_eq_true rfl)
  rw [lg_entry_eq]
  generalize (lg_sl ([.ref v0, .int v1, .int v2]) ++ List.replicate (3 - (lg_sl ([.ref v0, .int v1, .int v2])).length) Slot.unset).toArray = ls at hl ⊢
  have hl : lv_has ls 3 [(0, .ref v0), (1, .int v1), (2, .int v2)] := hl
  exact w_X10_leadsTo ⟨B.exec, B.bytes, B.returns, hml, findClass_of_methodNamed B.named, atoms_spec (ws := wsX10_leadsTo) B.pre, B.notSynchronized, hK⟩ h s.heap [] ls hM va_S.rf hl
end S_X10_leadsTo
/-! X10_noPlace -/
noncomputable def f_X10_noPlace (v0 : Int32) (f : mmF) : Option (Int32) :=
  (f_X10_in v0 (0 : Int32) (4 : Int32) f).bind fun q3 =>
  if q3 = 0 then
  (some ((1 : Int32)))
  else
  some ((0 : Int32))
section S_X10_noPlace
variable {p : Program} {l : Launch} {e : Env} {s : State} {m : MethodId} {args : Array Value} {below : List Frame} {meth : Method} {c : Code} {D : mmD} {b0 sz : Nat} {f : mmF}
set_option maxHeartbeats 4000000 in
set_option maxRecDepth 100000 in
theorem w_X10_noPlace (C0 : CX cX10_noPlace 1 (some .boolean) wsX10_noPlace RX10 p s m args meth c D b0) {v0 : Int32} {res : Int32} (h : f_X10_noPlace v0 f = some res) : ∀ (H : Heap) (locs : List Loc) (ls : Array Slot), MM vwCl D b0 f sz s H → mS b0 s H locs → lv_has ls 1 [(0, .int v0)] → W p l e ({ frames := 1, cells := 0, slots := 0, locals := 22 } : Room) s m args below meth c H locs 0 0 (MQ below (QW D b0 (some (.int res)) f sz) args s 0 0 (fun q => b0 ≤ q)) (F0 m 0 ls []) := by
  obtain ⟨hx, hb, hr, hml, hown, hts, hlocks, hK⟩ := id C0
  intro H locs ls hM hS hl
  unfold f_X10_noPlace at h
  refine lv_iload_n hx hb dX10_noPlace_0 rfl (lv_at hl 0 rfl) ?_
  refine lv_iconst (v := (0 : Int32)) hx hb dX10_noPlace_1 (by decide) ?_
  refine lv_iconst (v := (4 : Int32)) hx hb dX10_noPlace_2 (by decide) ?_
  replace h := o_b h; obtain ⟨q3, h3, h⟩ := h
  refine m_call (va_runS (As := [.int v0, .int (0 : Int32), .int (4 : Int32)]) (rest := []) ⟨hx, hb, hml, hown, hts⟩ (c_X10_in l D b0 sz h3) (va_cwS 3 hts gX10_noPlace_X10_in rfl rfl rfl (by decide +kernel) ⟨Nat.le_of_ble_eq_true rfl, Nat.le_of_ble_eq_true rfl⟩) ⟨PW.blind, (fun U hU hW => ⟨rfl, PW.call hK hM hS hU hW⟩)⟩ rfl rfl hl.1 rfl (lv_room (Nat.le_of_ble_eq_true rfl)) dX10_noPlace_3 ⟨(Nat.le_refl _), (Nat.le_refl _)⟩) hS (fun H locs hM hS => ?_)
  refine lv_if_ne (tgt := 13) hx hb dX10_noPlace_6 (by decide) (fun c6 => ?_) (fun c6 => ?_)
  · replace h := o_f c6 h
    refine lv_iconst (v := (0 : Int32)) hx hb dX10_noPlace_13 (by decide) ?_
    replace h := Option.some.inj h; subst h
    exact W.zret hx hb hr rfl (fun t ht hW => ⟨rfl, by rw [ht]; exact hM.moved hW.alike, hS.F ht⟩) hS.2.2 dX10_noPlace_14
  replace h := o_t c6 h
  refine lv_iconst (v := (1 : Int32)) hx hb dX10_noPlace_9 (by decide) ?_
  refine lv_goto (tgt := 14) hx hb dX10_noPlace_10 (by decide) ?_
  replace h := Option.some.inj h; subst h
  exact W.zret hx hb hr rfl (fun t ht hW => ⟨rfl, by rw [ht]; exact hM.moved hW.alike, hS.F ht⟩) hS.2.2 dX10_noPlace_14
set_option maxHeartbeats 4000000 in
set_option maxRecDepth 100000 in
theorem c_X10_noPlace (l : Launch) (D : mmD) (b0 sz : Nat) {v0 : Int32} {f : mmF} {res : Int32} (h : f_X10_noPlace v0 f = some res) : Met l yX10_noPlace wsX10_noPlace ({ frames := 1, cells := 0, slots := 0, locals := 22 } : Room) (va_Pc [.int v0] (PW D b0 f sz)) (QW D b0 (some (.int res)) f sz) 0 0 (fun q => b0 ≤ q) := by
  refine Met.ofW (cc := cX10_noPlace) (maxL := 1) (ret := (some .boolean)) (by decide) rfl ?_
  intro p e s m args below meth c s₁ B hml hv
  obtain ⟨rfl, hM, hK⟩ := hv
  have hl := lv_entry ([.int v0]) (n := 1) (Nat.le_of_ble_eq_true rfl)
  rw [lg_entry_eq]
  generalize (lg_sl ([.int v0]) ++ List.replicate (1 - (lg_sl ([.int v0])).length) Slot.unset).toArray = ls at hl ⊢
  have hl : lv_has ls 1 [(0, .int v0)] := hl
  exact w_X10_noPlace ⟨B.exec, B.bytes, B.returns, hml, findClass_of_methodNamed B.named, atoms_spec (ws := wsX10_noPlace) B.pre, B.notSynchronized, hK⟩ h s.heap [] ls hM va_S.rf hl
end S_X10_noPlace
