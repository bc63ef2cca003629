/-! X10_put -/
set_option maxRecDepth 20000 in
theorem qi_X10_put_X10 : ∀ w ∈ u_ws RX10 TX10 25, w ∈ wsX10_put := by decide +kernel
set_option maxRecDepth 20000 in
theorem q_X10_put_1 : Cond.fieldLink RX10 131 "StageTruthsModel" "at" "I" ∈ wsX10_put := by decide +kernel
noncomputable def f_X10_put (v0 : Nat) (v1 : Int32) (f : mmF) : Option (Int32 × mmF) :=
  (f_X10_noPlace v1 f).bind fun q1 =>
  if q1 = 0 then
  ((ckO f v0 10).bind fun _ =>
  (f_X10_isClaim v0 f).bind fun q10 =>
  if q10.1 = 0 then
  ((ldI q10.2 v0 10 9).bind fun x19 =>
  some (((-100 : Int32) - x19), q10.2))
  else
  (ckO q10.2 v0 10).bind fun _ =>
  (f_X10_isSame v0 v1 q10.2).bind fun q26 =>
  if q26 = 0 then
  ((ckO q10.2 v0 10).bind fun _ =>
  (f_X10_record v0 q10.2).bind fun q36 =>
  (ckO q36 v0 10).bind fun _ =>
  (f_X10_lays v0 v1 q36).bind fun q41 =>
  (ckO q41 v0 10).bind fun _ =>
  (f_X10_holding v0 v1 q41).bind fun q46 =>
  some (q46.1, q46.2))
  else
  some ((-5 : Int32), q10.2))
  else
  some ((-1 : Int32), f)
section S_X10_put
variable {p : Program} {l : Launch} {e : Env} {s : State} {m : MethodId} {args : Array Value} {below : List Frame} {meth : Method} {c : Code} {D : mmD} {b0 sz : Nat} {f : mmF}
set_option maxHeartbeats 4000000 in
set_option maxRecDepth 100000 in
theorem w_X10_put (C0 : CX cX10_put 2 (some .int) wsX10_put RX10 p s m args meth c D b0) {v0 : Nat} {v1 : Int32} {res : Int32 × mmF} (h : f_X10_put v0 v1 f = some res) : ∀ (H : Heap) (locs : List Loc) (ls : Array Slot), MM vwCl D b0 f sz s H → mS b0 s H locs → lv_has ls 2 [(0, .ref v0), (1, .int v1)] → W p l e ({ frames := 3, cells := 0, slots := 0, locals := 65 } : Room) s m args below meth c H locs 0 0 (MQ below (QW D b0 (some (.int res.1)) res.2 sz) args s 0 0 (fun q => b0 ≤ q)) (F0 m 0 ls []) := by
  obtain ⟨hx, hb, hr, hml, hown, hts, hlocks, hK⟩ := id C0
  intro H locs ls hM hS hl
  unfold f_X10_put at h
  refine lv_iload_n hx hb dX10_put_0 rfl (lv_at hl 1 rfl) ?_
  replace h := o_b h; obtain ⟨q1, h1, h⟩ := h
  refine m_call (va_runS (As := [.int v1]) (rest := []) ⟨hx, hb, hml, hown, hts⟩ (c_X10_noPlace l D b0 sz h1) (va_cwS 1 hts gX10_put_X10_noPlace rfl rfl rfl (by decide +kernel) ⟨Nat.le_of_ble_eq_true rfl, Nat.le_of_ble_eq_true rfl⟩) ⟨PW.blind, (fun U hU hW => ⟨rfl, PW.call hK hM hS hU hW⟩)⟩ rfl rfl hl.1 rfl (lv_room (Nat.le_of_ble_eq_true rfl)) dX10_put_1 ⟨(Nat.le_refl _), (Nat.le_refl _)⟩) hS (fun H locs hM hS => ?_)
  refine lv_if_eq (tgt := 9) hx hb dX10_put_4 (by decide) (fun c4 => ?_) (fun c4 => ?_)
  · replace h := o_t c4 h
    refine lv_aload_n hx hb dX10_put_9 rfl (lv_at hl 0 rfl) ?_
    replace h := o_b h; obtain ⟨_, k10, h⟩ := h
    replace h := o_b h; obtain ⟨q10, h10, h⟩ := h
    refine m_call (va_runV (As := []) (rest := []) ⟨hx, hb, hml, hown, hts⟩ (c_X10_isClaim l D b0 sz h10) (cwV 0 hts gX10_put_X10_isClaim rfl rfl rfl (by decide +kernel) ⟨Nat.le_of_ble_eq_true rfl, Nat.le_of_ble_eq_true rfl⟩) ⟨PW.blind, m_recv (ci := 10) rfl hK hM k10, (fun U hU hW => ⟨rfl, PW.call hK hM hS hU hW⟩)⟩ rfl rfl hl.1 rfl (lv_room (Nat.le_of_ble_eq_true rfl)) dX10_put_10 ⟨(Nat.le_refl _), (Nat.le_refl _)⟩) hS (fun H locs hM hS => ?_)
    refine lv_if_ne (tgt := 24) hx hb dX10_put_13 (by decide) (fun c13 => ?_) (fun c13 => ?_)
    · replace h := o_f c13 h
      refine lv_aload_n hx hb dX10_put_24 rfl (lv_at hl 0 rfl) ?_
      refine lv_iload_n hx hb dX10_put_25 rfl (lv_at hl 1 rfl) ?_
      replace h := o_b h; obtain ⟨_, k26, h⟩ := h
      replace h := o_b h; obtain ⟨q26, h26, h⟩ := h
      refine m_call (va_runV (As := [.int v1]) (rest := []) ⟨hx, hb, hml, hown, hts⟩ (c_X10_isSame l D b0 sz h26) (cwV 1 hts gX10_put_X10_isSame rfl rfl rfl (by decide +kernel) ⟨Nat.le_of_ble_eq_true rfl, Nat.le_of_ble_eq_true rfl⟩) ⟨PW.blind, m_recv (ci := 10) rfl hK hM k26, (fun U hU hW => ⟨rfl, PW.call hK hM hS hU hW⟩)⟩ rfl rfl hl.1 rfl (lv_room (Nat.le_of_ble_eq_true rfl)) dX10_put_26 ⟨(Nat.le_refl _), (Nat.le_refl _)⟩) hS (fun H locs hM hS => ?_)
      refine lv_if_eq (tgt := 35) hx hb dX10_put_29 (by decide) (fun c29 => ?_) (fun c29 => ?_)
      · replace h := o_t c29 h
        refine lv_aload_n hx hb dX10_put_35 rfl (lv_at hl 0 rfl) ?_
        replace h := o_b h; obtain ⟨_, k36, h⟩ := h
        replace h := o_b h; obtain ⟨q36, h36, h⟩ := h
        refine m_call (va_runV (As := []) (rest := []) ⟨hx, hb, hml, hown, hts⟩ (c_X10_record l D b0 sz h36) (cwV 0 hts gX10_put_X10_record rfl rfl rfl (by decide +kernel) ⟨Nat.le_of_ble_eq_true rfl, Nat.le_of_ble_eq_true rfl⟩) ⟨PW.blind, m_recv (ci := 10) rfl hK hM k36, (fun U hU hW => ⟨rfl, PW.call hK hM hS hU hW⟩)⟩ rfl rfl hl.1 rfl (lv_room (Nat.le_of_ble_eq_true rfl)) dX10_put_36 ⟨(Nat.le_refl _), (Nat.le_refl _)⟩) hS (fun H locs hM hS => ?_)
        refine lv_aload_n hx hb dX10_put_39 rfl (lv_at hl 0 rfl) ?_
        refine lv_iload_n hx hb dX10_put_40 rfl (lv_at hl 1 rfl) ?_
        replace h := o_b h; obtain ⟨_, k41, h⟩ := h
        replace h := o_b h; obtain ⟨q41, h41, h⟩ := h
        refine m_call (va_runV (As := [.int v1]) (rest := []) ⟨hx, hb, hml, hown, hts⟩ (c_X10_lays l D b0 sz h41) (cwV 1 hts gX10_put_X10_lays rfl rfl rfl (by decide +kernel) ⟨Nat.le_of_ble_eq_true rfl, Nat.le_of_ble_eq_true rfl⟩) ⟨PW.blind, m_recv (ci := 10) rfl hK hM k41, (fun U hU hW => ⟨rfl, PW.call hK hM hS hU hW⟩)⟩ rfl rfl hl.1 rfl (lv_room (Nat.le_of_ble_eq_true rfl)) dX10_put_41 ⟨(Nat.le_refl _), (Nat.le_refl _)⟩) hS (fun H locs hM hS => ?_)
        refine lv_aload_n hx hb dX10_put_44 rfl (lv_at hl 0 rfl) ?_
        refine lv_iload_n hx hb dX10_put_45 rfl (lv_at hl 1 rfl) ?_
        replace h := o_b h; obtain ⟨_, k46, h⟩ := h
        replace h := o_b h; obtain ⟨q46, h46, h⟩ := h
        refine m_call (va_runV (As := [.int v1]) (rest := []) ⟨hx, hb, hml, hown, hts⟩ (c_X10_holding l D b0 sz h46) (cwV 1 hts gX10_put_X10_holding rfl rfl rfl (by decide +kernel) ⟨Nat.le_of_ble_eq_true rfl, Nat.le_of_ble_eq_true rfl⟩) ⟨PW.blind, m_recv (ci := 10) rfl hK hM k46, (fun U hU hW => ⟨rfl, PW.call hK hM hS hU hW⟩)⟩ rfl rfl hl.1 rfl (lv_room (Nat.le_of_ble_eq_true rfl)) dX10_put_46 ⟨(Nat.le_refl _), (Nat.le_refl _)⟩) hS (fun H locs hM hS => ?_)
        replace h := Option.some.inj h; subst h
        exact W.iret hx hb hr (fun t ht hW => ⟨rfl, by rw [ht]; exact hM.moved hW.alike, hS.F ht⟩) hS.2.2 dX10_put_49
      replace h := o_f c29 h
      refine lv_bipush (v := (-5 : Int32)) hx hb dX10_put_32 (by decide) ?_
      replace h := Option.some.inj h; subst h
      exact W.iret hx hb hr (fun t ht hW => ⟨rfl, by rw [ht]; exact hM.moved hW.alike, hS.F ht⟩) hS.2.2 dX10_put_34
    replace h := o_t c13 h
    refine lv_bipush (v := (-100 : Int32)) hx hb dX10_put_16 (by decide) ?_
    refine lv_aload_n hx hb dX10_put_18 rfl (lv_at hl 0 rfl) ?_
    replace h := o_b h; obtain ⟨x19, h19, h⟩ := h
    refine m_get (C := RX10) (T := TX10) (N := 25) (ci := 10) hx hb hts qi_X10_put_X10 hown hK.1 hM 9 (ldI_F h19) rfl (by decide) (hts _ q_X10_put_1) (fun _ h9 => h9) dX10_put_19 ?_
    refine lv_isub hx hb dX10_put_22 ?_
    replace h := Option.some.inj h; subst h
    exact W.iret hx hb hr (fun t ht hW => ⟨rfl, by rw [ht]; exact hM.moved hW.alike, hS.F ht⟩) hS.2.2 dX10_put_23
  replace h := o_f c4 h
  refine lv_iconst (v := (-1 : Int32)) hx hb dX10_put_7 (by decide) ?_
  replace h := Option.some.inj h; subst h
  exact W.iret hx hb hr (fun t ht hW => ⟨rfl, by rw [ht]; exact hM.moved hW.alike, hS.F ht⟩) hS.2.2 dX10_put_8
set_option maxHeartbeats 4000000 in
set_option maxRecDepth 100000 in
theorem c_X10_put (l : Launch) (D : mmD) (b0 sz : Nat) {v0 : Nat} {v1 : Int32} {f : mmF} {res : Int32 × mmF} (h : f_X10_put v0 v1 f = some res) : Met l yX10_put wsX10_put ({ frames := 3, cells := 0, slots := 0, locals := 65 } : Room) (va_Pc [.ref v0, .int v1] (PW D b0 f sz)) (QW D b0 (some (.int res.1)) res.2 sz) 0 0 (fun q => b0 ≤ q) := by
  refine Met.ofW (cc := cX10_put) (maxL := 2) (ret := (some .int)) (by decide) rfl ?_
  intro p e s m args below meth c s₁ B hml hv
  obtain ⟨rfl, hM, hK⟩ := hv
  have hl := lv_entry ([.ref v0, .int v1]) (n := 2) (Nat.le_of_ble_eq_true rfl)
  rw [lg_entry_eq]
  generalize (lg_sl ([.ref v0, .int v1]) ++ List.replicate (2 - (lg_sl ([.ref v0, .int v1])).length) Slot.unset).toArray = ls at hl ⊢
  have hl : lv_has ls 2 [(0, .ref v0), (1, .int v1)] := hl
  exact w_X10_put ⟨B.exec, B.bytes, B.returns, hml, findClass_of_methodNamed B.named, atoms_spec (ws := wsX10_put) B.pre, B.notSynchronized, hK⟩ h s.heap [] ls hM va_S.rf hl
end S_X10_put
/-! X10_places -/
noncomputable def f_X10_places_25 (k4 : Nat → Int32 → Int32 → Option (Int32)) (f : mmF) (v0 : Nat) (v2 : Int32) (t0 : Int32) (t1 : Int32) : Option (Int32) :=
  k4 v0 (t0 ||| t1) (v2 + (1 : Int32))
noncomputable def f_X10_places_4  (f : mmF) : Nat → Nat → Int32 → Int32 → Option (Int32)
  | 0, _, _, _ => none
  | n + 1, v0, v1, v2 =>
    if (5 : Int32) ≤ v2 then
    (some (v1))
    else
    (ckO f v0 10).bind fun _ =>
    (f_X10_noClaim v0 v2 f).bind fun q12 =>
    if q12 = 0 then
    (f_X10_places_25 (fun a0 a1 a2 => f_X10_places_4 f n a0 a1 a2) f v0 v2 v1 ((1 : Int32) <<< (v2 &&& 31)))
    else
    f_X10_places_25 (fun a0 a1 a2 => f_X10_places_4 f n a0 a1 a2) f v0 v2 v1 (0 : Int32)
noncomputable def f_X10_places (v0 : Nat) (f : mmF) : Option (Int32) :=
  f_X10_places_4 f FU v0 (0 : Int32) (0 : Int32)
section S_X10_places
variable {p : Program} {l : Launch} {e : Env} {s : State} {m : MethodId} {args : Array Value} {below : List Frame} {meth : Method} {c : Code} {D : mmD} {b0 sz : Nat} {f : mmF}
set_option maxHeartbeats 4000000 in
set_option maxRecDepth 100000 in
theorem w_X10_places_25 (C0 : CX cX10_places 3 (some .int) wsX10_places RX10 p s m args meth c D b0) {k4 : Nat → Int32 → Int32 → Option (Int32)} {res : Int32} (hk4 : ∀ (v0 : Nat) (v1 : Int32) (v2 : Int32), k4 v0 v1 v2 = some res → ∀ (H : Heap) (locs : List Loc) (ls : Array Slot), MM vwCl D b0 f sz s H → mS b0 s H locs → lv_has ls 3 [(0, .ref v0), (1, .int v1), (2, .int v2)] → W p l e ({ frames := 3, cells := 0, slots := 0, locals := 63 } : Room) s m args below meth c H locs 0 0 (MQ below (QW D b0 (some (.int res)) f sz) args s 0 0 (fun q => b0 ≤ q)) (F0 m 4 ls [])) : ∀ (v0 : Nat) (v2 : Int32) (t0 : Int32) (t1 : Int32), f_X10_places_25 k4 f v0 v2 t0 t1 = some res → ∀ (H : Heap) (locs : List Loc) (ls : Array Slot), MM vwCl D b0 f sz s H → mS b0 s H locs → lv_has ls 3 [(0, .ref v0), (2, .int v2)] → W p l e ({ frames := 3, cells := 0, slots := 0, locals := 63 } : Room) s m args below meth c H locs 0 0 (MQ below (QW D b0 (some (.int res)) f sz) args s 0 0 (fun q => b0 ≤ q)) (F0 m 25 ls [.int t1, .int t0]) := by
  obtain ⟨hx, hb, hr, hml, hown, hts, hlocks, hK⟩ := id C0
  intro v0 v2 t0 t1 h H locs ls hM hS hl
  unfold f_X10_places_25 at h
  refine lv_ior hx hb dX10_places_25 ?_
  refine lv_istore_n (lv' := [(1, .int (t0 ||| t1)), (0, .ref v0), (2, .int v2)]) hx hb dX10_places_26 rfl hl (by decide) rfl (fun ls hl => ?_)
  refine lv_iinc (v := (v2 + (1 : Int32))) (lv' := [(2, .int (v2 + (1 : Int32))), (1, .int (t0 ||| t1)), (0, .ref v0)]) hx hb dX10_places_27 hl (k := 2) rfl rfl (by decide) rfl (fun ls hl => ?_)
  refine lv_goto (tgt := 4) hx hb dX10_places_30 (by decide) ?_
  exact hk4 _ _ _ h _ _ _ hM hS (lv_sub hl [2, 1, 0] rfl)
set_option maxHeartbeats 4000000 in
set_option maxRecDepth 100000 in
theorem w_X10_places_4 (C0 : CX cX10_places 3 (some .int) wsX10_places RX10 p s m args meth c D b0) {res : Int32} : ∀ (n : Nat), ∀ (v0 : Nat) (v1 : Int32) (v2 : Int32), f_X10_places_4 f n v0 v1 v2 = some res → ∀ (H : Heap) (locs : List Loc) (ls : Array Slot), MM vwCl D b0 f sz s H → mS b0 s H locs → lv_has ls 3 [(0, .ref v0), (1, .int v1), (2, .int v2)] → W p l e ({ frames := 3, cells := 0, slots := 0, locals := 63 } : Room) s m args below meth c H locs 0 0 (MQ below (QW D b0 (some (.int res)) f sz) args s 0 0 (fun q => b0 ≤ q)) (F0 m 4 ls []) := by
  obtain ⟨hx, hb, hr, hml, hown, hts, hlocks, hK⟩ := id C0
  intro n
  induction n with
  | zero =>
    intro v0 v1 v2 h
    have h : (none : Option (Int32)) = some res := h
    cases h
  | succ n ih =>
    intro v0 v1 v2 h H locs ls hM hS hl
    rw [f_X10_places_4] at h
    refine lv_iload_n hx hb dX10_places_4 rfl (lv_at hl 2 rfl) ?_
    refine lv_iconst (v := (5 : Int32)) hx hb dX10_places_5 (by decide) ?_
    refine lv_icmp_ge (tgt := 33) hx hb dX10_places_6 (by decide) (fun c6 => ?_) (fun c6 => ?_)
    · replace h := o_t c6 h
      refine lv_iload_n hx hb dX10_places_33 rfl (lv_at hl 1 rfl) ?_
      replace h := Option.some.inj h; subst h
      exact W.iret hx hb hr (fun t ht hW => ⟨rfl, by rw [ht]; exact hM.moved hW.alike, hS.F ht⟩) hS.2.2 dX10_places_34
    replace h := o_f c6 h
    refine lv_iload_n hx hb dX10_places_9 rfl (lv_at hl 1 rfl) ?_
    refine lv_aload_n hx hb dX10_places_10 rfl (lv_at hl 0 rfl) ?_
    refine lv_iload_n hx hb dX10_places_11 rfl (lv_at hl 2 rfl) ?_
    replace h := o_b h; obtain ⟨_, k12, h⟩ := h
    replace h := o_b h; obtain ⟨q12, h12, h⟩ := h
    refine m_call (va_runV (As := [.int v2]) (rest := [.int v1]) ⟨hx, hb, hml, hown, hts⟩ (c_X10_noClaim l D b0 sz h12) (cwV 1 hts gX10_places_X10_noClaim rfl rfl rfl (by decide +kernel) ⟨Nat.le_of_ble_eq_true rfl, Nat.le_of_ble_eq_true rfl⟩) ⟨PW.blind, m_recv (ci := 10) rfl hK hM k12, (fun U hU hW => ⟨rfl, PW.call hK hM hS hU hW⟩)⟩ rfl rfl hl.1 rfl (lv_room (Nat.le_of_ble_eq_true rfl)) dX10_places_12 ⟨(Nat.le_refl _), (Nat.le_refl _)⟩) hS (fun H locs hM hS => ?_)
    refine lv_if_eq (tgt := 22) hx hb dX10_places_15 (by decide) (fun c15 => ?_) (fun c15 => ?_)
    · replace h := o_t c15 h
      refine lv_iconst (v := (1 : Int32)) hx hb dX10_places_22 (by decide) ?_
      refine lv_iload_n hx hb dX10_places_23 rfl (lv_at hl 2 rfl) ?_
      refine lv_ishl hx hb dX10_places_24 ?_
      exact w_X10_places_25 C0 ih _ _ _ _ h _ _ _ hM hS (lv_sub hl [0, 2] rfl)
    replace h := o_f c15 h
    refine lv_iconst (v := (0 : Int32)) hx hb dX10_places_18 (by decide) ?_
    refine lv_goto (tgt := 25) hx hb dX10_places_19 (by decide) ?_
    exact w_X10_places_25 C0 ih _ _ _ _ h _ _ _ hM hS (lv_sub hl [0, 2] rfl)
set_option maxHeartbeats 4000000 in
set_option maxRecDepth 100000 in
theorem w_X10_places (C0 : CX cX10_places 3 (some .int) wsX10_places RX10 p s m args meth c D b0) {v0 : Nat} {res : Int32} (h : f_X10_places v0 f = some res) : ∀ (H : Heap) (locs : List Loc) (ls : Array Slot), MM vwCl D b0 f sz s H → mS b0 s H locs → lv_has ls 3 [(0, .ref v0)] → W p l e ({ frames := 3, cells := 0, slots := 0, locals := 63 } : Room) s m args below meth c H locs 0 0 (MQ below (QW D b0 (some (.int res)) f sz) args s 0 0 (fun q => b0 ≤ q)) (F0 m 0 ls []) := by
  obtain ⟨hx, hb, hr, hml, hown, hts, hlocks, hK⟩ := id C0
  intro H locs ls hM hS hl
  unfold f_X10_places at h
  refine lv_iconst (v := (0 : Int32)) hx hb dX10_places_0 (by decide) ?_
  refine lv_istore_n (lv' := [(1, .int (0 : Int32)), (0, .ref v0)]) hx hb dX10_places_1 rfl hl (by decide) rfl (fun ls hl => ?_)
  refine lv_iconst (v := (0 : Int32)) hx hb dX10_places_2 (by decide) ?_
  refine lv_istore_n (lv' := [(2, .int (0 : Int32)), (1, .int (0 : Int32)), (0, .ref v0)]) hx hb dX10_places_3 rfl hl (by decide) rfl (fun ls hl => ?_)
  exact w_X10_places_4 C0 FU _ _ _ h _ _ _ hM hS (lv_sub hl [2, 1, 0] rfl)
set_option maxHeartbeats 4000000 in
set_option maxRecDepth 100000 in
theorem c_X10_places (l : Launch) (D : mmD) (b0 sz : Nat) {v0 : Nat} {f : mmF} {res : Int32} (h : f_X10_places v0 f = some res) : Met l yX10_places wsX10_places ({ frames := 3, cells := 0, slots := 0, locals := 63 } : Room) (va_Pc [.ref v0] (PW D b0 f sz)) (QW D b0 (some (.int res)) f sz) 0 0 (fun q => b0 ≤ q) := by
  refine Met.ofW (cc := cX10_places) (maxL := 3) (ret := (some .int)) (by decide) rfl ?_
  intro p e s m args below meth c s₁ B hml hv
  obtain ⟨rfl, hM, hK⟩ := hv
  have hl := lv_entry ([.ref v0]) (n := 3) (Nat.le_of_ble_eq_true rfl)
  rw [lg_entry_eq]
  generalize (lg_sl ([.ref v0]) ++ List.replicate (3 - (lg_sl ([.ref v0])).length) Slot.unset).toArray = ls at hl ⊢
  have hl : lv_has ls 3 [(0, .ref v0)] := hl
  exact w_X10_places ⟨B.exec, B.bytes, B.returns, hml, findClass_of_methodNamed B.named, atoms_spec (ws := wsX10_places) B.pre, B.notSynchronized, hK⟩ h s.heap [] ls hM va_S.rf hl
end S_X10_places
/-! X10_drop -/
set_option maxRecDepth 20000 in
theorem qi_X10_drop_X10 : ∀ w ∈ u_ws RX10 TX10 25, w ∈ wsX10_drop := by decide +kernel
set_option maxRecDepth 20000 in
theorem q_X10_drop_1 : Cond.fieldLink RX10 7 "StageTruthsModel" "now" "[I" ∈ wsX10_drop := by decide +kernel
noncomputable def f_X10_drop (v0 : Nat) (v1 : Int32) (f : mmF) : Option (Int32 × mmF) :=
  (ckO f v0 10).bind fun _ =>
  (f_X10_noClaim v0 v1 f).bind fun q2 =>
  if q2 = 0 then
  ((ckO f v0 10).bind fun _ =>
  (f_X10_record v0 f).bind fun q11 =>
  (ldR q11 v0 10 0).bind fun x15 =>
  (stA 0 q11 x15 ((17 : Int32) + ((31 : Int32) * v1)) (0 : Int32)).bind fun f26 =>
  (ckO f26 v0 10).bind fun _ =>
  (f_X10_places v0 f26).bind fun q28 =>
  (f_X10_bits q28 f26).bind fun q31 =>
  some (q31, f26))
  else
  some ((-1 : Int32), f)
section S_X10_drop
variable {p : Program} {l : Launch} {e : Env} {s : State} {m : MethodId} {args : Array Value} {below : List Frame} {meth : Method} {c : Code} {D : mmD} {b0 sz : Nat} {f : mmF}
set_option maxHeartbeats 4000000 in
set_option maxRecDepth 100000 in
theorem w_X10_drop (C0 : CX cX10_drop 2 (some .int) wsX10_drop RX10 p s m args meth c D b0) {v0 : Nat} {v1 : Int32} {res : Int32 × mmF} (h : f_X10_drop v0 v1 f = some res) : ∀ (H : Heap) (locs : List Loc) (ls : Array Slot), MM vwCl D b0 f sz s H → mS b0 s H locs → lv_has ls 2 [(0, .ref v0), (1, .int v1)] → W p l e ({ frames := 4, cells := 0, slots := 0, locals := 85 } : Room) s m args below meth c H locs 0 0 (MQ below (QW D b0 (some (.int res.1)) res.2 sz) args s 0 0 (fun q => b0 ≤ q)) (F0 m 0 ls []) := by
  obtain ⟨hx, hb, hr, hml, hown, hts, hlocks, hK⟩ := id C0
  intro H locs ls hM hS hl
  unfold f_X10_drop at h
  refine lv_aload_n hx hb dX10_drop_0 rfl (lv_at hl 0 rfl) ?_
  refine lv_iload_n hx hb dX10_drop_1 rfl (lv_at hl 1 rfl) ?_
  replace h := o_b h; obtain ⟨_, k2, h⟩ := h
  replace h := o_b h; obtain ⟨q2, h2, h⟩ := h
  refine m_call (va_runV (As := [.int v1]) (rest := []) ⟨hx, hb, hml, hown, hts⟩ (c_X10_noClaim l D b0 sz h2) (cwV 1 hts gX10_drop_X10_noClaim rfl rfl rfl (by decide +kernel) ⟨Nat.le_of_ble_eq_true rfl, Nat.le_of_ble_eq_true rfl⟩) ⟨PW.blind, m_recv (ci := 10) rfl hK hM k2, (fun U hU hW => ⟨rfl, PW.call hK hM hS hU hW⟩)⟩ rfl rfl hl.1 rfl (lv_room (Nat.le_of_ble_eq_true rfl)) dX10_drop_2 ⟨(Nat.le_refl _), (Nat.le_refl _)⟩) hS (fun H locs hM hS => ?_)
  refine lv_if_eq (tgt := 10) hx hb dX10_drop_5 (by decide) (fun c5 => ?_) (fun c5 => ?_)
  · replace h := o_t c5 h
    refine lv_aload_n hx hb dX10_drop_10 rfl (lv_at hl 0 rfl) ?_
    replace h := o_b h; obtain ⟨_, k11, h⟩ := h
    replace h := o_b h; obtain ⟨q11, h11, h⟩ := h
    refine m_call (va_runV (As := []) (rest := []) ⟨hx, hb, hml, hown, hts⟩ (c_X10_record l D b0 sz h11) (cwV 0 hts gX10_drop_X10_record rfl rfl rfl (by decide +kernel) ⟨Nat.le_of_ble_eq_true rfl, Nat.le_of_ble_eq_true rfl⟩) ⟨PW.blind, m_recv (ci := 10) rfl hK hM k11, (fun U hU hW => ⟨rfl, PW.call hK hM hS hU hW⟩)⟩ rfl rfl hl.1 rfl (lv_room (Nat.le_of_ble_eq_true rfl)) dX10_drop_11 ⟨(Nat.le_refl _), (Nat.le_refl _)⟩) hS (fun H locs hM hS => ?_)
    refine lv_aload_n hx hb dX10_drop_14 rfl (lv_at hl 0 rfl) ?_
    replace h := o_b h; obtain ⟨x15, h15, h⟩ := h
    refine m_get (C := RX10) (T := TX10) (N := 25) (ci := 10) hx hb hts qi_X10_drop_X10 hown hK.1 hM 0 (ldR_F h15) rfl (by decide) (hts _ q_X10_drop_1) (fun _ h9 => h9) dX10_drop_15 ?_
    refine lv_bipush (v := (17 : Int32)) hx hb dX10_drop_18 (by decide) ?_
    refine lv_bipush (v := (31 : Int32)) hx hb dX10_drop_20 (by decide) ?_
    refine lv_iload_n hx hb dX10_drop_22 rfl (lv_at hl 1 rfl) ?_
    refine lv_imul hx hb dX10_drop_23 ?_
    refine lv_iadd hx hb dX10_drop_24 ?_
    refine lv_iconst (v := (0 : Int32)) hx hb dX10_drop_25 (by decide) ?_
    replace h := o_b h; obtain ⟨f26, h26, h⟩ := h
    refine m_iast hx hb hK.1 hM hS rfl h26 dX10_drop_26 (fun H locs hM hS => ?_)
    refine lv_aload_n hx hb dX10_drop_27 rfl (lv_at hl 0 rfl) ?_
    replace h := o_b h; obtain ⟨_, k28, h⟩ := h
    replace h := o_b h; obtain ⟨q28, h28, h⟩ := h
    refine m_call (va_runV (As := []) (rest := []) ⟨hx, hb, hml, hown, hts⟩ (c_X10_places l D b0 sz h28) (cwV 0 hts gX10_drop_X10_places rfl rfl rfl (by decide +kernel) ⟨Nat.le_of_ble_eq_true rfl, Nat.le_of_ble_eq_true rfl⟩) ⟨PW.blind, m_recv (ci := 10) rfl hK hM k28, (fun U hU hW => ⟨rfl, PW.call hK hM hS hU hW⟩)⟩ rfl rfl hl.1 rfl (lv_room (Nat.le_of_ble_eq_true rfl)) dX10_drop_28 ⟨(Nat.le_refl _), (Nat.le_refl _)⟩) hS (fun H locs hM hS => ?_)
    replace h := o_b h; obtain ⟨q31, h31, h⟩ := h
    refine m_call (va_runS (As := [.int q28]) (rest := []) ⟨hx, hb, hml, hown, hts⟩ (c_X10_bits l D b0 sz h31) (va_cwS 1 hts gX10_drop_X10_bits rfl rfl rfl (by decide +kernel) ⟨Nat.le_of_ble_eq_true rfl, Nat.le_of_ble_eq_true rfl⟩) ⟨PW.blind, (fun U hU hW => ⟨rfl, PW.call hK hM hS hU hW⟩)⟩ rfl rfl hl.1 rfl (lv_room (Nat.le_of_ble_eq_true rfl)) dX10_drop_31 ⟨(Nat.le_refl _), (Nat.le_refl _)⟩) hS (fun H locs hM hS => ?_)
    replace h := Option.some.inj h; subst h
    exact W.iret hx hb hr (fun t ht hW => ⟨rfl, by rw [ht]; exact hM.moved hW.alike, hS.F ht⟩) hS.2.2 dX10_drop_34
  replace h := o_f c5 h
  refine lv_iconst (v := (-1 : Int32)) hx hb dX10_drop_8 (by decide) ?_
  replace h := Option.some.inj h; subst h
  exact W.iret hx hb hr (fun t ht hW => ⟨rfl, by rw [ht]; exact hM.moved hW.alike, hS.F ht⟩) hS.2.2 dX10_drop_9
set_option maxHeartbeats 4000000 in
set_option maxRecDepth 100000 in
theorem c_X10_drop (l : Launch) (D : mmD) (b0 sz : Nat) {v0 : Nat} {v1 : Int32} {f : mmF} {res : Int32 × mmF} (h : f_X10_drop v0 v1 f = some res) : Met l yX10_drop wsX10_drop ({ frames := 4, cells := 0, slots := 0, locals := 85 } : Room) (va_Pc [.ref v0, .int v1] (PW D b0 f sz)) (QW D b0 (some (.int res.1)) res.2 sz) 0 0 (fun q => b0 ≤ q) := by
  refine Met.ofW (cc := cX10_drop) (maxL := 2) (ret := (some .int)) (by decide) rfl ?_
  intro p e s m args below meth c s₁ B hml hv
  obtain ⟨rfl, hM, hK⟩ := hv
  have hl := lv_entry ([.ref v0, .int v1]) (n := 2) (Nat.le_of_ble_eq_true rfl)
  rw [lg_entry_eq]
  generalize (lg_sl ([.ref v0, .int v1]) ++ List.replicate (2 - (lg_sl ([.ref v0, .int v1])).length) Slot.unset).toArray = ls at hl ⊢
  have hl : lv_has ls 2 [(0, .ref v0), (1, .int v1)] := hl
  exact w_X10_drop ⟨B.exec, B.bytes, B.returns, hml, findClass_of_methodNamed B.named, atoms_spec (ws := wsX10_drop) B.pre, B.notSynchronized, hK⟩ h s.heap [] ls hM va_S.rf hl
end S_X10_drop
/-! X10_takes -/
set_option maxRecDepth 20000 in
theorem qi_X10_takes_X10 : ∀ w ∈ u_ws RX10 TX10 25, w ∈ wsX10_takes := by decide +kernel
set_option maxRecDepth 20000 in
theorem q_X10_takes_1 : Cond.fieldLink RX10 7 "StageTruthsModel" "now" "[I" ∈ wsX10_takes := by decide +kernel
noncomputable def f_X10_takes_10   : Nat → Nat → Int32 → Int32 → mmF → Option (mmF)
  | 0, _, _, _, _ => none
  | n + 1, v0, v2, v3, f =>
    (ldR f v0 10 0).bind fun x12 =>
    (ldA 0 f x12 v2).bind fun x16 =>
    if x16 < v3 then
    (some (f))
    else
    (ldR f v0 10 0).bind fun x22 =>
    (ldA 0 f x22 (v2 + v3)).bind fun x28 =>
    (ckO f v0 10).bind fun _ =>
    (f_X10_puts v0 x28 f).bind fun q29 =>
    f_X10_takes_10 n v0 v2 (v3 + (1 : Int32)) q29
noncomputable def f_X10_takes (v0 : Nat) (v1 : Int32) (f : mmF) : Option (mmF) :=
  f_X10_takes_10 FU v0 ((17 : Int32) + ((31 : Int32) * v1)) (1 : Int32) f
section S_X10_takes
variable {p : Program} {l : Launch} {e : Env} {s : State} {m : MethodId} {args : Array Value} {below : List Frame} {meth : Method} {c : Code} {D : mmD} {b0 sz : Nat} {f : mmF}
set_option maxHeartbeats 4000000 in
set_option maxRecDepth 100000 in
theorem w_X10_takes_10 (C0 : CX cX10_takes 4 none wsX10_takes RX10 p s m args meth c D b0) {res : mmF} : ∀ (n : Nat), ∀ (v0 : Nat) (v2 : Int32) (v3 : Int32) (f : mmF), f_X10_takes_10 n v0 v2 v3 f = some res → ∀ (H : Heap) (locs : List Loc) (ls : Array Slot), MM vwCl D b0 f sz s H → mS b0 s H locs → lv_has ls 4 [(0, .ref v0), (2, .int v2), (3, .int v3)] → W p l e ({ frames := 1, cells := 0, slots := 0, locals := 21 } : Room) s m args below meth c H locs 0 0 (MQ below (QW D b0 none res sz) args s 0 0 (fun q => b0 ≤ q)) (F0 m 10 ls []) := by
  obtain ⟨hx, hb, hr, hml, hown, hts, hlocks, hK⟩ := id C0
  intro n
  induction n with
  | zero =>
    intro v0 v2 v3 f h
    have h : (none : Option (mmF)) = some res := h
    cases h
  | succ n ih =>
    intro v0 v2 v3 f h H locs ls hM hS hl
    rw [f_X10_takes_10] at h
    refine lv_iload_n hx hb dX10_takes_10 rfl (lv_at hl 2 rfl) ?_
    refine lv_aload_n hx hb dX10_takes_11 rfl (lv_at hl 0 rfl) ?_
    replace h := o_b h; obtain ⟨x12, h12, h⟩ := h
    refine m_get (C := RX10) (T := TX10) (N := 25) (ci := 10) hx hb hts qi_X10_takes_X10 hown hK.1 hM 0 (ldR_F h12) rfl (by decide) (hts _ q_X10_takes_1) (fun _ h9 => h9) dX10_takes_12 ?_
    refine lv_iload_n hx hb dX10_takes_15 rfl (lv_at hl 1 rfl) ?_
    replace h := o_b h; obtain ⟨x16, h16, h⟩ := h
    refine m_iald hx hb hK.1 hM hS rfl h16 dX10_takes_16 ?_
    refine lv_icmp_gt (tgt := 38) hx hb dX10_takes_17 (by decide) (fun c17 => ?_) (fun c17 => ?_)
    · replace h := o_t c17 h
      replace h := Option.some.inj h; subst h
      exact W.vret hx hb hr (fun t ht hW => ⟨rfl, by rw [ht]; exact hM.moved hW.alike, hS.F ht⟩) hS.2.2 dX10_takes_38
    replace h := o_f c17 h
    refine lv_aload_n hx hb dX10_takes_20 rfl (lv_at hl 0 rfl) ?_
    refine lv_aload_n hx hb dX10_takes_21 rfl (lv_at hl 0 rfl) ?_
    replace h := o_b h; obtain ⟨x22, h22, h⟩ := h
    refine m_get (C := RX10) (T := TX10) (N := 25) (ci := 10) hx hb hts qi_X10_takes_X10 hown hK.1 hM 0 (ldR_F h22) rfl (by decide) (hts _ q_X10_takes_1) (fun _ h9 => h9) dX10_takes_22 ?_
    refine lv_iload_n hx hb dX10_takes_25 rfl (lv_at hl 1 rfl) ?_
    refine lv_iload_n hx hb dX10_takes_26 rfl (lv_at hl 2 rfl) ?_
    refine lv_iadd hx hb dX10_takes_27 ?_
    replace h := o_b h; obtain ⟨x28, h28, h⟩ := h
    refine m_iald hx hb hK.1 hM hS rfl h28 dX10_takes_28 ?_
    replace h := o_b h; obtain ⟨_, k29, h⟩ := h
    replace h := o_b h; obtain ⟨q29, h29, h⟩ := h
    refine m_call (va_runV (As := [.int x28]) (rest := []) ⟨hx, hb, hml, hown, hts⟩ (c_X10_puts l D b0 sz h29) (cwV 1 hts gX10_takes_X10_puts rfl rfl rfl (by decide +kernel) ⟨Nat.le_of_ble_eq_true rfl, Nat.le_of_ble_eq_true rfl⟩) ⟨PW.blind, m_recv (ci := 10) rfl hK hM k29, (fun U hU hW => ⟨rfl, PW.call hK hM hS hU hW⟩)⟩ rfl rfl hl.1 rfl (lv_room (Nat.le_of_ble_eq_true rfl)) dX10_takes_29 ⟨(Nat.le_refl _), (Nat.le_refl _)⟩) hS (fun H locs hM hS => ?_)
    refine lv_iinc (v := (v3 + (1 : Int32))) (lv' := [(3, .int (v3 + (1 : Int32))), (0, .ref v0), (2, .int v2)]) hx hb dX10_takes_32 hl (k := 2) rfl rfl (by decide) rfl (fun ls hl => ?_)
    refine lv_goto (tgt := 10) hx hb dX10_takes_35 (by decide) ?_
    exact ih _ _ _ _ h _ _ _ hM hS (lv_sub hl [1, 2, 0] rfl)
set_option maxHeartbeats 4000000 in
set_option maxRecDepth 100000 in
theorem w_X10_takes (C0 : CX cX10_takes 4 none wsX10_takes RX10 p s m args meth c D b0) {v0 : Nat} {v1 : Int32} {res : mmF} (h : f_X10_takes v0 v1 f = some res) : ∀ (H : Heap) (locs : List Loc) (ls : Array Slot), MM vwCl D b0 f sz s H → mS b0 s H locs → lv_has ls 4 [(0, .ref v0), (1, .int v1)] → W p l e ({ frames := 1, cells := 0, slots := 0, locals := 21 } : Room) s m args below meth c H locs 0 0 (MQ below (QW D b0 none res sz) args s 0 0 (fun q => b0 ≤ q)) (F0 m 0 ls []) := by
  obtain ⟨hx, hb, hr, hml, hown, hts, hlocks, hK⟩ := id C0
  intro H locs ls hM hS hl
  unfold f_X10_takes at h
  refine lv_bipush (v := (17 : Int32)) hx hb dX10_takes_0 (by decide) ?_
  refine lv_bipush (v := (31 : Int32)) hx hb dX10_takes_2 (by decide) ?_
  refine lv_iload_n hx hb dX10_takes_4 rfl (lv_at hl 1 rfl) ?_
  refine lv_imul hx hb dX10_takes_5 ?_
  refine lv_iadd hx hb dX10_takes_6 ?_
  refine lv_istore_n (lv' := [(2, .int ((17 : Int32) + ((31 : Int32) * v1))), (0, .ref v0), (1, .int v1)]) hx hb dX10_takes_7 rfl hl (by decide) rfl (fun ls hl => ?_)
  refine lv_iconst (v := (1 : Int32)) hx hb dX10_takes_8 (by decide) ?_
  refine lv_istore_n (lv' := [(3, .int (1 : Int32)), (2, .int ((17 : Int32) + ((31 : Int32) * v1))), (0, .ref v0), (1, .int v1)]) hx hb dX10_takes_9 rfl hl (by decide) rfl (fun ls hl => ?_)
  exact w_X10_takes_10 C0 FU _ _ _ _ h _ _ _ hM hS (lv_sub hl [2, 1, 0] rfl)
set_option maxHeartbeats 4000000 in
set_option maxRecDepth 100000 in
theorem c_X10_takes (l : Launch) (D : mmD) (b0 sz : Nat) {v0 : Nat} {v1 : Int32} {f : mmF} {res : mmF} (h : f_X10_takes v0 v1 f = some res) : Met l yX10_takes wsX10_takes ({ frames := 1, cells := 0, slots := 0, locals := 21 } : Room) (va_Pc [.ref v0, .int v1] (PW D b0 f sz)) (QW D b0 none res sz) 0 0 (fun q => b0 ≤ q) := by
  refine Met.ofW (cc := cX10_takes) (maxL := 4) (ret := none) (by decide) rfl ?_
  intro p e s m args below meth c s₁ B hml hv
  obtain ⟨rfl, hM, hK⟩ := hv
  have hl := lv_entry ([.ref v0, .int v1]) (n := 4) (Nat.le_of_ble_eq_true rfl)
  rw [lg_entry_eq]
  generalize (lg_sl ([.ref v0, .int v1]) ++ List.replicate (4 - (lg_sl ([.ref v0, .int v1])).length) Slot.unset).toArray = ls at hl ⊢
  have hl : lv_has ls 4 [(0, .ref v0), (1, .int v1)] := hl
  exact w_X10_takes ⟨B.exec, B.bytes, B.returns, hml, findClass_of_methodNamed B.named, atoms_spec (ws := wsX10_takes) B.pre, B.notSynchronized, hK⟩ h s.heap [] ls hM va_S.rf hl
end S_X10_takes
/-! X10_join -/
set_option maxRecDepth 20000 in
theorem qi_X10_join_X10 : ∀ w ∈ u_ws RX10 TX10 25, w ∈ wsX10_join := by decide +kernel
set_option maxRecDepth 20000 in
theorem q_X10_join_1 : Cond.fieldLink RX10 7 "StageTruthsModel" "now" "[I" ∈ wsX10_join := by decide +kernel
set_option maxRecDepth 20000 in
theorem q_X10_join_2 : Cond.fieldLink RX10 122 "StageTruthsModel" "length" "I" ∈ wsX10_join := by decide +kernel
noncomputable def f_X10_join (v0 : Nat) (v1 : Int32) (v2 : Int32) (v3 : Int32) (v4 : Int32) (f : mmF) : Option (Int32 × mmF) :=
  (f_X10_noPlace v1 f).bind fun q1 =>
  if q1 = 0 then
  ((ckO f v0 10).bind fun _ =>
  (f_X10_noClaim v0 v2 f).bind fun q9 =>
  if q9 = 0 then
  ((ckO f v0 10).bind fun _ =>
  (f_X10_noClaim v0 v4 f).bind fun q18 =>
  if q18 = 0 then
  ((f_X10_in v3 (0 : Int32) (2 : Int32) f).bind fun q29 =>
  if q29 = 0 then
  (some ((-2 : Int32), f))
  else
  (ldR f v0 10 0).bind fun x39 =>
  (ldA 0 f x39 ((17 : Int32) + ((31 : Int32) * v2))).bind fun x49 =>
  (ldR f v0 10 0).bind fun x51 =>
  (ldA 0 f x51 ((17 : Int32) + ((31 : Int32) * v4))).bind fun x62 =>
  if ((x49 + x62) + (1 : Int32)) ≤ (24 : Int32) then
  ((ckO f v0 10).bind fun _ =>
  (f_X10_record v0 f).bind fun q75 =>
  (stF q75 v0 10 11 (.int (0 : Int32))).bind fun f80 =>
  (ckO f80 v0 10).bind fun _ =>
  (f_X10_takes v0 v2 f80).bind fun q85 =>
  (ckO q85 v0 10).bind fun _ =>
  (f_X10_takes v0 v4 q85).bind fun q91 =>
  (ckO q91 v0 10).bind fun _ =>
  (f_X10_puts v0 ((7 : Int32) + v3) q91).bind fun q99 =>
  (ckO q99 v0 10).bind fun _ =>
  (f_X10_lays v0 v1 q99).bind fun q104 =>
  (ckO q104 v0 10).bind fun _ =>
  (f_X10_holding v0 v1 q104).bind fun q109 =>
  some (q109.1, q109.2))
  else
  some ((-4 : Int32), f))
  else
  some ((-1 : Int32), f))
  else
  some ((-1 : Int32), f))
  else
  some ((-1 : Int32), f)
section S_X10_join
variable {p : Program} {l : Launch} {e : Env} {s : State} {m : MethodId} {args : Array Value} {below : List Frame} {meth : Method} {c : Code} {D : mmD} {b0 sz : Nat} {f : mmF}
set_option maxHeartbeats 4000000 in
set_option maxRecDepth 100000 in
theorem w_X10_join (C0 : CX cX10_join 5 (some .int) wsX10_join RX10 p s m args meth c D b0) {v0 : Nat} {v1 : Int32} {v2 : Int32} {v3 : Int32} {v4 : Int32} {res : Int32 × mmF} (h : f_X10_join v0 v1 v2 v3 v4 f = some res) : ∀ (H : Heap) (locs : List Loc) (ls : Array Slot), MM vwCl D b0 f sz s H → mS b0 s H locs → lv_has ls 5 [(0, .ref v0), (1, .int v1), (2, .int v2), (3, .int v3), (4, .int v4)] → W p l e ({ frames := 3, cells := 0, slots := 0, locals := 63 } : Room) s m args below meth c H locs 0 0 (MQ below (QW D b0 (some (.int res.1)) res.2 sz) args s 0 0 (fun q => b0 ≤ q)) (F0 m 0 ls []) := by
  obtain ⟨hx, hb, hr, hml, hown, hts, hlocks, hK⟩ := id C0
  intro H locs ls hM hS hl
  unfold f_X10_join at h
  refine lv_iload_n hx hb dX10_join_0 rfl (lv_at hl 1 rfl) ?_
  replace h := o_b h; obtain ⟨q1, h1, h⟩ := h
  refine m_call (va_runS (As := [.int v1]) (rest := []) ⟨hx, hb, hml, hown, hts⟩ (c_X10_noPlace l D b0 sz h1) (va_cwS 1 hts gX10_join_X10_noPlace rfl rfl rfl (by decide +kernel) ⟨Nat.le_of_ble_eq_true rfl, Nat.le_of_ble_eq_true rfl⟩) ⟨PW.blind, (fun U hU hW => ⟨rfl, PW.call hK hM hS hU hW⟩)⟩ rfl rfl hl.1 rfl (lv_room (Nat.le_of_ble_eq_true rfl)) dX10_join_1 ⟨(Nat.le_refl _), (Nat.le_refl _)⟩) hS (fun H locs hM hS => ?_)
  refine lv_if_ne (tgt := 24) hx hb dX10_join_4 (by decide) (fun c4 => ?_) (fun c4 => ?_)
  · replace h := o_f c4 h
    refine lv_iconst (v := (-1 : Int32)) hx hb dX10_join_24 (by decide) ?_
    replace h := Option.some.inj h; subst h
    exact W.iret hx hb hr (fun t ht hW => ⟨rfl, by rw [ht]; exact hM.moved hW.alike, hS.F ht⟩) hS.2.2 dX10_join_25
  replace h := o_t c4 h
  refine lv_aload_n hx hb dX10_join_7 rfl (lv_at hl 0 rfl) ?_
  refine lv_iload_n hx hb dX10_join_8 rfl (lv_at hl 2 rfl) ?_
  replace h := o_b h; obtain ⟨_, k9, h⟩ := h
  replace h := o_b h; obtain ⟨q9, h9, h⟩ := h
  refine m_call (va_runV (As := [.int v2]) (rest := []) ⟨hx, hb, hml, hown, hts⟩ (c_X10_noClaim l D b0 sz h9) (cwV 1 hts gX10_join_X10_noClaim rfl rfl rfl (by decide +kernel) ⟨Nat.le_of_ble_eq_true rfl, Nat.le_of_ble_eq_true rfl⟩) ⟨PW.blind, m_recv (ci := 10) rfl hK hM k9, (fun U hU hW => ⟨rfl, PW.call hK hM hS hU hW⟩)⟩ rfl rfl hl.1 rfl (lv_room (Nat.le_of_ble_eq_true rfl)) dX10_join_9 ⟨(Nat.le_refl _), (Nat.le_refl _)⟩) hS (fun H locs hM hS => ?_)
  refine lv_if_ne (tgt := 24) hx hb dX10_join_12 (by decide) (fun c12 => ?_) (fun c12 => ?_)
  · replace h := o_f c12 h
    refine lv_iconst (v := (-1 : Int32)) hx hb dX10_join_24 (by decide) ?_
    replace h := Option.some.inj h; subst h
    exact W.iret hx hb hr (fun t ht hW => ⟨rfl, by rw [ht]; exact hM.moved hW.alike, hS.F ht⟩) hS.2.2 dX10_join_25
  replace h := o_t c12 h
  refine lv_aload_n hx hb dX10_join_15 rfl (lv_at hl 0 rfl) ?_
  refine lv_iload hx hb dX10_join_16 (lv_at hl 4 rfl) ?_
  replace h := o_b h; obtain ⟨_, k18, h⟩ := h
  replace h := o_b h; obtain ⟨q18, h18, h⟩ := h
  refine m_call (va_runV (As := [.int v4]) (rest := []) ⟨hx, hb, hml, hown, hts⟩ (c_X10_noClaim l D b0 sz h18) (cwV 1 hts gX10_join_X10_noClaim rfl rfl rfl (by decide +kernel) ⟨Nat.le_of_ble_eq_true rfl, Nat.le_of_ble_eq_true rfl⟩) ⟨PW.blind, m_recv (ci := 10) rfl hK hM k18, (fun U hU hW => ⟨rfl, PW.call hK hM hS hU hW⟩)⟩ rfl rfl hl.1 rfl (lv_room (Nat.le_of_ble_eq_true rfl)) dX10_join_18 ⟨(Nat.le_refl _), (Nat.le_refl _)⟩) hS (fun H locs hM hS => ?_)
  refine lv_if_eq (tgt := 26) hx hb dX10_join_21 (by decide) (fun c21 => ?_) (fun c21 => ?_)
  · replace h := o_t c21 h
    refine lv_iload_n hx hb dX10_join_26 rfl (lv_at hl 3 rfl) ?_
    refine lv_iconst (v := (0 : Int32)) hx hb dX10_join_27 (by decide) ?_
    refine lv_iconst (v := (2 : Int32)) hx hb dX10_join_28 (by decide) ?_
    replace h := o_b h; obtain ⟨q29, h29, h⟩ := h
    refine m_call (va_runS (As := [.int v3, .int (0 : Int32), .int (2 : Int32)]) (rest := []) ⟨hx, hb, hml, hown, hts⟩ (c_X10_in l D b0 sz h29) (va_cwS 3 hts gX10_join_X10_in rfl rfl rfl (by decide +kernel) ⟨Nat.le_of_ble_eq_true rfl, Nat.le_of_ble_eq_true rfl⟩) ⟨PW.blind, (fun U hU hW => ⟨rfl, PW.call hK hM hS hU hW⟩)⟩ rfl rfl hl.1 rfl (lv_room (Nat.le_of_ble_eq_true rfl)) dX10_join_29 ⟨(Nat.le_refl _), (Nat.le_refl _)⟩) hS (fun H locs hM hS => ?_)
    refine lv_if_ne (tgt := 38) hx hb dX10_join_32 (by decide) (fun c32 => ?_) (fun c32 => ?_)
    · replace h := o_f c32 h
      refine lv_aload_n hx hb dX10_join_38 rfl (lv_at hl 0 rfl) ?_
      replace h := o_b h; obtain ⟨x39, h39, h⟩ := h
      refine m_get (C := RX10) (T := TX10) (N := 25) (ci := 10) hx hb hts qi_X10_join_X10 hown hK.1 hM 0 (ldR_F h39) rfl (by decide) (hts _ q_X10_join_1) (fun _ h9 => h9) dX10_join_39 ?_
      refine lv_bipush (v := (17 : Int32)) hx hb dX10_join_42 (by decide) ?_
      refine lv_bipush (v := (31 : Int32)) hx hb dX10_join_44 (by decide) ?_
      refine lv_iload_n hx hb dX10_join_46 rfl (lv_at hl 2 rfl) ?_
      refine lv_imul hx hb dX10_join_47 ?_
      refine lv_iadd hx hb dX10_join_48 ?_
      replace h := o_b h; obtain ⟨x49, h49, h⟩ := h
      refine m_iald hx hb hK.1 hM hS rfl h49 dX10_join_49 ?_
      refine lv_aload_n hx hb dX10_join_50 rfl (lv_at hl 0 rfl) ?_
      replace h := o_b h; obtain ⟨x51, h51, h⟩ := h
      refine m_get (C := RX10) (T := TX10) (N := 25) (ci := 10) hx hb hts qi_X10_join_X10 hown hK.1 hM 0 (ldR_F h51) rfl (by decide) (hts _ q_X10_join_1) (fun _ h9 => h9) dX10_join_51 ?_
      refine lv_bipush (v := (17 : Int32)) hx hb dX10_join_54 (by decide) ?_
      refine lv_bipush (v := (31 : Int32)) hx hb dX10_join_56 (by decide) ?_
      refine lv_iload hx hb dX10_join_58 (lv_at hl 4 rfl) ?_
      refine lv_imul hx hb dX10_join_60 ?_
      refine lv_iadd hx hb dX10_join_61 ?_
      replace h := o_b h; obtain ⟨x62, h62, h⟩ := h
      refine m_iald hx hb hK.1 hM hS rfl h62 dX10_join_62 ?_
      refine lv_iadd hx hb dX10_join_63 ?_
      refine lv_iconst (v := (1 : Int32)) hx hb dX10_join_64 (by decide) ?_
      refine lv_iadd hx hb dX10_join_65 ?_
      refine lv_bipush (v := (24 : Int32)) hx hb dX10_join_66 (by decide) ?_
      refine lv_icmp_le (tgt := 74) hx hb dX10_join_68 (by decide) (fun c68 => ?_) (fun c68 => ?_)
      · replace h := o_t c68 h
        refine lv_aload_n hx hb dX10_join_74 rfl (lv_at hl 0 rfl) ?_
        replace h := o_b h; obtain ⟨_, k75, h⟩ := h
        replace h := o_b h; obtain ⟨q75, h75, h⟩ := h
        refine m_call (va_runV (As := []) (rest := []) ⟨hx, hb, hml, hown, hts⟩ (c_X10_record l D b0 sz h75) (cwV 0 hts gX10_join_X10_record rfl rfl rfl (by decide +kernel) ⟨Nat.le_of_ble_eq_true rfl, Nat.le_of_ble_eq_true rfl⟩) ⟨PW.blind, m_recv (ci := 10) rfl hK hM k75, (fun U hU hW => ⟨rfl, PW.call hK hM hS hU hW⟩)⟩ rfl rfl hl.1 rfl (lv_room (Nat.le_of_ble_eq_true rfl)) dX10_join_75 ⟨(Nat.le_refl _), (Nat.le_refl _)⟩) hS (fun H locs hM hS => ?_)
        refine lv_aload_n hx hb dX10_join_78 rfl (lv_at hl 0 rfl) ?_
        refine lv_iconst (v := (0 : Int32)) hx hb dX10_join_79 (by decide) ?_
        replace h := o_b h; obtain ⟨f80, h80, h⟩ := h
        refine m_put (ty := .int) (C := RX10) (T := TX10) (N := 25) (ci := 10) hx hb hts qi_X10_join_X10 tyX10 tyX10_ok nmX10 hown hK.1 hM hS 11 h80 rfl (by decide) (hts _ q_X10_join_2) (fun _ h9 => h9) rfl (by decide +kernel) rfl rfl dX10_join_80 (fun H locs hM hS => ?_)
        refine lv_aload_n hx hb dX10_join_83 rfl (lv_at hl 0 rfl) ?_
        refine lv_iload_n hx hb dX10_join_84 rfl (lv_at hl 2 rfl) ?_
        replace h := o_b h; obtain ⟨_, k85, h⟩ := h
        replace h := o_b h; obtain ⟨q85, h85, h⟩ := h
        refine m_call (va_runV (As := [.int v2]) (rest := []) ⟨hx, hb, hml, hown, hts⟩ (c_X10_takes l D b0 sz h85) (cwV 1 hts gX10_join_X10_takes rfl rfl rfl (by decide +kernel) ⟨Nat.le_of_ble_eq_true rfl, Nat.le_of_ble_eq_true rfl⟩) ⟨PW.blind, m_recv (ci := 10) rfl hK hM k85, (fun U hU hW => ⟨rfl, PW.call hK hM hS hU hW⟩)⟩ rfl rfl hl.1 rfl (lv_room (Nat.le_of_ble_eq_true rfl)) dX10_join_85 ⟨(Nat.le_refl _), (Nat.le_refl _)⟩) hS (fun H locs hM hS => ?_)
        refine lv_aload_n hx hb dX10_join_88 rfl (lv_at hl 0 rfl) ?_
        refine lv_iload hx hb dX10_join_89 (lv_at hl 4 rfl) ?_
        replace h := o_b h; obtain ⟨_, k91, h⟩ := h
        replace h := o_b h; obtain ⟨q91, h91, h⟩ := h
        refine m_call (va_runV (As := [.int v4]) (rest := []) ⟨hx, hb, hml, hown, hts⟩ (c_X10_takes l D b0 sz h91) (cwV 1 hts gX10_join_X10_takes rfl rfl rfl (by decide +kernel) ⟨Nat.le_of_ble_eq_true rfl, Nat.le_of_ble_eq_true rfl⟩) ⟨PW.blind, m_recv (ci := 10) rfl hK hM k91, (fun U hU hW => ⟨rfl, PW.call hK hM hS hU hW⟩)⟩ rfl rfl hl.1 rfl (lv_room (Nat.le_of_ble_eq_true rfl)) dX10_join_91 ⟨(Nat.le_refl _), (Nat.le_refl _)⟩) hS (fun H locs hM hS => ?_)
        refine lv_aload_n hx hb dX10_join_94 rfl (lv_at hl 0 rfl) ?_
        refine lv_bipush (v := (7 : Int32)) hx hb dX10_join_95 (by decide) ?_
        refine lv_iload_n hx hb dX10_join_97 rfl (lv_at hl 3 rfl) ?_
        refine lv_iadd hx hb dX10_join_98 ?_
        replace h := o_b h; obtain ⟨_, k99, h⟩ := h
        replace h := o_b h; obtain ⟨q99, h99, h⟩ := h
        refine m_call (va_runV (As := [.int ((7 : Int32) + v3)]) (rest := []) ⟨hx, hb, hml, hown, hts⟩ (c_X10_puts l D b0 sz h99) (cwV 1 hts gX10_join_X10_puts rfl rfl rfl (by decide +kernel) ⟨Nat.le_of_ble_eq_true rfl, Nat.le_of_ble_eq_true rfl⟩) ⟨PW.blind, m_recv (ci := 10) rfl hK hM k99, (fun U hU hW => ⟨rfl, PW.call hK hM hS hU hW⟩)⟩ rfl rfl hl.1 rfl (lv_room (Nat.le_of_ble_eq_true rfl)) dX10_join_99 ⟨(Nat.le_refl _), (Nat.le_refl _)⟩) hS (fun H locs hM hS => ?_)
        refine lv_aload_n hx hb dX10_join_102 rfl (lv_at hl 0 rfl) ?_
        refine lv_iload_n hx hb dX10_join_103 rfl (lv_at hl 1 rfl) ?_
        replace h := o_b h; obtain ⟨_, k104, h⟩ := h
        replace h := o_b h; obtain ⟨q104, h104, h⟩ := h
        refine m_call (va_runV (As := [.int v1]) (rest := []) ⟨hx, hb, hml, hown, hts⟩ (c_X10_lays l D b0 sz h104) (cwV 1 hts gX10_join_X10_lays rfl rfl rfl (by decide +kernel) ⟨Nat.le_of_ble_eq_true rfl, Nat.le_of_ble_eq_true rfl⟩) ⟨PW.blind, m_recv (ci := 10) rfl hK hM k104, (fun U hU hW => ⟨rfl, PW.call hK hM hS hU hW⟩)⟩ rfl rfl hl.1 rfl (lv_room (Nat.le_of_ble_eq_true rfl)) dX10_join_104 ⟨(Nat.le_refl _), (Nat.le_refl _)⟩) hS (fun H locs hM hS => ?_)
        refine lv_aload_n hx hb dX10_join_107 rfl (lv_at hl 0 rfl) ?_
        refine lv_iload_n hx hb dX10_join_108 rfl (lv_at hl 1 rfl) ?_
        replace h := o_b h; obtain ⟨_, k109, h⟩ := h
        replace h := o_b h; obtain ⟨q109, h109, h⟩ := h
        refine m_call (va_runV (As := [.int v1]) (rest := []) ⟨hx, hb, hml, hown, hts⟩ (c_X10_holding l D b0 sz h109) (cwV 1 hts gX10_join_X10_holding rfl rfl rfl (by decide +kernel) ⟨Nat.le_of_ble_eq_true rfl, Nat.le_of_ble_eq_true rfl⟩) ⟨PW.blind, m_recv (ci := 10) rfl hK hM k109, (fun U hU hW => ⟨rfl, PW.call hK hM hS hU hW⟩)⟩ rfl rfl hl.1 rfl (lv_room (Nat.le_of_ble_eq_true rfl)) dX10_join_109 ⟨(Nat.le_refl _), (Nat.le_refl _)⟩) hS (fun H locs hM hS => ?_)
        replace h := Option.some.inj h; subst h
        exact W.iret hx hb hr (fun t ht hW => ⟨rfl, by rw [ht]; exact hM.moved hW.alike, hS.F ht⟩) hS.2.2 dX10_join_112
      replace h := o_f c68 h
      refine lv_bipush (v := (-4 : Int32)) hx hb dX10_join_71 (by decide) ?_
      replace h := Option.some.inj h; subst h
      exact W.iret hx hb hr (fun t ht hW => ⟨rfl, by rw [ht]; exact hM.moved hW.alike, hS.F ht⟩) hS.2.2 dX10_join_73
    replace h := o_t c32 h
    refine lv_bipush (v := (-2 : Int32)) hx hb dX10_join_35 (by decide) ?_
    replace h := Option.some.inj h; subst h
    exact W.iret hx hb hr (fun t ht hW => ⟨rfl, by rw [ht]; exact hM.moved hW.alike, hS.F ht⟩) hS.2.2 dX10_join_37
  replace h := o_f c21 h
  refine lv_iconst (v := (-1 : Int32)) hx hb dX10_join_24 (by decide) ?_
  replace h := Option.some.inj h; subst h
  exact W.iret hx hb hr (fun t ht hW => ⟨rfl, by rw [ht]; exact hM.moved hW.alike, hS.F ht⟩) hS.2.2 dX10_join_25
set_option maxHeartbeats 4000000 in
set_option maxRecDepth 100000 in
theorem c_X10_join (l : Launch) (D : mmD) (b0 sz : Nat) {v0 : Nat} {v1 : Int32} {v2 : Int32} {v3 : Int32} {v4 : Int32} {f : mmF} {res : Int32 × mmF} (h : f_X10_join v0 v1 v2 v3 v4 f = some res) : Met l yX10_join wsX10_join ({ frames := 3, cells := 0, slots := 0, locals := 63 } : Room) (va_Pc [.ref v0, .int v1, .int v2, .int v3, .int v4] (PW D b0 f sz)) (QW D b0 (some (.int res.1)) res.2 sz) 0 0 (fun q => b0 ≤ q) := by
  refine Met.ofW (cc := cX10_join) (maxL := 5) (ret := (some .int)) (by decide) rfl ?_
  intro p e s m args below meth c s₁ B hml hv
  obtain ⟨rfl, hM, hK⟩ := hv
  have hl := lv_entry ([.ref v0, .int v1, .int v2, .int v3, .int v4]) (n := 5) (Nat.le_of_ble_eq_true rfl)
  rw [lg_entry_eq]
  generalize (lg_sl ([.ref v0, .int v1, .int v2, .int v3, .int v4]) ++ List.replicate (5 - (lg_sl ([.ref v0, .int v1, .int v2, .int v3, .int v4])).length) Slot.unset).toArray = ls at hl ⊢
  have hl : lv_has ls 5 [(0, .ref v0), (1, .int v1), (2, .int v2), (3, .int v3), (4, .int v4)] := hl
  exact w_X10_join ⟨B.exec, B.bytes, B.returns, hml, findClass_of_methodNamed B.named, atoms_spec (ws := wsX10_join) B.pre, B.notSynchronized, hK⟩ h s.heap [] ls hM va_S.rf hl
end S_X10_join
/-! X10_wordsOf -/
noncomputable def f_X10_wordsOf (v0 : Int32) (f : mmF) : Option (Int32) :=
  if v0 = 0 then
  (some ((1 : Int32)))
  else
  if v0 = (1 : Int32) then
  (some ((3 : Int32)))
  else
  if v0 = (2 : Int32) then
  (some ((8 : Int32)))
  else
  some ((20 : Int32))
section S_X10_wordsOf
variable {p : Program} {l : Launch} {e : Env} {s : State} {m : MethodId} {args : Array Value} {below : List Frame} {meth : Method} {c : Code} {D : mmD} {b0 sz : Nat} {f : mmF}
set_option maxHeartbeats 4000000 in
set_option maxRecDepth 100000 in
theorem w_X10_wordsOf (C0 : CX cX10_wordsOf 1 (some .int) wsX10_wordsOf RX10 p s m args meth c D b0) {v0 : Int32} {res : Int32} (h : f_X10_wordsOf v0 f = some res) : ∀ (H : Heap) (locs : List Loc) (ls : Array Slot), MM vwCl D b0 f sz s H → mS b0 s H locs → lv_has ls 1 [(0, .int v0)] → W p l e ({ frames := 0, cells := 0, slots := 0, locals := 0 } : Room) s m args below meth c H locs 0 0 (MQ below (QW D b0 (some (.int res)) f sz) args s 0 0 (fun q => b0 ≤ q)) (F0 m 0 ls []) := by
  obtain ⟨hx, hb, hr, hml, hown, hts, hlocks, hK⟩ := id C0
  intro H locs ls hM hS hl
  unfold f_X10_wordsOf at h
  refine lv_iload_n hx hb dX10_wordsOf_0 rfl (lv_at hl 0 rfl) ?_
  refine lv_if_ne (tgt := 8) hx hb dX10_wordsOf_1 (by decide) (fun c1 => ?_) (fun c1 => ?_)
  · replace h := o_f c1 h
    refine lv_iload_n hx hb dX10_wordsOf_8 rfl (lv_at hl 0 rfl) ?_
    refine lv_iconst (v := (1 : Int32)) hx hb dX10_wordsOf_9 (by decide) ?_
    refine lv_icmp_ne (tgt := 17) hx hb dX10_wordsOf_10 (by decide) (fun c10 => ?_) (fun c10 => ?_)
    · replace h := o_f c10 h
      refine lv_iload_n hx hb dX10_wordsOf_17 rfl (lv_at hl 0 rfl) ?_
      refine lv_iconst (v := (2 : Int32)) hx hb dX10_wordsOf_18 (by decide) ?_
      refine lv_icmp_ne (tgt := 27) hx hb dX10_wordsOf_19 (by decide) (fun c19 => ?_) (fun c19 => ?_)
      · replace h := o_f c19 h
        refine lv_bipush (v := (20 : Int32)) hx hb dX10_wordsOf_27 (by decide) ?_
        replace h := Option.some.inj h; subst h
        exact W.iret hx hb hr (fun t ht hW => ⟨rfl, by rw [ht]; exact hM.moved hW.alike, hS.F ht⟩) hS.2.2 dX10_wordsOf_29
      replace h := o_t c19 h
      refine lv_bipush (v := (8 : Int32)) hx hb dX10_wordsOf_22 (by decide) ?_
      refine lv_goto (tgt := 29) hx hb dX10_wordsOf_24 (by decide) ?_
      replace h := Option.some.inj h; subst h
      exact W.iret hx hb hr (fun t ht hW => ⟨rfl, by rw [ht]; exact hM.moved hW.alike, hS.F ht⟩) hS.2.2 dX10_wordsOf_29
    replace h := o_t c10 h
    refine lv_iconst (v := (3 : Int32)) hx hb dX10_wordsOf_13 (by decide) ?_
    refine lv_goto (tgt := 29) hx hb dX10_wordsOf_14 (by decide) ?_
    replace h := Option.some.inj h; subst h
    exact W.iret hx hb hr (fun t ht hW => ⟨rfl, by rw [ht]; exact hM.moved hW.alike, hS.F ht⟩) hS.2.2 dX10_wordsOf_29
  replace h := o_t c1 h
  refine lv_iconst (v := (1 : Int32)) hx hb dX10_wordsOf_4 (by decide) ?_
  refine lv_goto (tgt := 29) hx hb dX10_wordsOf_5 (by decide) ?_
  replace h := Option.some.inj h; subst h
  exact W.iret hx hb hr (fun t ht hW => ⟨rfl, by rw [ht]; exact hM.moved hW.alike, hS.F ht⟩) hS.2.2 dX10_wordsOf_29
set_option maxHeartbeats 4000000 in
set_option maxRecDepth 100000 in
theorem c_X10_wordsOf (l : Launch) (D : mmD) (b0 sz : Nat) {v0 : Int32} {f : mmF} {res : Int32} (h : f_X10_wordsOf v0 f = some res) : Met l yX10_wordsOf wsX10_wordsOf ({ frames := 0, cells := 0, slots := 0, locals := 0 } : Room) (va_Pc [.int v0] (PW D b0 f sz)) (QW D b0 (some (.int res)) f sz) 0 0 (fun q => b0 ≤ q) := by
  refine Met.ofW (cc := cX10_wordsOf) (maxL := 1) (ret := (some .int)) (by decide) rfl ?_
  intro p e s m args below meth c s₁ B hml hv
  obtain ⟨rfl, hM, hK⟩ := hv
  have hl := lv_entry ([.int v0]) (n := 1) (Nat.le_of_ble_eq_true rfl)
  rw [lg_entry_eq]
  generalize (lg_sl ([.int v0]) ++ List.replicate (1 - (lg_sl ([.int v0])).length) Slot.unset).toArray = ls at hl ⊢
  have hl : lv_has ls 1 [(0, .int v0)] := hl
  exact w_X10_wordsOf ⟨B.exec, B.bytes, B.returns, hml, findClass_of_methodNamed B.named, atoms_spec (ws := wsX10_wordsOf) B.pre, B.notSynchronized, hK⟩ h s.heap [] ls hM va_S.rf hl
end S_X10_wordsOf
/-! X10_begin -/
noncomputable def f_X10_begin (v0 : Int32) (f : mmF) : Option (Int32) :=
  if v0 = 0 then
  (some ((0 : Int32)))
  else
  if v0 = (1 : Int32) then
  (some ((1 : Int32)))
  else
  if v0 = (2 : Int32) then
  (some ((7 : Int32)))
  else
  some ((31 : Int32))
section S_X10_begin
variable {p : Program} {l : Launch} {e : Env} {s : State} {m : MethodId} {args : Array Value} {below : List Frame} {meth : Method} {c : Code} {D : mmD} {b0 sz : Nat} {f : mmF}
set_option maxHeartbeats 4000000 in
set_option maxRecDepth 100000 in
theorem w_X10_begin (C0 : CX cX10_begin 1 (some .int) wsX10_begin RX10 p s m args meth c D b0) {v0 : Int32} {res : Int32} (h : f_X10_begin v0 f = some res) : ∀ (H : Heap) (locs : List Loc) (ls : Array Slot), MM vwCl D b0 f sz s H → mS b0 s H locs → lv_has ls 1 [(0, .int v0)] → W p l e ({ frames := 0, cells := 0, slots := 0, locals := 0 } : Room) s m args below meth c H locs 0 0 (MQ below (QW D b0 (some (.int res)) f sz) args s 0 0 (fun q => b0 ≤ q)) (F0 m 0 ls []) := by
  obtain ⟨hx, hb, hr, hml, hown, hts, hlocks, hK⟩ := id C0
  intro H locs ls hM hS hl
  unfold f_X10_begin at h
  refine lv_iload_n hx hb dX10_begin_0 rfl (lv_at hl 0 rfl) ?_
  refine lv_if_ne (tgt := 8) hx hb dX10_begin_1 (by decide) (fun c1 => ?_) (fun c1 => ?_)
  · replace h := o_f c1 h
    refine lv_iload_n hx hb dX10_begin_8 rfl (lv_at hl 0 rfl) ?_
    refine lv_iconst (v := (1 : Int32)) hx hb dX10_begin_9 (by decide) ?_
    refine lv_icmp_ne (tgt := 17) hx hb dX10_begin_10 (by decide) (fun c10 => ?_) (fun c10 => ?_)
    · replace h := o_f c10 h
      refine lv_iload_n hx hb dX10_begin_17 rfl (lv_at hl 0 rfl) ?_
      refine lv_iconst (v := (2 : Int32)) hx hb dX10_begin_18 (by decide) ?_
      refine lv_icmp_ne (tgt := 27) hx hb dX10_begin_19 (by decide) (fun c19 => ?_) (fun c19 => ?_)
      · replace h := o_f c19 h
        refine lv_bipush (v := (31 : Int32)) hx hb dX10_begin_27 (by decide) ?_
        replace h := Option.some.inj h; subst h
        exact W.iret hx hb hr (fun t ht hW => ⟨rfl, by rw [ht]; exact hM.moved hW.alike, hS.F ht⟩) hS.2.2 dX10_begin_29
      replace h := o_t c19 h
      refine lv_bipush (v := (7 : Int32)) hx hb dX10_begin_22 (by decide) ?_
      refine lv_goto (tgt := 29) hx hb dX10_begin_24 (by decide) ?_
      replace h := Option.some.inj h; subst h
      exact W.iret hx hb hr (fun t ht hW => ⟨rfl, by rw [ht]; exact hM.moved hW.alike, hS.F ht⟩) hS.2.2 dX10_begin_29
    replace h := o_t c10 h
    refine lv_iconst (v := (1 : Int32)) hx hb dX10_begin_13 (by decide) ?_
    refine lv_goto (tgt := 29) hx hb dX10_begin_14 (by decide) ?_
    replace h := Option.some.inj h; subst h
    exact W.iret hx hb hr (fun t ht hW => ⟨rfl, by rw [ht]; exact hM.moved hW.alike, hS.F ht⟩) hS.2.2 dX10_begin_29
  replace h := o_t c1 h
  refine lv_iconst (v := (0 : Int32)) hx hb dX10_begin_4 (by decide) ?_
  refine lv_goto (tgt := 29) hx hb dX10_begin_5 (by decide) ?_
  replace h := Option.some.inj h; subst h
  exact W.iret hx hb hr (fun t ht hW => ⟨rfl, by rw [ht]; exact hM.moved hW.alike, hS.F ht⟩) hS.2.2 dX10_begin_29
set_option maxHeartbeats 4000000 in
set_option maxRecDepth 100000 in
theorem c_X10_begin (l : Launch) (D : mmD) (b0 sz : Nat) {v0 : Int32} {f : mmF} {res : Int32} (h : f_X10_begin v0 f = some res) : Met l yX10_begin wsX10_begin ({ frames := 0, cells := 0, slots := 0, locals := 0 } : Room) (va_Pc [.int v0] (PW D b0 f sz)) (QW D b0 (some (.int res)) f sz) 0 0 (fun q => b0 ≤ q) := by
  refine Met.ofW (cc := cX10_begin) (maxL := 1) (ret := (some .int)) (by decide) rfl ?_
  intro p e s m args below meth c s₁ B hml hv
  obtain ⟨rfl, hM, hK⟩ := hv
  have hl := lv_entry ([.int v0]) (n := 1) (Nat.le_of_ble_eq_true rfl)
  rw [lg_entry_eq]
  generalize (lg_sl ([.int v0]) ++ List.replicate (1 - (lg_sl ([.int v0])).length) Slot.unset).toArray = ls at hl ⊢
  have hl : lv_has ls 1 [(0, .int v0)] := hl
  exact w_X10_begin ⟨B.exec, B.bytes, B.returns, hml, findClass_of_methodNamed B.named, atoms_spec (ws := wsX10_begin) B.pre, B.notSynchronized, hK⟩ h s.heap [] ls hM va_S.rf hl
end S_X10_begin
/-! X10_models -/
noncomputable def f_X10_models (v0 : Int32) (f : mmF) : Option (Int32) :=
  if v0 = 0 then
  (some ((16 : Int32)))
  else
  if v0 = (1 : Int32) then
  (some ((81 : Int32)))
  else
  if v0 = (2 : Int32) then
  (some ((256 : Int32)))
  else
  some ((625 : Int32))
section S_X10_models
variable {p : Program} {l : Launch} {e : Env} {s : State} {m : MethodId} {args : Array Value} {below : List Frame} {meth : Method} {c : Code} {D : mmD} {b0 sz : Nat} {f : mmF}
set_option maxHeartbeats 4000000 in
set_option maxRecDepth 100000 in
theorem w_X10_models (C0 : CX cX10_models 1 (some .int) wsX10_models RX10 p s m args meth c D b0) {v0 : Int32} {res : Int32} (h : f_X10_models v0 f = some res) : ∀ (H : Heap) (locs : List Loc) (ls : Array Slot), MM vwCl D b0 f sz s H → mS b0 s H locs → lv_has ls 1 [(0, .int v0)] → W p l e ({ frames := 0, cells := 0, slots := 0, locals := 0 } : Room) s m args below meth c H locs 0 0 (MQ below (QW D b0 (some (.int res)) f sz) args s 0 0 (fun q => b0 ≤ q)) (F0 m 0 ls []) := by
  obtain ⟨hx, hb, hr, hml, hown, hts, hlocks, hK⟩ := id C0
  intro H locs ls hM hS hl
  unfold f_X10_models at h
  refine lv_iload_n hx hb dX10_models_0 rfl (lv_at hl 0 rfl) ?_
  refine lv_if_ne (tgt := 9) hx hb dX10_models_1 (by decide) (fun c1 => ?_) (fun c1 => ?_)
  · replace h := o_f c1 h
    refine lv_iload_n hx hb dX10_models_9 rfl (lv_at hl 0 rfl) ?_
    refine lv_iconst (v := (1 : Int32)) hx hb dX10_models_10 (by decide) ?_
    refine lv_icmp_ne (tgt := 19) hx hb dX10_models_11 (by decide) (fun c11 => ?_) (fun c11 => ?_)
    · replace h := o_f c11 h
      refine lv_iload_n hx hb dX10_models_19 rfl (lv_at hl 0 rfl) ?_
      refine lv_iconst (v := (2 : Int32)) hx hb dX10_models_20 (by decide) ?_
      refine lv_icmp_ne (tgt := 30) hx hb dX10_models_21 (by decide) (fun c21 => ?_) (fun c21 => ?_)
      · replace h := o_f c21 h
        refine lv_sipush (v := (625 : Int32)) hx hb dX10_models_30 (by decide) ?_
        replace h := Option.some.inj h; subst h
        exact W.iret hx hb hr (fun t ht hW => ⟨rfl, by rw [ht]; exact hM.moved hW.alike, hS.F ht⟩) hS.2.2 dX10_models_33
      replace h := o_t c21 h
      refine lv_sipush (v := (256 : Int32)) hx hb dX10_models_24 (by decide) ?_
      refine lv_goto (tgt := 33) hx hb dX10_models_27 (by decide) ?_
      replace h := Option.some.inj h; subst h
      exact W.iret hx hb hr (fun t ht hW => ⟨rfl, by rw [ht]; exact hM.moved hW.alike, hS.F ht⟩) hS.2.2 dX10_models_33
    replace h := o_t c11 h
    refine lv_bipush (v := (81 : Int32)) hx hb dX10_models_14 (by decide) ?_
    refine lv_goto (tgt := 33) hx hb dX10_models_16 (by decide) ?_
    replace h := Option.some.inj h; subst h
    exact W.iret hx hb hr (fun t ht hW => ⟨rfl, by rw [ht]; exact hM.moved hW.alike, hS.F ht⟩) hS.2.2 dX10_models_33
  replace h := o_t c1 h
  refine lv_bipush (v := (16 : Int32)) hx hb dX10_models_4 (by decide) ?_
  refine lv_goto (tgt := 33) hx hb dX10_models_6 (by decide) ?_
  replace h := Option.some.inj h; subst h
  exact W.iret hx hb hr (fun t ht hW => ⟨rfl, by rw [ht]; exact hM.moved hW.alike, hS.F ht⟩) hS.2.2 dX10_models_33
set_option maxHeartbeats 4000000 in
set_option maxRecDepth 100000 in
theorem c_X10_models (l : Launch) (D : mmD) (b0 sz : Nat) {v0 : Int32} {f : mmF} {res : Int32} (h : f_X10_models v0 f = some res) : Met l yX10_models wsX10_models ({ frames := 0, cells := 0, slots := 0, locals := 0 } : Room) (va_Pc [.int v0] (PW D b0 f sz)) (QW D b0 (some (.int res)) f sz) 0 0 (fun q => b0 ≤ q) := by
  refine Met.ofW (cc := cX10_models) (maxL := 1) (ret := (some .int)) (by decide) rfl ?_
  intro p e s m args below meth c s₁ B hml hv
  obtain ⟨rfl, hM, hK⟩ := hv
  have hl := lv_entry ([.int v0]) (n := 1) (Nat.le_of_ble_eq_true rfl)
  rw [lg_entry_eq]
  generalize (lg_sl ([.int v0]) ++ List.replicate (1 - (lg_sl ([.int v0])).length) Slot.unset).toArray = ls at hl ⊢
  have hl : lv_has ls 1 [(0, .int v0)] := hl
  exact w_X10_models ⟨B.exec, B.bytes, B.returns, hml, findClass_of_methodNamed B.named, atoms_spec (ws := wsX10_models) B.pre, B.notSynchronized, hK⟩ h s.heap [] ls hM va_S.rf hl
end S_X10_models
/-! X10_isIn -/
noncomputable def f_X10_isIn (v0 : Int32) (v1 : Int32) (f : mmF) : Option (Int32) :=
  if ((v0 >>> (v1 &&& 31)) &&& (1 : Int32)) = (1 : Int32) then
  (some ((1 : Int32)))
  else
  some ((0 : Int32))
section S_X10_isIn
variable {p : Program} {l : Launch} {e : Env} {s : State} {m : MethodId} {args : Array Value} {below : List Frame} {meth : Method} {c : Code} {D : mmD} {b0 sz : Nat} {f : mmF}
set_option maxHeartbeats 4000000 in
set_option maxRecDepth 100000 in
theorem w_X10_isIn (C0 : CX cX10_isIn 2 (some .boolean) wsX10_isIn RX10 p s m args meth c D b0) {v0 : Int32} {v1 : Int32} {res : Int32} (h : f_X10_isIn v0 v1 f = some res) : ∀ (H : Heap) (locs : List Loc) (ls : Array Slot), MM vwCl D b0 f sz s H → mS b0 s H locs → lv_has ls 2 [(0, .int v0), (1, .int v1)] → W p l e ({ frames := 0, cells := 0, slots := 0, locals := 0 } : Room) s m args below meth c H locs 0 0 (MQ below (QW D b0 (some (.int res)) f sz) args s 0 0 (fun q => b0 ≤ q)) (F0 m 0 ls []) := by
  obtain ⟨hx, hb, hr, hml, hown, hts, hlocks, hK⟩ := id C0
  intro H locs ls hM hS hl
  unfold f_X10_isIn at h
  refine lv_iload_n hx hb dX10_isIn_0 rfl (lv_at hl 0 rfl) ?_
  refine lv_iload_n hx hb dX10_isIn_1 rfl (lv_at hl 1 rfl) ?_
  refine lv_ishr hx hb dX10_isIn_2 ?_
  refine lv_iconst (v := (1 : Int32)) hx hb dX10_isIn_3 (by decide) ?_
  refine lv_iand hx hb dX10_isIn_4 ?_
  refine lv_iconst (v := (1 : Int32)) hx hb dX10_isIn_5 (by decide) ?_
  refine lv_icmp_ne (tgt := 13) hx hb dX10_isIn_6 (by decide) (fun c6 => ?_) (fun c6 => ?_)
  · replace h := o_f c6 h
    refine lv_iconst (v := (0 : Int32)) hx hb dX10_isIn_13 (by decide) ?_
    replace h := Option.some.inj h; subst h
    exact W.zret hx hb hr rfl (fun t ht hW => ⟨rfl, by rw [ht]; exact hM.moved hW.alike, hS.F ht⟩) hS.2.2 dX10_isIn_14
  replace h := o_t c6 h
  refine lv_iconst (v := (1 : Int32)) hx hb dX10_isIn_9 (by decide) ?_
  refine lv_goto (tgt := 14) hx hb dX10_isIn_10 (by decide) ?_
  replace h := Option.some.inj h; subst h
  exact W.zret hx hb hr rfl (fun t ht hW => ⟨rfl, by rw [ht]; exact hM.moved hW.alike, hS.F ht⟩) hS.2.2 dX10_isIn_14
set_option maxHeartbeats 4000000 in
set_option maxRecDepth 100000 in
theorem c_X10_isIn (l : Launch) (D : mmD) (b0 sz : Nat) {v0 : Int32} {v1 : Int32} {f : mmF} {res : Int32} (h : f_X10_isIn v0 v1 f = some res) : Met l yX10_isIn wsX10_isIn ({ frames := 0, cells := 0, slots := 0, locals := 0 } : Room) (va_Pc [.int v0, .int v1] (PW D b0 f sz)) (QW D b0 (some (.int res)) f sz) 0 0 (fun q => b0 ≤ q) := by
  refine Met.ofW (cc := cX10_isIn) (maxL := 2) (ret := (some .boolean)) (by decide) rfl ?_
  intro p e s m args below meth c s₁ B hml hv
  obtain ⟨rfl, hM, hK⟩ := hv
  have hl := lv_entry ([.int v0, .int v1]) (n := 2) (Nat.le_of_ble_eq_true rfl)
  rw [lg_entry_eq]
  generalize (lg_sl ([.int v0, .int v1]) ++ List.replicate (2 - (lg_sl ([.int v0, .int v1])).length) Slot.unset).toArray = ls at hl ⊢
  have hl : lv_has ls 2 [(0, .int v0), (1, .int v1)] := hl
  exact w_X10_isIn ⟨B.exec, B.bytes, B.returns, hml, findClass_of_methodNamed B.named, atoms_spec (ws := wsX10_isIn) B.pre, B.notSynchronized, hK⟩ h s.heap [] ls hM va_S.rf hl
end S_X10_isIn
/-! X10_isKnownIn -/
noncomputable def f_X10_isKnownIn_35  (f : mmF) : Nat → Int32 → Int32 → Int32 → Int32 → Int32 → Int32 → Option (Int32)
  | 0, _, _, _, _, _, _ => none
  | n + 1, v0, v2, v3, v4, v5, v6 =>
    if v3 ≤ v6 then
    (if v4 = 0 then none else
    if (3 : Int32) ≤ v0 then
    (if (v5 - v5 / v4 * v4) = (4 : Int32) then
    (some ((1 : Int32)))
    else
    if v2 ≤ 0 then
    (some ((0 : Int32)))
    else
    (f_X10_isIn (v5 - v5 / v4 * v4) (v2 - (1 : Int32)) f).bind fun q98 =>
    if q98 = 0 then
    (some ((0 : Int32)))
    else
    some ((1 : Int32)))
    else
    if v2 < ((v4 - (1 : Int32)) - (v5 - v5 / v4 * v4)) then
    (some ((0 : Int32)))
    else
    some ((1 : Int32)))
    else
    if v4 = 0 then none else
    f_X10_isKnownIn_35 f n v0 v2 v3 v4 (v5 / v4) (v6 + (1 : Int32))
noncomputable def f_X10_isKnownIn_27  (f : mmF) (v0 : Int32) (v1 : Int32) (v2 : Int32) (v3 : Int32) (t0 : Int32) : Option (Int32) :=
  f_X10_isKnownIn_35 f FU v0 v2 v3 t0 v1 (0 : Int32)
noncomputable def f_X10_isKnownIn (v0 : Int32) (v1 : Int32) (v2 : Int32) (v3 : Int32) (f : mmF) : Option (Int32) :=
  if v0 = 0 then
  (f_X10_isKnownIn_27 f v0 v1 v2 v3 (2 : Int32))
  else
  if v0 = (1 : Int32) then
  (f_X10_isKnownIn_27 f v0 v1 v2 v3 (3 : Int32))
  else
  if v0 = (2 : Int32) then
  (f_X10_isKnownIn_27 f v0 v1 v2 v3 (4 : Int32))
  else
  f_X10_isKnownIn_27 f v0 v1 v2 v3 (5 : Int32)
section S_X10_isKnownIn
variable {p : Program} {l : Launch} {e : Env} {s : State} {m : MethodId} {args : Array Value} {below : List Frame} {meth : Method} {c : Code} {D : mmD} {b0 sz : Nat} {f : mmF}
set_option maxHeartbeats 4000000 in
set_option maxRecDepth 100000 in
theorem w_X10_isKnownIn_35 (C0 : CX cX10_isKnownIn 7 (some .boolean) wsX10_isKnownIn RX10 p s m args meth c D b0) {res : Int32} : ∀ (n : Nat), ∀ (v0 : Int32) (v2 : Int32) (v3 : Int32) (v4 : Int32) (v5 : Int32) (v6 : Int32), f_X10_isKnownIn_35 f n v0 v2 v3 v4 v5 v6 = some res → ∀ (H : Heap) (locs : List Loc) (ls : Array Slot), MM vwCl D b0 f sz s H → mS b0 s H locs → lv_has ls 7 [(0, .int v0), (2, .int v2), (3, .int v3), (4, .int v4), (5, .int v5), (6, .int v6)] → W p l e ({ frames := 1, cells := 0, slots := 0, locals := 21 } : Room) s m args below meth c H locs 0 0 (MQ below (QW D b0 (some (.int res)) f sz) args s 0 0 (fun q => b0 ≤ q)) (F0 m 35 ls []) := by
  obtain ⟨hx, hb, hr, hml, hown, hts, hlocks, hK⟩ := id C0
  intro n
  induction n with
  | zero =>
    intro v0 v2 v3 v4 v5 v6 h
    have h : (none : Option (Int32)) = some res := h
    cases h
  | succ n ih =>
    intro v0 v2 v3 v4 v5 v6 h H locs ls hM hS hl
    rw [f_X10_isKnownIn_35] at h
    refine lv_iload hx hb dX10_isKnownIn_35 (lv_at hl 5 rfl) ?_
    refine lv_iload_n hx hb dX10_isKnownIn_37 rfl (lv_at hl 2 rfl) ?_
    refine lv_icmp_ge (tgt := 54) hx hb dX10_isKnownIn_38 (by decide) (fun c38 => ?_) (fun c38 => ?_)
    · replace h := o_t c38 h
      refine lv_iload hx hb dX10_isKnownIn_54 (lv_at hl 4 rfl) ?_
      refine lv_iload hx hb dX10_isKnownIn_56 (lv_at hl 3 rfl) ?_
      replace h := o_n h; obtain ⟨z58, h⟩ := h
      refine lv_irem hx hb dX10_isKnownIn_58 z58 ?_
      refine lv_istore (lv' := [(5, .int (v5 - v5 / v4 * v4)), (0, .int v0), (2, .int v2), (3, .int v3), (4, .int v4), (6, .int v6)]) hx hb dX10_isKnownIn_59 hl (by decide) rfl (fun ls hl => ?_)
      refine lv_iload_n hx hb dX10_isKnownIn_61 rfl (lv_at hl 1 rfl) ?_
      refine lv_iconst (v := (3 : Int32)) hx hb dX10_isKnownIn_62 (by decide) ?_
      refine lv_icmp_ge (tgt := 83) hx hb dX10_isKnownIn_63 (by decide) (fun c63 => ?_) (fun c63 => ?_)
      · replace h := o_t c63 h
        refine lv_iload hx hb dX10_isKnownIn_83 (lv_at hl 0 rfl) ?_
        refine lv_iconst (v := (4 : Int32)) hx hb dX10_isKnownIn_85 (by decide) ?_
        refine lv_icmp_eq (tgt := 104) hx hb dX10_isKnownIn_86 (by decide) (fun c86 => ?_) (fun c86 => ?_)
        · replace h := o_t c86 h
          refine lv_iconst (v := (1 : Int32)) hx hb dX10_isKnownIn_104 (by decide) ?_
          refine lv_goto (tgt := 109) hx hb dX10_isKnownIn_105 (by decide) ?_
          replace h := Option.some.inj h; subst h
          exact W.zret hx hb hr rfl (fun t ht hW => ⟨rfl, by rw [ht]; exact hM.moved hW.alike, hS.F ht⟩) hS.2.2 dX10_isKnownIn_109
        replace h := o_f c86 h
        refine lv_iload_n hx hb dX10_isKnownIn_89 rfl (lv_at hl 2 rfl) ?_
        refine lv_if_le (tgt := 108) hx hb dX10_isKnownIn_90 (by decide) (fun c90 => ?_) (fun c90 => ?_)
        · replace h := o_t c90 h
          refine lv_iconst (v := (0 : Int32)) hx hb dX10_isKnownIn_108 (by decide) ?_
          replace h := Option.some.inj h; subst h
          exact W.zret hx hb hr rfl (fun t ht hW => ⟨rfl, by rw [ht]; exact hM.moved hW.alike, hS.F ht⟩) hS.2.2 dX10_isKnownIn_109
        replace h := o_f c90 h
        refine lv_iload hx hb dX10_isKnownIn_93 (lv_at hl 0 rfl) ?_
        refine lv_iload_n hx hb dX10_isKnownIn_95 rfl (lv_at hl 2 rfl) ?_
        refine lv_iconst (v := (1 : Int32)) hx hb dX10_isKnownIn_96 (by decide) ?_
        refine lv_isub hx hb dX10_isKnownIn_97 ?_
        replace h := o_b h; obtain ⟨q98, h98, h⟩ := h
        refine m_call (va_runS (As := [.int (v5 - v5 / v4 * v4), .int (v2 - (1 : Int32))]) (rest := []) ⟨hx, hb, hml, hown, hts⟩ (c_X10_isIn l D b0 sz h98) (va_cwS 2 hts gX10_isKnownIn_X10_isIn rfl rfl rfl (by decide +kernel) ⟨Nat.le_of_ble_eq_true rfl, Nat.le_of_ble_eq_true rfl⟩) ⟨PW.blind, (fun U hU hW => ⟨rfl, PW.call hK hM hS hU hW⟩)⟩ rfl rfl hl.1 rfl (lv_room (Nat.le_of_ble_eq_true rfl)) dX10_isKnownIn_98 ⟨(Nat.le_refl _), (Nat.le_refl _)⟩) hS (fun H locs hM hS => ?_)
        refine lv_if_eq (tgt := 108) hx hb dX10_isKnownIn_101 (by decide) (fun c101 => ?_) (fun c101 => ?_)
        · replace h := o_t c101 h
          refine lv_iconst (v := (0 : Int32)) hx hb dX10_isKnownIn_108 (by decide) ?_
          replace h := Option.some.inj h; subst h
          exact W.zret hx hb hr rfl (fun t ht hW => ⟨rfl, by rw [ht]; exact hM.moved hW.alike, hS.F ht⟩) hS.2.2 dX10_isKnownIn_109
        replace h := o_f c101 h
        refine lv_iconst (v := (1 : Int32)) hx hb dX10_isKnownIn_104 (by decide) ?_
        refine lv_goto (tgt := 109) hx hb dX10_isKnownIn_105 (by decide) ?_
        replace h := Option.some.inj h; subst h
        exact W.zret hx hb hr rfl (fun t ht hW => ⟨rfl, by rw [ht]; exact hM.moved hW.alike, hS.F ht⟩) hS.2.2 dX10_isKnownIn_109
      replace h := o_f c63 h
      refine lv_iload_n hx hb dX10_isKnownIn_66 rfl (lv_at hl 2 rfl) ?_
      refine lv_iload hx hb dX10_isKnownIn_67 (lv_at hl 4 rfl) ?_
      refine lv_iconst (v := (1 : Int32)) hx hb dX10_isKnownIn_69 (by decide) ?_
      refine lv_isub hx hb dX10_isKnownIn_70 ?_
      refine lv_iload hx hb dX10_isKnownIn_71 (lv_at hl 0 rfl) ?_
      refine lv_isub hx hb dX10_isKnownIn_73 ?_
      refine lv_icmp_lt (tgt := 81) hx hb dX10_isKnownIn_74 (by decide) (fun c74 => ?_) (fun c74 => ?_)
      · replace h := o_t c74 h
        refine lv_iconst (v := (0 : Int32)) hx hb dX10_isKnownIn_81 (by decide) ?_
        replace h := Option.some.inj h; subst h
        exact W.zret hx hb hr rfl (fun t ht hW => ⟨rfl, by rw [ht]; exact hM.moved hW.alike, hS.F ht⟩) hS.2.2 dX10_isKnownIn_82
      replace h := o_f c74 h
      refine lv_iconst (v := (1 : Int32)) hx hb dX10_isKnownIn_77 (by decide) ?_
      refine lv_goto (tgt := 82) hx hb dX10_isKnownIn_78 (by decide) ?_
      replace h := Option.some.inj h; subst h
      exact W.zret hx hb hr rfl (fun t ht hW => ⟨rfl, by rw [ht]; exact hM.moved hW.alike, hS.F ht⟩) hS.2.2 dX10_isKnownIn_82
    replace h := o_f c38 h
    refine lv_iload hx hb dX10_isKnownIn_41 (lv_at hl 4 rfl) ?_
    refine lv_iload hx hb dX10_isKnownIn_43 (lv_at hl 3 rfl) ?_
    replace h := o_n h; obtain ⟨z45, h⟩ := h
    refine lv_idiv hx hb dX10_isKnownIn_45 z45 ?_
    refine lv_istore (lv' := [(5, .int (v5 / v4)), (0, .int v0), (2, .int v2), (3, .int v3), (4, .int v4), (6, .int v6)]) hx hb dX10_isKnownIn_46 hl (by decide) rfl (fun ls hl => ?_)
    refine lv_iinc (v := (v6 + (1 : Int32))) (lv' := [(6, .int (v6 + (1 : Int32))), (5, .int (v5 / v4)), (0, .int v0), (2, .int v2), (3, .int v3), (4, .int v4)]) hx hb dX10_isKnownIn_48 hl (k := 5) rfl rfl (by decide) rfl (fun ls hl => ?_)
    refine lv_goto (tgt := 35) hx hb dX10_isKnownIn_51 (by decide) ?_
    exact ih _ _ _ _ _ _ h _ _ _ hM hS (lv_sub hl [2, 3, 4, 5, 1, 0] rfl)
set_option maxHeartbeats 4000000 in
set_option maxRecDepth 100000 in
theorem w_X10_isKnownIn_27 (C0 : CX cX10_isKnownIn 7 (some .boolean) wsX10_isKnownIn RX10 p s m args meth c D b0) {res : Int32} : ∀ (v0 : Int32) (v1 : Int32) (v2 : Int32) (v3 : Int32) (t0 : Int32), f_X10_isKnownIn_27 f v0 v1 v2 v3 t0 = some res → ∀ (H : Heap) (locs : List Loc) (ls : Array Slot), MM vwCl D b0 f sz s H → mS b0 s H locs → lv_has ls 7 [(0, .int v0), (1, .int v1), (2, .int v2), (3, .int v3)] → W p l e ({ frames := 1, cells := 0, slots := 0, locals := 21 } : Room) s m args below meth c H locs 0 0 (MQ below (QW D b0 (some (.int res)) f sz) args s 0 0 (fun q => b0 ≤ q)) (F0 m 27 ls [.int t0]) := by
  obtain ⟨hx, hb, hr, hml, hown, hts, hlocks, hK⟩ := id C0
  intro v0 v1 v2 v3 t0 h H locs ls hM hS hl
  unfold f_X10_isKnownIn_27 at h
  refine lv_istore (lv' := [(4, .int t0), (0, .int v0), (1, .int v1), (2, .int v2), (3, .int v3)]) hx hb dX10_isKnownIn_27 hl (by decide) rfl (fun ls hl => ?_)
  refine lv_iload_n hx hb dX10_isKnownIn_29 rfl (lv_at hl 2 rfl) ?_
  refine lv_istore (lv' := [(5, .int v1), (4, .int t0), (0, .int v0), (1, .int v1), (2, .int v2), (3, .int v3)]) hx hb dX10_isKnownIn_30 hl (by decide) rfl (fun ls hl => ?_)
  refine lv_iconst (v := (0 : Int32)) hx hb dX10_isKnownIn_32 (by decide) ?_
  refine lv_istore (lv' := [(6, .int (0 : Int32)), (5, .int v1), (4, .int t0), (0, .int v0), (1, .int v1), (2, .int v2), (3, .int v3)]) hx hb dX10_isKnownIn_33 hl (by decide) rfl (fun ls hl => ?_)
  exact w_X10_isKnownIn_35 C0 FU _ _ _ _ _ _ h _ _ _ hM hS (lv_sub hl [3, 5, 6, 2, 1, 0] rfl)
set_option maxHeartbeats 4000000 in
set_option maxRecDepth 100000 in
theorem w_X10_isKnownIn (C0 : CX cX10_isKnownIn 7 (some .boolean) wsX10_isKnownIn RX10 p s m args meth c D b0) {v0 : Int32} {v1 : Int32} {v2 : Int32} {v3 : Int32} {res : Int32} (h : f_X10_isKnownIn v0 v1 v2 v3 f = some res) : ∀ (H : Heap) (locs : List Loc) (ls : Array Slot), MM vwCl D b0 f sz s H → mS b0 s H locs → lv_has ls 7 [(0, .int v0), (1, .int v1), (2, .int v2), (3, .int v3)] → W p l e ({ frames := 1, cells := 0, slots := 0, locals := 21 } : Room) s m args below meth c H locs 0 0 (MQ below (QW D b0 (some (.int res)) f sz) args s 0 0 (fun q => b0 ≤ q)) (F0 m 0 ls []) := by
  obtain ⟨hx, hb, hr, hml, hown, hts, hlocks, hK⟩ := id C0
  intro H locs ls hM hS hl
  unfold f_X10_isKnownIn at h
  refine lv_iload_n hx hb dX10_isKnownIn_0 rfl (lv_at hl 0 rfl) ?_
  refine lv_if_ne (tgt := 8) hx hb dX10_isKnownIn_1 (by decide) (fun c1 => ?_) (fun c1 => ?_)
  · replace h := o_f c1 h
    refine lv_iload_n hx hb dX10_isKnownIn_8 rfl (lv_at hl 0 rfl) ?_
    refine lv_iconst (v := (1 : Int32)) hx hb dX10_isKnownIn_9 (by decide) ?_
    refine lv_icmp_ne (tgt := 17) hx hb dX10_isKnownIn_10 (by decide) (fun c10 => ?_) (fun c10 => ?_)
    · replace h := o_f c10 h
      refine lv_iload_n hx hb dX10_isKnownIn_17 rfl (lv_at hl 0 rfl) ?_
      refine lv_iconst (v := (2 : Int32)) hx hb dX10_isKnownIn_18 (by decide) ?_
      refine lv_icmp_ne (tgt := 26) hx hb dX10_isKnownIn_19 (by decide) (fun c19 => ?_) (fun c19 => ?_)
      · replace h := o_f c19 h
        refine lv_iconst (v := (5 : Int32)) hx hb dX10_isKnownIn_26 (by decide) ?_
        exact w_X10_isKnownIn_27 C0 _ _ _ _ _ h _ _ _ hM hS (lv_sub hl [0, 1, 2, 3] rfl)
      replace h := o_t c19 h
      refine lv_iconst (v := (4 : Int32)) hx hb dX10_isKnownIn_22 (by decide) ?_
      refine lv_goto (tgt := 27) hx hb dX10_isKnownIn_23 (by decide) ?_
      exact w_X10_isKnownIn_27 C0 _ _ _ _ _ h _ _ _ hM hS (lv_sub hl [0, 1, 2, 3] rfl)
    replace h := o_t c10 h
    refine lv_iconst (v := (3 : Int32)) hx hb dX10_isKnownIn_13 (by decide) ?_
    refine lv_goto (tgt := 27) hx hb dX10_isKnownIn_14 (by decide) ?_
    exact w_X10_isKnownIn_27 C0 _ _ _ _ _ h _ _ _ hM hS (lv_sub hl [0, 1, 2, 3] rfl)
  replace h := o_t c1 h
  refine lv_iconst (v := (2 : Int32)) hx hb dX10_isKnownIn_4 (by decide) ?_
  refine lv_goto (tgt := 27) hx hb dX10_isKnownIn_5 (by decide) ?_
  exact w_X10_isKnownIn_27 C0 _ _ _ _ _ h _ _ _ hM hS (lv_sub hl [0, 1, 2, 3] rfl)
set_option maxHeartbeats 4000000 in
set_option maxRecDepth 100000 in
theorem c_X10_isKnownIn (l : Launch) (D : mmD) (b0 sz : Nat) {v0 : Int32} {v1 : Int32} {v2 : Int32} {v3 : Int32} {f : mmF} {res : Int32} (h : f_X10_isKnownIn v0 v1 v2 v3 f = some res) : Met l yX10_isKnownIn wsX10_isKnownIn ({ frames := 1, cells := 0, slots := 0, locals := 21 } : Room) (va_Pc [.int v0, .int v1, .int v2, .int v3] (PW D b0 f sz)) (QW D b0 (some (.int res)) f sz) 0 0 (fun q => b0 ≤ q) := by
  refine Met.ofW (cc := cX10_isKnownIn) (maxL := 7) (ret := (some .boolean)) (by decide) rfl ?_
  intro p e s m args below meth c s₁ B hml hv
  obtain ⟨rfl, hM, hK⟩ := hv
  have hl := lv_entry ([.int v0, .int v1, .int v2, .int v3]) (n := 7) (Nat.le_of_ble_eq_true rfl)
  rw [lg_entry_eq]
  generalize (lg_sl ([.int v0, .int v1, .int v2, .int v3]) ++ List.replicate (7 - (lg_sl ([.int v0, .int v1, .int v2, .int v3])).length) Slot.unset).toArray = ls at hl ⊢
  have hl : lv_has ls 7 [(0, .int v0), (1, .int v1), (2, .int v2), (3, .int v3)] := hl
  exact w_X10_isKnownIn ⟨B.exec, B.bytes, B.returns, hml, findClass_of_methodNamed B.named, atoms_spec (ws := wsX10_isKnownIn) B.pre, B.notSynchronized, hK⟩ h s.heap [] ls hM va_S.rf hl
end S_X10_isKnownIn
/-! X10_factWord -/
noncomputable def f_X10_factWord_53 (k6 : Int32 → Int32 → Int32 → Int32 → Int32 → Int32 → Option (Int32)) (f : mmF) (v0 : Int32) (v1 : Int32) (v2 : Int32) (v3 : Int32) (v5 : Int32) (t0 : Int32) (t1 : Int32) : Option (Int32) :=
  k6 v0 v1 v2 v3 (t0 ||| t1) (v5 + (1 : Int32))
noncomputable def f_X10_factWord_52 (k6 : Int32 → Int32 → Int32 → Int32 → Int32 → Int32 → Option (Int32)) (f : mmF) (v0 : Int32) (v1 : Int32) (v2 : Int32) (v3 : Int32) (v5 : Int32) (t0 : Int32) : Option (Int32) :=
  f_X10_factWord_53 k6 f v0 v1 v2 v3 v5 t0 (0 : Int32)
noncomputable def f_X10_factWord_6  (f : mmF) : Nat → Int32 → Int32 → Int32 → Int32 → Int32 → Int32 → Option (Int32)
  | 0, _, _, _, _, _, _ => none
  | n + 1, v0, v1, v2, v3, v4, v5 =>
    if (32 : Int32) ≤ v5 then
    (some (v4))
    else
    (f_X10_models v0 f).bind fun q23 =>
    if q23 ≤ (((32 : Int32) * v2) + v5) then
    (f_X10_factWord_52 (fun a0 a1 a2 a3 a4 a5 => f_X10_factWord_6 f n a0 a1 a2 a3 a4 a5) f v0 v1 v2 v3 v5 v4)
    else
    (f_X10_isKnownIn v0 (((32 : Int32) * v2) + v5) v1 v3 f).bind fun q39 =>
    if q39 = 0 then
    (f_X10_factWord_52 (fun a0 a1 a2 a3 a4 a5 => f_X10_factWord_6 f n a0 a1 a2 a3 a4 a5) f v0 v1 v2 v3 v5 v4)
    else
    f_X10_factWord_53 (fun a0 a1 a2 a3 a4 a5 => f_X10_factWord_6 f n a0 a1 a2 a3 a4 a5) f v0 v1 v2 v3 v5 v4 ((1 : Int32) <<< (v5 &&& 31))
noncomputable def f_X10_factWord (v0 : Int32) (v1 : Int32) (v2 : Int32) (v3 : Int32) (f : mmF) : Option (Int32) :=
  f_X10_factWord_6 f FU v0 v1 v2 v3 (0 : Int32) (0 : Int32)
section S_X10_factWord
variable {p : Program} {l : Launch} {e : Env} {s : State} {m : MethodId} {args : Array Value} {below : List Frame} {meth : Method} {c : Code} {D : mmD} {b0 sz : Nat} {f : mmF}
set_option maxHeartbeats 4000000 in
set_option maxRecDepth 100000 in
theorem w_X10_factWord_53 (C0 : CX cX10_factWord 6 (some .int) wsX10_factWord RX10 p s m args meth c D b0) {k6 : Int32 → Int32 → Int32 → Int32 → Int32 → Int32 → Option (Int32)} {res : Int32} (hk6 : ∀ (v0 : Int32) (v1 : Int32) (v2 : Int32) (v3 : Int32) (v4 : Int32) (v5 : Int32), k6 v0 v1 v2 v3 v4 v5 = some res → ∀ (H : Heap) (locs : List Loc) (ls : Array Slot), MM vwCl D b0 f sz s H → mS b0 s H locs → lv_has ls 6 [(0, .int v0), (1, .int v1), (2, .int v2), (3, .int v3), (4, .int v4), (5, .int v5)] → W p l e ({ frames := 2, cells := 0, slots := 0, locals := 47 } : Room) s m args below meth c H locs 0 0 (MQ below (QW D b0 (some (.int res)) f sz) args s 0 0 (fun q => b0 ≤ q)) (F0 m 6 ls [])) : ∀ (v0 : Int32) (v1 : Int32) (v2 : Int32) (v3 : Int32) (v5 : Int32) (t0 : Int32) (t1 : Int32), f_X10_factWord_53 k6 f v0 v1 v2 v3 v5 t0 t1 = some res → ∀ (H : Heap) (locs : List Loc) (ls : Array Slot), MM vwCl D b0 f sz s H → mS b0 s H locs → lv_has ls 6 [(0, .int v0), (1, .int v1), (2, .int v2), (3, .int v3), (5, .int v5)] → W p l e ({ frames := 2, cells := 0, slots := 0, locals := 47 } : Room) s m args below meth c H locs 0 0 (MQ below (QW D b0 (some (.int res)) f sz) args s 0 0 (fun q => b0 ≤ q)) (F0 m 53 ls [.int t1, .int t0]) := by
  obtain ⟨hx, hb, hr, hml, hown, hts, hlocks, hK⟩ := id C0
  intro v0 v1 v2 v3 v5 t0 t1 h H locs ls hM hS hl
  unfold f_X10_factWord_53 at h
  refine lv_ior hx hb dX10_factWord_53 ?_
  refine lv_istore (lv' := [(4, .int (t0 ||| t1)), (0, .int v0), (1, .int v1), (2, .int v2), (3, .int v3), (5, .int v5)]) hx hb dX10_factWord_54 hl (by decide) rfl (fun ls hl => ?_)
  refine lv_iinc (v := (v5 + (1 : Int32))) (lv' := [(5, .int (v5 + (1 : Int32))), (4, .int (t0 ||| t1)), (0, .int v0), (1, .int v1), (2, .int v2), (3, .int v3)]) hx hb dX10_factWord_56 hl (k := 5) rfl rfl (by decide) rfl (fun ls hl => ?_)
  refine lv_goto (tgt := 6) hx hb dX10_factWord_59 (by decide) ?_
  exact hk6 _ _ _ _ _ _ h _ _ _ hM hS (lv_sub hl [2, 3, 4, 5, 1, 0] rfl)
set_option maxHeartbeats 4000000 in
set_option maxRecDepth 100000 in
theorem w_X10_factWord_52 (C0 : CX cX10_factWord 6 (some .int) wsX10_factWord RX10 p s m args meth c D b0) {k6 : Int32 → Int32 → Int32 → Int32 → Int32 → Int32 → Option (Int32)} {res : Int32} (hk6 : ∀ (v0 : Int32) (v1 : Int32) (v2 : Int32) (v3 : Int32) (v4 : Int32) (v5 : Int32), k6 v0 v1 v2 v3 v4 v5 = some res → ∀ (H : Heap) (locs : List Loc) (ls : Array Slot), MM vwCl D b0 f sz s H → mS b0 s H locs → lv_has ls 6 [(0, .int v0), (1, .int v1), (2, .int v2), (3, .int v3), (4, .int v4), (5, .int v5)] → W p l e ({ frames := 2, cells := 0, slots := 0, locals := 47 } : Room) s m args below meth c H locs 0 0 (MQ below (QW D b0 (some (.int res)) f sz) args s 0 0 (fun q => b0 ≤ q)) (F0 m 6 ls [])) : ∀ (v0 : Int32) (v1 : Int32) (v2 : Int32) (v3 : Int32) (v5 : Int32) (t0 : Int32), f_X10_factWord_52 k6 f v0 v1 v2 v3 v5 t0 = some res → ∀ (H : Heap) (locs : List Loc) (ls : Array Slot), MM vwCl D b0 f sz s H → mS b0 s H locs → lv_has ls 6 [(0, .int v0), (1, .int v1), (2, .int v2), (3, .int v3), (5, .int v5)] → W p l e ({ frames := 2, cells := 0, slots := 0, locals := 47 } : Room) s m args below meth c H locs 0 0 (MQ below (QW D b0 (some (.int res)) f sz) args s 0 0 (fun q => b0 ≤ q)) (F0 m 52 ls [.int t0]) := by
  obtain ⟨hx, hb, hr, hml, hown, hts, hlocks, hK⟩ := id C0
  intro v0 v1 v2 v3 v5 t0 h H locs ls hM hS hl
  unfold f_X10_factWord_52 at h
  refine lv_iconst (v := (0 : Int32)) hx hb dX10_factWord_52 (by decide) ?_
  exact w_X10_factWord_53 C0 hk6 _ _ _ _ _ _ _ h _ _ _ hM hS (lv_sub hl [0, 1, 2, 3, 4] rfl)
set_option maxHeartbeats 4000000 in
set_option maxRecDepth 100000 in
theorem w_X10_factWord_6 (C0 : CX cX10_factWord 6 (some .int) wsX10_factWord RX10 p s m args meth c D b0) {res : Int32} : ∀ (n : Nat), ∀ (v0 : Int32) (v1 : Int32) (v2 : Int32) (v3 : Int32) (v4 : Int32) (v5 : Int32), f_X10_factWord_6 f n v0 v1 v2 v3 v4 v5 = some res → ∀ (H : Heap) (locs : List Loc) (ls : Array Slot), MM vwCl D b0 f sz s H → mS b0 s H locs → lv_has ls 6 [(0, .int v0), (1, .int v1), (2, .int v2), (3, .int v3), (4, .int v4), (5, .int v5)] → W p l e ({ frames := 2, cells := 0, slots := 0, locals := 47 } : Room) s m args below meth c H locs 0 0 (MQ below (QW D b0 (some (.int res)) f sz) args s 0 0 (fun q => b0 ≤ q)) (F0 m 6 ls []) := by
  obtain ⟨hx, hb, hr, hml, hown, hts, hlocks, hK⟩ := id C0
  intro n
  induction n with
  | zero =>
    intro v0 v1 v2 v3 v4 v5 h
    have h : (none : Option (Int32)) = some res := h
    cases h
  | succ n ih =>
    intro v0 v1 v2 v3 v4 v5 h H locs ls hM hS hl
    rw [f_X10_factWord_6] at h
    refine lv_iload hx hb dX10_factWord_6 (lv_at hl 5 rfl) ?_
    refine lv_bipush (v := (32 : Int32)) hx hb dX10_factWord_8 (by decide) ?_
    refine lv_icmp_ge (tgt := 62) hx hb dX10_factWord_10 (by decide) (fun c10 => ?_) (fun c10 => ?_)
    · replace h := o_t c10 h
      refine lv_iload hx hb dX10_factWord_62 (lv_at hl 4 rfl) ?_
      replace h := Option.some.inj h; subst h
      exact W.iret hx hb hr (fun t ht hW => ⟨rfl, by rw [ht]; exact hM.moved hW.alike, hS.F ht⟩) hS.2.2 dX10_factWord_64
    replace h := o_f c10 h
    refine lv_iload hx hb dX10_factWord_13 (lv_at hl 4 rfl) ?_
    refine lv_bipush (v := (32 : Int32)) hx hb dX10_factWord_15 (by decide) ?_
    refine lv_iload_n hx hb dX10_factWord_17 rfl (lv_at hl 2 rfl) ?_
    refine lv_imul hx hb dX10_factWord_18 ?_
    refine lv_iload hx hb dX10_factWord_19 (lv_at hl 5 rfl) ?_
    refine lv_iadd hx hb dX10_factWord_21 ?_
    refine lv_iload_n hx hb dX10_factWord_22 rfl (lv_at hl 0 rfl) ?_
    replace h := o_b h; obtain ⟨q23, h23, h⟩ := h
    refine m_call (va_runS (As := [.int v0]) (rest := [.int (((32 : Int32) * v2) + v5), .int v4]) ⟨hx, hb, hml, hown, hts⟩ (c_X10_models l D b0 sz h23) (va_cwS 1 hts gX10_factWord_X10_models rfl rfl rfl (by decide +kernel) ⟨Nat.le_of_ble_eq_true rfl, Nat.le_of_ble_eq_true rfl⟩) ⟨PW.blind, (fun U hU hW => ⟨rfl, PW.call hK hM hS hU hW⟩)⟩ rfl rfl hl.1 rfl (lv_room (Nat.le_of_ble_eq_true rfl)) dX10_factWord_23 ⟨(Nat.le_refl _), (Nat.le_refl _)⟩) hS (fun H locs hM hS => ?_)
    refine lv_icmp_ge (tgt := 52) hx hb dX10_factWord_26 (by decide) (fun c26 => ?_) (fun c26 => ?_)
    · replace h := o_t c26 h
      exact w_X10_factWord_52 C0 ih _ _ _ _ _ _ h _ _ _ hM hS (lv_sub hl [0, 1, 2, 3, 5] rfl)
    replace h := o_f c26 h
    refine lv_iload_n hx hb dX10_factWord_29 rfl (lv_at hl 0 rfl) ?_
    refine lv_bipush (v := (32 : Int32)) hx hb dX10_factWord_30 (by decide) ?_
    refine lv_iload_n hx hb dX10_factWord_32 rfl (lv_at hl 2 rfl) ?_
    refine lv_imul hx hb dX10_factWord_33 ?_
    refine lv_iload hx hb dX10_factWord_34 (lv_at hl 5 rfl) ?_
    refine lv_iadd hx hb dX10_factWord_36 ?_
    refine lv_iload_n hx hb dX10_factWord_37 rfl (lv_at hl 1 rfl) ?_
    refine lv_iload_n hx hb dX10_factWord_38 rfl (lv_at hl 3 rfl) ?_
    replace h := o_b h; obtain ⟨q39, h39, h⟩ := h
    refine m_call (va_runS (As := [.int v0, .int (((32 : Int32) * v2) + v5), .int v1, .int v3]) (rest := [.int v4]) ⟨hx, hb, hml, hown, hts⟩ (c_X10_isKnownIn l D b0 sz h39) (va_cwS 4 hts gX10_factWord_X10_isKnownIn rfl rfl rfl (by decide +kernel) ⟨Nat.le_of_ble_eq_true rfl, Nat.le_of_ble_eq_true rfl⟩) ⟨PW.blind, (fun U hU hW => ⟨rfl, PW.call hK hM hS hU hW⟩)⟩ rfl rfl hl.1 rfl (lv_room (Nat.le_of_ble_eq_true rfl)) dX10_factWord_39 ⟨(Nat.le_refl _), (Nat.le_refl _)⟩) hS (fun H locs hM hS => ?_)
    refine lv_if_eq (tgt := 52) hx hb dX10_factWord_42 (by decide) (fun c42 => ?_) (fun c42 => ?_)
    · replace h := o_t c42 h
      exact w_X10_factWord_52 C0 ih _ _ _ _ _ _ h _ _ _ hM hS (lv_sub hl [0, 1, 2, 3, 5] rfl)
    replace h := o_f c42 h
    refine lv_iconst (v := (1 : Int32)) hx hb dX10_factWord_45 (by decide) ?_
    refine lv_iload hx hb dX10_factWord_46 (lv_at hl 5 rfl) ?_
    refine lv_ishl hx hb dX10_factWord_48 ?_
    refine lv_goto (tgt := 53) hx hb dX10_factWord_49 (by decide) ?_
    exact w_X10_factWord_53 C0 ih _ _ _ _ _ _ _ h _ _ _ hM hS (lv_sub hl [0, 1, 2, 3, 5] rfl)
set_option maxHeartbeats 4000000 in
set_option maxRecDepth 100000 in
theorem w_X10_factWord (C0 : CX cX10_factWord 6 (some .int) wsX10_factWord RX10 p s m args meth c D b0) {v0 : Int32} {v1 : Int32} {v2 : Int32} {v3 : Int32} {res : Int32} (h : f_X10_factWord v0 v1 v2 v3 f = some res) : ∀ (H : Heap) (locs : List Loc) (ls : Array Slot), MM vwCl D b0 f sz s H → mS b0 s H locs → lv_has ls 6 [(0, .int v0), (1, .int v1), (2, .int v2), (3, .int v3)] → W p l e ({ frames := 2, cells := 0, slots := 0, locals := 47 } : Room) s m args below meth c H locs 0 0 (MQ below (QW D b0 (some (.int res)) f sz) args s 0 0 (fun q => b0 ≤ q)) (F0 m 0 ls []) := by
  obtain ⟨hx, hb, hr, hml, hown, hts, hlocks, hK⟩ := id C0
  intro H locs ls hM hS hl
  unfold f_X10_factWord at h
  refine lv_iconst (v := (0 : Int32)) hx hb dX10_factWord_0 (by decide) ?_
  refine lv_istore (lv' := [(4, .int (0 : Int32)), (0, .int v0), (1, .int v1), (2, .int v2), (3, .int v3)]) hx hb dX10_factWord_1 hl (by decide) rfl (fun ls hl => ?_)
  refine lv_iconst (v := (0 : Int32)) hx hb dX10_factWord_3 (by decide) ?_
  refine lv_istore (lv' := [(5, .int (0 : Int32)), (4, .int (0 : Int32)), (0, .int v0), (1, .int v1), (2, .int v2), (3, .int v3)]) hx hb dX10_factWord_4 hl (by decide) rfl (fun ls hl => ?_)
  exact w_X10_factWord_6 C0 FU _ _ _ _ _ _ h _ _ _ hM hS (lv_sub hl [2, 3, 4, 5, 1, 0] rfl)
set_option maxHeartbeats 4000000 in
set_option maxRecDepth 100000 in
theorem c_X10_factWord (l : Launch) (D : mmD) (b0 sz : Nat) {v0 : Int32} {v1 : Int32} {v2 : Int32} {v3 : Int32} {f : mmF} {res : Int32} (h : f_X10_factWord v0 v1 v2 v3 f = some res) : Met l yX10_factWord wsX10_factWord ({ frames := 2, cells := 0, slots := 0, locals := 47 } : Room) (va_Pc [.int v0, .int v1, .int v2, .int v3] (PW D b0 f sz)) (QW D b0 (some (.int res)) f sz) 0 0 (fun q => b0 ≤ q) := by
  refine Met.ofW (cc := cX10_factWord) (maxL := 6) (ret := (some .int)) (by decide) rfl ?_
  intro p e s m args below meth c s₁ B hml hv
  obtain ⟨rfl, hM, hK⟩ := hv
  have hl := lv_entry ([.int v0, .int v1, .int v2, .int v3]) (n := 6) (Nat.le_of_ble_eq_true rfl)
  rw [lg_entry_eq]
  generalize (lg_sl ([.int v0, .int v1, .int v2, .int v3]) ++ List.replicate (6 - (lg_sl ([.int v0, .int v1, .int v2, .int v3])).length) Slot.unset).toArray = ls at hl ⊢
  have hl : lv_has ls 6 [(0, .int v0), (1, .int v1), (2, .int v2), (3, .int v3)] := hl
  exact w_X10_factWord ⟨B.exec, B.bytes, B.returns, hml, findClass_of_methodNamed B.named, atoms_spec (ws := wsX10_factWord) B.pre, B.notSynchronized, hK⟩ h s.heap [] ls hM va_S.rf hl
end S_X10_factWord
/-! X10_madeWord -/
set_option maxRecDepth 20000 in
theorem qi_X10_madeWord_X10 : ∀ w ∈ u_ws RX10 TX10 25, w ∈ wsX10_madeWord := by decide +kernel
set_option maxRecDepth 20000 in
theorem q_X10_madeWord_1 : Cond.fieldLink RX10 48 "StageTruthsModel" "where" "[I" ∈ wsX10_madeWord := by decide +kernel
set_option maxRecDepth 20000 in
theorem q_X10_madeWord_2 : Cond.fieldLink RX10 41 "StageTruthsModel" "left" "[I" ∈ wsX10_madeWord := by decide +kernel
set_option maxRecDepth 20000 in
theorem q_X10_madeWord_3 : Cond.fieldLink RX10 44 "StageTruthsModel" "right" "[I" ∈ wsX10_madeWord := by decide +kernel
set_option maxRecDepth 20000 in
theorem q_X10_madeWord_4 : Cond.fieldLink RX10 38 "StageTruthsModel" "op" "[I" ∈ wsX10_madeWord := by decide +kernel
noncomputable def f_X10_madeWord_167  (f : mmF) (v0 : Nat) (v1 : Int32) (v2 : Int32) (v3 : Int32) (v4 : Int32) (v7 : Int32) (v8 : Int32) : Option (Int32) :=
  if (3 : Int32) ≤ v2 then
  (some (v7))
  else
  if v2 ≤ v3 then
  (some (v7))
  else
  (ldR f v0 10 18).bind fun x180 =>
  (ldA 0 f x180 ((((91 : Int32) * v1) + v4) + v8)).bind fun x193 =>
  some ((v7 &&& x193))
noncomputable def f_X10_madeWord (v0 : Nat) (v1 : Int32) (v2 : Int32) (v3 : Int32) (v4 : Int32) (f : mmF) : Option (Int32) :=
  (ldR f v0 10 18).bind fun x1 =>
  (ldR f v0 10 16).bind fun x7 =>
  (ldA 0 f x7 v1).bind fun x11 =>
  (ldA 0 f x1 (((91 : Int32) * x11) + v4)).bind fun x16 =>
  (ldR f v0 10 18).bind fun x20 =>
  (ldR f v0 10 17).bind fun x26 =>
  (ldA 0 f x26 v1).bind fun x30 =>
  (ldA 0 f x20 (((91 : Int32) * x30) + v4)).bind fun x35 =>
  (ldR f v0 10 15).bind fun x39 =>
  (ldA 0 f x39 v1).bind fun x43 =>
  if x43 = (9 : Int32) then
  ((f_X10_wordsOf v2 f).bind fun q112 =>
  if v2 = (3 : Int32) then
  (if v3 = 0 then
  ((ldR f v0 10 18).bind fun x129 =>
  (ldA 0 f x129 ((((91 : Int32) * v1) + v4) + q112)).bind fun x142 =>
  (ldR f v0 10 18).bind fun x144 =>
  (ldA 0 f x144 ((((91 : Int32) * v1) + v4) + ((2 : Int32) * q112))).bind fun x159 =>
  some ((((x16 ^^^ (-1 : Int32)) ||| x35) &&& (x142 &&& x159))))
  else
  f_X10_madeWord_167 f v0 v1 v2 v3 v4 ((x16 ^^^ (-1 : Int32)) ||| x35) q112)
  else
  f_X10_madeWord_167 f v0 v1 v2 v3 v4 ((x16 ^^^ (-1 : Int32)) ||| x35) q112)
  else
  (ldR f v0 10 15).bind fun x50 =>
  (ldA 0 f x50 v1).bind fun x54 =>
  if x54 = (4 : Int32) then
  (some ((-1 : Int32)))
  else
  (ldR f v0 10 15).bind fun x64 =>
  (ldA 0 f x64 v1).bind fun x68 =>
  if x68 = (5 : Int32) then
  (some ((0 : Int32)))
  else
  (ldR f v0 10 15).bind fun x78 =>
  (ldA 0 f x78 v1).bind fun x82 =>
  if x82 = (7 : Int32) then
  (some ((x16 &&& x35)))
  else
  some ((x16 ||| x35))
section S_X10_madeWord
variable {p : Program} {l : Launch} {e : Env} {s : State} {m : MethodId} {args : Array Value} {below : List Frame} {meth : Method} {c : Code} {D : mmD} {b0 sz : Nat} {f : mmF}
set_option maxHeartbeats 4000000 in
set_option maxRecDepth 100000 in
theorem w_X10_madeWord_167 (C0 : CX cX10_madeWord 9 (some .int) wsX10_madeWord RX10 p s m args meth c D b0) {res : Int32} : ∀ (v0 : Nat) (v1 : Int32) (v2 : Int32) (v3 : Int32) (v4 : Int32) (v7 : Int32) (v8 : Int32), f_X10_madeWord_167 f v0 v1 v2 v3 v4 v7 v8 = some res → ∀ (H : Heap) (locs : List Loc) (ls : Array Slot), MM vwCl D b0 f sz s H → mS b0 s H locs → lv_has ls 9 [(0, .ref v0), (1, .int v1), (2, .int v2), (3, .int v3), (4, .int v4), (7, .int v7), (8, .int v8)] → W p l e ({ frames := 1, cells := 0, slots := 0, locals := 20 } : Room) s m args below meth c H locs 0 0 (MQ below (QW D b0 (some (.int res)) f sz) args s 0 0 (fun q => b0 ≤ q)) (F0 m 167 ls []) := by
  obtain ⟨hx, hb, hr, hml, hown, hts, hlocks, hK⟩ := id C0
  intro v0 v1 v2 v3 v4 v7 v8 h H locs ls hM hS hl
  unfold f_X10_madeWord_167 at h
  refine lv_iload_n hx hb dX10_madeWord_167 rfl (lv_at hl 2 rfl) ?_
  refine lv_iconst (v := (3 : Int32)) hx hb dX10_madeWord_168 (by decide) ?_
  refine lv_icmp_ge (tgt := 197) hx hb dX10_madeWord_169 (by decide) (fun c169 => ?_) (fun c169 => ?_)
  · replace h := o_t c169 h
    refine lv_iload hx hb dX10_madeWord_197 (lv_at hl 5 rfl) ?_
    replace h := Option.some.inj h; subst h
    exact W.iret hx hb hr (fun t ht hW => ⟨rfl, by rw [ht]; exact hM.moved hW.alike, hS.F ht⟩) hS.2.2 dX10_madeWord_199
  replace h := o_f c169 h
  refine lv_iload_n hx hb dX10_madeWord_172 rfl (lv_at hl 3 rfl) ?_
  refine lv_iload_n hx hb dX10_madeWord_173 rfl (lv_at hl 2 rfl) ?_
  refine lv_icmp_ge (tgt := 197) hx hb dX10_madeWord_174 (by decide) (fun c174 => ?_) (fun c174 => ?_)
  · replace h := o_t c174 h
    refine lv_iload hx hb dX10_madeWord_197 (lv_at hl 5 rfl) ?_
    replace h := Option.some.inj h; subst h
    exact W.iret hx hb hr (fun t ht hW => ⟨rfl, by rw [ht]; exact hM.moved hW.alike, hS.F ht⟩) hS.2.2 dX10_madeWord_199
  replace h := o_f c174 h
  refine lv_iload hx hb dX10_madeWord_177 (lv_at hl 5 rfl) ?_
  refine lv_aload_n hx hb dX10_madeWord_179 rfl (lv_at hl 0 rfl) ?_
  replace h := o_b h; obtain ⟨x180, h180, h⟩ := h
  refine m_get (C := RX10) (T := TX10) (N := 25) (ci := 10) hx hb hts qi_X10_madeWord_X10 hown hK.1 hM 18 (ldR_F h180) rfl (by decide) (hts _ q_X10_madeWord_1) (fun _ h9 => h9) dX10_madeWord_180 ?_
  refine lv_bipush (v := (91 : Int32)) hx hb dX10_madeWord_183 (by decide) ?_
  refine lv_iload_n hx hb dX10_madeWord_185 rfl (lv_at hl 1 rfl) ?_
  refine lv_imul hx hb dX10_madeWord_186 ?_
  refine lv_iload hx hb dX10_madeWord_187 (lv_at hl 4 rfl) ?_
  refine lv_iadd hx hb dX10_madeWord_189 ?_
  refine lv_iload hx hb dX10_madeWord_190 (lv_at hl 6 rfl) ?_
  refine lv_iadd hx hb dX10_madeWord_192 ?_
  replace h := o_b h; obtain ⟨x193, h193, h⟩ := h
  refine m_iald hx hb hK.1 hM hS rfl h193 dX10_madeWord_193 ?_
  refine lv_iand hx hb dX10_madeWord_194 ?_
  refine lv_istore (lv' := [(7, .int (v7 &&& x193)), (0, .ref v0), (1, .int v1), (2, .int v2), (3, .int v3), (4, .int v4), (8, .int v8)]) hx hb dX10_madeWord_195 hl (by decide) rfl (fun ls hl => ?_)
  refine lv_iload hx hb dX10_madeWord_197 (lv_at hl 0 rfl) ?_
  replace h := Option.some.inj h; subst h
  exact W.iret hx hb hr (fun t ht hW => ⟨rfl, by rw [ht]; exact hM.moved hW.alike, hS.F ht⟩) hS.2.2 dX10_madeWord_199
set_option maxHeartbeats 4000000 in
set_option maxRecDepth 100000 in
theorem w_X10_madeWord (C0 : CX cX10_madeWord 9 (some .int) wsX10_madeWord RX10 p s m args meth c D b0) {v0 : Nat} {v1 : Int32} {v2 : Int32} {v3 : Int32} {v4 : Int32} {res : Int32} (h : f_X10_madeWord v0 v1 v2 v3 v4 f = some res) : ∀ (H : Heap) (locs : List Loc) (ls : Array Slot), MM vwCl D b0 f sz s H → mS b0 s H locs → lv_has ls 9 [(0, .ref v0), (1, .int v1), (2, .int v2), (3, .int v3), (4, .int v4)] → W p l e ({ frames := 1, cells := 0, slots := 0, locals := 20 } : Room) s m args below meth c H locs 0 0 (MQ below (QW D b0 (some (.int res)) f sz) args s 0 0 (fun q => b0 ≤ q)) (F0 m 0 ls []) := by
  obtain ⟨hx, hb, hr, hml, hown, hts, hlocks, hK⟩ := id C0
  intro H locs ls hM hS hl
  unfold f_X10_madeWord at h
  refine lv_aload_n hx hb dX10_madeWord_0 rfl (lv_at hl 0 rfl) ?_
  replace h := o_b h; obtain ⟨x1, h1, h⟩ := h
  refine m_get (C := RX10) (T := TX10) (N := 25) (ci := 10) hx hb hts qi_X10_madeWord_X10 hown hK.1 hM 18 (ldR_F h1) rfl (by decide) (hts _ q_X10_madeWord_1) (fun _ h9 => h9) dX10_madeWord_1 ?_
  refine lv_bipush (v := (91 : Int32)) hx hb dX10_madeWord_4 (by decide) ?_
  refine lv_aload_n hx hb dX10_madeWord_6 rfl (lv_at hl 0 rfl) ?_
  replace h := o_b h; obtain ⟨x7, h7, h⟩ := h
  refine m_get (C := RX10) (T := TX10) (N := 25) (ci := 10) hx hb hts qi_X10_madeWord_X10 hown hK.1 hM 16 (ldR_F h7) rfl (by decide) (hts _ q_X10_madeWord_2) (fun _ h9 => h9) dX10_madeWord_7 ?_
  refine lv_iload_n hx hb dX10_madeWord_10 rfl (lv_at hl 1 rfl) ?_
  replace h := o_b h; obtain ⟨x11, h11, h⟩ := h
  refine m_iald hx hb hK.1 hM hS rfl h11 dX10_madeWord_11 ?_
  refine lv_imul hx hb dX10_madeWord_12 ?_
  refine lv_iload hx hb dX10_madeWord_13 (lv_at hl 4 rfl) ?_
  refine lv_iadd hx hb dX10_madeWord_15 ?_
  replace h := o_b h; obtain ⟨x16, h16, h⟩ := h
  refine m_iald hx hb hK.1 hM hS rfl h16 dX10_madeWord_16 ?_
  refine lv_istore (lv' := [(5, .int x16), (0, .ref v0), (1, .int v1), (2, .int v2), (3, .int v3), (4, .int v4)]) hx hb dX10_madeWord_17 hl (by decide) rfl (fun ls hl => ?_)
  refine lv_aload_n hx hb dX10_madeWord_19 rfl (lv_at hl 1 rfl) ?_
  replace h := o_b h; obtain ⟨x20, h20, h⟩ := h
  refine m_get (C := RX10) (T := TX10) (N := 25) (ci := 10) hx hb hts qi_X10_madeWord_X10 hown hK.1 hM 18 (ldR_F h20) rfl (by decide) (hts _ q_X10_madeWord_1) (fun _ h9 => h9) dX10_madeWord_20 ?_
  refine lv_bipush (v := (91 : Int32)) hx hb dX10_madeWord_23 (by decide) ?_
  refine lv_aload_n hx hb dX10_madeWord_25 rfl (lv_at hl 1 rfl) ?_
  replace h := o_b h; obtain ⟨x26, h26, h⟩ := h
  refine m_get (C := RX10) (T := TX10) (N := 25) (ci := 10) hx hb hts qi_X10_madeWord_X10 hown hK.1 hM 17 (ldR_F h26) rfl (by decide) (hts _ q_X10_madeWord_3) (fun _ h9 => h9) dX10_madeWord_26 ?_
  refine lv_iload_n hx hb dX10_madeWord_29 rfl (lv_at hl 2 rfl) ?_
  replace h := o_b h; obtain ⟨x30, h30, h⟩ := h
  refine m_iald hx hb hK.1 hM hS rfl h30 dX10_madeWord_30 ?_
  refine lv_imul hx hb dX10_madeWord_31 ?_
  refine lv_iload hx hb dX10_madeWord_32 (lv_at hl 5 rfl) ?_
  refine lv_iadd hx hb dX10_madeWord_34 ?_
  replace h := o_b h; obtain ⟨x35, h35, h⟩ := h
  refine m_iald hx hb hK.1 hM hS rfl h35 dX10_madeWord_35 ?_
  refine lv_istore (lv' := [(6, .int x35), (5, .int x16), (0, .ref v0), (1, .int v1), (2, .int v2), (3, .int v3), (4, .int v4)]) hx hb dX10_madeWord_36 hl (by decide) rfl (fun ls hl => ?_)
  refine lv_aload_n hx hb dX10_madeWord_38 rfl (lv_at hl 2 rfl) ?_
  replace h := o_b h; obtain ⟨x39, h39, h⟩ := h
  refine m_get (C := RX10) (T := TX10) (N := 25) (ci := 10) hx hb hts qi_X10_madeWord_X10 hown hK.1 hM 15 (ldR_F h39) rfl (by decide) (hts _ q_X10_madeWord_4) (fun _ h9 => h9) dX10_madeWord_39 ?_
  refine lv_iload_n hx hb dX10_madeWord_42 rfl (lv_at hl 3 rfl) ?_
  replace h := o_b h; obtain ⟨x43, h43, h⟩ := h
  refine m_iald hx hb hK.1 hM hS rfl h43 dX10_madeWord_43 ?_
  refine lv_bipush (v := (9 : Int32)) hx hb dX10_madeWord_44 (by decide) ?_
  refine lv_icmp_eq (tgt := 102) hx hb dX10_madeWord_46 (by decide) (fun c46 => ?_) (fun c46 => ?_)
  · replace h := o_t c46 h
    refine lv_iload hx hb dX10_madeWord_102 (lv_at hl 1 rfl) ?_
    refine lv_iconst (v := (-1 : Int32)) hx hb dX10_madeWord_104 (by decide) ?_
    refine lv_ixor hx hb dX10_madeWord_105 ?_
    refine lv_iload hx hb dX10_madeWord_106 (lv_at hl 0 rfl) ?_
    refine lv_ior hx hb dX10_madeWord_108 ?_
    refine lv_istore (lv' := [(7, .int ((x16 ^^^ (-1 : Int32)) ||| x35)), (6, .int x35), (5, .int x16), (0, .ref v0), (1, .int v1), (2, .int v2), (3, .int v3), (4, .int v4)]) hx hb dX10_madeWord_109 hl (by decide) rfl (fun ls hl => ?_)
    refine lv_iload_n hx hb dX10_madeWord_111 rfl (lv_at hl 5 rfl) ?_
    replace h := o_b h; obtain ⟨q112, h112, h⟩ := h
    refine m_call (va_runS (As := [.int v2]) (rest := []) ⟨hx, hb, hml, hown, hts⟩ (c_X10_wordsOf l D b0 sz h112) (va_cwS 1 hts gX10_madeWord_X10_wordsOf rfl rfl rfl (by decide +kernel) ⟨Nat.le_of_ble_eq_true rfl, Nat.le_of_ble_eq_true rfl⟩) ⟨PW.blind, (fun U hU hW => ⟨rfl, PW.call hK hM hS hU hW⟩)⟩ rfl rfl hl.1 rfl (lv_room (Nat.le_of_ble_eq_true rfl)) dX10_madeWord_112 ⟨(Nat.le_refl _), (Nat.le_refl _)⟩) hS (fun H locs hM hS => ?_)
    refine lv_istore (lv' := [(8, .int q112), (7, .int ((x16 ^^^ (-1 : Int32)) ||| x35)), (6, .int x35), (5, .int x16), (0, .ref v0), (1, .int v1), (2, .int v2), (3, .int v3), (4, .int v4)]) hx hb dX10_madeWord_115 hl (by decide) rfl (fun ls hl => ?_)
    refine lv_iload_n hx hb dX10_madeWord_117 rfl (lv_at hl 6 rfl) ?_
    refine lv_iconst (v := (3 : Int32)) hx hb dX10_madeWord_118 (by decide) ?_
    refine lv_icmp_ne (tgt := 167) hx hb dX10_madeWord_119 (by decide) (fun c119 => ?_) (fun c119 => ?_)
    · replace h := o_f c119 h
      exact w_X10_madeWord_167 C0 _ _ _ _ _ _ _ h _ _ _ hM hS (lv_sub hl [4, 5, 6, 7, 8, 1, 0] rfl)
    replace h := o_t c119 h
    refine lv_iload_n hx hb dX10_madeWord_122 rfl (lv_at hl 7 rfl) ?_
    refine lv_if_ne (tgt := 167) hx hb dX10_madeWord_123 (by decide) (fun c123 => ?_) (fun c123 => ?_)
    · replace h := o_f c123 h
      exact w_X10_madeWord_167 C0 _ _ _ _ _ _ _ h _ _ _ hM hS (lv_sub hl [4, 5, 6, 7, 8, 1, 0] rfl)
    replace h := o_t c123 h
    refine lv_iload hx hb dX10_madeWord_126 (lv_at hl 1 rfl) ?_
    refine lv_aload_n hx hb dX10_madeWord_128 rfl (lv_at hl 4 rfl) ?_
    replace h := o_b h; obtain ⟨x129, h129, h⟩ := h
    refine m_get (C := RX10) (T := TX10) (N := 25) (ci := 10) hx hb hts qi_X10_madeWord_X10 hown hK.1 hM 18 (ldR_F h129) rfl (by decide) (hts _ q_X10_madeWord_1) (fun _ h9 => h9) dX10_madeWord_129 ?_
    refine lv_bipush (v := (91 : Int32)) hx hb dX10_madeWord_132 (by decide) ?_
    refine lv_iload_n hx hb dX10_madeWord_134 rfl (lv_at hl 5 rfl) ?_
    refine lv_imul hx hb dX10_madeWord_135 ?_
    refine lv_iload hx hb dX10_madeWord_136 (lv_at hl 8 rfl) ?_
    refine lv_iadd hx hb dX10_madeWord_138 ?_
    refine lv_iload hx hb dX10_madeWord_139 (lv_at hl 0 rfl) ?_
    refine lv_iadd hx hb dX10_madeWord_141 ?_
    replace h := o_b h; obtain ⟨x142, h142, h⟩ := h
    refine m_iald hx hb hK.1 hM hS rfl h142 dX10_madeWord_142 ?_
    refine lv_aload_n hx hb dX10_madeWord_143 rfl (lv_at hl 4 rfl) ?_
    replace h := o_b h; obtain ⟨x144, h144, h⟩ := h
    refine m_get (C := RX10) (T := TX10) (N := 25) (ci := 10) hx hb hts qi_X10_madeWord_X10 hown hK.1 hM 18 (ldR_F h144) rfl (by decide) (hts _ q_X10_madeWord_1) (fun _ h9 => h9) dX10_madeWord_144 ?_
    refine lv_bipush (v := (91 : Int32)) hx hb dX10_madeWord_147 (by decide) ?_
    refine lv_iload_n hx hb dX10_madeWord_149 rfl (lv_at hl 5 rfl) ?_
    refine lv_imul hx hb dX10_madeWord_150 ?_
    refine lv_iload hx hb dX10_madeWord_151 (lv_at hl 8 rfl) ?_
    refine lv_iadd hx hb dX10_madeWord_153 ?_
    refine lv_iconst (v := (2 : Int32)) hx hb dX10_madeWord_154 (by decide) ?_
    refine lv_iload hx hb dX10_madeWord_155 (lv_at hl 0 rfl) ?_
    refine lv_imul hx hb dX10_madeWord_157 ?_
    refine lv_iadd hx hb dX10_madeWord_158 ?_
    replace h := o_b h; obtain ⟨x159, h159, h⟩ := h
    refine m_iald hx hb hK.1 hM hS rfl h159 dX10_madeWord_159 ?_
    refine lv_iand hx hb dX10_madeWord_160 ?_
    refine lv_iand hx hb dX10_madeWord_161 ?_
    refine lv_istore (lv' := [(7, .int (((x16 ^^^ (-1 : Int32)) ||| x35) &&& (x142 &&& x159))), (8, .int q112), (6, .int x35), (5, .int x16), (0, .ref v0), (1, .int v1), (2, .int v2), (3, .int v3), (4, .int v4)]) hx hb dX10_madeWord_162 hl (by decide) rfl (fun ls hl => ?_)
    refine lv_goto (tgt := 197) hx hb dX10_madeWord_164 (by decide) ?_
    refine lv_iload hx hb dX10_madeWord_197 (lv_at hl 0 rfl) ?_
    replace h := Option.some.inj h; subst h
    exact W.iret hx hb hr (fun t ht hW => ⟨rfl, by rw [ht]; exact hM.moved hW.alike, hS.F ht⟩) hS.2.2 dX10_madeWord_199
  replace h := o_f c46 h
  refine lv_aload_n hx hb dX10_madeWord_49 rfl (lv_at hl 2 rfl) ?_
  replace h := o_b h; obtain ⟨x50, h50, h⟩ := h
  refine m_get (C := RX10) (T := TX10) (N := 25) (ci := 10) hx hb hts qi_X10_madeWord_X10 hown hK.1 hM 15 (ldR_F h50) rfl (by decide) (hts _ q_X10_madeWord_4) (fun _ h9 => h9) dX10_madeWord_50 ?_
  refine lv_iload_n hx hb dX10_madeWord_53 rfl (lv_at hl 3 rfl) ?_
  replace h := o_b h; obtain ⟨x54, h54, h⟩ := h
  refine m_iald hx hb hK.1 hM hS rfl h54 dX10_madeWord_54 ?_
  refine lv_iconst (v := (4 : Int32)) hx hb dX10_madeWord_55 (by decide) ?_
  refine lv_icmp_ne (tgt := 63) hx hb dX10_madeWord_56 (by decide) (fun c56 => ?_) (fun c56 => ?_)
  · replace h := o_f c56 h
    refine lv_aload_n hx hb dX10_madeWord_63 rfl (lv_at hl 2 rfl) ?_
    replace h := o_b h; obtain ⟨x64, h64, h⟩ := h
    refine m_get (C := RX10) (T := TX10) (N := 25) (ci := 10) hx hb hts qi_X10_madeWord_X10 hown hK.1 hM 15 (ldR_F h64) rfl (by decide) (hts _ q_X10_madeWord_4) (fun _ h9 => h9) dX10_madeWord_64 ?_
    refine lv_iload_n hx hb dX10_madeWord_67 rfl (lv_at hl 3 rfl) ?_
    replace h := o_b h; obtain ⟨x68, h68, h⟩ := h
    refine m_iald hx hb hK.1 hM hS rfl h68 dX10_madeWord_68 ?_
    refine lv_iconst (v := (5 : Int32)) hx hb dX10_madeWord_69 (by decide) ?_
    refine lv_icmp_ne (tgt := 77) hx hb dX10_madeWord_70 (by decide) (fun c70 => ?_) (fun c70 => ?_)
    · replace h := o_f c70 h
      refine lv_aload_n hx hb dX10_madeWord_77 rfl (lv_at hl 2 rfl) ?_
      replace h := o_b h; obtain ⟨x78, h78, h⟩ := h
      refine m_get (C := RX10) (T := TX10) (N := 25) (ci := 10) hx hb hts qi_X10_madeWord_X10 hown hK.1 hM 15 (ldR_F h78) rfl (by decide) (hts _ q_X10_madeWord_4) (fun _ h9 => h9) dX10_madeWord_78 ?_
      refine lv_iload_n hx hb dX10_madeWord_81 rfl (lv_at hl 3 rfl) ?_
      replace h := o_b h; obtain ⟨x82, h82, h⟩ := h
      refine m_iald hx hb hK.1 hM hS rfl h82 dX10_madeWord_82 ?_
      refine lv_bipush (v := (7 : Int32)) hx hb dX10_madeWord_83 (by decide) ?_
      refine lv_icmp_ne (tgt := 96) hx hb dX10_madeWord_85 (by decide) (fun c85 => ?_) (fun c85 => ?_)
      · replace h := o_f c85 h
        refine lv_iload hx hb dX10_madeWord_96 (lv_at hl 1 rfl) ?_
        refine lv_iload hx hb dX10_madeWord_98 (lv_at hl 0 rfl) ?_
        refine lv_ior hx hb dX10_madeWord_100 ?_
        replace h := Option.some.inj h; subst h
        exact W.iret hx hb hr (fun t ht hW => ⟨rfl, by rw [ht]; exact hM.moved hW.alike, hS.F ht⟩) hS.2.2 dX10_madeWord_101
      replace h := o_t c85 h
      refine lv_iload hx hb dX10_madeWord_88 (lv_at hl 1 rfl) ?_
      refine lv_iload hx hb dX10_madeWord_90 (lv_at hl 0 rfl) ?_
      refine lv_iand hx hb dX10_madeWord_92 ?_
      refine lv_goto (tgt := 101) hx hb dX10_madeWord_93 (by decide) ?_
      replace h := Option.some.inj h; subst h
      exact W.iret hx hb hr (fun t ht hW => ⟨rfl, by rw [ht]; exact hM.moved hW.alike, hS.F ht⟩) hS.2.2 dX10_madeWord_101
    replace h := o_t c70 h
    refine lv_iconst (v := (0 : Int32)) hx hb dX10_madeWord_73 (by decide) ?_
    refine lv_goto (tgt := 101) hx hb dX10_madeWord_74 (by decide) ?_
    replace h := Option.some.inj h; subst h
    exact W.iret hx hb hr (fun t ht hW => ⟨rfl, by rw [ht]; exact hM.moved hW.alike, hS.F ht⟩) hS.2.2 dX10_madeWord_101
  replace h := o_t c56 h
  refine lv_iconst (v := (-1 : Int32)) hx hb dX10_madeWord_59 (by decide) ?_
  refine lv_goto (tgt := 101) hx hb dX10_madeWord_60 (by decide) ?_
  replace h := Option.some.inj h; subst h
  exact W.iret hx hb hr (fun t ht hW => ⟨rfl, by rw [ht]; exact hM.moved hW.alike, hS.F ht⟩) hS.2.2 dX10_madeWord_101
set_option maxHeartbeats 4000000 in
set_option maxRecDepth 100000 in
theorem c_X10_madeWord (l : Launch) (D : mmD) (b0 sz : Nat) {v0 : Nat} {v1 : Int32} {v2 : Int32} {v3 : Int32} {v4 : Int32} {f : mmF} {res : Int32} (h : f_X10_madeWord v0 v1 v2 v3 v4 f = some res) : Met l yX10_madeWord wsX10_madeWord ({ frames := 1, cells := 0, slots := 0, locals := 20 } : Room) (va_Pc [.ref v0, .int v1, .int v2, .int v3, .int v4] (PW D b0 f sz)) (QW D b0 (some (.int res)) f sz) 0 0 (fun q => b0 ≤ q) := by
  refine Met.ofW (cc := cX10_madeWord) (maxL := 9) (ret := (some .int)) (by decide) rfl ?_
  intro p e s m args below meth c s₁ B hml hv
  obtain ⟨rfl, hM, hK⟩ := hv
  have hl := lv_entry ([.ref v0, .int v1, .int v2, .int v3, .int v4]) (n := 9) (Nat.le_of_ble_eq_true rfl)
  rw [lg_entry_eq]
  generalize (lg_sl ([.ref v0, .int v1, .int v2, .int v3, .int v4]) ++ List.replicate (9 - (lg_sl ([.ref v0, .int v1, .int v2, .int v3, .int v4])).length) Slot.unset).toArray = ls at hl ⊢
  have hl : lv_has ls 9 [(0, .ref v0), (1, .int v1), (2, .int v2), (3, .int v3), (4, .int v4)] := hl
  exact w_X10_madeWord ⟨B.exec, B.bytes, B.returns, hml, findClass_of_methodNamed B.named, atoms_spec (ws := wsX10_madeWord) B.pre, B.notSynchronized, hK⟩ h s.heap [] ls hM va_S.rf hl
end S_X10_madeWord
