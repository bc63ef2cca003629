/-! X6_below -/
set_option maxRecDepth 20000 in
theorem q_X6_below_0 : Cond.initialized RX9 ∈ wsX6_below := by decide +kernel
set_option maxRecDepth 20000 in
theorem q_X6_below_1 : Cond.static yX9_has ∈ wsX6_below := by decide +kernel
set_option maxRecDepth 20000 in
theorem q_X6_below_2 : Cond.fieldLink RX6 87 "StageTruths$SmallModels" "KNOWN" "[I" ∈ wsX6_below := by decide +kernel
set_option maxRecDepth 20000 in
theorem q_X6_below_3 : Cond.constant RX6 31 (65535) ∈ wsX6_below := by decide +kernel
noncomputable def f_X6_below_31 (kn : Nat) (k5 : Int32 → Int32 → Int32 → Option (Int32)) (f : mmF) (v0 : Int32) (v2 : Int32) (t0 : Int32) (t1 : Int32) : Option (Int32) :=
  k5 v0 (t0 &&& t1) (v2 + (1 : Int32))
noncomputable def f_X6_below_5 (kn : Nat)  (f : mmF) : Nat → Int32 → Int32 → Int32 → Option (Int32)
  | 0, _, _, _ => none
  | n + 1, v0, v1, v2 =>
    if (4 : Int32) ≤ v2 then
    (some (v1))
    else
    (f_X9_has v0 v2 f).bind fun q13 =>
    if q13 = 0 then
    ((ldA 0 f kn v2).bind fun x28 =>
    f_X6_below_31 kn (fun a0 a1 a2 => f_X6_below_5 kn f n a0 a1 a2) f v0 v2 v1 (x28 ^^^ (-1 : Int32)))
    else
    f_X6_below_31 kn (fun a0 a1 a2 => f_X6_below_5 kn f n a0 a1 a2) f v0 v2 v1 (65535 : Int32)
noncomputable def f_X6_below (kn : Nat) (v0 : Int32) (f : mmF) : Option (Int32) :=
  f_X6_below_5 kn f FU v0 (65535 : Int32) (0 : Int32)
section S_X6_below
variable {p : Program} {l : Launch} {e : Env} {s : State} {m : MethodId} {args : Array Value} {below : List Frame} {meth : Method} {c : Code} {D : mmD} {b0 sz : Nat} {f : mmF}
set_option maxHeartbeats 4000000 in
set_option maxRecDepth 100000 in
theorem w_X6_below_31 (C0 : CX cX6_below 3 (some .int) wsX6_below RX6 p s m args meth c D b0) {kn : Nat} (ek : kn = D.2 9) {k5 : Int32 → Int32 → Int32 → Option (Int32)} {res : Int32} (hk5 : ∀ (v0 : Int32) (v1 : Int32) (v2 : Int32), k5 v0 v1 v2 = some res → ∀ (H : Heap) (locs : List Loc) (ls : Array Slot), MM vwCl D b0 f sz s H → mS b0 s H locs → lv_has ls 3 [(0, .int v0), (1, .int v1), (2, .int v2)] → W p l e ({ frames := 1, cells := 0, slots := 0, locals := 21 } : Room) s m args below meth c H locs 0 0 (MQ below (QW D b0 (some (.int res)) f sz) args s 0 0 (fun q => b0 ≤ q)) (F0 m 5 ls [])) : ∀ (v0 : Int32) (v2 : Int32) (t0 : Int32) (t1 : Int32), f_X6_below_31 kn k5 f v0 v2 t0 t1 = some res → ∀ (H : Heap) (locs : List Loc) (ls : Array Slot), MM vwCl D b0 f sz s H → mS b0 s H locs → lv_has ls 3 [(0, .int v0), (2, .int v2)] → W p l e ({ frames := 1, cells := 0, slots := 0, locals := 21 } : Room) s m args below meth c H locs 0 0 (MQ below (QW D b0 (some (.int res)) f sz) args s 0 0 (fun q => b0 ≤ q)) (F0 m 31 ls [.int t1, .int t0]) := by
  obtain ⟨hx, hb, hr, hml, hown, hts, hlocks, hK⟩ := id C0
  intro v0 v2 t0 t1 h H locs ls hM hS hl
  unfold f_X6_below_31 at h
  refine lv_iand hx hb dX6_below_31 ?_
  refine lv_istore_n (lv' := [(1, .int (t0 &&& t1)), (0, .int v0), (2, .int v2)]) hx hb dX6_below_32 rfl hl (by decide) rfl (fun ls hl => ?_)
  refine lv_iinc (v := (v2 + (1 : Int32))) (lv' := [(2, .int (v2 + (1 : Int32))), (1, .int (t0 &&& t1)), (0, .int v0)]) hx hb dX6_below_33 hl (k := 2) rfl rfl (by decide) rfl (fun ls hl => ?_)
  refine lv_goto (tgt := 5) hx hb dX6_below_36 (by decide) ?_
  exact hk5 _ _ _ h _ _ _ hM hS (lv_sub hl [2, 1, 0] rfl)
set_option maxHeartbeats 4000000 in
set_option maxRecDepth 100000 in
theorem w_X6_below_5 (C0 : CX cX6_below 3 (some .int) wsX6_below RX6 p s m args meth c D b0) {kn : Nat} (ek : kn = D.2 9) {res : Int32} : ∀ (n : Nat), ∀ (v0 : Int32) (v1 : Int32) (v2 : Int32), f_X6_below_5 kn f n v0 v1 v2 = some res → ∀ (H : Heap) (locs : List Loc) (ls : Array Slot), MM vwCl D b0 f sz s H → mS b0 s H locs → lv_has ls 3 [(0, .int v0), (1, .int v1), (2, .int v2)] → W p l e ({ frames := 1, cells := 0, slots := 0, locals := 21 } : Room) s m args below meth c H locs 0 0 (MQ below (QW D b0 (some (.int res)) f sz) args s 0 0 (fun q => b0 ≤ q)) (F0 m 5 ls []) := by
  obtain ⟨hx, hb, hr, hml, hown, hts, hlocks, hK⟩ := id C0
  intro n
  induction n with
  | zero =>
    intro v0 v1 v2 h
    have h : (none : Option (Int32)) = some res := h
    cases h
  | succ n ih =>
    intro v0 v1 v2 h H locs ls hM hS hl
    rw [f_X6_below_5] at h
    refine lv_iload_n hx hb dX6_below_5 rfl (lv_at hl 2 rfl) ?_
    refine lv_iconst (v := (4 : Int32)) hx hb dX6_below_6 (by decide) ?_
    refine lv_icmp_ge (tgt := 39) hx hb dX6_below_7 (by decide) (fun c7 => ?_) (fun c7 => ?_)
    · replace h := o_t c7 h
      refine lv_iload_n hx hb dX6_below_39 rfl (lv_at hl 1 rfl) ?_
      replace h := Option.some.inj h; subst h
      exact W.iret hx hb hr (fun t ht hW => ⟨rfl, by rw [ht]; exact hM.moved hW.alike, hS.F ht⟩) hS.2.2 dX6_below_40
    replace h := o_f c7 h
    refine lv_iload_n hx hb dX6_below_10 rfl (lv_at hl 1 rfl) ?_
    refine lv_iload_n hx hb dX6_below_11 rfl (lv_at hl 0 rfl) ?_
    refine lv_iload_n hx hb dX6_below_12 rfl (lv_at hl 2 rfl) ?_
    replace h := o_b h; obtain ⟨q13, h13, h⟩ := h
    refine m_call (va_runSN (As := [.int v0, .int v2]) (rest := [.int v1]) ⟨hx, hb, hml, hown, hts⟩ (c_X9_has l D b0 sz h13) ⟨(va_cnB 2 hts gX6_below_X9_has_n48 rfl rfl rfl (hK.2.1 (RX6, 48, yX9_has, "StageTruths") (by decide)) (hts _ q_X6_below_0) (by decide +kernel) ⟨Nat.le_of_ble_eq_true rfl, Nat.le_of_ble_eq_true rfl⟩), (hts _ q_X6_below_1), trivial⟩ ⟨PW.blind, (fun U hU hW => ⟨rfl, PW.call hK hM hS hU hW⟩)⟩ rfl rfl hl.1 rfl (lv_room (Nat.le_of_ble_eq_true rfl)) dX6_below_13 ⟨(Nat.le_refl _), (Nat.le_refl _)⟩) hS (fun H locs hM hS => ?_)
    refine lv_if_eq (tgt := 24) hx hb dX6_below_16 (by decide) (fun c16 => ?_) (fun c16 => ?_)
    · replace h := o_t c16 h
      refine m_getsK ek hx hb hK hS hown (hts _ q_X6_below_2) dX6_below_24 ?_
      refine lv_iload_n hx hb dX6_below_27 rfl (lv_at hl 2 rfl) ?_
      replace h := o_b h; obtain ⟨x28, h28, h⟩ := h
      refine m_iald hx hb hK.1 hM hS rfl h28 dX6_below_28 ?_
      refine lv_iconst (v := (-1 : Int32)) hx hb dX6_below_29 (by decide) ?_
      refine lv_ixor hx hb dX6_below_30 ?_
      exact w_X6_below_31 C0 ek ih _ _ _ _ h _ _ _ hM hS (lv_sub hl [0, 2] rfl)
    replace h := o_f c16 h
    refine lv_ldc (v := (65535 : Int32)) hx hb hown (hts _ q_X6_below_3) dX6_below_19 ?_
    refine lv_goto (tgt := 31) hx hb dX6_below_21 (by decide) ?_
    exact w_X6_below_31 C0 ek ih _ _ _ _ h _ _ _ hM hS (lv_sub hl [0, 2] rfl)
set_option maxHeartbeats 4000000 in
set_option maxRecDepth 100000 in
theorem w_X6_below (C0 : CX cX6_below 3 (some .int) wsX6_below RX6 p s m args meth c D b0) {v0 : Int32} {kn : Nat} (ek : kn = D.2 9) {res : Int32} (h : f_X6_below kn v0 f = some res) : ∀ (H : Heap) (locs : List Loc) (ls : Array Slot), MM vwCl D b0 f sz s H → mS b0 s H locs → lv_has ls 3 [(0, .int v0)] → W p l e ({ frames := 1, cells := 0, slots := 0, locals := 21 } : Room) s m args below meth c H locs 0 0 (MQ below (QW D b0 (some (.int res)) f sz) args s 0 0 (fun q => b0 ≤ q)) (F0 m 0 ls []) := by
  obtain ⟨hx, hb, hr, hml, hown, hts, hlocks, hK⟩ := id C0
  intro H locs ls hM hS hl
  unfold f_X6_below at h
  refine lv_ldc (v := (65535 : Int32)) hx hb hown (hts _ q_X6_below_3) dX6_below_0 ?_
  refine lv_istore_n (lv' := [(1, .int (65535 : Int32)), (0, .int v0)]) hx hb dX6_below_2 rfl hl (by decide) rfl (fun ls hl => ?_)
  refine lv_iconst (v := (0 : Int32)) hx hb dX6_below_3 (by decide) ?_
  refine lv_istore_n (lv' := [(2, .int (0 : Int32)), (1, .int (65535 : Int32)), (0, .int v0)]) hx hb dX6_below_4 rfl hl (by decide) rfl (fun ls hl => ?_)
  exact w_X6_below_5 C0 ek FU _ _ _ h _ _ _ hM hS (lv_sub hl [2, 1, 0] rfl)
set_option maxHeartbeats 4000000 in
set_option maxRecDepth 100000 in
theorem c_X6_below (l : Launch) (D : mmD) (b0 sz : Nat) {kn : Nat} (ek : kn = D.2 9) {v0 : Int32} {f : mmF} {res : Int32} (h : f_X6_below kn v0 f = some res) : Met l yX6_below wsX6_below ({ frames := 1, cells := 0, slots := 0, locals := 21 } : Room) (va_Pc [.int v0] (PW D b0 f sz)) (QW D b0 (some (.int res)) f sz) 0 0 (fun q => b0 ≤ q) := by
  refine Met.ofW (cc := cX6_below) (maxL := 3) (ret := (some .int)) (by decide) rfl ?_
  intro p e s m args below meth c s₁ B hml hv
  obtain ⟨rfl, hM, hK⟩ := hv
  have hl := lv_entry ([.int v0]) (n := 3) (Nat.le_of_ble_eq_true rfl)
  rw [lg_entry_eq]
  generalize (lg_sl ([.int v0]) ++ List.replicate (3 - (lg_sl ([.int v0])).length) Slot.unset).toArray = ls at hl ⊢
  have hl : lv_has ls 3 [(0, .int v0)] := hl
  exact w_X6_below ⟨B.exec, B.bytes, B.returns, hml, findClass_of_methodNamed B.named, atoms_spec (ws := wsX6_below) B.pre, B.notSynchronized, hK⟩ ek h s.heap [] ls hM va_S.rf hl
end S_X6_below
/-! X6_usefulLast -/
set_option maxRecDepth 20000 in
theorem qi_X6_usefulLast_X6 : ∀ w ∈ u_ws RX6 TX6 5, w ∈ wsX6_usefulLast := by decide +kernel
set_option maxRecDepth 20000 in
theorem q_X6_usefulLast_1 : Cond.fieldLink RX6 12 "StageTruths$SmallModels" "parts" "LStageTruths$Parts;" ∈ wsX6_usefulLast := by decide +kernel
set_option maxRecDepth 20000 in
theorem q_X6_usefulLast_2 : Cond.fieldLink RX6 22 "StageTruths$SmallModels" "single" "[I" ∈ wsX6_usefulLast := by decide +kernel
noncomputable def f_X6_usefulLast (kn : Nat) (v0 : Nat) (v1 : Int32) (f : mmF) : Option (Int32) :=
  (ldR f v0 6 0).bind fun x1 =>
  (ckO f x1 4).bind fun _ =>
  (f_X4_usedFacts x1 f).bind fun q4 =>
  (f_X6_below kn q4 f).bind fun q7 =>
  (ldR f v0 6 2).bind fun x12 =>
  (ckO f v0 6).bind fun _ =>
  (f_X6_supporting v0 x12 v1 f).bind fun q16 =>
  some ((q7 &&& q16))
section S_X6_usefulLast
variable {p : Program} {l : Launch} {e : Env} {s : State} {m : MethodId} {args : Array Value} {below : List Frame} {meth : Method} {c : Code} {D : mmD} {b0 sz : Nat} {f : mmF}
set_option maxHeartbeats 4000000 in
set_option maxRecDepth 100000 in
theorem w_X6_usefulLast (C0 : CX cX6_usefulLast 2 (some .int) wsX6_usefulLast RX6 p s m args meth c D b0) {v0 : Nat} {v1 : Int32} {kn : Nat} (ek : kn = D.2 9) {res : Int32} (h : f_X6_usefulLast kn v0 v1 f = some res) : ∀ (H : Heap) (locs : List Loc) (ls : Array Slot), MM vwCl D b0 f sz s H → mS b0 s H locs → lv_has ls 2 [(0, .ref v0), (1, .int v1)] → W p l e ({ frames := 3, cells := 0, slots := 0, locals := 66 } : Room) s m args below meth c H locs 0 0 (MQ below (QW D b0 (some (.int res)) f sz) args s 0 0 (fun q => b0 ≤ q)) (F0 m 0 ls []) := by
  obtain ⟨hx, hb, hr, hml, hown, hts, hlocks, hK⟩ := id C0
  intro H locs ls hM hS hl
  unfold f_X6_usefulLast at h
  refine lv_aload_n hx hb dX6_usefulLast_0 rfl (lv_at hl 0 rfl) ?_
  replace h := o_b h; obtain ⟨x1, h1, h⟩ := h
  refine m_get (C := RX6) (T := TX6) (N := 5) (ci := 6) hx hb hts qi_X6_usefulLast_X6 hown hK.1 hM 0 (ldR_F h1) rfl (by decide) (hts _ q_X6_usefulLast_1) (fun _ h9 => h9) dX6_usefulLast_1 ?_
  replace h := o_b h; obtain ⟨_, k4, h⟩ := h
  replace h := o_b h; obtain ⟨q4, h4, h⟩ := h
  refine m_call (va_runV (As := []) (rest := []) ⟨hx, hb, hml, hown, hts⟩ (c_X4_usedFacts l D b0 sz h4) (cwV 0 hts gX6_usefulLast_X4_usedFacts rfl rfl rfl (by decide +kernel) ⟨Nat.le_of_ble_eq_true rfl, Nat.le_of_ble_eq_true rfl⟩) ⟨PW.blind, m_recv (ci := 4) rfl hK hM k4, (fun U hU hW => ⟨rfl, PW.call hK hM hS hU hW⟩)⟩ rfl rfl hl.1 rfl (lv_room (Nat.le_of_ble_eq_true rfl)) dX6_usefulLast_4 ⟨(Nat.le_refl _), (Nat.le_refl _)⟩) hS (fun H locs hM hS => ?_)
  replace h := o_b h; obtain ⟨q7, h7, h⟩ := h
  refine m_call (va_runS (As := [.int q4]) (rest := []) ⟨hx, hb, hml, hown, hts⟩ (c_X6_below l D b0 sz ek h7) (va_cwS 1 hts gX6_usefulLast_X6_below rfl rfl rfl (by decide +kernel) ⟨Nat.le_of_ble_eq_true rfl, Nat.le_of_ble_eq_true rfl⟩) ⟨PW.blind, (fun U hU hW => ⟨rfl, PW.call hK hM hS hU hW⟩)⟩ rfl rfl hl.1 rfl (lv_room (Nat.le_of_ble_eq_true rfl)) dX6_usefulLast_7 ⟨(Nat.le_refl _), (Nat.le_refl _)⟩) hS (fun H locs hM hS => ?_)
  refine lv_aload_n hx hb dX6_usefulLast_10 rfl (lv_at hl 0 rfl) ?_
  refine lv_aload_n hx hb dX6_usefulLast_11 rfl (lv_at hl 0 rfl) ?_
  replace h := o_b h; obtain ⟨x12, h12, h⟩ := h
  refine m_get (C := RX6) (T := TX6) (N := 5) (ci := 6) hx hb hts qi_X6_usefulLast_X6 hown hK.1 hM 2 (ldR_F h12) rfl (by decide) (hts _ q_X6_usefulLast_2) (fun _ h9 => h9) dX6_usefulLast_12 ?_
  refine lv_iload_n hx hb dX6_usefulLast_15 rfl (lv_at hl 1 rfl) ?_
  replace h := o_b h; obtain ⟨_, k16, h⟩ := h
  replace h := o_b h; obtain ⟨q16, h16, h⟩ := h
  refine m_call (va_runV (As := [.ref x12, .int v1]) (rest := [.int q7]) ⟨hx, hb, hml, hown, hts⟩ (c_X6_supporting l D b0 sz h16) (cwV 2 hts gX6_usefulLast_X6_supporting rfl rfl rfl (by decide +kernel) ⟨Nat.le_of_ble_eq_true rfl, Nat.le_of_ble_eq_true rfl⟩) ⟨PW.blind, m_recv (ci := 6) rfl hK hM k16, (fun U hU hW => ⟨rfl, PW.call hK hM hS hU hW⟩)⟩ rfl rfl hl.1 rfl (lv_room (Nat.le_of_ble_eq_true rfl)) dX6_usefulLast_16 ⟨(Nat.le_refl _), (Nat.le_refl _)⟩) hS (fun H locs hM hS => ?_)
  refine lv_iand hx hb dX6_usefulLast_19 ?_
  replace h := Option.some.inj h; subst h
  exact W.iret hx hb hr (fun t ht hW => ⟨rfl, by rw [ht]; exact hM.moved hW.alike, hS.F ht⟩) hS.2.2 dX6_usefulLast_20
set_option maxHeartbeats 4000000 in
set_option maxRecDepth 100000 in
theorem c_X6_usefulLast (l : Launch) (D : mmD) (b0 sz : Nat) {kn : Nat} (ek : kn = D.2 9) {v0 : Nat} {v1 : Int32} {f : mmF} {res : Int32} (h : f_X6_usefulLast kn v0 v1 f = some res) : Met l yX6_usefulLast wsX6_usefulLast ({ frames := 3, cells := 0, slots := 0, locals := 66 } : Room) (va_Pc [.ref v0, .int v1] (PW D b0 f sz)) (QW D b0 (some (.int res)) f sz) 0 0 (fun q => b0 ≤ q) := by
  refine Met.ofW (cc := cX6_usefulLast) (maxL := 2) (ret := (some .int)) (by decide) rfl ?_
  intro p e s m args below meth c s₁ B hml hv
  obtain ⟨rfl, hM, hK⟩ := hv
  have hl := lv_entry ([.ref v0, .int v1]) (n := 2) (Nat.le_of_ble_eq_true rfl)
  rw [lg_entry_eq]
  generalize (lg_sl ([.ref v0, .int v1]) ++ List.replicate (2 - (lg_sl ([.ref v0, .int v1])).length) Slot.unset).toArray = ls at hl ⊢
  have hl : lv_has ls 2 [(0, .ref v0), (1, .int v1)] := hl
  exact w_X6_usefulLast ⟨B.exec, B.bytes, B.returns, hml, findClass_of_methodNamed B.named, atoms_spec (ws := wsX6_usefulLast) B.pre, B.notSynchronized, hK⟩ ek h s.heap [] ls hM va_S.rf hl
end S_X6_usefulLast
/-! X6_refutesBefore -/
noncomputable def f_X6_refutesBefore (kn : Nat) (v0 : Nat) (v1 : Nat) (v2 : Nat) (v3 : Int32) (v4 : Int32) (v5 : Int32) (v6 : Int32) (f : mmF) : Option (Int32 × mmF) :=
  (ckO f v0 6).bind fun _ =>
  (f_X6_fill kn v0 v1 v2 v3 v4 f).bind fun q6 =>
  (ckO q6 v0 6).bind fun _ =>
  (f_X6_refuting v0 v1 v5 v6 q6).bind fun q15 =>
  (f_X6_below kn (v3 &&& v4) q6).bind fun q22 =>
  if (q15 &&& q22) = 0 then
  (some ((0 : Int32), q6))
  else
  some ((1 : Int32), q6)
section S_X6_refutesBefore
variable {p : Program} {l : Launch} {e : Env} {s : State} {m : MethodId} {args : Array Value} {below : List Frame} {meth : Method} {c : Code} {D : mmD} {b0 sz : Nat} {f : mmF}
set_option maxHeartbeats 4000000 in
set_option maxRecDepth 100000 in
theorem w_X6_refutesBefore (C0 : CX cX6_refutesBefore 7 (some .boolean) wsX6_refutesBefore RX6 p s m args meth c D b0) {v0 : Nat} {v1 : Nat} {v2 : Nat} {v3 : Int32} {v4 : Int32} {v5 : Int32} {v6 : Int32} {kn : Nat} (ek : kn = D.2 9) {res : Int32 × mmF} (h : f_X6_refutesBefore kn v0 v1 v2 v3 v4 v5 v6 f = some res) : ∀ (H : Heap) (locs : List Loc) (ls : Array Slot), MM vwCl D b0 f sz s H → mS b0 s H locs → lv_has ls 7 [(0, .ref v0), (1, .ref v1), (2, .ref v2), (3, .int v3), (4, .int v4), (5, .int v5), (6, .int v6)] → W p l e ({ frames := 4, cells := 0, slots := 0, locals := 89 } : Room) s m args below meth c H locs 0 0 (MQ below (QW D b0 (some (.int res.1)) res.2 sz) args s 0 0 (fun q => b0 ≤ q)) (F0 m 0 ls []) := by
  obtain ⟨hx, hb, hr, hml, hown, hts, hlocks, hK⟩ := id C0
  intro H locs ls hM hS hl
  unfold f_X6_refutesBefore at h
  refine lv_aload_n hx hb dX6_refutesBefore_0 rfl (lv_at hl 0 rfl) ?_
  refine lv_aload_n hx hb dX6_refutesBefore_1 rfl (lv_at hl 1 rfl) ?_
  refine lv_aload_n hx hb dX6_refutesBefore_2 rfl (lv_at hl 2 rfl) ?_
  refine lv_iload_n hx hb dX6_refutesBefore_3 rfl (lv_at hl 3 rfl) ?_
  refine lv_iload hx hb dX6_refutesBefore_4 (lv_at hl 4 rfl) ?_
  replace h := o_b h; obtain ⟨_, k6, h⟩ := h
  replace h := o_b h; obtain ⟨q6, h6, h⟩ := h
  refine m_call (va_runV (As := [.ref v1, .ref v2, .int v3, .int v4]) (rest := []) ⟨hx, hb, hml, hown, hts⟩ (c_X6_fill l D b0 sz ek h6) (cwV 4 hts gX6_refutesBefore_X6_fill rfl rfl rfl (by decide +kernel) ⟨Nat.le_of_ble_eq_true rfl, Nat.le_of_ble_eq_true rfl⟩) ⟨PW.blind, m_recv (ci := 6) rfl hK hM k6, (fun U hU hW => ⟨rfl, PW.call hK hM hS hU hW⟩)⟩ rfl rfl hl.1 rfl (lv_room (Nat.le_of_ble_eq_true rfl)) dX6_refutesBefore_6 ⟨(Nat.le_refl _), (Nat.le_refl _)⟩) hS (fun H locs hM hS => ?_)
  refine lv_aload_n hx hb dX6_refutesBefore_9 rfl (lv_at hl 0 rfl) ?_
  refine lv_aload_n hx hb dX6_refutesBefore_10 rfl (lv_at hl 1 rfl) ?_
  refine lv_iload hx hb dX6_refutesBefore_11 (lv_at hl 5 rfl) ?_
  refine lv_iload hx hb dX6_refutesBefore_13 (lv_at hl 6 rfl) ?_
  replace h := o_b h; obtain ⟨_, k15, h⟩ := h
  replace h := o_b h; obtain ⟨q15, h15, h⟩ := h
  refine m_call (va_runV (As := [.ref v1, .int v5, .int v6]) (rest := []) ⟨hx, hb, hml, hown, hts⟩ (c_X6_refuting l D b0 sz h15) (cwV 3 hts gX6_refutesBefore_X6_refuting rfl rfl rfl (by decide +kernel) ⟨Nat.le_of_ble_eq_true rfl, Nat.le_of_ble_eq_true rfl⟩) ⟨PW.blind, m_recv (ci := 6) rfl hK hM k15, (fun U hU hW => ⟨rfl, PW.call hK hM hS hU hW⟩)⟩ rfl rfl hl.1 rfl (lv_room (Nat.le_of_ble_eq_true rfl)) dX6_refutesBefore_15 ⟨(Nat.le_refl _), (Nat.le_refl _)⟩) hS (fun H locs hM hS => ?_)
  refine lv_iload_n hx hb dX6_refutesBefore_18 rfl (lv_at hl 3 rfl) ?_
  refine lv_iload hx hb dX6_refutesBefore_19 (lv_at hl 4 rfl) ?_
  refine lv_iand hx hb dX6_refutesBefore_21 ?_
  replace h := o_b h; obtain ⟨q22, h22, h⟩ := h
  refine m_call (va_runS (As := [.int (v3 &&& v4)]) (rest := [.int q15]) ⟨hx, hb, hml, hown, hts⟩ (c_X6_below l D b0 sz ek h22) (va_cwS 1 hts gX6_refutesBefore_X6_below rfl rfl rfl (by decide +kernel) ⟨Nat.le_of_ble_eq_true rfl, Nat.le_of_ble_eq_true rfl⟩) ⟨PW.blind, (fun U hU hW => ⟨rfl, PW.call hK hM hS hU hW⟩)⟩ rfl rfl hl.1 rfl (lv_room (Nat.le_of_ble_eq_true rfl)) dX6_refutesBefore_22 ⟨(Nat.le_refl _), (Nat.le_refl _)⟩) hS (fun H locs hM hS => ?_)
  refine lv_iand hx hb dX6_refutesBefore_25 ?_
  refine lv_if_eq (tgt := 33) hx hb dX6_refutesBefore_26 (by decide) (fun c26 => ?_) (fun c26 => ?_)
  · replace h := o_t c26 h
    refine lv_iconst (v := (0 : Int32)) hx hb dX6_refutesBefore_33 (by decide) ?_
    replace h := Option.some.inj h; subst h
    exact W.zret hx hb hr rfl (fun t ht hW => ⟨rfl, by rw [ht]; exact hM.moved hW.alike, hS.F ht⟩) hS.2.2 dX6_refutesBefore_34
  replace h := o_f c26 h
  refine lv_iconst (v := (1 : Int32)) hx hb dX6_refutesBefore_29 (by decide) ?_
  refine lv_goto (tgt := 34) hx hb dX6_refutesBefore_30 (by decide) ?_
  replace h := Option.some.inj h; subst h
  exact W.zret hx hb hr rfl (fun t ht hW => ⟨rfl, by rw [ht]; exact hM.moved hW.alike, hS.F ht⟩) hS.2.2 dX6_refutesBefore_34
set_option maxHeartbeats 4000000 in
set_option maxRecDepth 100000 in
theorem c_X6_refutesBefore (l : Launch) (D : mmD) (b0 sz : Nat) {kn : Nat} (ek : kn = D.2 9) {v0 : Nat} {v1 : Nat} {v2 : Nat} {v3 : Int32} {v4 : Int32} {v5 : Int32} {v6 : Int32} {f : mmF} {res : Int32 × mmF} (h : f_X6_refutesBefore kn v0 v1 v2 v3 v4 v5 v6 f = some res) : Met l yX6_refutesBefore wsX6_refutesBefore ({ frames := 4, cells := 0, slots := 0, locals := 89 } : Room) (va_Pc [.ref v0, .ref v1, .ref v2, .int v3, .int v4, .int v5, .int v6] (PW D b0 f sz)) (QW D b0 (some (.int res.1)) res.2 sz) 0 0 (fun q => b0 ≤ q) := by
  refine Met.ofW (cc := cX6_refutesBefore) (maxL := 7) (ret := (some .boolean)) (by decide) rfl ?_
  intro p e s m args below meth c s₁ B hml hv
  obtain ⟨rfl, hM, hK⟩ := hv
  have hl := lv_entry ([.ref v0, .ref v1, .ref v2, .int v3, .int v4, .int v5, .int v6]) (n := 7) (Nat.le_of_ble_eq_true rfl)
  rw [lg_entry_eq]
  generalize (lg_sl ([.ref v0, .ref v1, .ref v2, .int v3, .int v4, .int v5, .int v6]) ++ List.replicate (7 - (lg_sl ([.ref v0, .ref v1, .ref v2, .int v3, .int v4, .int v5, .int v6])).length) Slot.unset).toArray = ls at hl ⊢
  have hl : lv_has ls 7 [(0, .ref v0), (1, .ref v1), (2, .ref v2), (3, .int v3), (4, .int v4), (5, .int v5), (6, .int v6)] := hl
  exact w_X6_refutesBefore ⟨B.exec, B.bytes, B.returns, hml, findClass_of_methodNamed B.named, atoms_spec (ws := wsX6_refutesBefore) B.pre, B.notSynchronized, hK⟩ ek h s.heap [] ls hM va_S.rf hl
end S_X6_refutesBefore
/-! X6_refutesWithTwo -/
set_option maxRecDepth 20000 in
theorem q_X6_refutesWithTwo_0 : Cond.initialized RX9 ∈ wsX6_refutesWithTwo := by decide +kernel
set_option maxRecDepth 20000 in
theorem q_X6_refutesWithTwo_1 : Cond.static yX9_has ∈ wsX6_refutesWithTwo := by decide +kernel
set_option maxRecDepth 20000 in
theorem qi_X6_refutesWithTwo_X6 : ∀ w ∈ u_ws RX6 TX6 5, w ∈ wsX6_refutesWithTwo := by decide +kernel
set_option maxRecDepth 20000 in
theorem q_X6_refutesWithTwo_3 : Cond.fieldLink RX6 25 "StageTruths$SmallModels" "second" "[I" ∈ wsX6_refutesWithTwo := by decide +kernel
set_option maxRecDepth 20000 in
theorem q_X6_refutesWithTwo_4 : Cond.fieldLink RX6 22 "StageTruths$SmallModels" "single" "[I" ∈ wsX6_refutesWithTwo := by decide +kernel
noncomputable def f_X6_refutesWithTwo_48 (kn : Nat) (k9 : Nat → Int32 → Int32 → Int32 → Int32 → mmF → Option (Int32 × mmF))  (v0 : Nat) (v1 : Int32) (v2 : Int32) (v3 : Int32) (v4 : Int32) (f : mmF) : Option (Int32 × mmF) :=
  k9 v0 v1 v2 v3 (v4 + (1 : Int32)) f
noncomputable def f_X6_refutesWithTwo_9 (kn : Nat)   : Nat → Nat → Int32 → Int32 → Int32 → Int32 → mmF → Option (Int32 × mmF)
  | 0, _, _, _, _, _, _ => none
  | n + 1, v0, v1, v2, v3, v4, f =>
    if (16 : Int32) ≤ v4 then
    (some ((0 : Int32), f))
    else
    (f_X9_has v3 v4 f).bind fun q19 =>
    if q19 = 0 then
    (f_X6_refutesWithTwo_48 kn (fun a0 a1 a2 a3 a4 a5 => f_X6_refutesWithTwo_9 kn n a0 a1 a2 a3 a4 a5) v0 v1 v2 v3 v4 f)
    else
    (ldR f v0 6 3).bind fun x27 =>
    (ldR f v0 6 2).bind fun x31 =>
    (ckO f v0 6).bind fun _ =>
    (f_X6_refutesBefore kn v0 x27 x31 v4 v4 v1 v2 f).bind fun q40 =>
    if q40.1 = 0 then
    (f_X6_refutesWithTwo_48 kn (fun a0 a1 a2 a3 a4 a5 => f_X6_refutesWithTwo_9 kn n a0 a1 a2 a3 a4 a5) v0 v1 v2 v3 v4 q40.2)
    else
    some ((1 : Int32), q40.2)
noncomputable def f_X6_refutesWithTwo (kn : Nat) (v0 : Nat) (v1 : Int32) (v2 : Int32) (f : mmF) : Option (Int32 × mmF) :=
  (ckO f v0 6).bind fun _ =>
  (f_X6_usefulLast kn v0 v1 f).bind fun q2 =>
  f_X6_refutesWithTwo_9 kn FU v0 v1 v2 q2 (0 : Int32) f
section S_X6_refutesWithTwo
variable {p : Program} {l : Launch} {e : Env} {s : State} {m : MethodId} {args : Array Value} {below : List Frame} {meth : Method} {c : Code} {D : mmD} {b0 sz : Nat} {f : mmF}
set_option maxHeartbeats 4000000 in
set_option maxRecDepth 100000 in
theorem w_X6_refutesWithTwo_48 (C0 : CX cX6_refutesWithTwo 5 (some .boolean) wsX6_refutesWithTwo RX6 p s m args meth c D b0) {kn : Nat} (ek : kn = D.2 9) {k9 : Nat → Int32 → Int32 → Int32 → Int32 → mmF → Option (Int32 × mmF)} {res : Int32 × mmF} (hk9 : ∀ (v0 : Nat) (v1 : Int32) (v2 : Int32) (v3 : Int32) (v4 : Int32) (f : mmF), k9 v0 v1 v2 v3 v4 f = some res → ∀ (H : Heap) (locs : List Loc) (ls : Array Slot), MM vwCl D b0 f sz s H → mS b0 s H locs → lv_has ls 5 [(0, .ref v0), (1, .int v1), (2, .int v2), (3, .int v3), (4, .int v4)] → W p l e ({ frames := 5, cells := 0, slots := 0, locals := 115 } : Room) s m args below meth c H locs 0 0 (MQ below (QW D b0 (some (.int res.1)) res.2 sz) args s 0 0 (fun q => b0 ≤ q)) (F0 m 9 ls [])) : ∀ (v0 : Nat) (v1 : Int32) (v2 : Int32) (v3 : Int32) (v4 : Int32) (f : mmF), f_X6_refutesWithTwo_48 kn k9 v0 v1 v2 v3 v4 f = some res → ∀ (H : Heap) (locs : List Loc) (ls : Array Slot), MM vwCl D b0 f sz s H → mS b0 s H locs → lv_has ls 5 [(0, .ref v0), (1, .int v1), (2, .int v2), (3, .int v3), (4, .int v4)] → W p l e ({ frames := 5, cells := 0, slots := 0, locals := 115 } : Room) s m args below meth c H locs 0 0 (MQ below (QW D b0 (some (.int res.1)) res.2 sz) args s 0 0 (fun q => b0 ≤ q)) (F0 m 48 ls []) := by
  obtain ⟨hx, hb, hr, hml, hown, hts, hlocks, hK⟩ := id C0
  intro v0 v1 v2 v3 v4 f h H locs ls hM hS hl
  unfold f_X6_refutesWithTwo_48 at h
  refine lv_iinc (v := (v4 + (1 : Int32))) (lv' := [(4, .int (v4 + (1 : Int32))), (0, .ref v0), (1, .int v1), (2, .int v2), (3, .int v3)]) hx hb dX6_refutesWithTwo_48 hl (k := 4) rfl rfl (by decide) rfl (fun ls hl => ?_)
  refine lv_goto (tgt := 9) hx hb dX6_refutesWithTwo_51 (by decide) ?_
  exact hk9 _ _ _ _ _ _ h _ _ _ hM hS (lv_sub hl [1, 2, 3, 4, 0] rfl)
set_option maxHeartbeats 4000000 in
set_option maxRecDepth 100000 in
theorem w_X6_refutesWithTwo_9 (C0 : CX cX6_refutesWithTwo 5 (some .boolean) wsX6_refutesWithTwo RX6 p s m args meth c D b0) {kn : Nat} (ek : kn = D.2 9) {res : Int32 × mmF} : ∀ (n : Nat), ∀ (v0 : Nat) (v1 : Int32) (v2 : Int32) (v3 : Int32) (v4 : Int32) (f : mmF), f_X6_refutesWithTwo_9 kn n v0 v1 v2 v3 v4 f = some res → ∀ (H : Heap) (locs : List Loc) (ls : Array Slot), MM vwCl D b0 f sz s H → mS b0 s H locs → lv_has ls 5 [(0, .ref v0), (1, .int v1), (2, .int v2), (3, .int v3), (4, .int v4)] → W p l e ({ frames := 5, cells := 0, slots := 0, locals := 115 } : Room) s m args below meth c H locs 0 0 (MQ below (QW D b0 (some (.int res.1)) res.2 sz) args s 0 0 (fun q => b0 ≤ q)) (F0 m 9 ls []) := by
  obtain ⟨hx, hb, hr, hml, hown, hts, hlocks, hK⟩ := id C0
  intro n
  induction n with
  | zero =>
    intro v0 v1 v2 v3 v4 f h
    have h : (none : Option (Int32 × mmF)) = some res := h
    cases h
  | succ n ih =>
    intro v0 v1 v2 v3 v4 f h H locs ls hM hS hl
    rw [f_X6_refutesWithTwo_9] at h
    refine lv_iload hx hb dX6_refutesWithTwo_9 (lv_at hl 4 rfl) ?_
    refine lv_bipush (v := (16 : Int32)) hx hb dX6_refutesWithTwo_11 (by decide) ?_
    refine lv_icmp_ge (tgt := 54) hx hb dX6_refutesWithTwo_13 (by decide) (fun c13 => ?_) (fun c13 => ?_)
    · replace h := o_t c13 h
      refine lv_iconst (v := (0 : Int32)) hx hb dX6_refutesWithTwo_54 (by decide) ?_
      replace h := Option.some.inj h; subst h
      exact W.zret hx hb hr rfl (fun t ht hW => ⟨rfl, by rw [ht]; exact hM.moved hW.alike, hS.F ht⟩) hS.2.2 dX6_refutesWithTwo_55
    replace h := o_f c13 h
    refine lv_iload_n hx hb dX6_refutesWithTwo_16 rfl (lv_at hl 3 rfl) ?_
    refine lv_iload hx hb dX6_refutesWithTwo_17 (lv_at hl 4 rfl) ?_
    replace h := o_b h; obtain ⟨q19, h19, h⟩ := h
    refine m_call (va_runSN (As := [.int v3, .int v4]) (rest := []) ⟨hx, hb, hml, hown, hts⟩ (c_X9_has l D b0 sz h19) ⟨(va_cnB 2 hts gX6_refutesWithTwo_X9_has_n48 rfl rfl rfl (hK.2.1 (RX6, 48, yX9_has, "StageTruths") (by decide)) (hts _ q_X6_refutesWithTwo_0) (by decide +kernel) ⟨Nat.le_of_ble_eq_true rfl, Nat.le_of_ble_eq_true rfl⟩), (hts _ q_X6_refutesWithTwo_1), trivial⟩ ⟨PW.blind, (fun U hU hW => ⟨rfl, PW.call hK hM hS hU hW⟩)⟩ rfl rfl hl.1 rfl (lv_room (Nat.le_of_ble_eq_true rfl)) dX6_refutesWithTwo_19 ⟨(Nat.le_refl _), (Nat.le_refl _)⟩) hS (fun H locs hM hS => ?_)
    refine lv_if_eq (tgt := 48) hx hb dX6_refutesWithTwo_22 (by decide) (fun c22 => ?_) (fun c22 => ?_)
    · replace h := o_t c22 h
      exact w_X6_refutesWithTwo_48 C0 ek ih _ _ _ _ _ _ h _ _ _ hM hS (lv_sub hl [0, 1, 2, 3, 4] rfl)
    replace h := o_f c22 h
    refine lv_aload_n hx hb dX6_refutesWithTwo_25 rfl (lv_at hl 0 rfl) ?_
    refine lv_aload_n hx hb dX6_refutesWithTwo_26 rfl (lv_at hl 0 rfl) ?_
    replace h := o_b h; obtain ⟨x27, h27, h⟩ := h
    refine m_get (C := RX6) (T := TX6) (N := 5) (ci := 6) hx hb hts qi_X6_refutesWithTwo_X6 hown hK.1 hM 3 (ldR_F h27) rfl (by decide) (hts _ q_X6_refutesWithTwo_3) (fun _ h9 => h9) dX6_refutesWithTwo_27 ?_
    refine lv_aload_n hx hb dX6_refutesWithTwo_30 rfl (lv_at hl 0 rfl) ?_
    replace h := o_b h; obtain ⟨x31, h31, h⟩ := h
    refine m_get (C := RX6) (T := TX6) (N := 5) (ci := 6) hx hb hts qi_X6_refutesWithTwo_X6 hown hK.1 hM 2 (ldR_F h31) rfl (by decide) (hts _ q_X6_refutesWithTwo_4) (fun _ h9 => h9) dX6_refutesWithTwo_31 ?_
    refine lv_iload hx hb dX6_refutesWithTwo_34 (lv_at hl 4 rfl) ?_
    refine lv_iload hx hb dX6_refutesWithTwo_36 (lv_at hl 4 rfl) ?_
    refine lv_iload_n hx hb dX6_refutesWithTwo_38 rfl (lv_at hl 1 rfl) ?_
    refine lv_iload_n hx hb dX6_refutesWithTwo_39 rfl (lv_at hl 2 rfl) ?_
    replace h := o_b h; obtain ⟨_, k40, h⟩ := h
    replace h := o_b h; obtain ⟨q40, h40, h⟩ := h
    refine m_call (va_runV (As := [.ref x27, .ref x31, .int v4, .int v4, .int v1, .int v2]) (rest := []) ⟨hx, hb, hml, hown, hts⟩ (c_X6_refutesBefore l D b0 sz ek h40) (cwV 6 hts gX6_refutesWithTwo_X6_refutesBefore rfl rfl rfl (by decide +kernel) ⟨Nat.le_of_ble_eq_true rfl, Nat.le_of_ble_eq_true rfl⟩) ⟨PW.blind, m_recv (ci := 6) rfl hK hM k40, (fun U hU hW => ⟨rfl, PW.call hK hM hS hU hW⟩)⟩ rfl rfl hl.1 rfl (lv_room (Nat.le_of_ble_eq_true rfl)) dX6_refutesWithTwo_40 ⟨(Nat.le_refl _), (Nat.le_refl _)⟩) hS (fun H locs hM hS => ?_)
    refine lv_if_eq (tgt := 48) hx hb dX6_refutesWithTwo_43 (by decide) (fun c43 => ?_) (fun c43 => ?_)
    · replace h := o_t c43 h
      exact w_X6_refutesWithTwo_48 C0 ek ih _ _ _ _ _ _ h _ _ _ hM hS (lv_sub hl [0, 1, 2, 3, 4] rfl)
    replace h := o_f c43 h
    refine lv_iconst (v := (1 : Int32)) hx hb dX6_refutesWithTwo_46 (by decide) ?_
    replace h := Option.some.inj h; subst h
    exact W.zret hx hb hr rfl (fun t ht hW => ⟨rfl, by rw [ht]; exact hM.moved hW.alike, hS.F ht⟩) hS.2.2 dX6_refutesWithTwo_47
set_option maxHeartbeats 4000000 in
set_option maxRecDepth 100000 in
theorem w_X6_refutesWithTwo (C0 : CX cX6_refutesWithTwo 5 (some .boolean) wsX6_refutesWithTwo RX6 p s m args meth c D b0) {v0 : Nat} {v1 : Int32} {v2 : Int32} {kn : Nat} (ek : kn = D.2 9) {res : Int32 × mmF} (h : f_X6_refutesWithTwo kn v0 v1 v2 f = some res) : ∀ (H : Heap) (locs : List Loc) (ls : Array Slot), MM vwCl D b0 f sz s H → mS b0 s H locs → lv_has ls 5 [(0, .ref v0), (1, .int v1), (2, .int v2)] → W p l e ({ frames := 5, cells := 0, slots := 0, locals := 115 } : Room) s m args below meth c H locs 0 0 (MQ below (QW D b0 (some (.int res.1)) res.2 sz) args s 0 0 (fun q => b0 ≤ q)) (F0 m 0 ls []) := by
  obtain ⟨hx, hb, hr, hml, hown, hts, hlocks, hK⟩ := id C0
  intro H locs ls hM hS hl
  unfold f_X6_refutesWithTwo at h
  refine lv_aload_n hx hb dX6_refutesWithTwo_0 rfl (lv_at hl 0 rfl) ?_
  refine lv_iload_n hx hb dX6_refutesWithTwo_1 rfl (lv_at hl 1 rfl) ?_
  replace h := o_b h; obtain ⟨_, k2, h⟩ := h
  replace h := o_b h; obtain ⟨q2, h2, h⟩ := h
  refine m_call (va_runV (As := [.int v1]) (rest := []) ⟨hx, hb, hml, hown, hts⟩ (c_X6_usefulLast l D b0 sz ek h2) (cwV 1 hts gX6_refutesWithTwo_X6_usefulLast rfl rfl rfl (by decide +kernel) ⟨Nat.le_of_ble_eq_true rfl, Nat.le_of_ble_eq_true rfl⟩) ⟨PW.blind, m_recv (ci := 6) rfl hK hM k2, (fun U hU hW => ⟨rfl, PW.call hK hM hS hU hW⟩)⟩ rfl rfl hl.1 rfl (lv_room (Nat.le_of_ble_eq_true rfl)) dX6_refutesWithTwo_2 ⟨(Nat.le_refl _), (Nat.le_refl _)⟩) hS (fun H locs hM hS => ?_)
  refine lv_istore_n (lv' := [(3, .int q2), (0, .ref v0), (1, .int v1), (2, .int v2)]) hx hb dX6_refutesWithTwo_5 rfl hl (by decide) rfl (fun ls hl => ?_)
  refine lv_iconst (v := (0 : Int32)) hx hb dX6_refutesWithTwo_6 (by decide) ?_
  refine lv_istore (lv' := [(4, .int (0 : Int32)), (3, .int q2), (0, .ref v0), (1, .int v1), (2, .int v2)]) hx hb dX6_refutesWithTwo_7 hl (by decide) rfl (fun ls hl => ?_)
  exact w_X6_refutesWithTwo_9 C0 ek FU _ _ _ _ _ _ h _ _ _ hM hS (lv_sub hl [2, 3, 4, 1, 0] rfl)
set_option maxHeartbeats 4000000 in
set_option maxRecDepth 100000 in
theorem c_X6_refutesWithTwo (l : Launch) (D : mmD) (b0 sz : Nat) {kn : Nat} (ek : kn = D.2 9) {v0 : Nat} {v1 : Int32} {v2 : Int32} {f : mmF} {res : Int32 × mmF} (h : f_X6_refutesWithTwo kn v0 v1 v2 f = some res) : Met l yX6_refutesWithTwo wsX6_refutesWithTwo ({ frames := 5, cells := 0, slots := 0, locals := 115 } : Room) (va_Pc [.ref v0, .int v1, .int v2] (PW D b0 f sz)) (QW D b0 (some (.int res.1)) res.2 sz) 0 0 (fun q => b0 ≤ q) := by
  refine Met.ofW (cc := cX6_refutesWithTwo) (maxL := 5) (ret := (some .boolean)) (by decide) rfl ?_
  intro p e s m args below meth c s₁ B hml hv
  obtain ⟨rfl, hM, hK⟩ := hv
  have hl := lv_entry ([.ref v0, .int v1, .int v2]) (n := 5) (Nat.le_of_ble_eq_true rfl)
  rw [lg_entry_eq]
  generalize (lg_sl ([.ref v0, .int v1, .int v2]) ++ List.replicate (5 - (lg_sl ([.ref v0, .int v1, .int v2])).length) Slot.unset).toArray = ls at hl ⊢
  have hl : lv_has ls 5 [(0, .ref v0), (1, .int v1), (2, .int v2)] := hl
  exact w_X6_refutesWithTwo ⟨B.exec, B.bytes, B.returns, hml, findClass_of_methodNamed B.named, atoms_spec (ws := wsX6_refutesWithTwo) B.pre, B.notSynchronized, hK⟩ ek h s.heap [] ls hM va_S.rf hl
end S_X6_refutesWithTwo
/-! X6_refutesForked -/
set_option maxRecDepth 20000 in
theorem q_X6_refutesForked_0 : Cond.initialized RX9 ∈ wsX6_refutesForked := by decide +kernel
set_option maxRecDepth 20000 in
theorem q_X6_refutesForked_1 : Cond.static yX9_has ∈ wsX6_refutesForked := by decide +kernel
set_option maxRecDepth 20000 in
theorem qi_X6_refutesForked_X6 : ∀ w ∈ u_ws RX6 TX6 5, w ∈ wsX6_refutesForked := by decide +kernel
set_option maxRecDepth 20000 in
theorem q_X6_refutesForked_3 : Cond.fieldLink RX6 28 "StageTruths$SmallModels" "third" "[I" ∈ wsX6_refutesForked := by decide +kernel
set_option maxRecDepth 20000 in
theorem q_X6_refutesForked_4 : Cond.fieldLink RX6 22 "StageTruths$SmallModels" "single" "[I" ∈ wsX6_refutesForked := by decide +kernel
noncomputable def f_X6_refutesForked_41 (kn : Nat) (k3 : Nat → Int32 → Int32 → Int32 → Int32 → Int32 → mmF → Option (Int32 × mmF))  (v0 : Nat) (v1 : Int32) (v2 : Int32) (v3 : Int32) (v4 : Int32) (v5 : Int32) (f : mmF) : Option (Int32 × mmF) :=
  k3 v0 v1 v2 v3 v4 (v5 + (1 : Int32)) f
noncomputable def f_X6_refutesForked_3 (kn : Nat)   : Nat → Nat → Int32 → Int32 → Int32 → Int32 → Int32 → mmF → Option (Int32 × mmF)
  | 0, _, _, _, _, _, _, _ => none
  | n + 1, v0, v1, v2, v3, v4, v5, f =>
    if v1 ≤ v5 then
    (some ((0 : Int32), f))
    else
    (f_X9_has v2 v5 f).bind fun q12 =>
    if q12 = 0 then
    (f_X6_refutesForked_41 kn (fun a0 a1 a2 a3 a4 a5 a6 => f_X6_refutesForked_3 kn n a0 a1 a2 a3 a4 a5 a6) v0 v1 v2 v3 v4 v5 f)
    else
    (ldR f v0 6 4).bind fun x20 =>
    (ldR f v0 6 2).bind fun x24 =>
    (ckO f v0 6).bind fun _ =>
    (f_X6_refutesBefore kn v0 x20 x24 v5 v1 v3 v4 f).bind fun q33 =>
    if q33.1 = 0 then
    (f_X6_refutesForked_41 kn (fun a0 a1 a2 a3 a4 a5 a6 => f_X6_refutesForked_3 kn n a0 a1 a2 a3 a4 a5 a6) v0 v1 v2 v3 v4 v5 q33.2)
    else
    some ((1 : Int32), q33.2)
noncomputable def f_X6_refutesForked (kn : Nat) (v0 : Nat) (v1 : Int32) (v2 : Int32) (v3 : Int32) (v4 : Int32) (f : mmF) : Option (Int32 × mmF) :=
  f_X6_refutesForked_3 kn FU v0 v1 v2 v3 v4 (0 : Int32) f
section S_X6_refutesForked
variable {p : Program} {l : Launch} {e : Env} {s : State} {m : MethodId} {args : Array Value} {below : List Frame} {meth : Method} {c : Code} {D : mmD} {b0 sz : Nat} {f : mmF}
set_option maxHeartbeats 4000000 in
set_option maxRecDepth 100000 in
theorem w_X6_refutesForked_41 (C0 : CX cX6_refutesForked 6 (some .boolean) wsX6_refutesForked RX6 p s m args meth c D b0) {kn : Nat} (ek : kn = D.2 9) {k3 : Nat → Int32 → Int32 → Int32 → Int32 → Int32 → mmF → Option (Int32 × mmF)} {res : Int32 × mmF} (hk3 : ∀ (v0 : Nat) (v1 : Int32) (v2 : Int32) (v3 : Int32) (v4 : Int32) (v5 : Int32) (f : mmF), k3 v0 v1 v2 v3 v4 v5 f = some res → ∀ (H : Heap) (locs : List Loc) (ls : Array Slot), MM vwCl D b0 f sz s H → mS b0 s H locs → lv_has ls 6 [(0, .ref v0), (1, .int v1), (2, .int v2), (3, .int v3), (4, .int v4), (5, .int v5)] → W p l e ({ frames := 5, cells := 0, slots := 0, locals := 115 } : Room) s m args below meth c H locs 0 0 (MQ below (QW D b0 (some (.int res.1)) res.2 sz) args s 0 0 (fun q => b0 ≤ q)) (F0 m 3 ls [])) : ∀ (v0 : Nat) (v1 : Int32) (v2 : Int32) (v3 : Int32) (v4 : Int32) (v5 : Int32) (f : mmF), f_X6_refutesForked_41 kn k3 v0 v1 v2 v3 v4 v5 f = some res → ∀ (H : Heap) (locs : List Loc) (ls : Array Slot), MM vwCl D b0 f sz s H → mS b0 s H locs → lv_has ls 6 [(0, .ref v0), (1, .int v1), (2, .int v2), (3, .int v3), (4, .int v4), (5, .int v5)] → W p l e ({ frames := 5, cells := 0, slots := 0, locals := 115 } : Room) s m args below meth c H locs 0 0 (MQ below (QW D b0 (some (.int res.1)) res.2 sz) args s 0 0 (fun q => b0 ≤ q)) (F0 m 41 ls []) := by
  obtain ⟨hx, hb, hr, hml, hown, hts, hlocks, hK⟩ := id C0
  intro v0 v1 v2 v3 v4 v5 f h H locs ls hM hS hl
  unfold f_X6_refutesForked_41 at h
  refine lv_iinc (v := (v5 + (1 : Int32))) (lv' := [(5, .int (v5 + (1 : Int32))), (0, .ref v0), (1, .int v1), (2, .int v2), (3, .int v3), (4, .int v4)]) hx hb dX6_refutesForked_41 hl (k := 5) rfl rfl (by decide) rfl (fun ls hl => ?_)
  refine lv_goto (tgt := 3) hx hb dX6_refutesForked_44 (by decide) ?_
  exact hk3 _ _ _ _ _ _ _ h _ _ _ hM hS (lv_sub hl [1, 2, 3, 4, 5, 0] rfl)
set_option maxHeartbeats 4000000 in
set_option maxRecDepth 100000 in
theorem w_X6_refutesForked_3 (C0 : CX cX6_refutesForked 6 (some .boolean) wsX6_refutesForked RX6 p s m args meth c D b0) {kn : Nat} (ek : kn = D.2 9) {res : Int32 × mmF} : ∀ (n : Nat), ∀ (v0 : Nat) (v1 : Int32) (v2 : Int32) (v3 : Int32) (v4 : Int32) (v5 : Int32) (f : mmF), f_X6_refutesForked_3 kn n v0 v1 v2 v3 v4 v5 f = some res → ∀ (H : Heap) (locs : List Loc) (ls : Array Slot), MM vwCl D b0 f sz s H → mS b0 s H locs → lv_has ls 6 [(0, .ref v0), (1, .int v1), (2, .int v2), (3, .int v3), (4, .int v4), (5, .int v5)] → W p l e ({ frames := 5, cells := 0, slots := 0, locals := 115 } : Room) s m args below meth c H locs 0 0 (MQ below (QW D b0 (some (.int res.1)) res.2 sz) args s 0 0 (fun q => b0 ≤ q)) (F0 m 3 ls []) := by
  obtain ⟨hx, hb, hr, hml, hown, hts, hlocks, hK⟩ := id C0
  intro n
  induction n with
  | zero =>
    intro v0 v1 v2 v3 v4 v5 f h
    have h : (none : Option (Int32 × mmF)) = some res := h
    cases h
  | succ n ih =>
    intro v0 v1 v2 v3 v4 v5 f h H locs ls hM hS hl
    rw [f_X6_refutesForked_3] at h
    refine lv_iload hx hb dX6_refutesForked_3 (lv_at hl 5 rfl) ?_
    refine lv_iload_n hx hb dX6_refutesForked_5 rfl (lv_at hl 1 rfl) ?_
    refine lv_icmp_ge (tgt := 47) hx hb dX6_refutesForked_6 (by decide) (fun c6 => ?_) (fun c6 => ?_)
    · replace h := o_t c6 h
      refine lv_iconst (v := (0 : Int32)) hx hb dX6_refutesForked_47 (by decide) ?_
      replace h := Option.some.inj h; subst h
      exact W.zret hx hb hr rfl (fun t ht hW => ⟨rfl, by rw [ht]; exact hM.moved hW.alike, hS.F ht⟩) hS.2.2 dX6_refutesForked_48
    replace h := o_f c6 h
    refine lv_iload_n hx hb dX6_refutesForked_9 rfl (lv_at hl 2 rfl) ?_
    refine lv_iload hx hb dX6_refutesForked_10 (lv_at hl 5 rfl) ?_
    replace h := o_b h; obtain ⟨q12, h12, h⟩ := h
    refine m_call (va_runSN (As := [.int v2, .int v5]) (rest := []) ⟨hx, hb, hml, hown, hts⟩ (c_X9_has l D b0 sz h12) ⟨(va_cnB 2 hts gX6_refutesForked_X9_has_n48 rfl rfl rfl (hK.2.1 (RX6, 48, yX9_has, "StageTruths") (by decide)) (hts _ q_X6_refutesForked_0) (by decide +kernel) ⟨Nat.le_of_ble_eq_true rfl, Nat.le_of_ble_eq_true rfl⟩), (hts _ q_X6_refutesForked_1), trivial⟩ ⟨PW.blind, (fun U hU hW => ⟨rfl, PW.call hK hM hS hU hW⟩)⟩ rfl rfl hl.1 rfl (lv_room (Nat.le_of_ble_eq_true rfl)) dX6_refutesForked_12 ⟨(Nat.le_refl _), (Nat.le_refl _)⟩) hS (fun H locs hM hS => ?_)
    refine lv_if_eq (tgt := 41) hx hb dX6_refutesForked_15 (by decide) (fun c15 => ?_) (fun c15 => ?_)
    · replace h := o_t c15 h
      exact w_X6_refutesForked_41 C0 ek ih _ _ _ _ _ _ _ h _ _ _ hM hS (lv_sub hl [0, 1, 2, 3, 4, 5] rfl)
    replace h := o_f c15 h
    refine lv_aload_n hx hb dX6_refutesForked_18 rfl (lv_at hl 0 rfl) ?_
    refine lv_aload_n hx hb dX6_refutesForked_19 rfl (lv_at hl 0 rfl) ?_
    replace h := o_b h; obtain ⟨x20, h20, h⟩ := h
    refine m_get (C := RX6) (T := TX6) (N := 5) (ci := 6) hx hb hts qi_X6_refutesForked_X6 hown hK.1 hM 4 (ldR_F h20) rfl (by decide) (hts _ q_X6_refutesForked_3) (fun _ h9 => h9) dX6_refutesForked_20 ?_
    refine lv_aload_n hx hb dX6_refutesForked_23 rfl (lv_at hl 0 rfl) ?_
    replace h := o_b h; obtain ⟨x24, h24, h⟩ := h
    refine m_get (C := RX6) (T := TX6) (N := 5) (ci := 6) hx hb hts qi_X6_refutesForked_X6 hown hK.1 hM 2 (ldR_F h24) rfl (by decide) (hts _ q_X6_refutesForked_4) (fun _ h9 => h9) dX6_refutesForked_24 ?_
    refine lv_iload hx hb dX6_refutesForked_27 (lv_at hl 5 rfl) ?_
    refine lv_iload_n hx hb dX6_refutesForked_29 rfl (lv_at hl 1 rfl) ?_
    refine lv_iload_n hx hb dX6_refutesForked_30 rfl (lv_at hl 3 rfl) ?_
    refine lv_iload hx hb dX6_refutesForked_31 (lv_at hl 4 rfl) ?_
    replace h := o_b h; obtain ⟨_, k33, h⟩ := h
    replace h := o_b h; obtain ⟨q33, h33, h⟩ := h
    refine m_call (va_runV (As := [.ref x20, .ref x24, .int v5, .int v1, .int v3, .int v4]) (rest := []) ⟨hx, hb, hml, hown, hts⟩ (c_X6_refutesBefore l D b0 sz ek h33) (cwV 6 hts gX6_refutesForked_X6_refutesBefore rfl rfl rfl (by decide +kernel) ⟨Nat.le_of_ble_eq_true rfl, Nat.le_of_ble_eq_true rfl⟩) ⟨PW.blind, m_recv (ci := 6) rfl hK hM k33, (fun U hU hW => ⟨rfl, PW.call hK hM hS hU hW⟩)⟩ rfl rfl hl.1 rfl (lv_room (Nat.le_of_ble_eq_true rfl)) dX6_refutesForked_33 ⟨(Nat.le_refl _), (Nat.le_refl _)⟩) hS (fun H locs hM hS => ?_)
    refine lv_if_eq (tgt := 41) hx hb dX6_refutesForked_36 (by decide) (fun c36 => ?_) (fun c36 => ?_)
    · replace h := o_t c36 h
      exact w_X6_refutesForked_41 C0 ek ih _ _ _ _ _ _ _ h _ _ _ hM hS (lv_sub hl [0, 1, 2, 3, 4, 5] rfl)
    replace h := o_f c36 h
    refine lv_iconst (v := (1 : Int32)) hx hb dX6_refutesForked_39 (by decide) ?_
    replace h := Option.some.inj h; subst h
    exact W.zret hx hb hr rfl (fun t ht hW => ⟨rfl, by rw [ht]; exact hM.moved hW.alike, hS.F ht⟩) hS.2.2 dX6_refutesForked_40
set_option maxHeartbeats 4000000 in
set_option maxRecDepth 100000 in
theorem w_X6_refutesForked (C0 : CX cX6_refutesForked 6 (some .boolean) wsX6_refutesForked RX6 p s m args meth c D b0) {v0 : Nat} {v1 : Int32} {v2 : Int32} {v3 : Int32} {v4 : Int32} {kn : Nat} (ek : kn = D.2 9) {res : Int32 × mmF} (h : f_X6_refutesForked kn v0 v1 v2 v3 v4 f = some res) : ∀ (H : Heap) (locs : List Loc) (ls : Array Slot), MM vwCl D b0 f sz s H → mS b0 s H locs → lv_has ls 6 [(0, .ref v0), (1, .int v1), (2, .int v2), (3, .int v3), (4, .int v4)] → W p l e ({ frames := 5, cells := 0, slots := 0, locals := 115 } : Room) s m args below meth c H locs 0 0 (MQ below (QW D b0 (some (.int res.1)) res.2 sz) args s 0 0 (fun q => b0 ≤ q)) (F0 m 0 ls []) := by
  obtain ⟨hx, hb, hr, hml, hown, hts, hlocks, hK⟩ := id C0
  intro H locs ls hM hS hl
  unfold f_X6_refutesForked at h
  refine lv_iconst (v := (0 : Int32)) hx hb dX6_refutesForked_0 (by decide) ?_
  refine lv_istore (lv' := [(5, .int (0 : Int32)), (0, .ref v0), (1, .int v1), (2, .int v2), (3, .int v3), (4, .int v4)]) hx hb dX6_refutesForked_1 hl (by decide) rfl (fun ls hl => ?_)
  exact w_X6_refutesForked_3 C0 ek FU _ _ _ _ _ _ _ h _ _ _ hM hS (lv_sub hl [1, 2, 3, 4, 5, 0] rfl)
set_option maxHeartbeats 4000000 in
set_option maxRecDepth 100000 in
theorem c_X6_refutesForked (l : Launch) (D : mmD) (b0 sz : Nat) {kn : Nat} (ek : kn = D.2 9) {v0 : Nat} {v1 : Int32} {v2 : Int32} {v3 : Int32} {v4 : Int32} {f : mmF} {res : Int32 × mmF} (h : f_X6_refutesForked kn v0 v1 v2 v3 v4 f = some res) : Met l yX6_refutesForked wsX6_refutesForked ({ frames := 5, cells := 0, slots := 0, locals := 115 } : Room) (va_Pc [.ref v0, .int v1, .int v2, .int v3, .int v4] (PW D b0 f sz)) (QW D b0 (some (.int res.1)) res.2 sz) 0 0 (fun q => b0 ≤ q) := by
  refine Met.ofW (cc := cX6_refutesForked) (maxL := 6) (ret := (some .boolean)) (by decide) rfl ?_
  intro p e s m args below meth c s₁ B hml hv
  obtain ⟨rfl, hM, hK⟩ := hv
  have hl := lv_entry ([.ref v0, .int v1, .int v2, .int v3, .int v4]) (n := 6) (Nat.le_of_ble_eq_true rfl)
  rw [lg_entry_eq]
  generalize (lg_sl ([.ref v0, .int v1, .int v2, .int v3, .int v4]) ++ List.replicate (6 - (lg_sl ([.ref v0, .int v1, .int v2, .int v3, .int v4])).length) Slot.unset).toArray = ls at hl ⊢
  have hl : lv_has ls 6 [(0, .ref v0), (1, .int v1), (2, .int v2), (3, .int v3), (4, .int v4)] := hl
  exact w_X6_refutesForked ⟨B.exec, B.bytes, B.returns, hml, findClass_of_methodNamed B.named, atoms_spec (ws := wsX6_refutesForked) B.pre, B.notSynchronized, hK⟩ ek h s.heap [] ls hM va_S.rf hl
end S_X6_refutesForked
/-! X6_refutesInChain -/
set_option maxRecDepth 20000 in
theorem q_X6_refutesInChain_0 : Cond.initialized RX9 ∈ wsX6_refutesInChain := by decide +kernel
set_option maxRecDepth 20000 in
theorem q_X6_refutesInChain_1 : Cond.static yX9_has ∈ wsX6_refutesInChain := by decide +kernel
set_option maxRecDepth 20000 in
theorem qi_X6_refutesInChain_X6 : ∀ w ∈ u_ws RX6 TX6 5, w ∈ wsX6_refutesInChain := by decide +kernel
set_option maxRecDepth 20000 in
theorem q_X6_refutesInChain_3 : Cond.fieldLink RX6 28 "StageTruths$SmallModels" "third" "[I" ∈ wsX6_refutesInChain := by decide +kernel
set_option maxRecDepth 20000 in
theorem q_X6_refutesInChain_4 : Cond.fieldLink RX6 25 "StageTruths$SmallModels" "second" "[I" ∈ wsX6_refutesInChain := by decide +kernel
set_option maxRecDepth 20000 in
theorem q_X6_refutesInChain_5 : Cond.fieldLink RX6 22 "StageTruths$SmallModels" "single" "[I" ∈ wsX6_refutesInChain := by decide +kernel
noncomputable def f_X6_refutesInChain_72 (kn : Nat) (k33 : Nat → Int32 → Int32 → Int32 → Int32 → Int32 → mmF → Option (Int32 × mmF))  (v0 : Nat) (v1 : Int32) (v2 : Int32) (v3 : Int32) (v4 : Int32) (v5 : Int32) (f : mmF) : Option (Int32 × mmF) :=
  k33 v0 v1 v2 v3 v4 (v5 + (1 : Int32)) f
noncomputable def f_X6_refutesInChain_33 (kn : Nat)   : Nat → Nat → Int32 → Int32 → Int32 → Int32 → Int32 → mmF → Option (Int32 × mmF)
  | 0, _, _, _, _, _, _, _ => none
  | n + 1, v0, v1, v2, v3, v4, v5, f =>
    if v1 ≤ v5 then
    (some ((0 : Int32), f))
    else
    (f_X9_has v4 v5 f).bind fun q43 =>
    if q43 = 0 then
    (f_X6_refutesInChain_72 kn (fun a0 a1 a2 a3 a4 a5 a6 => f_X6_refutesInChain_33 kn n a0 a1 a2 a3 a4 a5 a6) v0 v1 v2 v3 v4 v5 f)
    else
    (ldR f v0 6 4).bind fun x51 =>
    (ldR f v0 6 3).bind fun x55 =>
    (ckO f v0 6).bind fun _ =>
    (f_X6_refutesBefore kn v0 x51 x55 v5 v5 v2 v3 f).bind fun q64 =>
    if q64.1 = 0 then
    (f_X6_refutesInChain_72 kn (fun a0 a1 a2 a3 a4 a5 a6 => f_X6_refutesInChain_33 kn n a0 a1 a2 a3 a4 a5 a6) v0 v1 v2 v3 v4 v5 q64.2)
    else
    some ((1 : Int32), q64.2)
noncomputable def f_X6_refutesInChain (kn : Nat) (v0 : Nat) (v1 : Int32) (v2 : Int32) (v3 : Int32) (f : mmF) : Option (Int32 × mmF) :=
  (ldR f v0 6 3).bind fun x2 =>
  (ldR f v0 6 2).bind fun x6 =>
  (ckO f v0 6).bind fun _ =>
  (f_X6_fill kn v0 x2 x6 v1 v1 f).bind fun q11 =>
  (f_X6_below kn v1 q11).bind fun q15 =>
  (ldR q11 v0 6 3).bind fun x20 =>
  (ckO q11 v0 6).bind fun _ =>
  (f_X6_supporting v0 x20 v2 q11).bind fun q24 =>
  f_X6_refutesInChain_33 kn FU v0 v1 v2 v3 (q15 &&& q24) (0 : Int32) q11
section S_X6_refutesInChain
variable {p : Program} {l : Launch} {e : Env} {s : State} {m : MethodId} {args : Array Value} {below : List Frame} {meth : Method} {c : Code} {D : mmD} {b0 sz : Nat} {f : mmF}
set_option maxHeartbeats 4000000 in
set_option maxRecDepth 100000 in
theorem w_X6_refutesInChain_72 (C0 : CX cX6_refutesInChain 6 (some .boolean) wsX6_refutesInChain RX6 p s m args meth c D b0) {kn : Nat} (ek : kn = D.2 9) {k33 : Nat → Int32 → Int32 → Int32 → Int32 → Int32 → mmF → Option (Int32 × mmF)} {res : Int32 × mmF} (hk33 : ∀ (v0 : Nat) (v1 : Int32) (v2 : Int32) (v3 : Int32) (v4 : Int32) (v5 : Int32) (f : mmF), k33 v0 v1 v2 v3 v4 v5 f = some res → ∀ (H : Heap) (locs : List Loc) (ls : Array Slot), MM vwCl D b0 f sz s H → mS b0 s H locs → lv_has ls 6 [(0, .ref v0), (1, .int v1), (2, .int v2), (3, .int v3), (4, .int v4), (5, .int v5)] → W p l e ({ frames := 5, cells := 0, slots := 0, locals := 115 } : Room) s m args below meth c H locs 0 0 (MQ below (QW D b0 (some (.int res.1)) res.2 sz) args s 0 0 (fun q => b0 ≤ q)) (F0 m 33 ls [])) : ∀ (v0 : Nat) (v1 : Int32) (v2 : Int32) (v3 : Int32) (v4 : Int32) (v5 : Int32) (f : mmF), f_X6_refutesInChain_72 kn k33 v0 v1 v2 v3 v4 v5 f = some res → ∀ (H : Heap) (locs : List Loc) (ls : Array Slot), MM vwCl D b0 f sz s H → mS b0 s H locs → lv_has ls 6 [(0, .ref v0), (1, .int v1), (2, .int v2), (3, .int v3), (4, .int v4), (5, .int v5)] → W p l e ({ frames := 5, cells := 0, slots := 0, locals := 115 } : Room) s m args below meth c H locs 0 0 (MQ below (QW D b0 (some (.int res.1)) res.2 sz) args s 0 0 (fun q => b0 ≤ q)) (F0 m 72 ls []) := by
  obtain ⟨hx, hb, hr, hml, hown, hts, hlocks, hK⟩ := id C0
  intro v0 v1 v2 v3 v4 v5 f h H locs ls hM hS hl
  unfold f_X6_refutesInChain_72 at h
  refine lv_iinc (v := (v5 + (1 : Int32))) (lv' := [(5, .int (v5 + (1 : Int32))), (0, .ref v0), (1, .int v1), (2, .int v2), (3, .int v3), (4, .int v4)]) hx hb dX6_refutesInChain_72 hl (k := 5) rfl rfl (by decide) rfl (fun ls hl => ?_)
  refine lv_goto (tgt := 33) hx hb dX6_refutesInChain_75 (by decide) ?_
  exact hk33 _ _ _ _ _ _ _ h _ _ _ hM hS (lv_sub hl [1, 2, 3, 4, 5, 0] rfl)
set_option maxHeartbeats 4000000 in
set_option maxRecDepth 100000 in
theorem w_X6_refutesInChain_33 (C0 : CX cX6_refutesInChain 6 (some .boolean) wsX6_refutesInChain RX6 p s m args meth c D b0) {kn : Nat} (ek : kn = D.2 9) {res : Int32 × mmF} : ∀ (n : Nat), ∀ (v0 : Nat) (v1 : Int32) (v2 : Int32) (v3 : Int32) (v4 : Int32) (v5 : Int32) (f : mmF), f_X6_refutesInChain_33 kn n v0 v1 v2 v3 v4 v5 f = some res → ∀ (H : Heap) (locs : List Loc) (ls : Array Slot), MM vwCl D b0 f sz s H → mS b0 s H locs → lv_has ls 6 [(0, .ref v0), (1, .int v1), (2, .int v2), (3, .int v3), (4, .int v4), (5, .int v5)] → W p l e ({ frames := 5, cells := 0, slots := 0, locals := 115 } : Room) s m args below meth c H locs 0 0 (MQ below (QW D b0 (some (.int res.1)) res.2 sz) args s 0 0 (fun q => b0 ≤ q)) (F0 m 33 ls []) := by
  obtain ⟨hx, hb, hr, hml, hown, hts, hlocks, hK⟩ := id C0
  intro n
  induction n with
  | zero =>
    intro v0 v1 v2 v3 v4 v5 f h
    have h : (none : Option (Int32 × mmF)) = some res := h
    cases h
  | succ n ih =>
    intro v0 v1 v2 v3 v4 v5 f h H locs ls hM hS hl
    rw [f_X6_refutesInChain_33] at h
    refine lv_iload hx hb dX6_refutesInChain_33 (lv_at hl 5 rfl) ?_
    refine lv_iload_n hx hb dX6_refutesInChain_35 rfl (lv_at hl 1 rfl) ?_
    refine lv_icmp_ge (tgt := 78) hx hb dX6_refutesInChain_36 (by decide) (fun c36 => ?_) (fun c36 => ?_)
    · replace h := o_t c36 h
      refine lv_iconst (v := (0 : Int32)) hx hb dX6_refutesInChain_78 (by decide) ?_
      replace h := Option.some.inj h; subst h
      exact W.zret hx hb hr rfl (fun t ht hW => ⟨rfl, by rw [ht]; exact hM.moved hW.alike, hS.F ht⟩) hS.2.2 dX6_refutesInChain_79
    replace h := o_f c36 h
    refine lv_iload hx hb dX6_refutesInChain_39 (lv_at hl 4 rfl) ?_
    refine lv_iload hx hb dX6_refutesInChain_41 (lv_at hl 5 rfl) ?_
    replace h := o_b h; obtain ⟨q43, h43, h⟩ := h
    refine m_call (va_runSN (As := [.int v4, .int v5]) (rest := []) ⟨hx, hb, hml, hown, hts⟩ (c_X9_has l D b0 sz h43) ⟨(va_cnB 2 hts gX6_refutesInChain_X9_has_n48 rfl rfl rfl (hK.2.1 (RX6, 48, yX9_has, "StageTruths") (by decide)) (hts _ q_X6_refutesInChain_0) (by decide +kernel) ⟨Nat.le_of_ble_eq_true rfl, Nat.le_of_ble_eq_true rfl⟩), (hts _ q_X6_refutesInChain_1), trivial⟩ ⟨PW.blind, (fun U hU hW => ⟨rfl, PW.call hK hM hS hU hW⟩)⟩ rfl rfl hl.1 rfl (lv_room (Nat.le_of_ble_eq_true rfl)) dX6_refutesInChain_43 ⟨(Nat.le_refl _), (Nat.le_refl _)⟩) hS (fun H locs hM hS => ?_)
    refine lv_if_eq (tgt := 72) hx hb dX6_refutesInChain_46 (by decide) (fun c46 => ?_) (fun c46 => ?_)
    · replace h := o_t c46 h
      exact w_X6_refutesInChain_72 C0 ek ih _ _ _ _ _ _ _ h _ _ _ hM hS (lv_sub hl [0, 1, 2, 3, 4, 5] rfl)
    replace h := o_f c46 h
    refine lv_aload_n hx hb dX6_refutesInChain_49 rfl (lv_at hl 0 rfl) ?_
    refine lv_aload_n hx hb dX6_refutesInChain_50 rfl (lv_at hl 0 rfl) ?_
    replace h := o_b h; obtain ⟨x51, h51, h⟩ := h
    refine m_get (C := RX6) (T := TX6) (N := 5) (ci := 6) hx hb hts qi_X6_refutesInChain_X6 hown hK.1 hM 4 (ldR_F h51) rfl (by decide) (hts _ q_X6_refutesInChain_3) (fun _ h9 => h9) dX6_refutesInChain_51 ?_
    refine lv_aload_n hx hb dX6_refutesInChain_54 rfl (lv_at hl 0 rfl) ?_
    replace h := o_b h; obtain ⟨x55, h55, h⟩ := h
    refine m_get (C := RX6) (T := TX6) (N := 5) (ci := 6) hx hb hts qi_X6_refutesInChain_X6 hown hK.1 hM 3 (ldR_F h55) rfl (by decide) (hts _ q_X6_refutesInChain_4) (fun _ h9 => h9) dX6_refutesInChain_55 ?_
    refine lv_iload hx hb dX6_refutesInChain_58 (lv_at hl 5 rfl) ?_
    refine lv_iload hx hb dX6_refutesInChain_60 (lv_at hl 5 rfl) ?_
    refine lv_iload_n hx hb dX6_refutesInChain_62 rfl (lv_at hl 2 rfl) ?_
    refine lv_iload_n hx hb dX6_refutesInChain_63 rfl (lv_at hl 3 rfl) ?_
    replace h := o_b h; obtain ⟨_, k64, h⟩ := h
    replace h := o_b h; obtain ⟨q64, h64, h⟩ := h
    refine m_call (va_runV (As := [.ref x51, .ref x55, .int v5, .int v5, .int v2, .int v3]) (rest := []) ⟨hx, hb, hml, hown, hts⟩ (c_X6_refutesBefore l D b0 sz ek h64) (cwV 6 hts gX6_refutesInChain_X6_refutesBefore rfl rfl rfl (by decide +kernel) ⟨Nat.le_of_ble_eq_true rfl, Nat.le_of_ble_eq_true rfl⟩) ⟨PW.blind, m_recv (ci := 6) rfl hK hM k64, (fun U hU hW => ⟨rfl, PW.call hK hM hS hU hW⟩)⟩ rfl rfl hl.1 rfl (lv_room (Nat.le_of_ble_eq_true rfl)) dX6_refutesInChain_64 ⟨(Nat.le_refl _), (Nat.le_refl _)⟩) hS (fun H locs hM hS => ?_)
    refine lv_if_eq (tgt := 72) hx hb dX6_refutesInChain_67 (by decide) (fun c67 => ?_) (fun c67 => ?_)
    · replace h := o_t c67 h
      exact w_X6_refutesInChain_72 C0 ek ih _ _ _ _ _ _ _ h _ _ _ hM hS (lv_sub hl [0, 1, 2, 3, 4, 5] rfl)
    replace h := o_f c67 h
    refine lv_iconst (v := (1 : Int32)) hx hb dX6_refutesInChain_70 (by decide) ?_
    replace h := Option.some.inj h; subst h
    exact W.zret hx hb hr rfl (fun t ht hW => ⟨rfl, by rw [ht]; exact hM.moved hW.alike, hS.F ht⟩) hS.2.2 dX6_refutesInChain_71
set_option maxHeartbeats 4000000 in
set_option maxRecDepth 100000 in
theorem w_X6_refutesInChain (C0 : CX cX6_refutesInChain 6 (some .boolean) wsX6_refutesInChain RX6 p s m args meth c D b0) {v0 : Nat} {v1 : Int32} {v2 : Int32} {v3 : Int32} {kn : Nat} (ek : kn = D.2 9) {res : Int32 × mmF} (h : f_X6_refutesInChain kn v0 v1 v2 v3 f = some res) : ∀ (H : Heap) (locs : List Loc) (ls : Array Slot), MM vwCl D b0 f sz s H → mS b0 s H locs → lv_has ls 6 [(0, .ref v0), (1, .int v1), (2, .int v2), (3, .int v3)] → W p l e ({ frames := 5, cells := 0, slots := 0, locals := 115 } : Room) s m args below meth c H locs 0 0 (MQ below (QW D b0 (some (.int res.1)) res.2 sz) args s 0 0 (fun q => b0 ≤ q)) (F0 m 0 ls []) := by
  obtain ⟨hx, hb, hr, hml, hown, hts, hlocks, hK⟩ := id C0
  intro H locs ls hM hS hl
  unfold f_X6_refutesInChain at h
  refine lv_aload_n hx hb dX6_refutesInChain_0 rfl (lv_at hl 0 rfl) ?_
  refine lv_aload_n hx hb dX6_refutesInChain_1 rfl (lv_at hl 0 rfl) ?_
  replace h := o_b h; obtain ⟨x2, h2, h⟩ := h
  refine m_get (C := RX6) (T := TX6) (N := 5) (ci := 6) hx hb hts qi_X6_refutesInChain_X6 hown hK.1 hM 3 (ldR_F h2) rfl (by decide) (hts _ q_X6_refutesInChain_4) (fun _ h9 => h9) dX6_refutesInChain_2 ?_
  refine lv_aload_n hx hb dX6_refutesInChain_5 rfl (lv_at hl 0 rfl) ?_
  replace h := o_b h; obtain ⟨x6, h6, h⟩ := h
  refine m_get (C := RX6) (T := TX6) (N := 5) (ci := 6) hx hb hts qi_X6_refutesInChain_X6 hown hK.1 hM 2 (ldR_F h6) rfl (by decide) (hts _ q_X6_refutesInChain_5) (fun _ h9 => h9) dX6_refutesInChain_6 ?_
  refine lv_iload_n hx hb dX6_refutesInChain_9 rfl (lv_at hl 1 rfl) ?_
  refine lv_iload_n hx hb dX6_refutesInChain_10 rfl (lv_at hl 1 rfl) ?_
  replace h := o_b h; obtain ⟨_, k11, h⟩ := h
  replace h := o_b h; obtain ⟨q11, h11, h⟩ := h
  refine m_call (va_runV (As := [.ref x2, .ref x6, .int v1, .int v1]) (rest := []) ⟨hx, hb, hml, hown, hts⟩ (c_X6_fill l D b0 sz ek h11) (cwV 4 hts gX6_refutesInChain_X6_fill rfl rfl rfl (by decide +kernel) ⟨Nat.le_of_ble_eq_true rfl, Nat.le_of_ble_eq_true rfl⟩) ⟨PW.blind, m_recv (ci := 6) rfl hK hM k11, (fun U hU hW => ⟨rfl, PW.call hK hM hS hU hW⟩)⟩ rfl rfl hl.1 rfl (lv_room (Nat.le_of_ble_eq_true rfl)) dX6_refutesInChain_11 ⟨(Nat.le_refl _), (Nat.le_refl _)⟩) hS (fun H locs hM hS => ?_)
  refine lv_iload_n hx hb dX6_refutesInChain_14 rfl (lv_at hl 1 rfl) ?_
  replace h := o_b h; obtain ⟨q15, h15, h⟩ := h
  refine m_call (va_runS (As := [.int v1]) (rest := []) ⟨hx, hb, hml, hown, hts⟩ (c_X6_below l D b0 sz ek h15) (va_cwS 1 hts gX6_refutesInChain_X6_below rfl rfl rfl (by decide +kernel) ⟨Nat.le_of_ble_eq_true rfl, Nat.le_of_ble_eq_true rfl⟩) ⟨PW.blind, (fun U hU hW => ⟨rfl, PW.call hK hM hS hU hW⟩)⟩ rfl rfl hl.1 rfl (lv_room (Nat.le_of_ble_eq_true rfl)) dX6_refutesInChain_15 ⟨(Nat.le_refl _), (Nat.le_refl _)⟩) hS (fun H locs hM hS => ?_)
  refine lv_aload_n hx hb dX6_refutesInChain_18 rfl (lv_at hl 0 rfl) ?_
  refine lv_aload_n hx hb dX6_refutesInChain_19 rfl (lv_at hl 0 rfl) ?_
  replace h := o_b h; obtain ⟨x20, h20, h⟩ := h
  refine m_get (C := RX6) (T := TX6) (N := 5) (ci := 6) hx hb hts qi_X6_refutesInChain_X6 hown hK.1 hM 3 (ldR_F h20) rfl (by decide) (hts _ q_X6_refutesInChain_4) (fun _ h9 => h9) dX6_refutesInChain_20 ?_
  refine lv_iload_n hx hb dX6_refutesInChain_23 rfl (lv_at hl 2 rfl) ?_
  replace h := o_b h; obtain ⟨_, k24, h⟩ := h
  replace h := o_b h; obtain ⟨q24, h24, h⟩ := h
  refine m_call (va_runV (As := [.ref x20, .int v2]) (rest := [.int q15]) ⟨hx, hb, hml, hown, hts⟩ (c_X6_supporting l D b0 sz h24) (cwV 2 hts gX6_refutesInChain_X6_supporting rfl rfl rfl (by decide +kernel) ⟨Nat.le_of_ble_eq_true rfl, Nat.le_of_ble_eq_true rfl⟩) ⟨PW.blind, m_recv (ci := 6) rfl hK hM k24, (fun U hU hW => ⟨rfl, PW.call hK hM hS hU hW⟩)⟩ rfl rfl hl.1 rfl (lv_room (Nat.le_of_ble_eq_true rfl)) dX6_refutesInChain_24 ⟨(Nat.le_refl _), (Nat.le_refl _)⟩) hS (fun H locs hM hS => ?_)
  refine lv_iand hx hb dX6_refutesInChain_27 ?_
  refine lv_istore (lv' := [(4, .int (q15 &&& q24)), (0, .ref v0), (1, .int v1), (2, .int v2), (3, .int v3)]) hx hb dX6_refutesInChain_28 hl (by decide) rfl (fun ls hl => ?_)
  refine lv_iconst (v := (0 : Int32)) hx hb dX6_refutesInChain_30 (by decide) ?_
  refine lv_istore (lv' := [(5, .int (0 : Int32)), (4, .int (q15 &&& q24)), (0, .ref v0), (1, .int v1), (2, .int v2), (3, .int v3)]) hx hb dX6_refutesInChain_31 hl (by decide) rfl (fun ls hl => ?_)
  exact w_X6_refutesInChain_33 C0 ek FU _ _ _ _ _ _ _ h _ _ _ hM hS (lv_sub hl [2, 3, 4, 5, 1, 0] rfl)
set_option maxHeartbeats 4000000 in
set_option maxRecDepth 100000 in
theorem c_X6_refutesInChain (l : Launch) (D : mmD) (b0 sz : Nat) {kn : Nat} (ek : kn = D.2 9) {v0 : Nat} {v1 : Int32} {v2 : Int32} {v3 : Int32} {f : mmF} {res : Int32 × mmF} (h : f_X6_refutesInChain kn v0 v1 v2 v3 f = some res) : Met l yX6_refutesInChain wsX6_refutesInChain ({ frames := 5, cells := 0, slots := 0, locals := 115 } : Room) (va_Pc [.ref v0, .int v1, .int v2, .int v3] (PW D b0 f sz)) (QW D b0 (some (.int res.1)) res.2 sz) 0 0 (fun q => b0 ≤ q) := by
  refine Met.ofW (cc := cX6_refutesInChain) (maxL := 6) (ret := (some .boolean)) (by decide) rfl ?_
  intro p e s m args below meth c s₁ B hml hv
  obtain ⟨rfl, hM, hK⟩ := hv
  have hl := lv_entry ([.ref v0, .int v1, .int v2, .int v3]) (n := 6) (Nat.le_of_ble_eq_true rfl)
  rw [lg_entry_eq]
  generalize (lg_sl ([.ref v0, .int v1, .int v2, .int v3]) ++ List.replicate (6 - (lg_sl ([.ref v0, .int v1, .int v2, .int v3])).length) Slot.unset).toArray = ls at hl ⊢
  have hl : lv_has ls 6 [(0, .ref v0), (1, .int v1), (2, .int v2), (3, .int v3)] := hl
  exact w_X6_refutesInChain ⟨B.exec, B.bytes, B.returns, hml, findClass_of_methodNamed B.named, atoms_spec (ws := wsX6_refutesInChain) B.pre, B.notSynchronized, hK⟩ ek h s.heap [] ls hM va_S.rf hl
end S_X6_refutesInChain
/-! X6_refutesWithThree -/
set_option maxRecDepth 20000 in
theorem q_X6_refutesWithThree_0 : Cond.initialized RX9 ∈ wsX6_refutesWithThree := by decide +kernel
set_option maxRecDepth 20000 in
theorem q_X6_refutesWithThree_1 : Cond.static yX9_has ∈ wsX6_refutesWithThree := by decide +kernel
noncomputable def f_X6_refutesWithThree_50 (kn : Nat) (k9 : Nat → Int32 → Int32 → Int32 → Int32 → mmF → Option (Int32 × mmF))  (v0 : Nat) (v1 : Int32) (v2 : Int32) (v3 : Int32) (v4 : Int32) (f : mmF) : Option (Int32 × mmF) :=
  k9 v0 v1 v2 v3 (v4 + (1 : Int32)) f
noncomputable def f_X6_refutesWithThree_9 (kn : Nat)   : Nat → Nat → Int32 → Int32 → Int32 → Int32 → mmF → Option (Int32 × mmF)
  | 0, _, _, _, _, _, _ => none
  | n + 1, v0, v1, v2, v3, v4, f =>
    if (16 : Int32) ≤ v4 then
    (some ((0 : Int32), f))
    else
    (f_X9_has v3 v4 f).bind fun q19 =>
    if q19 = 0 then
    (f_X6_refutesWithThree_50 kn (fun a0 a1 a2 a3 a4 a5 => f_X6_refutesWithThree_9 kn n a0 a1 a2 a3 a4 a5) v0 v1 v2 v3 v4 f)
    else
    (ckO f v0 6).bind fun _ =>
    (f_X6_refutesForked kn v0 v4 v3 v1 v2 f).bind fun q31 =>
    if q31.1 = 0 then
    ((ckO q31.2 v0 6).bind fun _ =>
    (f_X6_refutesInChain kn v0 v4 v1 v2 q31.2).bind fun q42 =>
    if q42.1 = 0 then
    (f_X6_refutesWithThree_50 kn (fun a0 a1 a2 a3 a4 a5 => f_X6_refutesWithThree_9 kn n a0 a1 a2 a3 a4 a5) v0 v1 v2 v3 v4 q42.2)
    else
    some ((1 : Int32), q42.2))
    else
    some ((1 : Int32), q31.2)
noncomputable def f_X6_refutesWithThree (kn : Nat) (v0 : Nat) (v1 : Int32) (v2 : Int32) (f : mmF) : Option (Int32 × mmF) :=
  (ckO f v0 6).bind fun _ =>
  (f_X6_usefulLast kn v0 v1 f).bind fun q2 =>
  f_X6_refutesWithThree_9 kn FU v0 v1 v2 q2 (0 : Int32) f
section S_X6_refutesWithThree
variable {p : Program} {l : Launch} {e : Env} {s : State} {m : MethodId} {args : Array Value} {below : List Frame} {meth : Method} {c : Code} {D : mmD} {b0 sz : Nat} {f : mmF}
set_option maxHeartbeats 4000000 in
set_option maxRecDepth 100000 in
theorem w_X6_refutesWithThree_50 (C0 : CX cX6_refutesWithThree 5 (some .boolean) wsX6_refutesWithThree RX6 p s m args meth c D b0) {kn : Nat} (ek : kn = D.2 9) {k9 : Nat → Int32 → Int32 → Int32 → Int32 → mmF → Option (Int32 × mmF)} {res : Int32 × mmF} (hk9 : ∀ (v0 : Nat) (v1 : Int32) (v2 : Int32) (v3 : Int32) (v4 : Int32) (f : mmF), k9 v0 v1 v2 v3 v4 f = some res → ∀ (H : Heap) (locs : List Loc) (ls : Array Slot), MM vwCl D b0 f sz s H → mS b0 s H locs → lv_has ls 5 [(0, .ref v0), (1, .int v1), (2, .int v2), (3, .int v3), (4, .int v4)] → W p l e ({ frames := 6, cells := 0, slots := 0, locals := 140 } : Room) s m args below meth c H locs 0 0 (MQ below (QW D b0 (some (.int res.1)) res.2 sz) args s 0 0 (fun q => b0 ≤ q)) (F0 m 9 ls [])) : ∀ (v0 : Nat) (v1 : Int32) (v2 : Int32) (v3 : Int32) (v4 : Int32) (f : mmF), f_X6_refutesWithThree_50 kn k9 v0 v1 v2 v3 v4 f = some res → ∀ (H : Heap) (locs : List Loc) (ls : Array Slot), MM vwCl D b0 f sz s H → mS b0 s H locs → lv_has ls 5 [(0, .ref v0), (1, .int v1), (2, .int v2), (3, .int v3), (4, .int v4)] → W p l e ({ frames := 6, cells := 0, slots := 0, locals := 140 } : Room) s m args below meth c H locs 0 0 (MQ below (QW D b0 (some (.int res.1)) res.2 sz) args s 0 0 (fun q => b0 ≤ q)) (F0 m 50 ls []) := by
  obtain ⟨hx, hb, hr, hml, hown, hts, hlocks, hK⟩ := id C0
  intro v0 v1 v2 v3 v4 f h H locs ls hM hS hl
  unfold f_X6_refutesWithThree_50 at h
  refine lv_iinc (v := (v4 + (1 : Int32))) (lv' := [(4, .int (v4 + (1 : Int32))), (0, .ref v0), (1, .int v1), (2, .int v2), (3, .int v3)]) hx hb dX6_refutesWithThree_50 hl (k := 4) rfl rfl (by decide) rfl (fun ls hl => ?_)
  refine lv_goto (tgt := 9) hx hb dX6_refutesWithThree_53 (by decide) ?_
  exact hk9 _ _ _ _ _ _ h _ _ _ hM hS (lv_sub hl [1, 2, 3, 4, 0] rfl)
set_option maxHeartbeats 4000000 in
set_option maxRecDepth 100000 in
theorem w_X6_refutesWithThree_9 (C0 : CX cX6_refutesWithThree 5 (some .boolean) wsX6_refutesWithThree RX6 p s m args meth c D b0) {kn : Nat} (ek : kn = D.2 9) {res : Int32 × mmF} : ∀ (n : Nat), ∀ (v0 : Nat) (v1 : Int32) (v2 : Int32) (v3 : Int32) (v4 : Int32) (f : mmF), f_X6_refutesWithThree_9 kn n v0 v1 v2 v3 v4 f = some res → ∀ (H : Heap) (locs : List Loc) (ls : Array Slot), MM vwCl D b0 f sz s H → mS b0 s H locs → lv_has ls 5 [(0, .ref v0), (1, .int v1), (2, .int v2), (3, .int v3), (4, .int v4)] → W p l e ({ frames := 6, cells := 0, slots := 0, locals := 140 } : Room) s m args below meth c H locs 0 0 (MQ below (QW D b0 (some (.int res.1)) res.2 sz) args s 0 0 (fun q => b0 ≤ q)) (F0 m 9 ls []) := by
  obtain ⟨hx, hb, hr, hml, hown, hts, hlocks, hK⟩ := id C0
  intro n
  induction n with
  | zero =>
    intro v0 v1 v2 v3 v4 f h
    have h : (none : Option (Int32 × mmF)) = some res := h
    cases h
  | succ n ih =>
    intro v0 v1 v2 v3 v4 f h H locs ls hM hS hl
    rw [f_X6_refutesWithThree_9] at h
    refine lv_iload hx hb dX6_refutesWithThree_9 (lv_at hl 4 rfl) ?_
    refine lv_bipush (v := (16 : Int32)) hx hb dX6_refutesWithThree_11 (by decide) ?_
    refine lv_icmp_ge (tgt := 56) hx hb dX6_refutesWithThree_13 (by decide) (fun c13 => ?_) (fun c13 => ?_)
    · replace h := o_t c13 h
      refine lv_iconst (v := (0 : Int32)) hx hb dX6_refutesWithThree_56 (by decide) ?_
      replace h := Option.some.inj h; subst h
      exact W.zret hx hb hr rfl (fun t ht hW => ⟨rfl, by rw [ht]; exact hM.moved hW.alike, hS.F ht⟩) hS.2.2 dX6_refutesWithThree_57
    replace h := o_f c13 h
    refine lv_iload_n hx hb dX6_refutesWithThree_16 rfl (lv_at hl 3 rfl) ?_
    refine lv_iload hx hb dX6_refutesWithThree_17 (lv_at hl 4 rfl) ?_
    replace h := o_b h; obtain ⟨q19, h19, h⟩ := h
    refine m_call (va_runSN (As := [.int v3, .int v4]) (rest := []) ⟨hx, hb, hml, hown, hts⟩ (c_X9_has l D b0 sz h19) ⟨(va_cnB 2 hts gX6_refutesWithThree_X9_has_n48 rfl rfl rfl (hK.2.1 (RX6, 48, yX9_has, "StageTruths") (by decide)) (hts _ q_X6_refutesWithThree_0) (by decide +kernel) ⟨Nat.le_of_ble_eq_true rfl, Nat.le_of_ble_eq_true rfl⟩), (hts _ q_X6_refutesWithThree_1), trivial⟩ ⟨PW.blind, (fun U hU hW => ⟨rfl, PW.call hK hM hS hU hW⟩)⟩ rfl rfl hl.1 rfl (lv_room (Nat.le_of_ble_eq_true rfl)) dX6_refutesWithThree_19 ⟨(Nat.le_refl _), (Nat.le_refl _)⟩) hS (fun H locs hM hS => ?_)
    refine lv_if_eq (tgt := 50) hx hb dX6_refutesWithThree_22 (by decide) (fun c22 => ?_) (fun c22 => ?_)
    · replace h := o_t c22 h
      exact w_X6_refutesWithThree_50 C0 ek ih _ _ _ _ _ _ h _ _ _ hM hS (lv_sub hl [0, 1, 2, 3, 4] rfl)
    replace h := o_f c22 h
    refine lv_aload_n hx hb dX6_refutesWithThree_25 rfl (lv_at hl 0 rfl) ?_
    refine lv_iload hx hb dX6_refutesWithThree_26 (lv_at hl 4 rfl) ?_
    refine lv_iload_n hx hb dX6_refutesWithThree_28 rfl (lv_at hl 3 rfl) ?_
    refine lv_iload_n hx hb dX6_refutesWithThree_29 rfl (lv_at hl 1 rfl) ?_
    refine lv_iload_n hx hb dX6_refutesWithThree_30 rfl (lv_at hl 2 rfl) ?_
    replace h := o_b h; obtain ⟨_, k31, h⟩ := h
    replace h := o_b h; obtain ⟨q31, h31, h⟩ := h
    refine m_call (va_runV (As := [.int v4, .int v3, .int v1, .int v2]) (rest := []) ⟨hx, hb, hml, hown, hts⟩ (c_X6_refutesForked l D b0 sz ek h31) (cwV 4 hts gX6_refutesWithThree_X6_refutesForked rfl rfl rfl (by decide +kernel) ⟨Nat.le_of_ble_eq_true rfl, Nat.le_of_ble_eq_true rfl⟩) ⟨PW.blind, m_recv (ci := 6) rfl hK hM k31, (fun U hU hW => ⟨rfl, PW.call hK hM hS hU hW⟩)⟩ rfl rfl hl.1 rfl (lv_room (Nat.le_of_ble_eq_true rfl)) dX6_refutesWithThree_31 ⟨(Nat.le_refl _), (Nat.le_refl _)⟩) hS (fun H locs hM hS => ?_)
    refine lv_if_ne (tgt := 48) hx hb dX6_refutesWithThree_34 (by decide) (fun c34 => ?_) (fun c34 => ?_)
    · replace h := o_f c34 h
      refine lv_iconst (v := (1 : Int32)) hx hb dX6_refutesWithThree_48 (by decide) ?_
      replace h := Option.some.inj h; subst h
      exact W.zret hx hb hr rfl (fun t ht hW => ⟨rfl, by rw [ht]; exact hM.moved hW.alike, hS.F ht⟩) hS.2.2 dX6_refutesWithThree_49
    replace h := o_t c34 h
    refine lv_aload_n hx hb dX6_refutesWithThree_37 rfl (lv_at hl 0 rfl) ?_
    refine lv_iload hx hb dX6_refutesWithThree_38 (lv_at hl 4 rfl) ?_
    refine lv_iload_n hx hb dX6_refutesWithThree_40 rfl (lv_at hl 1 rfl) ?_
    refine lv_iload_n hx hb dX6_refutesWithThree_41 rfl (lv_at hl 2 rfl) ?_
    replace h := o_b h; obtain ⟨_, k42, h⟩ := h
    replace h := o_b h; obtain ⟨q42, h42, h⟩ := h
    refine m_call (va_runV (As := [.int v4, .int v1, .int v2]) (rest := []) ⟨hx, hb, hml, hown, hts⟩ (c_X6_refutesInChain l D b0 sz ek h42) (cwV 3 hts gX6_refutesWithThree_X6_refutesInChain rfl rfl rfl (by decide +kernel) ⟨Nat.le_of_ble_eq_true rfl, Nat.le_of_ble_eq_true rfl⟩) ⟨PW.blind, m_recv (ci := 6) rfl hK hM k42, (fun U hU hW => ⟨rfl, PW.call hK hM hS hU hW⟩)⟩ rfl rfl hl.1 rfl (lv_room (Nat.le_of_ble_eq_true rfl)) dX6_refutesWithThree_42 ⟨(Nat.le_refl _), (Nat.le_refl _)⟩) hS (fun H locs hM hS => ?_)
    refine lv_if_eq (tgt := 50) hx hb dX6_refutesWithThree_45 (by decide) (fun c45 => ?_) (fun c45 => ?_)
    · replace h := o_t c45 h
      exact w_X6_refutesWithThree_50 C0 ek ih _ _ _ _ _ _ h _ _ _ hM hS (lv_sub hl [0, 1, 2, 3, 4] rfl)
    replace h := o_f c45 h
    refine lv_iconst (v := (1 : Int32)) hx hb dX6_refutesWithThree_48 (by decide) ?_
    replace h := Option.some.inj h; subst h
    exact W.zret hx hb hr rfl (fun t ht hW => ⟨rfl, by rw [ht]; exact hM.moved hW.alike, hS.F ht⟩) hS.2.2 dX6_refutesWithThree_49
set_option maxHeartbeats 4000000 in
set_option maxRecDepth 100000 in
theorem w_X6_refutesWithThree (C0 : CX cX6_refutesWithThree 5 (some .boolean) wsX6_refutesWithThree RX6 p s m args meth c D b0) {v0 : Nat} {v1 : Int32} {v2 : Int32} {kn : Nat} (ek : kn = D.2 9) {res : Int32 × mmF} (h : f_X6_refutesWithThree kn v0 v1 v2 f = some res) : ∀ (H : Heap) (locs : List Loc) (ls : Array Slot), MM vwCl D b0 f sz s H → mS b0 s H locs → lv_has ls 5 [(0, .ref v0), (1, .int v1), (2, .int v2)] → W p l e ({ frames := 6, cells := 0, slots := 0, locals := 140 } : Room) s m args below meth c H locs 0 0 (MQ below (QW D b0 (some (.int res.1)) res.2 sz) args s 0 0 (fun q => b0 ≤ q)) (F0 m 0 ls []) := by
  obtain ⟨hx, hb, hr, hml, hown, hts, hlocks, hK⟩ := id C0
  intro H locs ls hM hS hl
  unfold f_X6_refutesWithThree at h
  refine lv_aload_n hx hb dX6_refutesWithThree_0 rfl (lv_at hl 0 rfl) ?_
  refine lv_iload_n hx hb dX6_refutesWithThree_1 rfl (lv_at hl 1 rfl) ?_
  replace h := o_b h; obtain ⟨_, k2, h⟩ := h
  replace h := o_b h; obtain ⟨q2, h2, h⟩ := h
  refine m_call (va_runV (As := [.int v1]) (rest := []) ⟨hx, hb, hml, hown, hts⟩ (c_X6_usefulLast l D b0 sz ek h2) (cwV 1 hts gX6_refutesWithThree_X6_usefulLast rfl rfl rfl (by decide +kernel) ⟨Nat.le_of_ble_eq_true rfl, Nat.le_of_ble_eq_true rfl⟩) ⟨PW.blind, m_recv (ci := 6) rfl hK hM k2, (fun U hU hW => ⟨rfl, PW.call hK hM hS hU hW⟩)⟩ rfl rfl hl.1 rfl (lv_room (Nat.le_of_ble_eq_true rfl)) dX6_refutesWithThree_2 ⟨(Nat.le_refl _), (Nat.le_refl _)⟩) hS (fun H locs hM hS => ?_)
  refine lv_istore_n (lv' := [(3, .int q2), (0, .ref v0), (1, .int v1), (2, .int v2)]) hx hb dX6_refutesWithThree_5 rfl hl (by decide) rfl (fun ls hl => ?_)
  refine lv_iconst (v := (0 : Int32)) hx hb dX6_refutesWithThree_6 (by decide) ?_
  refine lv_istore (lv' := [(4, .int (0 : Int32)), (3, .int q2), (0, .ref v0), (1, .int v1), (2, .int v2)]) hx hb dX6_refutesWithThree_7 hl (by decide) rfl (fun ls hl => ?_)
  exact w_X6_refutesWithThree_9 C0 ek FU _ _ _ _ _ _ h _ _ _ hM hS (lv_sub hl [2, 3, 4, 1, 0] rfl)
set_option maxHeartbeats 4000000 in
set_option maxRecDepth 100000 in
theorem c_X6_refutesWithThree (l : Launch) (D : mmD) (b0 sz : Nat) {kn : Nat} (ek : kn = D.2 9) {v0 : Nat} {v1 : Int32} {v2 : Int32} {f : mmF} {res : Int32 × mmF} (h : f_X6_refutesWithThree kn v0 v1 v2 f = some res) : Met l yX6_refutesWithThree wsX6_refutesWithThree ({ frames := 6, cells := 0, slots := 0, locals := 140 } : Room) (va_Pc [.ref v0, .int v1, .int v2] (PW D b0 f sz)) (QW D b0 (some (.int res.1)) res.2 sz) 0 0 (fun q => b0 ≤ q) := by
  refine Met.ofW (cc := cX6_refutesWithThree) (maxL := 5) (ret := (some .boolean)) (by decide) rfl ?_
  intro p e s m args below meth c s₁ B hml hv
  obtain ⟨rfl, hM, hK⟩ := hv
  have hl := lv_entry ([.ref v0, .int v1, .int v2]) (n := 5) (Nat.le_of_ble_eq_true rfl)
  rw [lg_entry_eq]
  generalize (lg_sl ([.ref v0, .int v1, .int v2]) ++ List.replicate (5 - (lg_sl ([.ref v0, .int v1, .int v2])).length) Slot.unset).toArray = ls at hl ⊢
  have hl : lv_has ls 5 [(0, .ref v0), (1, .int v1), (2, .int v2)] := hl
  exact w_X6_refutesWithThree ⟨B.exec, B.bytes, B.returns, hml, findClass_of_methodNamed B.named, atoms_spec (ws := wsX6_refutesWithThree) B.pre, B.notSynchronized, hK⟩ ek h s.heap [] ls hM va_S.rf hl
end S_X6_refutesWithThree
/-! X7_init -/
set_option maxRecDepth 20000 in
theorem q_X7_init_0 : Cond.methodLink RX7 3 objectInit ∈ wsX7_init := by decide +kernel
set_option maxRecDepth 20000 in
theorem q_X7_init_1 : Cond.instanceMethod objectInit ∈ wsX7_init := by decide +kernel
set_option maxRecDepth 20000 in
theorem q_X7_init_2 : Cond.code objectInit ⟨#[0xb1]⟩ 1 none ∈ wsX7_init := by decide +kernel
set_option maxRecDepth 20000 in
theorem qi_X7_init_X7 : ∀ w ∈ u_ws RX7 TX7 7, w ∈ wsX7_init := by decide +kernel
set_option maxRecDepth 20000 in
theorem q_X7_init_4 : Cond.fieldLink RX7 9 "StageTruths$State" "stages" "I" ∈ wsX7_init := by decide +kernel
set_option maxRecDepth 20000 in
theorem q_X7_init_5 : Cond.arrayClass .int ∈ wsX7_init := by decide +kernel
set_option maxRecDepth 20000 in
theorem q_X7_init_6 : Cond.fieldLink RX7 15 "StageTruths$State" "later" "[I" ∈ wsX7_init := by decide +kernel
set_option maxRecDepth 20000 in
theorem q_X7_init_7 : Cond.fieldLink RX7 19 "StageTruths$State" "facts" "[I" ∈ wsX7_init := by decide +kernel
set_option maxRecDepth 20000 in
theorem q_X7_init_8 : Cond.classLink RX7 22 RX0 ∈ wsX7_init := by decide +kernel
set_option maxRecDepth 20000 in
theorem q_X7_init_9 : Cond.fieldLink RX7 24 "StageTruths$State" "shelf" "[LStageTruths$Claim;" ∈ wsX7_init := by decide +kernel
set_option maxRecDepth 20000 in
theorem q_X7_init_10 : Cond.fieldLink RX7 28 "StageTruths$State" "like" "[I" ∈ wsX7_init := by decide +kernel
set_option maxRecDepth 20000 in
theorem q_X7_init_11 : Cond.fieldLink RX7 31 "StageTruths$State" "seen" "[I" ∈ wsX7_init := by decide +kernel
set_option maxRecDepth 20000 in
theorem q_X7_init_12 : Cond.fieldLink RX7 36 "StageTruths$State" "values" "[I" ∈ wsX7_init := by decide +kernel
noncomputable def f_X7_init (v0 : Nat) (f : mmF) (sz : Nat) : Option (mmF × Nat) :=
  (stF f v0 7 0 (.int (1 : Int32))).bind fun f6 =>
  (some (va_up f6 sz (some (.inl (0, 8, .inl (fun _ => 0)))))).bind fun f12 =>
  (stF f12 v0 7 1 (.ref sz)).bind fun f14 =>
  (some (va_up f14 (sz + 1) (some (.inl (0, 8, .inl (fun _ => 0)))))).bind fun f20 =>
  (stF f20 v0 7 2 (.ref (sz + 1))).bind fun f22 =>
  (some (va_up f22 ((sz + 1) + 1) (some (.inl (3, 5, .inr (.inr (.inr (.inr (fun _ => none))))))))).bind fun f27 =>
  (stF f27 v0 7 3 (.ref ((sz + 1) + 1))).bind fun f30 =>
  (some (va_up f30 (((sz + 1) + 1) + 1) (some (.inl (0, 8, .inl (fun _ => 0)))))).bind fun f36 =>
  (stF f36 v0 7 4 (.ref (((sz + 1) + 1) + 1))).bind fun f38 =>
  (some (va_up f38 ((((sz + 1) + 1) + 1) + 1) (some (.inl (0, 8, .inl (fun _ => 0)))))).bind fun f44 =>
  (stF f44 v0 7 5 (.ref ((((sz + 1) + 1) + 1) + 1))).bind fun f46 =>
  (some (va_up f46 (((((sz + 1) + 1) + 1) + 1) + 1) (some (.inl (0, 151, .inl (fun _ => 0)))))).bind fun f53 =>
  (stF f53 v0 7 6 (.ref (((((sz + 1) + 1) + 1) + 1) + 1))).bind fun f55 =>
  (ldR f55 v0 7 1).bind fun x59 =>
  (stA 0 f55 x59 (0 : Int32) (1 : Int32)).bind fun f64 =>
  some (f64, ((((((sz + 1) + 1) + 1) + 1) + 1) + 1))
section S_X7_init
variable {p : Program} {l : Launch} {e : Env} {s : State} {m : MethodId} {args : Array Value} {below : List Frame} {meth : Method} {c : Code} {D : mmD} {b0 sz : Nat} {f : mmF}
set_option maxHeartbeats 4000000 in
set_option maxRecDepth 100000 in
theorem w_X7_init (C0 : CX cX7_init 1 none wsX7_init RX7 p s m args meth c D b0) (hin : meth.name = "<init>") {v0 : Nat} {res : mmF × Nat} (h : f_X7_init v0 f sz = some res) : ∀ (H : Heap) (locs : List Loc) (ls : Array Slot), MM vwCl D b0 f sz s H → mS b0 s H locs → lv_has ls 1 [(0, .ref v0)] → W p l e ({ frames := 1, cells := 6, slots := 188, locals := 24 } : Room) s m args below meth c H locs 0 0 (MQ below (QW D b0 none res.1 res.2) args s 6 188 (fun q => b0 ≤ q)) (F0 m 0 ls []) := by
  obtain ⟨hx, hb, hr, hml, hown, hts, hlocks, hK⟩ := id C0
  intro H locs ls hM hS hl
  unfold f_X7_init at h
  refine lv_aload_n hx hb dX7_init_0 rfl (lv_at hl 0 rfl) ?_
  refine W.objInit hx hb hown (hts _ q_X7_init_0) (hts _ q_X7_init_1) (hts _ q_X7_init_2) rfl (by rw [hml]; exact hl.1) rfl dX7_init_1 (Nat.le_of_ble_eq_true rfl) (Nat.le_of_ble_eq_true rfl) ?_
  refine lv_aload_n hx hb dX7_init_4 rfl (lv_at hl 0 rfl) ?_
  refine lv_iconst (v := (1 : Int32)) hx hb dX7_init_5 (by decide) ?_
  replace h := o_b h; obtain ⟨f6, h6, h⟩ := h
  refine m_put (ty := .int) (C := RX7) (T := TX7) (N := 7) (ci := 7) hx hb hts qi_X7_init_X7 tyX7 tyX7_ok nmX7 hown hK.1 hM hS 0 h6 rfl (by decide) (hts _ q_X7_init_4) (fun _ h9 => h9) rfl (by decide +kernel) rfl rfl dX7_init_6 (fun H locs hM hS => ?_)
  refine lv_aload_n hx hb dX7_init_9 rfl (lv_at hl 0 rfl) ?_
  refine lv_bipush (v := (8 : Int32)) hx hb dX7_init_10 (by decide) ?_
  refine m_newa 0 (by decide) hx hb (atype := .int) (N' := 8) (hts _ q_X7_init_5) rfl rfl hK.1 hM hS (y := .inl (fun _ => 0)) (fun _ => rfl) (fun _ => Iff.rfl) (by decide) (by decide) (Nat.le_of_ble_eq_true rfl) (Nat.le_of_ble_eq_true rfl) (Nat.le_of_ble_eq_true rfl) dX7_init_12 (fun H hM hS => ?_)
  replace h := o_b h; obtain ⟨f12, h12, h⟩ := h
  replace h12 := Option.some.inj h12
  subst h12
  replace h := o_b h; obtain ⟨f14, h14, h⟩ := h
  refine m_putF (ty := (.array .int)) (C := RX7) (T := TX7) (N := 7) (ci := 7) hx hb hts qi_X7_init_X7 tyX7 tyX7_ok nmX7 hown hK.1 hM hS 1 h14 rfl (by decide) (hts _ q_X7_init_6) (fun _ h9 => h9) rfl hin rfl (by decide +kernel) rfl rfl dX7_init_14 (fun H locs hM hS => ?_)
  refine lv_aload_n hx hb dX7_init_17 rfl (lv_at hl 0 rfl) ?_
  refine lv_bipush (v := (8 : Int32)) hx hb dX7_init_18 (by decide) ?_
  refine m_newa 0 (by decide) hx hb (atype := .int) (N' := 8) (hts _ q_X7_init_5) rfl rfl hK.1 hM hS (y := .inl (fun _ => 0)) (fun _ => rfl) (fun _ => Iff.rfl) (by decide) (by decide) (Nat.le_of_ble_eq_true rfl) (Nat.le_of_ble_eq_true rfl) (Nat.le_of_ble_eq_true rfl) dX7_init_20 (fun H hM hS => ?_)
  replace h := o_b h; obtain ⟨f20, h20, h⟩ := h
  replace h20 := Option.some.inj h20
  subst h20
  replace h := o_b h; obtain ⟨f22, h22, h⟩ := h
  refine m_putF (ty := (.array .int)) (C := RX7) (T := TX7) (N := 7) (ci := 7) hx hb hts qi_X7_init_X7 tyX7 tyX7_ok nmX7 hown hK.1 hM hS 2 h22 rfl (by decide) (hts _ q_X7_init_7) (fun _ h9 => h9) rfl hin rfl (by decide +kernel) rfl rfl dX7_init_22 (fun H locs hM hS => ?_)
  refine lv_aload_n hx hb dX7_init_25 rfl (lv_at hl 0 rfl) ?_
  refine lv_iconst (v := (5 : Int32)) hx hb dX7_init_26 (by decide) ?_
  refine m_newq (N' := 5) 3 (by decide) rfl hx hb hown (hts _ q_X7_init_8) (hK.2.2.1 RX0 (by decide)) hK.1 hM hS (by decide) (by decide) (Nat.le_of_ble_eq_true rfl) (Nat.le_of_ble_eq_true rfl) (Nat.le_of_ble_eq_true rfl) dX7_init_27 (fun H hM hS => ?_)
  replace h := o_b h; obtain ⟨f27, h27, h⟩ := h
  replace h27 := Option.some.inj h27
  subst h27
  replace h := o_b h; obtain ⟨f30, h30, h⟩ := h
  refine m_putF (ty := (.array (.object "StageTruths$Claim"))) (C := RX7) (T := TX7) (N := 7) (ci := 7) hx hb hts qi_X7_init_X7 tyX7 tyX7_ok nmX7 hown hK.1 hM hS 3 h30 rfl (by decide) (hts _ q_X7_init_9) (fun _ h9 => h9) rfl hin rfl (by decide +kernel) rfl rfl dX7_init_30 (fun H locs hM hS => ?_)
  refine lv_aload_n hx hb dX7_init_33 rfl (lv_at hl 0 rfl) ?_
  refine lv_bipush (v := (8 : Int32)) hx hb dX7_init_34 (by decide) ?_
  refine m_newa 0 (by decide) hx hb (atype := .int) (N' := 8) (hts _ q_X7_init_5) rfl rfl hK.1 hM hS (y := .inl (fun _ => 0)) (fun _ => rfl) (fun _ => Iff.rfl) (by decide) (by decide) (Nat.le_of_ble_eq_true rfl) (Nat.le_of_ble_eq_true rfl) (Nat.le_of_ble_eq_true rfl) dX7_init_36 (fun H hM hS => ?_)
  replace h := o_b h; obtain ⟨f36, h36, h⟩ := h
  replace h36 := Option.some.inj h36
  subst h36
  replace h := o_b h; obtain ⟨f38, h38, h⟩ := h
  refine m_putF (ty := (.array .int)) (C := RX7) (T := TX7) (N := 7) (ci := 7) hx hb hts qi_X7_init_X7 tyX7 tyX7_ok nmX7 hown hK.1 hM hS 4 h38 rfl (by decide) (hts _ q_X7_init_10) (fun _ h9 => h9) rfl hin rfl (by decide +kernel) rfl rfl dX7_init_38 (fun H locs hM hS => ?_)
  refine lv_aload_n hx hb dX7_init_41 rfl (lv_at hl 0 rfl) ?_
  refine lv_bipush (v := (8 : Int32)) hx hb dX7_init_42 (by decide) ?_
  refine m_newa 0 (by decide) hx hb (atype := .int) (N' := 8) (hts _ q_X7_init_5) rfl rfl hK.1 hM hS (y := .inl (fun _ => 0)) (fun _ => rfl) (fun _ => Iff.rfl) (by decide) (by decide) (Nat.le_of_ble_eq_true rfl) (Nat.le_of_ble_eq_true rfl) (Nat.le_of_ble_eq_true rfl) dX7_init_44 (fun H hM hS => ?_)
  replace h := o_b h; obtain ⟨f44, h44, h⟩ := h
  replace h44 := Option.some.inj h44
  subst h44
  replace h := o_b h; obtain ⟨f46, h46, h⟩ := h
  refine m_putF (ty := (.array .int)) (C := RX7) (T := TX7) (N := 7) (ci := 7) hx hb hts qi_X7_init_X7 tyX7 tyX7_ok nmX7 hown hK.1 hM hS 5 h46 rfl (by decide) (hts _ q_X7_init_11) (fun _ h9 => h9) rfl hin rfl (by decide +kernel) rfl rfl dX7_init_46 (fun H locs hM hS => ?_)
  refine lv_aload_n hx hb dX7_init_49 rfl (lv_at hl 0 rfl) ?_
  refine lv_sipush (v := (151 : Int32)) hx hb dX7_init_50 (by decide) ?_
  refine m_newa 0 (by decide) hx hb (atype := .int) (N' := 151) (hts _ q_X7_init_5) rfl rfl hK.1 hM hS (y := .inl (fun _ => 0)) (fun _ => rfl) (fun _ => Iff.rfl) (by decide) (by decide) (Nat.le_of_ble_eq_true rfl) (Nat.le_of_ble_eq_true rfl) (Nat.le_of_ble_eq_true rfl) dX7_init_53 (fun H hM hS => ?_)
  replace h := o_b h; obtain ⟨f53, h53, h⟩ := h
  replace h53 := Option.some.inj h53
  subst h53
  replace h := o_b h; obtain ⟨f55, h55, h⟩ := h
  refine m_putF (ty := (.array .int)) (C := RX7) (T := TX7) (N := 7) (ci := 7) hx hb hts qi_X7_init_X7 tyX7 tyX7_ok nmX7 hown hK.1 hM hS 6 h55 rfl (by decide) (hts _ q_X7_init_12) (fun _ h9 => h9) rfl hin rfl (by decide +kernel) rfl rfl dX7_init_55 (fun H locs hM hS => ?_)
  refine lv_aload_n hx hb dX7_init_58 rfl (lv_at hl 0 rfl) ?_
  replace h := o_b h; obtain ⟨x59, h59, h⟩ := h
  refine m_get (C := RX7) (T := TX7) (N := 7) (ci := 7) hx hb hts qi_X7_init_X7 hown hK.1 hM 1 (ldR_F h59) rfl (by decide) (hts _ q_X7_init_6) (fun _ h9 => h9) dX7_init_59 ?_
  refine lv_iconst (v := (0 : Int32)) hx hb dX7_init_62 (by decide) ?_
  refine lv_iconst (v := (1 : Int32)) hx hb dX7_init_63 (by decide) ?_
  replace h := o_b h; obtain ⟨f64, h64, h⟩ := h
  refine m_iast hx hb hK.1 hM hS rfl h64 dX7_init_64 (fun H locs hM hS => ?_)
  refine W.widen (k := 6) (n := 188) (Nat.le_of_ble_eq_true rfl) (Nat.le_of_ble_eq_true rfl) ?_
  replace h := Option.some.inj h; subst h
  exact W.vret hx hb hr (fun t ht hW => ⟨rfl, by rw [ht]; exact hM.moved hW.alike, hS.F ht⟩) hS.2.2 dX7_init_65
set_option maxHeartbeats 4000000 in
set_option maxRecDepth 100000 in
theorem c_X7_init (l : Launch) (D : mmD) (b0 sz : Nat) {v0 : Nat} {f : mmF} {res : mmF × Nat} (h : f_X7_init v0 f sz = some res) : Met l yX7_init wsX7_init ({ frames := 1, cells := 6, slots := 188, locals := 24 } : Room) (va_Pc [.ref v0] (PW D b0 f sz)) (QW D b0 none res.1 res.2) 6 188 (fun q => b0 ≤ q) := by
  refine Met.ofW (cc := cX7_init) (maxL := 1) (ret := none) (by decide) rfl ?_
  intro p e s m args below meth c s₁ B hml hv
  obtain ⟨rfl, hM, hK⟩ := hv
  have hl := lv_entry ([.ref v0]) (n := 1) (Nat.le_of_ble_eq_true rfl)
  rw [lg_entry_eq]
  generalize (lg_sl ([.ref v0]) ++ List.replicate (1 - (lg_sl ([.ref v0])).length) Slot.unset).toArray = ls at hl ⊢
  have hl : lv_has ls 1 [(0, .ref v0)] := hl
  exact w_X7_init ⟨B.exec, B.bytes, B.returns, hml, findClass_of_methodNamed B.named, atoms_spec (ws := wsX7_init) B.pre, B.notSynchronized, hK⟩ (name_of_methodNamed B.named B.method).1 h s.heap [] ls hM va_S.rf hl
end S_X7_init
/-! X7_takeFrom -/
set_option maxRecDepth 20000 in
theorem qi_X7_takeFrom_X7 : ∀ w ∈ u_ws RX7 TX7 7, w ∈ wsX7_takeFrom := by decide +kernel
set_option maxRecDepth 20000 in
theorem q_X7_takeFrom_1 : Cond.fieldLink RX7 24 "StageTruths$State" "shelf" "[LStageTruths$Claim;" ∈ wsX7_takeFrom := by decide +kernel
set_option maxRecDepth 20000 in
theorem q_X7_takeFrom_2 : Cond.fieldLink RX7 15 "StageTruths$State" "later" "[I" ∈ wsX7_takeFrom := by decide +kernel
set_option maxRecDepth 20000 in
theorem q_X7_takeFrom_3 : Cond.fieldLink RX7 19 "StageTruths$State" "facts" "[I" ∈ wsX7_takeFrom := by decide +kernel
set_option maxRecDepth 20000 in
theorem q_X7_takeFrom_4 : Cond.fieldLink RX7 9 "StageTruths$State" "stages" "I" ∈ wsX7_takeFrom := by decide +kernel
noncomputable def f_X7_takeFrom_48   : Nat → Nat → Nat → Int32 → mmF → Option (mmF)
  | 0, _, _, _, _ => none
  | n + 1, v0, v1, v2, f =>
    if (5 : Int32) ≤ v2 then
    (some (f))
    else
    (ldR f v0 7 3).bind fun x54 =>
    (ldR f v1 7 3).bind fun x59 =>
    (ldQ 3 f x59 v2).bind fun x63 =>
    (stQ 3 0 f x54 v2 x63).bind fun f64 =>
    f_X7_takeFrom_48 n v0 v1 (v2 + (1 : Int32)) f64
noncomputable def f_X7_takeFrom_10   : Nat → Nat → Nat → Int32 → mmF → Option (mmF)
  | 0, _, _, _, _ => none
  | n + 1, v0, v1, v2, f =>
    if (8 : Int32) ≤ v2 then
    (f_X7_takeFrom_48 FU v0 v1 (0 : Int32) f)
    else
    (ldR f v0 7 1).bind fun x17 =>
    (ldR f v1 7 1).bind fun x22 =>
    (ldA 0 f x22 v2).bind fun x26 =>
    (stA 0 f x17 v2 x26).bind fun f27 =>
    (ldR f27 v0 7 2).bind fun x29 =>
    (ldR f27 v1 7 2).bind fun x34 =>
    (ldA 0 f27 x34 v2).bind fun x38 =>
    (stA 0 f27 x29 v2 x38).bind fun f39 =>
    f_X7_takeFrom_10 n v0 v1 (v2 + (1 : Int32)) f39
noncomputable def f_X7_takeFrom (v0 : Nat) (v1 : Nat) (f : mmF) : Option (mmF) :=
  (ldI f v1 7 0).bind fun x2 =>
  (stF f v0 7 0 (.int x2)).bind fun f5 =>
  f_X7_takeFrom_10 FU v0 v1 (0 : Int32) f5
section S_X7_takeFrom
variable {p : Program} {l : Launch} {e : Env} {s : State} {m : MethodId} {args : Array Value} {below : List Frame} {meth : Method} {c : Code} {D : mmD} {b0 sz : Nat} {f : mmF}
set_option maxHeartbeats 4000000 in
set_option maxRecDepth 100000 in
theorem w_X7_takeFrom_48 (C0 : CX cX7_takeFrom 3 none wsX7_takeFrom RX7 p s m args meth c D b0) {res : mmF} : ∀ (n : Nat), ∀ (v0 : Nat) (v1 : Nat) (v2 : Int32) (f : mmF), f_X7_takeFrom_48 n v0 v1 v2 f = some res → ∀ (H : Heap) (locs : List Loc) (ls : Array Slot), MM vwCl D b0 f sz s H → mS b0 s H locs → lv_has ls 3 [(0, .ref v0), (1, .ref v1), (2, .int v2)] → W p l e ({ frames := 0, cells := 0, slots := 0, locals := 0 } : Room) s m args below meth c H locs 0 0 (MQ below (QW D b0 none res sz) args s 0 0 (fun q => b0 ≤ q)) (F0 m 48 ls []) := by
  obtain ⟨hx, hb, hr, hml, hown, hts, hlocks, hK⟩ := id C0
  intro n
  induction n with
  | zero =>
    intro v0 v1 v2 f h
    have h : (none : Option (mmF)) = some res := h
    cases h
  | succ n ih =>
    intro v0 v1 v2 f h H locs ls hM hS hl
    rw [f_X7_takeFrom_48] at h
    refine lv_iload_n hx hb dX7_takeFrom_48 rfl (lv_at hl 2 rfl) ?_
    refine lv_iconst (v := (5 : Int32)) hx hb dX7_takeFrom_49 (by decide) ?_
    refine lv_icmp_ge (tgt := 71) hx hb dX7_takeFrom_50 (by decide) (fun c50 => ?_) (fun c50 => ?_)
    · replace h := o_t c50 h
      replace h := Option.some.inj h; subst h
      exact W.vret hx hb hr (fun t ht hW => ⟨rfl, by rw [ht]; exact hM.moved hW.alike, hS.F ht⟩) hS.2.2 dX7_takeFrom_71
    replace h := o_f c50 h
    refine lv_aload_n hx hb dX7_takeFrom_53 rfl (lv_at hl 0 rfl) ?_
    replace h := o_b h; obtain ⟨x54, h54, h⟩ := h
    refine m_get (C := RX7) (T := TX7) (N := 7) (ci := 7) hx hb hts qi_X7_takeFrom_X7 hown hK.1 hM 3 (ldR_F h54) rfl (by decide) (hts _ q_X7_takeFrom_1) (fun _ h9 => h9) dX7_takeFrom_54 ?_
    refine lv_iload_n hx hb dX7_takeFrom_57 rfl (lv_at hl 2 rfl) ?_
    refine lv_aload_n hx hb dX7_takeFrom_58 rfl (lv_at hl 1 rfl) ?_
    replace h := o_b h; obtain ⟨x59, h59, h⟩ := h
    refine m_get (C := RX7) (T := TX7) (N := 7) (ci := 7) hx hb hts qi_X7_takeFrom_X7 hown hK.1 hM 3 (ldR_F h59) rfl (by decide) (hts _ q_X7_takeFrom_1) (fun _ h9 => h9) dX7_takeFrom_59 ?_
    refine lv_iload_n hx hb dX7_takeFrom_62 rfl (lv_at hl 2 rfl) ?_
    replace h := o_b h; obtain ⟨x63, h63, h⟩ := h
    refine m_aldq 3 (by decide) rfl hx hb hK.1 hM h63 dX7_takeFrom_63 ?_
    replace h := o_b h; obtain ⟨f64, h64, h⟩ := h
    refine m_astq 3 0 (by decide) (r0 := (RX0, TX0, 2)) rfl rfl hx hb hK.1 hM hS (r := x63) h64 dX7_takeFrom_64 (fun H locs hM hS => ?_)
    refine lv_iinc (v := (v2 + (1 : Int32))) (lv' := [(2, .int (v2 + (1 : Int32))), (0, .ref v0), (1, .ref v1)]) hx hb dX7_takeFrom_65 hl (k := 2) rfl rfl (by decide) rfl (fun ls hl => ?_)
    refine lv_goto (tgt := 48) hx hb dX7_takeFrom_68 (by decide) ?_
    exact ih _ _ _ _ h _ _ _ hM hS (lv_sub hl [1, 2, 0] rfl)
set_option maxHeartbeats 4000000 in
set_option maxRecDepth 100000 in
theorem w_X7_takeFrom_10 (C0 : CX cX7_takeFrom 3 none wsX7_takeFrom RX7 p s m args meth c D b0) {res : mmF} : ∀ (n : Nat), ∀ (v0 : Nat) (v1 : Nat) (v2 : Int32) (f : mmF), f_X7_takeFrom_10 n v0 v1 v2 f = some res → ∀ (H : Heap) (locs : List Loc) (ls : Array Slot), MM vwCl D b0 f sz s H → mS b0 s H locs → lv_has ls 3 [(0, .ref v0), (1, .ref v1), (2, .int v2)] → W p l e ({ frames := 0, cells := 0, slots := 0, locals := 0 } : Room) s m args below meth c H locs 0 0 (MQ below (QW D b0 none res sz) args s 0 0 (fun q => b0 ≤ q)) (F0 m 10 ls []) := by
  obtain ⟨hx, hb, hr, hml, hown, hts, hlocks, hK⟩ := id C0
  intro n
  induction n with
  | zero =>
    intro v0 v1 v2 f h
    have h : (none : Option (mmF)) = some res := h
    cases h
  | succ n ih =>
    intro v0 v1 v2 f h H locs ls hM hS hl
    rw [f_X7_takeFrom_10] at h
    refine lv_iload_n hx hb dX7_takeFrom_10 rfl (lv_at hl 2 rfl) ?_
    refine lv_bipush (v := (8 : Int32)) hx hb dX7_takeFrom_11 (by decide) ?_
    refine lv_icmp_ge (tgt := 46) hx hb dX7_takeFrom_13 (by decide) (fun c13 => ?_) (fun c13 => ?_)
    · replace h := o_t c13 h
      refine lv_iconst (v := (0 : Int32)) hx hb dX7_takeFrom_46 (by decide) ?_
      refine lv_istore_n (lv' := [(2, .int (0 : Int32)), (0, .ref v0), (1, .ref v1)]) hx hb dX7_takeFrom_47 rfl hl (by decide) rfl (fun ls hl => ?_)
      exact w_X7_takeFrom_48 C0 FU _ _ _ _ h _ _ _ hM hS (lv_sub hl [1, 2, 0] rfl)
    replace h := o_f c13 h
    refine lv_aload_n hx hb dX7_takeFrom_16 rfl (lv_at hl 0 rfl) ?_
    replace h := o_b h; obtain ⟨x17, h17, h⟩ := h
    refine m_get (C := RX7) (T := TX7) (N := 7) (ci := 7) hx hb hts qi_X7_takeFrom_X7 hown hK.1 hM 1 (ldR_F h17) rfl (by decide) (hts _ q_X7_takeFrom_2) (fun _ h9 => h9) dX7_takeFrom_17 ?_
    refine lv_iload_n hx hb dX7_takeFrom_20 rfl (lv_at hl 2 rfl) ?_
    refine lv_aload_n hx hb dX7_takeFrom_21 rfl (lv_at hl 1 rfl) ?_
    replace h := o_b h; obtain ⟨x22, h22, h⟩ := h
    refine m_get (C := RX7) (T := TX7) (N := 7) (ci := 7) hx hb hts qi_X7_takeFrom_X7 hown hK.1 hM 1 (ldR_F h22) rfl (by decide) (hts _ q_X7_takeFrom_2) (fun _ h9 => h9) dX7_takeFrom_22 ?_
    refine lv_iload_n hx hb dX7_takeFrom_25 rfl (lv_at hl 2 rfl) ?_
    replace h := o_b h; obtain ⟨x26, h26, h⟩ := h
    refine m_iald hx hb hK.1 hM hS rfl h26 dX7_takeFrom_26 ?_
    replace h := o_b h; obtain ⟨f27, h27, h⟩ := h
    refine m_iast hx hb hK.1 hM hS rfl h27 dX7_takeFrom_27 (fun H locs hM hS => ?_)
    refine lv_aload_n hx hb dX7_takeFrom_28 rfl (lv_at hl 0 rfl) ?_
    replace h := o_b h; obtain ⟨x29, h29, h⟩ := h
    refine m_get (C := RX7) (T := TX7) (N := 7) (ci := 7) hx hb hts qi_X7_takeFrom_X7 hown hK.1 hM 2 (ldR_F h29) rfl (by decide) (hts _ q_X7_takeFrom_3) (fun _ h9 => h9) dX7_takeFrom_29 ?_
    refine lv_iload_n hx hb dX7_takeFrom_32 rfl (lv_at hl 2 rfl) ?_
    refine lv_aload_n hx hb dX7_takeFrom_33 rfl (lv_at hl 1 rfl) ?_
    replace h := o_b h; obtain ⟨x34, h34, h⟩ := h
    refine m_get (C := RX7) (T := TX7) (N := 7) (ci := 7) hx hb hts qi_X7_takeFrom_X7 hown hK.1 hM 2 (ldR_F h34) rfl (by decide) (hts _ q_X7_takeFrom_3) (fun _ h9 => h9) dX7_takeFrom_34 ?_
    refine lv_iload_n hx hb dX7_takeFrom_37 rfl (lv_at hl 2 rfl) ?_
    replace h := o_b h; obtain ⟨x38, h38, h⟩ := h
    refine m_iald hx hb hK.1 hM hS rfl h38 dX7_takeFrom_38 ?_
    replace h := o_b h; obtain ⟨f39, h39, h⟩ := h
    refine m_iast hx hb hK.1 hM hS rfl h39 dX7_takeFrom_39 (fun H locs hM hS => ?_)
    refine lv_iinc (v := (v2 + (1 : Int32))) (lv' := [(2, .int (v2 + (1 : Int32))), (0, .ref v0), (1, .ref v1)]) hx hb dX7_takeFrom_40 hl (k := 2) rfl rfl (by decide) rfl (fun ls hl => ?_)
    refine lv_goto (tgt := 10) hx hb dX7_takeFrom_43 (by decide) ?_
    exact ih _ _ _ _ h _ _ _ hM hS (lv_sub hl [1, 2, 0] rfl)
set_option maxHeartbeats 4000000 in
set_option maxRecDepth 100000 in
theorem w_X7_takeFrom (C0 : CX cX7_takeFrom 3 none wsX7_takeFrom RX7 p s m args meth c D b0) {v0 : Nat} {v1 : Nat} {res : mmF} (h : f_X7_takeFrom v0 v1 f = some res) : ∀ (H : Heap) (locs : List Loc) (ls : Array Slot), MM vwCl D b0 f sz s H → mS b0 s H locs → lv_has ls 3 [(0, .ref v0), (1, .ref v1)] → W p l e ({ frames := 0, cells := 0, slots := 0, locals := 0 } : Room) s m args below meth c H locs 0 0 (MQ below (QW D b0 none res sz) args s 0 0 (fun q => b0 ≤ q)) (F0 m 0 ls []) := by
  obtain ⟨hx, hb, hr, hml, hown, hts, hlocks, hK⟩ := id C0
  intro H locs ls hM hS hl
  unfold f_X7_takeFrom at h
  refine lv_aload_n hx hb dX7_takeFrom_0 rfl (lv_at hl 0 rfl) ?_
  refine lv_aload_n hx hb dX7_takeFrom_1 rfl (lv_at hl 1 rfl) ?_
  replace h := o_b h; obtain ⟨x2, h2, h⟩ := h
  refine m_get (C := RX7) (T := TX7) (N := 7) (ci := 7) hx hb hts qi_X7_takeFrom_X7 hown hK.1 hM 0 (ldI_F h2) rfl (by decide) (hts _ q_X7_takeFrom_4) (fun _ h9 => h9) dX7_takeFrom_2 ?_
  replace h := o_b h; obtain ⟨f5, h5, h⟩ := h
  refine m_put (ty := .int) (C := RX7) (T := TX7) (N := 7) (ci := 7) hx hb hts qi_X7_takeFrom_X7 tyX7 tyX7_ok nmX7 hown hK.1 hM hS 0 h5 rfl (by decide) (hts _ q_X7_takeFrom_4) (fun _ h9 => h9) rfl (by decide +kernel) rfl rfl dX7_takeFrom_5 (fun H locs hM hS => ?_)
  refine lv_iconst (v := (0 : Int32)) hx hb dX7_takeFrom_8 (by decide) ?_
  refine lv_istore_n (lv' := [(2, .int (0 : Int32)), (0, .ref v0), (1, .ref v1)]) hx hb dX7_takeFrom_9 rfl hl (by decide) rfl (fun ls hl => ?_)
  exact w_X7_takeFrom_10 C0 FU _ _ _ _ h _ _ _ hM hS (lv_sub hl [1, 2, 0] rfl)
set_option maxHeartbeats 4000000 in
set_option maxRecDepth 100000 in
theorem c_X7_takeFrom (l : Launch) (D : mmD) (b0 sz : Nat) {v0 : Nat} {v1 : Nat} {f : mmF} {res : mmF} (h : f_X7_takeFrom v0 v1 f = some res) : Met l yX7_takeFrom wsX7_takeFrom ({ frames := 0, cells := 0, slots := 0, locals := 0 } : Room) (va_Pc [.ref v0, .ref v1] (PW D b0 f sz)) (QW D b0 none res sz) 0 0 (fun q => b0 ≤ q) := by
  refine Met.ofW (cc := cX7_takeFrom) (maxL := 3) (ret := none) (by decide) rfl ?_
  intro p e s m args below meth c s₁ B hml hv
  obtain ⟨rfl, hM, hK⟩ := hv
  have hl := lv_entry ([.ref v0, .ref v1]) (n := 3) (Nat.le_of_ble_eq_true rfl)
  rw [lg_entry_eq]
  generalize (lg_sl ([.ref v0, .ref v1]) ++ List.replicate (3 - (lg_sl ([.ref v0, .ref v1])).length) Slot.unset).toArray = ls at hl ⊢
  have hl : lv_has ls 3 [(0, .ref v0), (1, .ref v1)] := hl
  exact w_X7_takeFrom ⟨B.exec, B.bytes, B.returns, hml, findClass_of_methodNamed B.named, atoms_spec (ws := wsX7_takeFrom) B.pre, B.notSynchronized, hK⟩ h s.heap [] ls hM va_S.rf hl
end S_X7_takeFrom
/-! X7_isStage -/
set_option maxRecDepth 20000 in
theorem qi_X7_isStage_X7 : ∀ w ∈ u_ws RX7 TX7 7, w ∈ wsX7_isStage := by decide +kernel
set_option maxRecDepth 20000 in
theorem q_X7_isStage_1 : Cond.fieldLink RX7 9 "StageTruths$State" "stages" "I" ∈ wsX7_isStage := by decide +kernel
noncomputable def f_X7_isStage (v0 : Nat) (v1 : Int32) (f : mmF) : Option (Int32) :=
  if v1 < 0 then
  (some ((0 : Int32)))
  else
  (ldI f v0 7 0).bind fun x6 =>
  if x6 ≤ v1 then
  (some ((0 : Int32)))
  else
  some ((1 : Int32))
section S_X7_isStage
variable {p : Program} {l : Launch} {e : Env} {s : State} {m : MethodId} {args : Array Value} {below : List Frame} {meth : Method} {c : Code} {D : mmD} {b0 sz : Nat} {f : mmF}
set_option maxHeartbeats 4000000 in
set_option maxRecDepth 100000 in
theorem w_X7_isStage (C0 : CX cX7_isStage 2 (some .boolean) wsX7_isStage RX7 p s m args meth c D b0) {v0 : Nat} {v1 : Int32} {res : Int32} (h : f_X7_isStage v0 v1 f = some res) : ∀ (H : Heap) (locs : List Loc) (ls : Array Slot), MM vwCl D b0 f sz s H → mS b0 s H locs → lv_has ls 2 [(0, .ref v0), (1, .int v1)] → W p l e ({ frames := 0, cells := 0, slots := 0, locals := 0 } : Room) s m args below meth c H locs 0 0 (MQ below (QW D b0 (some (.int res)) f sz) args s 0 0 (fun q => b0 ≤ q)) (F0 m 0 ls []) := by
  obtain ⟨hx, hb, hr, hml, hown, hts, hlocks, hK⟩ := id C0
  intro H locs ls hM hS hl
  unfold f_X7_isStage at h
  refine lv_iload_n hx hb dX7_isStage_0 rfl (lv_at hl 1 rfl) ?_
  refine lv_if_lt (tgt := 16) hx hb dX7_isStage_1 (by decide) (fun c1 => ?_) (fun c1 => ?_)
  · replace h := o_t c1 h
    refine lv_iconst (v := (0 : Int32)) hx hb dX7_isStage_16 (by decide) ?_
    replace h := Option.some.inj h; subst h
    exact W.zret hx hb hr rfl (fun t ht hW => ⟨rfl, by rw [ht]; exact hM.moved hW.alike, hS.F ht⟩) hS.2.2 dX7_isStage_17
  replace h := o_f c1 h
  refine lv_iload_n hx hb dX7_isStage_4 rfl (lv_at hl 1 rfl) ?_
  refine lv_aload_n hx hb dX7_isStage_5 rfl (lv_at hl 0 rfl) ?_
  replace h := o_b h; obtain ⟨x6, h6, h⟩ := h
  refine m_get (C := RX7) (T := TX7) (N := 7) (ci := 7) hx hb hts qi_X7_isStage_X7 hown hK.1 hM 0 (ldI_F h6) rfl (by decide) (hts _ q_X7_isStage_1) (fun _ h9 => h9) dX7_isStage_6 ?_
  refine lv_icmp_ge (tgt := 16) hx hb dX7_isStage_9 (by decide) (fun c9 => ?_) (fun c9 => ?_)
  · replace h := o_t c9 h
    refine lv_iconst (v := (0 : Int32)) hx hb dX7_isStage_16 (by decide) ?_
    replace h := Option.some.inj h; subst h
    exact W.zret hx hb hr rfl (fun t ht hW => ⟨rfl, by rw [ht]; exact hM.moved hW.alike, hS.F ht⟩) hS.2.2 dX7_isStage_17
  replace h := o_f c9 h
  refine lv_iconst (v := (1 : Int32)) hx hb dX7_isStage_12 (by decide) ?_
  refine lv_goto (tgt := 17) hx hb dX7_isStage_13 (by decide) ?_
  replace h := Option.some.inj h; subst h
  exact W.zret hx hb hr rfl (fun t ht hW => ⟨rfl, by rw [ht]; exact hM.moved hW.alike, hS.F ht⟩) hS.2.2 dX7_isStage_17
set_option maxHeartbeats 4000000 in
set_option maxRecDepth 100000 in
theorem c_X7_isStage (l : Launch) (D : mmD) (b0 sz : Nat) {v0 : Nat} {v1 : Int32} {f : mmF} {res : Int32} (h : f_X7_isStage v0 v1 f = some res) : Met l yX7_isStage wsX7_isStage ({ frames := 0, cells := 0, slots := 0, locals := 0 } : Room) (va_Pc [.ref v0, .int v1] (PW D b0 f sz)) (QW D b0 (some (.int res)) f sz) 0 0 (fun q => b0 ≤ q) := by
  refine Met.ofW (cc := cX7_isStage) (maxL := 2) (ret := (some .boolean)) (by decide) rfl ?_
  intro p e s m args below meth c s₁ B hml hv
  obtain ⟨rfl, hM, hK⟩ := hv
  have hl := lv_entry ([.ref v0, .int v1]) (n := 2) (Nat.le_of_ble_eq_true rfl)
  rw [lg_entry_eq]
  generalize (lg_sl ([.ref v0, .int v1]) ++ List.replicate (2 - (lg_sl ([.ref v0, .int v1])).length) Slot.unset).toArray = ls at hl ⊢
  have hl : lv_has ls 2 [(0, .ref v0), (1, .int v1)] := hl
  exact w_X7_isStage ⟨B.exec, B.bytes, B.returns, hml, findClass_of_methodNamed B.named, atoms_spec (ws := wsX7_isStage) B.pre, B.notSynchronized, hK⟩ h s.heap [] ls hM va_S.rf hl
end S_X7_isStage
/-! X7_all -/
set_option maxRecDepth 20000 in
theorem qi_X7_all_X7 : ∀ w ∈ u_ws RX7 TX7 7, w ∈ wsX7_all := by decide +kernel
set_option maxRecDepth 20000 in
theorem q_X7_all_1 : Cond.fieldLink RX7 9 "StageTruths$State" "stages" "I" ∈ wsX7_all := by decide +kernel
noncomputable def f_X7_all (v0 : Nat) (f : mmF) : Option (Int32) :=
  (ldI f v0 7 0).bind fun x2 =>
  some ((((1 : Int32) <<< (x2 &&& 31)) - (1 : Int32)))
section S_X7_all
variable {p : Program} {l : Launch} {e : Env} {s : State} {m : MethodId} {args : Array Value} {below : List Frame} {meth : Method} {c : Code} {D : mmD} {b0 sz : Nat} {f : mmF}
set_option maxHeartbeats 4000000 in
set_option maxRecDepth 100000 in
theorem w_X7_all (C0 : CX cX7_all 1 (some .int) wsX7_all RX7 p s m args meth c D b0) {v0 : Nat} {res : Int32} (h : f_X7_all v0 f = some res) : ∀ (H : Heap) (locs : List Loc) (ls : Array Slot), MM vwCl D b0 f sz s H → mS b0 s H locs → lv_has ls 1 [(0, .ref v0)] → W p l e ({ frames := 0, cells := 0, slots := 0, locals := 0 } : Room) s m args below meth c H locs 0 0 (MQ below (QW D b0 (some (.int res)) f sz) args s 0 0 (fun q => b0 ≤ q)) (F0 m 0 ls []) := by
  obtain ⟨hx, hb, hr, hml, hown, hts, hlocks, hK⟩ := id C0
  intro H locs ls hM hS hl
  unfold f_X7_all at h
  refine lv_iconst (v := (1 : Int32)) hx hb dX7_all_0 (by decide) ?_
  refine lv_aload_n hx hb dX7_all_1 rfl (lv_at hl 0 rfl) ?_
  replace h := o_b h; obtain ⟨x2, h2, h⟩ := h
  refine m_get (C := RX7) (T := TX7) (N := 7) (ci := 7) hx hb hts qi_X7_all_X7 hown hK.1 hM 0 (ldI_F h2) rfl (by decide) (hts _ q_X7_all_1) (fun _ h9 => h9) dX7_all_2 ?_
  refine lv_ishl hx hb dX7_all_5 ?_
  refine lv_iconst (v := (1 : Int32)) hx hb dX7_all_6 (by decide) ?_
  refine lv_isub hx hb dX7_all_7 ?_
  replace h := Option.some.inj h; subst h
  exact W.iret hx hb hr (fun t ht hW => ⟨rfl, by rw [ht]; exact hM.moved hW.alike, hS.F ht⟩) hS.2.2 dX7_all_8
set_option maxHeartbeats 4000000 in
set_option maxRecDepth 100000 in
theorem c_X7_all (l : Launch) (D : mmD) (b0 sz : Nat) {v0 : Nat} {f : mmF} {res : Int32} (h : f_X7_all v0 f = some res) : Met l yX7_all wsX7_all ({ frames := 0, cells := 0, slots := 0, locals := 0 } : Room) (va_Pc [.ref v0] (PW D b0 f sz)) (QW D b0 (some (.int res)) f sz) 0 0 (fun q => b0 ≤ q) := by
  refine Met.ofW (cc := cX7_all) (maxL := 1) (ret := (some .int)) (by decide) rfl ?_
  intro p e s m args below meth c s₁ B hml hv
  obtain ⟨rfl, hM, hK⟩ := hv
  have hl := lv_entry ([.ref v0]) (n := 1) (Nat.le_of_ble_eq_true rfl)
  rw [lg_entry_eq]
  generalize (lg_sl ([.ref v0]) ++ List.replicate (1 - (lg_sl ([.ref v0])).length) Slot.unset).toArray = ls at hl ⊢
  have hl : lv_has ls 1 [(0, .ref v0)] := hl
  exact w_X7_all ⟨B.exec, B.bytes, B.returns, hml, findClass_of_methodNamed B.named, atoms_spec (ws := wsX7_all) B.pre, B.notSynchronized, hK⟩ h s.heap [] ls hM va_S.rf hl
end S_X7_all
/-! X7_earlier -/
set_option maxRecDepth 20000 in
theorem qi_X7_earlier_X7 : ∀ w ∈ u_ws RX7 TX7 7, w ∈ wsX7_earlier := by decide +kernel
set_option maxRecDepth 20000 in
theorem q_X7_earlier_1 : Cond.fieldLink RX7 9 "StageTruths$State" "stages" "I" ∈ wsX7_earlier := by decide +kernel
set_option maxRecDepth 20000 in
theorem q_X7_earlier_2 : Cond.fieldLink RX7 15 "StageTruths$State" "later" "[I" ∈ wsX7_earlier := by decide +kernel
noncomputable def f_X7_earlier_4  (f : mmF) : Nat → Nat → Int32 → Int32 → Int32 → Option (Int32)
  | 0, _, _, _, _ => none
  | n + 1, v0, v1, v2, v3 =>
    (ldI f v0 7 0).bind fun x6 =>
    if x6 ≤ v3 then
    (some (v2))
    else
    (ldR f v0 7 1).bind fun x14 =>
    (ldA 0 f x14 v3).bind fun x18 =>
    f_X7_earlier_4 f n v0 v1 (v2 ||| (((x18 >>> (v1 &&& 31)) &&& (1 : Int32)) <<< (v3 &&& 31))) (v3 + (1 : Int32))
noncomputable def f_X7_earlier (v0 : Nat) (v1 : Int32) (f : mmF) : Option (Int32) :=
  f_X7_earlier_4 f FU v0 v1 (0 : Int32) (0 : Int32)
section S_X7_earlier
variable {p : Program} {l : Launch} {e : Env} {s : State} {m : MethodId} {args : Array Value} {below : List Frame} {meth : Method} {c : Code} {D : mmD} {b0 sz : Nat} {f : mmF}
set_option maxHeartbeats 4000000 in
set_option maxRecDepth 100000 in
theorem w_X7_earlier_4 (C0 : CX cX7_earlier 4 (some .int) wsX7_earlier RX7 p s m args meth c D b0) {res : Int32} : ∀ (n : Nat), ∀ (v0 : Nat) (v1 : Int32) (v2 : Int32) (v3 : Int32), f_X7_earlier_4 f n v0 v1 v2 v3 = some res → ∀ (H : Heap) (locs : List Loc) (ls : Array Slot), MM vwCl D b0 f sz s H → mS b0 s H locs → lv_has ls 4 [(0, .ref v0), (1, .int v1), (2, .int v2), (3, .int v3)] → W p l e ({ frames := 0, cells := 0, slots := 0, locals := 0 } : Room) s m args below meth c H locs 0 0 (MQ below (QW D b0 (some (.int res)) f sz) args s 0 0 (fun q => b0 ≤ q)) (F0 m 4 ls []) := by
  obtain ⟨hx, hb, hr, hml, hown, hts, hlocks, hK⟩ := id C0
  intro n
  induction n with
  | zero =>
    intro v0 v1 v2 v3 h
    have h : (none : Option (Int32)) = some res := h
    cases h
  | succ n ih =>
    intro v0 v1 v2 v3 h H locs ls hM hS hl
    rw [f_X7_earlier_4] at h
    refine lv_iload_n hx hb dX7_earlier_4 rfl (lv_at hl 3 rfl) ?_
    refine lv_aload_n hx hb dX7_earlier_5 rfl (lv_at hl 0 rfl) ?_
    replace h := o_b h; obtain ⟨x6, h6, h⟩ := h
    refine m_get (C := RX7) (T := TX7) (N := 7) (ci := 7) hx hb hts qi_X7_earlier_X7 hown hK.1 hM 0 (ldI_F h6) rfl (by decide) (hts _ q_X7_earlier_1) (fun _ h9 => h9) dX7_earlier_6 ?_
    refine lv_icmp_ge (tgt := 33) hx hb dX7_earlier_9 (by decide) (fun c9 => ?_) (fun c9 => ?_)
    · replace h := o_t c9 h
      refine lv_iload_n hx hb dX7_earlier_33 rfl (lv_at hl 2 rfl) ?_
      replace h := Option.some.inj h; subst h
      exact W.iret hx hb hr (fun t ht hW => ⟨rfl, by rw [ht]; exact hM.moved hW.alike, hS.F ht⟩) hS.2.2 dX7_earlier_34
    replace h := o_f c9 h
    refine lv_iload_n hx hb dX7_earlier_12 rfl (lv_at hl 2 rfl) ?_
    refine lv_aload_n hx hb dX7_earlier_13 rfl (lv_at hl 0 rfl) ?_
    replace h := o_b h; obtain ⟨x14, h14, h⟩ := h
    refine m_get (C := RX7) (T := TX7) (N := 7) (ci := 7) hx hb hts qi_X7_earlier_X7 hown hK.1 hM 1 (ldR_F h14) rfl (by decide) (hts _ q_X7_earlier_2) (fun _ h9 => h9) dX7_earlier_14 ?_
    refine lv_iload_n hx hb dX7_earlier_17 rfl (lv_at hl 3 rfl) ?_
    replace h := o_b h; obtain ⟨x18, h18, h⟩ := h
    refine m_iald hx hb hK.1 hM hS rfl h18 dX7_earlier_18 ?_
    refine lv_iload_n hx hb dX7_earlier_19 rfl (lv_at hl 1 rfl) ?_
    refine lv_ishr hx hb dX7_earlier_20 ?_
    refine lv_iconst (v := (1 : Int32)) hx hb dX7_earlier_21 (by decide) ?_
    refine lv_iand hx hb dX7_earlier_22 ?_
    refine lv_iload_n hx hb dX7_earlier_23 rfl (lv_at hl 3 rfl) ?_
    refine lv_ishl hx hb dX7_earlier_24 ?_
    refine lv_ior hx hb dX7_earlier_25 ?_
    refine lv_istore_n (lv' := [(2, .int (v2 ||| (((x18 >>> (v1 &&& 31)) &&& (1 : Int32)) <<< (v3 &&& 31)))), (0, .ref v0), (1, .int v1), (3, .int v3)]) hx hb dX7_earlier_26 rfl hl (by decide) rfl (fun ls hl => ?_)
    refine lv_iinc (v := (v3 + (1 : Int32))) (lv' := [(3, .int (v3 + (1 : Int32))), (2, .int (v2 ||| (((x18 >>> (v1 &&& 31)) &&& (1 : Int32)) <<< (v3 &&& 31)))), (0, .ref v0), (1, .int v1)]) hx hb dX7_earlier_27 hl (k := 3) rfl rfl (by decide) rfl (fun ls hl => ?_)
    refine lv_goto (tgt := 4) hx hb dX7_earlier_30 (by decide) ?_
    exact ih _ _ _ _ h _ _ _ hM hS (lv_sub hl [2, 3, 1, 0] rfl)
set_option maxHeartbeats 4000000 in
set_option maxRecDepth 100000 in
theorem w_X7_earlier (C0 : CX cX7_earlier 4 (some .int) wsX7_earlier RX7 p s m args meth c D b0) {v0 : Nat} {v1 : Int32} {res : Int32} (h : f_X7_earlier v0 v1 f = some res) : ∀ (H : Heap) (locs : List Loc) (ls : Array Slot), MM vwCl D b0 f sz s H → mS b0 s H locs → lv_has ls 4 [(0, .ref v0), (1, .int v1)] → W p l e ({ frames := 0, cells := 0, slots := 0, locals := 0 } : Room) s m args below meth c H locs 0 0 (MQ below (QW D b0 (some (.int res)) f sz) args s 0 0 (fun q => b0 ≤ q)) (F0 m 0 ls []) := by
  obtain ⟨hx, hb, hr, hml, hown, hts, hlocks, hK⟩ := id C0
  intro H locs ls hM hS hl
  unfold f_X7_earlier at h
  refine lv_iconst (v := (0 : Int32)) hx hb dX7_earlier_0 (by decide) ?_
  refine lv_istore_n (lv' := [(2, .int (0 : Int32)), (0, .ref v0), (1, .int v1)]) hx hb dX7_earlier_1 rfl hl (by decide) rfl (fun ls hl => ?_)
  refine lv_iconst (v := (0 : Int32)) hx hb dX7_earlier_2 (by decide) ?_
  refine lv_istore_n (lv' := [(3, .int (0 : Int32)), (2, .int (0 : Int32)), (0, .ref v0), (1, .int v1)]) hx hb dX7_earlier_3 rfl hl (by decide) rfl (fun ls hl => ?_)
  exact w_X7_earlier_4 C0 FU _ _ _ _ h _ _ _ hM hS (lv_sub hl [2, 3, 1, 0] rfl)
set_option maxHeartbeats 4000000 in
set_option maxRecDepth 100000 in
theorem c_X7_earlier (l : Launch) (D : mmD) (b0 sz : Nat) {v0 : Nat} {v1 : Int32} {f : mmF} {res : Int32} (h : f_X7_earlier v0 v1 f = some res) : Met l yX7_earlier wsX7_earlier ({ frames := 0, cells := 0, slots := 0, locals := 0 } : Room) (va_Pc [.ref v0, .int v1] (PW D b0 f sz)) (QW D b0 (some (.int res)) f sz) 0 0 (fun q => b0 ≤ q) := by
  refine Met.ofW (cc := cX7_earlier) (maxL := 4) (ret := (some .int)) (by decide) rfl ?_
  intro p e s m args below meth c s₁ B hml hv
  obtain ⟨rfl, hM, hK⟩ := hv
  have hl := lv_entry ([.ref v0, .int v1]) (n := 4) (Nat.le_of_ble_eq_true rfl)
  rw [lg_entry_eq]
  generalize (lg_sl ([.ref v0, .int v1]) ++ List.replicate (4 - (lg_sl ([.ref v0, .int v1])).length) Slot.unset).toArray = ls at hl ⊢
  have hl : lv_has ls 4 [(0, .ref v0), (1, .int v1)] := hl
  exact w_X7_earlier ⟨B.exec, B.bytes, B.returns, hml, findClass_of_methodNamed B.named, atoms_spec (ws := wsX7_earlier) B.pre, B.notSynchronized, hK⟩ h s.heap [] ls hM va_S.rf hl
end S_X7_earlier
/-! X7_knowing -/
set_option maxRecDepth 20000 in
theorem qi_X7_knowing_X7 : ∀ w ∈ u_ws RX7 TX7 7, w ∈ wsX7_knowing := by decide +kernel
set_option maxRecDepth 20000 in
theorem q_X7_knowing_1 : Cond.fieldLink RX7 9 "StageTruths$State" "stages" "I" ∈ wsX7_knowing := by decide +kernel
set_option maxRecDepth 20000 in
theorem q_X7_knowing_2 : Cond.fieldLink RX7 19 "StageTruths$State" "facts" "[I" ∈ wsX7_knowing := by decide +kernel
noncomputable def f_X7_knowing_4  (f : mmF) : Nat → Nat → Int32 → Int32 → Int32 → Option (Int32)
  | 0, _, _, _, _ => none
  | n + 1, v0, v1, v2, v3 =>
    (ldI f v0 7 0).bind fun x6 =>
    if x6 ≤ v3 then
    (some (v2))
    else
    (ldR f v0 7 2).bind fun x14 =>
    (ldA 0 f x14 v3).bind fun x18 =>
    f_X7_knowing_4 f n v0 v1 (v2 ||| (((x18 >>> (v1 &&& 31)) &&& (1 : Int32)) <<< (v3 &&& 31))) (v3 + (1 : Int32))
noncomputable def f_X7_knowing (v0 : Nat) (v1 : Int32) (f : mmF) : Option (Int32) :=
  f_X7_knowing_4 f FU v0 v1 (0 : Int32) (0 : Int32)
section S_X7_knowing
variable {p : Program} {l : Launch} {e : Env} {s : State} {m : MethodId} {args : Array Value} {below : List Frame} {meth : Method} {c : Code} {D : mmD} {b0 sz : Nat} {f : mmF}
set_option maxHeartbeats 4000000 in
set_option maxRecDepth 100000 in
theorem w_X7_knowing_4 (C0 : CX cX7_knowing 4 (some .int) wsX7_knowing RX7 p s m args meth c D b0) {res : Int32} : ∀ (n : Nat), ∀ (v0 : Nat) (v1 : Int32) (v2 : Int32) (v3 : Int32), f_X7_knowing_4 f n v0 v1 v2 v3 = some res → ∀ (H : Heap) (locs : List Loc) (ls : Array Slot), MM vwCl D b0 f sz s H → mS b0 s H locs → lv_has ls 4 [(0, .ref v0), (1, .int v1), (2, .int v2), (3, .int v3)] → W p l e ({ frames := 0, cells := 0, slots := 0, locals := 0 } : Room) s m args below meth c H locs 0 0 (MQ below (QW D b0 (some (.int res)) f sz) args s 0 0 (fun q => b0 ≤ q)) (F0 m 4 ls []) := by
  obtain ⟨hx, hb, hr, hml, hown, hts, hlocks, hK⟩ := id C0
  intro n
  induction n with
  | zero =>
    intro v0 v1 v2 v3 h
    have h : (none : Option (Int32)) = some res := h
    cases h
  | succ n ih =>
    intro v0 v1 v2 v3 h H locs ls hM hS hl
    rw [f_X7_knowing_4] at h
    refine lv_iload_n hx hb dX7_knowing_4 rfl (lv_at hl 3 rfl) ?_
    refine lv_aload_n hx hb dX7_knowing_5 rfl (lv_at hl 0 rfl) ?_
    replace h := o_b h; obtain ⟨x6, h6, h⟩ := h
    refine m_get (C := RX7) (T := TX7) (N := 7) (ci := 7) hx hb hts qi_X7_knowing_X7 hown hK.1 hM 0 (ldI_F h6) rfl (by decide) (hts _ q_X7_knowing_1) (fun _ h9 => h9) dX7_knowing_6 ?_
    refine lv_icmp_ge (tgt := 33) hx hb dX7_knowing_9 (by decide) (fun c9 => ?_) (fun c9 => ?_)
    · replace h := o_t c9 h
      refine lv_iload_n hx hb dX7_knowing_33 rfl (lv_at hl 2 rfl) ?_
      replace h := Option.some.inj h; subst h
      exact W.iret hx hb hr (fun t ht hW => ⟨rfl, by rw [ht]; exact hM.moved hW.alike, hS.F ht⟩) hS.2.2 dX7_knowing_34
    replace h := o_f c9 h
    refine lv_iload_n hx hb dX7_knowing_12 rfl (lv_at hl 2 rfl) ?_
    refine lv_aload_n hx hb dX7_knowing_13 rfl (lv_at hl 0 rfl) ?_
    replace h := o_b h; obtain ⟨x14, h14, h⟩ := h
    refine m_get (C := RX7) (T := TX7) (N := 7) (ci := 7) hx hb hts qi_X7_knowing_X7 hown hK.1 hM 2 (ldR_F h14) rfl (by decide) (hts _ q_X7_knowing_2) (fun _ h9 => h9) dX7_knowing_14 ?_
    refine lv_iload_n hx hb dX7_knowing_17 rfl (lv_at hl 3 rfl) ?_
    replace h := o_b h; obtain ⟨x18, h18, h⟩ := h
    refine m_iald hx hb hK.1 hM hS rfl h18 dX7_knowing_18 ?_
    refine lv_iload_n hx hb dX7_knowing_19 rfl (lv_at hl 1 rfl) ?_
    refine lv_ishr hx hb dX7_knowing_20 ?_
    refine lv_iconst (v := (1 : Int32)) hx hb dX7_knowing_21 (by decide) ?_
    refine lv_iand hx hb dX7_knowing_22 ?_
    refine lv_iload_n hx hb dX7_knowing_23 rfl (lv_at hl 3 rfl) ?_
    refine lv_ishl hx hb dX7_knowing_24 ?_
    refine lv_ior hx hb dX7_knowing_25 ?_
    refine lv_istore_n (lv' := [(2, .int (v2 ||| (((x18 >>> (v1 &&& 31)) &&& (1 : Int32)) <<< (v3 &&& 31)))), (0, .ref v0), (1, .int v1), (3, .int v3)]) hx hb dX7_knowing_26 rfl hl (by decide) rfl (fun ls hl => ?_)
    refine lv_iinc (v := (v3 + (1 : Int32))) (lv' := [(3, .int (v3 + (1 : Int32))), (2, .int (v2 ||| (((x18 >>> (v1 &&& 31)) &&& (1 : Int32)) <<< (v3 &&& 31)))), (0, .ref v0), (1, .int v1)]) hx hb dX7_knowing_27 hl (k := 3) rfl rfl (by decide) rfl (fun ls hl => ?_)
    refine lv_goto (tgt := 4) hx hb dX7_knowing_30 (by decide) ?_
    exact ih _ _ _ _ h _ _ _ hM hS (lv_sub hl [2, 3, 1, 0] rfl)
set_option maxHeartbeats 4000000 in
set_option maxRecDepth 100000 in
theorem w_X7_knowing (C0 : CX cX7_knowing 4 (some .int) wsX7_knowing RX7 p s m args meth c D b0) {v0 : Nat} {v1 : Int32} {res : Int32} (h : f_X7_knowing v0 v1 f = some res) : ∀ (H : Heap) (locs : List Loc) (ls : Array Slot), MM vwCl D b0 f sz s H → mS b0 s H locs → lv_has ls 4 [(0, .ref v0), (1, .int v1)] → W p l e ({ frames := 0, cells := 0, slots := 0, locals := 0 } : Room) s m args below meth c H locs 0 0 (MQ below (QW D b0 (some (.int res)) f sz) args s 0 0 (fun q => b0 ≤ q)) (F0 m 0 ls []) := by
  obtain ⟨hx, hb, hr, hml, hown, hts, hlocks, hK⟩ := id C0
  intro H locs ls hM hS hl
  unfold f_X7_knowing at h
  refine lv_iconst (v := (0 : Int32)) hx hb dX7_knowing_0 (by decide) ?_
  refine lv_istore_n (lv' := [(2, .int (0 : Int32)), (0, .ref v0), (1, .int v1)]) hx hb dX7_knowing_1 rfl hl (by decide) rfl (fun ls hl => ?_)
  refine lv_iconst (v := (0 : Int32)) hx hb dX7_knowing_2 (by decide) ?_
  refine lv_istore_n (lv' := [(3, .int (0 : Int32)), (2, .int (0 : Int32)), (0, .ref v0), (1, .int v1)]) hx hb dX7_knowing_3 rfl hl (by decide) rfl (fun ls hl => ?_)
  exact w_X7_knowing_4 C0 FU _ _ _ _ h _ _ _ hM hS (lv_sub hl [2, 3, 1, 0] rfl)
set_option maxHeartbeats 4000000 in
set_option maxRecDepth 100000 in
theorem c_X7_knowing (l : Launch) (D : mmD) (b0 sz : Nat) {v0 : Nat} {v1 : Int32} {f : mmF} {res : Int32} (h : f_X7_knowing v0 v1 f = some res) : Met l yX7_knowing wsX7_knowing ({ frames := 0, cells := 0, slots := 0, locals := 0 } : Room) (va_Pc [.ref v0, .int v1] (PW D b0 f sz)) (QW D b0 (some (.int res)) f sz) 0 0 (fun q => b0 ≤ q) := by
  refine Met.ofW (cc := cX7_knowing) (maxL := 4) (ret := (some .int)) (by decide) rfl ?_
  intro p e s m args below meth c s₁ B hml hv
  obtain ⟨rfl, hM, hK⟩ := hv
  have hl := lv_entry ([.ref v0, .int v1]) (n := 4) (Nat.le_of_ble_eq_true rfl)
  rw [lg_entry_eq]
  generalize (lg_sl ([.ref v0, .int v1]) ++ List.replicate (4 - (lg_sl ([.ref v0, .int v1])).length) Slot.unset).toArray = ls at hl ⊢
  have hl : lv_has ls 4 [(0, .ref v0), (1, .int v1)] := hl
  exact w_X7_knowing ⟨B.exec, B.bytes, B.returns, hml, findClass_of_methodNamed B.named, atoms_spec (ws := wsX7_knowing) B.pre, B.notSynchronized, hK⟩ h s.heap [] ls hM va_S.rf hl
end S_X7_knowing
/-! X7_filledPlaces -/
set_option maxRecDepth 20000 in
theorem qi_X7_filledPlaces_X7 : ∀ w ∈ u_ws RX7 TX7 7, w ∈ wsX7_filledPlaces := by decide +kernel
set_option maxRecDepth 20000 in
theorem q_X7_filledPlaces_1 : Cond.fieldLink RX7 24 "StageTruths$State" "shelf" "[LStageTruths$Claim;" ∈ wsX7_filledPlaces := by decide +kernel
noncomputable def f_X7_filledPlaces_26 (k4 : Nat → Int32 → Int32 → Option (Int32)) (f : mmF) (v0 : Nat) (v2 : Int32) (t0 : Int32) (t1 : Int32) : Option (Int32) :=
  k4 v0 (t0 ||| t1) (v2 + (1 : Int32))
noncomputable def f_X7_filledPlaces_4  (f : mmF) : Nat → Nat → Int32 → Int32 → Option (Int32)
  | 0, _, _, _ => none
  | n + 1, v0, v1, v2 =>
    if (5 : Int32) ≤ v2 then
    (some (v1))
    else
    (ldR f v0 7 3).bind fun x11 =>
    (ldQ 3 f x11 v2).bind fun x15 =>
    qc x15 (f_X7_filledPlaces_26 (fun a0 a1 a2 => f_X7_filledPlaces_4 f n a0 a1 a2) f v0 v2 v1 (0 : Int32)) (fun r16 =>
    f_X7_filledPlaces_26 (fun a0 a1 a2 => f_X7_filledPlaces_4 f n a0 a1 a2) f v0 v2 v1 ((1 : Int32) <<< (v2 &&& 31)))
noncomputable def f_X7_filledPlaces (v0 : Nat) (f : mmF) : Option (Int32) :=
  f_X7_filledPlaces_4 f FU v0 (0 : Int32) (0 : Int32)
section S_X7_filledPlaces
variable {p : Program} {l : Launch} {e : Env} {s : State} {m : MethodId} {args : Array Value} {below : List Frame} {meth : Method} {c : Code} {D : mmD} {b0 sz : Nat} {f : mmF}
set_option maxHeartbeats 4000000 in
set_option maxRecDepth 100000 in
theorem w_X7_filledPlaces_26 (C0 : CX cX7_filledPlaces 3 (some .int) wsX7_filledPlaces RX7 p s m args meth c D b0) {k4 : Nat → Int32 → Int32 → Option (Int32)} {res : Int32} (hk4 : ∀ (v0 : Nat) (v1 : Int32) (v2 : Int32), k4 v0 v1 v2 = some res → ∀ (H : Heap) (locs : List Loc) (ls : Array Slot), MM vwCl D b0 f sz s H → mS b0 s H locs → lv_has ls 3 [(0, .ref v0), (1, .int v1), (2, .int v2)] → W p l e ({ frames := 0, cells := 0, slots := 0, locals := 0 } : Room) s m args below meth c H locs 0 0 (MQ below (QW D b0 (some (.int res)) f sz) args s 0 0 (fun q => b0 ≤ q)) (F0 m 4 ls [])) : ∀ (v0 : Nat) (v2 : Int32) (t0 : Int32) (t1 : Int32), f_X7_filledPlaces_26 k4 f v0 v2 t0 t1 = some res → ∀ (H : Heap) (locs : List Loc) (ls : Array Slot), MM vwCl D b0 f sz s H → mS b0 s H locs → lv_has ls 3 [(0, .ref v0), (2, .int v2)] → W p l e ({ frames := 0, cells := 0, slots := 0, locals := 0 } : Room) s m args below meth c H locs 0 0 (MQ below (QW D b0 (some (.int res)) f sz) args s 0 0 (fun q => b0 ≤ q)) (F0 m 26 ls [.int t1, .int t0]) := by
  obtain ⟨hx, hb, hr, hml, hown, hts, hlocks, hK⟩ := id C0
  intro v0 v2 t0 t1 h H locs ls hM hS hl
  unfold f_X7_filledPlaces_26 at h
  refine lv_ior hx hb dX7_filledPlaces_26 ?_
  refine lv_istore_n (lv' := [(1, .int (t0 ||| t1)), (0, .ref v0), (2, .int v2)]) hx hb dX7_filledPlaces_27 rfl hl (by decide) rfl (fun ls hl => ?_)
  refine lv_iinc (v := (v2 + (1 : Int32))) (lv' := [(2, .int (v2 + (1 : Int32))), (1, .int (t0 ||| t1)), (0, .ref v0)]) hx hb dX7_filledPlaces_28 hl (k := 2) rfl rfl (by decide) rfl (fun ls hl => ?_)
  refine lv_goto (tgt := 4) hx hb dX7_filledPlaces_31 (by decide) ?_
  exact hk4 _ _ _ h _ _ _ hM hS (lv_sub hl [2, 1, 0] rfl)
set_option maxHeartbeats 4000000 in
set_option maxRecDepth 100000 in
theorem w_X7_filledPlaces_4 (C0 : CX cX7_filledPlaces 3 (some .int) wsX7_filledPlaces RX7 p s m args meth c D b0) {res : Int32} : ∀ (n : Nat), ∀ (v0 : Nat) (v1 : Int32) (v2 : Int32), f_X7_filledPlaces_4 f n v0 v1 v2 = some res → ∀ (H : Heap) (locs : List Loc) (ls : Array Slot), MM vwCl D b0 f sz s H → mS b0 s H locs → lv_has ls 3 [(0, .ref v0), (1, .int v1), (2, .int v2)] → W p l e ({ frames := 0, cells := 0, slots := 0, locals := 0 } : Room) s m args below meth c H locs 0 0 (MQ below (QW D b0 (some (.int res)) f sz) args s 0 0 (fun q => b0 ≤ q)) (F0 m 4 ls []) := by
  obtain ⟨hx, hb, hr, hml, hown, hts, hlocks, hK⟩ := id C0
  intro n
  induction n with
  | zero =>
    intro v0 v1 v2 h
    have h : (none : Option (Int32)) = some res := h
    cases h
  | succ n ih =>
    intro v0 v1 v2 h H locs ls hM hS hl
    rw [f_X7_filledPlaces_4] at h
    refine lv_iload_n hx hb dX7_filledPlaces_4 rfl (lv_at hl 2 rfl) ?_
    refine lv_iconst (v := (5 : Int32)) hx hb dX7_filledPlaces_5 (by decide) ?_
    refine lv_icmp_ge (tgt := 34) hx hb dX7_filledPlaces_6 (by decide) (fun c6 => ?_) (fun c6 => ?_)
    · replace h := o_t c6 h
      refine lv_iload_n hx hb dX7_filledPlaces_34 rfl (lv_at hl 1 rfl) ?_
      replace h := Option.some.inj h; subst h
      exact W.iret hx hb hr (fun t ht hW => ⟨rfl, by rw [ht]; exact hM.moved hW.alike, hS.F ht⟩) hS.2.2 dX7_filledPlaces_35
    replace h := o_f c6 h
    refine lv_iload_n hx hb dX7_filledPlaces_9 rfl (lv_at hl 1 rfl) ?_
    refine lv_aload_n hx hb dX7_filledPlaces_10 rfl (lv_at hl 0 rfl) ?_
    replace h := o_b h; obtain ⟨x11, h11, h⟩ := h
    refine m_get (C := RX7) (T := TX7) (N := 7) (ci := 7) hx hb hts qi_X7_filledPlaces_X7 hown hK.1 hM 3 (ldR_F h11) rfl (by decide) (hts _ q_X7_filledPlaces_1) (fun _ h9 => h9) dX7_filledPlaces_11 ?_
    refine lv_iload_n hx hb dX7_filledPlaces_14 rfl (lv_at hl 2 rfl) ?_
    replace h := o_b h; obtain ⟨x15, h15, h⟩ := h
    refine m_aldq 3 (by decide) rfl hx hb hK.1 hM h15 dX7_filledPlaces_15 ?_
    rcases x15 with _ | r16
    · replace h := qc_n h
      refine lv_ifnonnullN hx hb dX7_filledPlaces_16 ?_
      refine lv_iconst (v := (0 : Int32)) hx hb dX7_filledPlaces_19 (by decide) ?_
      refine lv_goto (tgt := 26) hx hb dX7_filledPlaces_20 (by decide) ?_
      exact w_X7_filledPlaces_26 C0 ih _ _ _ _ h _ _ _ hM hS (lv_sub hl [0, 2] rfl)
    replace h := qc_s h
    refine lv_ifnonnull (tgt := 23) hx hb dX7_filledPlaces_16 (by decide) ?_
    refine lv_iconst (v := (1 : Int32)) hx hb dX7_filledPlaces_23 (by decide) ?_
    refine lv_iload_n hx hb dX7_filledPlaces_24 rfl (lv_at hl 2 rfl) ?_
    refine lv_ishl hx hb dX7_filledPlaces_25 ?_
    exact w_X7_filledPlaces_26 C0 ih _ _ _ _ h _ _ _ hM hS (lv_sub hl [0, 2] rfl)
set_option maxHeartbeats 4000000 in
set_option maxRecDepth 100000 in
theorem w_X7_filledPlaces (C0 : CX cX7_filledPlaces 3 (some .int) wsX7_filledPlaces RX7 p s m args meth c D b0) {v0 : Nat} {res : Int32} (h : f_X7_filledPlaces v0 f = some res) : ∀ (H : Heap) (locs : List Loc) (ls : Array Slot), MM vwCl D b0 f sz s H → mS b0 s H locs → lv_has ls 3 [(0, .ref v0)] → W p l e ({ frames := 0, cells := 0, slots := 0, locals := 0 } : Room) s m args below meth c H locs 0 0 (MQ below (QW D b0 (some (.int res)) f sz) args s 0 0 (fun q => b0 ≤ q)) (F0 m 0 ls []) := by
  obtain ⟨hx, hb, hr, hml, hown, hts, hlocks, hK⟩ := id C0
  intro H locs ls hM hS hl
  unfold f_X7_filledPlaces at h
  refine lv_iconst (v := (0 : Int32)) hx hb dX7_filledPlaces_0 (by decide) ?_
  refine lv_istore_n (lv' := [(1, .int (0 : Int32)), (0, .ref v0)]) hx hb dX7_filledPlaces_1 rfl hl (by decide) rfl (fun ls hl => ?_)
  refine lv_iconst (v := (0 : Int32)) hx hb dX7_filledPlaces_2 (by decide) ?_
  refine lv_istore_n (lv' := [(2, .int (0 : Int32)), (1, .int (0 : Int32)), (0, .ref v0)]) hx hb dX7_filledPlaces_3 rfl hl (by decide) rfl (fun ls hl => ?_)
  exact w_X7_filledPlaces_4 C0 FU _ _ _ h _ _ _ hM hS (lv_sub hl [2, 1, 0] rfl)
set_option maxHeartbeats 4000000 in
set_option maxRecDepth 100000 in
theorem c_X7_filledPlaces (l : Launch) (D : mmD) (b0 sz : Nat) {v0 : Nat} {f : mmF} {res : Int32} (h : f_X7_filledPlaces v0 f = some res) : Met l yX7_filledPlaces wsX7_filledPlaces ({ frames := 0, cells := 0, slots := 0, locals := 0 } : Room) (va_Pc [.ref v0] (PW D b0 f sz)) (QW D b0 (some (.int res)) f sz) 0 0 (fun q => b0 ≤ q) := by
  refine Met.ofW (cc := cX7_filledPlaces) (maxL := 3) (ret := (some .int)) (by decide) rfl ?_
  intro p e s m args below meth c s₁ B hml hv
  obtain ⟨rfl, hM, hK⟩ := hv
  have hl := lv_entry ([.ref v0]) (n := 3) (Nat.le_of_ble_eq_true rfl)
  rw [lg_entry_eq]
  generalize (lg_sl ([.ref v0]) ++ List.replicate (3 - (lg_sl ([.ref v0])).length) Slot.unset).toArray = ls at hl ⊢
  have hl : lv_has ls 3 [(0, .ref v0)] := hl
  exact w_X7_filledPlaces ⟨B.exec, B.bytes, B.returns, hml, findClass_of_methodNamed B.named, atoms_spec (ws := wsX7_filledPlaces) B.pre, B.notSynchronized, hK⟩ h s.heap [] ls hM va_S.rf hl
end S_X7_filledPlaces
/-! X7_pairs -/
set_option maxRecDepth 20000 in
theorem qi_X7_pairs_X7 : ∀ w ∈ u_ws RX7 TX7 7, w ∈ wsX7_pairs := by decide +kernel
set_option maxRecDepth 20000 in
theorem q_X7_pairs_1 : Cond.fieldLink RX7 9 "StageTruths$State" "stages" "I" ∈ wsX7_pairs := by decide +kernel
set_option maxRecDepth 20000 in
theorem q_X7_pairs_2 : Cond.fieldLink RX7 15 "StageTruths$State" "later" "[I" ∈ wsX7_pairs := by decide +kernel
noncomputable def f_X7_pairs_4  (f : mmF) : Nat → Nat → Int32 → Int32 → Option (Int32)
  | 0, _, _, _ => none
  | n + 1, v0, v1, v2 =>
    (ldI f v0 7 0).bind fun x6 =>
    if x6 ≤ v2 then
    (some (v1))
    else
    (ldR f v0 7 1).bind fun x14 =>
    (ldA 0 f x14 v2).bind fun x18 =>
    (f_J6_bitCount_0f7a4 x18 f).bind fun q19 =>
    f_X7_pairs_4 f n v0 (v1 + q19) (v2 + (1 : Int32))
noncomputable def f_X7_pairs (v0 : Nat) (f : mmF) : Option (Int32) :=
  f_X7_pairs_4 f FU v0 (0 : Int32) (0 : Int32)
section S_X7_pairs
variable {p : Program} {l : Launch} {e : Env} {s : State} {m : MethodId} {args : Array Value} {below : List Frame} {meth : Method} {c : Code} {D : mmD} {b0 sz : Nat} {f : mmF}
set_option maxHeartbeats 4000000 in
set_option maxRecDepth 100000 in
theorem w_X7_pairs_4 (C0 : CX cX7_pairs 3 (some .int) wsX7_pairs RX7 p s m args meth c D b0) {res : Int32} : ∀ (n : Nat), ∀ (v0 : Nat) (v1 : Int32) (v2 : Int32), f_X7_pairs_4 f n v0 v1 v2 = some res → ∀ (H : Heap) (locs : List Loc) (ls : Array Slot), MM vwCl D b0 f sz s H → mS b0 s H locs → lv_has ls 3 [(0, .ref v0), (1, .int v1), (2, .int v2)] → W p l e ({ frames := 1, cells := 0, slots := 0, locals := 20 } : Room) s m args below meth c H locs 0 0 (MQ below (QW D b0 (some (.int res)) f sz) args s 0 0 (fun q => b0 ≤ q)) (F0 m 4 ls []) := by
  obtain ⟨hx, hb, hr, hml, hown, hts, hlocks, hK⟩ := id C0
  intro n
  induction n with
  | zero =>
    intro v0 v1 v2 h
    have h : (none : Option (Int32)) = some res := h
    cases h
  | succ n ih =>
    intro v0 v1 v2 h H locs ls hM hS hl
    rw [f_X7_pairs_4] at h
    refine lv_iload_n hx hb dX7_pairs_4 rfl (lv_at hl 2 rfl) ?_
    refine lv_aload_n hx hb dX7_pairs_5 rfl (lv_at hl 0 rfl) ?_
    replace h := o_b h; obtain ⟨x6, h6, h⟩ := h
    refine m_get (C := RX7) (T := TX7) (N := 7) (ci := 7) hx hb hts qi_X7_pairs_X7 hown hK.1 hM 0 (ldI_F h6) rfl (by decide) (hts _ q_X7_pairs_1) (fun _ h9 => h9) dX7_pairs_6 ?_
    refine lv_icmp_ge (tgt := 30) hx hb dX7_pairs_9 (by decide) (fun c9 => ?_) (fun c9 => ?_)
    · replace h := o_t c9 h
      refine lv_iload_n hx hb dX7_pairs_30 rfl (lv_at hl 1 rfl) ?_
      replace h := Option.some.inj h; subst h
      exact W.iret hx hb hr (fun t ht hW => ⟨rfl, by rw [ht]; exact hM.moved hW.alike, hS.F ht⟩) hS.2.2 dX7_pairs_31
    replace h := o_f c9 h
    refine lv_iload_n hx hb dX7_pairs_12 rfl (lv_at hl 1 rfl) ?_
    refine lv_aload_n hx hb dX7_pairs_13 rfl (lv_at hl 0 rfl) ?_
    replace h := o_b h; obtain ⟨x14, h14, h⟩ := h
    refine m_get (C := RX7) (T := TX7) (N := 7) (ci := 7) hx hb hts qi_X7_pairs_X7 hown hK.1 hM 1 (ldR_F h14) rfl (by decide) (hts _ q_X7_pairs_2) (fun _ h9 => h9) dX7_pairs_14 ?_
    refine lv_iload_n hx hb dX7_pairs_17 rfl (lv_at hl 2 rfl) ?_
    replace h := o_b h; obtain ⟨x18, h18, h⟩ := h
    refine m_iald hx hb hK.1 hM hS rfl h18 dX7_pairs_18 ?_
    replace h := o_b h; obtain ⟨q19, h19, h⟩ := h
    refine m_call (va_runS (As := [.int x18]) (rest := [.int v1]) ⟨hx, hb, hml, hown, hts⟩ (c_J6_bitCount_0f7a4 l D b0 sz h19) (va_cwS 1 hts gX7_pairs_J6_bitCount_0f7a4 rfl rfl rfl (by decide +kernel) ⟨Nat.le_of_ble_eq_true rfl, Nat.le_of_ble_eq_true rfl⟩) ⟨PW.blind, (fun U hU hW => ⟨rfl, PW.call hK hM hS hU hW⟩)⟩ rfl rfl hl.1 rfl (lv_room (Nat.le_of_ble_eq_true rfl)) dX7_pairs_19 ⟨(Nat.le_refl _), (Nat.le_refl _)⟩) hS (fun H locs hM hS => ?_)
    refine lv_iadd hx hb dX7_pairs_22 ?_
    refine lv_istore_n (lv' := [(1, .int (v1 + q19)), (0, .ref v0), (2, .int v2)]) hx hb dX7_pairs_23 rfl hl (by decide) rfl (fun ls hl => ?_)
    refine lv_iinc (v := (v2 + (1 : Int32))) (lv' := [(2, .int (v2 + (1 : Int32))), (1, .int (v1 + q19)), (0, .ref v0)]) hx hb dX7_pairs_24 hl (k := 2) rfl rfl (by decide) rfl (fun ls hl => ?_)
    refine lv_goto (tgt := 4) hx hb dX7_pairs_27 (by decide) ?_
    exact ih _ _ _ h _ _ _ hM hS (lv_sub hl [2, 1, 0] rfl)
set_option maxHeartbeats 4000000 in
set_option maxRecDepth 100000 in
theorem w_X7_pairs (C0 : CX cX7_pairs 3 (some .int) wsX7_pairs RX7 p s m args meth c D b0) {v0 : Nat} {res : Int32} (h : f_X7_pairs v0 f = some res) : ∀ (H : Heap) (locs : List Loc) (ls : Array Slot), MM vwCl D b0 f sz s H → mS b0 s H locs → lv_has ls 3 [(0, .ref v0)] → W p l e ({ frames := 1, cells := 0, slots := 0, locals := 20 } : Room) s m args below meth c H locs 0 0 (MQ below (QW D b0 (some (.int res)) f sz) args s 0 0 (fun q => b0 ≤ q)) (F0 m 0 ls []) := by
  obtain ⟨hx, hb, hr, hml, hown, hts, hlocks, hK⟩ := id C0
  intro H locs ls hM hS hl
  unfold f_X7_pairs at h
  refine lv_iconst (v := (0 : Int32)) hx hb dX7_pairs_0 (by decide) ?_
  refine lv_istore_n (lv' := [(1, .int (0 : Int32)), (0, .ref v0)]) hx hb dX7_pairs_1 rfl hl (by decide) rfl (fun ls hl => ?_)
  refine lv_iconst (v := (0 : Int32)) hx hb dX7_pairs_2 (by decide) ?_
  refine lv_istore_n (lv' := [(2, .int (0 : Int32)), (1, .int (0 : Int32)), (0, .ref v0)]) hx hb dX7_pairs_3 rfl hl (by decide) rfl (fun ls hl => ?_)
  exact w_X7_pairs_4 C0 FU _ _ _ h _ _ _ hM hS (lv_sub hl [2, 1, 0] rfl)
set_option maxHeartbeats 4000000 in
set_option maxRecDepth 100000 in
theorem c_X7_pairs (l : Launch) (D : mmD) (b0 sz : Nat) {v0 : Nat} {f : mmF} {res : Int32} (h : f_X7_pairs v0 f = some res) : Met l yX7_pairs wsX7_pairs ({ frames := 1, cells := 0, slots := 0, locals := 20 } : Room) (va_Pc [.ref v0] (PW D b0 f sz)) (QW D b0 (some (.int res)) f sz) 0 0 (fun q => b0 ≤ q) := by
  refine Met.ofW (cc := cX7_pairs) (maxL := 3) (ret := (some .int)) (by decide) rfl ?_
  intro p e s m args below meth c s₁ B hml hv
  obtain ⟨rfl, hM, hK⟩ := hv
  have hl := lv_entry ([.ref v0]) (n := 3) (Nat.le_of_ble_eq_true rfl)
  rw [lg_entry_eq]
  generalize (lg_sl ([.ref v0]) ++ List.replicate (3 - (lg_sl ([.ref v0])).length) Slot.unset).toArray = ls at hl ⊢
  have hl : lv_has ls 3 [(0, .ref v0)] := hl
  exact w_X7_pairs ⟨B.exec, B.bytes, B.returns, hml, findClass_of_methodNamed B.named, atoms_spec (ws := wsX7_pairs) B.pre, B.notSynchronized, hK⟩ h s.heap [] ls hM va_S.rf hl
end S_X7_pairs
/-! X7_lastStages -/
set_option maxRecDepth 20000 in
theorem qi_X7_lastStages_X7 : ∀ w ∈ u_ws RX7 TX7 7, w ∈ wsX7_lastStages := by decide +kernel
set_option maxRecDepth 20000 in
theorem q_X7_lastStages_1 : Cond.fieldLink RX7 9 "StageTruths$State" "stages" "I" ∈ wsX7_lastStages := by decide +kernel
set_option maxRecDepth 20000 in
theorem q_X7_lastStages_2 : Cond.fieldLink RX7 15 "StageTruths$State" "later" "[I" ∈ wsX7_lastStages := by decide +kernel
noncomputable def f_X7_lastStages_32 (k4 : Nat → Int32 → Int32 → Option (Int32)) (f : mmF) (v0 : Nat) (v2 : Int32) (t0 : Int32) (t1 : Int32) : Option (Int32) :=
  k4 v0 (t0 ||| t1) (v2 + (1 : Int32))
noncomputable def f_X7_lastStages_4  (f : mmF) : Nat → Nat → Int32 → Int32 → Option (Int32)
  | 0, _, _, _ => none
  | n + 1, v0, v1, v2 =>
    (ldI f v0 7 0).bind fun x6 =>
    if x6 ≤ v2 then
    (some (v1))
    else
    (ldR f v0 7 1).bind fun x14 =>
    (ldA 0 f x14 v2).bind fun x18 =>
    if x18 = ((1 : Int32) <<< (v2 &&& 31)) then
    (f_X7_lastStages_32 (fun a0 a1 a2 => f_X7_lastStages_4 f n a0 a1 a2) f v0 v2 v1 ((1 : Int32) <<< (v2 &&& 31)))
    else
    f_X7_lastStages_32 (fun a0 a1 a2 => f_X7_lastStages_4 f n a0 a1 a2) f v0 v2 v1 (0 : Int32)
noncomputable def f_X7_lastStages (v0 : Nat) (f : mmF) : Option (Int32) :=
  f_X7_lastStages_4 f FU v0 (0 : Int32) (0 : Int32)
section S_X7_lastStages
variable {p : Program} {l : Launch} {e : Env} {s : State} {m : MethodId} {args : Array Value} {below : List Frame} {meth : Method} {c : Code} {D : mmD} {b0 sz : Nat} {f : mmF}
set_option maxHeartbeats 4000000 in
set_option maxRecDepth 100000 in
theorem w_X7_lastStages_32 (C0 : CX cX7_lastStages 3 (some .int) wsX7_lastStages RX7 p s m args meth c D b0) {k4 : Nat → Int32 → Int32 → Option (Int32)} {res : Int32} (hk4 : ∀ (v0 : Nat) (v1 : Int32) (v2 : Int32), k4 v0 v1 v2 = some res → ∀ (H : Heap) (locs : List Loc) (ls : Array Slot), MM vwCl D b0 f sz s H → mS b0 s H locs → lv_has ls 3 [(0, .ref v0), (1, .int v1), (2, .int v2)] → W p l e ({ frames := 0, cells := 0, slots := 0, locals := 0 } : Room) s m args below meth c H locs 0 0 (MQ below (QW D b0 (some (.int res)) f sz) args s 0 0 (fun q => b0 ≤ q)) (F0 m 4 ls [])) : ∀ (v0 : Nat) (v2 : Int32) (t0 : Int32) (t1 : Int32), f_X7_lastStages_32 k4 f v0 v2 t0 t1 = some res → ∀ (H : Heap) (locs : List Loc) (ls : Array Slot), MM vwCl D b0 f sz s H → mS b0 s H locs → lv_has ls 3 [(0, .ref v0), (2, .int v2)] → W p l e ({ frames := 0, cells := 0, slots := 0, locals := 0 } : Room) s m args below meth c H locs 0 0 (MQ below (QW D b0 (some (.int res)) f sz) args s 0 0 (fun q => b0 ≤ q)) (F0 m 32 ls [.int t1, .int t0]) := by
  obtain ⟨hx, hb, hr, hml, hown, hts, hlocks, hK⟩ := id C0
  intro v0 v2 t0 t1 h H locs ls hM hS hl
  unfold f_X7_lastStages_32 at h
  refine lv_ior hx hb dX7_lastStages_32 ?_
  refine lv_istore_n (lv' := [(1, .int (t0 ||| t1)), (0, .ref v0), (2, .int v2)]) hx hb dX7_lastStages_33 rfl hl (by decide) rfl (fun ls hl => ?_)
  refine lv_iinc (v := (v2 + (1 : Int32))) (lv' := [(2, .int (v2 + (1 : Int32))), (1, .int (t0 ||| t1)), (0, .ref v0)]) hx hb dX7_lastStages_34 hl (k := 2) rfl rfl (by decide) rfl (fun ls hl => ?_)
  refine lv_goto (tgt := 4) hx hb dX7_lastStages_37 (by decide) ?_
  exact hk4 _ _ _ h _ _ _ hM hS (lv_sub hl [2, 1, 0] rfl)
set_option maxHeartbeats 4000000 in
set_option maxRecDepth 100000 in
theorem w_X7_lastStages_4 (C0 : CX cX7_lastStages 3 (some .int) wsX7_lastStages RX7 p s m args meth c D b0) {res : Int32} : ∀ (n : Nat), ∀ (v0 : Nat) (v1 : Int32) (v2 : Int32), f_X7_lastStages_4 f n v0 v1 v2 = some res → ∀ (H : Heap) (locs : List Loc) (ls : Array Slot), MM vwCl D b0 f sz s H → mS b0 s H locs → lv_has ls 3 [(0, .ref v0), (1, .int v1), (2, .int v2)] → W p l e ({ frames := 0, cells := 0, slots := 0, locals := 0 } : Room) s m args below meth c H locs 0 0 (MQ below (QW D b0 (some (.int res)) f sz) args s 0 0 (fun q => b0 ≤ q)) (F0 m 4 ls []) := by
  obtain ⟨hx, hb, hr, hml, hown, hts, hlocks, hK⟩ := id C0
  intro n
  induction n with
  | zero =>
    intro v0 v1 v2 h
    have h : (none : Option (Int32)) = some res := h
    cases h
  | succ n ih =>
    intro v0 v1 v2 h H locs ls hM hS hl
    rw [f_X7_lastStages_4] at h
    refine lv_iload_n hx hb dX7_lastStages_4 rfl (lv_at hl 2 rfl) ?_
    refine lv_aload_n hx hb dX7_lastStages_5 rfl (lv_at hl 0 rfl) ?_
    replace h := o_b h; obtain ⟨x6, h6, h⟩ := h
    refine m_get (C := RX7) (T := TX7) (N := 7) (ci := 7) hx hb hts qi_X7_lastStages_X7 hown hK.1 hM 0 (ldI_F h6) rfl (by decide) (hts _ q_X7_lastStages_1) (fun _ h9 => h9) dX7_lastStages_6 ?_
    refine lv_icmp_ge (tgt := 40) hx hb dX7_lastStages_9 (by decide) (fun c9 => ?_) (fun c9 => ?_)
    · replace h := o_t c9 h
      refine lv_iload_n hx hb dX7_lastStages_40 rfl (lv_at hl 1 rfl) ?_
      replace h := Option.some.inj h; subst h
      exact W.iret hx hb hr (fun t ht hW => ⟨rfl, by rw [ht]; exact hM.moved hW.alike, hS.F ht⟩) hS.2.2 dX7_lastStages_41
    replace h := o_f c9 h
    refine lv_iload_n hx hb dX7_lastStages_12 rfl (lv_at hl 1 rfl) ?_
    refine lv_aload_n hx hb dX7_lastStages_13 rfl (lv_at hl 0 rfl) ?_
    replace h := o_b h; obtain ⟨x14, h14, h⟩ := h
    refine m_get (C := RX7) (T := TX7) (N := 7) (ci := 7) hx hb hts qi_X7_lastStages_X7 hown hK.1 hM 1 (ldR_F h14) rfl (by decide) (hts _ q_X7_lastStages_2) (fun _ h9 => h9) dX7_lastStages_14 ?_
    refine lv_iload_n hx hb dX7_lastStages_17 rfl (lv_at hl 2 rfl) ?_
    replace h := o_b h; obtain ⟨x18, h18, h⟩ := h
    refine m_iald hx hb hK.1 hM hS rfl h18 dX7_lastStages_18 ?_
    refine lv_iconst (v := (1 : Int32)) hx hb dX7_lastStages_19 (by decide) ?_
    refine lv_iload_n hx hb dX7_lastStages_20 rfl (lv_at hl 2 rfl) ?_
    refine lv_ishl hx hb dX7_lastStages_21 ?_
    refine lv_icmp_ne (tgt := 31) hx hb dX7_lastStages_22 (by decide) (fun c22 => ?_) (fun c22 => ?_)
    · replace h := o_f c22 h
      refine lv_iconst (v := (0 : Int32)) hx hb dX7_lastStages_31 (by decide) ?_
      exact w_X7_lastStages_32 C0 ih _ _ _ _ h _ _ _ hM hS (lv_sub hl [0, 2] rfl)
    replace h := o_t c22 h
    refine lv_iconst (v := (1 : Int32)) hx hb dX7_lastStages_25 (by decide) ?_
    refine lv_iload_n hx hb dX7_lastStages_26 rfl (lv_at hl 2 rfl) ?_
    refine lv_ishl hx hb dX7_lastStages_27 ?_
    refine lv_goto (tgt := 32) hx hb dX7_lastStages_28 (by decide) ?_
    exact w_X7_lastStages_32 C0 ih _ _ _ _ h _ _ _ hM hS (lv_sub hl [0, 2] rfl)
set_option maxHeartbeats 4000000 in
set_option maxRecDepth 100000 in
theorem w_X7_lastStages (C0 : CX cX7_lastStages 3 (some .int) wsX7_lastStages RX7 p s m args meth c D b0) {v0 : Nat} {res : Int32} (h : f_X7_lastStages v0 f = some res) : ∀ (H : Heap) (locs : List Loc) (ls : Array Slot), MM vwCl D b0 f sz s H → mS b0 s H locs → lv_has ls 3 [(0, .ref v0)] → W p l e ({ frames := 0, cells := 0, slots := 0, locals := 0 } : Room) s m args below meth c H locs 0 0 (MQ below (QW D b0 (some (.int res)) f sz) args s 0 0 (fun q => b0 ≤ q)) (F0 m 0 ls []) := by
  obtain ⟨hx, hb, hr, hml, hown, hts, hlocks, hK⟩ := id C0
  intro H locs ls hM hS hl
  unfold f_X7_lastStages at h
  refine lv_iconst (v := (0 : Int32)) hx hb dX7_lastStages_0 (by decide) ?_
  refine lv_istore_n (lv' := [(1, .int (0 : Int32)), (0, .ref v0)]) hx hb dX7_lastStages_1 rfl hl (by decide) rfl (fun ls hl => ?_)
  refine lv_iconst (v := (0 : Int32)) hx hb dX7_lastStages_2 (by decide) ?_
  refine lv_istore_n (lv' := [(2, .int (0 : Int32)), (1, .int (0 : Int32)), (0, .ref v0)]) hx hb dX7_lastStages_3 rfl hl (by decide) rfl (fun ls hl => ?_)
  exact w_X7_lastStages_4 C0 FU _ _ _ h _ _ _ hM hS (lv_sub hl [2, 1, 0] rfl)
set_option maxHeartbeats 4000000 in
set_option maxRecDepth 100000 in
theorem c_X7_lastStages (l : Launch) (D : mmD) (b0 sz : Nat) {v0 : Nat} {f : mmF} {res : Int32} (h : f_X7_lastStages v0 f = some res) : Met l yX7_lastStages wsX7_lastStages ({ frames := 0, cells := 0, slots := 0, locals := 0 } : Room) (va_Pc [.ref v0] (PW D b0 f sz)) (QW D b0 (some (.int res)) f sz) 0 0 (fun q => b0 ≤ q) := by
  refine Met.ofW (cc := cX7_lastStages) (maxL := 3) (ret := (some .int)) (by decide) rfl ?_
  intro p e s m args below meth c s₁ B hml hv
  obtain ⟨rfl, hM, hK⟩ := hv
  have hl := lv_entry ([.ref v0]) (n := 3) (Nat.le_of_ble_eq_true rfl)
  rw [lg_entry_eq]
  generalize (lg_sl ([.ref v0]) ++ List.replicate (3 - (lg_sl ([.ref v0])).length) Slot.unset).toArray = ls at hl ⊢
  have hl : lv_has ls 3 [(0, .ref v0)] := hl
  exact w_X7_lastStages ⟨B.exec, B.bytes, B.returns, hml, findClass_of_methodNamed B.named, atoms_spec (ws := wsX7_lastStages) B.pre, B.notSynchronized, hK⟩ h s.heap [] ls hM va_S.rf hl
end S_X7_lastStages
