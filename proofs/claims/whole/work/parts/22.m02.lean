/-! X5_openGoal -/
set_option maxRecDepth 20000 in
theorem qi_X5_openGoal_X5 : ∀ w ∈ u_ws RX5 TX5 5, w ∈ wsX5_openGoal := by decide +kernel
set_option maxRecDepth 20000 in
theorem q_X5_openGoal_1 : Cond.fieldLink RX5 24 "StageTruths$Proof" "parts" "LStageTruths$Parts;" ∈ wsX5_openGoal := by decide +kernel
set_option maxRecDepth 20000 in
theorem qi_X5_openGoal_X4 : ∀ w ∈ u_ws RX4 TX4 8, w ∈ wsX5_openGoal := by decide +kernel
set_option maxRecDepth 20000 in
theorem q_X5_openGoal_3 : Cond.fieldLink RX5 141 "StageTruths$Parts" "size" "I" ∈ wsX5_openGoal := by decide +kernel
set_option maxRecDepth 20000 in
theorem q_X5_openGoal_4 : Cond.fieldLink RX5 108 "StageTruths$Parts" "left" "[I" ∈ wsX5_openGoal := by decide +kernel
set_option maxRecDepth 20000 in
theorem q_X5_openGoal_5 : Cond.initialized RX9 ∈ wsX5_openGoal := by decide +kernel
set_option maxRecDepth 20000 in
theorem q_X5_openGoal_6 : Cond.static yX9_at ∈ wsX5_openGoal := by decide +kernel
set_option maxRecDepth 20000 in
theorem q_X5_openGoal_7 : Cond.fieldLink RX5 111 "StageTruths$Parts" "right" "[I" ∈ wsX5_openGoal := by decide +kernel
noncomputable def f_X5_openGoal_5   : Nat → Nat → Nat → Int32 → Int32 → mmF → Option (Int32 × mmF)
  | 0, _, _, _, _, _ => none
  | n + 1, v0, v1, v3, v4, f =>
    (ldR f v0 5 1).bind fun x8 =>
    (ldI f x8 4 0).bind fun x11 =>
    if x11 ≤ v4 then
    (some (v3, f))
    else
    (ldR f v0 5 1).bind fun x18 =>
    (ckO f x18 4).bind fun _ =>
    (f_X4_isIf x18 v3 f).bind fun q22 =>
    if q22 = 0 then
    (some (v3, f))
    else
    (ldR f v0 5 1).bind fun x31 =>
    (ldR f x31 4 2).bind fun x34 =>
    (f_X9_at x34 v3 f).bind fun q38 =>
    (ckO f v0 5).bind fun _ =>
    (f_X5_assume v0 v1 q38 f).bind fun q41 =>
    (ldR q41 v0 5 1).bind fun x45 =>
    (ldR q41 x45 4 3).bind fun x48 =>
    (f_X9_at x48 v3 q41).bind fun q52 =>
    f_X5_openGoal_5 n v0 v1 q52 (v4 + (1 : Int32)) q41
noncomputable def f_X5_openGoal (v0 : Nat) (v1 : Nat) (v2 : Int32) (f : mmF) : Option (Int32 × mmF) :=
  f_X5_openGoal_5 FU v0 v1 v2 (0 : Int32) f
section S_X5_openGoal
variable {p : Program} {l : Launch} {e : Env} {s : State} {m : MethodId} {args : Array Value} {below : List Frame} {meth : Method} {c : Code} {D : mmD} {b0 sz : Nat} {f : mmF}
set_option maxHeartbeats 4000000 in
set_option maxRecDepth 100000 in
theorem w_X5_openGoal_5 (C0 : CX cX5_openGoal 5 (some .int) wsX5_openGoal RX5 p s m args meth c D b0) {res : Int32 × mmF} : ∀ (n : Nat), ∀ (v0 : Nat) (v1 : Nat) (v3 : Int32) (v4 : Int32) (f : mmF), f_X5_openGoal_5 n v0 v1 v3 v4 f = some res → ∀ (H : Heap) (locs : List Loc) (ls : Array Slot), MM vwCl D b0 f sz s H → mS b0 s H locs → lv_has ls 5 [(0, .ref v0), (1, .ref v1), (3, .int v3), (4, .int v4)] → W p l e ({ frames := 3, cells := 0, slots := 0, locals := 64 } : Room) s m args below meth c H locs 0 0 (MQ below (QW D b0 (some (.int res.1)) res.2 sz) args s 0 0 (fun q => b0 ≤ q)) (F0 m 5 ls []) := by
  obtain ⟨hx, hb, hr, hml, hown, hts, hlocks, hK⟩ := id C0
  intro n
  induction n with
  | zero =>
    intro v0 v1 v3 v4 f h
    have h : (none : Option (Int32 × mmF)) = some res := h
    cases h
  | succ n ih =>
    intro v0 v1 v3 v4 f h H locs ls hM hS hl
    rw [f_X5_openGoal_5] at h
    refine lv_iload hx hb dX5_openGoal_5 (lv_at hl 3 rfl) ?_
    refine lv_aload_n hx hb dX5_openGoal_7 rfl (lv_at hl 0 rfl) ?_
    replace h := o_b h; obtain ⟨x8, h8, h⟩ := h
    refine m_get (C := RX5) (T := TX5) (N := 5) (ci := 5) hx hb hts qi_X5_openGoal_X5 hown hK.1 hM 1 (ldR_F h8) rfl (by decide) (hts _ q_X5_openGoal_1) (fun _ h9 => h9) dX5_openGoal_8 ?_
    replace h := o_b h; obtain ⟨x11, h11, h⟩ := h
    refine m_get (C := RX4) (T := TX4) (N := 8) (ci := 4) hx hb hts qi_X5_openGoal_X4 hown hK.1 hM 0 (ldI_F h11) rfl (by decide) (hts _ q_X5_openGoal_3) (fun _ h9 => h9) dX5_openGoal_11 ?_
    refine lv_icmp_ge (tgt := 62) hx hb dX5_openGoal_14 (by decide) (fun c14 => ?_) (fun c14 => ?_)
    · replace h := o_t c14 h
      refine lv_iload_n hx hb dX5_openGoal_62 rfl (lv_at hl 2 rfl) ?_
      replace h := Option.some.inj h; subst h
      exact W.iret hx hb hr (fun t ht hW => ⟨rfl, by rw [ht]; exact hM.moved hW.alike, hS.F ht⟩) hS.2.2 dX5_openGoal_63
    replace h := o_f c14 h
    refine lv_aload_n hx hb dX5_openGoal_17 rfl (lv_at hl 0 rfl) ?_
    replace h := o_b h; obtain ⟨x18, h18, h⟩ := h
    refine m_get (C := RX5) (T := TX5) (N := 5) (ci := 5) hx hb hts qi_X5_openGoal_X5 hown hK.1 hM 1 (ldR_F h18) rfl (by decide) (hts _ q_X5_openGoal_1) (fun _ h9 => h9) dX5_openGoal_18 ?_
    refine lv_iload_n hx hb dX5_openGoal_21 rfl (lv_at hl 2 rfl) ?_
    replace h := o_b h; obtain ⟨_, k22, h⟩ := h
    replace h := o_b h; obtain ⟨q22, h22, h⟩ := h
    refine m_call (va_runV (As := [.int v3]) (rest := []) ⟨hx, hb, hml, hown, hts⟩ (c_X4_isIf l D b0 sz h22) (cwV 1 hts gX5_openGoal_X4_isIf rfl rfl rfl (by decide +kernel) ⟨Nat.le_of_ble_eq_true rfl, Nat.le_of_ble_eq_true rfl⟩) ⟨PW.blind, m_recv (ci := 4) rfl hK hM k22, (fun U hU hW => ⟨rfl, PW.call hK hM hS hU hW⟩)⟩ rfl rfl hl.1 rfl (lv_room (Nat.le_of_ble_eq_true rfl)) dX5_openGoal_22 ⟨(Nat.le_refl _), (Nat.le_refl _)⟩) hS (fun H locs hM hS => ?_)
    refine lv_if_eq (tgt := 62) hx hb dX5_openGoal_25 (by decide) (fun c25 => ?_) (fun c25 => ?_)
    · replace h := o_t c25 h
      refine lv_iload_n hx hb dX5_openGoal_62 rfl (lv_at hl 2 rfl) ?_
      replace h := Option.some.inj h; subst h
      exact W.iret hx hb hr (fun t ht hW => ⟨rfl, by rw [ht]; exact hM.moved hW.alike, hS.F ht⟩) hS.2.2 dX5_openGoal_63
    replace h := o_f c25 h
    refine lv_aload_n hx hb dX5_openGoal_28 rfl (lv_at hl 0 rfl) ?_
    refine lv_aload_n hx hb dX5_openGoal_29 rfl (lv_at hl 1 rfl) ?_
    refine lv_aload_n hx hb dX5_openGoal_30 rfl (lv_at hl 0 rfl) ?_
    replace h := o_b h; obtain ⟨x31, h31, h⟩ := h
    refine m_get (C := RX5) (T := TX5) (N := 5) (ci := 5) hx hb hts qi_X5_openGoal_X5 hown hK.1 hM 1 (ldR_F h31) rfl (by decide) (hts _ q_X5_openGoal_1) (fun _ h9 => h9) dX5_openGoal_31 ?_
    replace h := o_b h; obtain ⟨x34, h34, h⟩ := h
    refine m_get (C := RX4) (T := TX4) (N := 8) (ci := 4) hx hb hts qi_X5_openGoal_X4 hown hK.1 hM 2 (ldR_F h34) rfl (by decide) (hts _ q_X5_openGoal_4) (fun _ h9 => h9) dX5_openGoal_34 ?_
    refine lv_iload_n hx hb dX5_openGoal_37 rfl (lv_at hl 2 rfl) ?_
    replace h := o_b h; obtain ⟨q38, h38, h⟩ := h
    refine m_call (va_runSN (As := [.ref x34, .int v3]) (rest := [.ref v1, .ref v0]) ⟨hx, hb, hml, hown, hts⟩ (c_X9_at l D b0 sz h38) ⟨(va_cnB 2 hts gX5_openGoal_X9_at_n104 rfl rfl rfl (hK.2.1 (RX5, 104, yX9_at, "StageTruths") (by decide)) (hts _ q_X5_openGoal_5) (by decide +kernel) ⟨Nat.le_of_ble_eq_true rfl, Nat.le_of_ble_eq_true rfl⟩), (hts _ q_X5_openGoal_6), trivial⟩ ⟨PW.blind, (fun U hU hW => ⟨rfl, PW.call hK hM hS hU hW⟩)⟩ rfl rfl hl.1 rfl (lv_room (Nat.le_of_ble_eq_true rfl)) dX5_openGoal_38 ⟨(Nat.le_refl _), (Nat.le_refl _)⟩) hS (fun H locs hM hS => ?_)
    replace h := o_b h; obtain ⟨_, k41, h⟩ := h
    replace h := o_b h; obtain ⟨q41, h41, h⟩ := h
    refine m_call (va_runV (As := [.ref v1, .int q38]) (rest := []) ⟨hx, hb, hml, hown, hts⟩ (c_X5_assume l D b0 sz h41) (cwV 2 hts gX5_openGoal_X5_assume rfl rfl rfl (by decide +kernel) ⟨Nat.le_of_ble_eq_true rfl, Nat.le_of_ble_eq_true rfl⟩) ⟨PW.blind, m_recv (ci := 5) rfl hK hM k41, (fun U hU hW => ⟨rfl, PW.call hK hM hS hU hW⟩)⟩ rfl rfl hl.1 rfl (lv_room (Nat.le_of_ble_eq_true rfl)) dX5_openGoal_41 ⟨(Nat.le_refl _), (Nat.le_refl _)⟩) hS (fun H locs hM hS => ?_)
    refine lv_aload_n hx hb dX5_openGoal_44 rfl (lv_at hl 0 rfl) ?_
    replace h := o_b h; obtain ⟨x45, h45, h⟩ := h
    refine m_get (C := RX5) (T := TX5) (N := 5) (ci := 5) hx hb hts qi_X5_openGoal_X5 hown hK.1 hM 1 (ldR_F h45) rfl (by decide) (hts _ q_X5_openGoal_1) (fun _ h9 => h9) dX5_openGoal_45 ?_
    replace h := o_b h; obtain ⟨x48, h48, h⟩ := h
    refine m_get (C := RX4) (T := TX4) (N := 8) (ci := 4) hx hb hts qi_X5_openGoal_X4 hown hK.1 hM 3 (ldR_F h48) rfl (by decide) (hts _ q_X5_openGoal_7) (fun _ h9 => h9) dX5_openGoal_48 ?_
    refine lv_iload_n hx hb dX5_openGoal_51 rfl (lv_at hl 2 rfl) ?_
    replace h := o_b h; obtain ⟨q52, h52, h⟩ := h
    refine m_call (va_runSN (As := [.ref x48, .int v3]) (rest := []) ⟨hx, hb, hml, hown, hts⟩ (c_X9_at l D b0 sz h52) ⟨(va_cnB 2 hts gX5_openGoal_X9_at_n104 rfl rfl rfl (hK.2.1 (RX5, 104, yX9_at, "StageTruths") (by decide)) (hts _ q_X5_openGoal_5) (by decide +kernel) ⟨Nat.le_of_ble_eq_true rfl, Nat.le_of_ble_eq_true rfl⟩), (hts _ q_X5_openGoal_6), trivial⟩ ⟨PW.blind, (fun U hU hW => ⟨rfl, PW.call hK hM hS hU hW⟩)⟩ rfl rfl hl.1 rfl (lv_room (Nat.le_of_ble_eq_true rfl)) dX5_openGoal_52 ⟨(Nat.le_refl _), (Nat.le_refl _)⟩) hS (fun H locs hM hS => ?_)
    refine lv_istore_n (lv' := [(3, .int q52), (0, .ref v0), (1, .ref v1), (4, .int v4)]) hx hb dX5_openGoal_55 rfl hl (by decide) rfl (fun ls hl => ?_)
    refine lv_iinc (v := (v4 + (1 : Int32))) (lv' := [(4, .int (v4 + (1 : Int32))), (3, .int q52), (0, .ref v0), (1, .ref v1)]) hx hb dX5_openGoal_56 hl (k := 3) rfl rfl (by decide) rfl (fun ls hl => ?_)
    refine lv_goto (tgt := 5) hx hb dX5_openGoal_59 (by decide) ?_
    exact ih _ _ _ _ _ h _ _ _ hM hS (lv_sub hl [2, 3, 1, 0] rfl)
set_option maxHeartbeats 4000000 in
set_option maxRecDepth 100000 in
theorem w_X5_openGoal (C0 : CX cX5_openGoal 5 (some .int) wsX5_openGoal RX5 p s m args meth c D b0) {v0 : Nat} {v1 : Nat} {v2 : Int32} {res : Int32 × mmF} (h : f_X5_openGoal v0 v1 v2 f = some res) : ∀ (H : Heap) (locs : List Loc) (ls : Array Slot), MM vwCl D b0 f sz s H → mS b0 s H locs → lv_has ls 5 [(0, .ref v0), (1, .ref v1), (2, .int v2)] → W p l e ({ frames := 3, cells := 0, slots := 0, locals := 64 } : Room) s m args below meth c H locs 0 0 (MQ below (QW D b0 (some (.int res.1)) res.2 sz) args s 0 0 (fun q => b0 ≤ q)) (F0 m 0 ls []) := by
  obtain ⟨hx, hb, hr, hml, hown, hts, hlocks, hK⟩ := id C0
  intro H locs ls hM hS hl
  unfold f_X5_openGoal at h
  refine lv_iload_n hx hb dX5_openGoal_0 rfl (lv_at hl 2 rfl) ?_
  refine lv_istore_n (lv' := [(3, .int v2), (0, .ref v0), (1, .ref v1), (2, .int v2)]) hx hb dX5_openGoal_1 rfl hl (by decide) rfl (fun ls hl => ?_)
  refine lv_iconst (v := (0 : Int32)) hx hb dX5_openGoal_2 (by decide) ?_
  refine lv_istore (lv' := [(4, .int (0 : Int32)), (3, .int v2), (0, .ref v0), (1, .ref v1), (2, .int v2)]) hx hb dX5_openGoal_3 hl (by decide) rfl (fun ls hl => ?_)
  exact w_X5_openGoal_5 C0 FU _ _ _ _ _ h _ _ _ hM hS (lv_sub hl [2, 3, 1, 0] rfl)
set_option maxHeartbeats 4000000 in
set_option maxRecDepth 100000 in
theorem c_X5_openGoal (l : Launch) (D : mmD) (b0 sz : Nat) {v0 : Nat} {v1 : Nat} {v2 : Int32} {f : mmF} {res : Int32 × mmF} (h : f_X5_openGoal v0 v1 v2 f = some res) : Met l yX5_openGoal wsX5_openGoal ({ frames := 3, cells := 0, slots := 0, locals := 64 } : Room) (va_Pc [.ref v0, .ref v1, .int v2] (PW D b0 f sz)) (QW D b0 (some (.int res.1)) res.2 sz) 0 0 (fun q => b0 ≤ q) := by
  refine Met.ofW (cc := cX5_openGoal) (maxL := 5) (ret := (some .int)) (by decide) rfl ?_
  intro p e s m args below meth c s₁ B hml hv
  obtain ⟨rfl, hM, hK⟩ := hv
  have hl := lv_entry ([.ref v0, .ref v1, .int v2]) (n := 5) (Nat.le_of_ble_eq_true rfl)
  rw [lg_entry_eq]
  generalize (lg_sl ([.ref v0, .ref v1, .int v2]) ++ List.replicate (5 - (lg_sl ([.ref v0, .ref v1, .int v2])).length) Slot.unset).toArray = ls at hl ⊢
  have hl : lv_has ls 5 [(0, .ref v0), (1, .ref v1), (2, .int v2)] := hl
  exact w_X5_openGoal ⟨B.exec, B.bytes, B.returns, hml, findClass_of_methodNamed B.named, atoms_spec (ws := wsX5_openGoal) B.pre, B.notSynchronized, hK⟩ h s.heap [] ls hM va_S.rf hl
end S_X5_openGoal
/-! X5_meetsSingle -/
set_option maxRecDepth 20000 in
theorem qi_X5_meetsSingle_X5 : ∀ w ∈ u_ws RX5 TX5 5, w ∈ wsX5_meetsSingle := by decide +kernel
set_option maxRecDepth 20000 in
theorem q_X5_meetsSingle_1 : Cond.fieldLink RX5 24 "StageTruths$Proof" "parts" "LStageTruths$Parts;" ∈ wsX5_meetsSingle := by decide +kernel
set_option maxRecDepth 20000 in
theorem qi_X5_meetsSingle_X4 : ∀ w ∈ u_ws RX4 TX4 8, w ∈ wsX5_meetsSingle := by decide +kernel
set_option maxRecDepth 20000 in
theorem q_X5_meetsSingle_3 : Cond.fieldLink RX5 141 "StageTruths$Parts" "size" "I" ∈ wsX5_meetsSingle := by decide +kernel
set_option maxRecDepth 20000 in
theorem qi_X5_meetsSingle_X2 : ∀ w ∈ u_ws RX2 TX2 5, w ∈ wsX5_meetsSingle := by decide +kernel
set_option maxRecDepth 20000 in
theorem q_X5_meetsSingle_5 : Cond.fieldLink RX5 114 "StageTruths$Level" "found" "LStageTruths$PartSet;" ∈ wsX5_meetsSingle := by decide +kernel
set_option maxRecDepth 20000 in
theorem q_X5_meetsSingle_6 : Cond.fieldLink RX5 14 "StageTruths$Proof" "models" "LStageTruths$SmallModels;" ∈ wsX5_meetsSingle := by decide +kernel
set_option maxRecDepth 20000 in
theorem q_X5_meetsSingle_7 : Cond.fieldLink RX5 55 "StageTruths$Level" "singles" "I" ∈ wsX5_meetsSingle := by decide +kernel
noncomputable def f_X5_meetsSingle_69 (k31 : Nat → Nat → Int32 → Int32 → mmF → Option (Int32 × mmF))  (v0 : Nat) (v1 : Nat) (v4 : Int32) (v5 : Int32) (t0 : Nat) (t1 : Int32) (t2 : Int32) (f : mmF) : Option (Int32 × mmF) :=
  (ckO f t0 3).bind fun _ =>
  (f_X3_set t0 t1 t2 f).bind fun q69 =>
  k31 v0 v1 v4 (v5 + (1 : Int32)) q69
noncomputable def f_X5_meetsSingle_31   : Nat → Nat → Nat → Int32 → Int32 → mmF → Option (Int32 × mmF)
  | 0, _, _, _, _, _ => none
  | n + 1, v0, v1, v4, v5, f =>
    (ldR f v0 5 1).bind fun x34 =>
    (ldI f x34 4 0).bind fun x37 =>
    if x37 ≤ v5 then
    (some ((1 : Int32), f))
    else
    (ldR f v1 2 3).bind fun x44 =>
    (ldR f v0 5 0).bind fun x50 =>
    (ckO f x50 6).bind fun _ =>
    (f_X6_singles x50 v5 f).bind fun q55 =>
    if (q55 &&& v4) = 0 then
    (f_X5_meetsSingle_69 (fun a0 a1 a2 a3 a4 => f_X5_meetsSingle_31 n a0 a1 a2 a3 a4) v0 v1 v4 v5 x44 v5 (0 : Int32) f)
    else
    f_X5_meetsSingle_69 (fun a0 a1 a2 a3 a4 => f_X5_meetsSingle_31 n a0 a1 a2 a3 a4) v0 v1 v4 v5 x44 v5 (1 : Int32) f
noncomputable def f_X5_meetsSingle (v0 : Nat) (v1 : Nat) (v2 : Int32) (f : mmF) : Option (Int32 × mmF) :=
  (ldI f v1 2 4).bind fun x1 =>
  (ldR f v0 5 0).bind fun x5 =>
  (ckO f x5 6).bind fun _ =>
  (f_X6_singles x5 v2 f).bind fun q9 =>
  if (x1 &&& (q9 ^^^ (-1 : Int32))) = 0 then
  (some ((0 : Int32), f))
  else
  f_X5_meetsSingle_31 FU v0 v1 ((x1 &&& (q9 ^^^ (-1 : Int32))) &&& (-(x1 &&& (q9 ^^^ (-1 : Int32))))) (0 : Int32) f
section S_X5_meetsSingle
variable {p : Program} {l : Launch} {e : Env} {s : State} {m : MethodId} {args : Array Value} {below : List Frame} {meth : Method} {c : Code} {D : mmD} {b0 sz : Nat} {f : mmF}
set_option maxHeartbeats 4000000 in
set_option maxRecDepth 100000 in
theorem w_X5_meetsSingle_69 (C0 : CX cX5_meetsSingle 6 (some .boolean) wsX5_meetsSingle RX5 p s m args meth c D b0) {k31 : Nat → Nat → Int32 → Int32 → mmF → Option (Int32 × mmF)} {res : Int32 × mmF} (hk31 : ∀ (v0 : Nat) (v1 : Nat) (v4 : Int32) (v5 : Int32) (f : mmF), k31 v0 v1 v4 v5 f = some res → ∀ (H : Heap) (locs : List Loc) (ls : Array Slot), MM vwCl D b0 f sz s H → mS b0 s H locs → lv_has ls 6 [(0, .ref v0), (1, .ref v1), (4, .int v4), (5, .int v5)] → W p l e ({ frames := 2, cells := 0, slots := 0, locals := 42 } : Room) s m args below meth c H locs 0 0 (MQ below (QW D b0 (some (.int res.1)) res.2 sz) args s 0 0 (fun q => b0 ≤ q)) (F0 m 31 ls [])) : ∀ (v0 : Nat) (v1 : Nat) (v4 : Int32) (v5 : Int32) (t0 : Nat) (t1 : Int32) (t2 : Int32) (f : mmF), f_X5_meetsSingle_69 k31 v0 v1 v4 v5 t0 t1 t2 f = some res → ∀ (H : Heap) (locs : List Loc) (ls : Array Slot), MM vwCl D b0 f sz s H → mS b0 s H locs → lv_has ls 6 [(0, .ref v0), (1, .ref v1), (4, .int v4), (5, .int v5)] → W p l e ({ frames := 2, cells := 0, slots := 0, locals := 42 } : Room) s m args below meth c H locs 0 0 (MQ below (QW D b0 (some (.int res.1)) res.2 sz) args s 0 0 (fun q => b0 ≤ q)) (F0 m 69 ls [.int t2, .int t1, .ref t0]) := by
  obtain ⟨hx, hb, hr, hml, hown, hts, hlocks, hK⟩ := id C0
  intro v0 v1 v4 v5 t0 t1 t2 f h H locs ls hM hS hl
  unfold f_X5_meetsSingle_69 at h
  replace h := o_b h; obtain ⟨_, k69, h⟩ := h
  replace h := o_b h; obtain ⟨q69, h69, h⟩ := h
  refine m_call (va_runV (As := [.int t1, .int t2]) (rest := []) ⟨hx, hb, hml, hown, hts⟩ (c_X3_set l D b0 sz h69) (cwV 2 hts gX5_meetsSingle_X3_set rfl rfl rfl (by decide +kernel) ⟨Nat.le_of_ble_eq_true rfl, Nat.le_of_ble_eq_true rfl⟩) ⟨PW.blind, m_recv (ci := 3) rfl hK hM k69, (fun U hU hW => ⟨rfl, PW.call hK hM hS hU hW⟩)⟩ rfl rfl hl.1 rfl (lv_room (Nat.le_of_ble_eq_true rfl)) dX5_meetsSingle_69 ⟨(Nat.le_refl _), (Nat.le_refl _)⟩) hS (fun H locs hM hS => ?_)
  refine lv_iinc (v := (v5 + (1 : Int32))) (lv' := [(5, .int (v5 + (1 : Int32))), (0, .ref v0), (1, .ref v1), (4, .int v4)]) hx hb dX5_meetsSingle_72 hl (k := 3) rfl rfl (by decide) rfl (fun ls hl => ?_)
  refine lv_goto (tgt := 31) hx hb dX5_meetsSingle_75 (by decide) ?_
  exact hk31 _ _ _ _ _ h _ _ _ hM hS (lv_sub hl [1, 2, 3, 0] rfl)
set_option maxHeartbeats 4000000 in
set_option maxRecDepth 100000 in
theorem w_X5_meetsSingle_31 (C0 : CX cX5_meetsSingle 6 (some .boolean) wsX5_meetsSingle RX5 p s m args meth c D b0) {res : Int32 × mmF} : ∀ (n : Nat), ∀ (v0 : Nat) (v1 : Nat) (v4 : Int32) (v5 : Int32) (f : mmF), f_X5_meetsSingle_31 n v0 v1 v4 v5 f = some res → ∀ (H : Heap) (locs : List Loc) (ls : Array Slot), MM vwCl D b0 f sz s H → mS b0 s H locs → lv_has ls 6 [(0, .ref v0), (1, .ref v1), (4, .int v4), (5, .int v5)] → W p l e ({ frames := 2, cells := 0, slots := 0, locals := 42 } : Room) s m args below meth c H locs 0 0 (MQ below (QW D b0 (some (.int res.1)) res.2 sz) args s 0 0 (fun q => b0 ≤ q)) (F0 m 31 ls []) := by
  obtain ⟨hx, hb, hr, hml, hown, hts, hlocks, hK⟩ := id C0
  intro n
  induction n with
  | zero =>
    intro v0 v1 v4 v5 f h
    have h : (none : Option (Int32 × mmF)) = some res := h
    cases h
  | succ n ih =>
    intro v0 v1 v4 v5 f h H locs ls hM hS hl
    rw [f_X5_meetsSingle_31] at h
    refine lv_iload hx hb dX5_meetsSingle_31 (lv_at hl 3 rfl) ?_
    refine lv_aload_n hx hb dX5_meetsSingle_33 rfl (lv_at hl 0 rfl) ?_
    replace h := o_b h; obtain ⟨x34, h34, h⟩ := h
    refine m_get (C := RX5) (T := TX5) (N := 5) (ci := 5) hx hb hts qi_X5_meetsSingle_X5 hown hK.1 hM 1 (ldR_F h34) rfl (by decide) (hts _ q_X5_meetsSingle_1) (fun _ h9 => h9) dX5_meetsSingle_34 ?_
    replace h := o_b h; obtain ⟨x37, h37, h⟩ := h
    refine m_get (C := RX4) (T := TX4) (N := 8) (ci := 4) hx hb hts qi_X5_meetsSingle_X4 hown hK.1 hM 0 (ldI_F h37) rfl (by decide) (hts _ q_X5_meetsSingle_3) (fun _ h9 => h9) dX5_meetsSingle_37 ?_
    refine lv_icmp_ge (tgt := 78) hx hb dX5_meetsSingle_40 (by decide) (fun c40 => ?_) (fun c40 => ?_)
    · replace h := o_t c40 h
      refine lv_iconst (v := (1 : Int32)) hx hb dX5_meetsSingle_78 (by decide) ?_
      replace h := Option.some.inj h; subst h
      exact W.zret hx hb hr rfl (fun t ht hW => ⟨rfl, by rw [ht]; exact hM.moved hW.alike, hS.F ht⟩) hS.2.2 dX5_meetsSingle_79
    replace h := o_f c40 h
    refine lv_aload_n hx hb dX5_meetsSingle_43 rfl (lv_at hl 1 rfl) ?_
    replace h := o_b h; obtain ⟨x44, h44, h⟩ := h
    refine m_get (C := RX2) (T := TX2) (N := 5) (ci := 2) hx hb hts qi_X5_meetsSingle_X2 hown hK.1 hM 3 (ldR_F h44) rfl (by decide) (hts _ q_X5_meetsSingle_5) (fun _ h9 => h9) dX5_meetsSingle_44 ?_
    refine lv_iload hx hb dX5_meetsSingle_47 (lv_at hl 3 rfl) ?_
    refine lv_aload_n hx hb dX5_meetsSingle_49 rfl (lv_at hl 0 rfl) ?_
    replace h := o_b h; obtain ⟨x50, h50, h⟩ := h
    refine m_get (C := RX5) (T := TX5) (N := 5) (ci := 5) hx hb hts qi_X5_meetsSingle_X5 hown hK.1 hM 0 (ldR_F h50) rfl (by decide) (hts _ q_X5_meetsSingle_6) (fun _ h9 => h9) dX5_meetsSingle_50 ?_
    refine lv_iload hx hb dX5_meetsSingle_53 (lv_at hl 3 rfl) ?_
    replace h := o_b h; obtain ⟨_, k55, h⟩ := h
    replace h := o_b h; obtain ⟨q55, h55, h⟩ := h
    refine m_call (va_runV (As := [.int v5]) (rest := [.int v5, .ref x44]) ⟨hx, hb, hml, hown, hts⟩ (c_X6_singles l D b0 sz h55) (cwV 1 hts gX5_meetsSingle_X6_singles rfl rfl rfl (by decide +kernel) ⟨Nat.le_of_ble_eq_true rfl, Nat.le_of_ble_eq_true rfl⟩) ⟨PW.blind, m_recv (ci := 6) rfl hK hM k55, (fun U hU hW => ⟨rfl, PW.call hK hM hS hU hW⟩)⟩ rfl rfl hl.1 rfl (lv_room (Nat.le_of_ble_eq_true rfl)) dX5_meetsSingle_55 ⟨(Nat.le_refl _), (Nat.le_refl _)⟩) hS (fun H locs hM hS => ?_)
    refine lv_iload hx hb dX5_meetsSingle_58 (lv_at hl 2 rfl) ?_
    refine lv_iand hx hb dX5_meetsSingle_60 ?_
    refine lv_if_eq (tgt := 68) hx hb dX5_meetsSingle_61 (by decide) (fun c61 => ?_) (fun c61 => ?_)
    · replace h := o_t c61 h
      refine lv_iconst (v := (0 : Int32)) hx hb dX5_meetsSingle_68 (by decide) ?_
      exact w_X5_meetsSingle_69 C0 ih _ _ _ _ _ _ _ _ h _ _ _ hM hS (lv_sub hl [0, 1, 2, 3] rfl)
    replace h := o_f c61 h
    refine lv_iconst (v := (1 : Int32)) hx hb dX5_meetsSingle_64 (by decide) ?_
    refine lv_goto (tgt := 69) hx hb dX5_meetsSingle_65 (by decide) ?_
    exact w_X5_meetsSingle_69 C0 ih _ _ _ _ _ _ _ _ h _ _ _ hM hS (lv_sub hl [0, 1, 2, 3] rfl)
set_option maxHeartbeats 4000000 in
set_option maxRecDepth 100000 in
theorem w_X5_meetsSingle (C0 : CX cX5_meetsSingle 6 (some .boolean) wsX5_meetsSingle RX5 p s m args meth c D b0) {v0 : Nat} {v1 : Nat} {v2 : Int32} {res : Int32 × mmF} (h : f_X5_meetsSingle v0 v1 v2 f = some res) : ∀ (H : Heap) (locs : List Loc) (ls : Array Slot), MM vwCl D b0 f sz s H → mS b0 s H locs → lv_has ls 6 [(0, .ref v0), (1, .ref v1), (2, .int v2)] → W p l e ({ frames := 2, cells := 0, slots := 0, locals := 42 } : Room) s m args below meth c H locs 0 0 (MQ below (QW D b0 (some (.int res.1)) res.2 sz) args s 0 0 (fun q => b0 ≤ q)) (F0 m 0 ls []) := by
  obtain ⟨hx, hb, hr, hml, hown, hts, hlocks, hK⟩ := id C0
  intro H locs ls hM hS hl
  unfold f_X5_meetsSingle at h
  refine lv_aload_n hx hb dX5_meetsSingle_0 rfl (lv_at hl 1 rfl) ?_
  replace h := o_b h; obtain ⟨x1, h1, h⟩ := h
  refine m_get (C := RX2) (T := TX2) (N := 5) (ci := 2) hx hb hts qi_X5_meetsSingle_X2 hown hK.1 hM 4 (ldI_F h1) rfl (by decide) (hts _ q_X5_meetsSingle_7) (fun _ h9 => h9) dX5_meetsSingle_1 ?_
  refine lv_aload_n hx hb dX5_meetsSingle_4 rfl (lv_at hl 0 rfl) ?_
  replace h := o_b h; obtain ⟨x5, h5, h⟩ := h
  refine m_get (C := RX5) (T := TX5) (N := 5) (ci := 5) hx hb hts qi_X5_meetsSingle_X5 hown hK.1 hM 0 (ldR_F h5) rfl (by decide) (hts _ q_X5_meetsSingle_6) (fun _ h9 => h9) dX5_meetsSingle_5 ?_
  refine lv_iload_n hx hb dX5_meetsSingle_8 rfl (lv_at hl 2 rfl) ?_
  replace h := o_b h; obtain ⟨_, k9, h⟩ := h
  replace h := o_b h; obtain ⟨q9, h9, h⟩ := h
  refine m_call (va_runV (As := [.int v2]) (rest := [.int x1]) ⟨hx, hb, hml, hown, hts⟩ (c_X6_singles l D b0 sz h9) (cwV 1 hts gX5_meetsSingle_X6_singles rfl rfl rfl (by decide +kernel) ⟨Nat.le_of_ble_eq_true rfl, Nat.le_of_ble_eq_true rfl⟩) ⟨PW.blind, m_recv (ci := 6) rfl hK hM k9, (fun U hU hW => ⟨rfl, PW.call hK hM hS hU hW⟩)⟩ rfl rfl hl.1 rfl (lv_room (Nat.le_of_ble_eq_true rfl)) dX5_meetsSingle_9 ⟨(Nat.le_refl _), (Nat.le_refl _)⟩) hS (fun H locs hM hS => ?_)
  refine lv_iconst (v := (-1 : Int32)) hx hb dX5_meetsSingle_12 (by decide) ?_
  refine lv_ixor hx hb dX5_meetsSingle_13 ?_
  refine lv_iand hx hb dX5_meetsSingle_14 ?_
  refine lv_istore_n (lv' := [(3, .int (x1 &&& (q9 ^^^ (-1 : Int32)))), (0, .ref v0), (1, .ref v1), (2, .int v2)]) hx hb dX5_meetsSingle_15 rfl hl (by decide) rfl (fun ls hl => ?_)
  refine lv_iload_n hx hb dX5_meetsSingle_16 rfl (lv_at hl 0 rfl) ?_
  refine lv_if_ne (tgt := 22) hx hb dX5_meetsSingle_17 (by decide) (fun c17 => ?_) (fun c17 => ?_)
  · replace h := o_f c17 h
    refine lv_iload_n hx hb dX5_meetsSingle_22 rfl (lv_at hl 0 rfl) ?_
    refine lv_iload_n hx hb dX5_meetsSingle_23 rfl (lv_at hl 0 rfl) ?_
    refine lv_ineg hx hb dX5_meetsSingle_24 ?_
    refine lv_iand hx hb dX5_meetsSingle_25 ?_
    refine lv_istore (lv' := [(4, .int ((x1 &&& (q9 ^^^ (-1 : Int32))) &&& (-(x1 &&& (q9 ^^^ (-1 : Int32)))))), (3, .int (x1 &&& (q9 ^^^ (-1 : Int32)))), (0, .ref v0), (1, .ref v1), (2, .int v2)]) hx hb dX5_meetsSingle_26 hl (by decide) rfl (fun ls hl => ?_)
    refine lv_iconst (v := (0 : Int32)) hx hb dX5_meetsSingle_28 (by decide) ?_
    refine lv_istore (lv' := [(5, .int (0 : Int32)), (4, .int ((x1 &&& (q9 ^^^ (-1 : Int32))) &&& (-(x1 &&& (q9 ^^^ (-1 : Int32)))))), (3, .int (x1 &&& (q9 ^^^ (-1 : Int32)))), (0, .ref v0), (1, .ref v1), (2, .int v2)]) hx hb dX5_meetsSingle_29 hl (by decide) rfl (fun ls hl => ?_)
    exact w_X5_meetsSingle_31 C0 FU _ _ _ _ _ h _ _ _ hM hS (lv_sub hl [3, 4, 1, 0] rfl)
  replace h := o_t c17 h
  refine lv_iconst (v := (0 : Int32)) hx hb dX5_meetsSingle_20 (by decide) ?_
  replace h := Option.some.inj h; subst h
  exact W.zret hx hb hr rfl (fun t ht hW => ⟨rfl, by rw [ht]; exact hM.moved hW.alike, hS.F ht⟩) hS.2.2 dX5_meetsSingle_21
set_option maxHeartbeats 4000000 in
set_option maxRecDepth 100000 in
theorem c_X5_meetsSingle (l : Launch) (D : mmD) (b0 sz : Nat) {v0 : Nat} {v1 : Nat} {v2 : Int32} {f : mmF} {res : Int32 × mmF} (h : f_X5_meetsSingle v0 v1 v2 f = some res) : Met l yX5_meetsSingle wsX5_meetsSingle ({ frames := 2, cells := 0, slots := 0, locals := 42 } : Room) (va_Pc [.ref v0, .ref v1, .int v2] (PW D b0 f sz)) (QW D b0 (some (.int res.1)) res.2 sz) 0 0 (fun q => b0 ≤ q) := by
  refine Met.ofW (cc := cX5_meetsSingle) (maxL := 6) (ret := (some .boolean)) (by decide) rfl ?_
  intro p e s m args below meth c s₁ B hml hv
  obtain ⟨rfl, hM, hK⟩ := hv
  have hl := lv_entry ([.ref v0, .ref v1, .int v2]) (n := 6) (Nat.le_of_ble_eq_true rfl)
  rw [lg_entry_eq]
  generalize (lg_sl ([.ref v0, .ref v1, .int v2]) ++ List.replicate (6 - (lg_sl ([.ref v0, .ref v1, .int v2])).length) Slot.unset).toArray = ls at hl ⊢
  have hl : lv_has ls 6 [(0, .ref v0), (1, .ref v1), (2, .int v2)] := hl
  exact w_X5_meetsSingle ⟨B.exec, B.bytes, B.returns, hml, findClass_of_methodNamed B.named, atoms_spec (ws := wsX5_meetsSingle) B.pre, B.notSynchronized, hK⟩ h s.heap [] ls hM va_S.rf hl
end S_X5_meetsSingle
/-! X5_hasMet -/
set_option maxRecDepth 20000 in
theorem qi_X5_hasMet_X5 : ∀ w ∈ u_ws RX5 TX5 5, w ∈ wsX5_hasMet := by decide +kernel
set_option maxRecDepth 20000 in
theorem q_X5_hasMet_1 : Cond.fieldLink RX5 34 "StageTruths$Proof" "met" "LStageTruths$Findings;" ∈ wsX5_hasMet := by decide +kernel
set_option maxRecDepth 20000 in
theorem qi_X5_hasMet_X1 : ∀ w ∈ u_ws RX1 TX1 4, w ∈ wsX5_hasMet := by decide +kernel
set_option maxRecDepth 20000 in
theorem q_X5_hasMet_3 : Cond.fieldLink RX5 148 "StageTruths$Findings" "size" "I" ∈ wsX5_hasMet := by decide +kernel
set_option maxRecDepth 20000 in
theorem qi_X5_hasMet_X2 : ∀ w ∈ u_ws RX2 TX2 5, w ∈ wsX5_hasMet := by decide +kernel
set_option maxRecDepth 20000 in
theorem q_X5_hasMet_5 : Cond.fieldLink RX5 45 "StageTruths$Level" "known" "LStageTruths$PartSet;" ∈ wsX5_hasMet := by decide +kernel
set_option maxRecDepth 20000 in
theorem q_X5_hasMet_6 : Cond.fieldLink RX5 149 "StageTruths$Findings" "sets" "[LStageTruths$PartSet;" ∈ wsX5_hasMet := by decide +kernel
set_option maxRecDepth 20000 in
theorem q_X5_hasMet_7 : Cond.fieldLink RX5 114 "StageTruths$Level" "found" "LStageTruths$PartSet;" ∈ wsX5_hasMet := by decide +kernel
noncomputable def f_X5_hasMet_73 (k2 : Nat → Nat → Int32 → Int32 → mmF → Option (Int32 × mmF))  (v0 : Nat) (v1 : Nat) (v2 : Int32) (v3 : Int32) (f : mmF) : Option (Int32 × mmF) :=
  k2 v0 v1 v2 (v3 + (1 : Int32)) f
noncomputable def f_X5_hasMet_2   : Nat → Nat → Nat → Int32 → Int32 → mmF → Option (Int32 × mmF)
  | 0, _, _, _, _, _ => none
  | n + 1, v0, v1, v2, v3, f =>
    (ldR f v0 5 3).bind fun x4 =>
    (ldI f x4 1 0).bind fun x7 =>
    if x7 ≤ v3 then
    (some ((0 : Int32), f))
    else
    if (128 : Int32) ≤ v3 then
    (some ((0 : Int32), f))
    else
    (ldR f v1 2 0).bind fun x21 =>
    (ldR f v0 5 3).bind fun x25 =>
    (ldR f x25 1 1).bind fun x28 =>
    (ldN 5 f x28 v3).bind fun x32 =>
    (ckO f x21 3).bind fun _ =>
    (f_X3_isWithin x21 x32 f).bind fun q33 =>
    if q33 = 0 then
    (f_X5_hasMet_73 (fun a0 a1 a2 a3 a4 => f_X5_hasMet_2 n a0 a1 a2 a3 a4) v0 v1 v2 v3 f)
    else
    (ldR f v0 5 3).bind fun x40 =>
    (ldR f x40 1 1).bind fun x43 =>
    (ldN 5 f x43 v3).bind fun x47 =>
    (ckO f x47 3).bind fun _ =>
    (f_X3_has x47 v2 f).bind fun q49 =>
    if q49 = 0 then
    ((ldR f v1 2 3).bind fun x56 =>
    (ldR f v0 5 3).bind fun x60 =>
    (ldR f x60 1 1).bind fun x63 =>
    (ldN 5 f x63 v3).bind fun x67 =>
    (ckO f x56 3).bind fun _ =>
    (f_X3_takeFrom x56 x67 f).bind fun q68 =>
    some ((1 : Int32), q68))
    else
    f_X5_hasMet_73 (fun a0 a1 a2 a3 a4 => f_X5_hasMet_2 n a0 a1 a2 a3 a4) v0 v1 v2 v3 f
noncomputable def f_X5_hasMet (v0 : Nat) (v1 : Nat) (v2 : Int32) (f : mmF) : Option (Int32 × mmF) :=
  f_X5_hasMet_2 FU v0 v1 v2 (0 : Int32) f
section S_X5_hasMet
variable {p : Program} {l : Launch} {e : Env} {s : State} {m : MethodId} {args : Array Value} {below : List Frame} {meth : Method} {c : Code} {D : mmD} {b0 sz : Nat} {f : mmF}
set_option maxHeartbeats 4000000 in
set_option maxRecDepth 100000 in
theorem w_X5_hasMet_73 (C0 : CX cX5_hasMet 4 (some .boolean) wsX5_hasMet RX5 p s m args meth c D b0) {k2 : Nat → Nat → Int32 → Int32 → mmF → Option (Int32 × mmF)} {res : Int32 × mmF} (hk2 : ∀ (v0 : Nat) (v1 : Nat) (v2 : Int32) (v3 : Int32) (f : mmF), k2 v0 v1 v2 v3 f = some res → ∀ (H : Heap) (locs : List Loc) (ls : Array Slot), MM vwCl D b0 f sz s H → mS b0 s H locs → lv_has ls 4 [(0, .ref v0), (1, .ref v1), (2, .int v2), (3, .int v3)] → W p l e ({ frames := 1, cells := 0, slots := 0, locals := 23 } : Room) s m args below meth c H locs 0 0 (MQ below (QW D b0 (some (.int res.1)) res.2 sz) args s 0 0 (fun q => b0 ≤ q)) (F0 m 2 ls [])) : ∀ (v0 : Nat) (v1 : Nat) (v2 : Int32) (v3 : Int32) (f : mmF), f_X5_hasMet_73 k2 v0 v1 v2 v3 f = some res → ∀ (H : Heap) (locs : List Loc) (ls : Array Slot), MM vwCl D b0 f sz s H → mS b0 s H locs → lv_has ls 4 [(0, .ref v0), (1, .ref v1), (2, .int v2), (3, .int v3)] → W p l e ({ frames := 1, cells := 0, slots := 0, locals := 23 } : Room) s m args below meth c H locs 0 0 (MQ below (QW D b0 (some (.int res.1)) res.2 sz) args s 0 0 (fun q => b0 ≤ q)) (F0 m 73 ls []) := by
  obtain ⟨hx, hb, hr, hml, hown, hts, hlocks, hK⟩ := id C0
  intro v0 v1 v2 v3 f h H locs ls hM hS hl
  unfold f_X5_hasMet_73 at h
  refine lv_iinc (v := (v3 + (1 : Int32))) (lv' := [(3, .int (v3 + (1 : Int32))), (0, .ref v0), (1, .ref v1), (2, .int v2)]) hx hb dX5_hasMet_73 hl (k := 3) rfl rfl (by decide) rfl (fun ls hl => ?_)
  refine lv_goto (tgt := 2) hx hb dX5_hasMet_76 (by decide) ?_
  exact hk2 _ _ _ _ _ h _ _ _ hM hS (lv_sub hl [1, 2, 3, 0] rfl)
set_option maxHeartbeats 4000000 in
set_option maxRecDepth 100000 in
theorem w_X5_hasMet_2 (C0 : CX cX5_hasMet 4 (some .boolean) wsX5_hasMet RX5 p s m args meth c D b0) {res : Int32 × mmF} : ∀ (n : Nat), ∀ (v0 : Nat) (v1 : Nat) (v2 : Int32) (v3 : Int32) (f : mmF), f_X5_hasMet_2 n v0 v1 v2 v3 f = some res → ∀ (H : Heap) (locs : List Loc) (ls : Array Slot), MM vwCl D b0 f sz s H → mS b0 s H locs → lv_has ls 4 [(0, .ref v0), (1, .ref v1), (2, .int v2), (3, .int v3)] → W p l e ({ frames := 1, cells := 0, slots := 0, locals := 23 } : Room) s m args below meth c H locs 0 0 (MQ below (QW D b0 (some (.int res.1)) res.2 sz) args s 0 0 (fun q => b0 ≤ q)) (F0 m 2 ls []) := by
  obtain ⟨hx, hb, hr, hml, hown, hts, hlocks, hK⟩ := id C0
  intro n
  induction n with
  | zero =>
    intro v0 v1 v2 v3 f h
    have h : (none : Option (Int32 × mmF)) = some res := h
    cases h
  | succ n ih =>
    intro v0 v1 v2 v3 f h H locs ls hM hS hl
    rw [f_X5_hasMet_2] at h
    refine lv_iload_n hx hb dX5_hasMet_2 rfl (lv_at hl 3 rfl) ?_
    refine lv_aload_n hx hb dX5_hasMet_3 rfl (lv_at hl 0 rfl) ?_
    replace h := o_b h; obtain ⟨x4, h4, h⟩ := h
    refine m_get (C := RX5) (T := TX5) (N := 5) (ci := 5) hx hb hts qi_X5_hasMet_X5 hown hK.1 hM 3 (ldR_F h4) rfl (by decide) (hts _ q_X5_hasMet_1) (fun _ h9 => h9) dX5_hasMet_4 ?_
    replace h := o_b h; obtain ⟨x7, h7, h⟩ := h
    refine m_get (C := RX1) (T := TX1) (N := 4) (ci := 1) hx hb hts qi_X5_hasMet_X1 hown hK.1 hM 0 (ldI_F h7) rfl (by decide) (hts _ q_X5_hasMet_3) (fun _ h9 => h9) dX5_hasMet_7 ?_
    refine lv_icmp_ge (tgt := 79) hx hb dX5_hasMet_10 (by decide) (fun c10 => ?_) (fun c10 => ?_)
    · replace h := o_t c10 h
      refine lv_iconst (v := (0 : Int32)) hx hb dX5_hasMet_79 (by decide) ?_
      replace h := Option.some.inj h; subst h
      exact W.zret hx hb hr rfl (fun t ht hW => ⟨rfl, by rw [ht]; exact hM.moved hW.alike, hS.F ht⟩) hS.2.2 dX5_hasMet_80
    replace h := o_f c10 h
    refine lv_iload_n hx hb dX5_hasMet_13 rfl (lv_at hl 3 rfl) ?_
    refine lv_sipush (v := (128 : Int32)) hx hb dX5_hasMet_14 (by decide) ?_
    refine lv_icmp_ge (tgt := 79) hx hb dX5_hasMet_17 (by decide) (fun c17 => ?_) (fun c17 => ?_)
    · replace h := o_t c17 h
      refine lv_iconst (v := (0 : Int32)) hx hb dX5_hasMet_79 (by decide) ?_
      replace h := Option.some.inj h; subst h
      exact W.zret hx hb hr rfl (fun t ht hW => ⟨rfl, by rw [ht]; exact hM.moved hW.alike, hS.F ht⟩) hS.2.2 dX5_hasMet_80
    replace h := o_f c17 h
    refine lv_aload_n hx hb dX5_hasMet_20 rfl (lv_at hl 1 rfl) ?_
    replace h := o_b h; obtain ⟨x21, h21, h⟩ := h
    refine m_get (C := RX2) (T := TX2) (N := 5) (ci := 2) hx hb hts qi_X5_hasMet_X2 hown hK.1 hM 0 (ldR_F h21) rfl (by decide) (hts _ q_X5_hasMet_5) (fun _ h9 => h9) dX5_hasMet_21 ?_
    refine lv_aload_n hx hb dX5_hasMet_24 rfl (lv_at hl 0 rfl) ?_
    replace h := o_b h; obtain ⟨x25, h25, h⟩ := h
    refine m_get (C := RX5) (T := TX5) (N := 5) (ci := 5) hx hb hts qi_X5_hasMet_X5 hown hK.1 hM 3 (ldR_F h25) rfl (by decide) (hts _ q_X5_hasMet_1) (fun _ h9 => h9) dX5_hasMet_25 ?_
    replace h := o_b h; obtain ⟨x28, h28, h⟩ := h
    refine m_get (C := RX1) (T := TX1) (N := 4) (ci := 1) hx hb hts qi_X5_hasMet_X1 hown hK.1 hM 1 (ldR_F h28) rfl (by decide) (hts _ q_X5_hasMet_6) (fun _ h9 => h9) dX5_hasMet_28 ?_
    refine lv_iload_n hx hb dX5_hasMet_31 rfl (lv_at hl 3 rfl) ?_
    replace h := o_b h; obtain ⟨x32, h32, h⟩ := h
    refine m_aldn 5 (by decide) rfl hx hb hK.1 hM h32 dX5_hasMet_32 ?_
    replace h := o_b h; obtain ⟨_, k33, h⟩ := h
    replace h := o_b h; obtain ⟨q33, h33, h⟩ := h
    refine m_call (va_runV (As := [.ref x32]) (rest := []) ⟨hx, hb, hml, hown, hts⟩ (c_X3_isWithin l D b0 sz h33) (cwV 1 hts gX5_hasMet_X3_isWithin rfl rfl rfl (by decide +kernel) ⟨Nat.le_of_ble_eq_true rfl, Nat.le_of_ble_eq_true rfl⟩) ⟨PW.blind, m_recv (ci := 3) rfl hK hM k33, (fun U hU hW => ⟨rfl, PW.call hK hM hS hU hW⟩)⟩ rfl rfl hl.1 rfl (lv_room (Nat.le_of_ble_eq_true rfl)) dX5_hasMet_33 ⟨(Nat.le_refl _), (Nat.le_refl _)⟩) hS (fun H locs hM hS => ?_)
    refine lv_if_eq (tgt := 73) hx hb dX5_hasMet_36 (by decide) (fun c36 => ?_) (fun c36 => ?_)
    · replace h := o_t c36 h
      exact w_X5_hasMet_73 C0 ih _ _ _ _ _ h _ _ _ hM hS (lv_sub hl [0, 1, 2, 3] rfl)
    replace h := o_f c36 h
    refine lv_aload_n hx hb dX5_hasMet_39 rfl (lv_at hl 0 rfl) ?_
    replace h := o_b h; obtain ⟨x40, h40, h⟩ := h
    refine m_get (C := RX5) (T := TX5) (N := 5) (ci := 5) hx hb hts qi_X5_hasMet_X5 hown hK.1 hM 3 (ldR_F h40) rfl (by decide) (hts _ q_X5_hasMet_1) (fun _ h9 => h9) dX5_hasMet_40 ?_
    replace h := o_b h; obtain ⟨x43, h43, h⟩ := h
    refine m_get (C := RX1) (T := TX1) (N := 4) (ci := 1) hx hb hts qi_X5_hasMet_X1 hown hK.1 hM 1 (ldR_F h43) rfl (by decide) (hts _ q_X5_hasMet_6) (fun _ h9 => h9) dX5_hasMet_43 ?_
    refine lv_iload_n hx hb dX5_hasMet_46 rfl (lv_at hl 3 rfl) ?_
    replace h := o_b h; obtain ⟨x47, h47, h⟩ := h
    refine m_aldn 5 (by decide) rfl hx hb hK.1 hM h47 dX5_hasMet_47 ?_
    refine lv_iload_n hx hb dX5_hasMet_48 rfl (lv_at hl 2 rfl) ?_
    replace h := o_b h; obtain ⟨_, k49, h⟩ := h
    replace h := o_b h; obtain ⟨q49, h49, h⟩ := h
    refine m_call (va_runV (As := [.int v2]) (rest := []) ⟨hx, hb, hml, hown, hts⟩ (c_X3_has l D b0 sz h49) (cwV 1 hts gX5_hasMet_X3_has rfl rfl rfl (by decide +kernel) ⟨Nat.le_of_ble_eq_true rfl, Nat.le_of_ble_eq_true rfl⟩) ⟨PW.blind, m_recv (ci := 3) rfl hK hM k49, (fun U hU hW => ⟨rfl, PW.call hK hM hS hU hW⟩)⟩ rfl rfl hl.1 rfl (lv_room (Nat.le_of_ble_eq_true rfl)) dX5_hasMet_49 ⟨(Nat.le_refl _), (Nat.le_refl _)⟩) hS (fun H locs hM hS => ?_)
    refine lv_if_ne (tgt := 73) hx hb dX5_hasMet_52 (by decide) (fun c52 => ?_) (fun c52 => ?_)
    · replace h := o_f c52 h
      exact w_X5_hasMet_73 C0 ih _ _ _ _ _ h _ _ _ hM hS (lv_sub hl [0, 1, 2, 3] rfl)
    replace h := o_t c52 h
    refine lv_aload_n hx hb dX5_hasMet_55 rfl (lv_at hl 1 rfl) ?_
    replace h := o_b h; obtain ⟨x56, h56, h⟩ := h
    refine m_get (C := RX2) (T := TX2) (N := 5) (ci := 2) hx hb hts qi_X5_hasMet_X2 hown hK.1 hM 3 (ldR_F h56) rfl (by decide) (hts _ q_X5_hasMet_7) (fun _ h9 => h9) dX5_hasMet_56 ?_
    refine lv_aload_n hx hb dX5_hasMet_59 rfl (lv_at hl 0 rfl) ?_
    replace h := o_b h; obtain ⟨x60, h60, h⟩ := h
    refine m_get (C := RX5) (T := TX5) (N := 5) (ci := 5) hx hb hts qi_X5_hasMet_X5 hown hK.1 hM 3 (ldR_F h60) rfl (by decide) (hts _ q_X5_hasMet_1) (fun _ h9 => h9) dX5_hasMet_60 ?_
    replace h := o_b h; obtain ⟨x63, h63, h⟩ := h
    refine m_get (C := RX1) (T := TX1) (N := 4) (ci := 1) hx hb hts qi_X5_hasMet_X1 hown hK.1 hM 1 (ldR_F h63) rfl (by decide) (hts _ q_X5_hasMet_6) (fun _ h9 => h9) dX5_hasMet_63 ?_
    refine lv_iload_n hx hb dX5_hasMet_66 rfl (lv_at hl 3 rfl) ?_
    replace h := o_b h; obtain ⟨x67, h67, h⟩ := h
    refine m_aldn 5 (by decide) rfl hx hb hK.1 hM h67 dX5_hasMet_67 ?_
    replace h := o_b h; obtain ⟨_, k68, h⟩ := h
    replace h := o_b h; obtain ⟨q68, h68, h⟩ := h
    refine m_call (va_runV (As := [.ref x67]) (rest := []) ⟨hx, hb, hml, hown, hts⟩ (c_X3_takeFrom l D b0 sz h68) (cwV 1 hts gX5_hasMet_X3_takeFrom rfl rfl rfl (by decide +kernel) ⟨Nat.le_of_ble_eq_true rfl, Nat.le_of_ble_eq_true rfl⟩) ⟨PW.blind, m_recv (ci := 3) rfl hK hM k68, (fun U hU hW => ⟨rfl, PW.call hK hM hS hU hW⟩)⟩ rfl rfl hl.1 rfl (lv_room (Nat.le_of_ble_eq_true rfl)) dX5_hasMet_68 ⟨(Nat.le_refl _), (Nat.le_refl _)⟩) hS (fun H locs hM hS => ?_)
    refine lv_iconst (v := (1 : Int32)) hx hb dX5_hasMet_71 (by decide) ?_
    replace h := Option.some.inj h; subst h
    exact W.zret hx hb hr rfl (fun t ht hW => ⟨rfl, by rw [ht]; exact hM.moved hW.alike, hS.F ht⟩) hS.2.2 dX5_hasMet_72
set_option maxHeartbeats 4000000 in
set_option maxRecDepth 100000 in
theorem w_X5_hasMet (C0 : CX cX5_hasMet 4 (some .boolean) wsX5_hasMet RX5 p s m args meth c D b0) {v0 : Nat} {v1 : Nat} {v2 : Int32} {res : Int32 × mmF} (h : f_X5_hasMet v0 v1 v2 f = some res) : ∀ (H : Heap) (locs : List Loc) (ls : Array Slot), MM vwCl D b0 f sz s H → mS b0 s H locs → lv_has ls 4 [(0, .ref v0), (1, .ref v1), (2, .int v2)] → W p l e ({ frames := 1, cells := 0, slots := 0, locals := 23 } : Room) s m args below meth c H locs 0 0 (MQ below (QW D b0 (some (.int res.1)) res.2 sz) args s 0 0 (fun q => b0 ≤ q)) (F0 m 0 ls []) := by
  obtain ⟨hx, hb, hr, hml, hown, hts, hlocks, hK⟩ := id C0
  intro H locs ls hM hS hl
  unfold f_X5_hasMet at h
  refine lv_iconst (v := (0 : Int32)) hx hb dX5_hasMet_0 (by decide) ?_
  refine lv_istore_n (lv' := [(3, .int (0 : Int32)), (0, .ref v0), (1, .ref v1), (2, .int v2)]) hx hb dX5_hasMet_1 rfl hl (by decide) rfl (fun ls hl => ?_)
  exact w_X5_hasMet_2 C0 FU _ _ _ _ _ h _ _ _ hM hS (lv_sub hl [1, 2, 3, 0] rfl)
set_option maxHeartbeats 4000000 in
set_option maxRecDepth 100000 in
theorem c_X5_hasMet (l : Launch) (D : mmD) (b0 sz : Nat) {v0 : Nat} {v1 : Nat} {v2 : Int32} {f : mmF} {res : Int32 × mmF} (h : f_X5_hasMet v0 v1 v2 f = some res) : Met l yX5_hasMet wsX5_hasMet ({ frames := 1, cells := 0, slots := 0, locals := 23 } : Room) (va_Pc [.ref v0, .ref v1, .int v2] (PW D b0 f sz)) (QW D b0 (some (.int res.1)) res.2 sz) 0 0 (fun q => b0 ≤ q) := by
  refine Met.ofW (cc := cX5_hasMet) (maxL := 4) (ret := (some .boolean)) (by decide) rfl ?_
  intro p e s m args below meth c s₁ B hml hv
  obtain ⟨rfl, hM, hK⟩ := hv
  have hl := lv_entry ([.ref v0, .ref v1, .int v2]) (n := 4) (Nat.le_of_ble_eq_true rfl)
  rw [lg_entry_eq]
  generalize (lg_sl ([.ref v0, .ref v1, .int v2]) ++ List.replicate (4 - (lg_sl ([.ref v0, .ref v1, .int v2])).length) Slot.unset).toArray = ls at hl ⊢
  have hl : lv_has ls 4 [(0, .ref v0), (1, .ref v1), (2, .int v2)] := hl
  exact w_X5_hasMet ⟨B.exec, B.bytes, B.returns, hml, findClass_of_methodNamed B.named, atoms_spec (ws := wsX5_hasMet) B.pre, B.notSynchronized, hK⟩ h s.heap [] ls hM va_S.rf hl
end S_X5_hasMet
/-! X5_hasProved -/
set_option maxRecDepth 20000 in
theorem qi_X5_hasProved_X5 : ∀ w ∈ u_ws RX5 TX5 5, w ∈ wsX5_hasProved := by decide +kernel
set_option maxRecDepth 20000 in
theorem q_X5_hasProved_1 : Cond.fieldLink RX5 38 "StageTruths$Proof" "proved" "LStageTruths$Findings;" ∈ wsX5_hasProved := by decide +kernel
set_option maxRecDepth 20000 in
theorem qi_X5_hasProved_X1 : ∀ w ∈ u_ws RX1 TX1 4, w ∈ wsX5_hasProved := by decide +kernel
set_option maxRecDepth 20000 in
theorem q_X5_hasProved_3 : Cond.fieldLink RX5 148 "StageTruths$Findings" "size" "I" ∈ wsX5_hasProved := by decide +kernel
set_option maxRecDepth 20000 in
theorem q_X5_hasProved_4 : Cond.fieldLink RX5 159 "StageTruths$Findings" "goals" "[I" ∈ wsX5_hasProved := by decide +kernel
set_option maxRecDepth 20000 in
theorem q_X5_hasProved_5 : Cond.fieldLink RX5 149 "StageTruths$Findings" "sets" "[LStageTruths$PartSet;" ∈ wsX5_hasProved := by decide +kernel
set_option maxRecDepth 20000 in
theorem qi_X5_hasProved_X2 : ∀ w ∈ u_ws RX2 TX2 5, w ∈ wsX5_hasProved := by decide +kernel
set_option maxRecDepth 20000 in
theorem q_X5_hasProved_7 : Cond.fieldLink RX5 45 "StageTruths$Level" "known" "LStageTruths$PartSet;" ∈ wsX5_hasProved := by decide +kernel
noncomputable def f_X5_hasProved_54 (k2 : Nat → Nat → Int32 → Int32 → Option (Int32)) (f : mmF) (v0 : Nat) (v1 : Nat) (v2 : Int32) (v3 : Int32) : Option (Int32) :=
  k2 v0 v1 v2 (v3 + (1 : Int32))
noncomputable def f_X5_hasProved_2  (f : mmF) : Nat → Nat → Nat → Int32 → Int32 → Option (Int32)
  | 0, _, _, _, _ => none
  | n + 1, v0, v1, v2, v3 =>
    (ldR f v0 5 4).bind fun x4 =>
    (ldI f x4 1 0).bind fun x7 =>
    if x7 ≤ v3 then
    (some ((0 : Int32)))
    else
    if (128 : Int32) ≤ v3 then
    (some ((0 : Int32)))
    else
    (ldR f v0 5 4).bind fun x21 =>
    (ldR f x21 1 2).bind fun x24 =>
    (ldA 0 f x24 v3).bind fun x28 =>
    if x28 = v2 then
    ((ldR f v0 5 4).bind fun x34 =>
    (ldR f x34 1 1).bind fun x37 =>
    (ldN 5 f x37 v3).bind fun x41 =>
    (ldR f v1 2 0).bind fun x43 =>
    (ckO f x41 3).bind fun _ =>
    (f_X3_isWithin x41 x43 f).bind fun q46 =>
    if q46 = 0 then
    (f_X5_hasProved_54 (fun a0 a1 a2 a3 => f_X5_hasProved_2 f n a0 a1 a2 a3) f v0 v1 v2 v3)
    else
    some ((1 : Int32)))
    else
    f_X5_hasProved_54 (fun a0 a1 a2 a3 => f_X5_hasProved_2 f n a0 a1 a2 a3) f v0 v1 v2 v3
noncomputable def f_X5_hasProved (v0 : Nat) (v1 : Nat) (v2 : Int32) (f : mmF) : Option (Int32) :=
  f_X5_hasProved_2 f FU v0 v1 v2 (0 : Int32)
section S_X5_hasProved
variable {p : Program} {l : Launch} {e : Env} {s : State} {m : MethodId} {args : Array Value} {below : List Frame} {meth : Method} {c : Code} {D : mmD} {b0 sz : Nat} {f : mmF}
set_option maxHeartbeats 4000000 in
set_option maxRecDepth 100000 in
theorem w_X5_hasProved_54 (C0 : CX cX5_hasProved 4 (some .boolean) wsX5_hasProved RX5 p s m args meth c D b0) {k2 : Nat → Nat → Int32 → Int32 → Option (Int32)} {res : Int32} (hk2 : ∀ (v0 : Nat) (v1 : Nat) (v2 : Int32) (v3 : Int32), k2 v0 v1 v2 v3 = some res → ∀ (H : Heap) (locs : List Loc) (ls : Array Slot), MM vwCl D b0 f sz s H → mS b0 s H locs → lv_has ls 4 [(0, .ref v0), (1, .ref v1), (2, .int v2), (3, .int v3)] → W p l e ({ frames := 1, cells := 0, slots := 0, locals := 21 } : Room) s m args below meth c H locs 0 0 (MQ below (QW D b0 (some (.int res)) f sz) args s 0 0 (fun q => b0 ≤ q)) (F0 m 2 ls [])) : ∀ (v0 : Nat) (v1 : Nat) (v2 : Int32) (v3 : Int32), f_X5_hasProved_54 k2 f v0 v1 v2 v3 = some res → ∀ (H : Heap) (locs : List Loc) (ls : Array Slot), MM vwCl D b0 f sz s H → mS b0 s H locs → lv_has ls 4 [(0, .ref v0), (1, .ref v1), (2, .int v2), (3, .int v3)] → W p l e ({ frames := 1, cells := 0, slots := 0, locals := 21 } : Room) s m args below meth c H locs 0 0 (MQ below (QW D b0 (some (.int res)) f sz) args s 0 0 (fun q => b0 ≤ q)) (F0 m 54 ls []) := by
  obtain ⟨hx, hb, hr, hml, hown, hts, hlocks, hK⟩ := id C0
  intro v0 v1 v2 v3 h H locs ls hM hS hl
  unfold f_X5_hasProved_54 at h
  refine lv_iinc (v := (v3 + (1 : Int32))) (lv' := [(3, .int (v3 + (1 : Int32))), (0, .ref v0), (1, .ref v1), (2, .int v2)]) hx hb dX5_hasProved_54 hl (k := 3) rfl rfl (by decide) rfl (fun ls hl => ?_)
  refine lv_goto (tgt := 2) hx hb dX5_hasProved_57 (by decide) ?_
  exact hk2 _ _ _ _ h _ _ _ hM hS (lv_sub hl [1, 2, 3, 0] rfl)
set_option maxHeartbeats 4000000 in
set_option maxRecDepth 100000 in
theorem w_X5_hasProved_2 (C0 : CX cX5_hasProved 4 (some .boolean) wsX5_hasProved RX5 p s m args meth c D b0) {res : Int32} : ∀ (n : Nat), ∀ (v0 : Nat) (v1 : Nat) (v2 : Int32) (v3 : Int32), f_X5_hasProved_2 f n v0 v1 v2 v3 = some res → ∀ (H : Heap) (locs : List Loc) (ls : Array Slot), MM vwCl D b0 f sz s H → mS b0 s H locs → lv_has ls 4 [(0, .ref v0), (1, .ref v1), (2, .int v2), (3, .int v3)] → W p l e ({ frames := 1, cells := 0, slots := 0, locals := 21 } : Room) s m args below meth c H locs 0 0 (MQ below (QW D b0 (some (.int res)) f sz) args s 0 0 (fun q => b0 ≤ q)) (F0 m 2 ls []) := by
  obtain ⟨hx, hb, hr, hml, hown, hts, hlocks, hK⟩ := id C0
  intro n
  induction n with
  | zero =>
    intro v0 v1 v2 v3 h
    have h : (none : Option (Int32)) = some res := h
    cases h
  | succ n ih =>
    intro v0 v1 v2 v3 h H locs ls hM hS hl
    rw [f_X5_hasProved_2] at h
    refine lv_iload_n hx hb dX5_hasProved_2 rfl (lv_at hl 3 rfl) ?_
    refine lv_aload_n hx hb dX5_hasProved_3 rfl (lv_at hl 0 rfl) ?_
    replace h := o_b h; obtain ⟨x4, h4, h⟩ := h
    refine m_get (C := RX5) (T := TX5) (N := 5) (ci := 5) hx hb hts qi_X5_hasProved_X5 hown hK.1 hM 4 (ldR_F h4) rfl (by decide) (hts _ q_X5_hasProved_1) (fun _ h9 => h9) dX5_hasProved_4 ?_
    replace h := o_b h; obtain ⟨x7, h7, h⟩ := h
    refine m_get (C := RX1) (T := TX1) (N := 4) (ci := 1) hx hb hts qi_X5_hasProved_X1 hown hK.1 hM 0 (ldI_F h7) rfl (by decide) (hts _ q_X5_hasProved_3) (fun _ h9 => h9) dX5_hasProved_7 ?_
    refine lv_icmp_ge (tgt := 60) hx hb dX5_hasProved_10 (by decide) (fun c10 => ?_) (fun c10 => ?_)
    · replace h := o_t c10 h
      refine lv_iconst (v := (0 : Int32)) hx hb dX5_hasProved_60 (by decide) ?_
      replace h := Option.some.inj h; subst h
      exact W.zret hx hb hr rfl (fun t ht hW => ⟨rfl, by rw [ht]; exact hM.moved hW.alike, hS.F ht⟩) hS.2.2 dX5_hasProved_61
    replace h := o_f c10 h
    refine lv_iload_n hx hb dX5_hasProved_13 rfl (lv_at hl 3 rfl) ?_
    refine lv_sipush (v := (128 : Int32)) hx hb dX5_hasProved_14 (by decide) ?_
    refine lv_icmp_ge (tgt := 60) hx hb dX5_hasProved_17 (by decide) (fun c17 => ?_) (fun c17 => ?_)
    · replace h := o_t c17 h
      refine lv_iconst (v := (0 : Int32)) hx hb dX5_hasProved_60 (by decide) ?_
      replace h := Option.some.inj h; subst h
      exact W.zret hx hb hr rfl (fun t ht hW => ⟨rfl, by rw [ht]; exact hM.moved hW.alike, hS.F ht⟩) hS.2.2 dX5_hasProved_61
    replace h := o_f c17 h
    refine lv_aload_n hx hb dX5_hasProved_20 rfl (lv_at hl 0 rfl) ?_
    replace h := o_b h; obtain ⟨x21, h21, h⟩ := h
    refine m_get (C := RX5) (T := TX5) (N := 5) (ci := 5) hx hb hts qi_X5_hasProved_X5 hown hK.1 hM 4 (ldR_F h21) rfl (by decide) (hts _ q_X5_hasProved_1) (fun _ h9 => h9) dX5_hasProved_21 ?_
    replace h := o_b h; obtain ⟨x24, h24, h⟩ := h
    refine m_get (C := RX1) (T := TX1) (N := 4) (ci := 1) hx hb hts qi_X5_hasProved_X1 hown hK.1 hM 2 (ldR_F h24) rfl (by decide) (hts _ q_X5_hasProved_4) (fun _ h9 => h9) dX5_hasProved_24 ?_
    refine lv_iload_n hx hb dX5_hasProved_27 rfl (lv_at hl 3 rfl) ?_
    replace h := o_b h; obtain ⟨x28, h28, h⟩ := h
    refine m_iald hx hb hK.1 hM hS rfl h28 dX5_hasProved_28 ?_
    refine lv_iload_n hx hb dX5_hasProved_29 rfl (lv_at hl 2 rfl) ?_
    refine lv_icmp_ne (tgt := 54) hx hb dX5_hasProved_30 (by decide) (fun c30 => ?_) (fun c30 => ?_)
    · replace h := o_f c30 h
      exact w_X5_hasProved_54 C0 ih _ _ _ _ h _ _ _ hM hS (lv_sub hl [0, 1, 2, 3] rfl)
    replace h := o_t c30 h
    refine lv_aload_n hx hb dX5_hasProved_33 rfl (lv_at hl 0 rfl) ?_
    replace h := o_b h; obtain ⟨x34, h34, h⟩ := h
    refine m_get (C := RX5) (T := TX5) (N := 5) (ci := 5) hx hb hts qi_X5_hasProved_X5 hown hK.1 hM 4 (ldR_F h34) rfl (by decide) (hts _ q_X5_hasProved_1) (fun _ h9 => h9) dX5_hasProved_34 ?_
    replace h := o_b h; obtain ⟨x37, h37, h⟩ := h
    refine m_get (C := RX1) (T := TX1) (N := 4) (ci := 1) hx hb hts qi_X5_hasProved_X1 hown hK.1 hM 1 (ldR_F h37) rfl (by decide) (hts _ q_X5_hasProved_5) (fun _ h9 => h9) dX5_hasProved_37 ?_
    refine lv_iload_n hx hb dX5_hasProved_40 rfl (lv_at hl 3 rfl) ?_
    replace h := o_b h; obtain ⟨x41, h41, h⟩ := h
    refine m_aldn 5 (by decide) rfl hx hb hK.1 hM h41 dX5_hasProved_41 ?_
    refine lv_aload_n hx hb dX5_hasProved_42 rfl (lv_at hl 1 rfl) ?_
    replace h := o_b h; obtain ⟨x43, h43, h⟩ := h
    refine m_get (C := RX2) (T := TX2) (N := 5) (ci := 2) hx hb hts qi_X5_hasProved_X2 hown hK.1 hM 0 (ldR_F h43) rfl (by decide) (hts _ q_X5_hasProved_7) (fun _ h9 => h9) dX5_hasProved_43 ?_
    replace h := o_b h; obtain ⟨_, k46, h⟩ := h
    replace h := o_b h; obtain ⟨q46, h46, h⟩ := h
    refine m_call (va_runV (As := [.ref x43]) (rest := []) ⟨hx, hb, hml, hown, hts⟩ (c_X3_isWithin l D b0 sz h46) (cwV 1 hts gX5_hasProved_X3_isWithin rfl rfl rfl (by decide +kernel) ⟨Nat.le_of_ble_eq_true rfl, Nat.le_of_ble_eq_true rfl⟩) ⟨PW.blind, m_recv (ci := 3) rfl hK hM k46, (fun U hU hW => ⟨rfl, PW.call hK hM hS hU hW⟩)⟩ rfl rfl hl.1 rfl (lv_room (Nat.le_of_ble_eq_true rfl)) dX5_hasProved_46 ⟨(Nat.le_refl _), (Nat.le_refl _)⟩) hS (fun H locs hM hS => ?_)
    refine lv_if_eq (tgt := 54) hx hb dX5_hasProved_49 (by decide) (fun c49 => ?_) (fun c49 => ?_)
    · replace h := o_t c49 h
      exact w_X5_hasProved_54 C0 ih _ _ _ _ h _ _ _ hM hS (lv_sub hl [0, 1, 2, 3] rfl)
    replace h := o_f c49 h
    refine lv_iconst (v := (1 : Int32)) hx hb dX5_hasProved_52 (by decide) ?_
    replace h := Option.some.inj h; subst h
    exact W.zret hx hb hr rfl (fun t ht hW => ⟨rfl, by rw [ht]; exact hM.moved hW.alike, hS.F ht⟩) hS.2.2 dX5_hasProved_53
set_option maxHeartbeats 4000000 in
set_option maxRecDepth 100000 in
theorem w_X5_hasProved (C0 : CX cX5_hasProved 4 (some .boolean) wsX5_hasProved RX5 p s m args meth c D b0) {v0 : Nat} {v1 : Nat} {v2 : Int32} {res : Int32} (h : f_X5_hasProved v0 v1 v2 f = some res) : ∀ (H : Heap) (locs : List Loc) (ls : Array Slot), MM vwCl D b0 f sz s H → mS b0 s H locs → lv_has ls 4 [(0, .ref v0), (1, .ref v1), (2, .int v2)] → W p l e ({ frames := 1, cells := 0, slots := 0, locals := 21 } : Room) s m args below meth c H locs 0 0 (MQ below (QW D b0 (some (.int res)) f sz) args s 0 0 (fun q => b0 ≤ q)) (F0 m 0 ls []) := by
  obtain ⟨hx, hb, hr, hml, hown, hts, hlocks, hK⟩ := id C0
  intro H locs ls hM hS hl
  unfold f_X5_hasProved at h
  refine lv_iconst (v := (0 : Int32)) hx hb dX5_hasProved_0 (by decide) ?_
  refine lv_istore_n (lv' := [(3, .int (0 : Int32)), (0, .ref v0), (1, .ref v1), (2, .int v2)]) hx hb dX5_hasProved_1 rfl hl (by decide) rfl (fun ls hl => ?_)
  exact w_X5_hasProved_2 C0 FU _ _ _ _ h _ _ _ hM hS (lv_sub hl [1, 2, 3, 0] rfl)
set_option maxHeartbeats 4000000 in
set_option maxRecDepth 100000 in
theorem c_X5_hasProved (l : Launch) (D : mmD) (b0 sz : Nat) {v0 : Nat} {v1 : Nat} {v2 : Int32} {f : mmF} {res : Int32} (h : f_X5_hasProved v0 v1 v2 f = some res) : Met l yX5_hasProved wsX5_hasProved ({ frames := 1, cells := 0, slots := 0, locals := 21 } : Room) (va_Pc [.ref v0, .ref v1, .int v2] (PW D b0 f sz)) (QW D b0 (some (.int res)) f sz) 0 0 (fun q => b0 ≤ q) := by
  refine Met.ofW (cc := cX5_hasProved) (maxL := 4) (ret := (some .boolean)) (by decide) rfl ?_
  intro p e s m args below meth c s₁ B hml hv
  obtain ⟨rfl, hM, hK⟩ := hv
  have hl := lv_entry ([.ref v0, .ref v1, .int v2]) (n := 4) (Nat.le_of_ble_eq_true rfl)
  rw [lg_entry_eq]
  generalize (lg_sl ([.ref v0, .ref v1, .int v2]) ++ List.replicate (4 - (lg_sl ([.ref v0, .ref v1, .int v2])).length) Slot.unset).toArray = ls at hl ⊢
  have hl : lv_has ls 4 [(0, .ref v0), (1, .ref v1), (2, .int v2)] := hl
  exact w_X5_hasProved ⟨B.exec, B.bytes, B.returns, hml, findClass_of_methodNamed B.named, atoms_spec (ws := wsX5_hasProved) B.pre, B.notSynchronized, hK⟩ h s.heap [] ls hM va_S.rf hl
end S_X5_hasProved
/-! X5_grows -/
set_option maxRecDepth 20000 in
theorem qi_X5_grows_X5 : ∀ w ∈ u_ws RX5 TX5 5, w ∈ wsX5_grows := by decide +kernel
set_option maxRecDepth 20000 in
theorem q_X5_grows_1 : Cond.fieldLink RX5 24 "StageTruths$Proof" "parts" "LStageTruths$Parts;" ∈ wsX5_grows := by decide +kernel
set_option maxRecDepth 20000 in
theorem qi_X5_grows_X4 : ∀ w ∈ u_ws RX4 TX4 8, w ∈ wsX5_grows := by decide +kernel
set_option maxRecDepth 20000 in
theorem q_X5_grows_3 : Cond.fieldLink RX5 100 "StageTruths$Parts" "kinds" "[I" ∈ wsX5_grows := by decide +kernel
set_option maxRecDepth 20000 in
theorem q_X5_grows_4 : Cond.initialized RX9 ∈ wsX5_grows := by decide +kernel
set_option maxRecDepth 20000 in
theorem q_X5_grows_5 : Cond.static yX9_at ∈ wsX5_grows := by decide +kernel
set_option maxRecDepth 20000 in
theorem q_X5_grows_6 : Cond.fieldLink RX5 108 "StageTruths$Parts" "left" "[I" ∈ wsX5_grows := by decide +kernel
set_option maxRecDepth 20000 in
theorem q_X5_grows_7 : Cond.fieldLink RX5 111 "StageTruths$Parts" "right" "[I" ∈ wsX5_grows := by decide +kernel
noncomputable def f_X5_grows_156   (v0 : Nat) (v1 : Nat) (v2 : Int32) (v5 : Int32) (v6 : Int32) (v7 : Int32) (f : mmF) : Option (Int32 × mmF) :=
  (ldR f v0 5 1).bind fun x157 =>
  (ckO f x157 4).bind fun _ =>
  (f_X4_isIf x157 v2 f).bind fun q161 =>
  if q161 = 0 then
  (some ((0 : Int32), f))
  else
  if v6 = 0 then
  (some ((0 : Int32), f))
  else
  if v7 = 0 then
  ((ckO f v1 3).bind fun _ =>
  (f_X3_set v1 v5 (1 : Int32) f).bind fun q181 =>
  some ((1 : Int32), q181))
  else
  some ((0 : Int32), f)
noncomputable def f_X5_grows_140   (v1 : Nat) (v4 : Int32) (v5 : Int32) (f : mmF) : Option (Int32 × mmF) :=
  (ckO f v1 3).bind fun _ =>
  (f_X3_set v1 v4 (1 : Int32) f).bind fun q144 =>
  (ckO q144 v1 3).bind fun _ =>
  (f_X3_set v1 v5 (1 : Int32) q144).bind fun q151 =>
  some ((1 : Int32), q151)
noncomputable def f_X5_grows_112   (v1 : Nat) (v2 : Int32) (t0 : Int32) (f : mmF) : Option (Int32 × mmF) :=
  (ckO f v1 3).bind fun _ =>
  (f_X3_set v1 v2 t0 f).bind fun q118 =>
  (rz t0).bind fun z123 =>
  some (z123, q118)
noncomputable def f_X5_grows_102   (v1 : Nat) (v2 : Int32) (f : mmF) : Option (Int32 × mmF) :=
  f_X5_grows_112 v1 v2 (1 : Int32) f
noncomputable def f_X5_grows_82   (v1 : Nat) (v2 : Int32) (f : mmF) : Option (Int32 × mmF) :=
  f_X5_grows_112 v1 v2 (0 : Int32) f
noncomputable def f_X5_grows (v0 : Nat) (v1 : Nat) (v2 : Int32) (f : mmF) : Option (Int32 × mmF) :=
  (ldR f v0 5 1).bind fun x1 =>
  (ldR f x1 4 1).bind fun x4 =>
  (f_X9_at x4 v2 f).bind fun q8 =>
  (ldR f v0 5 1).bind fun x13 =>
  (ldR f x13 4 2).bind fun x16 =>
  (f_X9_at x16 v2 f).bind fun q20 =>
  (ldR f v0 5 1).bind fun x26 =>
  (ldR f x26 4 3).bind fun x29 =>
  (f_X9_at x29 v2 f).bind fun q33 =>
  (ckO f v1 3).bind fun _ =>
  (f_X3_has v1 q20 f).bind fun q41 =>
  (ckO f v1 3).bind fun _ =>
  (f_X3_has v1 q33 f).bind fun q49 =>
  (ckO f v1 3).bind fun _ =>
  (f_X3_has v1 v2 f).bind fun q56 =>
  if q56 = 0 then
  (if q8 = (7 : Int32) then
  (if q41 = 0 then
  (f_X5_grows_82 v1 v2 f)
  else
  if q49 = 0 then
  (f_X5_grows_82 v1 v2 f)
  else
  f_X5_grows_112 v1 v2 (1 : Int32) f)
  else
  if q8 = (8 : Int32) then
  (if q41 = 0 then
  (if q49 = 0 then
  (f_X5_grows_112 v1 v2 (0 : Int32) f)
  else
  f_X5_grows_102 v1 v2 f)
  else
  f_X5_grows_102 v1 v2 f)
  else
  f_X5_grows_112 v1 v2 q49 f)
  else
  if q8 = (7 : Int32) then
  (if q41 = 0 then
  (f_X5_grows_140 v1 q20 q33 f)
  else
  if q49 = 0 then
  (f_X5_grows_140 v1 q20 q33 f)
  else
  f_X5_grows_156 v0 v1 v2 q33 q41 q49 f)
  else
  f_X5_grows_156 v0 v1 v2 q33 q41 q49 f
section S_X5_grows
variable {p : Program} {l : Launch} {e : Env} {s : State} {m : MethodId} {args : Array Value} {below : List Frame} {meth : Method} {c : Code} {D : mmD} {b0 sz : Nat} {f : mmF}
set_option maxHeartbeats 4000000 in
set_option maxRecDepth 100000 in
theorem w_X5_grows_156 (C0 : CX cX5_grows 9 (some .boolean) wsX5_grows RX5 p s m args meth c D b0) {res : Int32 × mmF} : ∀ (v0 : Nat) (v1 : Nat) (v2 : Int32) (v5 : Int32) (v6 : Int32) (v7 : Int32) (f : mmF), f_X5_grows_156 v0 v1 v2 v5 v6 v7 f = some res → ∀ (H : Heap) (locs : List Loc) (ls : Array Slot), MM vwCl D b0 f sz s H → mS b0 s H locs → lv_has ls 9 [(0, .ref v0), (1, .ref v1), (2, .int v2), (5, .int v5), (6, .int v6), (7, .int v7)] → W p l e ({ frames := 1, cells := 0, slots := 0, locals := 24 } : Room) s m args below meth c H locs 0 0 (MQ below (QW D b0 (some (.int res.1)) res.2 sz) args s 0 0 (fun q => b0 ≤ q)) (F0 m 156 ls []) := by
  obtain ⟨hx, hb, hr, hml, hown, hts, hlocks, hK⟩ := id C0
  intro v0 v1 v2 v5 v6 v7 f h H locs ls hM hS hl
  unfold f_X5_grows_156 at h
  refine lv_aload_n hx hb dX5_grows_156 rfl (lv_at hl 0 rfl) ?_
  replace h := o_b h; obtain ⟨x157, h157, h⟩ := h
  refine m_get (C := RX5) (T := TX5) (N := 5) (ci := 5) hx hb hts qi_X5_grows_X5 hown hK.1 hM 1 (ldR_F h157) rfl (by decide) (hts _ q_X5_grows_1) (fun _ h9 => h9) dX5_grows_157 ?_
  refine lv_iload_n hx hb dX5_grows_160 rfl (lv_at hl 2 rfl) ?_
  replace h := o_b h; obtain ⟨_, k161, h⟩ := h
  replace h := o_b h; obtain ⟨q161, h161, h⟩ := h
  refine m_call (va_runV (As := [.int v2]) (rest := []) ⟨hx, hb, hml, hown, hts⟩ (c_X4_isIf l D b0 sz h161) (cwV 1 hts gX5_grows_X4_isIf rfl rfl rfl (by decide +kernel) ⟨Nat.le_of_ble_eq_true rfl, Nat.le_of_ble_eq_true rfl⟩) ⟨PW.blind, m_recv (ci := 4) rfl hK hM k161, (fun U hU hW => ⟨rfl, PW.call hK hM hS hU hW⟩)⟩ rfl rfl hl.1 rfl (lv_room (Nat.le_of_ble_eq_true rfl)) dX5_grows_161 ⟨(Nat.le_refl _), (Nat.le_refl _)⟩) hS (fun H locs hM hS => ?_)
  refine lv_if_eq (tgt := 186) hx hb dX5_grows_164 (by decide) (fun c164 => ?_) (fun c164 => ?_)
  · replace h := o_t c164 h
    refine lv_iconst (v := (0 : Int32)) hx hb dX5_grows_186 (by decide) ?_
    replace h := Option.some.inj h; subst h
    exact W.zret hx hb hr rfl (fun t ht hW => ⟨rfl, by rw [ht]; exact hM.moved hW.alike, hS.F ht⟩) hS.2.2 dX5_grows_187
  replace h := o_f c164 h
  refine lv_iload hx hb dX5_grows_167 (lv_at hl 4 rfl) ?_
  refine lv_if_eq (tgt := 186) hx hb dX5_grows_169 (by decide) (fun c169 => ?_) (fun c169 => ?_)
  · replace h := o_t c169 h
    refine lv_iconst (v := (0 : Int32)) hx hb dX5_grows_186 (by decide) ?_
    replace h := Option.some.inj h; subst h
    exact W.zret hx hb hr rfl (fun t ht hW => ⟨rfl, by rw [ht]; exact hM.moved hW.alike, hS.F ht⟩) hS.2.2 dX5_grows_187
  replace h := o_f c169 h
  refine lv_iload hx hb dX5_grows_172 (lv_at hl 5 rfl) ?_
  refine lv_if_ne (tgt := 186) hx hb dX5_grows_174 (by decide) (fun c174 => ?_) (fun c174 => ?_)
  · replace h := o_f c174 h
    refine lv_iconst (v := (0 : Int32)) hx hb dX5_grows_186 (by decide) ?_
    replace h := Option.some.inj h; subst h
    exact W.zret hx hb hr rfl (fun t ht hW => ⟨rfl, by rw [ht]; exact hM.moved hW.alike, hS.F ht⟩) hS.2.2 dX5_grows_187
  replace h := o_t c174 h
  refine lv_aload_n hx hb dX5_grows_177 rfl (lv_at hl 1 rfl) ?_
  refine lv_iload hx hb dX5_grows_178 (lv_at hl 3 rfl) ?_
  refine lv_iconst (v := (1 : Int32)) hx hb dX5_grows_180 (by decide) ?_
  replace h := o_b h; obtain ⟨_, k181, h⟩ := h
  replace h := o_b h; obtain ⟨q181, h181, h⟩ := h
  refine m_call (va_runV (As := [.int v5, .int (1 : Int32)]) (rest := []) ⟨hx, hb, hml, hown, hts⟩ (c_X3_set l D b0 sz h181) (cwV 2 hts gX5_grows_X3_set rfl rfl rfl (by decide +kernel) ⟨Nat.le_of_ble_eq_true rfl, Nat.le_of_ble_eq_true rfl⟩) ⟨PW.blind, m_recv (ci := 3) rfl hK hM k181, (fun U hU hW => ⟨rfl, PW.call hK hM hS hU hW⟩)⟩ rfl rfl hl.1 rfl (lv_room (Nat.le_of_ble_eq_true rfl)) dX5_grows_181 ⟨(Nat.le_refl _), (Nat.le_refl _)⟩) hS (fun H locs hM hS => ?_)
  refine lv_iconst (v := (1 : Int32)) hx hb dX5_grows_184 (by decide) ?_
  replace h := Option.some.inj h; subst h
  exact W.zret hx hb hr rfl (fun t ht hW => ⟨rfl, by rw [ht]; exact hM.moved hW.alike, hS.F ht⟩) hS.2.2 dX5_grows_185
set_option maxHeartbeats 4000000 in
set_option maxRecDepth 100000 in
theorem w_X5_grows_140 (C0 : CX cX5_grows 9 (some .boolean) wsX5_grows RX5 p s m args meth c D b0) {res : Int32 × mmF} : ∀ (v1 : Nat) (v4 : Int32) (v5 : Int32) (f : mmF), f_X5_grows_140 v1 v4 v5 f = some res → ∀ (H : Heap) (locs : List Loc) (ls : Array Slot), MM vwCl D b0 f sz s H → mS b0 s H locs → lv_has ls 9 [(1, .ref v1), (4, .int v4), (5, .int v5)] → W p l e ({ frames := 1, cells := 0, slots := 0, locals := 24 } : Room) s m args below meth c H locs 0 0 (MQ below (QW D b0 (some (.int res.1)) res.2 sz) args s 0 0 (fun q => b0 ≤ q)) (F0 m 140 ls []) := by
  obtain ⟨hx, hb, hr, hml, hown, hts, hlocks, hK⟩ := id C0
  intro v1 v4 v5 f h H locs ls hM hS hl
  unfold f_X5_grows_140 at h
  refine lv_aload_n hx hb dX5_grows_140 rfl (lv_at hl 0 rfl) ?_
  refine lv_iload hx hb dX5_grows_141 (lv_at hl 1 rfl) ?_
  refine lv_iconst (v := (1 : Int32)) hx hb dX5_grows_143 (by decide) ?_
  replace h := o_b h; obtain ⟨_, k144, h⟩ := h
  replace h := o_b h; obtain ⟨q144, h144, h⟩ := h
  refine m_call (va_runV (As := [.int v4, .int (1 : Int32)]) (rest := []) ⟨hx, hb, hml, hown, hts⟩ (c_X3_set l D b0 sz h144) (cwV 2 hts gX5_grows_X3_set rfl rfl rfl (by decide +kernel) ⟨Nat.le_of_ble_eq_true rfl, Nat.le_of_ble_eq_true rfl⟩) ⟨PW.blind, m_recv (ci := 3) rfl hK hM k144, (fun U hU hW => ⟨rfl, PW.call hK hM hS hU hW⟩)⟩ rfl rfl hl.1 rfl (lv_room (Nat.le_of_ble_eq_true rfl)) dX5_grows_144 ⟨(Nat.le_refl _), (Nat.le_refl _)⟩) hS (fun H locs hM hS => ?_)
  refine lv_aload_n hx hb dX5_grows_147 rfl (lv_at hl 0 rfl) ?_
  refine lv_iload hx hb dX5_grows_148 (lv_at hl 2 rfl) ?_
  refine lv_iconst (v := (1 : Int32)) hx hb dX5_grows_150 (by decide) ?_
  replace h := o_b h; obtain ⟨_, k151, h⟩ := h
  replace h := o_b h; obtain ⟨q151, h151, h⟩ := h
  refine m_call (va_runV (As := [.int v5, .int (1 : Int32)]) (rest := []) ⟨hx, hb, hml, hown, hts⟩ (c_X3_set l D b0 sz h151) (cwV 2 hts gX5_grows_X3_set rfl rfl rfl (by decide +kernel) ⟨Nat.le_of_ble_eq_true rfl, Nat.le_of_ble_eq_true rfl⟩) ⟨PW.blind, m_recv (ci := 3) rfl hK hM k151, (fun U hU hW => ⟨rfl, PW.call hK hM hS hU hW⟩)⟩ rfl rfl hl.1 rfl (lv_room (Nat.le_of_ble_eq_true rfl)) dX5_grows_151 ⟨(Nat.le_refl _), (Nat.le_refl _)⟩) hS (fun H locs hM hS => ?_)
  refine lv_iconst (v := (1 : Int32)) hx hb dX5_grows_154 (by decide) ?_
  replace h := Option.some.inj h; subst h
  exact W.zret hx hb hr rfl (fun t ht hW => ⟨rfl, by rw [ht]; exact hM.moved hW.alike, hS.F ht⟩) hS.2.2 dX5_grows_155
set_option maxHeartbeats 4000000 in
set_option maxRecDepth 100000 in
theorem w_X5_grows_112 (C0 : CX cX5_grows 9 (some .boolean) wsX5_grows RX5 p s m args meth c D b0) {res : Int32 × mmF} : ∀ (v1 : Nat) (v2 : Int32) (t0 : Int32) (f : mmF), f_X5_grows_112 v1 v2 t0 f = some res → ∀ (H : Heap) (locs : List Loc) (ls : Array Slot), MM vwCl D b0 f sz s H → mS b0 s H locs → lv_has ls 9 [(1, .ref v1), (2, .int v2)] → W p l e ({ frames := 1, cells := 0, slots := 0, locals := 24 } : Room) s m args below meth c H locs 0 0 (MQ below (QW D b0 (some (.int res.1)) res.2 sz) args s 0 0 (fun q => b0 ≤ q)) (F0 m 112 ls [.int t0]) := by
  obtain ⟨hx, hb, hr, hml, hown, hts, hlocks, hK⟩ := id C0
  intro v1 v2 t0 f h H locs ls hM hS hl
  unfold f_X5_grows_112 at h
  refine lv_istore (lv' := [(8, .int t0), (1, .ref v1), (2, .int v2)]) hx hb dX5_grows_112 hl (by decide) rfl (fun ls hl => ?_)
  refine lv_aload_n hx hb dX5_grows_114 rfl (lv_at hl 1 rfl) ?_
  refine lv_iload_n hx hb dX5_grows_115 rfl (lv_at hl 2 rfl) ?_
  refine lv_iload hx hb dX5_grows_116 (lv_at hl 0 rfl) ?_
  replace h := o_b h; obtain ⟨_, k118, h⟩ := h
  replace h := o_b h; obtain ⟨q118, h118, h⟩ := h
  refine m_call (va_runV (As := [.int v2, .int t0]) (rest := []) ⟨hx, hb, hml, hown, hts⟩ (c_X3_set l D b0 sz h118) (cwV 2 hts gX5_grows_X3_set rfl rfl rfl (by decide +kernel) ⟨Nat.le_of_ble_eq_true rfl, Nat.le_of_ble_eq_true rfl⟩) ⟨PW.blind, m_recv (ci := 3) rfl hK hM k118, (fun U hU hW => ⟨rfl, PW.call hK hM hS hU hW⟩)⟩ rfl rfl hl.1 rfl (lv_room (Nat.le_of_ble_eq_true rfl)) dX5_grows_118 ⟨(Nat.le_refl _), (Nat.le_refl _)⟩) hS (fun H locs hM hS => ?_)
  refine lv_iload hx hb dX5_grows_121 (lv_at hl 0 rfl) ?_
  replace h := o_b h; obtain ⟨z123, hz123, h⟩ := h
  obtain ⟨ez123, nz123⟩ := rz_at hz123
  subst ez123
  replace h := Option.some.inj h; subst h
  exact W.zret hx hb hr nz123 (fun t ht hW => ⟨rfl, by rw [ht]; exact hM.moved hW.alike, hS.F ht⟩) hS.2.2 dX5_grows_123
set_option maxHeartbeats 4000000 in
set_option maxRecDepth 100000 in
theorem w_X5_grows_102 (C0 : CX cX5_grows 9 (some .boolean) wsX5_grows RX5 p s m args meth c D b0) {res : Int32 × mmF} : ∀ (v1 : Nat) (v2 : Int32) (f : mmF), f_X5_grows_102 v1 v2 f = some res → ∀ (H : Heap) (locs : List Loc) (ls : Array Slot), MM vwCl D b0 f sz s H → mS b0 s H locs → lv_has ls 9 [(1, .ref v1), (2, .int v2)] → W p l e ({ frames := 1, cells := 0, slots := 0, locals := 24 } : Room) s m args below meth c H locs 0 0 (MQ below (QW D b0 (some (.int res.1)) res.2 sz) args s 0 0 (fun q => b0 ≤ q)) (F0 m 102 ls []) := by
  obtain ⟨hx, hb, hr, hml, hown, hts, hlocks, hK⟩ := id C0
  intro v1 v2 f h H locs ls hM hS hl
  unfold f_X5_grows_102 at h
  refine lv_iconst (v := (1 : Int32)) hx hb dX5_grows_102 (by decide) ?_
  refine lv_goto (tgt := 112) hx hb dX5_grows_103 (by decide) ?_
  exact w_X5_grows_112 C0 _ _ _ _ h _ _ _ hM hS (lv_sub hl [0, 1] rfl)
set_option maxHeartbeats 4000000 in
set_option maxRecDepth 100000 in
theorem w_X5_grows_82 (C0 : CX cX5_grows 9 (some .boolean) wsX5_grows RX5 p s m args meth c D b0) {res : Int32 × mmF} : ∀ (v1 : Nat) (v2 : Int32) (f : mmF), f_X5_grows_82 v1 v2 f = some res → ∀ (H : Heap) (locs : List Loc) (ls : Array Slot), MM vwCl D b0 f sz s H → mS b0 s H locs → lv_has ls 9 [(1, .ref v1), (2, .int v2)] → W p l e ({ frames := 1, cells := 0, slots := 0, locals := 24 } : Room) s m args below meth c H locs 0 0 (MQ below (QW D b0 (some (.int res.1)) res.2 sz) args s 0 0 (fun q => b0 ≤ q)) (F0 m 82 ls []) := by
  obtain ⟨hx, hb, hr, hml, hown, hts, hlocks, hK⟩ := id C0
  intro v1 v2 f h H locs ls hM hS hl
  unfold f_X5_grows_82 at h
  refine lv_iconst (v := (0 : Int32)) hx hb dX5_grows_82 (by decide) ?_
  refine lv_goto (tgt := 112) hx hb dX5_grows_83 (by decide) ?_
  exact w_X5_grows_112 C0 _ _ _ _ h _ _ _ hM hS (lv_sub hl [0, 1] rfl)
set_option maxHeartbeats 4000000 in
set_option maxRecDepth 100000 in
theorem w_X5_grows (C0 : CX cX5_grows 9 (some .boolean) wsX5_grows RX5 p s m args meth c D b0) {v0 : Nat} {v1 : Nat} {v2 : Int32} {res : Int32 × mmF} (h : f_X5_grows v0 v1 v2 f = some res) : ∀ (H : Heap) (locs : List Loc) (ls : Array Slot), MM vwCl D b0 f sz s H → mS b0 s H locs → lv_has ls 9 [(0, .ref v0), (1, .ref v1), (2, .int v2)] → W p l e ({ frames := 1, cells := 0, slots := 0, locals := 24 } : Room) s m args below meth c H locs 0 0 (MQ below (QW D b0 (some (.int res.1)) res.2 sz) args s 0 0 (fun q => b0 ≤ q)) (F0 m 0 ls []) := by
  obtain ⟨hx, hb, hr, hml, hown, hts, hlocks, hK⟩ := id C0
  intro H locs ls hM hS hl
  unfold f_X5_grows at h
  refine lv_aload_n hx hb dX5_grows_0 rfl (lv_at hl 0 rfl) ?_
  replace h := o_b h; obtain ⟨x1, h1, h⟩ := h
  refine m_get (C := RX5) (T := TX5) (N := 5) (ci := 5) hx hb hts qi_X5_grows_X5 hown hK.1 hM 1 (ldR_F h1) rfl (by decide) (hts _ q_X5_grows_1) (fun _ h9 => h9) dX5_grows_1 ?_
  replace h := o_b h; obtain ⟨x4, h4, h⟩ := h
  refine m_get (C := RX4) (T := TX4) (N := 8) (ci := 4) hx hb hts qi_X5_grows_X4 hown hK.1 hM 1 (ldR_F h4) rfl (by decide) (hts _ q_X5_grows_3) (fun _ h9 => h9) dX5_grows_4 ?_
  refine lv_iload_n hx hb dX5_grows_7 rfl (lv_at hl 2 rfl) ?_
  replace h := o_b h; obtain ⟨q8, h8, h⟩ := h
  refine m_call (va_runSN (As := [.ref x4, .int v2]) (rest := []) ⟨hx, hb, hml, hown, hts⟩ (c_X9_at l D b0 sz h8) ⟨(va_cnB 2 hts gX5_grows_X9_at_n104 rfl rfl rfl (hK.2.1 (RX5, 104, yX9_at, "StageTruths") (by decide)) (hts _ q_X5_grows_4) (by decide +kernel) ⟨Nat.le_of_ble_eq_true rfl, Nat.le_of_ble_eq_true rfl⟩), (hts _ q_X5_grows_5), trivial⟩ ⟨PW.blind, (fun U hU hW => ⟨rfl, PW.call hK hM hS hU hW⟩)⟩ rfl rfl hl.1 rfl (lv_room (Nat.le_of_ble_eq_true rfl)) dX5_grows_8 ⟨(Nat.le_refl _), (Nat.le_refl _)⟩) hS (fun H locs hM hS => ?_)
  refine lv_istore_n (lv' := [(3, .int q8), (0, .ref v0), (1, .ref v1), (2, .int v2)]) hx hb dX5_grows_11 rfl hl (by decide) rfl (fun ls hl => ?_)
  refine lv_aload_n hx hb dX5_grows_12 rfl (lv_at hl 1 rfl) ?_
  replace h := o_b h; obtain ⟨x13, h13, h⟩ := h
  refine m_get (C := RX5) (T := TX5) (N := 5) (ci := 5) hx hb hts qi_X5_grows_X5 hown hK.1 hM 1 (ldR_F h13) rfl (by decide) (hts _ q_X5_grows_1) (fun _ h9 => h9) dX5_grows_13 ?_
  replace h := o_b h; obtain ⟨x16, h16, h⟩ := h
  refine m_get (C := RX4) (T := TX4) (N := 8) (ci := 4) hx hb hts qi_X5_grows_X4 hown hK.1 hM 2 (ldR_F h16) rfl (by decide) (hts _ q_X5_grows_6) (fun _ h9 => h9) dX5_grows_16 ?_
  refine lv_iload_n hx hb dX5_grows_19 rfl (lv_at hl 3 rfl) ?_
  replace h := o_b h; obtain ⟨q20, h20, h⟩ := h
  refine m_call (va_runSN (As := [.ref x16, .int v2]) (rest := []) ⟨hx, hb, hml, hown, hts⟩ (c_X9_at l D b0 sz h20) ⟨(va_cnB 2 hts gX5_grows_X9_at_n104 rfl rfl rfl (hK.2.1 (RX5, 104, yX9_at, "StageTruths") (by decide)) (hts _ q_X5_grows_4) (by decide +kernel) ⟨Nat.le_of_ble_eq_true rfl, Nat.le_of_ble_eq_true rfl⟩), (hts _ q_X5_grows_5), trivial⟩ ⟨PW.blind, (fun U hU hW => ⟨rfl, PW.call hK hM hS hU hW⟩)⟩ rfl rfl hl.1 rfl (lv_room (Nat.le_of_ble_eq_true rfl)) dX5_grows_20 ⟨(Nat.le_refl _), (Nat.le_refl _)⟩) hS (fun H locs hM hS => ?_)
  refine lv_istore (lv' := [(4, .int q20), (3, .int q8), (0, .ref v0), (1, .ref v1), (2, .int v2)]) hx hb dX5_grows_23 hl (by decide) rfl (fun ls hl => ?_)
  refine lv_aload_n hx hb dX5_grows_25 rfl (lv_at hl 2 rfl) ?_
  replace h := o_b h; obtain ⟨x26, h26, h⟩ := h
  refine m_get (C := RX5) (T := TX5) (N := 5) (ci := 5) hx hb hts qi_X5_grows_X5 hown hK.1 hM 1 (ldR_F h26) rfl (by decide) (hts _ q_X5_grows_1) (fun _ h9 => h9) dX5_grows_26 ?_
  replace h := o_b h; obtain ⟨x29, h29, h⟩ := h
  refine m_get (C := RX4) (T := TX4) (N := 8) (ci := 4) hx hb hts qi_X5_grows_X4 hown hK.1 hM 3 (ldR_F h29) rfl (by decide) (hts _ q_X5_grows_7) (fun _ h9 => h9) dX5_grows_29 ?_
  refine lv_iload_n hx hb dX5_grows_32 rfl (lv_at hl 4 rfl) ?_
  replace h := o_b h; obtain ⟨q33, h33, h⟩ := h
  refine m_call (va_runSN (As := [.ref x29, .int v2]) (rest := []) ⟨hx, hb, hml, hown, hts⟩ (c_X9_at l D b0 sz h33) ⟨(va_cnB 2 hts gX5_grows_X9_at_n104 rfl rfl rfl (hK.2.1 (RX5, 104, yX9_at, "StageTruths") (by decide)) (hts _ q_X5_grows_4) (by decide +kernel) ⟨Nat.le_of_ble_eq_true rfl, Nat.le_of_ble_eq_true rfl⟩), (hts _ q_X5_grows_5), trivial⟩ ⟨PW.blind, (fun U hU hW => ⟨rfl, PW.call hK hM hS hU hW⟩)⟩ rfl rfl hl.1 rfl (lv_room (Nat.le_of_ble_eq_true rfl)) dX5_grows_33 ⟨(Nat.le_refl _), (Nat.le_refl _)⟩) hS (fun H locs hM hS => ?_)
  refine lv_istore (lv' := [(5, .int q33), (4, .int q20), (3, .int q8), (0, .ref v0), (1, .ref v1), (2, .int v2)]) hx hb dX5_grows_36 hl (by decide) rfl (fun ls hl => ?_)
  refine lv_aload_n hx hb dX5_grows_38 rfl (lv_at hl 4 rfl) ?_
  refine lv_iload hx hb dX5_grows_39 (lv_at hl 1 rfl) ?_
  replace h := o_b h; obtain ⟨_, k41, h⟩ := h
  replace h := o_b h; obtain ⟨q41, h41, h⟩ := h
  refine m_call (va_runV (As := [.int q20]) (rest := []) ⟨hx, hb, hml, hown, hts⟩ (c_X3_has l D b0 sz h41) (cwV 1 hts gX5_grows_X3_has rfl rfl rfl (by decide +kernel) ⟨Nat.le_of_ble_eq_true rfl, Nat.le_of_ble_eq_true rfl⟩) ⟨PW.blind, m_recv (ci := 3) rfl hK hM k41, (fun U hU hW => ⟨rfl, PW.call hK hM hS hU hW⟩)⟩ rfl rfl hl.1 rfl (lv_room (Nat.le_of_ble_eq_true rfl)) dX5_grows_41 ⟨(Nat.le_refl _), (Nat.le_refl _)⟩) hS (fun H locs hM hS => ?_)
  refine lv_istore (lv' := [(6, .int q41), (5, .int q33), (4, .int q20), (3, .int q8), (0, .ref v0), (1, .ref v1), (2, .int v2)]) hx hb dX5_grows_44 hl (by decide) rfl (fun ls hl => ?_)
  refine lv_aload_n hx hb dX5_grows_46 rfl (lv_at hl 5 rfl) ?_
  refine lv_iload hx hb dX5_grows_47 (lv_at hl 1 rfl) ?_
  replace h := o_b h; obtain ⟨_, k49, h⟩ := h
  replace h := o_b h; obtain ⟨q49, h49, h⟩ := h
  refine m_call (va_runV (As := [.int q33]) (rest := []) ⟨hx, hb, hml, hown, hts⟩ (c_X3_has l D b0 sz h49) (cwV 1 hts gX5_grows_X3_has rfl rfl rfl (by decide +kernel) ⟨Nat.le_of_ble_eq_true rfl, Nat.le_of_ble_eq_true rfl⟩) ⟨PW.blind, m_recv (ci := 3) rfl hK hM k49, (fun U hU hW => ⟨rfl, PW.call hK hM hS hU hW⟩)⟩ rfl rfl hl.1 rfl (lv_room (Nat.le_of_ble_eq_true rfl)) dX5_grows_49 ⟨(Nat.le_refl _), (Nat.le_refl _)⟩) hS (fun H locs hM hS => ?_)
  refine lv_istore (lv' := [(7, .int q49), (6, .int q41), (5, .int q33), (4, .int q20), (3, .int q8), (0, .ref v0), (1, .ref v1), (2, .int v2)]) hx hb dX5_grows_52 hl (by decide) rfl (fun ls hl => ?_)
  refine lv_aload_n hx hb dX5_grows_54 rfl (lv_at hl 6 rfl) ?_
  refine lv_iload_n hx hb dX5_grows_55 rfl (lv_at hl 7 rfl) ?_
  replace h := o_b h; obtain ⟨_, k56, h⟩ := h
  replace h := o_b h; obtain ⟨q56, h56, h⟩ := h
  refine m_call (va_runV (As := [.int v2]) (rest := []) ⟨hx, hb, hml, hown, hts⟩ (c_X3_has l D b0 sz h56) (cwV 1 hts gX5_grows_X3_has rfl rfl rfl (by decide +kernel) ⟨Nat.le_of_ble_eq_true rfl, Nat.le_of_ble_eq_true rfl⟩) ⟨PW.blind, m_recv (ci := 3) rfl hK hM k56, (fun U hU hW => ⟨rfl, PW.call hK hM hS hU hW⟩)⟩ rfl rfl hl.1 rfl (lv_room (Nat.le_of_ble_eq_true rfl)) dX5_grows_56 ⟨(Nat.le_refl _), (Nat.le_refl _)⟩) hS (fun H locs hM hS => ?_)
  refine lv_if_ne (tgt := 124) hx hb dX5_grows_59 (by decide) (fun c59 => ?_) (fun c59 => ?_)
  · replace h := o_f c59 h
    refine lv_iload_n hx hb dX5_grows_124 rfl (lv_at hl 4 rfl) ?_
    refine lv_bipush (v := (7 : Int32)) hx hb dX5_grows_125 (by decide) ?_
    refine lv_icmp_ne (tgt := 156) hx hb dX5_grows_127 (by decide) (fun c127 => ?_) (fun c127 => ?_)
    · replace h := o_f c127 h
      exact w_X5_grows_156 C0 _ _ _ _ _ _ _ h _ _ _ hM hS (lv_sub hl [5, 6, 7, 2, 1, 0] rfl)
    replace h := o_t c127 h
    refine lv_iload hx hb dX5_grows_130 (lv_at hl 1 rfl) ?_
    refine lv_if_eq (tgt := 140) hx hb dX5_grows_132 (by decide) (fun c132 => ?_) (fun c132 => ?_)
    · replace h := o_t c132 h
      exact w_X5_grows_140 C0 _ _ _ _ h _ _ _ hM hS (lv_sub hl [6, 3, 2] rfl)
    replace h := o_f c132 h
    refine lv_iload hx hb dX5_grows_135 (lv_at hl 0 rfl) ?_
    refine lv_if_ne (tgt := 156) hx hb dX5_grows_137 (by decide) (fun c137 => ?_) (fun c137 => ?_)
    · replace h := o_f c137 h
      exact w_X5_grows_156 C0 _ _ _ _ _ _ _ h _ _ _ hM hS (lv_sub hl [5, 6, 7, 2, 1, 0] rfl)
    replace h := o_t c137 h
    exact w_X5_grows_140 C0 _ _ _ _ h _ _ _ hM hS (lv_sub hl [6, 3, 2] rfl)
  replace h := o_t c59 h
  refine lv_iload_n hx hb dX5_grows_62 rfl (lv_at hl 4 rfl) ?_
  refine lv_bipush (v := (7 : Int32)) hx hb dX5_grows_63 (by decide) ?_
  refine lv_icmp_ne (tgt := 86) hx hb dX5_grows_65 (by decide) (fun c65 => ?_) (fun c65 => ?_)
  · replace h := o_f c65 h
    refine lv_iload_n hx hb dX5_grows_86 rfl (lv_at hl 4 rfl) ?_
    refine lv_bipush (v := (8 : Int32)) hx hb dX5_grows_87 (by decide) ?_
    refine lv_icmp_ne (tgt := 110) hx hb dX5_grows_89 (by decide) (fun c89 => ?_) (fun c89 => ?_)
    · replace h := o_f c89 h
      refine lv_iload hx hb dX5_grows_110 (lv_at hl 0 rfl) ?_
      exact w_X5_grows_112 C0 _ _ _ _ h _ _ _ hM hS (lv_sub hl [6, 7] rfl)
    replace h := o_t c89 h
    refine lv_iload hx hb dX5_grows_92 (lv_at hl 1 rfl) ?_
    refine lv_if_ne (tgt := 102) hx hb dX5_grows_94 (by decide) (fun c94 => ?_) (fun c94 => ?_)
    · replace h := o_f c94 h
      exact w_X5_grows_102 C0 _ _ _ h _ _ _ hM hS (lv_sub hl [6, 7] rfl)
    replace h := o_t c94 h
    refine lv_iload hx hb dX5_grows_97 (lv_at hl 0 rfl) ?_
    refine lv_if_eq (tgt := 106) hx hb dX5_grows_99 (by decide) (fun c99 => ?_) (fun c99 => ?_)
    · replace h := o_t c99 h
      refine lv_iconst (v := (0 : Int32)) hx hb dX5_grows_106 (by decide) ?_
      refine lv_goto (tgt := 112) hx hb dX5_grows_107 (by decide) ?_
      exact w_X5_grows_112 C0 _ _ _ _ h _ _ _ hM hS (lv_sub hl [6, 7] rfl)
    replace h := o_f c99 h
    exact w_X5_grows_102 C0 _ _ _ h _ _ _ hM hS (lv_sub hl [6, 7] rfl)
  replace h := o_t c65 h
  refine lv_iload hx hb dX5_grows_68 (lv_at hl 1 rfl) ?_
  refine lv_if_eq (tgt := 82) hx hb dX5_grows_70 (by decide) (fun c70 => ?_) (fun c70 => ?_)
  · replace h := o_t c70 h
    exact w_X5_grows_82 C0 _ _ _ h _ _ _ hM hS (lv_sub hl [6, 7] rfl)
  replace h := o_f c70 h
  refine lv_iload hx hb dX5_grows_73 (lv_at hl 0 rfl) ?_
  refine lv_if_eq (tgt := 82) hx hb dX5_grows_75 (by decide) (fun c75 => ?_) (fun c75 => ?_)
  · replace h := o_t c75 h
    exact w_X5_grows_82 C0 _ _ _ h _ _ _ hM hS (lv_sub hl [6, 7] rfl)
  replace h := o_f c75 h
  refine lv_iconst (v := (1 : Int32)) hx hb dX5_grows_78 (by decide) ?_
  refine lv_goto (tgt := 112) hx hb dX5_grows_79 (by decide) ?_
  exact w_X5_grows_112 C0 _ _ _ _ h _ _ _ hM hS (lv_sub hl [6, 7] rfl)
set_option maxHeartbeats 4000000 in
set_option maxRecDepth 100000 in
theorem c_X5_grows (l : Launch) (D : mmD) (b0 sz : Nat) {v0 : Nat} {v1 : Nat} {v2 : Int32} {f : mmF} {res : Int32 × mmF} (h : f_X5_grows v0 v1 v2 f = some res) : Met l yX5_grows wsX5_grows ({ frames := 1, cells := 0, slots := 0, locals := 24 } : Room) (va_Pc [.ref v0, .ref v1, .int v2] (PW D b0 f sz)) (QW D b0 (some (.int res.1)) res.2 sz) 0 0 (fun q => b0 ≤ q) := by
  refine Met.ofW (cc := cX5_grows) (maxL := 9) (ret := (some .boolean)) (by decide) rfl ?_
  intro p e s m args below meth c s₁ B hml hv
  obtain ⟨rfl, hM, hK⟩ := hv
  have hl := lv_entry ([.ref v0, .ref v1, .int v2]) (n := 9) (Nat.le_of_ble_eq_true rfl)
  rw [lg_entry_eq]
  generalize (lg_sl ([.ref v0, .ref v1, .int v2]) ++ List.replicate (9 - (lg_sl ([.ref v0, .ref v1, .int v2])).length) Slot.unset).toArray = ls at hl ⊢
  have hl : lv_has ls 9 [(0, .ref v0), (1, .ref v1), (2, .int v2)] := hl
  exact w_X5_grows ⟨B.exec, B.bytes, B.returns, hml, findClass_of_methodNamed B.named, atoms_spec (ws := wsX5_grows) B.pre, B.notSynchronized, hK⟩ h s.heap [] ls hM va_S.rf hl
end S_X5_grows
/-! X5_spread -/
set_option maxRecDepth 20000 in
theorem qi_X5_spread_X5 : ∀ w ∈ u_ws RX5 TX5 5, w ∈ wsX5_spread := by decide +kernel
set_option maxRecDepth 20000 in
theorem q_X5_spread_1 : Cond.fieldLink RX5 24 "StageTruths$Proof" "parts" "LStageTruths$Parts;" ∈ wsX5_spread := by decide +kernel
set_option maxRecDepth 20000 in
theorem qi_X5_spread_X4 : ∀ w ∈ u_ws RX4 TX4 8, w ∈ wsX5_spread := by decide +kernel
set_option maxRecDepth 20000 in
theorem q_X5_spread_3 : Cond.fieldLink RX5 141 "StageTruths$Parts" "size" "I" ∈ wsX5_spread := by decide +kernel
noncomputable def f_X5_spread_60 (k4 : Nat → Nat → Int32 → Int32 → mmF → Option (mmF))  : Nat → Nat → Nat → Int32 → Int32 → Int32 → mmF → Option (mmF)
  | 0, _, _, _, _, _, _ => none
  | n + 1, v0, v1, v2, v3, v4, f =>
    if v4 < (6 : Int32) then
    (k4 v0 v1 v2 (v3 + (1 : Int32)) f)
    else
    (ckO f v0 5).bind fun _ =>
    (f_X5_grows v0 v1 v4 f).bind fun q72 =>
    f_X5_spread_60 k4 n v0 v1 (v2 ||| q72.1) v3 (v4 + (-1 : Int32)) q72.2
noncomputable def f_X5_spread_21 (k4 : Nat → Nat → Int32 → Int32 → mmF → Option (mmF))  : Nat → Nat → Nat → Int32 → Int32 → Int32 → mmF → Option (mmF)
  | 0, _, _, _, _, _, _ => none
  | n + 1, v0, v1, v2, v3, v4, f =>
    (ldR f v0 5 1).bind fun x24 =>
    (ldI f x24 4 0).bind fun x27 =>
    if x27 ≤ v4 then
    ((ldR f v0 5 1).bind fun x50 =>
    (ldI f x50 4 0).bind fun x53 =>
    f_X5_spread_60 k4 FU v0 v1 v2 v3 (x53 - (1 : Int32)) f)
    else
    (ckO f v0 5).bind fun _ =>
    (f_X5_grows v0 v1 v4 f).bind fun q38 =>
    f_X5_spread_21 k4 n v0 v1 (v2 ||| q38.1) v3 (v4 + (1 : Int32)) q38.2
noncomputable def f_X5_spread_4   : Nat → Nat → Nat → Int32 → Int32 → mmF → Option (mmF)
  | 0, _, _, _, _, _ => none
  | n + 1, v0, v1, v2, v3, f =>
    if v2 = 0 then
    (some (f))
    else
    if (151 : Int32) < v3 then
    (some (f))
    else
    f_X5_spread_21 (fun a0 a1 a2 a3 a4 => f_X5_spread_4 n a0 a1 a2 a3 a4) FU v0 v1 (0 : Int32) v3 (6 : Int32) f
noncomputable def f_X5_spread (v0 : Nat) (v1 : Nat) (f : mmF) : Option (mmF) :=
  f_X5_spread_4 FU v0 v1 (1 : Int32) (0 : Int32) f
section S_X5_spread
variable {p : Program} {l : Launch} {e : Env} {s : State} {m : MethodId} {args : Array Value} {below : List Frame} {meth : Method} {c : Code} {D : mmD} {b0 sz : Nat} {f : mmF}
set_option maxHeartbeats 4000000 in
set_option maxRecDepth 100000 in
theorem w_X5_spread_60 (C0 : CX cX5_spread 5 none wsX5_spread RX5 p s m args meth c D b0) {k4 : Nat → Nat → Int32 → Int32 → mmF → Option (mmF)} {res : mmF} (hk4 : ∀ (v0 : Nat) (v1 : Nat) (v2 : Int32) (v3 : Int32) (f : mmF), k4 v0 v1 v2 v3 f = some res → ∀ (H : Heap) (locs : List Loc) (ls : Array Slot), MM vwCl D b0 f sz s H → mS b0 s H locs → lv_has ls 5 [(0, .ref v0), (1, .ref v1), (2, .int v2), (3, .int v3)] → W p l e ({ frames := 2, cells := 0, slots := 0, locals := 52 } : Room) s m args below meth c H locs 0 0 (MQ below (QW D b0 none res sz) args s 0 0 (fun q => b0 ≤ q)) (F0 m 4 ls [])) : ∀ (n : Nat), ∀ (v0 : Nat) (v1 : Nat) (v2 : Int32) (v3 : Int32) (v4 : Int32) (f : mmF), f_X5_spread_60 k4 n v0 v1 v2 v3 v4 f = some res → ∀ (H : Heap) (locs : List Loc) (ls : Array Slot), MM vwCl D b0 f sz s H → mS b0 s H locs → lv_has ls 5 [(0, .ref v0), (1, .ref v1), (2, .int v2), (3, .int v3), (4, .int v4)] → W p l e ({ frames := 2, cells := 0, slots := 0, locals := 52 } : Room) s m args below meth c H locs 0 0 (MQ below (QW D b0 none res sz) args s 0 0 (fun q => b0 ≤ q)) (F0 m 60 ls []) := by
  obtain ⟨hx, hb, hr, hml, hown, hts, hlocks, hK⟩ := id C0
  intro n
  induction n with
  | zero =>
    intro v0 v1 v2 v3 v4 f h
    have h : (none : Option (mmF)) = some res := h
    cases h
  | succ n ih =>
    intro v0 v1 v2 v3 v4 f h H locs ls hM hS hl
    rw [f_X5_spread_60] at h
    refine lv_iload hx hb dX5_spread_60 (lv_at hl 4 rfl) ?_
    refine lv_bipush (v := (6 : Int32)) hx hb dX5_spread_62 (by decide) ?_
    refine lv_icmp_lt (tgt := 83) hx hb dX5_spread_64 (by decide) (fun c64 => ?_) (fun c64 => ?_)
    · replace h := o_t c64 h
      refine lv_iinc (v := (v3 + (1 : Int32))) (lv' := [(3, .int (v3 + (1 : Int32))), (0, .ref v0), (1, .ref v1), (2, .int v2), (4, .int v4)]) hx hb dX5_spread_83 hl (k := 3) rfl rfl (by decide) rfl (fun ls hl => ?_)
      refine lv_goto (tgt := 4) hx hb dX5_spread_86 (by decide) ?_
      exact hk4 _ _ _ _ _ h _ _ _ hM hS (lv_sub hl [1, 2, 3, 0] rfl)
    replace h := o_f c64 h
    refine lv_iload_n hx hb dX5_spread_67 rfl (lv_at hl 2 rfl) ?_
    refine lv_aload_n hx hb dX5_spread_68 rfl (lv_at hl 0 rfl) ?_
    refine lv_aload_n hx hb dX5_spread_69 rfl (lv_at hl 1 rfl) ?_
    refine lv_iload hx hb dX5_spread_70 (lv_at hl 4 rfl) ?_
    replace h := o_b h; obtain ⟨_, k72, h⟩ := h
    replace h := o_b h; obtain ⟨q72, h72, h⟩ := h
    refine m_call (va_runV (As := [.ref v1, .int v4]) (rest := [.int v2]) ⟨hx, hb, hml, hown, hts⟩ (c_X5_grows l D b0 sz h72) (cwV 2 hts gX5_spread_X5_grows rfl rfl rfl (by decide +kernel) ⟨Nat.le_of_ble_eq_true rfl, Nat.le_of_ble_eq_true rfl⟩) ⟨PW.blind, m_recv (ci := 5) rfl hK hM k72, (fun U hU hW => ⟨rfl, PW.call hK hM hS hU hW⟩)⟩ rfl rfl hl.1 rfl (lv_room (Nat.le_of_ble_eq_true rfl)) dX5_spread_72 ⟨(Nat.le_refl _), (Nat.le_refl _)⟩) hS (fun H locs hM hS => ?_)
    refine lv_ior hx hb dX5_spread_75 ?_
    refine lv_istore_n (lv' := [(2, .int (v2 ||| q72.1)), (0, .ref v0), (1, .ref v1), (3, .int v3), (4, .int v4)]) hx hb dX5_spread_76 rfl hl (by decide) rfl (fun ls hl => ?_)
    refine lv_iinc (v := (v4 + (-1 : Int32))) (lv' := [(4, .int (v4 + (-1 : Int32))), (2, .int (v2 ||| q72.1)), (0, .ref v0), (1, .ref v1), (3, .int v3)]) hx hb dX5_spread_77 hl (k := 4) rfl rfl (by decide) rfl (fun ls hl => ?_)
    refine lv_goto (tgt := 60) hx hb dX5_spread_80 (by decide) ?_
    exact ih _ _ _ _ _ _ h _ _ _ hM hS (lv_sub hl [2, 3, 1, 4, 0] rfl)
set_option maxHeartbeats 4000000 in
set_option maxRecDepth 100000 in
theorem w_X5_spread_21 (C0 : CX cX5_spread 5 none wsX5_spread RX5 p s m args meth c D b0) {k4 : Nat → Nat → Int32 → Int32 → mmF → Option (mmF)} {res : mmF} (hk4 : ∀ (v0 : Nat) (v1 : Nat) (v2 : Int32) (v3 : Int32) (f : mmF), k4 v0 v1 v2 v3 f = some res → ∀ (H : Heap) (locs : List Loc) (ls : Array Slot), MM vwCl D b0 f sz s H → mS b0 s H locs → lv_has ls 5 [(0, .ref v0), (1, .ref v1), (2, .int v2), (3, .int v3)] → W p l e ({ frames := 2, cells := 0, slots := 0, locals := 52 } : Room) s m args below meth c H locs 0 0 (MQ below (QW D b0 none res sz) args s 0 0 (fun q => b0 ≤ q)) (F0 m 4 ls [])) : ∀ (n : Nat), ∀ (v0 : Nat) (v1 : Nat) (v2 : Int32) (v3 : Int32) (v4 : Int32) (f : mmF), f_X5_spread_21 k4 n v0 v1 v2 v3 v4 f = some res → ∀ (H : Heap) (locs : List Loc) (ls : Array Slot), MM vwCl D b0 f sz s H → mS b0 s H locs → lv_has ls 5 [(0, .ref v0), (1, .ref v1), (2, .int v2), (3, .int v3), (4, .int v4)] → W p l e ({ frames := 2, cells := 0, slots := 0, locals := 52 } : Room) s m args below meth c H locs 0 0 (MQ below (QW D b0 none res sz) args s 0 0 (fun q => b0 ≤ q)) (F0 m 21 ls []) := by
  obtain ⟨hx, hb, hr, hml, hown, hts, hlocks, hK⟩ := id C0
  intro n
  induction n with
  | zero =>
    intro v0 v1 v2 v3 v4 f h
    have h : (none : Option (mmF)) = some res := h
    cases h
  | succ n ih =>
    intro v0 v1 v2 v3 v4 f h H locs ls hM hS hl
    rw [f_X5_spread_21] at h
    refine lv_iload hx hb dX5_spread_21 (lv_at hl 4 rfl) ?_
    refine lv_aload_n hx hb dX5_spread_23 rfl (lv_at hl 0 rfl) ?_
    replace h := o_b h; obtain ⟨x24, h24, h⟩ := h
    refine m_get (C := RX5) (T := TX5) (N := 5) (ci := 5) hx hb hts qi_X5_spread_X5 hown hK.1 hM 1 (ldR_F h24) rfl (by decide) (hts _ q_X5_spread_1) (fun _ h9 => h9) dX5_spread_24 ?_
    replace h := o_b h; obtain ⟨x27, h27, h⟩ := h
    refine m_get (C := RX4) (T := TX4) (N := 8) (ci := 4) hx hb hts qi_X5_spread_X4 hown hK.1 hM 0 (ldI_F h27) rfl (by decide) (hts _ q_X5_spread_3) (fun _ h9 => h9) dX5_spread_27 ?_
    refine lv_icmp_ge (tgt := 49) hx hb dX5_spread_30 (by decide) (fun c30 => ?_) (fun c30 => ?_)
    · replace h := o_t c30 h
      refine lv_aload_n hx hb dX5_spread_49 rfl (lv_at hl 0 rfl) ?_
      replace h := o_b h; obtain ⟨x50, h50, h⟩ := h
      refine m_get (C := RX5) (T := TX5) (N := 5) (ci := 5) hx hb hts qi_X5_spread_X5 hown hK.1 hM 1 (ldR_F h50) rfl (by decide) (hts _ q_X5_spread_1) (fun _ h9 => h9) dX5_spread_50 ?_
      replace h := o_b h; obtain ⟨x53, h53, h⟩ := h
      refine m_get (C := RX4) (T := TX4) (N := 8) (ci := 4) hx hb hts qi_X5_spread_X4 hown hK.1 hM 0 (ldI_F h53) rfl (by decide) (hts _ q_X5_spread_3) (fun _ h9 => h9) dX5_spread_53 ?_
      refine lv_iconst (v := (1 : Int32)) hx hb dX5_spread_56 (by decide) ?_
      refine lv_isub hx hb dX5_spread_57 ?_
      refine lv_istore (lv' := [(4, .int (x53 - (1 : Int32))), (0, .ref v0), (1, .ref v1), (2, .int v2), (3, .int v3)]) hx hb dX5_spread_58 hl (by decide) rfl (fun ls hl => ?_)
      exact w_X5_spread_60 C0 hk4 FU _ _ _ _ _ _ h _ _ _ hM hS (lv_sub hl [1, 2, 3, 4, 0] rfl)
    replace h := o_f c30 h
    refine lv_iload_n hx hb dX5_spread_33 rfl (lv_at hl 2 rfl) ?_
    refine lv_aload_n hx hb dX5_spread_34 rfl (lv_at hl 0 rfl) ?_
    refine lv_aload_n hx hb dX5_spread_35 rfl (lv_at hl 1 rfl) ?_
    refine lv_iload hx hb dX5_spread_36 (lv_at hl 4 rfl) ?_
    replace h := o_b h; obtain ⟨_, k38, h⟩ := h
    replace h := o_b h; obtain ⟨q38, h38, h⟩ := h
    refine m_call (va_runV (As := [.ref v1, .int v4]) (rest := [.int v2]) ⟨hx, hb, hml, hown, hts⟩ (c_X5_grows l D b0 sz h38) (cwV 2 hts gX5_spread_X5_grows rfl rfl rfl (by decide +kernel) ⟨Nat.le_of_ble_eq_true rfl, Nat.le_of_ble_eq_true rfl⟩) ⟨PW.blind, m_recv (ci := 5) rfl hK hM k38, (fun U hU hW => ⟨rfl, PW.call hK hM hS hU hW⟩)⟩ rfl rfl hl.1 rfl (lv_room (Nat.le_of_ble_eq_true rfl)) dX5_spread_38 ⟨(Nat.le_refl _), (Nat.le_refl _)⟩) hS (fun H locs hM hS => ?_)
    refine lv_ior hx hb dX5_spread_41 ?_
    refine lv_istore_n (lv' := [(2, .int (v2 ||| q38.1)), (0, .ref v0), (1, .ref v1), (3, .int v3), (4, .int v4)]) hx hb dX5_spread_42 rfl hl (by decide) rfl (fun ls hl => ?_)
    refine lv_iinc (v := (v4 + (1 : Int32))) (lv' := [(4, .int (v4 + (1 : Int32))), (2, .int (v2 ||| q38.1)), (0, .ref v0), (1, .ref v1), (3, .int v3)]) hx hb dX5_spread_43 hl (k := 4) rfl rfl (by decide) rfl (fun ls hl => ?_)
    refine lv_goto (tgt := 21) hx hb dX5_spread_46 (by decide) ?_
    exact ih _ _ _ _ _ _ h _ _ _ hM hS (lv_sub hl [2, 3, 1, 4, 0] rfl)
set_option maxHeartbeats 4000000 in
set_option maxRecDepth 100000 in
theorem w_X5_spread_4 (C0 : CX cX5_spread 5 none wsX5_spread RX5 p s m args meth c D b0) {res : mmF} : ∀ (n : Nat), ∀ (v0 : Nat) (v1 : Nat) (v2 : Int32) (v3 : Int32) (f : mmF), f_X5_spread_4 n v0 v1 v2 v3 f = some res → ∀ (H : Heap) (locs : List Loc) (ls : Array Slot), MM vwCl D b0 f sz s H → mS b0 s H locs → lv_has ls 5 [(0, .ref v0), (1, .ref v1), (2, .int v2), (3, .int v3)] → W p l e ({ frames := 2, cells := 0, slots := 0, locals := 52 } : Room) s m args below meth c H locs 0 0 (MQ below (QW D b0 none res sz) args s 0 0 (fun q => b0 ≤ q)) (F0 m 4 ls []) := by
  obtain ⟨hx, hb, hr, hml, hown, hts, hlocks, hK⟩ := id C0
  intro n
  induction n with
  | zero =>
    intro v0 v1 v2 v3 f h
    have h : (none : Option (mmF)) = some res := h
    cases h
  | succ n ih =>
    intro v0 v1 v2 v3 f h H locs ls hM hS hl
    rw [f_X5_spread_4] at h
    refine lv_iload_n hx hb dX5_spread_4 rfl (lv_at hl 2 rfl) ?_
    refine lv_if_eq (tgt := 89) hx hb dX5_spread_5 (by decide) (fun c5 => ?_) (fun c5 => ?_)
    · replace h := o_t c5 h
      replace h := Option.some.inj h; subst h
      exact W.vret hx hb hr (fun t ht hW => ⟨rfl, by rw [ht]; exact hM.moved hW.alike, hS.F ht⟩) hS.2.2 dX5_spread_89
    replace h := o_f c5 h
    refine lv_iload_n hx hb dX5_spread_8 rfl (lv_at hl 3 rfl) ?_
    refine lv_sipush (v := (151 : Int32)) hx hb dX5_spread_9 (by decide) ?_
    refine lv_icmp_gt (tgt := 89) hx hb dX5_spread_12 (by decide) (fun c12 => ?_) (fun c12 => ?_)
    · replace h := o_t c12 h
      replace h := Option.some.inj h; subst h
      exact W.vret hx hb hr (fun t ht hW => ⟨rfl, by rw [ht]; exact hM.moved hW.alike, hS.F ht⟩) hS.2.2 dX5_spread_89
    replace h := o_f c12 h
    refine lv_iconst (v := (0 : Int32)) hx hb dX5_spread_15 (by decide) ?_
    refine lv_istore_n (lv' := [(2, .int (0 : Int32)), (0, .ref v0), (1, .ref v1), (3, .int v3)]) hx hb dX5_spread_16 rfl hl (by decide) rfl (fun ls hl => ?_)
    refine lv_bipush (v := (6 : Int32)) hx hb dX5_spread_17 (by decide) ?_
    refine lv_istore (lv' := [(4, .int (6 : Int32)), (2, .int (0 : Int32)), (0, .ref v0), (1, .ref v1), (3, .int v3)]) hx hb dX5_spread_19 hl (by decide) rfl (fun ls hl => ?_)
    exact w_X5_spread_21 C0 ih FU _ _ _ _ _ _ h _ _ _ hM hS (lv_sub hl [2, 3, 1, 4, 0] rfl)
set_option maxHeartbeats 4000000 in
set_option maxRecDepth 100000 in
theorem w_X5_spread (C0 : CX cX5_spread 5 none wsX5_spread RX5 p s m args meth c D b0) {v0 : Nat} {v1 : Nat} {res : mmF} (h : f_X5_spread v0 v1 f = some res) : ∀ (H : Heap) (locs : List Loc) (ls : Array Slot), MM vwCl D b0 f sz s H → mS b0 s H locs → lv_has ls 5 [(0, .ref v0), (1, .ref v1)] → W p l e ({ frames := 2, cells := 0, slots := 0, locals := 52 } : Room) s m args below meth c H locs 0 0 (MQ below (QW D b0 none res sz) args s 0 0 (fun q => b0 ≤ q)) (F0 m 0 ls []) := by
  obtain ⟨hx, hb, hr, hml, hown, hts, hlocks, hK⟩ := id C0
  intro H locs ls hM hS hl
  unfold f_X5_spread at h
  refine lv_iconst (v := (1 : Int32)) hx hb dX5_spread_0 (by decide) ?_
  refine lv_istore_n (lv' := [(2, .int (1 : Int32)), (0, .ref v0), (1, .ref v1)]) hx hb dX5_spread_1 rfl hl (by decide) rfl (fun ls hl => ?_)
  refine lv_iconst (v := (0 : Int32)) hx hb dX5_spread_2 (by decide) ?_
  refine lv_istore_n (lv' := [(3, .int (0 : Int32)), (2, .int (1 : Int32)), (0, .ref v0), (1, .ref v1)]) hx hb dX5_spread_3 rfl hl (by decide) rfl (fun ls hl => ?_)
  exact w_X5_spread_4 C0 FU _ _ _ _ _ h _ _ _ hM hS (lv_sub hl [2, 3, 1, 0] rfl)
set_option maxHeartbeats 4000000 in
set_option maxRecDepth 100000 in
theorem c_X5_spread (l : Launch) (D : mmD) (b0 sz : Nat) {v0 : Nat} {v1 : Nat} {f : mmF} {res : mmF} (h : f_X5_spread v0 v1 f = some res) : Met l yX5_spread wsX5_spread ({ frames := 2, cells := 0, slots := 0, locals := 52 } : Room) (va_Pc [.ref v0, .ref v1] (PW D b0 f sz)) (QW D b0 none res sz) 0 0 (fun q => b0 ≤ q) := by
  refine Met.ofW (cc := cX5_spread) (maxL := 5) (ret := none) (by decide) rfl ?_
  intro p e s m args below meth c s₁ B hml hv
  obtain ⟨rfl, hM, hK⟩ := hv
  have hl := lv_entry ([.ref v0, .ref v1]) (n := 5) (Nat.le_of_ble_eq_true rfl)
  rw [lg_entry_eq]
  generalize (lg_sl ([.ref v0, .ref v1]) ++ List.replicate (5 - (lg_sl ([.ref v0, .ref v1])).length) Slot.unset).toArray = ls at hl ⊢
  have hl : lv_has ls 5 [(0, .ref v0), (1, .ref v1)] := hl
  exact w_X5_spread ⟨B.exec, B.bytes, B.returns, hml, findClass_of_methodNamed B.named, atoms_spec (ws := wsX5_spread) B.pre, B.notSynchronized, hK⟩ h s.heap [] ls hM va_S.rf hl
end S_X5_spread
/-! X5_doubt -/
set_option maxRecDepth 20000 in
theorem qi_X5_doubt_X5 : ∀ w ∈ u_ws RX5 TX5 5, w ∈ wsX5_doubt := by decide +kernel
set_option maxRecDepth 20000 in
theorem q_X5_doubt_1 : Cond.fieldLink RX5 24 "StageTruths$Proof" "parts" "LStageTruths$Parts;" ∈ wsX5_doubt := by decide +kernel
set_option maxRecDepth 20000 in
theorem qi_X5_doubt_X4 : ∀ w ∈ u_ws RX4 TX4 8, w ∈ wsX5_doubt := by decide +kernel
set_option maxRecDepth 20000 in
theorem q_X5_doubt_3 : Cond.fieldLink RX5 108 "StageTruths$Parts" "left" "[I" ∈ wsX5_doubt := by decide +kernel
set_option maxRecDepth 20000 in
theorem q_X5_doubt_4 : Cond.fieldLink RX5 111 "StageTruths$Parts" "right" "[I" ∈ wsX5_doubt := by decide +kernel
set_option maxRecDepth 20000 in
theorem qi_X5_doubt_X2 : ∀ w ∈ u_ws RX2 TX2 5, w ∈ wsX5_doubt := by decide +kernel
set_option maxRecDepth 20000 in
theorem q_X5_doubt_6 : Cond.fieldLink RX5 45 "StageTruths$Level" "known" "LStageTruths$PartSet;" ∈ wsX5_doubt := by decide +kernel
set_option maxRecDepth 20000 in
theorem q_X5_doubt_7 : Cond.fieldLink RX5 120 "StageTruths$Level" "doubted" "LStageTruths$PartSet;" ∈ wsX5_doubt := by decide +kernel
set_option maxRecDepth 20000 in
theorem q_X5_doubt_8 : Cond.fieldLink RX5 141 "StageTruths$Parts" "size" "I" ∈ wsX5_doubt := by decide +kernel
noncomputable def f_X5_doubt_161 (k27 : Nat → Nat → Nat → Int32 → mmF → Option (mmF))  (v0 : Nat) (v1 : Nat) (v3 : Nat) (v4 : Int32) (f : mmF) : Option (mmF) :=
  k27 v0 v1 v3 (v4 + (-1 : Int32)) f
noncomputable def f_X5_doubt_27   : Nat → Nat → Nat → Nat → Int32 → mmF → Option (mmF)
  | 0, _, _, _, _, _ => none
  | n + 1, v0, v1, v3, v4, f =>
    if v4 < (6 : Int32) then
    (some (f))
    else
    (ldR f v0 5 1).bind fun x35 =>
    (ldR f x35 4 2).bind fun x38 =>
    (ldA 0 f x38 v4).bind fun x43 =>
    (ldR f v0 5 1).bind fun x47 =>
    (ldR f x47 4 3).bind fun x50 =>
    (ldA 0 f x50 v4).bind fun x55 =>
    (ldR f v1 2 0).bind fun x59 =>
    (ckO f x59 3).bind fun _ =>
    (f_X3_has x59 v4 f).bind fun q64 =>
    if q64 = 0 then
    ((ckO f v3 3).bind fun _ =>
    (f_X3_has v3 v4 f).bind fun q107 =>
    if q107 = 0 then
    (f_X5_doubt_161 (fun a0 a1 a2 a3 a4 => f_X5_doubt_27 n a0 a1 a2 a3 a4) v0 v1 v3 v4 f)
    else
    (ldR f v0 5 1).bind fun x114 =>
    (ckO f x114 4).bind fun _ =>
    (f_X4_isIf x114 v4 f).bind fun q119 =>
    if q119 = 0 then
    ((ckO f v3 3).bind fun _ =>
    (f_X3_set v3 x43 (1 : Int32) f).bind fun q129 =>
    (ckO q129 v3 3).bind fun _ =>
    (f_X3_set v3 x55 (1 : Int32) q129).bind fun q136 =>
    f_X5_doubt_161 (fun a0 a1 a2 a3 a4 => f_X5_doubt_27 n a0 a1 a2 a3 a4) v0 v1 v3 v4 q136)
    else
    (ldR f v1 2 0).bind fun x143 =>
    (ckO f x143 3).bind fun _ =>
    (f_X3_has x143 x43 f).bind fun q148 =>
    if q148 = 0 then
    (f_X5_doubt_161 (fun a0 a1 a2 a3 a4 => f_X5_doubt_27 n a0 a1 a2 a3 a4) v0 v1 v3 v4 f)
    else
    (ckO f v3 3).bind fun _ =>
    (f_X3_set v3 x55 (1 : Int32) f).bind fun q158 =>
    f_X5_doubt_161 (fun a0 a1 a2 a3 a4 => f_X5_doubt_27 n a0 a1 a2 a3 a4) v0 v1 v3 v4 q158)
    else
    (ldR f v0 5 1).bind fun x71 =>
    (ckO f x71 4).bind fun _ =>
    (f_X4_isIf x71 v4 f).bind fun q76 =>
    if q76 = 0 then
    (f_X5_doubt_161 (fun a0 a1 a2 a3 a4 => f_X5_doubt_27 n a0 a1 a2 a3 a4) v0 v1 v3 v4 f)
    else
    (ldR f v1 2 0).bind fun x83 =>
    (ckO f x83 3).bind fun _ =>
    (f_X3_has x83 x55 f).bind fun q88 =>
    if q88 = 0 then
    ((ckO f v3 3).bind fun _ =>
    (f_X3_set v3 x43 (1 : Int32) f).bind fun q98 =>
    f_X5_doubt_161 (fun a0 a1 a2 a3 a4 => f_X5_doubt_27 n a0 a1 a2 a3 a4) v0 v1 v3 v4 q98)
    else
    f_X5_doubt_161 (fun a0 a1 a2 a3 a4 => f_X5_doubt_27 n a0 a1 a2 a3 a4) v0 v1 v3 v4 f
noncomputable def f_X5_doubt (v0 : Nat) (v1 : Nat) (v2 : Int32) (f : mmF) : Option (mmF) :=
  (ldR f v1 2 2).bind fun x1 =>
  (ckO f x1 3).bind fun _ =>
  (f_X3_fill x1 (0 : Int32) f).bind fun q7 =>
  (ckO q7 x1 3).bind fun _ =>
  (f_X3_set x1 v2 (1 : Int32) q7).bind fun q13 =>
  (ldR q13 v0 5 1).bind fun x17 =>
  (ldI q13 x17 4 0).bind fun x20 =>
  f_X5_doubt_27 FU v0 v1 x1 (x20 - (1 : Int32)) q13
section S_X5_doubt
variable {p : Program} {l : Launch} {e : Env} {s : State} {m : MethodId} {args : Array Value} {below : List Frame} {meth : Method} {c : Code} {D : mmD} {b0 sz : Nat} {f : mmF}
set_option maxHeartbeats 4000000 in
set_option maxRecDepth 100000 in
theorem w_X5_doubt_161 (C0 : CX cX5_doubt 7 none wsX5_doubt RX5 p s m args meth c D b0) {k27 : Nat → Nat → Nat → Int32 → mmF → Option (mmF)} {res : mmF} (hk27 : ∀ (v0 : Nat) (v1 : Nat) (v3 : Nat) (v4 : Int32) (f : mmF), k27 v0 v1 v3 v4 f = some res → ∀ (H : Heap) (locs : List Loc) (ls : Array Slot), MM vwCl D b0 f sz s H → mS b0 s H locs → lv_has ls 7 [(0, .ref v0), (1, .ref v1), (3, .ref v3), (4, .int v4)] → W p l e ({ frames := 1, cells := 0, slots := 0, locals := 24 } : Room) s m args below meth c H locs 0 0 (MQ below (QW D b0 none res sz) args s 0 0 (fun q => b0 ≤ q)) (F0 m 27 ls [])) : ∀ (v0 : Nat) (v1 : Nat) (v3 : Nat) (v4 : Int32) (f : mmF), f_X5_doubt_161 k27 v0 v1 v3 v4 f = some res → ∀ (H : Heap) (locs : List Loc) (ls : Array Slot), MM vwCl D b0 f sz s H → mS b0 s H locs → lv_has ls 7 [(0, .ref v0), (1, .ref v1), (3, .ref v3), (4, .int v4)] → W p l e ({ frames := 1, cells := 0, slots := 0, locals := 24 } : Room) s m args below meth c H locs 0 0 (MQ below (QW D b0 none res sz) args s 0 0 (fun q => b0 ≤ q)) (F0 m 161 ls []) := by
  obtain ⟨hx, hb, hr, hml, hown, hts, hlocks, hK⟩ := id C0
  intro v0 v1 v3 v4 f h H locs ls hM hS hl
  unfold f_X5_doubt_161 at h
  refine lv_iinc (v := (v4 + (-1 : Int32))) (lv' := [(4, .int (v4 + (-1 : Int32))), (0, .ref v0), (1, .ref v1), (3, .ref v3)]) hx hb dX5_doubt_161 hl (k := 3) rfl rfl (by decide) rfl (fun ls hl => ?_)
  refine lv_goto (tgt := 27) hx hb dX5_doubt_164 (by decide) ?_
  exact hk27 _ _ _ _ _ h _ _ _ hM hS (lv_sub hl [1, 2, 3, 0] rfl)
set_option maxHeartbeats 4000000 in
set_option maxRecDepth 100000 in
theorem w_X5_doubt_27 (C0 : CX cX5_doubt 7 none wsX5_doubt RX5 p s m args meth c D b0) {res : mmF} : ∀ (n : Nat), ∀ (v0 : Nat) (v1 : Nat) (v3 : Nat) (v4 : Int32) (f : mmF), f_X5_doubt_27 n v0 v1 v3 v4 f = some res → ∀ (H : Heap) (locs : List Loc) (ls : Array Slot), MM vwCl D b0 f sz s H → mS b0 s H locs → lv_has ls 7 [(0, .ref v0), (1, .ref v1), (3, .ref v3), (4, .int v4)] → W p l e ({ frames := 1, cells := 0, slots := 0, locals := 24 } : Room) s m args below meth c H locs 0 0 (MQ below (QW D b0 none res sz) args s 0 0 (fun q => b0 ≤ q)) (F0 m 27 ls []) := by
  obtain ⟨hx, hb, hr, hml, hown, hts, hlocks, hK⟩ := id C0
  intro n
  induction n with
  | zero =>
    intro v0 v1 v3 v4 f h
    have h : (none : Option (mmF)) = some res := h
    cases h
  | succ n ih =>
    intro v0 v1 v3 v4 f h H locs ls hM hS hl
    rw [f_X5_doubt_27] at h
    refine lv_iload hx hb dX5_doubt_27 (lv_at hl 3 rfl) ?_
    refine lv_bipush (v := (6 : Int32)) hx hb dX5_doubt_29 (by decide) ?_
    refine lv_icmp_lt (tgt := 167) hx hb dX5_doubt_31 (by decide) (fun c31 => ?_) (fun c31 => ?_)
    · replace h := o_t c31 h
      replace h := Option.some.inj h; subst h
      exact W.vret hx hb hr (fun t ht hW => ⟨rfl, by rw [ht]; exact hM.moved hW.alike, hS.F ht⟩) hS.2.2 dX5_doubt_167
    replace h := o_f c31 h
    refine lv_aload_n hx hb dX5_doubt_34 rfl (lv_at hl 0 rfl) ?_
    replace h := o_b h; obtain ⟨x35, h35, h⟩ := h
    refine m_get (C := RX5) (T := TX5) (N := 5) (ci := 5) hx hb hts qi_X5_doubt_X5 hown hK.1 hM 1 (ldR_F h35) rfl (by decide) (hts _ q_X5_doubt_1) (fun _ h9 => h9) dX5_doubt_35 ?_
    replace h := o_b h; obtain ⟨x38, h38, h⟩ := h
    refine m_get (C := RX4) (T := TX4) (N := 8) (ci := 4) hx hb hts qi_X5_doubt_X4 hown hK.1 hM 2 (ldR_F h38) rfl (by decide) (hts _ q_X5_doubt_3) (fun _ h9 => h9) dX5_doubt_38 ?_
    refine lv_iload hx hb dX5_doubt_41 (lv_at hl 3 rfl) ?_
    replace h := o_b h; obtain ⟨x43, h43, h⟩ := h
    refine m_iald hx hb hK.1 hM hS rfl h43 dX5_doubt_43 ?_
    refine lv_istore (lv' := [(5, .int x43), (0, .ref v0), (1, .ref v1), (3, .ref v3), (4, .int v4)]) hx hb dX5_doubt_44 hl (by decide) rfl (fun ls hl => ?_)
    refine lv_aload_n hx hb dX5_doubt_46 rfl (lv_at hl 1 rfl) ?_
    replace h := o_b h; obtain ⟨x47, h47, h⟩ := h
    refine m_get (C := RX5) (T := TX5) (N := 5) (ci := 5) hx hb hts qi_X5_doubt_X5 hown hK.1 hM 1 (ldR_F h47) rfl (by decide) (hts _ q_X5_doubt_1) (fun _ h9 => h9) dX5_doubt_47 ?_
    replace h := o_b h; obtain ⟨x50, h50, h⟩ := h
    refine m_get (C := RX4) (T := TX4) (N := 8) (ci := 4) hx hb hts qi_X5_doubt_X4 hown hK.1 hM 3 (ldR_F h50) rfl (by decide) (hts _ q_X5_doubt_4) (fun _ h9 => h9) dX5_doubt_50 ?_
    refine lv_iload hx hb dX5_doubt_53 (lv_at hl 4 rfl) ?_
    replace h := o_b h; obtain ⟨x55, h55, h⟩ := h
    refine m_iald hx hb hK.1 hM hS rfl h55 dX5_doubt_55 ?_
    refine lv_istore (lv' := [(6, .int x55), (5, .int x43), (0, .ref v0), (1, .ref v1), (3, .ref v3), (4, .int v4)]) hx hb dX5_doubt_56 hl (by decide) rfl (fun ls hl => ?_)
    refine lv_aload_n hx hb dX5_doubt_58 rfl (lv_at hl 3 rfl) ?_
    replace h := o_b h; obtain ⟨x59, h59, h⟩ := h
    refine m_get (C := RX2) (T := TX2) (N := 5) (ci := 2) hx hb hts qi_X5_doubt_X2 hown hK.1 hM 0 (ldR_F h59) rfl (by decide) (hts _ q_X5_doubt_6) (fun _ h9 => h9) dX5_doubt_59 ?_
    refine lv_iload hx hb dX5_doubt_62 (lv_at hl 5 rfl) ?_
    replace h := o_b h; obtain ⟨_, k64, h⟩ := h
    replace h := o_b h; obtain ⟨q64, h64, h⟩ := h
    refine m_call (va_runV (As := [.int v4]) (rest := []) ⟨hx, hb, hml, hown, hts⟩ (c_X3_has l D b0 sz h64) (cwV 1 hts gX5_doubt_X3_has rfl rfl rfl (by decide +kernel) ⟨Nat.le_of_ble_eq_true rfl, Nat.le_of_ble_eq_true rfl⟩) ⟨PW.blind, m_recv (ci := 3) rfl hK hM k64, (fun U hU hW => ⟨rfl, PW.call hK hM hS hU hW⟩)⟩ rfl rfl hl.1 rfl (lv_room (Nat.le_of_ble_eq_true rfl)) dX5_doubt_64 ⟨(Nat.le_refl _), (Nat.le_refl _)⟩) hS (fun H locs hM hS => ?_)
    refine lv_if_eq (tgt := 104) hx hb dX5_doubt_67 (by decide) (fun c67 => ?_) (fun c67 => ?_)
    · replace h := o_t c67 h
      refine lv_aload_n hx hb dX5_doubt_104 rfl (lv_at hl 4 rfl) ?_
      refine lv_iload hx hb dX5_doubt_105 (lv_at hl 5 rfl) ?_
      replace h := o_b h; obtain ⟨_, k107, h⟩ := h
      replace h := o_b h; obtain ⟨q107, h107, h⟩ := h
      refine m_call (va_runV (As := [.int v4]) (rest := []) ⟨hx, hb, hml, hown, hts⟩ (c_X3_has l D b0 sz h107) (cwV 1 hts gX5_doubt_X3_has rfl rfl rfl (by decide +kernel) ⟨Nat.le_of_ble_eq_true rfl, Nat.le_of_ble_eq_true rfl⟩) ⟨PW.blind, m_recv (ci := 3) rfl hK hM k107, (fun U hU hW => ⟨rfl, PW.call hK hM hS hU hW⟩)⟩ rfl rfl hl.1 rfl (lv_room (Nat.le_of_ble_eq_true rfl)) dX5_doubt_107 ⟨(Nat.le_refl _), (Nat.le_refl _)⟩) hS (fun H locs hM hS => ?_)
      refine lv_if_eq (tgt := 161) hx hb dX5_doubt_110 (by decide) (fun c110 => ?_) (fun c110 => ?_)
      · replace h := o_t c110 h
        exact w_X5_doubt_161 C0 ih _ _ _ _ _ h _ _ _ hM hS (lv_sub hl [2, 3, 4, 5] rfl)
      replace h := o_f c110 h
      refine lv_aload_n hx hb dX5_doubt_113 rfl (lv_at hl 2 rfl) ?_
      replace h := o_b h; obtain ⟨x114, h114, h⟩ := h
      refine m_get (C := RX5) (T := TX5) (N := 5) (ci := 5) hx hb hts qi_X5_doubt_X5 hown hK.1 hM 1 (ldR_F h114) rfl (by decide) (hts _ q_X5_doubt_1) (fun _ h9 => h9) dX5_doubt_114 ?_
      refine lv_iload hx hb dX5_doubt_117 (lv_at hl 5 rfl) ?_
      replace h := o_b h; obtain ⟨_, k119, h⟩ := h
      replace h := o_b h; obtain ⟨q119, h119, h⟩ := h
      refine m_call (va_runV (As := [.int v4]) (rest := []) ⟨hx, hb, hml, hown, hts⟩ (c_X4_isIf l D b0 sz h119) (cwV 1 hts gX5_doubt_X4_isIf rfl rfl rfl (by decide +kernel) ⟨Nat.le_of_ble_eq_true rfl, Nat.le_of_ble_eq_true rfl⟩) ⟨PW.blind, m_recv (ci := 4) rfl hK hM k119, (fun U hU hW => ⟨rfl, PW.call hK hM hS hU hW⟩)⟩ rfl rfl hl.1 rfl (lv_room (Nat.le_of_ble_eq_true rfl)) dX5_doubt_119 ⟨(Nat.le_refl _), (Nat.le_refl _)⟩) hS (fun H locs hM hS => ?_)
      refine lv_if_ne (tgt := 142) hx hb dX5_doubt_122 (by decide) (fun c122 => ?_) (fun c122 => ?_)
      · replace h := o_f c122 h
        refine lv_aload_n hx hb dX5_doubt_142 rfl (lv_at hl 3 rfl) ?_
        replace h := o_b h; obtain ⟨x143, h143, h⟩ := h
        refine m_get (C := RX2) (T := TX2) (N := 5) (ci := 2) hx hb hts qi_X5_doubt_X2 hown hK.1 hM 0 (ldR_F h143) rfl (by decide) (hts _ q_X5_doubt_6) (fun _ h9 => h9) dX5_doubt_143 ?_
        refine lv_iload hx hb dX5_doubt_146 (lv_at hl 1 rfl) ?_
        replace h := o_b h; obtain ⟨_, k148, h⟩ := h
        replace h := o_b h; obtain ⟨q148, h148, h⟩ := h
        refine m_call (va_runV (As := [.int x43]) (rest := []) ⟨hx, hb, hml, hown, hts⟩ (c_X3_has l D b0 sz h148) (cwV 1 hts gX5_doubt_X3_has rfl rfl rfl (by decide +kernel) ⟨Nat.le_of_ble_eq_true rfl, Nat.le_of_ble_eq_true rfl⟩) ⟨PW.blind, m_recv (ci := 3) rfl hK hM k148, (fun U hU hW => ⟨rfl, PW.call hK hM hS hU hW⟩)⟩ rfl rfl hl.1 rfl (lv_room (Nat.le_of_ble_eq_true rfl)) dX5_doubt_148 ⟨(Nat.le_refl _), (Nat.le_refl _)⟩) hS (fun H locs hM hS => ?_)
        refine lv_if_eq (tgt := 161) hx hb dX5_doubt_151 (by decide) (fun c151 => ?_) (fun c151 => ?_)
        · replace h := o_t c151 h
          exact w_X5_doubt_161 C0 ih _ _ _ _ _ h _ _ _ hM hS (lv_sub hl [2, 3, 4, 5] rfl)
        replace h := o_f c151 h
        refine lv_aload_n hx hb dX5_doubt_154 rfl (lv_at hl 4 rfl) ?_
        refine lv_iload hx hb dX5_doubt_155 (lv_at hl 0 rfl) ?_
        refine lv_iconst (v := (1 : Int32)) hx hb dX5_doubt_157 (by decide) ?_
        replace h := o_b h; obtain ⟨_, k158, h⟩ := h
        replace h := o_b h; obtain ⟨q158, h158, h⟩ := h
        refine m_call (va_runV (As := [.int x55, .int (1 : Int32)]) (rest := []) ⟨hx, hb, hml, hown, hts⟩ (c_X3_set l D b0 sz h158) (cwV 2 hts gX5_doubt_X3_set rfl rfl rfl (by decide +kernel) ⟨Nat.le_of_ble_eq_true rfl, Nat.le_of_ble_eq_true rfl⟩) ⟨PW.blind, m_recv (ci := 3) rfl hK hM k158, (fun U hU hW => ⟨rfl, PW.call hK hM hS hU hW⟩)⟩ rfl rfl hl.1 rfl (lv_room (Nat.le_of_ble_eq_true rfl)) dX5_doubt_158 ⟨(Nat.le_refl _), (Nat.le_refl _)⟩) hS (fun H locs hM hS => ?_)
        exact w_X5_doubt_161 C0 ih _ _ _ _ _ h _ _ _ hM hS (lv_sub hl [2, 3, 4, 5] rfl)
      replace h := o_t c122 h
      refine lv_aload_n hx hb dX5_doubt_125 rfl (lv_at hl 4 rfl) ?_
      refine lv_iload hx hb dX5_doubt_126 (lv_at hl 1 rfl) ?_
      refine lv_iconst (v := (1 : Int32)) hx hb dX5_doubt_128 (by decide) ?_
      replace h := o_b h; obtain ⟨_, k129, h⟩ := h
      replace h := o_b h; obtain ⟨q129, h129, h⟩ := h
      refine m_call (va_runV (As := [.int x43, .int (1 : Int32)]) (rest := []) ⟨hx, hb, hml, hown, hts⟩ (c_X3_set l D b0 sz h129) (cwV 2 hts gX5_doubt_X3_set rfl rfl rfl (by decide +kernel) ⟨Nat.le_of_ble_eq_true rfl, Nat.le_of_ble_eq_true rfl⟩) ⟨PW.blind, m_recv (ci := 3) rfl hK hM k129, (fun U hU hW => ⟨rfl, PW.call hK hM hS hU hW⟩)⟩ rfl rfl hl.1 rfl (lv_room (Nat.le_of_ble_eq_true rfl)) dX5_doubt_129 ⟨(Nat.le_refl _), (Nat.le_refl _)⟩) hS (fun H locs hM hS => ?_)
      refine lv_aload_n hx hb dX5_doubt_132 rfl (lv_at hl 4 rfl) ?_
      refine lv_iload hx hb dX5_doubt_133 (lv_at hl 0 rfl) ?_
      refine lv_iconst (v := (1 : Int32)) hx hb dX5_doubt_135 (by decide) ?_
      replace h := o_b h; obtain ⟨_, k136, h⟩ := h
      replace h := o_b h; obtain ⟨q136, h136, h⟩ := h
      refine m_call (va_runV (As := [.int x55, .int (1 : Int32)]) (rest := []) ⟨hx, hb, hml, hown, hts⟩ (c_X3_set l D b0 sz h136) (cwV 2 hts gX5_doubt_X3_set rfl rfl rfl (by decide +kernel) ⟨Nat.le_of_ble_eq_true rfl, Nat.le_of_ble_eq_true rfl⟩) ⟨PW.blind, m_recv (ci := 3) rfl hK hM k136, (fun U hU hW => ⟨rfl, PW.call hK hM hS hU hW⟩)⟩ rfl rfl hl.1 rfl (lv_room (Nat.le_of_ble_eq_true rfl)) dX5_doubt_136 ⟨(Nat.le_refl _), (Nat.le_refl _)⟩) hS (fun H locs hM hS => ?_)
      refine lv_goto (tgt := 161) hx hb dX5_doubt_139 (by decide) ?_
      exact w_X5_doubt_161 C0 ih _ _ _ _ _ h _ _ _ hM hS (lv_sub hl [2, 3, 4, 5] rfl)
    replace h := o_f c67 h
    refine lv_aload_n hx hb dX5_doubt_70 rfl (lv_at hl 2 rfl) ?_
    replace h := o_b h; obtain ⟨x71, h71, h⟩ := h
    refine m_get (C := RX5) (T := TX5) (N := 5) (ci := 5) hx hb hts qi_X5_doubt_X5 hown hK.1 hM 1 (ldR_F h71) rfl (by decide) (hts _ q_X5_doubt_1) (fun _ h9 => h9) dX5_doubt_71 ?_
    refine lv_iload hx hb dX5_doubt_74 (lv_at hl 5 rfl) ?_
    replace h := o_b h; obtain ⟨_, k76, h⟩ := h
    replace h := o_b h; obtain ⟨q76, h76, h⟩ := h
    refine m_call (va_runV (As := [.int v4]) (rest := []) ⟨hx, hb, hml, hown, hts⟩ (c_X4_isIf l D b0 sz h76) (cwV 1 hts gX5_doubt_X4_isIf rfl rfl rfl (by decide +kernel) ⟨Nat.le_of_ble_eq_true rfl, Nat.le_of_ble_eq_true rfl⟩) ⟨PW.blind, m_recv (ci := 4) rfl hK hM k76, (fun U hU hW => ⟨rfl, PW.call hK hM hS hU hW⟩)⟩ rfl rfl hl.1 rfl (lv_room (Nat.le_of_ble_eq_true rfl)) dX5_doubt_76 ⟨(Nat.le_refl _), (Nat.le_refl _)⟩) hS (fun H locs hM hS => ?_)
    refine lv_if_eq (tgt := 161) hx hb dX5_doubt_79 (by decide) (fun c79 => ?_) (fun c79 => ?_)
    · replace h := o_t c79 h
      exact w_X5_doubt_161 C0 ih _ _ _ _ _ h _ _ _ hM hS (lv_sub hl [2, 3, 4, 5] rfl)
    replace h := o_f c79 h
    refine lv_aload_n hx hb dX5_doubt_82 rfl (lv_at hl 3 rfl) ?_
    replace h := o_b h; obtain ⟨x83, h83, h⟩ := h
    refine m_get (C := RX2) (T := TX2) (N := 5) (ci := 2) hx hb hts qi_X5_doubt_X2 hown hK.1 hM 0 (ldR_F h83) rfl (by decide) (hts _ q_X5_doubt_6) (fun _ h9 => h9) dX5_doubt_83 ?_
    refine lv_iload hx hb dX5_doubt_86 (lv_at hl 0 rfl) ?_
    replace h := o_b h; obtain ⟨_, k88, h⟩ := h
    replace h := o_b h; obtain ⟨q88, h88, h⟩ := h
    refine m_call (va_runV (As := [.int x55]) (rest := []) ⟨hx, hb, hml, hown, hts⟩ (c_X3_has l D b0 sz h88) (cwV 1 hts gX5_doubt_X3_has rfl rfl rfl (by decide +kernel) ⟨Nat.le_of_ble_eq_true rfl, Nat.le_of_ble_eq_true rfl⟩) ⟨PW.blind, m_recv (ci := 3) rfl hK hM k88, (fun U hU hW => ⟨rfl, PW.call hK hM hS hU hW⟩)⟩ rfl rfl hl.1 rfl (lv_room (Nat.le_of_ble_eq_true rfl)) dX5_doubt_88 ⟨(Nat.le_refl _), (Nat.le_refl _)⟩) hS (fun H locs hM hS => ?_)
    refine lv_if_ne (tgt := 161) hx hb dX5_doubt_91 (by decide) (fun c91 => ?_) (fun c91 => ?_)
    · replace h := o_f c91 h
      exact w_X5_doubt_161 C0 ih _ _ _ _ _ h _ _ _ hM hS (lv_sub hl [2, 3, 4, 5] rfl)
    replace h := o_t c91 h
    refine lv_aload_n hx hb dX5_doubt_94 rfl (lv_at hl 4 rfl) ?_
    refine lv_iload hx hb dX5_doubt_95 (lv_at hl 1 rfl) ?_
    refine lv_iconst (v := (1 : Int32)) hx hb dX5_doubt_97 (by decide) ?_
    replace h := o_b h; obtain ⟨_, k98, h⟩ := h
    replace h := o_b h; obtain ⟨q98, h98, h⟩ := h
    refine m_call (va_runV (As := [.int x43, .int (1 : Int32)]) (rest := []) ⟨hx, hb, hml, hown, hts⟩ (c_X3_set l D b0 sz h98) (cwV 2 hts gX5_doubt_X3_set rfl rfl rfl (by decide +kernel) ⟨Nat.le_of_ble_eq_true rfl, Nat.le_of_ble_eq_true rfl⟩) ⟨PW.blind, m_recv (ci := 3) rfl hK hM k98, (fun U hU hW => ⟨rfl, PW.call hK hM hS hU hW⟩)⟩ rfl rfl hl.1 rfl (lv_room (Nat.le_of_ble_eq_true rfl)) dX5_doubt_98 ⟨(Nat.le_refl _), (Nat.le_refl _)⟩) hS (fun H locs hM hS => ?_)
    refine lv_goto (tgt := 161) hx hb dX5_doubt_101 (by decide) ?_
    exact w_X5_doubt_161 C0 ih _ _ _ _ _ h _ _ _ hM hS (lv_sub hl [2, 3, 4, 5] rfl)
set_option maxHeartbeats 4000000 in
set_option maxRecDepth 100000 in
theorem w_X5_doubt (C0 : CX cX5_doubt 7 none wsX5_doubt RX5 p s m args meth c D b0) {v0 : Nat} {v1 : Nat} {v2 : Int32} {res : mmF} (h : f_X5_doubt v0 v1 v2 f = some res) : ∀ (H : Heap) (locs : List Loc) (ls : Array Slot), MM vwCl D b0 f sz s H → mS b0 s H locs → lv_has ls 7 [(0, .ref v0), (1, .ref v1), (2, .int v2)] → W p l e ({ frames := 1, cells := 0, slots := 0, locals := 24 } : Room) s m args below meth c H locs 0 0 (MQ below (QW D b0 none res sz) args s 0 0 (fun q => b0 ≤ q)) (F0 m 0 ls []) := by
  obtain ⟨hx, hb, hr, hml, hown, hts, hlocks, hK⟩ := id C0
  intro H locs ls hM hS hl
  unfold f_X5_doubt at h
  refine lv_aload_n hx hb dX5_doubt_0 rfl (lv_at hl 1 rfl) ?_
  replace h := o_b h; obtain ⟨x1, h1, h⟩ := h
  refine m_get (C := RX2) (T := TX2) (N := 5) (ci := 2) hx hb hts qi_X5_doubt_X2 hown hK.1 hM 2 (ldR_F h1) rfl (by decide) (hts _ q_X5_doubt_7) (fun _ h9 => h9) dX5_doubt_1 ?_
  refine lv_astore_n (lv' := [(3, .ref x1), (0, .ref v0), (1, .ref v1), (2, .int v2)]) hx hb dX5_doubt_4 rfl hl (by decide) rfl (fun ls hl => ?_)
  refine lv_aload_n hx hb dX5_doubt_5 rfl (lv_at hl 0 rfl) ?_
  refine lv_iconst (v := (0 : Int32)) hx hb dX5_doubt_6 (by decide) ?_
  replace h := o_b h; obtain ⟨_, k7, h⟩ := h
  replace h := o_b h; obtain ⟨q7, h7, h⟩ := h
  refine m_call (va_runV (As := [.int (0 : Int32)]) (rest := []) ⟨hx, hb, hml, hown, hts⟩ (c_X3_fill l D b0 sz h7) (cwV 1 hts gX5_doubt_X3_fill rfl rfl rfl (by decide +kernel) ⟨Nat.le_of_ble_eq_true rfl, Nat.le_of_ble_eq_true rfl⟩) ⟨PW.blind, m_recv (ci := 3) rfl hK hM k7, (fun U hU hW => ⟨rfl, PW.call hK hM hS hU hW⟩)⟩ rfl rfl hl.1 rfl (lv_room (Nat.le_of_ble_eq_true rfl)) dX5_doubt_7 ⟨(Nat.le_refl _), (Nat.le_refl _)⟩) hS (fun H locs hM hS => ?_)
  refine lv_aload_n hx hb dX5_doubt_10 rfl (lv_at hl 0 rfl) ?_
  refine lv_iload_n hx hb dX5_doubt_11 rfl (lv_at hl 3 rfl) ?_
  refine lv_iconst (v := (1 : Int32)) hx hb dX5_doubt_12 (by decide) ?_
  replace h := o_b h; obtain ⟨_, k13, h⟩ := h
  replace h := o_b h; obtain ⟨q13, h13, h⟩ := h
  refine m_call (va_runV (As := [.int v2, .int (1 : Int32)]) (rest := []) ⟨hx, hb, hml, hown, hts⟩ (c_X3_set l D b0 sz h13) (cwV 2 hts gX5_doubt_X3_set rfl rfl rfl (by decide +kernel) ⟨Nat.le_of_ble_eq_true rfl, Nat.le_of_ble_eq_true rfl⟩) ⟨PW.blind, m_recv (ci := 3) rfl hK hM k13, (fun U hU hW => ⟨rfl, PW.call hK hM hS hU hW⟩)⟩ rfl rfl hl.1 rfl (lv_room (Nat.le_of_ble_eq_true rfl)) dX5_doubt_13 ⟨(Nat.le_refl _), (Nat.le_refl _)⟩) hS (fun H locs hM hS => ?_)
  refine lv_aload_n hx hb dX5_doubt_16 rfl (lv_at hl 1 rfl) ?_
  replace h := o_b h; obtain ⟨x17, h17, h⟩ := h
  refine m_get (C := RX5) (T := TX5) (N := 5) (ci := 5) hx hb hts qi_X5_doubt_X5 hown hK.1 hM 1 (ldR_F h17) rfl (by decide) (hts _ q_X5_doubt_1) (fun _ h9 => h9) dX5_doubt_17 ?_
  replace h := o_b h; obtain ⟨x20, h20, h⟩ := h
  refine m_get (C := RX4) (T := TX4) (N := 8) (ci := 4) hx hb hts qi_X5_doubt_X4 hown hK.1 hM 0 (ldI_F h20) rfl (by decide) (hts _ q_X5_doubt_8) (fun _ h9 => h9) dX5_doubt_20 ?_
  refine lv_iconst (v := (1 : Int32)) hx hb dX5_doubt_23 (by decide) ?_
  refine lv_isub hx hb dX5_doubt_24 ?_
  refine lv_istore (lv' := [(4, .int (x20 - (1 : Int32))), (3, .ref x1), (0, .ref v0), (1, .ref v1), (2, .int v2)]) hx hb dX5_doubt_25 hl (by decide) rfl (fun ls hl => ?_)
  exact w_X5_doubt_27 C0 FU _ _ _ _ _ h _ _ _ hM hS (lv_sub hl [2, 3, 1, 0] rfl)
set_option maxHeartbeats 4000000 in
set_option maxRecDepth 100000 in
theorem c_X5_doubt (l : Launch) (D : mmD) (b0 sz : Nat) {v0 : Nat} {v1 : Nat} {v2 : Int32} {f : mmF} {res : mmF} (h : f_X5_doubt v0 v1 v2 f = some res) : Met l yX5_doubt wsX5_doubt ({ frames := 1, cells := 0, slots := 0, locals := 24 } : Room) (va_Pc [.ref v0, .ref v1, .int v2] (PW D b0 f sz)) (QW D b0 none res sz) 0 0 (fun q => b0 ≤ q) := by
  refine Met.ofW (cc := cX5_doubt) (maxL := 7) (ret := none) (by decide) rfl ?_
  intro p e s m args below meth c s₁ B hml hv
  obtain ⟨rfl, hM, hK⟩ := hv
  have hl := lv_entry ([.ref v0, .ref v1, .int v2]) (n := 7) (Nat.le_of_ble_eq_true rfl)
  rw [lg_entry_eq]
  generalize (lg_sl ([.ref v0, .ref v1, .int v2]) ++ List.replicate (7 - (lg_sl ([.ref v0, .ref v1, .int v2])).length) Slot.unset).toArray = ls at hl ⊢
  have hl : lv_has ls 7 [(0, .ref v0), (1, .ref v1), (2, .int v2)] := hl
  exact w_X5_doubt ⟨B.exec, B.bytes, B.returns, hml, findClass_of_methodNamed B.named, atoms_spec (ws := wsX5_doubt) B.pre, B.notSynchronized, hK⟩ h s.heap [] ls hM va_S.rf hl
end S_X5_doubt
/-! X5_nextTrial -/
set_option maxRecDepth 20000 in
theorem qi_X5_nextTrial_X2 : ∀ w ∈ u_ws RX2 TX2 5, w ∈ wsX5_nextTrial := by decide +kernel
set_option maxRecDepth 20000 in
theorem q_X5_nextTrial_1 : Cond.fieldLink RX5 120 "StageTruths$Level" "doubted" "LStageTruths$PartSet;" ∈ wsX5_nextTrial := by decide +kernel
set_option maxRecDepth 20000 in
theorem qi_X5_nextTrial_X5 : ∀ w ∈ u_ws RX5 TX5 5, w ∈ wsX5_nextTrial := by decide +kernel
set_option maxRecDepth 20000 in
theorem q_X5_nextTrial_3 : Cond.fieldLink RX5 24 "StageTruths$Proof" "parts" "LStageTruths$Parts;" ∈ wsX5_nextTrial := by decide +kernel
set_option maxRecDepth 20000 in
theorem q_X5_nextTrial_4 : Cond.fieldLink RX5 45 "StageTruths$Level" "known" "LStageTruths$PartSet;" ∈ wsX5_nextTrial := by decide +kernel
set_option maxRecDepth 20000 in
theorem qi_X5_nextTrial_X4 : ∀ w ∈ u_ws RX4 TX4 8, w ∈ wsX5_nextTrial := by decide +kernel
set_option maxRecDepth 20000 in
theorem q_X5_nextTrial_6 : Cond.fieldLink RX5 108 "StageTruths$Parts" "left" "[I" ∈ wsX5_nextTrial := by decide +kernel
set_option maxRecDepth 20000 in
theorem q_X5_nextTrial_7 : Cond.fieldLink RX5 141 "StageTruths$Parts" "size" "I" ∈ wsX5_nextTrial := by decide +kernel
noncomputable def f_X5_nextTrial_70 (k10 : Nat → Nat → Int32 → Option (Int32)) (f : mmF) (v0 : Nat) (v1 : Nat) (v2 : Int32) : Option (Int32) :=
  k10 v0 v1 (v2 + (-1 : Int32))
noncomputable def f_X5_nextTrial_10  (f : mmF) : Nat → Nat → Nat → Int32 → Option (Int32)
  | 0, _, _, _ => none
  | n + 1, v0, v1, v2 =>
    if v2 < (6 : Int32) then
    (some ((-2 : Int32)))
    else
    (ldR f v1 2 2).bind fun x17 =>
    (ckO f x17 3).bind fun _ =>
    (f_X3_has x17 v2 f).bind fun q21 =>
    if q21 = 0 then
    (f_X5_nextTrial_70 (fun a0 a1 a2 => f_X5_nextTrial_10 f n a0 a1 a2) f v0 v1 v2)
    else
    (ldR f v0 5 1).bind fun x28 =>
    (ckO f x28 4).bind fun _ =>
    (f_X4_isIf x28 v2 f).bind fun q32 =>
    if q32 = 0 then
    (f_X5_nextTrial_70 (fun a0 a1 a2 => f_X5_nextTrial_10 f n a0 a1 a2) f v0 v1 v2)
    else
    (ldR f v1 2 0).bind fun x39 =>
    (ckO f x39 3).bind fun _ =>
    (f_X3_has x39 v2 f).bind fun q43 =>
    if q43 = 0 then
    ((ldR f v1 2 0).bind fun x50 =>
    (ldR f v0 5 1).bind fun x54 =>
    (ldR f x54 4 2).bind fun x57 =>
    (ldA 0 f x57 v2).bind fun x61 =>
    (ckO f x50 3).bind fun _ =>
    (f_X3_has x50 x61 f).bind fun q62 =>
    if q62 = 0 then
    (some (v2))
    else
    f_X5_nextTrial_70 (fun a0 a1 a2 => f_X5_nextTrial_10 f n a0 a1 a2) f v0 v1 v2)
    else
    f_X5_nextTrial_70 (fun a0 a1 a2 => f_X5_nextTrial_10 f n a0 a1 a2) f v0 v1 v2
noncomputable def f_X5_nextTrial (v0 : Nat) (v1 : Nat) (f : mmF) : Option (Int32) :=
  (ldR f v0 5 1).bind fun x1 =>
  (ldI f x1 4 0).bind fun x4 =>
  f_X5_nextTrial_10 f FU v0 v1 (x4 - (1 : Int32))
section S_X5_nextTrial
variable {p : Program} {l : Launch} {e : Env} {s : State} {m : MethodId} {args : Array Value} {below : List Frame} {meth : Method} {c : Code} {D : mmD} {b0 sz : Nat} {f : mmF}
set_option maxHeartbeats 4000000 in
set_option maxRecDepth 100000 in
theorem w_X5_nextTrial_70 (C0 : CX cX5_nextTrial 3 (some .int) wsX5_nextTrial RX5 p s m args meth c D b0) {k10 : Nat → Nat → Int32 → Option (Int32)} {res : Int32} (hk10 : ∀ (v0 : Nat) (v1 : Nat) (v2 : Int32), k10 v0 v1 v2 = some res → ∀ (H : Heap) (locs : List Loc) (ls : Array Slot), MM vwCl D b0 f sz s H → mS b0 s H locs → lv_has ls 3 [(0, .ref v0), (1, .ref v1), (2, .int v2)] → W p l e ({ frames := 1, cells := 0, slots := 0, locals := 23 } : Room) s m args below meth c H locs 0 0 (MQ below (QW D b0 (some (.int res)) f sz) args s 0 0 (fun q => b0 ≤ q)) (F0 m 10 ls [])) : ∀ (v0 : Nat) (v1 : Nat) (v2 : Int32), f_X5_nextTrial_70 k10 f v0 v1 v2 = some res → ∀ (H : Heap) (locs : List Loc) (ls : Array Slot), MM vwCl D b0 f sz s H → mS b0 s H locs → lv_has ls 3 [(0, .ref v0), (1, .ref v1), (2, .int v2)] → W p l e ({ frames := 1, cells := 0, slots := 0, locals := 23 } : Room) s m args below meth c H locs 0 0 (MQ below (QW D b0 (some (.int res)) f sz) args s 0 0 (fun q => b0 ≤ q)) (F0 m 70 ls []) := by
  obtain ⟨hx, hb, hr, hml, hown, hts, hlocks, hK⟩ := id C0
  intro v0 v1 v2 h H locs ls hM hS hl
  unfold f_X5_nextTrial_70 at h
  refine lv_iinc (v := (v2 + (-1 : Int32))) (lv' := [(2, .int (v2 + (-1 : Int32))), (0, .ref v0), (1, .ref v1)]) hx hb dX5_nextTrial_70 hl (k := 2) rfl rfl (by decide) rfl (fun ls hl => ?_)
  refine lv_goto (tgt := 10) hx hb dX5_nextTrial_73 (by decide) ?_
  exact hk10 _ _ _ h _ _ _ hM hS (lv_sub hl [1, 2, 0] rfl)
set_option maxHeartbeats 4000000 in
set_option maxRecDepth 100000 in
theorem w_X5_nextTrial_10 (C0 : CX cX5_nextTrial 3 (some .int) wsX5_nextTrial RX5 p s m args meth c D b0) {res : Int32} : ∀ (n : Nat), ∀ (v0 : Nat) (v1 : Nat) (v2 : Int32), f_X5_nextTrial_10 f n v0 v1 v2 = some res → ∀ (H : Heap) (locs : List Loc) (ls : Array Slot), MM vwCl D b0 f sz s H → mS b0 s H locs → lv_has ls 3 [(0, .ref v0), (1, .ref v1), (2, .int v2)] → W p l e ({ frames := 1, cells := 0, slots := 0, locals := 23 } : Room) s m args below meth c H locs 0 0 (MQ below (QW D b0 (some (.int res)) f sz) args s 0 0 (fun q => b0 ≤ q)) (F0 m 10 ls []) := by
  obtain ⟨hx, hb, hr, hml, hown, hts, hlocks, hK⟩ := id C0
  intro n
  induction n with
  | zero =>
    intro v0 v1 v2 h
    have h : (none : Option (Int32)) = some res := h
    cases h
  | succ n ih =>
    intro v0 v1 v2 h H locs ls hM hS hl
    rw [f_X5_nextTrial_10] at h
    refine lv_iload_n hx hb dX5_nextTrial_10 rfl (lv_at hl 2 rfl) ?_
    refine lv_bipush (v := (6 : Int32)) hx hb dX5_nextTrial_11 (by decide) ?_
    refine lv_icmp_lt (tgt := 76) hx hb dX5_nextTrial_13 (by decide) (fun c13 => ?_) (fun c13 => ?_)
    · replace h := o_t c13 h
      refine lv_bipush (v := (-2 : Int32)) hx hb dX5_nextTrial_76 (by decide) ?_
      replace h := Option.some.inj h; subst h
      exact W.iret hx hb hr (fun t ht hW => ⟨rfl, by rw [ht]; exact hM.moved hW.alike, hS.F ht⟩) hS.2.2 dX5_nextTrial_78
    replace h := o_f c13 h
    refine lv_aload_n hx hb dX5_nextTrial_16 rfl (lv_at hl 1 rfl) ?_
    replace h := o_b h; obtain ⟨x17, h17, h⟩ := h
    refine m_get (C := RX2) (T := TX2) (N := 5) (ci := 2) hx hb hts qi_X5_nextTrial_X2 hown hK.1 hM 2 (ldR_F h17) rfl (by decide) (hts _ q_X5_nextTrial_1) (fun _ h9 => h9) dX5_nextTrial_17 ?_
    refine lv_iload_n hx hb dX5_nextTrial_20 rfl (lv_at hl 2 rfl) ?_
    replace h := o_b h; obtain ⟨_, k21, h⟩ := h
    replace h := o_b h; obtain ⟨q21, h21, h⟩ := h
    refine m_call (va_runV (As := [.int v2]) (rest := []) ⟨hx, hb, hml, hown, hts⟩ (c_X3_has l D b0 sz h21) (cwV 1 hts gX5_nextTrial_X3_has rfl rfl rfl (by decide +kernel) ⟨Nat.le_of_ble_eq_true rfl, Nat.le_of_ble_eq_true rfl⟩) ⟨PW.blind, m_recv (ci := 3) rfl hK hM k21, (fun U hU hW => ⟨rfl, PW.call hK hM hS hU hW⟩)⟩ rfl rfl hl.1 rfl (lv_room (Nat.le_of_ble_eq_true rfl)) dX5_nextTrial_21 ⟨(Nat.le_refl _), (Nat.le_refl _)⟩) hS (fun H locs hM hS => ?_)
    refine lv_if_eq (tgt := 70) hx hb dX5_nextTrial_24 (by decide) (fun c24 => ?_) (fun c24 => ?_)
    · replace h := o_t c24 h
      exact w_X5_nextTrial_70 C0 ih _ _ _ h _ _ _ hM hS (lv_sub hl [0, 1, 2] rfl)
    replace h := o_f c24 h
    refine lv_aload_n hx hb dX5_nextTrial_27 rfl (lv_at hl 0 rfl) ?_
    replace h := o_b h; obtain ⟨x28, h28, h⟩ := h
    refine m_get (C := RX5) (T := TX5) (N := 5) (ci := 5) hx hb hts qi_X5_nextTrial_X5 hown hK.1 hM 1 (ldR_F h28) rfl (by decide) (hts _ q_X5_nextTrial_3) (fun _ h9 => h9) dX5_nextTrial_28 ?_
    refine lv_iload_n hx hb dX5_nextTrial_31 rfl (lv_at hl 2 rfl) ?_
    replace h := o_b h; obtain ⟨_, k32, h⟩ := h
    replace h := o_b h; obtain ⟨q32, h32, h⟩ := h
    refine m_call (va_runV (As := [.int v2]) (rest := []) ⟨hx, hb, hml, hown, hts⟩ (c_X4_isIf l D b0 sz h32) (cwV 1 hts gX5_nextTrial_X4_isIf rfl rfl rfl (by decide +kernel) ⟨Nat.le_of_ble_eq_true rfl, Nat.le_of_ble_eq_true rfl⟩) ⟨PW.blind, m_recv (ci := 4) rfl hK hM k32, (fun U hU hW => ⟨rfl, PW.call hK hM hS hU hW⟩)⟩ rfl rfl hl.1 rfl (lv_room (Nat.le_of_ble_eq_true rfl)) dX5_nextTrial_32 ⟨(Nat.le_refl _), (Nat.le_refl _)⟩) hS (fun H locs hM hS => ?_)
    refine lv_if_eq (tgt := 70) hx hb dX5_nextTrial_35 (by decide) (fun c35 => ?_) (fun c35 => ?_)
    · replace h := o_t c35 h
      exact w_X5_nextTrial_70 C0 ih _ _ _ h _ _ _ hM hS (lv_sub hl [0, 1, 2] rfl)
    replace h := o_f c35 h
    refine lv_aload_n hx hb dX5_nextTrial_38 rfl (lv_at hl 1 rfl) ?_
    replace h := o_b h; obtain ⟨x39, h39, h⟩ := h
    refine m_get (C := RX2) (T := TX2) (N := 5) (ci := 2) hx hb hts qi_X5_nextTrial_X2 hown hK.1 hM 0 (ldR_F h39) rfl (by decide) (hts _ q_X5_nextTrial_4) (fun _ h9 => h9) dX5_nextTrial_39 ?_
    refine lv_iload_n hx hb dX5_nextTrial_42 rfl (lv_at hl 2 rfl) ?_
    replace h := o_b h; obtain ⟨_, k43, h⟩ := h
    replace h := o_b h; obtain ⟨q43, h43, h⟩ := h
    refine m_call (va_runV (As := [.int v2]) (rest := []) ⟨hx, hb, hml, hown, hts⟩ (c_X3_has l D b0 sz h43) (cwV 1 hts gX5_nextTrial_X3_has rfl rfl rfl (by decide +kernel) ⟨Nat.le_of_ble_eq_true rfl, Nat.le_of_ble_eq_true rfl⟩) ⟨PW.blind, m_recv (ci := 3) rfl hK hM k43, (fun U hU hW => ⟨rfl, PW.call hK hM hS hU hW⟩)⟩ rfl rfl hl.1 rfl (lv_room (Nat.le_of_ble_eq_true rfl)) dX5_nextTrial_43 ⟨(Nat.le_refl _), (Nat.le_refl _)⟩) hS (fun H locs hM hS => ?_)
    refine lv_if_ne (tgt := 70) hx hb dX5_nextTrial_46 (by decide) (fun c46 => ?_) (fun c46 => ?_)
    · replace h := o_f c46 h
      exact w_X5_nextTrial_70 C0 ih _ _ _ h _ _ _ hM hS (lv_sub hl [0, 1, 2] rfl)
    replace h := o_t c46 h
    refine lv_aload_n hx hb dX5_nextTrial_49 rfl (lv_at hl 1 rfl) ?_
    replace h := o_b h; obtain ⟨x50, h50, h⟩ := h
    refine m_get (C := RX2) (T := TX2) (N := 5) (ci := 2) hx hb hts qi_X5_nextTrial_X2 hown hK.1 hM 0 (ldR_F h50) rfl (by decide) (hts _ q_X5_nextTrial_4) (fun _ h9 => h9) dX5_nextTrial_50 ?_
    refine lv_aload_n hx hb dX5_nextTrial_53 rfl (lv_at hl 0 rfl) ?_
    replace h := o_b h; obtain ⟨x54, h54, h⟩ := h
    refine m_get (C := RX5) (T := TX5) (N := 5) (ci := 5) hx hb hts qi_X5_nextTrial_X5 hown hK.1 hM 1 (ldR_F h54) rfl (by decide) (hts _ q_X5_nextTrial_3) (fun _ h9 => h9) dX5_nextTrial_54 ?_
    replace h := o_b h; obtain ⟨x57, h57, h⟩ := h
    refine m_get (C := RX4) (T := TX4) (N := 8) (ci := 4) hx hb hts qi_X5_nextTrial_X4 hown hK.1 hM 2 (ldR_F h57) rfl (by decide) (hts _ q_X5_nextTrial_6) (fun _ h9 => h9) dX5_nextTrial_57 ?_
    refine lv_iload_n hx hb dX5_nextTrial_60 rfl (lv_at hl 2 rfl) ?_
    replace h := o_b h; obtain ⟨x61, h61, h⟩ := h
    refine m_iald hx hb hK.1 hM hS rfl h61 dX5_nextTrial_61 ?_
    replace h := o_b h; obtain ⟨_, k62, h⟩ := h
    replace h := o_b h; obtain ⟨q62, h62, h⟩ := h
    refine m_call (va_runV (As := [.int x61]) (rest := []) ⟨hx, hb, hml, hown, hts⟩ (c_X3_has l D b0 sz h62) (cwV 1 hts gX5_nextTrial_X3_has rfl rfl rfl (by decide +kernel) ⟨Nat.le_of_ble_eq_true rfl, Nat.le_of_ble_eq_true rfl⟩) ⟨PW.blind, m_recv (ci := 3) rfl hK hM k62, (fun U hU hW => ⟨rfl, PW.call hK hM hS hU hW⟩)⟩ rfl rfl hl.1 rfl (lv_room (Nat.le_of_ble_eq_true rfl)) dX5_nextTrial_62 ⟨(Nat.le_refl _), (Nat.le_refl _)⟩) hS (fun H locs hM hS => ?_)
    refine lv_if_ne (tgt := 70) hx hb dX5_nextTrial_65 (by decide) (fun c65 => ?_) (fun c65 => ?_)
    · replace h := o_f c65 h
      exact w_X5_nextTrial_70 C0 ih _ _ _ h _ _ _ hM hS (lv_sub hl [0, 1, 2] rfl)
    replace h := o_t c65 h
    refine lv_iload_n hx hb dX5_nextTrial_68 rfl (lv_at hl 2 rfl) ?_
    replace h := Option.some.inj h; subst h
    exact W.iret hx hb hr (fun t ht hW => ⟨rfl, by rw [ht]; exact hM.moved hW.alike, hS.F ht⟩) hS.2.2 dX5_nextTrial_69
set_option maxHeartbeats 4000000 in
set_option maxRecDepth 100000 in
theorem w_X5_nextTrial (C0 : CX cX5_nextTrial 3 (some .int) wsX5_nextTrial RX5 p s m args meth c D b0) {v0 : Nat} {v1 : Nat} {res : Int32} (h : f_X5_nextTrial v0 v1 f = some res) : ∀ (H : Heap) (locs : List Loc) (ls : Array Slot), MM vwCl D b0 f sz s H → mS b0 s H locs → lv_has ls 3 [(0, .ref v0), (1, .ref v1)] → W p l e ({ frames := 1, cells := 0, slots := 0, locals := 23 } : Room) s m args below meth c H locs 0 0 (MQ below (QW D b0 (some (.int res)) f sz) args s 0 0 (fun q => b0 ≤ q)) (F0 m 0 ls []) := by
  obtain ⟨hx, hb, hr, hml, hown, hts, hlocks, hK⟩ := id C0
  intro H locs ls hM hS hl
  unfold f_X5_nextTrial at h
  refine lv_aload_n hx hb dX5_nextTrial_0 rfl (lv_at hl 0 rfl) ?_
  replace h := o_b h; obtain ⟨x1, h1, h⟩ := h
  refine m_get (C := RX5) (T := TX5) (N := 5) (ci := 5) hx hb hts qi_X5_nextTrial_X5 hown hK.1 hM 1 (ldR_F h1) rfl (by decide) (hts _ q_X5_nextTrial_3) (fun _ h9 => h9) dX5_nextTrial_1 ?_
  replace h := o_b h; obtain ⟨x4, h4, h⟩ := h
  refine m_get (C := RX4) (T := TX4) (N := 8) (ci := 4) hx hb hts qi_X5_nextTrial_X4 hown hK.1 hM 0 (ldI_F h4) rfl (by decide) (hts _ q_X5_nextTrial_7) (fun _ h9 => h9) dX5_nextTrial_4 ?_
  refine lv_iconst (v := (1 : Int32)) hx hb dX5_nextTrial_7 (by decide) ?_
  refine lv_isub hx hb dX5_nextTrial_8 ?_
  refine lv_istore_n (lv' := [(2, .int (x4 - (1 : Int32))), (0, .ref v0), (1, .ref v1)]) hx hb dX5_nextTrial_9 rfl hl (by decide) rfl (fun ls hl => ?_)
  exact w_X5_nextTrial_10 C0 FU _ _ _ h _ _ _ hM hS (lv_sub hl [1, 2, 0] rfl)
set_option maxHeartbeats 4000000 in
set_option maxRecDepth 100000 in
theorem c_X5_nextTrial (l : Launch) (D : mmD) (b0 sz : Nat) {v0 : Nat} {v1 : Nat} {f : mmF} {res : Int32} (h : f_X5_nextTrial v0 v1 f = some res) : Met l yX5_nextTrial wsX5_nextTrial ({ frames := 1, cells := 0, slots := 0, locals := 23 } : Room) (va_Pc [.ref v0, .ref v1] (PW D b0 f sz)) (QW D b0 (some (.int res)) f sz) 0 0 (fun q => b0 ≤ q) := by
  refine Met.ofW (cc := cX5_nextTrial) (maxL := 3) (ret := (some .int)) (by decide) rfl ?_
  intro p e s m args below meth c s₁ B hml hv
  obtain ⟨rfl, hM, hK⟩ := hv
  have hl := lv_entry ([.ref v0, .ref v1]) (n := 3) (Nat.le_of_ble_eq_true rfl)
  rw [lg_entry_eq]
  generalize (lg_sl ([.ref v0, .ref v1]) ++ List.replicate (3 - (lg_sl ([.ref v0, .ref v1])).length) Slot.unset).toArray = ls at hl ⊢
  have hl : lv_has ls 3 [(0, .ref v0), (1, .ref v1)] := hl
  exact w_X5_nextTrial ⟨B.exec, B.bytes, B.returns, hml, findClass_of_methodNamed B.named, atoms_spec (ws := wsX5_nextTrial) B.pre, B.notSynchronized, hK⟩ h s.heap [] ls hM va_S.rf hl
end S_X5_nextTrial
