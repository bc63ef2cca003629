/-! X5_firstTrial -/
set_option maxRecDepth 20000 in
theorem qi_X5_firstTrial_X5 : ∀ w ∈ u_ws RX5 TX5 5, w ∈ wsX5_firstTrial := by decide +kernel
set_option maxRecDepth 20000 in
theorem q_X5_firstTrial_1 : Cond.fieldLink RX5 24 "StageTruths$Proof" "parts" "LStageTruths$Parts;" ∈ wsX5_firstTrial := by decide +kernel
set_option maxRecDepth 20000 in
theorem qi_X5_firstTrial_X4 : ∀ w ∈ u_ws RX4 TX4 8, w ∈ wsX5_firstTrial := by decide +kernel
set_option maxRecDepth 20000 in
theorem q_X5_firstTrial_3 : Cond.fieldLink RX5 141 "StageTruths$Parts" "size" "I" ∈ wsX5_firstTrial := by decide +kernel
set_option maxRecDepth 20000 in
theorem qi_X5_firstTrial_X2 : ∀ w ∈ u_ws RX2 TX2 5, w ∈ wsX5_firstTrial := by decide +kernel
set_option maxRecDepth 20000 in
theorem q_X5_firstTrial_5 : Cond.fieldLink RX5 114 "StageTruths$Level" "found" "LStageTruths$PartSet;" ∈ wsX5_firstTrial := by decide +kernel
set_option maxRecDepth 20000 in
theorem q_X5_firstTrial_6 : Cond.fieldLink RX5 100 "StageTruths$Parts" "kinds" "[I" ∈ wsX5_firstTrial := by decide +kernel
set_option maxRecDepth 20000 in
theorem q_X5_firstTrial_7 : Cond.fieldLink RX5 108 "StageTruths$Parts" "left" "[I" ∈ wsX5_firstTrial := by decide +kernel
set_option maxRecDepth 20000 in
theorem q_X5_firstTrial_8 : Cond.fieldLink RX5 111 "StageTruths$Parts" "right" "[I" ∈ wsX5_firstTrial := by decide +kernel
set_option maxRecDepth 20000 in
theorem q_X5_firstTrial_9 : Cond.fieldLink RX5 45 "StageTruths$Level" "known" "LStageTruths$PartSet;" ∈ wsX5_firstTrial := by decide +kernel
noncomputable def f_X5_firstTrial_105 (k32 : Nat → Nat → Int32 → Nat → Int32 → mmF → Option (Int32 × mmF))  (v0 : Nat) (v1 : Nat) (v2 : Int32) (v3 : Nat) (v4 : Int32) (f : mmF) : Option (Int32 × mmF) :=
  k32 v0 v1 v2 v3 (v4 + (1 : Int32)) f
noncomputable def f_X5_firstTrial_32   : Nat → Nat → Nat → Int32 → Nat → Int32 → mmF → Option (Int32 × mmF)
  | 0, _, _, _, _, _, _ => none
  | n + 1, v0, v1, v2, v3, v4, f =>
    (ldR f v0 5 1).bind fun x35 =>
    (ldI f x35 4 0).bind fun x38 =>
    if x38 ≤ v4 then
    ((ckO f v0 5).bind fun _ =>
    (f_X5_doubt v0 v1 v2 f).bind fun q114 =>
    (ldR q114 v1 2 3).bind fun x118 =>
    (ckO q114 x118 3).bind fun _ =>
    (f_X3_fill x118 (1 : Int32) q114).bind fun q122 =>
    (ckO q122 v0 5).bind fun _ =>
    (f_X5_nextTrial v0 v1 q122).bind fun q127 =>
    some (q127, q122))
    else
    (ldR f v0 5 1).bind fun x45 =>
    (ldR f x45 4 1).bind fun x48 =>
    (ldA 0 f x48 v4).bind fun x53 =>
    if x53 = (8 : Int32) then
    ((ckO f v3 3).bind fun _ =>
    (f_X3_has v3 v4 f).bind fun q62 =>
    if q62 = 0 then
    (f_X5_firstTrial_105 (fun a0 a1 a2 a3 a4 a5 => f_X5_firstTrial_32 n a0 a1 a2 a3 a4 a5) v0 v1 v2 v3 v4 f)
    else
    (ldR f v0 5 1).bind fun x70 =>
    (ldR f x70 4 2).bind fun x73 =>
    (ldA 0 f x73 v4).bind fun x78 =>
    (ckO f v3 3).bind fun _ =>
    (f_X3_has v3 x78 f).bind fun q79 =>
    if q79 = 0 then
    ((ldR f v0 5 1).bind fun x87 =>
    (ldR f x87 4 3).bind fun x90 =>
    (ldA 0 f x90 v4).bind fun x95 =>
    (ckO f v3 3).bind fun _ =>
    (f_X3_has v3 x95 f).bind fun q96 =>
    if q96 = 0 then
    (some (v4, f))
    else
    f_X5_firstTrial_105 (fun a0 a1 a2 a3 a4 a5 => f_X5_firstTrial_32 n a0 a1 a2 a3 a4 a5) v0 v1 v2 v3 v4 f)
    else
    f_X5_firstTrial_105 (fun a0 a1 a2 a3 a4 a5 => f_X5_firstTrial_32 n a0 a1 a2 a3 a4 a5) v0 v1 v2 v3 v4 f)
    else
    f_X5_firstTrial_105 (fun a0 a1 a2 a3 a4 a5 => f_X5_firstTrial_32 n a0 a1 a2 a3 a4 a5) v0 v1 v2 v3 v4 f
noncomputable def f_X5_firstTrial (v0 : Nat) (v1 : Nat) (v2 : Int32) (f : mmF) : Option (Int32 × mmF) :=
  (ldR f v1 2 0).bind fun x1 =>
  (ckO f v0 5).bind fun _ =>
  (f_X5_spread v0 x1 f).bind fun q7 =>
  (ckO q7 x1 3).bind fun _ =>
  (f_X3_has x1 (5 : Int32) q7).bind fun q12 =>
  if q12 = 0 then
  ((ckO q7 x1 3).bind fun _ =>
  (f_X3_has x1 v2 q7).bind fun q20 =>
  if q20 = 0 then
  (f_X5_firstTrial_32 FU v0 v1 v2 x1 (6 : Int32) q7)
  else
  some ((-1 : Int32), q7))
  else
  some ((-1 : Int32), q7)
section S_X5_firstTrial
variable {p : Program} {l : Launch} {e : Env} {s : State} {m : MethodId} {args : Array Value} {below : List Frame} {meth : Method} {c : Code} {D : mmD} {b0 sz : Nat} {f : mmF}
set_option maxHeartbeats 4000000 in
set_option maxRecDepth 100000 in
theorem w_X5_firstTrial_105 (C0 : CX cX5_firstTrial 5 (some .int) wsX5_firstTrial RX5 p s m args meth c D b0) {k32 : Nat → Nat → Int32 → Nat → Int32 → mmF → Option (Int32 × mmF)} {res : Int32 × mmF} (hk32 : ∀ (v0 : Nat) (v1 : Nat) (v2 : Int32) (v3 : Nat) (v4 : Int32) (f : mmF), k32 v0 v1 v2 v3 v4 f = some res → ∀ (H : Heap) (locs : List Loc) (ls : Array Slot), MM vwCl D b0 f sz s H → mS b0 s H locs → lv_has ls 5 [(0, .ref v0), (1, .ref v1), (2, .int v2), (3, .ref v3), (4, .int v4)] → W p l e ({ frames := 3, cells := 0, slots := 0, locals := 76 } : Room) s m args below meth c H locs 0 0 (MQ below (QW D b0 (some (.int res.1)) res.2 sz) args s 0 0 (fun q => b0 ≤ q)) (F0 m 32 ls [])) : ∀ (v0 : Nat) (v1 : Nat) (v2 : Int32) (v3 : Nat) (v4 : Int32) (f : mmF), f_X5_firstTrial_105 k32 v0 v1 v2 v3 v4 f = some res → ∀ (H : Heap) (locs : List Loc) (ls : Array Slot), MM vwCl D b0 f sz s H → mS b0 s H locs → lv_has ls 5 [(0, .ref v0), (1, .ref v1), (2, .int v2), (3, .ref v3), (4, .int v4)] → W p l e ({ frames := 3, cells := 0, slots := 0, locals := 76 } : Room) s m args below meth c H locs 0 0 (MQ below (QW D b0 (some (.int res.1)) res.2 sz) args s 0 0 (fun q => b0 ≤ q)) (F0 m 105 ls []) := by
  obtain ⟨hx, hb, hr, hml, hown, hts, hlocks, hK⟩ := id C0
  intro v0 v1 v2 v3 v4 f h H locs ls hM hS hl
  unfold f_X5_firstTrial_105 at h
  refine lv_iinc (v := (v4 + (1 : Int32))) (lv' := [(4, .int (v4 + (1 : Int32))), (0, .ref v0), (1, .ref v1), (2, .int v2), (3, .ref v3)]) hx hb dX5_firstTrial_105 hl (k := 4) rfl rfl (by decide) rfl (fun ls hl => ?_)
  refine lv_goto (tgt := 32) hx hb dX5_firstTrial_108 (by decide) ?_
  exact hk32 _ _ _ _ _ _ h _ _ _ hM hS (lv_sub hl [1, 2, 3, 4, 0] rfl)
set_option maxHeartbeats 4000000 in
set_option maxRecDepth 100000 in
theorem w_X5_firstTrial_32 (C0 : CX cX5_firstTrial 5 (some .int) wsX5_firstTrial RX5 p s m args meth c D b0) {res : Int32 × mmF} : ∀ (n : Nat), ∀ (v0 : Nat) (v1 : Nat) (v2 : Int32) (v3 : Nat) (v4 : Int32) (f : mmF), f_X5_firstTrial_32 n v0 v1 v2 v3 v4 f = some res → ∀ (H : Heap) (locs : List Loc) (ls : Array Slot), MM vwCl D b0 f sz s H → mS b0 s H locs → lv_has ls 5 [(0, .ref v0), (1, .ref v1), (2, .int v2), (3, .ref v3), (4, .int v4)] → W p l e ({ frames := 3, cells := 0, slots := 0, locals := 76 } : Room) s m args below meth c H locs 0 0 (MQ below (QW D b0 (some (.int res.1)) res.2 sz) args s 0 0 (fun q => b0 ≤ q)) (F0 m 32 ls []) := by
  obtain ⟨hx, hb, hr, hml, hown, hts, hlocks, hK⟩ := id C0
  intro n
  induction n with
  | zero =>
    intro v0 v1 v2 v3 v4 f h
    have h : (none : Option (Int32 × mmF)) = some res := h
    cases h
  | succ n ih =>
    intro v0 v1 v2 v3 v4 f h H locs ls hM hS hl
    rw [f_X5_firstTrial_32] at h
    refine lv_iload hx hb dX5_firstTrial_32 (lv_at hl 4 rfl) ?_
    refine lv_aload_n hx hb dX5_firstTrial_34 rfl (lv_at hl 0 rfl) ?_
    replace h := o_b h; obtain ⟨x35, h35, h⟩ := h
    refine m_get (C := RX5) (T := TX5) (N := 5) (ci := 5) hx hb hts qi_X5_firstTrial_X5 hown hK.1 hM 1 (ldR_F h35) rfl (by decide) (hts _ q_X5_firstTrial_1) (fun _ h9 => h9) dX5_firstTrial_35 ?_
    replace h := o_b h; obtain ⟨x38, h38, h⟩ := h
    refine m_get (C := RX4) (T := TX4) (N := 8) (ci := 4) hx hb hts qi_X5_firstTrial_X4 hown hK.1 hM 0 (ldI_F h38) rfl (by decide) (hts _ q_X5_firstTrial_3) (fun _ h9 => h9) dX5_firstTrial_38 ?_
    refine lv_icmp_ge (tgt := 111) hx hb dX5_firstTrial_41 (by decide) (fun c41 => ?_) (fun c41 => ?_)
    · replace h := o_t c41 h
      refine lv_aload_n hx hb dX5_firstTrial_111 rfl (lv_at hl 0 rfl) ?_
      refine lv_aload_n hx hb dX5_firstTrial_112 rfl (lv_at hl 1 rfl) ?_
      refine lv_iload_n hx hb dX5_firstTrial_113 rfl (lv_at hl 2 rfl) ?_
      replace h := o_b h; obtain ⟨_, k114, h⟩ := h
      replace h := o_b h; obtain ⟨q114, h114, h⟩ := h
      refine m_call (va_runV (As := [.ref v1, .int v2]) (rest := []) ⟨hx, hb, hml, hown, hts⟩ (c_X5_doubt l D b0 sz h114) (cwV 2 hts gX5_firstTrial_X5_doubt rfl rfl rfl (by decide +kernel) ⟨Nat.le_of_ble_eq_true rfl, Nat.le_of_ble_eq_true rfl⟩) ⟨PW.blind, m_recv (ci := 5) rfl hK hM k114, (fun U hU hW => ⟨rfl, PW.call hK hM hS hU hW⟩)⟩ rfl rfl hl.1 rfl (lv_room (Nat.le_of_ble_eq_true rfl)) dX5_firstTrial_114 ⟨(Nat.le_refl _), (Nat.le_refl _)⟩) hS (fun H locs hM hS => ?_)
      refine lv_aload_n hx hb dX5_firstTrial_117 rfl (lv_at hl 1 rfl) ?_
      replace h := o_b h; obtain ⟨x118, h118, h⟩ := h
      refine m_get (C := RX2) (T := TX2) (N := 5) (ci := 2) hx hb hts qi_X5_firstTrial_X2 hown hK.1 hM 3 (ldR_F h118) rfl (by decide) (hts _ q_X5_firstTrial_5) (fun _ h9 => h9) dX5_firstTrial_118 ?_
      refine lv_iconst (v := (1 : Int32)) hx hb dX5_firstTrial_121 (by decide) ?_
      replace h := o_b h; obtain ⟨_, k122, h⟩ := h
      replace h := o_b h; obtain ⟨q122, h122, h⟩ := h
      refine m_call (va_runV (As := [.int (1 : Int32)]) (rest := []) ⟨hx, hb, hml, hown, hts⟩ (c_X3_fill l D b0 sz h122) (cwV 1 hts gX5_firstTrial_X3_fill rfl rfl rfl (by decide +kernel) ⟨Nat.le_of_ble_eq_true rfl, Nat.le_of_ble_eq_true rfl⟩) ⟨PW.blind, m_recv (ci := 3) rfl hK hM k122, (fun U hU hW => ⟨rfl, PW.call hK hM hS hU hW⟩)⟩ rfl rfl hl.1 rfl (lv_room (Nat.le_of_ble_eq_true rfl)) dX5_firstTrial_122 ⟨(Nat.le_refl _), (Nat.le_refl _)⟩) hS (fun H locs hM hS => ?_)
      refine lv_aload_n hx hb dX5_firstTrial_125 rfl (lv_at hl 0 rfl) ?_
      refine lv_aload_n hx hb dX5_firstTrial_126 rfl (lv_at hl 1 rfl) ?_
      replace h := o_b h; obtain ⟨_, k127, h⟩ := h
      replace h := o_b h; obtain ⟨q127, h127, h⟩ := h
      refine m_call (va_runV (As := [.ref v1]) (rest := []) ⟨hx, hb, hml, hown, hts⟩ (c_X5_nextTrial l D b0 sz h127) (cwV 1 hts gX5_firstTrial_X5_nextTrial rfl rfl rfl (by decide +kernel) ⟨Nat.le_of_ble_eq_true rfl, Nat.le_of_ble_eq_true rfl⟩) ⟨PW.blind, m_recv (ci := 5) rfl hK hM k127, (fun U hU hW => ⟨rfl, PW.call hK hM hS hU hW⟩)⟩ rfl rfl hl.1 rfl (lv_room (Nat.le_of_ble_eq_true rfl)) dX5_firstTrial_127 ⟨(Nat.le_refl _), (Nat.le_refl _)⟩) hS (fun H locs hM hS => ?_)
      replace h := Option.some.inj h; subst h
      exact W.iret hx hb hr (fun t ht hW => ⟨rfl, by rw [ht]; exact hM.moved hW.alike, hS.F ht⟩) hS.2.2 dX5_firstTrial_130
    replace h := o_f c41 h
    refine lv_aload_n hx hb dX5_firstTrial_44 rfl (lv_at hl 0 rfl) ?_
    replace h := o_b h; obtain ⟨x45, h45, h⟩ := h
    refine m_get (C := RX5) (T := TX5) (N := 5) (ci := 5) hx hb hts qi_X5_firstTrial_X5 hown hK.1 hM 1 (ldR_F h45) rfl (by decide) (hts _ q_X5_firstTrial_1) (fun _ h9 => h9) dX5_firstTrial_45 ?_
    replace h := o_b h; obtain ⟨x48, h48, h⟩ := h
    refine m_get (C := RX4) (T := TX4) (N := 8) (ci := 4) hx hb hts qi_X5_firstTrial_X4 hown hK.1 hM 1 (ldR_F h48) rfl (by decide) (hts _ q_X5_firstTrial_6) (fun _ h9 => h9) dX5_firstTrial_48 ?_
    refine lv_iload hx hb dX5_firstTrial_51 (lv_at hl 4 rfl) ?_
    replace h := o_b h; obtain ⟨x53, h53, h⟩ := h
    refine m_iald hx hb hK.1 hM hS rfl h53 dX5_firstTrial_53 ?_
    refine lv_bipush (v := (8 : Int32)) hx hb dX5_firstTrial_54 (by decide) ?_
    refine lv_icmp_ne (tgt := 105) hx hb dX5_firstTrial_56 (by decide) (fun c56 => ?_) (fun c56 => ?_)
    · replace h := o_f c56 h
      exact w_X5_firstTrial_105 C0 ih _ _ _ _ _ _ h _ _ _ hM hS (lv_sub hl [0, 1, 2, 3, 4] rfl)
    replace h := o_t c56 h
    refine lv_aload_n hx hb dX5_firstTrial_59 rfl (lv_at hl 3 rfl) ?_
    refine lv_iload hx hb dX5_firstTrial_60 (lv_at hl 4 rfl) ?_
    replace h := o_b h; obtain ⟨_, k62, h⟩ := h
    replace h := o_b h; obtain ⟨q62, h62, h⟩ := h
    refine m_call (va_runV (As := [.int v4]) (rest := []) ⟨hx, hb, hml, hown, hts⟩ (c_X3_has l D b0 sz h62) (cwV 1 hts gX5_firstTrial_X3_has rfl rfl rfl (by decide +kernel) ⟨Nat.le_of_ble_eq_true rfl, Nat.le_of_ble_eq_true rfl⟩) ⟨PW.blind, m_recv (ci := 3) rfl hK hM k62, (fun U hU hW => ⟨rfl, PW.call hK hM hS hU hW⟩)⟩ rfl rfl hl.1 rfl (lv_room (Nat.le_of_ble_eq_true rfl)) dX5_firstTrial_62 ⟨(Nat.le_refl _), (Nat.le_refl _)⟩) hS (fun H locs hM hS => ?_)
    refine lv_if_eq (tgt := 105) hx hb dX5_firstTrial_65 (by decide) (fun c65 => ?_) (fun c65 => ?_)
    · replace h := o_t c65 h
      exact w_X5_firstTrial_105 C0 ih _ _ _ _ _ _ h _ _ _ hM hS (lv_sub hl [0, 1, 2, 3, 4] rfl)
    replace h := o_f c65 h
    refine lv_aload_n hx hb dX5_firstTrial_68 rfl (lv_at hl 3 rfl) ?_
    refine lv_aload_n hx hb dX5_firstTrial_69 rfl (lv_at hl 0 rfl) ?_
    replace h := o_b h; obtain ⟨x70, h70, h⟩ := h
    refine m_get (C := RX5) (T := TX5) (N := 5) (ci := 5) hx hb hts qi_X5_firstTrial_X5 hown hK.1 hM 1 (ldR_F h70) rfl (by decide) (hts _ q_X5_firstTrial_1) (fun _ h9 => h9) dX5_firstTrial_70 ?_
    replace h := o_b h; obtain ⟨x73, h73, h⟩ := h
    refine m_get (C := RX4) (T := TX4) (N := 8) (ci := 4) hx hb hts qi_X5_firstTrial_X4 hown hK.1 hM 2 (ldR_F h73) rfl (by decide) (hts _ q_X5_firstTrial_7) (fun _ h9 => h9) dX5_firstTrial_73 ?_
    refine lv_iload hx hb dX5_firstTrial_76 (lv_at hl 4 rfl) ?_
    replace h := o_b h; obtain ⟨x78, h78, h⟩ := h
    refine m_iald hx hb hK.1 hM hS rfl h78 dX5_firstTrial_78 ?_
    replace h := o_b h; obtain ⟨_, k79, h⟩ := h
    replace h := o_b h; obtain ⟨q79, h79, h⟩ := h
    refine m_call (va_runV (As := [.int x78]) (rest := []) ⟨hx, hb, hml, hown, hts⟩ (c_X3_has l D b0 sz h79) (cwV 1 hts gX5_firstTrial_X3_has rfl rfl rfl (by decide +kernel) ⟨Nat.le_of_ble_eq_true rfl, Nat.le_of_ble_eq_true rfl⟩) ⟨PW.blind, m_recv (ci := 3) rfl hK hM k79, (fun U hU hW => ⟨rfl, PW.call hK hM hS hU hW⟩)⟩ rfl rfl hl.1 rfl (lv_room (Nat.le_of_ble_eq_true rfl)) dX5_firstTrial_79 ⟨(Nat.le_refl _), (Nat.le_refl _)⟩) hS (fun H locs hM hS => ?_)
    refine lv_if_ne (tgt := 105) hx hb dX5_firstTrial_82 (by decide) (fun c82 => ?_) (fun c82 => ?_)
    · replace h := o_f c82 h
      exact w_X5_firstTrial_105 C0 ih _ _ _ _ _ _ h _ _ _ hM hS (lv_sub hl [0, 1, 2, 3, 4] rfl)
    replace h := o_t c82 h
    refine lv_aload_n hx hb dX5_firstTrial_85 rfl (lv_at hl 3 rfl) ?_
    refine lv_aload_n hx hb dX5_firstTrial_86 rfl (lv_at hl 0 rfl) ?_
    replace h := o_b h; obtain ⟨x87, h87, h⟩ := h
    refine m_get (C := RX5) (T := TX5) (N := 5) (ci := 5) hx hb hts qi_X5_firstTrial_X5 hown hK.1 hM 1 (ldR_F h87) rfl (by decide) (hts _ q_X5_firstTrial_1) (fun _ h9 => h9) dX5_firstTrial_87 ?_
    replace h := o_b h; obtain ⟨x90, h90, h⟩ := h
    refine m_get (C := RX4) (T := TX4) (N := 8) (ci := 4) hx hb hts qi_X5_firstTrial_X4 hown hK.1 hM 3 (ldR_F h90) rfl (by decide) (hts _ q_X5_firstTrial_8) (fun _ h9 => h9) dX5_firstTrial_90 ?_
    refine lv_iload hx hb dX5_firstTrial_93 (lv_at hl 4 rfl) ?_
    replace h := o_b h; obtain ⟨x95, h95, h⟩ := h
    refine m_iald hx hb hK.1 hM hS rfl h95 dX5_firstTrial_95 ?_
    replace h := o_b h; obtain ⟨_, k96, h⟩ := h
    replace h := o_b h; obtain ⟨q96, h96, h⟩ := h
    refine m_call (va_runV (As := [.int x95]) (rest := []) ⟨hx, hb, hml, hown, hts⟩ (c_X3_has l D b0 sz h96) (cwV 1 hts gX5_firstTrial_X3_has rfl rfl rfl (by decide +kernel) ⟨Nat.le_of_ble_eq_true rfl, Nat.le_of_ble_eq_true rfl⟩) ⟨PW.blind, m_recv (ci := 3) rfl hK hM k96, (fun U hU hW => ⟨rfl, PW.call hK hM hS hU hW⟩)⟩ rfl rfl hl.1 rfl (lv_room (Nat.le_of_ble_eq_true rfl)) dX5_firstTrial_96 ⟨(Nat.le_refl _), (Nat.le_refl _)⟩) hS (fun H locs hM hS => ?_)
    refine lv_if_ne (tgt := 105) hx hb dX5_firstTrial_99 (by decide) (fun c99 => ?_) (fun c99 => ?_)
    · replace h := o_f c99 h
      exact w_X5_firstTrial_105 C0 ih _ _ _ _ _ _ h _ _ _ hM hS (lv_sub hl [0, 1, 2, 3, 4] rfl)
    replace h := o_t c99 h
    refine lv_iload hx hb dX5_firstTrial_102 (lv_at hl 4 rfl) ?_
    replace h := Option.some.inj h; subst h
    exact W.iret hx hb hr (fun t ht hW => ⟨rfl, by rw [ht]; exact hM.moved hW.alike, hS.F ht⟩) hS.2.2 dX5_firstTrial_104
set_option maxHeartbeats 4000000 in
set_option maxRecDepth 100000 in
theorem w_X5_firstTrial (C0 : CX cX5_firstTrial 5 (some .int) wsX5_firstTrial RX5 p s m args meth c D b0) {v0 : Nat} {v1 : Nat} {v2 : Int32} {res : Int32 × mmF} (h : f_X5_firstTrial v0 v1 v2 f = some res) : ∀ (H : Heap) (locs : List Loc) (ls : Array Slot), MM vwCl D b0 f sz s H → mS b0 s H locs → lv_has ls 5 [(0, .ref v0), (1, .ref v1), (2, .int v2)] → W p l e ({ frames := 3, cells := 0, slots := 0, locals := 76 } : Room) s m args below meth c H locs 0 0 (MQ below (QW D b0 (some (.int res.1)) res.2 sz) args s 0 0 (fun q => b0 ≤ q)) (F0 m 0 ls []) := by
  obtain ⟨hx, hb, hr, hml, hown, hts, hlocks, hK⟩ := id C0
  intro H locs ls hM hS hl
  unfold f_X5_firstTrial at h
  refine lv_aload_n hx hb dX5_firstTrial_0 rfl (lv_at hl 1 rfl) ?_
  replace h := o_b h; obtain ⟨x1, h1, h⟩ := h
  refine m_get (C := RX2) (T := TX2) (N := 5) (ci := 2) hx hb hts qi_X5_firstTrial_X2 hown hK.1 hM 0 (ldR_F h1) rfl (by decide) (hts _ q_X5_firstTrial_9) (fun _ h9 => h9) dX5_firstTrial_1 ?_
  refine lv_astore_n (lv' := [(3, .ref x1), (0, .ref v0), (1, .ref v1), (2, .int v2)]) hx hb dX5_firstTrial_4 rfl hl (by decide) rfl (fun ls hl => ?_)
  refine lv_aload_n hx hb dX5_firstTrial_5 rfl (lv_at hl 1 rfl) ?_
  refine lv_aload_n hx hb dX5_firstTrial_6 rfl (lv_at hl 0 rfl) ?_
  replace h := o_b h; obtain ⟨_, k7, h⟩ := h
  replace h := o_b h; obtain ⟨q7, h7, h⟩ := h
  refine m_call (va_runV (As := [.ref x1]) (rest := []) ⟨hx, hb, hml, hown, hts⟩ (c_X5_spread l D b0 sz h7) (cwV 1 hts gX5_firstTrial_X5_spread rfl rfl rfl (by decide +kernel) ⟨Nat.le_of_ble_eq_true rfl, Nat.le_of_ble_eq_true rfl⟩) ⟨PW.blind, m_recv (ci := 5) rfl hK hM k7, (fun U hU hW => ⟨rfl, PW.call hK hM hS hU hW⟩)⟩ rfl rfl hl.1 rfl (lv_room (Nat.le_of_ble_eq_true rfl)) dX5_firstTrial_7 ⟨(Nat.le_refl _), (Nat.le_refl _)⟩) hS (fun H locs hM hS => ?_)
  refine lv_aload_n hx hb dX5_firstTrial_10 rfl (lv_at hl 0 rfl) ?_
  refine lv_iconst (v := (5 : Int32)) hx hb dX5_firstTrial_11 (by decide) ?_
  replace h := o_b h; obtain ⟨_, k12, h⟩ := h
  replace h := o_b h; obtain ⟨q12, h12, h⟩ := h
  refine m_call (va_runV (As := [.int (5 : Int32)]) (rest := []) ⟨hx, hb, hml, hown, hts⟩ (c_X3_has l D b0 sz h12) (cwV 1 hts gX5_firstTrial_X3_has rfl rfl rfl (by decide +kernel) ⟨Nat.le_of_ble_eq_true rfl, Nat.le_of_ble_eq_true rfl⟩) ⟨PW.blind, m_recv (ci := 3) rfl hK hM k12, (fun U hU hW => ⟨rfl, PW.call hK hM hS hU hW⟩)⟩ rfl rfl hl.1 rfl (lv_room (Nat.le_of_ble_eq_true rfl)) dX5_firstTrial_12 ⟨(Nat.le_refl _), (Nat.le_refl _)⟩) hS (fun H locs hM hS => ?_)
  refine lv_if_ne (tgt := 26) hx hb dX5_firstTrial_15 (by decide) (fun c15 => ?_) (fun c15 => ?_)
  · replace h := o_f c15 h
    refine lv_iconst (v := (-1 : Int32)) hx hb dX5_firstTrial_26 (by decide) ?_
    replace h := Option.some.inj h; subst h
    exact W.iret hx hb hr (fun t ht hW => ⟨rfl, by rw [ht]; exact hM.moved hW.alike, hS.F ht⟩) hS.2.2 dX5_firstTrial_27
  replace h := o_t c15 h
  refine lv_aload_n hx hb dX5_firstTrial_18 rfl (lv_at hl 0 rfl) ?_
  refine lv_iload_n hx hb dX5_firstTrial_19 rfl (lv_at hl 3 rfl) ?_
  replace h := o_b h; obtain ⟨_, k20, h⟩ := h
  replace h := o_b h; obtain ⟨q20, h20, h⟩ := h
  refine m_call (va_runV (As := [.int v2]) (rest := []) ⟨hx, hb, hml, hown, hts⟩ (c_X3_has l D b0 sz h20) (cwV 1 hts gX5_firstTrial_X3_has rfl rfl rfl (by decide +kernel) ⟨Nat.le_of_ble_eq_true rfl, Nat.le_of_ble_eq_true rfl⟩) ⟨PW.blind, m_recv (ci := 3) rfl hK hM k20, (fun U hU hW => ⟨rfl, PW.call hK hM hS hU hW⟩)⟩ rfl rfl hl.1 rfl (lv_room (Nat.le_of_ble_eq_true rfl)) dX5_firstTrial_20 ⟨(Nat.le_refl _), (Nat.le_refl _)⟩) hS (fun H locs hM hS => ?_)
  refine lv_if_eq (tgt := 28) hx hb dX5_firstTrial_23 (by decide) (fun c23 => ?_) (fun c23 => ?_)
  · replace h := o_t c23 h
    refine lv_bipush (v := (6 : Int32)) hx hb dX5_firstTrial_28 (by decide) ?_
    refine lv_istore (lv' := [(4, .int (6 : Int32)), (3, .ref x1), (0, .ref v0), (1, .ref v1), (2, .int v2)]) hx hb dX5_firstTrial_30 hl (by decide) rfl (fun ls hl => ?_)
    exact w_X5_firstTrial_32 C0 FU _ _ _ _ _ _ h _ _ _ hM hS (lv_sub hl [2, 3, 4, 1, 0] rfl)
  replace h := o_f c23 h
  refine lv_iconst (v := (-1 : Int32)) hx hb dX5_firstTrial_26 (by decide) ?_
  replace h := Option.some.inj h; subst h
  exact W.iret hx hb hr (fun t ht hW => ⟨rfl, by rw [ht]; exact hM.moved hW.alike, hS.F ht⟩) hS.2.2 dX5_firstTrial_27
set_option maxHeartbeats 4000000 in
set_option maxRecDepth 100000 in
theorem c_X5_firstTrial (l : Launch) (D : mmD) (b0 sz : Nat) {v0 : Nat} {v1 : Nat} {v2 : Int32} {f : mmF} {res : Int32 × mmF} (h : f_X5_firstTrial v0 v1 v2 f = some res) : Met l yX5_firstTrial wsX5_firstTrial ({ frames := 3, cells := 0, slots := 0, locals := 76 } : Room) (va_Pc [.ref v0, .ref v1, .int v2] (PW D b0 f sz)) (QW D b0 (some (.int res.1)) res.2 sz) 0 0 (fun q => b0 ≤ q) := by
  refine Met.ofW (cc := cX5_firstTrial) (maxL := 5) (ret := (some .int)) (by decide) rfl ?_
  intro p e s m args below meth c s₁ B hml hv
  obtain ⟨rfl, hM, hK⟩ := hv
  have hl := lv_entry ([.ref v0, .ref v1, .int v2]) (n := 5) (Nat.le_of_ble_eq_true rfl)
  rw [lg_entry_eq]
  generalize (lg_sl ([.ref v0, .ref v1, .int v2]) ++ List.replicate (5 - (lg_sl ([.ref v0, .ref v1, .int v2])).length) Slot.unset).toArray = ls at hl ⊢
  have hl : lv_has ls 5 [(0, .ref v0), (1, .ref v1), (2, .int v2)] := hl
  exact w_X5_firstTrial ⟨B.exec, B.bytes, B.returns, hml, findClass_of_methodNamed B.named, atoms_spec (ws := wsX5_firstTrial) B.pre, B.notSynchronized, hK⟩ h s.heap [] ls hM va_S.rf hl
end S_X5_firstTrial
/-! X5_meet -/
set_option maxRecDepth 20000 in
theorem qi_X5_meet_X5 : ∀ w ∈ u_ws RX5 TX5 5, w ∈ wsX5_meet := by decide +kernel
set_option maxRecDepth 20000 in
theorem q_X5_meet_1 : Cond.fieldLink RX5 24 "StageTruths$Proof" "parts" "LStageTruths$Parts;" ∈ wsX5_meet := by decide +kernel
set_option maxRecDepth 20000 in
theorem qi_X5_meet_X4 : ∀ w ∈ u_ws RX4 TX4 8, w ∈ wsX5_meet := by decide +kernel
set_option maxRecDepth 20000 in
theorem q_X5_meet_3 : Cond.fieldLink RX5 141 "StageTruths$Parts" "size" "I" ∈ wsX5_meet := by decide +kernel
set_option maxRecDepth 20000 in
theorem q_X5_meet_4 : Cond.fieldLink RX5 34 "StageTruths$Proof" "met" "LStageTruths$Findings;" ∈ wsX5_meet := by decide +kernel
set_option maxRecDepth 20000 in
theorem q_X5_meet_5 : Cond.fieldLink RX5 108 "StageTruths$Parts" "left" "[I" ∈ wsX5_meet := by decide +kernel
set_option maxRecDepth 20000 in
theorem q_X5_meet_6 : Cond.fieldLink RX5 111 "StageTruths$Parts" "right" "[I" ∈ wsX5_meet := by decide +kernel
set_option maxRecDepth 20000 in
theorem q_X5_meet_7 : Cond.fieldLink RX5 100 "StageTruths$Parts" "kinds" "[I" ∈ wsX5_meet := by decide +kernel
set_option maxRecDepth 20000 in
theorem qi_X5_meet_X2 : ∀ w ∈ u_ws RX2 TX2 5, w ∈ wsX5_meet := by decide +kernel
set_option maxRecDepth 20000 in
theorem q_X5_meet_9 : Cond.fieldLink RX5 45 "StageTruths$Level" "known" "LStageTruths$PartSet;" ∈ wsX5_meet := by decide +kernel
set_option maxRecDepth 20000 in
theorem q_X5_meet_10 : Cond.fieldLink RX5 114 "StageTruths$Level" "found" "LStageTruths$PartSet;" ∈ wsX5_meet := by decide +kernel
noncomputable def f_X5_meet_151 (k7 : Nat → Nat → Nat → Int32 → mmF → Option (mmF))  (v0 : Nat) (v1 : Nat) (v2 : Nat) (v3 : Int32) (t0 : Nat) (t1 : Int32) (t2 : Int32) (f : mmF) : Option (mmF) :=
  (ckO f t0 3).bind fun _ =>
  (f_X3_set t0 t1 t2 f).bind fun q151 =>
  k7 v0 v1 v2 (v3 + (1 : Int32)) q151
noncomputable def f_X5_meet_150 (k7 : Nat → Nat → Nat → Int32 → mmF → Option (mmF))  (v0 : Nat) (v1 : Nat) (v2 : Nat) (v3 : Int32) (t0 : Nat) (t1 : Int32) (f : mmF) : Option (mmF) :=
  f_X5_meet_151 k7 v0 v1 v2 v3 t0 t1 (0 : Int32) f
noncomputable def f_X5_meet_146 (k7 : Nat → Nat → Nat → Int32 → mmF → Option (mmF))  (v0 : Nat) (v1 : Nat) (v2 : Nat) (v3 : Int32) (t0 : Nat) (t1 : Int32) (f : mmF) : Option (mmF) :=
  f_X5_meet_151 k7 v0 v1 v2 v3 t0 t1 (1 : Int32) f
noncomputable def f_X5_meet_120 (k7 : Nat → Nat → Nat → Int32 → mmF → Option (mmF))  (v0 : Nat) (v1 : Nat) (v2 : Nat) (v3 : Int32) (t0 : Nat) (t1 : Int32) (f : mmF) : Option (mmF) :=
  f_X5_meet_151 k7 v0 v1 v2 v3 t0 t1 (1 : Int32) f
noncomputable def f_X5_meet_99 (k7 : Nat → Nat → Nat → Int32 → mmF → Option (mmF))  (v0 : Nat) (v1 : Nat) (v2 : Nat) (v3 : Int32) (t0 : Nat) (t1 : Int32) (f : mmF) : Option (mmF) :=
  f_X5_meet_151 k7 v0 v1 v2 v3 t0 t1 (0 : Int32) f
noncomputable def f_X5_meet_7   : Nat → Nat → Nat → Nat → Int32 → mmF → Option (mmF)
  | 0, _, _, _, _, _ => none
  | n + 1, v0, v1, v2, v3, f =>
    (ldR f v0 5 1).bind fun x9 =>
    (ldI f x9 4 0).bind fun x12 =>
    if x12 ≤ v3 then
    ((ldR f v0 5 3).bind fun x161 =>
    (ckO f x161 1).bind fun _ =>
    (f_X1_add x161 v2 (0 : Int32) f).bind fun q166 =>
    some (q166))
    else
    (ldR f v0 5 1).bind fun x20 =>
    (ldR f x20 4 2).bind fun x23 =>
    (ldA 0 f x23 v3).bind fun x27 =>
    (ckO f v2 3).bind fun _ =>
    (f_X3_has v2 x27 f).bind fun q28 =>
    (ldR f v0 5 1).bind fun x35 =>
    (ldR f x35 4 3).bind fun x38 =>
    (ldA 0 f x38 v3).bind fun x42 =>
    (ckO f v2 3).bind fun _ =>
    (f_X3_has v2 x42 f).bind fun q43 =>
    (ldR f v0 5 1).bind fun x49 =>
    (ldR f x49 4 1).bind fun x52 =>
    (ldA 0 f x52 v3).bind fun x56 =>
    if (5 : Int32) < x56 then
    (if x56 = (7 : Int32) then
    (if q28 = 0 then
    (f_X5_meet_99 (fun a0 a1 a2 a3 a4 => f_X5_meet_7 n a0 a1 a2 a3 a4) v0 v1 v2 v3 v2 v3 f)
    else
    if q43 = 0 then
    (f_X5_meet_99 (fun a0 a1 a2 a3 a4 => f_X5_meet_7 n a0 a1 a2 a3 a4) v0 v1 v2 v3 v2 v3 f)
    else
    f_X5_meet_151 (fun a0 a1 a2 a3 a4 => f_X5_meet_7 n a0 a1 a2 a3 a4) v0 v1 v2 v3 v2 v3 (1 : Int32) f)
    else
    if x56 = (8 : Int32) then
    (if q28 = 0 then
    (if q43 = 0 then
    (f_X5_meet_151 (fun a0 a1 a2 a3 a4 => f_X5_meet_7 n a0 a1 a2 a3 a4) v0 v1 v2 v3 v2 v3 (0 : Int32) f)
    else
    f_X5_meet_120 (fun a0 a1 a2 a3 a4 => f_X5_meet_7 n a0 a1 a2 a3 a4) v0 v1 v2 v3 v2 v3 f)
    else
    f_X5_meet_120 (fun a0 a1 a2 a3 a4 => f_X5_meet_7 n a0 a1 a2 a3 a4) v0 v1 v2 v3 v2 v3 f)
    else
    (ckO f v2 3).bind fun _ =>
    (f_X3_has v2 v3 f).bind fun q130 =>
    if q130 = 0 then
    (f_X5_meet_150 (fun a0 a1 a2 a3 a4 => f_X5_meet_7 n a0 a1 a2 a3 a4) v0 v1 v2 v3 v2 v3 f)
    else
    if q28 = 0 then
    (f_X5_meet_146 (fun a0 a1 a2 a3 a4 => f_X5_meet_7 n a0 a1 a2 a3 a4) v0 v1 v2 v3 v2 v3 f)
    else
    if q43 = 0 then
    (f_X5_meet_150 (fun a0 a1 a2 a3 a4 => f_X5_meet_7 n a0 a1 a2 a3 a4) v0 v1 v2 v3 v2 v3 f)
    else
    f_X5_meet_146 (fun a0 a1 a2 a3 a4 => f_X5_meet_7 n a0 a1 a2 a3 a4) v0 v1 v2 v3 v2 v3 f)
    else
    (ldR f v1 2 0).bind fun x68 =>
    (ckO f x68 3).bind fun _ =>
    (f_X3_has x68 v3 f).bind fun q72 =>
    f_X5_meet_151 (fun a0 a1 a2 a3 a4 => f_X5_meet_7 n a0 a1 a2 a3 a4) v0 v1 v2 v3 v2 v3 q72 f
noncomputable def f_X5_meet (v0 : Nat) (v1 : Nat) (f : mmF) : Option (mmF) :=
  (ldR f v1 2 3).bind fun x1 =>
  f_X5_meet_7 FU v0 v1 x1 (0 : Int32) f
section S_X5_meet
variable {p : Program} {l : Launch} {e : Env} {s : State} {m : MethodId} {args : Array Value} {below : List Frame} {meth : Method} {c : Code} {D : mmD} {b0 sz : Nat} {f : mmF}
set_option maxHeartbeats 4000000 in
set_option maxRecDepth 100000 in
theorem w_X5_meet_151 (C0 : CX cX5_meet 7 none wsX5_meet RX5 p s m args meth c D b0) {k7 : Nat → Nat → Nat → Int32 → mmF → Option (mmF)} {res : mmF} (hk7 : ∀ (v0 : Nat) (v1 : Nat) (v2 : Nat) (v3 : Int32) (f : mmF), k7 v0 v1 v2 v3 f = some res → ∀ (H : Heap) (locs : List Loc) (ls : Array Slot), MM vwCl D b0 f sz s H → mS b0 s H locs → lv_has ls 7 [(0, .ref v0), (1, .ref v1), (2, .ref v2), (3, .int v3)] → W p l e ({ frames := 2, cells := 0, slots := 0, locals := 46 } : Room) s m args below meth c H locs 0 0 (MQ below (QW D b0 none res sz) args s 0 0 (fun q => b0 ≤ q)) (F0 m 7 ls [])) : ∀ (v0 : Nat) (v1 : Nat) (v2 : Nat) (v3 : Int32) (t0 : Nat) (t1 : Int32) (t2 : Int32) (f : mmF), f_X5_meet_151 k7 v0 v1 v2 v3 t0 t1 t2 f = some res → ∀ (H : Heap) (locs : List Loc) (ls : Array Slot), MM vwCl D b0 f sz s H → mS b0 s H locs → lv_has ls 7 [(0, .ref v0), (1, .ref v1), (2, .ref v2), (3, .int v3)] → W p l e ({ frames := 2, cells := 0, slots := 0, locals := 46 } : Room) s m args below meth c H locs 0 0 (MQ below (QW D b0 none res sz) args s 0 0 (fun q => b0 ≤ q)) (F0 m 151 ls [.int t2, .int t1, .ref t0]) := by
  obtain ⟨hx, hb, hr, hml, hown, hts, hlocks, hK⟩ := id C0
  intro v0 v1 v2 v3 t0 t1 t2 f h H locs ls hM hS hl
  unfold f_X5_meet_151 at h
  replace h := o_b h; obtain ⟨_, k151, h⟩ := h
  replace h := o_b h; obtain ⟨q151, h151, h⟩ := h
  refine m_call (va_runV (As := [.int t1, .int t2]) (rest := []) ⟨hx, hb, hml, hown, hts⟩ (c_X3_set l D b0 sz h151) (cwV 2 hts gX5_meet_X3_set rfl rfl rfl (by decide +kernel) ⟨Nat.le_of_ble_eq_true rfl, Nat.le_of_ble_eq_true rfl⟩) ⟨PW.blind, m_recv (ci := 3) rfl hK hM k151, (fun U hU hW => ⟨rfl, PW.call hK hM hS hU hW⟩)⟩ rfl rfl hl.1 rfl (lv_room (Nat.le_of_ble_eq_true rfl)) dX5_meet_151 ⟨(Nat.le_refl _), (Nat.le_refl _)⟩) hS (fun H locs hM hS => ?_)
  refine lv_iinc (v := (v3 + (1 : Int32))) (lv' := [(3, .int (v3 + (1 : Int32))), (0, .ref v0), (1, .ref v1), (2, .ref v2)]) hx hb dX5_meet_154 hl (k := 3) rfl rfl (by decide) rfl (fun ls hl => ?_)
  refine lv_goto (tgt := 7) hx hb dX5_meet_157 (by decide) ?_
  exact hk7 _ _ _ _ _ h _ _ _ hM hS (lv_sub hl [1, 2, 3, 0] rfl)
set_option maxHeartbeats 4000000 in
set_option maxRecDepth 100000 in
theorem w_X5_meet_150 (C0 : CX cX5_meet 7 none wsX5_meet RX5 p s m args meth c D b0) {k7 : Nat → Nat → Nat → Int32 → mmF → Option (mmF)} {res : mmF} (hk7 : ∀ (v0 : Nat) (v1 : Nat) (v2 : Nat) (v3 : Int32) (f : mmF), k7 v0 v1 v2 v3 f = some res → ∀ (H : Heap) (locs : List Loc) (ls : Array Slot), MM vwCl D b0 f sz s H → mS b0 s H locs → lv_has ls 7 [(0, .ref v0), (1, .ref v1), (2, .ref v2), (3, .int v3)] → W p l e ({ frames := 2, cells := 0, slots := 0, locals := 46 } : Room) s m args below meth c H locs 0 0 (MQ below (QW D b0 none res sz) args s 0 0 (fun q => b0 ≤ q)) (F0 m 7 ls [])) : ∀ (v0 : Nat) (v1 : Nat) (v2 : Nat) (v3 : Int32) (t0 : Nat) (t1 : Int32) (f : mmF), f_X5_meet_150 k7 v0 v1 v2 v3 t0 t1 f = some res → ∀ (H : Heap) (locs : List Loc) (ls : Array Slot), MM vwCl D b0 f sz s H → mS b0 s H locs → lv_has ls 7 [(0, .ref v0), (1, .ref v1), (2, .ref v2), (3, .int v3)] → W p l e ({ frames := 2, cells := 0, slots := 0, locals := 46 } : Room) s m args below meth c H locs 0 0 (MQ below (QW D b0 none res sz) args s 0 0 (fun q => b0 ≤ q)) (F0 m 150 ls [.int t1, .ref t0]) := by
  obtain ⟨hx, hb, hr, hml, hown, hts, hlocks, hK⟩ := id C0
  intro v0 v1 v2 v3 t0 t1 f h H locs ls hM hS hl
  unfold f_X5_meet_150 at h
  refine lv_iconst (v := (0 : Int32)) hx hb dX5_meet_150 (by decide) ?_
  exact w_X5_meet_151 C0 hk7 _ _ _ _ _ _ _ _ h _ _ _ hM hS (lv_sub hl [0, 1, 2, 3] rfl)
set_option maxHeartbeats 4000000 in
set_option maxRecDepth 100000 in
theorem w_X5_meet_146 (C0 : CX cX5_meet 7 none wsX5_meet RX5 p s m args meth c D b0) {k7 : Nat → Nat → Nat → Int32 → mmF → Option (mmF)} {res : mmF} (hk7 : ∀ (v0 : Nat) (v1 : Nat) (v2 : Nat) (v3 : Int32) (f : mmF), k7 v0 v1 v2 v3 f = some res → ∀ (H : Heap) (locs : List Loc) (ls : Array Slot), MM vwCl D b0 f sz s H → mS b0 s H locs → lv_has ls 7 [(0, .ref v0), (1, .ref v1), (2, .ref v2), (3, .int v3)] → W p l e ({ frames := 2, cells := 0, slots := 0, locals := 46 } : Room) s m args below meth c H locs 0 0 (MQ below (QW D b0 none res sz) args s 0 0 (fun q => b0 ≤ q)) (F0 m 7 ls [])) : ∀ (v0 : Nat) (v1 : Nat) (v2 : Nat) (v3 : Int32) (t0 : Nat) (t1 : Int32) (f : mmF), f_X5_meet_146 k7 v0 v1 v2 v3 t0 t1 f = some res → ∀ (H : Heap) (locs : List Loc) (ls : Array Slot), MM vwCl D b0 f sz s H → mS b0 s H locs → lv_has ls 7 [(0, .ref v0), (1, .ref v1), (2, .ref v2), (3, .int v3)] → W p l e ({ frames := 2, cells := 0, slots := 0, locals := 46 } : Room) s m args below meth c H locs 0 0 (MQ below (QW D b0 none res sz) args s 0 0 (fun q => b0 ≤ q)) (F0 m 146 ls [.int t1, .ref t0]) := by
  obtain ⟨hx, hb, hr, hml, hown, hts, hlocks, hK⟩ := id C0
  intro v0 v1 v2 v3 t0 t1 f h H locs ls hM hS hl
  unfold f_X5_meet_146 at h
  refine lv_iconst (v := (1 : Int32)) hx hb dX5_meet_146 (by decide) ?_
  refine lv_goto (tgt := 151) hx hb dX5_meet_147 (by decide) ?_
  exact w_X5_meet_151 C0 hk7 _ _ _ _ _ _ _ _ h _ _ _ hM hS (lv_sub hl [0, 1, 2, 3] rfl)
set_option maxHeartbeats 4000000 in
set_option maxRecDepth 100000 in
theorem w_X5_meet_120 (C0 : CX cX5_meet 7 none wsX5_meet RX5 p s m args meth c D b0) {k7 : Nat → Nat → Nat → Int32 → mmF → Option (mmF)} {res : mmF} (hk7 : ∀ (v0 : Nat) (v1 : Nat) (v2 : Nat) (v3 : Int32) (f : mmF), k7 v0 v1 v2 v3 f = some res → ∀ (H : Heap) (locs : List Loc) (ls : Array Slot), MM vwCl D b0 f sz s H → mS b0 s H locs → lv_has ls 7 [(0, .ref v0), (1, .ref v1), (2, .ref v2), (3, .int v3)] → W p l e ({ frames := 2, cells := 0, slots := 0, locals := 46 } : Room) s m args below meth c H locs 0 0 (MQ below (QW D b0 none res sz) args s 0 0 (fun q => b0 ≤ q)) (F0 m 7 ls [])) : ∀ (v0 : Nat) (v1 : Nat) (v2 : Nat) (v3 : Int32) (t0 : Nat) (t1 : Int32) (f : mmF), f_X5_meet_120 k7 v0 v1 v2 v3 t0 t1 f = some res → ∀ (H : Heap) (locs : List Loc) (ls : Array Slot), MM vwCl D b0 f sz s H → mS b0 s H locs → lv_has ls 7 [(0, .ref v0), (1, .ref v1), (2, .ref v2), (3, .int v3)] → W p l e ({ frames := 2, cells := 0, slots := 0, locals := 46 } : Room) s m args below meth c H locs 0 0 (MQ below (QW D b0 none res sz) args s 0 0 (fun q => b0 ≤ q)) (F0 m 120 ls [.int t1, .ref t0]) := by
  obtain ⟨hx, hb, hr, hml, hown, hts, hlocks, hK⟩ := id C0
  intro v0 v1 v2 v3 t0 t1 f h H locs ls hM hS hl
  unfold f_X5_meet_120 at h
  refine lv_iconst (v := (1 : Int32)) hx hb dX5_meet_120 (by decide) ?_
  refine lv_goto (tgt := 151) hx hb dX5_meet_121 (by decide) ?_
  exact w_X5_meet_151 C0 hk7 _ _ _ _ _ _ _ _ h _ _ _ hM hS (lv_sub hl [0, 1, 2, 3] rfl)
set_option maxHeartbeats 4000000 in
set_option maxRecDepth 100000 in
theorem w_X5_meet_99 (C0 : CX cX5_meet 7 none wsX5_meet RX5 p s m args meth c D b0) {k7 : Nat → Nat → Nat → Int32 → mmF → Option (mmF)} {res : mmF} (hk7 : ∀ (v0 : Nat) (v1 : Nat) (v2 : Nat) (v3 : Int32) (f : mmF), k7 v0 v1 v2 v3 f = some res → ∀ (H : Heap) (locs : List Loc) (ls : Array Slot), MM vwCl D b0 f sz s H → mS b0 s H locs → lv_has ls 7 [(0, .ref v0), (1, .ref v1), (2, .ref v2), (3, .int v3)] → W p l e ({ frames := 2, cells := 0, slots := 0, locals := 46 } : Room) s m args below meth c H locs 0 0 (MQ below (QW D b0 none res sz) args s 0 0 (fun q => b0 ≤ q)) (F0 m 7 ls [])) : ∀ (v0 : Nat) (v1 : Nat) (v2 : Nat) (v3 : Int32) (t0 : Nat) (t1 : Int32) (f : mmF), f_X5_meet_99 k7 v0 v1 v2 v3 t0 t1 f = some res → ∀ (H : Heap) (locs : List Loc) (ls : Array Slot), MM vwCl D b0 f sz s H → mS b0 s H locs → lv_has ls 7 [(0, .ref v0), (1, .ref v1), (2, .ref v2), (3, .int v3)] → W p l e ({ frames := 2, cells := 0, slots := 0, locals := 46 } : Room) s m args below meth c H locs 0 0 (MQ below (QW D b0 none res sz) args s 0 0 (fun q => b0 ≤ q)) (F0 m 99 ls [.int t1, .ref t0]) := by
  obtain ⟨hx, hb, hr, hml, hown, hts, hlocks, hK⟩ := id C0
  intro v0 v1 v2 v3 t0 t1 f h H locs ls hM hS hl
  unfold f_X5_meet_99 at h
  refine lv_iconst (v := (0 : Int32)) hx hb dX5_meet_99 (by decide) ?_
  refine lv_goto (tgt := 151) hx hb dX5_meet_100 (by decide) ?_
  exact w_X5_meet_151 C0 hk7 _ _ _ _ _ _ _ _ h _ _ _ hM hS (lv_sub hl [0, 1, 2, 3] rfl)
set_option maxHeartbeats 4000000 in
set_option maxRecDepth 100000 in
theorem w_X5_meet_7 (C0 : CX cX5_meet 7 none wsX5_meet RX5 p s m args meth c D b0) {res : mmF} : ∀ (n : Nat), ∀ (v0 : Nat) (v1 : Nat) (v2 : Nat) (v3 : Int32) (f : mmF), f_X5_meet_7 n v0 v1 v2 v3 f = some res → ∀ (H : Heap) (locs : List Loc) (ls : Array Slot), MM vwCl D b0 f sz s H → mS b0 s H locs → lv_has ls 7 [(0, .ref v0), (1, .ref v1), (2, .ref v2), (3, .int v3)] → W p l e ({ frames := 2, cells := 0, slots := 0, locals := 46 } : Room) s m args below meth c H locs 0 0 (MQ below (QW D b0 none res sz) args s 0 0 (fun q => b0 ≤ q)) (F0 m 7 ls []) := by
  obtain ⟨hx, hb, hr, hml, hown, hts, hlocks, hK⟩ := id C0
  intro n
  induction n with
  | zero =>
    intro v0 v1 v2 v3 f h
    have h : (none : Option (mmF)) = some res := h
    cases h
  | succ n ih =>
    intro v0 v1 v2 v3 f h H locs ls hM hS hl
    rw [f_X5_meet_7] at h
    refine lv_iload_n hx hb dX5_meet_7 rfl (lv_at hl 3 rfl) ?_
    refine lv_aload_n hx hb dX5_meet_8 rfl (lv_at hl 0 rfl) ?_
    replace h := o_b h; obtain ⟨x9, h9, h⟩ := h
    refine m_get (C := RX5) (T := TX5) (N := 5) (ci := 5) hx hb hts qi_X5_meet_X5 hown hK.1 hM 1 (ldR_F h9) rfl (by decide) (hts _ q_X5_meet_1) (fun _ h9 => h9) dX5_meet_9 ?_
    replace h := o_b h; obtain ⟨x12, h12, h⟩ := h
    refine m_get (C := RX4) (T := TX4) (N := 8) (ci := 4) hx hb hts qi_X5_meet_X4 hown hK.1 hM 0 (ldI_F h12) rfl (by decide) (hts _ q_X5_meet_3) (fun _ h9 => h9) dX5_meet_12 ?_
    refine lv_icmp_ge (tgt := 160) hx hb dX5_meet_15 (by decide) (fun c15 => ?_) (fun c15 => ?_)
    · replace h := o_t c15 h
      refine lv_aload_n hx hb dX5_meet_160 rfl (lv_at hl 0 rfl) ?_
      replace h := o_b h; obtain ⟨x161, h161, h⟩ := h
      refine m_get (C := RX5) (T := TX5) (N := 5) (ci := 5) hx hb hts qi_X5_meet_X5 hown hK.1 hM 3 (ldR_F h161) rfl (by decide) (hts _ q_X5_meet_4) (fun _ h9 => h9) dX5_meet_161 ?_
      refine lv_aload_n hx hb dX5_meet_164 rfl (lv_at hl 2 rfl) ?_
      refine lv_iconst (v := (0 : Int32)) hx hb dX5_meet_165 (by decide) ?_
      replace h := o_b h; obtain ⟨_, k166, h⟩ := h
      replace h := o_b h; obtain ⟨q166, h166, h⟩ := h
      refine m_call (va_runV (As := [.ref v2, .int (0 : Int32)]) (rest := []) ⟨hx, hb, hml, hown, hts⟩ (c_X1_add l D b0 sz h166) (cwV 2 hts gX5_meet_X1_add rfl rfl rfl (by decide +kernel) ⟨Nat.le_of_ble_eq_true rfl, Nat.le_of_ble_eq_true rfl⟩) ⟨PW.blind, m_recv (ci := 1) rfl hK hM k166, (fun U hU hW => ⟨rfl, PW.call hK hM hS hU hW⟩)⟩ rfl rfl hl.1 rfl (lv_room (Nat.le_of_ble_eq_true rfl)) dX5_meet_166 ⟨(Nat.le_refl _), (Nat.le_refl _)⟩) hS (fun H locs hM hS => ?_)
      replace h := Option.some.inj h; subst h
      exact W.vret hx hb hr (fun t ht hW => ⟨rfl, by rw [ht]; exact hM.moved hW.alike, hS.F ht⟩) hS.2.2 dX5_meet_169
    replace h := o_f c15 h
    refine lv_aload_n hx hb dX5_meet_18 rfl (lv_at hl 2 rfl) ?_
    refine lv_aload_n hx hb dX5_meet_19 rfl (lv_at hl 0 rfl) ?_
    replace h := o_b h; obtain ⟨x20, h20, h⟩ := h
    refine m_get (C := RX5) (T := TX5) (N := 5) (ci := 5) hx hb hts qi_X5_meet_X5 hown hK.1 hM 1 (ldR_F h20) rfl (by decide) (hts _ q_X5_meet_1) (fun _ h9 => h9) dX5_meet_20 ?_
    replace h := o_b h; obtain ⟨x23, h23, h⟩ := h
    refine m_get (C := RX4) (T := TX4) (N := 8) (ci := 4) hx hb hts qi_X5_meet_X4 hown hK.1 hM 2 (ldR_F h23) rfl (by decide) (hts _ q_X5_meet_5) (fun _ h9 => h9) dX5_meet_23 ?_
    refine lv_iload_n hx hb dX5_meet_26 rfl (lv_at hl 3 rfl) ?_
    replace h := o_b h; obtain ⟨x27, h27, h⟩ := h
    refine m_iald hx hb hK.1 hM hS rfl h27 dX5_meet_27 ?_
    replace h := o_b h; obtain ⟨_, k28, h⟩ := h
    replace h := o_b h; obtain ⟨q28, h28, h⟩ := h
    refine m_call (va_runV (As := [.int x27]) (rest := []) ⟨hx, hb, hml, hown, hts⟩ (c_X3_has l D b0 sz h28) (cwV 1 hts gX5_meet_X3_has rfl rfl rfl (by decide +kernel) ⟨Nat.le_of_ble_eq_true rfl, Nat.le_of_ble_eq_true rfl⟩) ⟨PW.blind, m_recv (ci := 3) rfl hK hM k28, (fun U hU hW => ⟨rfl, PW.call hK hM hS hU hW⟩)⟩ rfl rfl hl.1 rfl (lv_room (Nat.le_of_ble_eq_true rfl)) dX5_meet_28 ⟨(Nat.le_refl _), (Nat.le_refl _)⟩) hS (fun H locs hM hS => ?_)
    refine lv_istore (lv' := [(4, .int q28), (0, .ref v0), (1, .ref v1), (2, .ref v2), (3, .int v3)]) hx hb dX5_meet_31 hl (by decide) rfl (fun ls hl => ?_)
    refine lv_aload_n hx hb dX5_meet_33 rfl (lv_at hl 3 rfl) ?_
    refine lv_aload_n hx hb dX5_meet_34 rfl (lv_at hl 1 rfl) ?_
    replace h := o_b h; obtain ⟨x35, h35, h⟩ := h
    refine m_get (C := RX5) (T := TX5) (N := 5) (ci := 5) hx hb hts qi_X5_meet_X5 hown hK.1 hM 1 (ldR_F h35) rfl (by decide) (hts _ q_X5_meet_1) (fun _ h9 => h9) dX5_meet_35 ?_
    replace h := o_b h; obtain ⟨x38, h38, h⟩ := h
    refine m_get (C := RX4) (T := TX4) (N := 8) (ci := 4) hx hb hts qi_X5_meet_X4 hown hK.1 hM 3 (ldR_F h38) rfl (by decide) (hts _ q_X5_meet_6) (fun _ h9 => h9) dX5_meet_38 ?_
    refine lv_iload_n hx hb dX5_meet_41 rfl (lv_at hl 4 rfl) ?_
    replace h := o_b h; obtain ⟨x42, h42, h⟩ := h
    refine m_iald hx hb hK.1 hM hS rfl h42 dX5_meet_42 ?_
    replace h := o_b h; obtain ⟨_, k43, h⟩ := h
    replace h := o_b h; obtain ⟨q43, h43, h⟩ := h
    refine m_call (va_runV (As := [.int x42]) (rest := []) ⟨hx, hb, hml, hown, hts⟩ (c_X3_has l D b0 sz h43) (cwV 1 hts gX5_meet_X3_has rfl rfl rfl (by decide +kernel) ⟨Nat.le_of_ble_eq_true rfl, Nat.le_of_ble_eq_true rfl⟩) ⟨PW.blind, m_recv (ci := 3) rfl hK hM k43, (fun U hU hW => ⟨rfl, PW.call hK hM hS hU hW⟩)⟩ rfl rfl hl.1 rfl (lv_room (Nat.le_of_ble_eq_true rfl)) dX5_meet_43 ⟨(Nat.le_refl _), (Nat.le_refl _)⟩) hS (fun H locs hM hS => ?_)
    refine lv_istore (lv' := [(5, .int q43), (4, .int q28), (0, .ref v0), (1, .ref v1), (2, .ref v2), (3, .int v3)]) hx hb dX5_meet_46 hl (by decide) rfl (fun ls hl => ?_)
    refine lv_aload_n hx hb dX5_meet_48 rfl (lv_at hl 2 rfl) ?_
    replace h := o_b h; obtain ⟨x49, h49, h⟩ := h
    refine m_get (C := RX5) (T := TX5) (N := 5) (ci := 5) hx hb hts qi_X5_meet_X5 hown hK.1 hM 1 (ldR_F h49) rfl (by decide) (hts _ q_X5_meet_1) (fun _ h9 => h9) dX5_meet_49 ?_
    replace h := o_b h; obtain ⟨x52, h52, h⟩ := h
    refine m_get (C := RX4) (T := TX4) (N := 8) (ci := 4) hx hb hts qi_X5_meet_X4 hown hK.1 hM 1 (ldR_F h52) rfl (by decide) (hts _ q_X5_meet_7) (fun _ h9 => h9) dX5_meet_52 ?_
    refine lv_iload_n hx hb dX5_meet_55 rfl (lv_at hl 5 rfl) ?_
    replace h := o_b h; obtain ⟨x56, h56, h⟩ := h
    refine m_iald hx hb hK.1 hM hS rfl h56 dX5_meet_56 ?_
    refine lv_istore (lv' := [(6, .int x56), (5, .int q43), (4, .int q28), (0, .ref v0), (1, .ref v1), (2, .ref v2), (3, .int v3)]) hx hb dX5_meet_57 hl (by decide) rfl (fun ls hl => ?_)
    refine lv_aload_n hx hb dX5_meet_59 rfl (lv_at hl 5 rfl) ?_
    refine lv_iload_n hx hb dX5_meet_60 rfl (lv_at hl 6 rfl) ?_
    refine lv_iload hx hb dX5_meet_61 (lv_at hl 0 rfl) ?_
    refine lv_iconst (v := (5 : Int32)) hx hb dX5_meet_63 (by decide) ?_
    refine lv_icmp_gt (tgt := 78) hx hb dX5_meet_64 (by decide) (fun c64 => ?_) (fun c64 => ?_)
    · replace h := o_t c64 h
      refine lv_iload hx hb dX5_meet_78 (lv_at hl 0 rfl) ?_
      refine lv_bipush (v := (7 : Int32)) hx hb dX5_meet_80 (by decide) ?_
      refine lv_icmp_ne (tgt := 103) hx hb dX5_meet_82 (by decide) (fun c82 => ?_) (fun c82 => ?_)
      · replace h := o_f c82 h
        refine lv_iload hx hb dX5_meet_103 (lv_at hl 0 rfl) ?_
        refine lv_bipush (v := (8 : Int32)) hx hb dX5_meet_105 (by decide) ?_
        refine lv_icmp_ne (tgt := 128) hx hb dX5_meet_107 (by decide) (fun c107 => ?_) (fun c107 => ?_)
        · replace h := o_f c107 h
          refine lv_aload_n hx hb dX5_meet_128 rfl (lv_at hl 5 rfl) ?_
          refine lv_iload_n hx hb dX5_meet_129 rfl (lv_at hl 6 rfl) ?_
          replace h := o_b h; obtain ⟨_, k130, h⟩ := h
          replace h := o_b h; obtain ⟨q130, h130, h⟩ := h
          refine m_call (va_runV (As := [.int v3]) (rest := [.int v3, .ref v2]) ⟨hx, hb, hml, hown, hts⟩ (c_X3_has l D b0 sz h130) (cwV 1 hts gX5_meet_X3_has rfl rfl rfl (by decide +kernel) ⟨Nat.le_of_ble_eq_true rfl, Nat.le_of_ble_eq_true rfl⟩) ⟨PW.blind, m_recv (ci := 3) rfl hK hM k130, (fun U hU hW => ⟨rfl, PW.call hK hM hS hU hW⟩)⟩ rfl rfl hl.1 rfl (lv_room (Nat.le_of_ble_eq_true rfl)) dX5_meet_130 ⟨(Nat.le_refl _), (Nat.le_refl _)⟩) hS (fun H locs hM hS => ?_)
          refine lv_if_eq (tgt := 150) hx hb dX5_meet_133 (by decide) (fun c133 => ?_) (fun c133 => ?_)
          · replace h := o_t c133 h
            exact w_X5_meet_150 C0 ih _ _ _ _ _ _ _ h _ _ _ hM hS (lv_sub hl [3, 4, 5, 6] rfl)
          replace h := o_f c133 h
          refine lv_iload hx hb dX5_meet_136 (lv_at hl 2 rfl) ?_
          refine lv_if_eq (tgt := 146) hx hb dX5_meet_138 (by decide) (fun c138 => ?_) (fun c138 => ?_)
          · replace h := o_t c138 h
            exact w_X5_meet_146 C0 ih _ _ _ _ _ _ _ h _ _ _ hM hS (lv_sub hl [3, 4, 5, 6] rfl)
          replace h := o_f c138 h
          refine lv_iload hx hb dX5_meet_141 (lv_at hl 1 rfl) ?_
          refine lv_if_eq (tgt := 150) hx hb dX5_meet_143 (by decide) (fun c143 => ?_) (fun c143 => ?_)
          · replace h := o_t c143 h
            exact w_X5_meet_150 C0 ih _ _ _ _ _ _ _ h _ _ _ hM hS (lv_sub hl [3, 4, 5, 6] rfl)
          replace h := o_f c143 h
          exact w_X5_meet_146 C0 ih _ _ _ _ _ _ _ h _ _ _ hM hS (lv_sub hl [3, 4, 5, 6] rfl)
        replace h := o_t c107 h
        refine lv_iload hx hb dX5_meet_110 (lv_at hl 2 rfl) ?_
        refine lv_if_ne (tgt := 120) hx hb dX5_meet_112 (by decide) (fun c112 => ?_) (fun c112 => ?_)
        · replace h := o_f c112 h
          exact w_X5_meet_120 C0 ih _ _ _ _ _ _ _ h _ _ _ hM hS (lv_sub hl [3, 4, 5, 6] rfl)
        replace h := o_t c112 h
        refine lv_iload hx hb dX5_meet_115 (lv_at hl 1 rfl) ?_
        refine lv_if_eq (tgt := 124) hx hb dX5_meet_117 (by decide) (fun c117 => ?_) (fun c117 => ?_)
        · replace h := o_t c117 h
          refine lv_iconst (v := (0 : Int32)) hx hb dX5_meet_124 (by decide) ?_
          refine lv_goto (tgt := 151) hx hb dX5_meet_125 (by decide) ?_
          exact w_X5_meet_151 C0 ih _ _ _ _ _ _ _ _ h _ _ _ hM hS (lv_sub hl [3, 4, 5, 6] rfl)
        replace h := o_f c117 h
        exact w_X5_meet_120 C0 ih _ _ _ _ _ _ _ h _ _ _ hM hS (lv_sub hl [3, 4, 5, 6] rfl)
      replace h := o_t c82 h
      refine lv_iload hx hb dX5_meet_85 (lv_at hl 2 rfl) ?_
      refine lv_if_eq (tgt := 99) hx hb dX5_meet_87 (by decide) (fun c87 => ?_) (fun c87 => ?_)
      · replace h := o_t c87 h
        exact w_X5_meet_99 C0 ih _ _ _ _ _ _ _ h _ _ _ hM hS (lv_sub hl [3, 4, 5, 6] rfl)
      replace h := o_f c87 h
      refine lv_iload hx hb dX5_meet_90 (lv_at hl 1 rfl) ?_
      refine lv_if_eq (tgt := 99) hx hb dX5_meet_92 (by decide) (fun c92 => ?_) (fun c92 => ?_)
      · replace h := o_t c92 h
        exact w_X5_meet_99 C0 ih _ _ _ _ _ _ _ h _ _ _ hM hS (lv_sub hl [3, 4, 5, 6] rfl)
      replace h := o_f c92 h
      refine lv_iconst (v := (1 : Int32)) hx hb dX5_meet_95 (by decide) ?_
      refine lv_goto (tgt := 151) hx hb dX5_meet_96 (by decide) ?_
      exact w_X5_meet_151 C0 ih _ _ _ _ _ _ _ _ h _ _ _ hM hS (lv_sub hl [3, 4, 5, 6] rfl)
    replace h := o_f c64 h
    refine lv_aload_n hx hb dX5_meet_67 rfl (lv_at hl 4 rfl) ?_
    replace h := o_b h; obtain ⟨x68, h68, h⟩ := h
    refine m_get (C := RX2) (T := TX2) (N := 5) (ci := 2) hx hb hts qi_X5_meet_X2 hown hK.1 hM 0 (ldR_F h68) rfl (by decide) (hts _ q_X5_meet_9) (fun _ h9 => h9) dX5_meet_68 ?_
    refine lv_iload_n hx hb dX5_meet_71 rfl (lv_at hl 6 rfl) ?_
    replace h := o_b h; obtain ⟨_, k72, h⟩ := h
    replace h := o_b h; obtain ⟨q72, h72, h⟩ := h
    refine m_call (va_runV (As := [.int v3]) (rest := [.int v3, .ref v2]) ⟨hx, hb, hml, hown, hts⟩ (c_X3_has l D b0 sz h72) (cwV 1 hts gX5_meet_X3_has rfl rfl rfl (by decide +kernel) ⟨Nat.le_of_ble_eq_true rfl, Nat.le_of_ble_eq_true rfl⟩) ⟨PW.blind, m_recv (ci := 3) rfl hK hM k72, (fun U hU hW => ⟨rfl, PW.call hK hM hS hU hW⟩)⟩ rfl rfl hl.1 rfl (lv_room (Nat.le_of_ble_eq_true rfl)) dX5_meet_72 ⟨(Nat.le_refl _), (Nat.le_refl _)⟩) hS (fun H locs hM hS => ?_)
    refine lv_goto (tgt := 151) hx hb dX5_meet_75 (by decide) ?_
    exact w_X5_meet_151 C0 ih _ _ _ _ _ _ _ _ h _ _ _ hM hS (lv_sub hl [3, 4, 5, 6] rfl)
set_option maxHeartbeats 4000000 in
set_option maxRecDepth 100000 in
theorem w_X5_meet (C0 : CX cX5_meet 7 none wsX5_meet RX5 p s m args meth c D b0) {v0 : Nat} {v1 : Nat} {res : mmF} (h : f_X5_meet v0 v1 f = some res) : ∀ (H : Heap) (locs : List Loc) (ls : Array Slot), MM vwCl D b0 f sz s H → mS b0 s H locs → lv_has ls 7 [(0, .ref v0), (1, .ref v1)] → W p l e ({ frames := 2, cells := 0, slots := 0, locals := 46 } : Room) s m args below meth c H locs 0 0 (MQ below (QW D b0 none res sz) args s 0 0 (fun q => b0 ≤ q)) (F0 m 0 ls []) := by
  obtain ⟨hx, hb, hr, hml, hown, hts, hlocks, hK⟩ := id C0
  intro H locs ls hM hS hl
  unfold f_X5_meet at h
  refine lv_aload_n hx hb dX5_meet_0 rfl (lv_at hl 1 rfl) ?_
  replace h := o_b h; obtain ⟨x1, h1, h⟩ := h
  refine m_get (C := RX2) (T := TX2) (N := 5) (ci := 2) hx hb hts qi_X5_meet_X2 hown hK.1 hM 3 (ldR_F h1) rfl (by decide) (hts _ q_X5_meet_10) (fun _ h9 => h9) dX5_meet_1 ?_
  refine lv_astore_n (lv' := [(2, .ref x1), (0, .ref v0), (1, .ref v1)]) hx hb dX5_meet_4 rfl hl (by decide) rfl (fun ls hl => ?_)
  refine lv_iconst (v := (0 : Int32)) hx hb dX5_meet_5 (by decide) ?_
  refine lv_istore_n (lv' := [(3, .int (0 : Int32)), (2, .ref x1), (0, .ref v0), (1, .ref v1)]) hx hb dX5_meet_6 rfl hl (by decide) rfl (fun ls hl => ?_)
  exact w_X5_meet_7 C0 FU _ _ _ _ _ h _ _ _ hM hS (lv_sub hl [2, 3, 1, 0] rfl)
set_option maxHeartbeats 4000000 in
set_option maxRecDepth 100000 in
theorem c_X5_meet (l : Launch) (D : mmD) (b0 sz : Nat) {v0 : Nat} {v1 : Nat} {f : mmF} {res : mmF} (h : f_X5_meet v0 v1 f = some res) : Met l yX5_meet wsX5_meet ({ frames := 2, cells := 0, slots := 0, locals := 46 } : Room) (va_Pc [.ref v0, .ref v1] (PW D b0 f sz)) (QW D b0 none res sz) 0 0 (fun q => b0 ≤ q) := by
  refine Met.ofW (cc := cX5_meet) (maxL := 7) (ret := none) (by decide) rfl ?_
  intro p e s m args below meth c s₁ B hml hv
  obtain ⟨rfl, hM, hK⟩ := hv
  have hl := lv_entry ([.ref v0, .ref v1]) (n := 7) (Nat.le_of_ble_eq_true rfl)
  rw [lg_entry_eq]
  generalize (lg_sl ([.ref v0, .ref v1]) ++ List.replicate (7 - (lg_sl ([.ref v0, .ref v1])).length) Slot.unset).toArray = ls at hl ⊢
  have hl : lv_has ls 7 [(0, .ref v0), (1, .ref v1)] := hl
  exact w_X5_meet ⟨B.exec, B.bytes, B.returns, hml, findClass_of_methodNamed B.named, atoms_spec (ws := wsX5_meet) B.pre, B.notSynchronized, hK⟩ h s.heap [] ls hM va_S.rf hl
end S_X5_meet
/-! X5_proves -/
set_option maxRecDepth 20000 in
theorem qi_X5_proves_X5 : ∀ w ∈ u_ws RX5 TX5 5, w ∈ wsX5_proves := by decide +kernel
set_option maxRecDepth 20000 in
theorem q_X5_proves_1 : Cond.fieldLink RX5 38 "StageTruths$Proof" "proved" "LStageTruths$Findings;" ∈ wsX5_proves := by decide +kernel
set_option maxRecDepth 20000 in
theorem qi_X5_proves_X2 : ∀ w ∈ u_ws RX2 TX2 5, w ∈ wsX5_proves := by decide +kernel
set_option maxRecDepth 20000 in
theorem q_X5_proves_3 : Cond.fieldLink RX5 89 "StageTruths$Level" "given" "LStageTruths$PartSet;" ∈ wsX5_proves := by decide +kernel
set_option maxRecDepth 20000 in
theorem q_X5_proves_4 : Cond.fieldLink RX5 114 "StageTruths$Level" "found" "LStageTruths$PartSet;" ∈ wsX5_proves := by decide +kernel
set_option maxRecDepth 20000 in
theorem q_X5_proves_5 : Cond.fieldLink RX5 120 "StageTruths$Level" "doubted" "LStageTruths$PartSet;" ∈ wsX5_proves := by decide +kernel
set_option maxRecDepth 20000 in
theorem q_X5_proves_6 : Cond.fieldLink RX5 24 "StageTruths$Proof" "parts" "LStageTruths$Parts;" ∈ wsX5_proves := by decide +kernel
set_option maxRecDepth 20000 in
theorem qi_X5_proves_X4 : ∀ w ∈ u_ws RX4 TX4 8, w ∈ wsX5_proves := by decide +kernel
set_option maxRecDepth 20000 in
theorem q_X5_proves_8 : Cond.fieldLink RX5 108 "StageTruths$Parts" "left" "[I" ∈ wsX5_proves := by decide +kernel
set_option maxRecDepth 20000 in
theorem q_X5_proves_9 : Cond.initialized RX9 ∈ wsX5_proves := by decide +kernel
set_option maxRecDepth 20000 in
theorem q_X5_proves_10 : Cond.static yX9_at ∈ wsX5_proves := by decide +kernel
set_option maxRecDepth 20000 in
theorem q_X5_proves_11 : Cond.fieldLink RX5 111 "StageTruths$Parts" "right" "[I" ∈ wsX5_proves := by decide +kernel
set_option maxRecDepth 20000 in
theorem q_X5_proves_12 : Cond.fieldLink RX5 45 "StageTruths$Level" "known" "LStageTruths$PartSet;" ∈ wsX5_proves := by decide +kernel
set_option maxRecDepth 20000 in
theorem q_X5_proves_13 : Cond.fieldLink RX5 55 "StageTruths$Level" "singles" "I" ∈ wsX5_proves := by decide +kernel
set_option maxRecDepth 20000 in
theorem q_X5_proves_14 : Cond.constant RX5 99 (1000000) ∈ wsX5_proves := by decide +kernel
set_option maxRecDepth 20000 in
theorem q_X5_proves_15 : Cond.fieldLink RX5 100 "StageTruths$Parts" "kinds" "[I" ∈ wsX5_proves := by decide +kernel
set_option maxRecDepth 20000 in
theorem q_X5_proves_16 : Cond.fieldLink RX5 27 "StageTruths$Proof" "levels" "[LStageTruths$Level;" ∈ wsX5_proves := by decide +kernel
noncomputable def f_X5_proves_301 (rc : Nat → Int32 → Int32 → mmF → Option (Int32 × mmF))   (v0 : Nat) (v3 : Nat) (v5 : Int32) (v6 : Int32) (f : mmF) : Option (Int32 × mmF) :=
  if v6 = (-1 : Int32) then
  ((ldR f v0 5 4).bind fun x308 =>
  (ldR f v3 2 1).bind fun x312 =>
  (ckO f x308 1).bind fun _ =>
  (f_X1_add x308 x312 v5 f).bind fun q317 =>
  some ((1 : Int32), q317))
  else
  (ckO f v0 5).bind fun _ =>
  (f_X5_meet v0 v3 f).bind fun q324 =>
  some ((0 : Int32), q324)
noncomputable def f_X5_proves_295 (rc : Nat → Int32 → Int32 → mmF → Option (Int32 × mmF)) (k103 : Nat → Int32 → Nat → Nat → Int32 → Int32 → Int32 → mmF → Option (Int32 × mmF))  (v0 : Nat) (v1 : Int32) (v3 : Nat) (v4 : Nat) (v5 : Int32) (v6 : Int32) (v7 : Int32) (f : mmF) : Option (Int32 × mmF) :=
  k103 v0 v1 v3 v4 v5 v6 (v7 + (1 : Int32)) f
noncomputable def f_X5_proves_232 (rc : Nat → Int32 → Int32 → mmF → Option (Int32 × mmF)) (k103 : Nat → Int32 → Nat → Nat → Int32 → Int32 → Int32 → mmF → Option (Int32 × mmF))  (v0 : Nat) (v1 : Int32) (v3 : Nat) (v4 : Nat) (v5 : Int32) (v7 : Int32) (t0 : Nat) (t1 : Nat) (t2 : Int32) (f : mmF) : Option (Int32 × mmF) :=
  (ckO f t0 5).bind fun _ =>
  (f_X5_assume t0 t1 t2 f).bind fun q232 =>
  (ckO q232 v0 5).bind fun _ =>
  (f_X5_firstTrial v0 v3 v5 q232).bind fun q239 =>
  f_X5_proves_295 rc k103 v0 v1 v3 v4 v5 q239.1 v7 q239.2
noncomputable def f_X5_proves_212 (rc : Nat → Int32 → Int32 → mmF → Option (Int32 × mmF)) (k103 : Nat → Int32 → Nat → Nat → Int32 → Int32 → Int32 → mmF → Option (Int32 × mmF))  (v0 : Nat) (v1 : Int32) (v3 : Nat) (v4 : Nat) (v5 : Int32) (v6 : Int32) (v7 : Int32) (v8 : Int32) (v10 : Int32) (t0 : Nat) (t1 : Int32) (t2 : Int32) (f : mmF) : Option (Int32 × mmF) :=
  (rc t0 t1 t2 f).bind fun q212 =>
  if q212.1 = 0 then
  (if v8 = 0 then
  ((ldR q212.2 v3 2 3).bind fun x267 =>
  (ldR q212.2 v4 2 3).bind fun x272 =>
  (ckO q212.2 x267 3).bind fun _ =>
  (f_X3_keepOnly x267 x272 q212.2).bind fun q275 =>
  (ldR q275 v3 2 2).bind fun x279 =>
  (ckO q275 x279 3).bind fun _ =>
  (f_X3_set x279 v6 (0 : Int32) q275).bind fun q285 =>
  (ckO q285 v0 5).bind fun _ =>
  (f_X5_nextTrial v0 v3 q285).bind fun q290 =>
  f_X5_proves_295 rc k103 v0 v1 v3 v4 v5 q290 v7 q285)
  else
  (ldR q212.2 v3 2 3).bind fun x253 =>
  (ldR q212.2 v4 2 3).bind fun x258 =>
  (ckO q212.2 x253 3).bind fun _ =>
  (f_X3_takeFrom x253 x258 q212.2).bind fun q261 =>
  some ((0 : Int32), q261))
  else
  if v8 = 0 then
  (f_X5_proves_232 rc k103 v0 v1 v3 v4 v5 v7 v0 v3 v6 q212.2)
  else
  f_X5_proves_232 rc k103 v0 v1 v3 v4 v5 v7 v0 v3 v10 q212.2
noncomputable def f_X5_proves_137 (rc : Nat → Int32 → Int32 → mmF → Option (Int32 × mmF)) (k103 : Nat → Int32 → Nat → Nat → Int32 → Int32 → Int32 → mmF → Option (Int32 × mmF))  (v0 : Nat) (v1 : Int32) (v3 : Nat) (v4 : Nat) (v5 : Int32) (v6 : Int32) (v7 : Int32) (t0 : Int32) (f : mmF) : Option (Int32 × mmF) :=
  (ldR f v0 5 1).bind fun x140 =>
  (ldR f x140 4 2).bind fun x143 =>
  (f_X9_at x143 v6 f).bind fun q148 =>
  (ldR f v0 5 1).bind fun x154 =>
  (ldR f x154 4 3).bind fun x157 =>
  (f_X9_at x157 v6 f).bind fun q162 =>
  (ldR f v4 2 0).bind fun x169 =>
  (ldR f v3 2 0).bind fun x173 =>
  (ckO f x169 3).bind fun _ =>
  (f_X3_takeFrom x169 x173 f).bind fun q176 =>
  (ldI q176 v3 2 4).bind fun x182 =>
  (stF q176 v4 2 4 (.int x182)).bind fun f185 =>
  (ckO f185 v0 5).bind fun _ =>
  (f_X5_assume v0 v4 q148 f185).bind fun q193 =>
  if t0 = 0 then
  (f_X5_proves_212 rc k103 v0 v1 v3 v4 v5 v6 v7 t0 q162 v0 (v1 + (1 : Int32)) q162 q193)
  else
  f_X5_proves_212 rc k103 v0 v1 v3 v4 v5 v6 v7 t0 q162 v0 (v1 + (1 : Int32)) v5 q193
noncomputable def f_X5_proves_103 (rc : Nat → Int32 → Int32 → mmF → Option (Int32 × mmF))   : Nat → Nat → Int32 → Nat → Nat → Int32 → Int32 → Int32 → mmF → Option (Int32 × mmF)
  | 0, _, _, _, _, _, _, _, _ => none
  | n + 1, v0, v1, v3, v4, v5, v6, v7, f =>
    if v6 < 0 then
    (f_X5_proves_301 rc v0 v3 v5 v6 f)
    else
    if (1000000 : Int32) ≤ v7 then
    (f_X5_proves_301 rc v0 v3 v5 v6 f)
    else
    (ldR f v0 5 1).bind fun x116 =>
    (ldR f x116 4 1).bind fun x119 =>
    (f_X9_at x119 v6 f).bind fun q124 =>
    if q124 = (8 : Int32) then
    (f_X5_proves_137 rc (fun a0 a1 a2 a3 a4 a5 a6 a7 => f_X5_proves_103 rc n a0 a1 a2 a3 a4 a5 a6 a7) v0 v1 v3 v4 v5 v6 v7 (1 : Int32) f)
    else
    f_X5_proves_137 rc (fun a0 a1 a2 a3 a4 a5 a6 a7 => f_X5_proves_103 rc n a0 a1 a2 a3 a4 a5 a6 a7) v0 v1 v3 v4 v5 v6 v7 (0 : Int32) f
noncomputable def f_X5_proves : Nat → Nat → Int32 → Int32 → mmF → Option (Int32 × mmF)
  | 0, _, _, _, _ => none
  | n + 1, v0, v1, v2, f =>
    if v1 < 0 then
    (some ((0 : Int32), f))
    else
    if (v1 + (1 : Int32)) < (153 : Int32) then
    ((ldR f v0 5 2).bind fun x16 =>
    (ldN 4 f x16 v1).bind fun x20 =>
    (ldR f v0 5 2).bind fun x23 =>
    (ldN 4 f x23 (v1 + (1 : Int32))).bind fun x29 =>
    (ckO f v0 5).bind fun _ =>
    (f_X5_openGoal v0 x20 v2 f).bind fun q35 =>
    (ckO q35.2 v0 5).bind fun _ =>
    (f_X5_meetsSingle v0 x20 q35.1 q35.2).bind fun q44 =>
    if q44.1 = 0 then
    ((ckO q44.2 v0 5).bind fun _ =>
    (f_X5_hasMet v0 x20 q35.1 q44.2).bind fun q54 =>
    if q54.1 = 0 then
    (if q35.1 = (5 : Int32) then
    (some ((1 : Int32), q54.2))
    else
    (ckO q54.2 v0 5).bind fun _ =>
    (f_X5_hasProved v0 x20 q35.1 q54.2).bind fun q72 =>
    if q72 = 0 then
    ((ldR q54.2 x20 2 1).bind fun x81 =>
    (ldR q54.2 x20 2 0).bind fun x85 =>
    (ckO q54.2 x81 3).bind fun _ =>
    (f_X3_takeFrom x81 x85 q54.2).bind fun q88 =>
    (ckO q88 v0 5).bind fun _ =>
    (f_X5_firstTrial v0 x20 q35.1 q88).bind fun q95 =>
    f_X5_proves_103 (fun u0 u1 u2 g => f_X5_proves n u0 u1 u2 g) FU v0 v1 x20 x29 q35.1 q95.1 (0 : Int32) q95.2)
    else
    some ((1 : Int32), q54.2))
    else
    some ((0 : Int32), q54.2))
    else
    some ((0 : Int32), q44.2))
    else
    some ((0 : Int32), f)
section S_X5_proves
variable {p : Program} {l : Launch} {e : Env} {s : State} {m : MethodId} {args : Array Value} {below : List Frame} {meth : Method} {c : Code} {D : mmD} {b0 sz : Nat} {f : mmF}
set_option maxHeartbeats 4000000 in
set_option maxRecDepth 100000 in
theorem w_X5_proves_301 (C0 : CX cX5_proves 11 (some .boolean) wsX5_proves RX5 p s m args meth c D b0) {dd : Nat} {rc : Nat → Int32 → Int32 → mmF → Option (Int32 × mmF)} (hrc : ∀ (u0 : Nat) (u1 : Int32) (u2 : Int32) (f : mmF) (r : Int32 × mmF), rc u0 u1 u2 f = some r → Met l yX5_proves wsX5_proves ({ frames := dd + 4, cells := 0, slots := 0, locals := dd * 30 + 100 } : Room) (va_Pc [.ref u0, .int u1, .int u2] (PW D b0 f sz)) (QW D b0 (some (.int r.1)) r.2 sz) 0 0 (fun q => b0 ≤ q)) {res : Int32 × mmF} : ∀ (v0 : Nat) (v3 : Nat) (v5 : Int32) (v6 : Int32) (f : mmF), f_X5_proves_301 rc v0 v3 v5 v6 f = some res → ∀ (H : Heap) (locs : List Loc) (ls : Array Slot), MM vwCl D b0 f sz s H → mS b0 s H locs → lv_has ls 11 [(0, .ref v0), (3, .ref v3), (5, .int v5), (6, .int v6)] → W p l e ({ frames := (dd + 1) + 4, cells := 0, slots := 0, locals := (dd + 1) * 30 + 100 } : Room) s m args below meth c H locs 0 0 (MQ below (QW D b0 (some (.int res.1)) res.2 sz) args s 0 0 (fun q => b0 ≤ q)) (F0 m 301 ls []) := by
  obtain ⟨hx, hb, hr, hml, hown, hts, hlocks, hK⟩ := id C0
  intro v0 v3 v5 v6 f h H locs ls hM hS hl
  unfold f_X5_proves_301 at h
  refine lv_iload hx hb dX5_proves_301 (lv_at hl 3 rfl) ?_
  refine lv_iconst (v := (-1 : Int32)) hx hb dX5_proves_303 (by decide) ?_
  refine lv_icmp_ne (tgt := 322) hx hb dX5_proves_304 (by decide) (fun c304 => ?_) (fun c304 => ?_)
  · replace h := o_f c304 h
    refine lv_aload_n hx hb dX5_proves_322 rfl (lv_at hl 0 rfl) ?_
    refine lv_aload_n hx hb dX5_proves_323 rfl (lv_at hl 1 rfl) ?_
    replace h := o_b h; obtain ⟨_, k324, h⟩ := h
    replace h := o_b h; obtain ⟨q324, h324, h⟩ := h
    refine m_call (va_runV (As := [.ref v3]) (rest := []) ⟨hx, hb, hml, hown, hts⟩ (c_X5_meet l D b0 sz h324) (cwV 1 hts gX5_proves_X5_meet rfl rfl rfl (by decide +kernel) ⟨(by show 2 + 1 ≤ dd + 1 + 4; omega), (by show 8 + (7 + 11) + (46) ≤ (dd + 1) * 30 + 100; omega)⟩) ⟨PW.blind, m_recv (ci := 5) rfl hK hM k324, (fun U hU hW => ⟨rfl, PW.call hK hM hS hU hW⟩)⟩ rfl rfl hl.1 rfl (lv_room (Nat.le_of_ble_eq_true rfl)) dX5_proves_324 ⟨(Nat.le_refl _), (Nat.le_refl _)⟩) hS (fun H locs hM hS => ?_)
    refine lv_iconst (v := (0 : Int32)) hx hb dX5_proves_327 (by decide) ?_
    replace h := Option.some.inj h; subst h
    exact W.zret hx hb hr rfl (fun t ht hW => ⟨rfl, by rw [ht]; exact hM.moved hW.alike, hS.F ht⟩) hS.2.2 dX5_proves_328
  replace h := o_t c304 h
  refine lv_aload_n hx hb dX5_proves_307 rfl (lv_at hl 0 rfl) ?_
  replace h := o_b h; obtain ⟨x308, h308, h⟩ := h
  refine m_get (C := RX5) (T := TX5) (N := 5) (ci := 5) hx hb hts qi_X5_proves_X5 hown hK.1 hM 4 (ldR_F h308) rfl (by decide) (hts _ q_X5_proves_1) (fun _ h9 => h9) dX5_proves_308 ?_
  refine lv_aload_n hx hb dX5_proves_311 rfl (lv_at hl 1 rfl) ?_
  replace h := o_b h; obtain ⟨x312, h312, h⟩ := h
  refine m_get (C := RX2) (T := TX2) (N := 5) (ci := 2) hx hb hts qi_X5_proves_X2 hown hK.1 hM 1 (ldR_F h312) rfl (by decide) (hts _ q_X5_proves_3) (fun _ h9 => h9) dX5_proves_312 ?_
  refine lv_iload hx hb dX5_proves_315 (lv_at hl 2 rfl) ?_
  replace h := o_b h; obtain ⟨_, k317, h⟩ := h
  replace h := o_b h; obtain ⟨q317, h317, h⟩ := h
  refine m_call (va_runV (As := [.ref x312, .int v5]) (rest := []) ⟨hx, hb, hml, hown, hts⟩ (c_X1_add l D b0 sz h317) (cwV 2 hts gX5_proves_X1_add rfl rfl rfl (by decide +kernel) ⟨(by show 1 + 1 ≤ dd + 1 + 4; omega), (by show 8 + (3 + 11) + (24) ≤ (dd + 1) * 30 + 100; omega)⟩) ⟨PW.blind, m_recv (ci := 1) rfl hK hM k317, (fun U hU hW => ⟨rfl, PW.call hK hM hS hU hW⟩)⟩ rfl rfl hl.1 rfl (lv_room (Nat.le_of_ble_eq_true rfl)) dX5_proves_317 ⟨(Nat.le_refl _), (Nat.le_refl _)⟩) hS (fun H locs hM hS => ?_)
  refine lv_iconst (v := (1 : Int32)) hx hb dX5_proves_320 (by decide) ?_
  replace h := Option.some.inj h; subst h
  exact W.zret hx hb hr rfl (fun t ht hW => ⟨rfl, by rw [ht]; exact hM.moved hW.alike, hS.F ht⟩) hS.2.2 dX5_proves_321
set_option maxHeartbeats 4000000 in
set_option maxRecDepth 100000 in
theorem w_X5_proves_295 (C0 : CX cX5_proves 11 (some .boolean) wsX5_proves RX5 p s m args meth c D b0) {dd : Nat} {rc : Nat → Int32 → Int32 → mmF → Option (Int32 × mmF)} (hrc : ∀ (u0 : Nat) (u1 : Int32) (u2 : Int32) (f : mmF) (r : Int32 × mmF), rc u0 u1 u2 f = some r → Met l yX5_proves wsX5_proves ({ frames := dd + 4, cells := 0, slots := 0, locals := dd * 30 + 100 } : Room) (va_Pc [.ref u0, .int u1, .int u2] (PW D b0 f sz)) (QW D b0 (some (.int r.1)) r.2 sz) 0 0 (fun q => b0 ≤ q)) {k103 : Nat → Int32 → Nat → Nat → Int32 → Int32 → Int32 → mmF → Option (Int32 × mmF)} {res : Int32 × mmF} (hk103 : ∀ (v0 : Nat) (v1 : Int32) (v3 : Nat) (v4 : Nat) (v5 : Int32) (v6 : Int32) (v7 : Int32) (f : mmF), k103 v0 v1 v3 v4 v5 v6 v7 f = some res → ∀ (H : Heap) (locs : List Loc) (ls : Array Slot), MM vwCl D b0 f sz s H → mS b0 s H locs → lv_has ls 11 [(0, .ref v0), (1, .int v1), (3, .ref v3), (4, .ref v4), (5, .int v5), (6, .int v6), (7, .int v7)] → W p l e ({ frames := (dd + 1) + 4, cells := 0, slots := 0, locals := (dd + 1) * 30 + 100 } : Room) s m args below meth c H locs 0 0 (MQ below (QW D b0 (some (.int res.1)) res.2 sz) args s 0 0 (fun q => b0 ≤ q)) (F0 m 103 ls [])) : ∀ (v0 : Nat) (v1 : Int32) (v3 : Nat) (v4 : Nat) (v5 : Int32) (v6 : Int32) (v7 : Int32) (f : mmF), f_X5_proves_295 rc k103 v0 v1 v3 v4 v5 v6 v7 f = some res → ∀ (H : Heap) (locs : List Loc) (ls : Array Slot), MM vwCl D b0 f sz s H → mS b0 s H locs → lv_has ls 11 [(0, .ref v0), (1, .int v1), (3, .ref v3), (4, .ref v4), (5, .int v5), (6, .int v6), (7, .int v7)] → W p l e ({ frames := (dd + 1) + 4, cells := 0, slots := 0, locals := (dd + 1) * 30 + 100 } : Room) s m args below meth c H locs 0 0 (MQ below (QW D b0 (some (.int res.1)) res.2 sz) args s 0 0 (fun q => b0 ≤ q)) (F0 m 295 ls []) := by
  obtain ⟨hx, hb, hr, hml, hown, hts, hlocks, hK⟩ := id C0
  intro v0 v1 v3 v4 v5 v6 v7 f h H locs ls hM hS hl
  unfold f_X5_proves_295 at h
  refine lv_iinc (v := (v7 + (1 : Int32))) (lv' := [(7, .int (v7 + (1 : Int32))), (0, .ref v0), (1, .int v1), (3, .ref v3), (4, .ref v4), (5, .int v5), (6, .int v6)]) hx hb dX5_proves_295 hl (k := 6) rfl rfl (by decide) rfl (fun ls hl => ?_)
  refine lv_goto (tgt := 103) hx hb dX5_proves_298 (by decide) ?_
  exact hk103 _ _ _ _ _ _ _ _ h _ _ _ hM hS (lv_sub hl [1, 2, 3, 4, 5, 6, 0] rfl)
set_option maxHeartbeats 4000000 in
set_option maxRecDepth 100000 in
theorem w_X5_proves_232 (C0 : CX cX5_proves 11 (some .boolean) wsX5_proves RX5 p s m args meth c D b0) {dd : Nat} {rc : Nat → Int32 → Int32 → mmF → Option (Int32 × mmF)} (hrc : ∀ (u0 : Nat) (u1 : Int32) (u2 : Int32) (f : mmF) (r : Int32 × mmF), rc u0 u1 u2 f = some r → Met l yX5_proves wsX5_proves ({ frames := dd + 4, cells := 0, slots := 0, locals := dd * 30 + 100 } : Room) (va_Pc [.ref u0, .int u1, .int u2] (PW D b0 f sz)) (QW D b0 (some (.int r.1)) r.2 sz) 0 0 (fun q => b0 ≤ q)) {k103 : Nat → Int32 → Nat → Nat → Int32 → Int32 → Int32 → mmF → Option (Int32 × mmF)} {res : Int32 × mmF} (hk103 : ∀ (v0 : Nat) (v1 : Int32) (v3 : Nat) (v4 : Nat) (v5 : Int32) (v6 : Int32) (v7 : Int32) (f : mmF), k103 v0 v1 v3 v4 v5 v6 v7 f = some res → ∀ (H : Heap) (locs : List Loc) (ls : Array Slot), MM vwCl D b0 f sz s H → mS b0 s H locs → lv_has ls 11 [(0, .ref v0), (1, .int v1), (3, .ref v3), (4, .ref v4), (5, .int v5), (6, .int v6), (7, .int v7)] → W p l e ({ frames := (dd + 1) + 4, cells := 0, slots := 0, locals := (dd + 1) * 30 + 100 } : Room) s m args below meth c H locs 0 0 (MQ below (QW D b0 (some (.int res.1)) res.2 sz) args s 0 0 (fun q => b0 ≤ q)) (F0 m 103 ls [])) : ∀ (v0 : Nat) (v1 : Int32) (v3 : Nat) (v4 : Nat) (v5 : Int32) (v7 : Int32) (t0 : Nat) (t1 : Nat) (t2 : Int32) (f : mmF), f_X5_proves_232 rc k103 v0 v1 v3 v4 v5 v7 t0 t1 t2 f = some res → ∀ (H : Heap) (locs : List Loc) (ls : Array Slot), MM vwCl D b0 f sz s H → mS b0 s H locs → lv_has ls 11 [(0, .ref v0), (1, .int v1), (3, .ref v3), (4, .ref v4), (5, .int v5), (7, .int v7)] → W p l e ({ frames := (dd + 1) + 4, cells := 0, slots := 0, locals := (dd + 1) * 30 + 100 } : Room) s m args below meth c H locs 0 0 (MQ below (QW D b0 (some (.int res.1)) res.2 sz) args s 0 0 (fun q => b0 ≤ q)) (F0 m 232 ls [.int t2, .ref t1, .ref t0]) := by
  obtain ⟨hx, hb, hr, hml, hown, hts, hlocks, hK⟩ := id C0
  intro v0 v1 v3 v4 v5 v7 t0 t1 t2 f h H locs ls hM hS hl
  unfold f_X5_proves_232 at h
  replace h := o_b h; obtain ⟨_, k232, h⟩ := h
  replace h := o_b h; obtain ⟨q232, h232, h⟩ := h
  refine m_call (va_runV (As := [.ref t1, .int t2]) (rest := []) ⟨hx, hb, hml, hown, hts⟩ (c_X5_assume l D b0 sz h232) (cwV 2 hts gX5_proves_X5_assume rfl rfl rfl (by decide +kernel) ⟨(by show 2 + 1 ≤ dd + 1 + 4; omega), (by show 8 + (3 + 11) + (42) ≤ (dd + 1) * 30 + 100; omega)⟩) ⟨PW.blind, m_recv (ci := 5) rfl hK hM k232, (fun U hU hW => ⟨rfl, PW.call hK hM hS hU hW⟩)⟩ rfl rfl hl.1 rfl (lv_room (Nat.le_of_ble_eq_true rfl)) dX5_proves_232 ⟨(Nat.le_refl _), (Nat.le_refl _)⟩) hS (fun H locs hM hS => ?_)
  refine lv_aload_n hx hb dX5_proves_235 rfl (lv_at hl 0 rfl) ?_
  refine lv_aload_n hx hb dX5_proves_236 rfl (lv_at hl 2 rfl) ?_
  refine lv_iload hx hb dX5_proves_237 (lv_at hl 4 rfl) ?_
  replace h := o_b h; obtain ⟨_, k239, h⟩ := h
  replace h := o_b h; obtain ⟨q239, h239, h⟩ := h
  refine m_call (va_runV (As := [.ref v3, .int v5]) (rest := []) ⟨hx, hb, hml, hown, hts⟩ (c_X5_firstTrial l D b0 sz h239) (cwV 2 hts gX5_proves_X5_firstTrial rfl rfl rfl (by decide +kernel) ⟨(by show 3 + 1 ≤ dd + 1 + 4; omega), (by show 8 + (5 + 11) + (76) ≤ (dd + 1) * 30 + 100; omega)⟩) ⟨PW.blind, m_recv (ci := 5) rfl hK hM k239, (fun U hU hW => ⟨rfl, PW.call hK hM hS hU hW⟩)⟩ rfl rfl hl.1 rfl (lv_room (Nat.le_of_ble_eq_true rfl)) dX5_proves_239 ⟨(Nat.le_refl _), (Nat.le_refl _)⟩) hS (fun H locs hM hS => ?_)
  refine lv_istore (lv' := [(6, .int q239.1), (0, .ref v0), (1, .int v1), (3, .ref v3), (4, .ref v4), (5, .int v5), (7, .int v7)]) hx hb dX5_proves_242 hl (by decide) rfl (fun ls hl => ?_)
  refine lv_goto (tgt := 295) hx hb dX5_proves_244 (by decide) ?_
  exact w_X5_proves_295 C0 hrc hk103 _ _ _ _ _ _ _ _ h _ _ _ hM hS (lv_sub hl [1, 2, 3, 4, 5, 0, 6] rfl)
set_option maxHeartbeats 4000000 in
set_option maxRecDepth 100000 in
theorem w_X5_proves_212 (C0 : CX cX5_proves 11 (some .boolean) wsX5_proves RX5 p s m args meth c D b0) {dd : Nat} {rc : Nat → Int32 → Int32 → mmF → Option (Int32 × mmF)} (hrc : ∀ (u0 : Nat) (u1 : Int32) (u2 : Int32) (f : mmF) (r : Int32 × mmF), rc u0 u1 u2 f = some r → Met l yX5_proves wsX5_proves ({ frames := dd + 4, cells := 0, slots := 0, locals := dd * 30 + 100 } : Room) (va_Pc [.ref u0, .int u1, .int u2] (PW D b0 f sz)) (QW D b0 (some (.int r.1)) r.2 sz) 0 0 (fun q => b0 ≤ q)) {k103 : Nat → Int32 → Nat → Nat → Int32 → Int32 → Int32 → mmF → Option (Int32 × mmF)} {res : Int32 × mmF} (hk103 : ∀ (v0 : Nat) (v1 : Int32) (v3 : Nat) (v4 : Nat) (v5 : Int32) (v6 : Int32) (v7 : Int32) (f : mmF), k103 v0 v1 v3 v4 v5 v6 v7 f = some res → ∀ (H : Heap) (locs : List Loc) (ls : Array Slot), MM vwCl D b0 f sz s H → mS b0 s H locs → lv_has ls 11 [(0, .ref v0), (1, .int v1), (3, .ref v3), (4, .ref v4), (5, .int v5), (6, .int v6), (7, .int v7)] → W p l e ({ frames := (dd + 1) + 4, cells := 0, slots := 0, locals := (dd + 1) * 30 + 100 } : Room) s m args below meth c H locs 0 0 (MQ below (QW D b0 (some (.int res.1)) res.2 sz) args s 0 0 (fun q => b0 ≤ q)) (F0 m 103 ls [])) : ∀ (v0 : Nat) (v1 : Int32) (v3 : Nat) (v4 : Nat) (v5 : Int32) (v6 : Int32) (v7 : Int32) (v8 : Int32) (v10 : Int32) (t0 : Nat) (t1 : Int32) (t2 : Int32) (f : mmF), f_X5_proves_212 rc k103 v0 v1 v3 v4 v5 v6 v7 v8 v10 t0 t1 t2 f = some res → ∀ (H : Heap) (locs : List Loc) (ls : Array Slot), MM vwCl D b0 f sz s H → mS b0 s H locs → lv_has ls 11 [(0, .ref v0), (1, .int v1), (3, .ref v3), (4, .ref v4), (5, .int v5), (6, .int v6), (7, .int v7), (8, .int v8), (10, .int v10)] → W p l e ({ frames := (dd + 1) + 4, cells := 0, slots := 0, locals := (dd + 1) * 30 + 100 } : Room) s m args below meth c H locs 0 0 (MQ below (QW D b0 (some (.int res.1)) res.2 sz) args s 0 0 (fun q => b0 ≤ q)) (F0 m 212 ls [.int t2, .int t1, .ref t0]) := by
  obtain ⟨hx, hb, hr, hml, hown, hts, hlocks, hK⟩ := id C0
  intro v0 v1 v3 v4 v5 v6 v7 v8 v10 t0 t1 t2 f h H locs ls hM hS hl
  unfold f_X5_proves_212 at h
  replace h := o_b h; obtain ⟨q212, h212, h⟩ := h
  refine m_call (va_runS (As := [.ref t0, .int t1, .int t2]) (rest := []) ⟨hx, hb, hml, hown, hts⟩ (hrc _ _ _ _ _ h212) (va_cwS 3 hts gX5_proves_X5_proves rfl rfl rfl (by decide +kernel) ⟨(by show dd + 4 + 1 ≤ dd + 1 + 4; omega), (by show 8 + (11 + 11) + (dd * 30 + 100) ≤ (dd + 1) * 30 + 100; omega)⟩) ⟨PW.blind, (fun U hU hW => ⟨rfl, PW.call hK hM hS hU hW⟩)⟩ rfl rfl hl.1 rfl (lv_room (Nat.le_of_ble_eq_true rfl)) dX5_proves_212 ⟨(Nat.le_refl _), (Nat.le_refl _)⟩) hS (fun H locs hM hS => ?_)
  refine lv_if_eq (tgt := 247) hx hb dX5_proves_215 (by decide) (fun c215 => ?_) (fun c215 => ?_)
  · replace h := o_t c215 h
    refine lv_iload hx hb dX5_proves_247 (lv_at hl 7 rfl) ?_
    refine lv_if_eq (tgt := 266) hx hb dX5_proves_249 (by decide) (fun c249 => ?_) (fun c249 => ?_)
    · replace h := o_t c249 h
      refine lv_aload_n hx hb dX5_proves_266 rfl (lv_at hl 2 rfl) ?_
      replace h := o_b h; obtain ⟨x267, h267, h⟩ := h
      refine m_get (C := RX2) (T := TX2) (N := 5) (ci := 2) hx hb hts qi_X5_proves_X2 hown hK.1 hM 3 (ldR_F h267) rfl (by decide) (hts _ q_X5_proves_4) (fun _ h9 => h9) dX5_proves_267 ?_
      refine lv_aload hx hb dX5_proves_270 (lv_at hl 3 rfl) ?_
      replace h := o_b h; obtain ⟨x272, h272, h⟩ := h
      refine m_get (C := RX2) (T := TX2) (N := 5) (ci := 2) hx hb hts qi_X5_proves_X2 hown hK.1 hM 3 (ldR_F h272) rfl (by decide) (hts _ q_X5_proves_4) (fun _ h9 => h9) dX5_proves_272 ?_
      replace h := o_b h; obtain ⟨_, k275, h⟩ := h
      replace h := o_b h; obtain ⟨q275, h275, h⟩ := h
      refine m_call (va_runV (As := [.ref x272]) (rest := []) ⟨hx, hb, hml, hown, hts⟩ (c_X3_keepOnly l D b0 sz h275) (cwV 1 hts gX5_proves_X3_keepOnly rfl rfl rfl (by decide +kernel) ⟨(by show 0 + 1 ≤ dd + 1 + 4; omega), (by show 8 + (2 + 11) + (0) ≤ (dd + 1) * 30 + 100; omega)⟩) ⟨PW.blind, m_recv (ci := 3) rfl hK hM k275, (fun U hU hW => ⟨rfl, PW.call hK hM hS hU hW⟩)⟩ rfl rfl hl.1 rfl (lv_room (Nat.le_of_ble_eq_true rfl)) dX5_proves_275 ⟨(Nat.le_refl _), (Nat.le_refl _)⟩) hS (fun H locs hM hS => ?_)
      refine lv_aload_n hx hb dX5_proves_278 rfl (lv_at hl 2 rfl) ?_
      replace h := o_b h; obtain ⟨x279, h279, h⟩ := h
      refine m_get (C := RX2) (T := TX2) (N := 5) (ci := 2) hx hb hts qi_X5_proves_X2 hown hK.1 hM 2 (ldR_F h279) rfl (by decide) (hts _ q_X5_proves_5) (fun _ h9 => h9) dX5_proves_279 ?_
      refine lv_iload hx hb dX5_proves_282 (lv_at hl 5 rfl) ?_
      refine lv_iconst (v := (0 : Int32)) hx hb dX5_proves_284 (by decide) ?_
      replace h := o_b h; obtain ⟨_, k285, h⟩ := h
      replace h := o_b h; obtain ⟨q285, h285, h⟩ := h
      refine m_call (va_runV (As := [.int v6, .int (0 : Int32)]) (rest := []) ⟨hx, hb, hml, hown, hts⟩ (c_X3_set l D b0 sz h285) (cwV 2 hts gX5_proves_X3_set rfl rfl rfl (by decide +kernel) ⟨(by show 0 + 1 ≤ dd + 1 + 4; omega), (by show 8 + (5 + 11) + (0) ≤ (dd + 1) * 30 + 100; omega)⟩) ⟨PW.blind, m_recv (ci := 3) rfl hK hM k285, (fun U hU hW => ⟨rfl, PW.call hK hM hS hU hW⟩)⟩ rfl rfl hl.1 rfl (lv_room (Nat.le_of_ble_eq_true rfl)) dX5_proves_285 ⟨(Nat.le_refl _), (Nat.le_refl _)⟩) hS (fun H locs hM hS => ?_)
      refine lv_aload_n hx hb dX5_proves_288 rfl (lv_at hl 0 rfl) ?_
      refine lv_aload_n hx hb dX5_proves_289 rfl (lv_at hl 2 rfl) ?_
      replace h := o_b h; obtain ⟨_, k290, h⟩ := h
      replace h := o_b h; obtain ⟨q290, h290, h⟩ := h
      refine m_call (va_runV (As := [.ref v3]) (rest := []) ⟨hx, hb, hml, hown, hts⟩ (c_X5_nextTrial l D b0 sz h290) (cwV 1 hts gX5_proves_X5_nextTrial rfl rfl rfl (by decide +kernel) ⟨(by show 1 + 1 ≤ dd + 1 + 4; omega), (by show 8 + (3 + 11) + (23) ≤ (dd + 1) * 30 + 100; omega)⟩) ⟨PW.blind, m_recv (ci := 5) rfl hK hM k290, (fun U hU hW => ⟨rfl, PW.call hK hM hS hU hW⟩)⟩ rfl rfl hl.1 rfl (lv_room (Nat.le_of_ble_eq_true rfl)) dX5_proves_290 ⟨(Nat.le_refl _), (Nat.le_refl _)⟩) hS (fun H locs hM hS => ?_)
      refine lv_istore (lv' := [(6, .int q290), (0, .ref v0), (1, .int v1), (3, .ref v3), (4, .ref v4), (5, .int v5), (7, .int v7), (8, .int v8), (10, .int v10)]) hx hb dX5_proves_293 hl (by decide) rfl (fun ls hl => ?_)
      exact w_X5_proves_295 C0 hrc hk103 _ _ _ _ _ _ _ _ h _ _ _ hM hS (lv_sub hl [1, 2, 3, 4, 5, 0, 6] rfl)
    replace h := o_f c249 h
    refine lv_aload_n hx hb dX5_proves_252 rfl (lv_at hl 2 rfl) ?_
    replace h := o_b h; obtain ⟨x253, h253, h⟩ := h
    refine m_get (C := RX2) (T := TX2) (N := 5) (ci := 2) hx hb hts qi_X5_proves_X2 hown hK.1 hM 3 (ldR_F h253) rfl (by decide) (hts _ q_X5_proves_4) (fun _ h9 => h9) dX5_proves_253 ?_
    refine lv_aload hx hb dX5_proves_256 (lv_at hl 3 rfl) ?_
    replace h := o_b h; obtain ⟨x258, h258, h⟩ := h
    refine m_get (C := RX2) (T := TX2) (N := 5) (ci := 2) hx hb hts qi_X5_proves_X2 hown hK.1 hM 3 (ldR_F h258) rfl (by decide) (hts _ q_X5_proves_4) (fun _ h9 => h9) dX5_proves_258 ?_
    replace h := o_b h; obtain ⟨_, k261, h⟩ := h
    replace h := o_b h; obtain ⟨q261, h261, h⟩ := h
    refine m_call (va_runV (As := [.ref x258]) (rest := []) ⟨hx, hb, hml, hown, hts⟩ (c_X3_takeFrom l D b0 sz h261) (cwV 1 hts gX5_proves_X3_takeFrom rfl rfl rfl (by decide +kernel) ⟨(by show 0 + 1 ≤ dd + 1 + 4; omega), (by show 8 + (2 + 11) + (0) ≤ (dd + 1) * 30 + 100; omega)⟩) ⟨PW.blind, m_recv (ci := 3) rfl hK hM k261, (fun U hU hW => ⟨rfl, PW.call hK hM hS hU hW⟩)⟩ rfl rfl hl.1 rfl (lv_room (Nat.le_of_ble_eq_true rfl)) dX5_proves_261 ⟨(Nat.le_refl _), (Nat.le_refl _)⟩) hS (fun H locs hM hS => ?_)
    refine lv_iconst (v := (0 : Int32)) hx hb dX5_proves_264 (by decide) ?_
    replace h := Option.some.inj h; subst h
    exact W.zret hx hb hr rfl (fun t ht hW => ⟨rfl, by rw [ht]; exact hM.moved hW.alike, hS.F ht⟩) hS.2.2 dX5_proves_265
  replace h := o_f c215 h
  refine lv_aload_n hx hb dX5_proves_218 rfl (lv_at hl 0 rfl) ?_
  refine lv_aload_n hx hb dX5_proves_219 rfl (lv_at hl 2 rfl) ?_
  refine lv_iload hx hb dX5_proves_220 (lv_at hl 7 rfl) ?_
  refine lv_if_eq (tgt := 230) hx hb dX5_proves_222 (by decide) (fun c222 => ?_) (fun c222 => ?_)
  · replace h := o_t c222 h
    refine lv_iload hx hb dX5_proves_230 (lv_at hl 5 rfl) ?_
    exact w_X5_proves_232 C0 hrc hk103 _ _ _ _ _ _ _ _ _ _ h _ _ _ hM hS (lv_sub hl [0, 1, 2, 3, 4, 6] rfl)
  replace h := o_f c222 h
  refine lv_iload hx hb dX5_proves_225 (lv_at hl 8 rfl) ?_
  refine lv_goto (tgt := 232) hx hb dX5_proves_227 (by decide) ?_
  exact w_X5_proves_232 C0 hrc hk103 _ _ _ _ _ _ _ _ _ _ h _ _ _ hM hS (lv_sub hl [0, 1, 2, 3, 4, 6] rfl)
set_option maxHeartbeats 4000000 in
set_option maxRecDepth 100000 in
theorem w_X5_proves_137 (C0 : CX cX5_proves 11 (some .boolean) wsX5_proves RX5 p s m args meth c D b0) {dd : Nat} {rc : Nat → Int32 → Int32 → mmF → Option (Int32 × mmF)} (hrc : ∀ (u0 : Nat) (u1 : Int32) (u2 : Int32) (f : mmF) (r : Int32 × mmF), rc u0 u1 u2 f = some r → Met l yX5_proves wsX5_proves ({ frames := dd + 4, cells := 0, slots := 0, locals := dd * 30 + 100 } : Room) (va_Pc [.ref u0, .int u1, .int u2] (PW D b0 f sz)) (QW D b0 (some (.int r.1)) r.2 sz) 0 0 (fun q => b0 ≤ q)) {k103 : Nat → Int32 → Nat → Nat → Int32 → Int32 → Int32 → mmF → Option (Int32 × mmF)} {res : Int32 × mmF} (hk103 : ∀ (v0 : Nat) (v1 : Int32) (v3 : Nat) (v4 : Nat) (v5 : Int32) (v6 : Int32) (v7 : Int32) (f : mmF), k103 v0 v1 v3 v4 v5 v6 v7 f = some res → ∀ (H : Heap) (locs : List Loc) (ls : Array Slot), MM vwCl D b0 f sz s H → mS b0 s H locs → lv_has ls 11 [(0, .ref v0), (1, .int v1), (3, .ref v3), (4, .ref v4), (5, .int v5), (6, .int v6), (7, .int v7)] → W p l e ({ frames := (dd + 1) + 4, cells := 0, slots := 0, locals := (dd + 1) * 30 + 100 } : Room) s m args below meth c H locs 0 0 (MQ below (QW D b0 (some (.int res.1)) res.2 sz) args s 0 0 (fun q => b0 ≤ q)) (F0 m 103 ls [])) : ∀ (v0 : Nat) (v1 : Int32) (v3 : Nat) (v4 : Nat) (v5 : Int32) (v6 : Int32) (v7 : Int32) (t0 : Int32) (f : mmF), f_X5_proves_137 rc k103 v0 v1 v3 v4 v5 v6 v7 t0 f = some res → ∀ (H : Heap) (locs : List Loc) (ls : Array Slot), MM vwCl D b0 f sz s H → mS b0 s H locs → lv_has ls 11 [(0, .ref v0), (1, .int v1), (3, .ref v3), (4, .ref v4), (5, .int v5), (6, .int v6), (7, .int v7)] → W p l e ({ frames := (dd + 1) + 4, cells := 0, slots := 0, locals := (dd + 1) * 30 + 100 } : Room) s m args below meth c H locs 0 0 (MQ below (QW D b0 (some (.int res.1)) res.2 sz) args s 0 0 (fun q => b0 ≤ q)) (F0 m 137 ls [.int t0]) := by
  obtain ⟨hx, hb, hr, hml, hown, hts, hlocks, hK⟩ := id C0
  intro v0 v1 v3 v4 v5 v6 v7 t0 f h H locs ls hM hS hl
  unfold f_X5_proves_137 at h
  refine lv_istore (lv' := [(8, .int t0), (0, .ref v0), (1, .int v1), (3, .ref v3), (4, .ref v4), (5, .int v5), (6, .int v6), (7, .int v7)]) hx hb dX5_proves_137 hl (by decide) rfl (fun ls hl => ?_)
  refine lv_aload_n hx hb dX5_proves_139 rfl (lv_at hl 1 rfl) ?_
  replace h := o_b h; obtain ⟨x140, h140, h⟩ := h
  refine m_get (C := RX5) (T := TX5) (N := 5) (ci := 5) hx hb hts qi_X5_proves_X5 hown hK.1 hM 1 (ldR_F h140) rfl (by decide) (hts _ q_X5_proves_6) (fun _ h9 => h9) dX5_proves_140 ?_
  replace h := o_b h; obtain ⟨x143, h143, h⟩ := h
  refine m_get (C := RX4) (T := TX4) (N := 8) (ci := 4) hx hb hts qi_X5_proves_X4 hown hK.1 hM 2 (ldR_F h143) rfl (by decide) (hts _ q_X5_proves_8) (fun _ h9 => h9) dX5_proves_143 ?_
  refine lv_iload hx hb dX5_proves_146 (lv_at hl 6 rfl) ?_
  replace h := o_b h; obtain ⟨q148, h148, h⟩ := h
  refine m_call (va_runSN (As := [.ref x143, .int v6]) (rest := []) ⟨hx, hb, hml, hown, hts⟩ (c_X9_at l D b0 sz h148) ⟨(va_cnB 2 hts gX5_proves_X9_at_n104 rfl rfl rfl (hK.2.1 (RX5, 104, yX9_at, "StageTruths") (by decide)) (hts _ q_X5_proves_9) (by decide +kernel) ⟨(by show 0 + 1 ≤ dd + 1 + 4; omega), (by show 8 + (2 + 11) + (0) ≤ (dd + 1) * 30 + 100; omega)⟩), (hts _ q_X5_proves_10), trivial⟩ ⟨PW.blind, (fun U hU hW => ⟨rfl, PW.call hK hM hS hU hW⟩)⟩ rfl rfl hl.1 rfl (lv_room (Nat.le_of_ble_eq_true rfl)) dX5_proves_148 ⟨(Nat.le_refl _), (Nat.le_refl _)⟩) hS (fun H locs hM hS => ?_)
  refine lv_istore (lv' := [(9, .int q148), (8, .int t0), (0, .ref v0), (1, .int v1), (3, .ref v3), (4, .ref v4), (5, .int v5), (6, .int v6), (7, .int v7)]) hx hb dX5_proves_151 hl (by decide) rfl (fun ls hl => ?_)
  refine lv_aload_n hx hb dX5_proves_153 rfl (lv_at hl 2 rfl) ?_
  replace h := o_b h; obtain ⟨x154, h154, h⟩ := h
  refine m_get (C := RX5) (T := TX5) (N := 5) (ci := 5) hx hb hts qi_X5_proves_X5 hown hK.1 hM 1 (ldR_F h154) rfl (by decide) (hts _ q_X5_proves_6) (fun _ h9 => h9) dX5_proves_154 ?_
  replace h := o_b h; obtain ⟨x157, h157, h⟩ := h
  refine m_get (C := RX4) (T := TX4) (N := 8) (ci := 4) hx hb hts qi_X5_proves_X4 hown hK.1 hM 3 (ldR_F h157) rfl (by decide) (hts _ q_X5_proves_11) (fun _ h9 => h9) dX5_proves_157 ?_
  refine lv_iload hx hb dX5_proves_160 (lv_at hl 7 rfl) ?_
  replace h := o_b h; obtain ⟨q162, h162, h⟩ := h
  refine m_call (va_runSN (As := [.ref x157, .int v6]) (rest := []) ⟨hx, hb, hml, hown, hts⟩ (c_X9_at l D b0 sz h162) ⟨(va_cnB 2 hts gX5_proves_X9_at_n104 rfl rfl rfl (hK.2.1 (RX5, 104, yX9_at, "StageTruths") (by decide)) (hts _ q_X5_proves_9) (by decide +kernel) ⟨(by show 0 + 1 ≤ dd + 1 + 4; omega), (by show 8 + (2 + 11) + (0) ≤ (dd + 1) * 30 + 100; omega)⟩), (hts _ q_X5_proves_10), trivial⟩ ⟨PW.blind, (fun U hU hW => ⟨rfl, PW.call hK hM hS hU hW⟩)⟩ rfl rfl hl.1 rfl (lv_room (Nat.le_of_ble_eq_true rfl)) dX5_proves_162 ⟨(Nat.le_refl _), (Nat.le_refl _)⟩) hS (fun H locs hM hS => ?_)
  refine lv_istore (lv' := [(10, .int q162), (9, .int q148), (8, .int t0), (0, .ref v0), (1, .int v1), (3, .ref v3), (4, .ref v4), (5, .int v5), (6, .int v6), (7, .int v7)]) hx hb dX5_proves_165 hl (by decide) rfl (fun ls hl => ?_)
  refine lv_aload hx hb dX5_proves_167 (lv_at hl 6 rfl) ?_
  replace h := o_b h; obtain ⟨x169, h169, h⟩ := h
  refine m_get (C := RX2) (T := TX2) (N := 5) (ci := 2) hx hb hts qi_X5_proves_X2 hown hK.1 hM 0 (ldR_F h169) rfl (by decide) (hts _ q_X5_proves_12) (fun _ h9 => h9) dX5_proves_169 ?_
  refine lv_aload_n hx hb dX5_proves_172 rfl (lv_at hl 5 rfl) ?_
  replace h := o_b h; obtain ⟨x173, h173, h⟩ := h
  refine m_get (C := RX2) (T := TX2) (N := 5) (ci := 2) hx hb hts qi_X5_proves_X2 hown hK.1 hM 0 (ldR_F h173) rfl (by decide) (hts _ q_X5_proves_12) (fun _ h9 => h9) dX5_proves_173 ?_
  replace h := o_b h; obtain ⟨_, k176, h⟩ := h
  replace h := o_b h; obtain ⟨q176, h176, h⟩ := h
  refine m_call (va_runV (As := [.ref x173]) (rest := []) ⟨hx, hb, hml, hown, hts⟩ (c_X3_takeFrom l D b0 sz h176) (cwV 1 hts gX5_proves_X3_takeFrom rfl rfl rfl (by decide +kernel) ⟨(by show 0 + 1 ≤ dd + 1 + 4; omega), (by show 8 + (2 + 11) + (0) ≤ (dd + 1) * 30 + 100; omega)⟩) ⟨PW.blind, m_recv (ci := 3) rfl hK hM k176, (fun U hU hW => ⟨rfl, PW.call hK hM hS hU hW⟩)⟩ rfl rfl hl.1 rfl (lv_room (Nat.le_of_ble_eq_true rfl)) dX5_proves_176 ⟨(Nat.le_refl _), (Nat.le_refl _)⟩) hS (fun H locs hM hS => ?_)
  refine lv_aload hx hb dX5_proves_179 (lv_at hl 6 rfl) ?_
  refine lv_aload_n hx hb dX5_proves_181 rfl (lv_at hl 5 rfl) ?_
  replace h := o_b h; obtain ⟨x182, h182, h⟩ := h
  refine m_get (C := RX2) (T := TX2) (N := 5) (ci := 2) hx hb hts qi_X5_proves_X2 hown hK.1 hM 4 (ldI_F h182) rfl (by decide) (hts _ q_X5_proves_13) (fun _ h9 => h9) dX5_proves_182 ?_
  replace h := o_b h; obtain ⟨f185, h185, h⟩ := h
  refine m_put (ty := .int) (C := RX2) (T := TX2) (N := 5) (ci := 2) hx hb hts qi_X5_proves_X2 tyX2 tyX2_ok nmX2 hown hK.1 hM hS 4 h185 rfl (by decide) (hts _ q_X5_proves_13) (fun _ h9 => h9) rfl (by decide +kernel) rfl rfl dX5_proves_185 (fun H locs hM hS => ?_)
  refine lv_aload_n hx hb dX5_proves_188 rfl (lv_at hl 3 rfl) ?_
  refine lv_aload hx hb dX5_proves_189 (lv_at hl 6 rfl) ?_
  refine lv_iload hx hb dX5_proves_191 (lv_at hl 1 rfl) ?_
  replace h := o_b h; obtain ⟨_, k193, h⟩ := h
  replace h := o_b h; obtain ⟨q193, h193, h⟩ := h
  refine m_call (va_runV (As := [.ref v4, .int q148]) (rest := []) ⟨hx, hb, hml, hown, hts⟩ (c_X5_assume l D b0 sz h193) (cwV 2 hts gX5_proves_X5_assume rfl rfl rfl (by decide +kernel) ⟨(by show 2 + 1 ≤ dd + 1 + 4; omega), (by show 8 + (3 + 11) + (42) ≤ (dd + 1) * 30 + 100; omega)⟩) ⟨PW.blind, m_recv (ci := 5) rfl hK hM k193, (fun U hU hW => ⟨rfl, PW.call hK hM hS hU hW⟩)⟩ rfl rfl hl.1 rfl (lv_room (Nat.le_of_ble_eq_true rfl)) dX5_proves_193 ⟨(Nat.le_refl _), (Nat.le_refl _)⟩) hS (fun H locs hM hS => ?_)
  refine lv_aload_n hx hb dX5_proves_196 rfl (lv_at hl 3 rfl) ?_
  refine lv_iload_n hx hb dX5_proves_197 rfl (lv_at hl 4 rfl) ?_
  refine lv_iconst (v := (1 : Int32)) hx hb dX5_proves_198 (by decide) ?_
  refine lv_iadd hx hb dX5_proves_199 ?_
  refine lv_iload hx hb dX5_proves_200 (lv_at hl 2 rfl) ?_
  refine lv_if_eq (tgt := 210) hx hb dX5_proves_202 (by decide) (fun c202 => ?_) (fun c202 => ?_)
  · replace h := o_t c202 h
    refine lv_iload hx hb dX5_proves_210 (lv_at hl 0 rfl) ?_
    exact w_X5_proves_212 C0 hrc hk103 _ _ _ _ _ _ _ _ _ _ _ _ _ h _ _ _ hM hS (lv_sub hl [3, 4, 5, 6, 7, 8, 9, 2, 0] rfl)
  replace h := o_f c202 h
  refine lv_iload hx hb dX5_proves_205 (lv_at hl 7 rfl) ?_
  refine lv_goto (tgt := 212) hx hb dX5_proves_207 (by decide) ?_
  exact w_X5_proves_212 C0 hrc hk103 _ _ _ _ _ _ _ _ _ _ _ _ _ h _ _ _ hM hS (lv_sub hl [3, 4, 5, 6, 7, 8, 9, 2, 0] rfl)
set_option maxHeartbeats 4000000 in
set_option maxRecDepth 100000 in
theorem w_X5_proves_103 (C0 : CX cX5_proves 11 (some .boolean) wsX5_proves RX5 p s m args meth c D b0) {dd : Nat} {rc : Nat → Int32 → Int32 → mmF → Option (Int32 × mmF)} (hrc : ∀ (u0 : Nat) (u1 : Int32) (u2 : Int32) (f : mmF) (r : Int32 × mmF), rc u0 u1 u2 f = some r → Met l yX5_proves wsX5_proves ({ frames := dd + 4, cells := 0, slots := 0, locals := dd * 30 + 100 } : Room) (va_Pc [.ref u0, .int u1, .int u2] (PW D b0 f sz)) (QW D b0 (some (.int r.1)) r.2 sz) 0 0 (fun q => b0 ≤ q)) {res : Int32 × mmF} : ∀ (n : Nat), ∀ (v0 : Nat) (v1 : Int32) (v3 : Nat) (v4 : Nat) (v5 : Int32) (v6 : Int32) (v7 : Int32) (f : mmF), f_X5_proves_103 rc n v0 v1 v3 v4 v5 v6 v7 f = some res → ∀ (H : Heap) (locs : List Loc) (ls : Array Slot), MM vwCl D b0 f sz s H → mS b0 s H locs → lv_has ls 11 [(0, .ref v0), (1, .int v1), (3, .ref v3), (4, .ref v4), (5, .int v5), (6, .int v6), (7, .int v7)] → W p l e ({ frames := (dd + 1) + 4, cells := 0, slots := 0, locals := (dd + 1) * 30 + 100 } : Room) s m args below meth c H locs 0 0 (MQ below (QW D b0 (some (.int res.1)) res.2 sz) args s 0 0 (fun q => b0 ≤ q)) (F0 m 103 ls []) := by
  obtain ⟨hx, hb, hr, hml, hown, hts, hlocks, hK⟩ := id C0
  intro n
  induction n with
  | zero =>
    intro v0 v1 v3 v4 v5 v6 v7 f h
    have h : (none : Option (Int32 × mmF)) = some res := h
    cases h
  | succ n ih =>
    intro v0 v1 v3 v4 v5 v6 v7 f h H locs ls hM hS hl
    rw [f_X5_proves_103] at h
    refine lv_iload hx hb dX5_proves_103 (lv_at hl 5 rfl) ?_
    refine lv_if_lt (tgt := 301) hx hb dX5_proves_105 (by decide) (fun c105 => ?_) (fun c105 => ?_)
    · replace h := o_t c105 h
      exact w_X5_proves_301 C0 hrc _ _ _ _ _ h _ _ _ hM hS (lv_sub hl [0, 2, 4, 5] rfl)
    replace h := o_f c105 h
    refine lv_iload hx hb dX5_proves_108 (lv_at hl 6 rfl) ?_
    refine lv_ldc (v := (1000000 : Int32)) hx hb hown (hts _ q_X5_proves_14) dX5_proves_110 ?_
    refine lv_icmp_ge (tgt := 301) hx hb dX5_proves_112 (by decide) (fun c112 => ?_) (fun c112 => ?_)
    · replace h := o_t c112 h
      exact w_X5_proves_301 C0 hrc _ _ _ _ _ h _ _ _ hM hS (lv_sub hl [0, 2, 4, 5] rfl)
    replace h := o_f c112 h
    refine lv_aload_n hx hb dX5_proves_115 rfl (lv_at hl 0 rfl) ?_
    replace h := o_b h; obtain ⟨x116, h116, h⟩ := h
    refine m_get (C := RX5) (T := TX5) (N := 5) (ci := 5) hx hb hts qi_X5_proves_X5 hown hK.1 hM 1 (ldR_F h116) rfl (by decide) (hts _ q_X5_proves_6) (fun _ h9 => h9) dX5_proves_116 ?_
    replace h := o_b h; obtain ⟨x119, h119, h⟩ := h
    refine m_get (C := RX4) (T := TX4) (N := 8) (ci := 4) hx hb hts qi_X5_proves_X4 hown hK.1 hM 1 (ldR_F h119) rfl (by decide) (hts _ q_X5_proves_15) (fun _ h9 => h9) dX5_proves_119 ?_
    refine lv_iload hx hb dX5_proves_122 (lv_at hl 5 rfl) ?_
    replace h := o_b h; obtain ⟨q124, h124, h⟩ := h
    refine m_call (va_runSN (As := [.ref x119, .int v6]) (rest := []) ⟨hx, hb, hml, hown, hts⟩ (c_X9_at l D b0 sz h124) ⟨(va_cnB 2 hts gX5_proves_X9_at_n104 rfl rfl rfl (hK.2.1 (RX5, 104, yX9_at, "StageTruths") (by decide)) (hts _ q_X5_proves_9) (by decide +kernel) ⟨(by show 0 + 1 ≤ dd + 1 + 4; omega), (by show 8 + (2 + 11) + (0) ≤ (dd + 1) * 30 + 100; omega)⟩), (hts _ q_X5_proves_10), trivial⟩ ⟨PW.blind, (fun U hU hW => ⟨rfl, PW.call hK hM hS hU hW⟩)⟩ rfl rfl hl.1 rfl (lv_room (Nat.le_of_ble_eq_true rfl)) dX5_proves_124 ⟨(Nat.le_refl _), (Nat.le_refl _)⟩) hS (fun H locs hM hS => ?_)
    refine lv_bipush (v := (8 : Int32)) hx hb dX5_proves_127 (by decide) ?_
    refine lv_icmp_ne (tgt := 136) hx hb dX5_proves_129 (by decide) (fun c129 => ?_) (fun c129 => ?_)
    · replace h := o_f c129 h
      refine lv_iconst (v := (0 : Int32)) hx hb dX5_proves_136 (by decide) ?_
      exact w_X5_proves_137 C0 hrc ih _ _ _ _ _ _ _ _ _ h _ _ _ hM hS (lv_sub hl [0, 1, 2, 3, 4, 5, 6] rfl)
    replace h := o_t c129 h
    refine lv_iconst (v := (1 : Int32)) hx hb dX5_proves_132 (by decide) ?_
    refine lv_goto (tgt := 137) hx hb dX5_proves_133 (by decide) ?_
    exact w_X5_proves_137 C0 hrc ih _ _ _ _ _ _ _ _ _ h _ _ _ hM hS (lv_sub hl [0, 1, 2, 3, 4, 5, 6] rfl)
set_option maxHeartbeats 4000000 in
set_option maxRecDepth 100000 in
theorem w_X5_proves (C0 : CX cX5_proves 11 (some .boolean) wsX5_proves RX5 p s m args meth c D b0) {dd : Nat} (hrc : ∀ (u0 : Nat) (u1 : Int32) (u2 : Int32) (f : mmF) (r : Int32 × mmF), f_X5_proves dd u0 u1 u2 f = some r → Met l yX5_proves wsX5_proves ({ frames := dd + 4, cells := 0, slots := 0, locals := dd * 30 + 100 } : Room) (va_Pc [.ref u0, .int u1, .int u2] (PW D b0 f sz)) (QW D b0 (some (.int r.1)) r.2 sz) 0 0 (fun q => b0 ≤ q)){v0 : Nat} {v1 : Int32} {v2 : Int32} {res : Int32 × mmF} (h : f_X5_proves (dd + 1) v0 v1 v2 f = some res) : ∀ (H : Heap) (locs : List Loc) (ls : Array Slot), MM vwCl D b0 f sz s H → mS b0 s H locs → lv_has ls 11 [(0, .ref v0), (1, .int v1), (2, .int v2)] → W p l e ({ frames := (dd + 1) + 4, cells := 0, slots := 0, locals := (dd + 1) * 30 + 100 } : Room) s m args below meth c H locs 0 0 (MQ below (QW D b0 (some (.int res.1)) res.2 sz) args s 0 0 (fun q => b0 ≤ q)) (F0 m 0 ls []) := by
  obtain ⟨hx, hb, hr, hml, hown, hts, hlocks, hK⟩ := id C0
  intro H locs ls hM hS hl
  rw [f_X5_proves] at h
  refine lv_iload_n hx hb dX5_proves_0 rfl (lv_at hl 1 rfl) ?_
  refine lv_if_lt (tgt := 13) hx hb dX5_proves_1 (by decide) (fun c1 => ?_) (fun c1 => ?_)
  · replace h := o_t c1 h
    refine lv_iconst (v := (0 : Int32)) hx hb dX5_proves_13 (by decide) ?_
    replace h := Option.some.inj h; subst h
    exact W.zret hx hb hr rfl (fun t ht hW => ⟨rfl, by rw [ht]; exact hM.moved hW.alike, hS.F ht⟩) hS.2.2 dX5_proves_14
  replace h := o_f c1 h
  refine lv_iload_n hx hb dX5_proves_4 rfl (lv_at hl 1 rfl) ?_
  refine lv_iconst (v := (1 : Int32)) hx hb dX5_proves_5 (by decide) ?_
  refine lv_iadd hx hb dX5_proves_6 ?_
  refine lv_sipush (v := (153 : Int32)) hx hb dX5_proves_7 (by decide) ?_
  refine lv_icmp_lt (tgt := 15) hx hb dX5_proves_10 (by decide) (fun c10 => ?_) (fun c10 => ?_)
  · replace h := o_t c10 h
    refine lv_aload_n hx hb dX5_proves_15 rfl (lv_at hl 0 rfl) ?_
    replace h := o_b h; obtain ⟨x16, h16, h⟩ := h
    refine m_get (C := RX5) (T := TX5) (N := 5) (ci := 5) hx hb hts qi_X5_proves_X5 hown hK.1 hM 2 (ldR_F h16) rfl (by decide) (hts _ q_X5_proves_16) (fun _ h9 => h9) dX5_proves_16 ?_
    refine lv_iload_n hx hb dX5_proves_19 rfl (lv_at hl 1 rfl) ?_
    replace h := o_b h; obtain ⟨x20, h20, h⟩ := h
    refine m_aldn 4 (by decide) rfl hx hb hK.1 hM h20 dX5_proves_20 ?_
    refine lv_astore_n (lv' := [(3, .ref x20), (0, .ref v0), (1, .int v1), (2, .int v2)]) hx hb dX5_proves_21 rfl hl (by decide) rfl (fun ls hl => ?_)
    refine lv_aload_n hx hb dX5_proves_22 rfl (lv_at hl 1 rfl) ?_
    replace h := o_b h; obtain ⟨x23, h23, h⟩ := h
    refine m_get (C := RX5) (T := TX5) (N := 5) (ci := 5) hx hb hts qi_X5_proves_X5 hown hK.1 hM 2 (ldR_F h23) rfl (by decide) (hts _ q_X5_proves_16) (fun _ h9 => h9) dX5_proves_23 ?_
    refine lv_iload_n hx hb dX5_proves_26 rfl (lv_at hl 2 rfl) ?_
    refine lv_iconst (v := (1 : Int32)) hx hb dX5_proves_27 (by decide) ?_
    refine lv_iadd hx hb dX5_proves_28 ?_
    replace h := o_b h; obtain ⟨x29, h29, h⟩ := h
    refine m_aldn 4 (by decide) rfl hx hb hK.1 hM h29 dX5_proves_29 ?_
    refine lv_astore (lv' := [(4, .ref x29), (3, .ref x20), (0, .ref v0), (1, .int v1), (2, .int v2)]) hx hb dX5_proves_30 hl (by decide) rfl (fun ls hl => ?_)
    refine lv_aload_n hx hb dX5_proves_32 rfl (lv_at hl 2 rfl) ?_
    refine lv_aload_n hx hb dX5_proves_33 rfl (lv_at hl 1 rfl) ?_
    refine lv_iload_n hx hb dX5_proves_34 rfl (lv_at hl 4 rfl) ?_
    replace h := o_b h; obtain ⟨_, k35, h⟩ := h
    replace h := o_b h; obtain ⟨q35, h35, h⟩ := h
    refine m_call (va_runV (As := [.ref x20, .int v2]) (rest := []) ⟨hx, hb, hml, hown, hts⟩ (c_X5_openGoal l D b0 sz h35) (cwV 2 hts gX5_proves_X5_openGoal rfl rfl rfl (by decide +kernel) ⟨(by show 3 + 1 ≤ dd + 1 + 4; omega), (by show 8 + (5 + 11) + (64) ≤ (dd + 1) * 30 + 100; omega)⟩) ⟨PW.blind, m_recv (ci := 5) rfl hK hM k35, (fun U hU hW => ⟨rfl, PW.call hK hM hS hU hW⟩)⟩ rfl rfl hl.1 rfl (lv_room (Nat.le_of_ble_eq_true rfl)) dX5_proves_35 ⟨(Nat.le_refl _), (Nat.le_refl _)⟩) hS (fun H locs hM hS => ?_)
    refine lv_istore (lv' := [(5, .int q35.1), (4, .ref x29), (3, .ref x20), (0, .ref v0), (1, .int v1), (2, .int v2)]) hx hb dX5_proves_38 hl (by decide) rfl (fun ls hl => ?_)
    refine lv_aload_n hx hb dX5_proves_40 rfl (lv_at hl 3 rfl) ?_
    refine lv_aload_n hx hb dX5_proves_41 rfl (lv_at hl 2 rfl) ?_
    refine lv_iload hx hb dX5_proves_42 (lv_at hl 0 rfl) ?_
    replace h := o_b h; obtain ⟨_, k44, h⟩ := h
    replace h := o_b h; obtain ⟨q44, h44, h⟩ := h
    refine m_call (va_runV (As := [.ref x20, .int q35.1]) (rest := []) ⟨hx, hb, hml, hown, hts⟩ (c_X5_meetsSingle l D b0 sz h44) (cwV 2 hts gX5_proves_X5_meetsSingle rfl rfl rfl (by decide +kernel) ⟨(by show 2 + 1 ≤ dd + 1 + 4; omega), (by show 8 + (6 + 11) + (42) ≤ (dd + 1) * 30 + 100; omega)⟩) ⟨PW.blind, m_recv (ci := 5) rfl hK hM k44, (fun U hU hW => ⟨rfl, PW.call hK hM hS hU hW⟩)⟩ rfl rfl hl.1 rfl (lv_room (Nat.le_of_ble_eq_true rfl)) dX5_proves_44 ⟨(Nat.le_refl _), (Nat.le_refl _)⟩) hS (fun H locs hM hS => ?_)
    refine lv_if_ne (tgt := 60) hx hb dX5_proves_47 (by decide) (fun c47 => ?_) (fun c47 => ?_)
    · replace h := o_f c47 h
      refine lv_iconst (v := (0 : Int32)) hx hb dX5_proves_60 (by decide) ?_
      replace h := Option.some.inj h; subst h
      exact W.zret hx hb hr rfl (fun t ht hW => ⟨rfl, by rw [ht]; exact hM.moved hW.alike, hS.F ht⟩) hS.2.2 dX5_proves_61
    replace h := o_t c47 h
    refine lv_aload_n hx hb dX5_proves_50 rfl (lv_at hl 3 rfl) ?_
    refine lv_aload_n hx hb dX5_proves_51 rfl (lv_at hl 2 rfl) ?_
    refine lv_iload hx hb dX5_proves_52 (lv_at hl 0 rfl) ?_
    replace h := o_b h; obtain ⟨_, k54, h⟩ := h
    replace h := o_b h; obtain ⟨q54, h54, h⟩ := h
    refine m_call (va_runV (As := [.ref x20, .int q35.1]) (rest := []) ⟨hx, hb, hml, hown, hts⟩ (c_X5_hasMet l D b0 sz h54) (cwV 2 hts gX5_proves_X5_hasMet rfl rfl rfl (by decide +kernel) ⟨(by show 1 + 1 ≤ dd + 1 + 4; omega), (by show 8 + (4 + 11) + (23) ≤ (dd + 1) * 30 + 100; omega)⟩) ⟨PW.blind, m_recv (ci := 5) rfl hK hM k54, (fun U hU hW => ⟨rfl, PW.call hK hM hS hU hW⟩)⟩ rfl rfl hl.1 rfl (lv_room (Nat.le_of_ble_eq_true rfl)) dX5_proves_54 ⟨(Nat.le_refl _), (Nat.le_refl _)⟩) hS (fun H locs hM hS => ?_)
    refine lv_if_eq (tgt := 62) hx hb dX5_proves_57 (by decide) (fun c57 => ?_) (fun c57 => ?_)
    · replace h := o_t c57 h
      refine lv_iload hx hb dX5_proves_62 (lv_at hl 0 rfl) ?_
      refine lv_iconst (v := (5 : Int32)) hx hb dX5_proves_64 (by decide) ?_
      refine lv_icmp_eq (tgt := 78) hx hb dX5_proves_65 (by decide) (fun c65 => ?_) (fun c65 => ?_)
      · replace h := o_t c65 h
        refine lv_iconst (v := (1 : Int32)) hx hb dX5_proves_78 (by decide) ?_
        replace h := Option.some.inj h; subst h
        exact W.zret hx hb hr rfl (fun t ht hW => ⟨rfl, by rw [ht]; exact hM.moved hW.alike, hS.F ht⟩) hS.2.2 dX5_proves_79
      replace h := o_f c65 h
      refine lv_aload_n hx hb dX5_proves_68 rfl (lv_at hl 3 rfl) ?_
      refine lv_aload_n hx hb dX5_proves_69 rfl (lv_at hl 2 rfl) ?_
      refine lv_iload hx hb dX5_proves_70 (lv_at hl 0 rfl) ?_
      replace h := o_b h; obtain ⟨_, k72, h⟩ := h
      replace h := o_b h; obtain ⟨q72, h72, h⟩ := h
      refine m_call (va_runV (As := [.ref x20, .int q35.1]) (rest := []) ⟨hx, hb, hml, hown, hts⟩ (c_X5_hasProved l D b0 sz h72) (cwV 2 hts gX5_proves_X5_hasProved rfl rfl rfl (by decide +kernel) ⟨(by show 1 + 1 ≤ dd + 1 + 4; omega), (by show 8 + (4 + 11) + (21) ≤ (dd + 1) * 30 + 100; omega)⟩) ⟨PW.blind, m_recv (ci := 5) rfl hK hM k72, (fun U hU hW => ⟨rfl, PW.call hK hM hS hU hW⟩)⟩ rfl rfl hl.1 rfl (lv_room (Nat.le_of_ble_eq_true rfl)) dX5_proves_72 ⟨(Nat.le_refl _), (Nat.le_refl _)⟩) hS (fun H locs hM hS => ?_)
      refine lv_if_eq (tgt := 80) hx hb dX5_proves_75 (by decide) (fun c75 => ?_) (fun c75 => ?_)
      · replace h := o_t c75 h
        refine lv_aload_n hx hb dX5_proves_80 rfl (lv_at hl 2 rfl) ?_
        replace h := o_b h; obtain ⟨x81, h81, h⟩ := h
        refine m_get (C := RX2) (T := TX2) (N := 5) (ci := 2) hx hb hts qi_X5_proves_X2 hown hK.1 hM 1 (ldR_F h81) rfl (by decide) (hts _ q_X5_proves_3) (fun _ h9 => h9) dX5_proves_81 ?_
        refine lv_aload_n hx hb dX5_proves_84 rfl (lv_at hl 2 rfl) ?_
        replace h := o_b h; obtain ⟨x85, h85, h⟩ := h
        refine m_get (C := RX2) (T := TX2) (N := 5) (ci := 2) hx hb hts qi_X5_proves_X2 hown hK.1 hM 0 (ldR_F h85) rfl (by decide) (hts _ q_X5_proves_12) (fun _ h9 => h9) dX5_proves_85 ?_
        replace h := o_b h; obtain ⟨_, k88, h⟩ := h
        replace h := o_b h; obtain ⟨q88, h88, h⟩ := h
        refine m_call (va_runV (As := [.ref x85]) (rest := []) ⟨hx, hb, hml, hown, hts⟩ (c_X3_takeFrom l D b0 sz h88) (cwV 1 hts gX5_proves_X3_takeFrom rfl rfl rfl (by decide +kernel) ⟨(by show 0 + 1 ≤ dd + 1 + 4; omega), (by show 8 + (2 + 11) + (0) ≤ (dd + 1) * 30 + 100; omega)⟩) ⟨PW.blind, m_recv (ci := 3) rfl hK hM k88, (fun U hU hW => ⟨rfl, PW.call hK hM hS hU hW⟩)⟩ rfl rfl hl.1 rfl (lv_room (Nat.le_of_ble_eq_true rfl)) dX5_proves_88 ⟨(Nat.le_refl _), (Nat.le_refl _)⟩) hS (fun H locs hM hS => ?_)
        refine lv_aload_n hx hb dX5_proves_91 rfl (lv_at hl 3 rfl) ?_
        refine lv_aload_n hx hb dX5_proves_92 rfl (lv_at hl 2 rfl) ?_
        refine lv_iload hx hb dX5_proves_93 (lv_at hl 0 rfl) ?_
        replace h := o_b h; obtain ⟨_, k95, h⟩ := h
        replace h := o_b h; obtain ⟨q95, h95, h⟩ := h
        refine m_call (va_runV (As := [.ref x20, .int q35.1]) (rest := []) ⟨hx, hb, hml, hown, hts⟩ (c_X5_firstTrial l D b0 sz h95) (cwV 2 hts gX5_proves_X5_firstTrial rfl rfl rfl (by decide +kernel) ⟨(by show 3 + 1 ≤ dd + 1 + 4; omega), (by show 8 + (5 + 11) + (76) ≤ (dd + 1) * 30 + 100; omega)⟩) ⟨PW.blind, m_recv (ci := 5) rfl hK hM k95, (fun U hU hW => ⟨rfl, PW.call hK hM hS hU hW⟩)⟩ rfl rfl hl.1 rfl (lv_room (Nat.le_of_ble_eq_true rfl)) dX5_proves_95 ⟨(Nat.le_refl _), (Nat.le_refl _)⟩) hS (fun H locs hM hS => ?_)
        refine lv_istore (lv' := [(6, .int q95.1), (5, .int q35.1), (4, .ref x29), (3, .ref x20), (0, .ref v0), (1, .int v1), (2, .int v2)]) hx hb dX5_proves_98 hl (by decide) rfl (fun ls hl => ?_)
        refine lv_iconst (v := (0 : Int32)) hx hb dX5_proves_100 (by decide) ?_
        refine lv_istore (lv' := [(7, .int (0 : Int32)), (6, .int q95.1), (5, .int q35.1), (4, .ref x29), (3, .ref x20), (0, .ref v0), (1, .int v1), (2, .int v2)]) hx hb dX5_proves_101 hl (by decide) rfl (fun ls hl => ?_)
        exact w_X5_proves_103 C0 hrc FU _ _ _ _ _ _ _ _ h _ _ _ hM hS (lv_sub hl [5, 6, 4, 3, 2, 1, 0] rfl)
      replace h := o_f c75 h
      refine lv_iconst (v := (1 : Int32)) hx hb dX5_proves_78 (by decide) ?_
      replace h := Option.some.inj h; subst h
      exact W.zret hx hb hr rfl (fun t ht hW => ⟨rfl, by rw [ht]; exact hM.moved hW.alike, hS.F ht⟩) hS.2.2 dX5_proves_79
    replace h := o_f c57 h
    refine lv_iconst (v := (0 : Int32)) hx hb dX5_proves_60 (by decide) ?_
    replace h := Option.some.inj h; subst h
    exact W.zret hx hb hr rfl (fun t ht hW => ⟨rfl, by rw [ht]; exact hM.moved hW.alike, hS.F ht⟩) hS.2.2 dX5_proves_61
  replace h := o_f c10 h
  refine lv_iconst (v := (0 : Int32)) hx hb dX5_proves_13 (by decide) ?_
  replace h := Option.some.inj h; subst h
  exact W.zret hx hb hr rfl (fun t ht hW => ⟨rfl, by rw [ht]; exact hM.moved hW.alike, hS.F ht⟩) hS.2.2 dX5_proves_14
set_option maxHeartbeats 4000000 in
set_option maxRecDepth 100000 in
theorem c_X5_proves_n (l : Launch) (D : mmD) (b0 sz : Nat) : ∀ (n : Nat) (v0 : Nat) (v1 : Int32) (v2 : Int32) (f : mmF) (res : Int32 × mmF), f_X5_proves n v0 v1 v2 f = some res → Met l yX5_proves wsX5_proves ({ frames := n + 4, cells := 0, slots := 0, locals := n * 30 + 100 } : Room) (va_Pc [.ref v0, .int v1, .int v2] (PW D b0 f sz)) (QW D b0 (some (.int res.1)) res.2 sz) 0 0 (fun q => b0 ≤ q) := by
  intro n
  induction n with
  | zero =>
    intro v0 v1 v2 f res h
    have h : (none : Option (Int32 × mmF)) = some res := h
    cases h
  | succ n ih =>
    intro v0 v1 v2 f res h
    refine Met.ofW (cc := cX5_proves) (maxL := 11) (ret := (some .boolean)) (by decide) rfl ?_
    intro p e s m args below meth c s₁ B hml hv
    obtain ⟨rfl, hM, hK⟩ := hv
    have hl := lv_entry ([.ref v0, .int v1, .int v2]) (n := 11) (Nat.le_of_ble_eq_true rfl)
    rw [lg_entry_eq]
    generalize (lg_sl ([.ref v0, .int v1, .int v2]) ++ List.replicate (11 - (lg_sl ([.ref v0, .int v1, .int v2])).length) Slot.unset).toArray = ls at hl ⊢
    have hl : lv_has ls 11 [(0, .ref v0), (1, .int v1), (2, .int v2)] := hl
    exact w_X5_proves ⟨B.exec, B.bytes, B.returns, hml, findClass_of_methodNamed B.named, atoms_spec (ws := wsX5_proves) B.pre, B.notSynchronized, hK⟩ ih h s.heap [] ls hM va_S.rf hl
theorem c_X5_proves (l : Launch) (D : mmD) (b0 sz : Nat) {v0 : Nat} {v1 : Int32} {v2 : Int32} {f : mmF} {res : Int32 × mmF} (h : f_X5_proves 160 v0 v1 v2 f = some res) : Met l yX5_proves wsX5_proves ({ frames := 160 + 4, cells := 0, slots := 0, locals := 160 * 30 + 100 } : Room) (va_Pc [.ref v0, .int v1, .int v2] (PW D b0 f sz)) (QW D b0 (some (.int res.1)) res.2 sz) 0 0 (fun q => b0 ≤ q) := c_X5_proves_n l D b0 sz 160 v0 v1 v2 f res h
end S_X5_proves
/-! X5_isFound -/
set_option maxRecDepth 20000 in
theorem qi_X5_isFound_X5 : ∀ w ∈ u_ws RX5 TX5 5, w ∈ wsX5_isFound := by decide +kernel
set_option maxRecDepth 20000 in
theorem q_X5_isFound_1 : Cond.fieldLink RX5 24 "StageTruths$Proof" "parts" "LStageTruths$Parts;" ∈ wsX5_isFound := by decide +kernel
set_option maxRecDepth 20000 in
theorem q_X5_isFound_2 : Cond.initialized RX9 ∈ wsX5_isFound := by decide +kernel
set_option maxRecDepth 20000 in
theorem q_X5_isFound_3 : Cond.static yX9_has ∈ wsX5_isFound := by decide +kernel
set_option maxRecDepth 20000 in
theorem q_X5_isFound_4 : Cond.fieldLink RX5 27 "StageTruths$Proof" "levels" "[LStageTruths$Level;" ∈ wsX5_isFound := by decide +kernel
set_option maxRecDepth 20000 in
theorem qi_X5_isFound_X2 : ∀ w ∈ u_ws RX2 TX2 5, w ∈ wsX5_isFound := by decide +kernel
set_option maxRecDepth 20000 in
theorem q_X5_isFound_6 : Cond.fieldLink RX5 45 "StageTruths$Level" "known" "LStageTruths$PartSet;" ∈ wsX5_isFound := by decide +kernel
set_option maxRecDepth 20000 in
theorem q_X5_isFound_7 : Cond.fieldLink RX5 55 "StageTruths$Level" "singles" "I" ∈ wsX5_isFound := by decide +kernel
noncomputable def f_X5_isFound_58 (k29 : Nat → Int32 → Int32 → Nat → Int32 → mmF → Option (Int32 × mmF))  (v0 : Nat) (v1 : Int32) (v2 : Int32) (v3 : Nat) (v4 : Int32) (f : mmF) : Option (Int32 × mmF) :=
  k29 v0 v1 v2 v3 (v4 + (1 : Int32)) f
noncomputable def f_X5_isFound_29   : Nat → Nat → Int32 → Int32 → Nat → Int32 → mmF → Option (Int32 × mmF)
  | 0, _, _, _, _, _, _ => none
  | n + 1, v0, v1, v2, v3, v4, f =>
    if (5 : Int32) ≤ v4 then
    ((ldR f v0 5 1).bind fun x67 =>
    (ckO f x67 4).bind fun _ =>
    (f_X4_whole x67 v2 f).bind fun q71 =>
    (f_X5_proves 160 v0 (0 : Int32) q71 f).bind fun q74 =>
    (rz q74.1).bind fun z77 =>
    some (z77, q74.2))
    else
    (f_X9_has v1 v4 f).bind fun q38 =>
    if q38 = 0 then
    (f_X5_isFound_58 (fun a0 a1 a2 a3 a4 a5 => f_X5_isFound_29 n a0 a1 a2 a3 a4 a5) v0 v1 v2 v3 v4 f)
    else
    (ldR f v0 5 1).bind fun x47 =>
    (ckO f x47 4).bind fun _ =>
    (f_X4_whole x47 v4 f).bind fun q52 =>
    (ckO f v0 5).bind fun _ =>
    (f_X5_assume v0 v3 q52 f).bind fun q55 =>
    f_X5_isFound_58 (fun a0 a1 a2 a3 a4 a5 => f_X5_isFound_29 n a0 a1 a2 a3 a4 a5) v0 v1 v2 v3 v4 q55
noncomputable def f_X5_isFound (v0 : Nat) (v1 : Int32) (v2 : Int32) (f : mmF) : Option (Int32 × mmF) :=
  (ldR f v0 5 2).bind fun x1 =>
  (ldN 4 f x1 (0 : Int32)).bind fun x5 =>
  (ldR f x5 2 0).bind fun x8 =>
  (ckO f x8 3).bind fun _ =>
  (f_X3_fill x8 (0 : Int32) f).bind fun q12 =>
  (stF q12 x5 2 4 (.int (-1 : Int32))).bind fun f17 =>
  (ckO f17 v0 5).bind fun _ =>
  (f_X5_assume v0 x5 (4 : Int32) f17).bind fun q23 =>
  f_X5_isFound_29 FU v0 v1 v2 x5 (0 : Int32) q23
section S_X5_isFound
variable {p : Program} {l : Launch} {e : Env} {s : State} {m : MethodId} {args : Array Value} {below : List Frame} {meth : Method} {c : Code} {D : mmD} {b0 sz : Nat} {f : mmF}
set_option maxHeartbeats 4000000 in
set_option maxRecDepth 100000 in
theorem w_X5_isFound_58 (C0 : CX cX5_isFound 5 (some .boolean) wsX5_isFound RX5 p s m args meth c D b0) {k29 : Nat → Int32 → Int32 → Nat → Int32 → mmF → Option (Int32 × mmF)} {res : Int32 × mmF} (hk29 : ∀ (v0 : Nat) (v1 : Int32) (v2 : Int32) (v3 : Nat) (v4 : Int32) (f : mmF), k29 v0 v1 v2 v3 v4 f = some res → ∀ (H : Heap) (locs : List Loc) (ls : Array Slot), MM vwCl D b0 f sz s H → mS b0 s H locs → lv_has ls 5 [(0, .ref v0), (1, .int v1), (2, .int v2), (3, .ref v3), (4, .int v4)] → W p l e ({ frames := 165, cells := 0, slots := 0, locals := 4930 } : Room) s m args below meth c H locs 0 0 (MQ below (QW D b0 (some (.int res.1)) res.2 sz) args s 0 0 (fun q => b0 ≤ q)) (F0 m 29 ls [])) : ∀ (v0 : Nat) (v1 : Int32) (v2 : Int32) (v3 : Nat) (v4 : Int32) (f : mmF), f_X5_isFound_58 k29 v0 v1 v2 v3 v4 f = some res → ∀ (H : Heap) (locs : List Loc) (ls : Array Slot), MM vwCl D b0 f sz s H → mS b0 s H locs → lv_has ls 5 [(0, .ref v0), (1, .int v1), (2, .int v2), (3, .ref v3), (4, .int v4)] → W p l e ({ frames := 165, cells := 0, slots := 0, locals := 4930 } : Room) s m args below meth c H locs 0 0 (MQ below (QW D b0 (some (.int res.1)) res.2 sz) args s 0 0 (fun q => b0 ≤ q)) (F0 m 58 ls []) := by
  obtain ⟨hx, hb, hr, hml, hown, hts, hlocks, hK⟩ := id C0
  intro v0 v1 v2 v3 v4 f h H locs ls hM hS hl
  unfold f_X5_isFound_58 at h
  refine lv_iinc (v := (v4 + (1 : Int32))) (lv' := [(4, .int (v4 + (1 : Int32))), (0, .ref v0), (1, .int v1), (2, .int v2), (3, .ref v3)]) hx hb dX5_isFound_58 hl (k := 4) rfl rfl (by decide) rfl (fun ls hl => ?_)
  refine lv_goto (tgt := 29) hx hb dX5_isFound_61 (by decide) ?_
  exact hk29 _ _ _ _ _ _ h _ _ _ hM hS (lv_sub hl [1, 2, 3, 4, 0] rfl)
set_option maxHeartbeats 4000000 in
set_option maxRecDepth 100000 in
theorem w_X5_isFound_29 (C0 : CX cX5_isFound 5 (some .boolean) wsX5_isFound RX5 p s m args meth c D b0) {res : Int32 × mmF} : ∀ (n : Nat), ∀ (v0 : Nat) (v1 : Int32) (v2 : Int32) (v3 : Nat) (v4 : Int32) (f : mmF), f_X5_isFound_29 n v0 v1 v2 v3 v4 f = some res → ∀ (H : Heap) (locs : List Loc) (ls : Array Slot), MM vwCl D b0 f sz s H → mS b0 s H locs → lv_has ls 5 [(0, .ref v0), (1, .int v1), (2, .int v2), (3, .ref v3), (4, .int v4)] → W p l e ({ frames := 165, cells := 0, slots := 0, locals := 4930 } : Room) s m args below meth c H locs 0 0 (MQ below (QW D b0 (some (.int res.1)) res.2 sz) args s 0 0 (fun q => b0 ≤ q)) (F0 m 29 ls []) := by
  obtain ⟨hx, hb, hr, hml, hown, hts, hlocks, hK⟩ := id C0
  intro n
  induction n with
  | zero =>
    intro v0 v1 v2 v3 v4 f h
    have h : (none : Option (Int32 × mmF)) = some res := h
    cases h
  | succ n ih =>
    intro v0 v1 v2 v3 v4 f h H locs ls hM hS hl
    rw [f_X5_isFound_29] at h
    refine lv_iload hx hb dX5_isFound_29 (lv_at hl 4 rfl) ?_
    refine lv_iconst (v := (5 : Int32)) hx hb dX5_isFound_31 (by decide) ?_
    refine lv_icmp_ge (tgt := 64) hx hb dX5_isFound_32 (by decide) (fun c32 => ?_) (fun c32 => ?_)
    · replace h := o_t c32 h
      refine lv_aload_n hx hb dX5_isFound_64 rfl (lv_at hl 0 rfl) ?_
      refine lv_iconst (v := (0 : Int32)) hx hb dX5_isFound_65 (by decide) ?_
      refine lv_aload_n hx hb dX5_isFound_66 rfl (lv_at hl 0 rfl) ?_
      replace h := o_b h; obtain ⟨x67, h67, h⟩ := h
      refine m_get (C := RX5) (T := TX5) (N := 5) (ci := 5) hx hb hts qi_X5_isFound_X5 hown hK.1 hM 1 (ldR_F h67) rfl (by decide) (hts _ q_X5_isFound_1) (fun _ h9 => h9) dX5_isFound_67 ?_
      refine lv_iload_n hx hb dX5_isFound_70 rfl (lv_at hl 2 rfl) ?_
      replace h := o_b h; obtain ⟨_, k71, h⟩ := h
      replace h := o_b h; obtain ⟨q71, h71, h⟩ := h
      refine m_call (va_runV (As := [.int v2]) (rest := [.int (0 : Int32), .ref v0]) ⟨hx, hb, hml, hown, hts⟩ (c_X4_whole l D b0 sz h71) (cwV 1 hts gX5_isFound_X4_whole rfl rfl rfl (by decide +kernel) ⟨Nat.le_of_ble_eq_true rfl, Nat.le_of_ble_eq_true rfl⟩) ⟨PW.blind, m_recv (ci := 4) rfl hK hM k71, (fun U hU hW => ⟨rfl, PW.call hK hM hS hU hW⟩)⟩ rfl rfl hl.1 rfl (lv_room (Nat.le_of_ble_eq_true rfl)) dX5_isFound_71 ⟨(Nat.le_refl _), (Nat.le_refl _)⟩) hS (fun H locs hM hS => ?_)
      replace h := o_b h; obtain ⟨q74, h74, h⟩ := h
      refine m_call (va_runS (As := [.ref v0, .int (0 : Int32), .int q71]) (rest := []) ⟨hx, hb, hml, hown, hts⟩ (c_X5_proves l D b0 sz h74) (va_cwS 3 hts gX5_isFound_X5_proves rfl rfl rfl (by decide +kernel) ⟨Nat.le_of_ble_eq_true rfl, Nat.le_of_ble_eq_true rfl⟩) ⟨PW.blind, (fun U hU hW => ⟨rfl, PW.call hK hM hS hU hW⟩)⟩ rfl rfl hl.1 rfl (lv_room (Nat.le_of_ble_eq_true rfl)) dX5_isFound_74 ⟨(Nat.le_refl _), (Nat.le_refl _)⟩) hS (fun H locs hM hS => ?_)
      replace h := o_b h; obtain ⟨z77, hz77, h⟩ := h
      obtain ⟨ez77, nz77⟩ := rz_at hz77
      subst ez77
      replace h := Option.some.inj h; subst h
      exact W.zret hx hb hr nz77 (fun t ht hW => ⟨rfl, by rw [ht]; exact hM.moved hW.alike, hS.F ht⟩) hS.2.2 dX5_isFound_77
    replace h := o_f c32 h
    refine lv_iload_n hx hb dX5_isFound_35 rfl (lv_at hl 1 rfl) ?_
    refine lv_iload hx hb dX5_isFound_36 (lv_at hl 4 rfl) ?_
    replace h := o_b h; obtain ⟨q38, h38, h⟩ := h
    refine m_call (va_runSN (As := [.int v1, .int v4]) (rest := []) ⟨hx, hb, hml, hown, hts⟩ (c_X9_has l D b0 sz h38) ⟨(va_cnB 2 hts gX5_isFound_X9_has_n63 rfl rfl rfl (hK.2.1 (RX5, 63, yX9_has, "StageTruths") (by decide)) (hts _ q_X5_isFound_2) (by decide +kernel) ⟨Nat.le_of_ble_eq_true rfl, Nat.le_of_ble_eq_true rfl⟩), (hts _ q_X5_isFound_3), trivial⟩ ⟨PW.blind, (fun U hU hW => ⟨rfl, PW.call hK hM hS hU hW⟩)⟩ rfl rfl hl.1 rfl (lv_room (Nat.le_of_ble_eq_true rfl)) dX5_isFound_38 ⟨(Nat.le_refl _), (Nat.le_refl _)⟩) hS (fun H locs hM hS => ?_)
    refine lv_if_eq (tgt := 58) hx hb dX5_isFound_41 (by decide) (fun c41 => ?_) (fun c41 => ?_)
    · replace h := o_t c41 h
      exact w_X5_isFound_58 C0 ih _ _ _ _ _ _ h _ _ _ hM hS (lv_sub hl [0, 1, 2, 3, 4] rfl)
    replace h := o_f c41 h
    refine lv_aload_n hx hb dX5_isFound_44 rfl (lv_at hl 0 rfl) ?_
    refine lv_aload_n hx hb dX5_isFound_45 rfl (lv_at hl 3 rfl) ?_
    refine lv_aload_n hx hb dX5_isFound_46 rfl (lv_at hl 0 rfl) ?_
    replace h := o_b h; obtain ⟨x47, h47, h⟩ := h
    refine m_get (C := RX5) (T := TX5) (N := 5) (ci := 5) hx hb hts qi_X5_isFound_X5 hown hK.1 hM 1 (ldR_F h47) rfl (by decide) (hts _ q_X5_isFound_1) (fun _ h9 => h9) dX5_isFound_47 ?_
    refine lv_iload hx hb dX5_isFound_50 (lv_at hl 4 rfl) ?_
    replace h := o_b h; obtain ⟨_, k52, h⟩ := h
    replace h := o_b h; obtain ⟨q52, h52, h⟩ := h
    refine m_call (va_runV (As := [.int v4]) (rest := [.ref v3, .ref v0]) ⟨hx, hb, hml, hown, hts⟩ (c_X4_whole l D b0 sz h52) (cwV 1 hts gX5_isFound_X4_whole rfl rfl rfl (by decide +kernel) ⟨Nat.le_of_ble_eq_true rfl, Nat.le_of_ble_eq_true rfl⟩) ⟨PW.blind, m_recv (ci := 4) rfl hK hM k52, (fun U hU hW => ⟨rfl, PW.call hK hM hS hU hW⟩)⟩ rfl rfl hl.1 rfl (lv_room (Nat.le_of_ble_eq_true rfl)) dX5_isFound_52 ⟨(Nat.le_refl _), (Nat.le_refl _)⟩) hS (fun H locs hM hS => ?_)
    replace h := o_b h; obtain ⟨_, k55, h⟩ := h
    replace h := o_b h; obtain ⟨q55, h55, h⟩ := h
    refine m_call (va_runV (As := [.ref v3, .int q52]) (rest := []) ⟨hx, hb, hml, hown, hts⟩ (c_X5_assume l D b0 sz h55) (cwV 2 hts gX5_isFound_X5_assume rfl rfl rfl (by decide +kernel) ⟨Nat.le_of_ble_eq_true rfl, Nat.le_of_ble_eq_true rfl⟩) ⟨PW.blind, m_recv (ci := 5) rfl hK hM k55, (fun U hU hW => ⟨rfl, PW.call hK hM hS hU hW⟩)⟩ rfl rfl hl.1 rfl (lv_room (Nat.le_of_ble_eq_true rfl)) dX5_isFound_55 ⟨(Nat.le_refl _), (Nat.le_refl _)⟩) hS (fun H locs hM hS => ?_)
    exact w_X5_isFound_58 C0 ih _ _ _ _ _ _ h _ _ _ hM hS (lv_sub hl [0, 1, 2, 3, 4] rfl)
set_option maxHeartbeats 4000000 in
set_option maxRecDepth 100000 in
theorem w_X5_isFound (C0 : CX cX5_isFound 5 (some .boolean) wsX5_isFound RX5 p s m args meth c D b0) {v0 : Nat} {v1 : Int32} {v2 : Int32} {res : Int32 × mmF} (h : f_X5_isFound v0 v1 v2 f = some res) : ∀ (H : Heap) (locs : List Loc) (ls : Array Slot), MM vwCl D b0 f sz s H → mS b0 s H locs → lv_has ls 5 [(0, .ref v0), (1, .int v1), (2, .int v2)] → W p l e ({ frames := 165, cells := 0, slots := 0, locals := 4930 } : Room) s m args below meth c H locs 0 0 (MQ below (QW D b0 (some (.int res.1)) res.2 sz) args s 0 0 (fun q => b0 ≤ q)) (F0 m 0 ls []) := by
  obtain ⟨hx, hb, hr, hml, hown, hts, hlocks, hK⟩ := id C0
  intro H locs ls hM hS hl
  unfold f_X5_isFound at h
  refine lv_aload_n hx hb dX5_isFound_0 rfl (lv_at hl 0 rfl) ?_
  replace h := o_b h; obtain ⟨x1, h1, h⟩ := h
  refine m_get (C := RX5) (T := TX5) (N := 5) (ci := 5) hx hb hts qi_X5_isFound_X5 hown hK.1 hM 2 (ldR_F h1) rfl (by decide) (hts _ q_X5_isFound_4) (fun _ h9 => h9) dX5_isFound_1 ?_
  refine lv_iconst (v := (0 : Int32)) hx hb dX5_isFound_4 (by decide) ?_
  replace h := o_b h; obtain ⟨x5, h5, h⟩ := h
  refine m_aldn 4 (by decide) rfl hx hb hK.1 hM h5 dX5_isFound_5 ?_
  refine lv_astore_n (lv' := [(3, .ref x5), (0, .ref v0), (1, .int v1), (2, .int v2)]) hx hb dX5_isFound_6 rfl hl (by decide) rfl (fun ls hl => ?_)
  refine lv_aload_n hx hb dX5_isFound_7 rfl (lv_at hl 0 rfl) ?_
  replace h := o_b h; obtain ⟨x8, h8, h⟩ := h
  refine m_get (C := RX2) (T := TX2) (N := 5) (ci := 2) hx hb hts qi_X5_isFound_X2 hown hK.1 hM 0 (ldR_F h8) rfl (by decide) (hts _ q_X5_isFound_6) (fun _ h9 => h9) dX5_isFound_8 ?_
  refine lv_iconst (v := (0 : Int32)) hx hb dX5_isFound_11 (by decide) ?_
  replace h := o_b h; obtain ⟨_, k12, h⟩ := h
  replace h := o_b h; obtain ⟨q12, h12, h⟩ := h
  refine m_call (va_runV (As := [.int (0 : Int32)]) (rest := []) ⟨hx, hb, hml, hown, hts⟩ (c_X3_fill l D b0 sz h12) (cwV 1 hts gX5_isFound_X3_fill rfl rfl rfl (by decide +kernel) ⟨Nat.le_of_ble_eq_true rfl, Nat.le_of_ble_eq_true rfl⟩) ⟨PW.blind, m_recv (ci := 3) rfl hK hM k12, (fun U hU hW => ⟨rfl, PW.call hK hM hS hU hW⟩)⟩ rfl rfl hl.1 rfl (lv_room (Nat.le_of_ble_eq_true rfl)) dX5_isFound_12 ⟨(Nat.le_refl _), (Nat.le_refl _)⟩) hS (fun H locs hM hS => ?_)
  refine lv_aload_n hx hb dX5_isFound_15 rfl (lv_at hl 0 rfl) ?_
  refine lv_iconst (v := (-1 : Int32)) hx hb dX5_isFound_16 (by decide) ?_
  replace h := o_b h; obtain ⟨f17, h17, h⟩ := h
  refine m_put (ty := .int) (C := RX2) (T := TX2) (N := 5) (ci := 2) hx hb hts qi_X5_isFound_X2 tyX2 tyX2_ok nmX2 hown hK.1 hM hS 4 h17 rfl (by decide) (hts _ q_X5_isFound_7) (fun _ h9 => h9) rfl (by decide +kernel) rfl rfl dX5_isFound_17 (fun H locs hM hS => ?_)
  refine lv_aload_n hx hb dX5_isFound_20 rfl (lv_at hl 1 rfl) ?_
  refine lv_aload_n hx hb dX5_isFound_21 rfl (lv_at hl 0 rfl) ?_
  refine lv_iconst (v := (4 : Int32)) hx hb dX5_isFound_22 (by decide) ?_
  replace h := o_b h; obtain ⟨_, k23, h⟩ := h
  replace h := o_b h; obtain ⟨q23, h23, h⟩ := h
  refine m_call (va_runV (As := [.ref x5, .int (4 : Int32)]) (rest := []) ⟨hx, hb, hml, hown, hts⟩ (c_X5_assume l D b0 sz h23) (cwV 2 hts gX5_isFound_X5_assume rfl rfl rfl (by decide +kernel) ⟨Nat.le_of_ble_eq_true rfl, Nat.le_of_ble_eq_true rfl⟩) ⟨PW.blind, m_recv (ci := 5) rfl hK hM k23, (fun U hU hW => ⟨rfl, PW.call hK hM hS hU hW⟩)⟩ rfl rfl hl.1 rfl (lv_room (Nat.le_of_ble_eq_true rfl)) dX5_isFound_23 ⟨(Nat.le_refl _), (Nat.le_refl _)⟩) hS (fun H locs hM hS => ?_)
  refine lv_iconst (v := (0 : Int32)) hx hb dX5_isFound_26 (by decide) ?_
  refine lv_istore (lv' := [(4, .int (0 : Int32)), (3, .ref x5), (0, .ref v0), (1, .int v1), (2, .int v2)]) hx hb dX5_isFound_27 hl (by decide) rfl (fun ls hl => ?_)
  exact w_X5_isFound_29 C0 FU _ _ _ _ _ _ h _ _ _ hM hS (lv_sub hl [2, 3, 4, 1, 0] rfl)
set_option maxHeartbeats 4000000 in
set_option maxRecDepth 100000 in
theorem c_X5_isFound (l : Launch) (D : mmD) (b0 sz : Nat) {v0 : Nat} {v1 : Int32} {v2 : Int32} {f : mmF} {res : Int32 × mmF} (h : f_X5_isFound v0 v1 v2 f = some res) : Met l yX5_isFound wsX5_isFound ({ frames := 165, cells := 0, slots := 0, locals := 4930 } : Room) (va_Pc [.ref v0, .int v1, .int v2] (PW D b0 f sz)) (QW D b0 (some (.int res.1)) res.2 sz) 0 0 (fun q => b0 ≤ q) := by
  refine Met.ofW (cc := cX5_isFound) (maxL := 5) (ret := (some .boolean)) (by decide) rfl ?_
  intro p e s m args below meth c s₁ B hml hv
  obtain ⟨rfl, hM, hK⟩ := hv
  have hl := lv_entry ([.ref v0, .int v1, .int v2]) (n := 5) (Nat.le_of_ble_eq_true rfl)
  rw [lg_entry_eq]
  generalize (lg_sl ([.ref v0, .int v1, .int v2]) ++ List.replicate (5 - (lg_sl ([.ref v0, .int v1, .int v2])).length) Slot.unset).toArray = ls at hl ⊢
  have hl : lv_has ls 5 [(0, .ref v0), (1, .int v1), (2, .int v2)] := hl
  exact w_X5_isFound ⟨B.exec, B.bytes, B.returns, hml, findClass_of_methodNamed B.named, atoms_spec (ws := wsX5_isFound) B.pre, B.notSynchronized, hK⟩ h s.heap [] ls hM va_S.rf hl
end S_X5_isFound
