/-! X5_doubt -/
set_option maxRecDepth 20000 in
theorem qi_X5_doubt_X5 : ∀ w ∈ u_ws RX5 TX5 10, w ∈ wsX5_doubt := by decide +kernel
set_option maxRecDepth 20000 in
theorem q_X5_doubt_1 : Cond.fieldLink RX5 24 "StageTruths$Proof" "parts" "LStageTruths$Parts;" ∈ wsX5_doubt := by decide +kernel
set_option maxRecDepth 20000 in
theorem qi_X5_doubt_X4 : ∀ w ∈ u_ws RX4 TX4 8, w ∈ wsX5_doubt := by decide +kernel
set_option maxRecDepth 20000 in
theorem q_X5_doubt_3 : Cond.fieldLink RX5 115 "StageTruths$Parts" "left" "[I" ∈ wsX5_doubt := by decide +kernel
set_option maxRecDepth 20000 in
theorem q_X5_doubt_4 : Cond.fieldLink RX5 118 "StageTruths$Parts" "right" "[I" ∈ wsX5_doubt := by decide +kernel
set_option maxRecDepth 20000 in
theorem q_X5_doubt_5 : Cond.fieldLink RX5 30 "StageTruths$Proof" "known" "LStageTruths$Known;" ∈ wsX5_doubt := by decide +kernel
set_option maxRecDepth 20000 in
theorem q_X5_doubt_6 : Cond.fieldLink RX5 47 "StageTruths$Proof" "doubted" "LStageTruths$PartSets;" ∈ wsX5_doubt := by decide +kernel
set_option maxRecDepth 20000 in
theorem q_X5_doubt_7 : Cond.fieldLink RX5 163 "StageTruths$Parts" "size" "I" ∈ wsX5_doubt := by decide +kernel
noncomputable def f_X5_doubt_171 (k28 : Nat → Int32 → Int32 → mmF → Option (mmF))  (v0 : Nat) (v1 : Int32) (v3 : Int32) (f : mmF) : Option (mmF) :=
  k28 v0 v1 (v3 + (-1 : Int32)) f
noncomputable def f_X5_doubt_28   : Nat → Nat → Int32 → Int32 → mmF → Option (mmF)
  | 0, _, _, _, _ => none
  | n + 1, v0, v1, v3, f =>
    if v3 < (6 : Int32) then
    (some (f))
    else
    (ldR f v0 5 1).bind fun x35 =>
    (ldR f x35 4 2).bind fun x38 =>
    (ldA 0 f x38 v3).bind fun x42 =>
    (ldR f v0 5 1).bind fun x46 =>
    (ldR f x46 4 3).bind fun x49 =>
    (ldA 0 f x49 v3).bind fun x53 =>
    (ldR f v0 5 2).bind fun x57 =>
    (ckO f x57 2).bind fun _ =>
    (f_X2_has x57 v3 f).bind fun q61 =>
    if q61 = 0 then
    ((ldR f v0 5 5).bind fun x104 =>
    (ckO f x104 3).bind fun _ =>
    (f_X3_has x104 v1 v3 f).bind fun q109 =>
    if q109 = 0 then
    (f_X5_doubt_171 (fun a0 a1 a2 a3 => f_X5_doubt_28 n a0 a1 a2 a3) v0 v1 v3 f)
    else
    (ldR f v0 5 1).bind fun x116 =>
    (ckO f x116 4).bind fun _ =>
    (f_X4_isIf x116 v3 f).bind fun q120 =>
    if q120 = 0 then
    ((ldR f v0 5 5).bind fun x127 =>
    (ckO f x127 3).bind fun _ =>
    (f_X3_add x127 v1 x42 f).bind fun q133 =>
    (ldR q133 v0 5 5).bind fun x137 =>
    (ckO q133 x137 3).bind fun _ =>
    (f_X3_add x137 v1 x53 q133).bind fun q143 =>
    f_X5_doubt_171 (fun a0 a1 a2 a3 => f_X5_doubt_28 n a0 a1 a2 a3) v0 v1 v3 q143)
    else
    (ldR f v0 5 2).bind fun x150 =>
    (ckO f x150 2).bind fun _ =>
    (f_X2_has x150 x42 f).bind fun q155 =>
    if q155 = 0 then
    (f_X5_doubt_171 (fun a0 a1 a2 a3 => f_X5_doubt_28 n a0 a1 a2 a3) v0 v1 v3 f)
    else
    (ldR f v0 5 5).bind fun x162 =>
    (ckO f x162 3).bind fun _ =>
    (f_X3_add x162 v1 x53 f).bind fun q168 =>
    f_X5_doubt_171 (fun a0 a1 a2 a3 => f_X5_doubt_28 n a0 a1 a2 a3) v0 v1 v3 q168)
    else
    (ldR f v0 5 1).bind fun x68 =>
    (ckO f x68 4).bind fun _ =>
    (f_X4_isIf x68 v3 f).bind fun q72 =>
    if q72 = 0 then
    (f_X5_doubt_171 (fun a0 a1 a2 a3 => f_X5_doubt_28 n a0 a1 a2 a3) v0 v1 v3 f)
    else
    (ldR f v0 5 2).bind fun x79 =>
    (ckO f x79 2).bind fun _ =>
    (f_X2_has x79 x53 f).bind fun q84 =>
    if q84 = 0 then
    ((ldR f v0 5 5).bind fun x91 =>
    (ckO f x91 3).bind fun _ =>
    (f_X3_add x91 v1 x42 f).bind fun q97 =>
    f_X5_doubt_171 (fun a0 a1 a2 a3 => f_X5_doubt_28 n a0 a1 a2 a3) v0 v1 v3 q97)
    else
    f_X5_doubt_171 (fun a0 a1 a2 a3 => f_X5_doubt_28 n a0 a1 a2 a3) v0 v1 v3 f
noncomputable def f_X5_doubt (v0 : Nat) (v1 : Int32) (v2 : Int32) (f : mmF) : Option (mmF) :=
  (ldR f v0 5 5).bind fun x1 =>
  (ckO f x1 3).bind fun _ =>
  (f_X3_fill x1 v1 (0 : Int32) f).bind fun q6 =>
  (ldR q6 v0 5 5).bind fun x10 =>
  (ckO q6 x10 3).bind fun _ =>
  (f_X3_add x10 v1 v2 q6).bind fun q15 =>
  (ldR q15 v0 5 1).bind fun x19 =>
  (ldI q15 x19 4 0).bind fun x22 =>
  f_X5_doubt_28 FU v0 v1 (x22 - (1 : Int32)) q15
section S_X5_doubt
variable {p : Program} {l : Launch} {e : Env} {s : State} {m : MethodId} {args : Array Value} {below : List Frame} {meth : Method} {c : Code} {D : mmD} {b0 sz : Nat} {f : mmF}
set_option maxHeartbeats 4000000 in
set_option maxRecDepth 100000 in
theorem w_X5_doubt_171 (C0 : CX cX5_doubt 6 none wsX5_doubt RX5 p s m args meth c D b0) {k28 : Nat → Int32 → Int32 → mmF → Option (mmF)} {res : mmF} (hk28 : ∀ (v0 : Nat) (v1 : Int32) (v3 : Int32) (f : mmF), k28 v0 v1 v3 f = some res → ∀ (H : Heap) (locs : List Loc) (ls : Array Slot), MM vwCl D b0 f sz s H → mS b0 s H locs → lv_has ls 6 [(0, .ref v0), (1, .int v1), (3, .int v3)] → W p l e ({ frames := 2, cells := 0, slots := 0, locals := 44 } : Room) s m args below meth c H locs 0 0 (MQ below (QW D b0 none res sz) args s 0 0 (fun q => b0 ≤ q)) (F0 m 28 ls [])) : ∀ (v0 : Nat) (v1 : Int32) (v3 : Int32) (f : mmF), f_X5_doubt_171 k28 v0 v1 v3 f = some res → ∀ (H : Heap) (locs : List Loc) (ls : Array Slot), MM vwCl D b0 f sz s H → mS b0 s H locs → lv_has ls 6 [(0, .ref v0), (1, .int v1), (3, .int v3)] → W p l e ({ frames := 2, cells := 0, slots := 0, locals := 44 } : Room) s m args below meth c H locs 0 0 (MQ below (QW D b0 none res sz) args s 0 0 (fun q => b0 ≤ q)) (F0 m 171 ls []) := by
  obtain ⟨hx, hb, hr, hml, hown, hts, hlocks, hK⟩ := id C0
  intro v0 v1 v3 f h H locs ls hM hS hl
  unfold f_X5_doubt_171 at h
  refine lv_iinc (v := (v3 + (-1 : Int32))) (lv' := [(3, .int (v3 + (-1 : Int32))), (0, .ref v0), (1, .int v1)]) hx hb dX5_doubt_171 hl (k := 2) rfl rfl (by decide) rfl (fun ls hl => ?_)
  refine lv_goto (tgt := 28) hx hb dX5_doubt_174 (by decide) ?_
  exact hk28 _ _ _ _ h _ _ _ hM hS (lv_sub hl [1, 2, 0] rfl)
set_option maxHeartbeats 4000000 in
set_option maxRecDepth 100000 in
theorem w_X5_doubt_28 (C0 : CX cX5_doubt 6 none wsX5_doubt RX5 p s m args meth c D b0) {res : mmF} : ∀ (n : Nat), ∀ (v0 : Nat) (v1 : Int32) (v3 : Int32) (f : mmF), f_X5_doubt_28 n v0 v1 v3 f = some res → ∀ (H : Heap) (locs : List Loc) (ls : Array Slot), MM vwCl D b0 f sz s H → mS b0 s H locs → lv_has ls 6 [(0, .ref v0), (1, .int v1), (3, .int v3)] → W p l e ({ frames := 2, cells := 0, slots := 0, locals := 44 } : Room) s m args below meth c H locs 0 0 (MQ below (QW D b0 none res sz) args s 0 0 (fun q => b0 ≤ q)) (F0 m 28 ls []) := by
  obtain ⟨hx, hb, hr, hml, hown, hts, hlocks, hK⟩ := id C0
  intro n
  induction n with
  | zero =>
    intro v0 v1 v3 f h
    have h : (none : Option (mmF)) = some res := h
    cases h
  | succ n ih =>
    intro v0 v1 v3 f h H locs ls hM hS hl
    rw [f_X5_doubt_28] at h
    refine lv_iload_n hx hb dX5_doubt_28 rfl (lv_at hl 2 rfl) ?_
    refine lv_bipush (v := (6 : Int32)) hx hb dX5_doubt_29 (by decide) ?_
    refine lv_icmp_lt (tgt := 177) hx hb dX5_doubt_31 (by decide) (fun c31 => ?_) (fun c31 => ?_)
    · replace h := o_t c31 h
      replace h := Option.some.inj h; subst h
      exact W.vret hx hb hr (fun t ht hW => ⟨rfl, by rw [ht]; exact hM.moved hW.alike, hS.F ht⟩) hS.2.2 dX5_doubt_177
    replace h := o_f c31 h
    refine lv_aload_n hx hb dX5_doubt_34 rfl (lv_at hl 0 rfl) ?_
    replace h := o_b h; obtain ⟨x35, h35, h⟩ := h
    refine m_get (C := RX5) (T := TX5) (N := 10) (ci := 5) hx hb hts qi_X5_doubt_X5 hown hK.1 hM 1 (ldR_F h35) rfl (by decide) (hts _ q_X5_doubt_1) (fun _ h9 => h9) dX5_doubt_35 ?_
    replace h := o_b h; obtain ⟨x38, h38, h⟩ := h
    refine m_get (C := RX4) (T := TX4) (N := 8) (ci := 4) hx hb hts qi_X5_doubt_X4 hown hK.1 hM 2 (ldR_F h38) rfl (by decide) (hts _ q_X5_doubt_3) (fun _ h9 => h9) dX5_doubt_38 ?_
    refine lv_iload_n hx hb dX5_doubt_41 rfl (lv_at hl 2 rfl) ?_
    replace h := o_b h; obtain ⟨x42, h42, h⟩ := h
    refine m_iald hx hb hK.1 hM hS rfl h42 dX5_doubt_42 ?_
    refine lv_istore (lv' := [(4, .int x42), (0, .ref v0), (1, .int v1), (3, .int v3)]) hx hb dX5_doubt_43 hl (by decide) rfl (fun ls hl => ?_)
    refine lv_aload_n hx hb dX5_doubt_45 rfl (lv_at hl 1 rfl) ?_
    replace h := o_b h; obtain ⟨x46, h46, h⟩ := h
    refine m_get (C := RX5) (T := TX5) (N := 10) (ci := 5) hx hb hts qi_X5_doubt_X5 hown hK.1 hM 1 (ldR_F h46) rfl (by decide) (hts _ q_X5_doubt_1) (fun _ h9 => h9) dX5_doubt_46 ?_
    replace h := o_b h; obtain ⟨x49, h49, h⟩ := h
    refine m_get (C := RX4) (T := TX4) (N := 8) (ci := 4) hx hb hts qi_X5_doubt_X4 hown hK.1 hM 3 (ldR_F h49) rfl (by decide) (hts _ q_X5_doubt_4) (fun _ h9 => h9) dX5_doubt_49 ?_
    refine lv_iload_n hx hb dX5_doubt_52 rfl (lv_at hl 3 rfl) ?_
    replace h := o_b h; obtain ⟨x53, h53, h⟩ := h
    refine m_iald hx hb hK.1 hM hS rfl h53 dX5_doubt_53 ?_
    refine lv_istore (lv' := [(5, .int x53), (4, .int x42), (0, .ref v0), (1, .int v1), (3, .int v3)]) hx hb dX5_doubt_54 hl (by decide) rfl (fun ls hl => ?_)
    refine lv_aload_n hx hb dX5_doubt_56 rfl (lv_at hl 2 rfl) ?_
    replace h := o_b h; obtain ⟨x57, h57, h⟩ := h
    refine m_get (C := RX5) (T := TX5) (N := 10) (ci := 5) hx hb hts qi_X5_doubt_X5 hown hK.1 hM 2 (ldR_F h57) rfl (by decide) (hts _ q_X5_doubt_5) (fun _ h9 => h9) dX5_doubt_57 ?_
    refine lv_iload_n hx hb dX5_doubt_60 rfl (lv_at hl 4 rfl) ?_
    replace h := o_b h; obtain ⟨_, k61, h⟩ := h
    replace h := o_b h; obtain ⟨q61, h61, h⟩ := h
    refine m_call (va_runV (As := [.int v3]) (rest := []) ⟨hx, hb, hml, hown, hts⟩ (c_X2_has l D b0 sz h61) (cwV 1 hts gX5_doubt_X2_has rfl rfl rfl (by decide +kernel) ⟨Nat.le_of_ble_eq_true rfl, Nat.le_of_ble_eq_true rfl⟩) ⟨PW.blind, m_recv (ci := 2) rfl hK hM k61, (fun U hU hW => ⟨rfl, PW.call hK hM hS hU hW⟩)⟩ rfl rfl hl.1 rfl (lv_room (Nat.le_of_ble_eq_true rfl)) dX5_doubt_61 ⟨(Nat.le_refl _), (Nat.le_refl _)⟩) hS (fun H locs hM hS => ?_)
    refine lv_if_eq (tgt := 103) hx hb dX5_doubt_64 (by decide) (fun c64 => ?_) (fun c64 => ?_)
    · replace h := o_t c64 h
      refine lv_aload_n hx hb dX5_doubt_103 rfl (lv_at hl 2 rfl) ?_
      replace h := o_b h; obtain ⟨x104, h104, h⟩ := h
      refine m_get (C := RX5) (T := TX5) (N := 10) (ci := 5) hx hb hts qi_X5_doubt_X5 hown hK.1 hM 5 (ldR_F h104) rfl (by decide) (hts _ q_X5_doubt_6) (fun _ h9 => h9) dX5_doubt_104 ?_
      refine lv_iload_n hx hb dX5_doubt_107 rfl (lv_at hl 3 rfl) ?_
      refine lv_iload_n hx hb dX5_doubt_108 rfl (lv_at hl 4 rfl) ?_
      replace h := o_b h; obtain ⟨_, k109, h⟩ := h
      replace h := o_b h; obtain ⟨q109, h109, h⟩ := h
      refine m_call (va_runV (As := [.int v1, .int v3]) (rest := []) ⟨hx, hb, hml, hown, hts⟩ (c_X3_has l D b0 sz h109) (cwV 2 hts gX5_doubt_X3_has rfl rfl rfl (by decide +kernel) ⟨Nat.le_of_ble_eq_true rfl, Nat.le_of_ble_eq_true rfl⟩) ⟨PW.blind, m_recv (ci := 3) rfl hK hM k109, (fun U hU hW => ⟨rfl, PW.call hK hM hS hU hW⟩)⟩ rfl rfl hl.1 rfl (lv_room (Nat.le_of_ble_eq_true rfl)) dX5_doubt_109 ⟨(Nat.le_refl _), (Nat.le_refl _)⟩) hS (fun H locs hM hS => ?_)
      refine lv_if_eq (tgt := 171) hx hb dX5_doubt_112 (by decide) (fun c112 => ?_) (fun c112 => ?_)
      · replace h := o_t c112 h
        exact w_X5_doubt_171 C0 ih _ _ _ _ h _ _ _ hM hS (lv_sub hl [2, 3, 4] rfl)
      replace h := o_f c112 h
      refine lv_aload_n hx hb dX5_doubt_115 rfl (lv_at hl 2 rfl) ?_
      replace h := o_b h; obtain ⟨x116, h116, h⟩ := h
      refine m_get (C := RX5) (T := TX5) (N := 10) (ci := 5) hx hb hts qi_X5_doubt_X5 hown hK.1 hM 1 (ldR_F h116) rfl (by decide) (hts _ q_X5_doubt_1) (fun _ h9 => h9) dX5_doubt_116 ?_
      refine lv_iload_n hx hb dX5_doubt_119 rfl (lv_at hl 4 rfl) ?_
      replace h := o_b h; obtain ⟨_, k120, h⟩ := h
      replace h := o_b h; obtain ⟨q120, h120, h⟩ := h
      refine m_call (va_runV (As := [.int v3]) (rest := []) ⟨hx, hb, hml, hown, hts⟩ (c_X4_isIf l D b0 sz h120) (cwV 1 hts gX5_doubt_X4_isIf rfl rfl rfl (by decide +kernel) ⟨Nat.le_of_ble_eq_true rfl, Nat.le_of_ble_eq_true rfl⟩) ⟨PW.blind, m_recv (ci := 4) rfl hK hM k120, (fun U hU hW => ⟨rfl, PW.call hK hM hS hU hW⟩)⟩ rfl rfl hl.1 rfl (lv_room (Nat.le_of_ble_eq_true rfl)) dX5_doubt_120 ⟨(Nat.le_refl _), (Nat.le_refl _)⟩) hS (fun H locs hM hS => ?_)
      refine lv_if_ne (tgt := 149) hx hb dX5_doubt_123 (by decide) (fun c123 => ?_) (fun c123 => ?_)
      · replace h := o_f c123 h
        refine lv_aload_n hx hb dX5_doubt_149 rfl (lv_at hl 2 rfl) ?_
        replace h := o_b h; obtain ⟨x150, h150, h⟩ := h
        refine m_get (C := RX5) (T := TX5) (N := 10) (ci := 5) hx hb hts qi_X5_doubt_X5 hown hK.1 hM 2 (ldR_F h150) rfl (by decide) (hts _ q_X5_doubt_5) (fun _ h9 => h9) dX5_doubt_150 ?_
        refine lv_iload hx hb dX5_doubt_153 (lv_at hl 1 rfl) ?_
        replace h := o_b h; obtain ⟨_, k155, h⟩ := h
        replace h := o_b h; obtain ⟨q155, h155, h⟩ := h
        refine m_call (va_runV (As := [.int x42]) (rest := []) ⟨hx, hb, hml, hown, hts⟩ (c_X2_has l D b0 sz h155) (cwV 1 hts gX5_doubt_X2_has rfl rfl rfl (by decide +kernel) ⟨Nat.le_of_ble_eq_true rfl, Nat.le_of_ble_eq_true rfl⟩) ⟨PW.blind, m_recv (ci := 2) rfl hK hM k155, (fun U hU hW => ⟨rfl, PW.call hK hM hS hU hW⟩)⟩ rfl rfl hl.1 rfl (lv_room (Nat.le_of_ble_eq_true rfl)) dX5_doubt_155 ⟨(Nat.le_refl _), (Nat.le_refl _)⟩) hS (fun H locs hM hS => ?_)
        refine lv_if_eq (tgt := 171) hx hb dX5_doubt_158 (by decide) (fun c158 => ?_) (fun c158 => ?_)
        · replace h := o_t c158 h
          exact w_X5_doubt_171 C0 ih _ _ _ _ h _ _ _ hM hS (lv_sub hl [2, 3, 4] rfl)
        replace h := o_f c158 h
        refine lv_aload_n hx hb dX5_doubt_161 rfl (lv_at hl 2 rfl) ?_
        replace h := o_b h; obtain ⟨x162, h162, h⟩ := h
        refine m_get (C := RX5) (T := TX5) (N := 10) (ci := 5) hx hb hts qi_X5_doubt_X5 hown hK.1 hM 5 (ldR_F h162) rfl (by decide) (hts _ q_X5_doubt_6) (fun _ h9 => h9) dX5_doubt_162 ?_
        refine lv_iload_n hx hb dX5_doubt_165 rfl (lv_at hl 3 rfl) ?_
        refine lv_iload hx hb dX5_doubt_166 (lv_at hl 0 rfl) ?_
        replace h := o_b h; obtain ⟨_, k168, h⟩ := h
        replace h := o_b h; obtain ⟨q168, h168, h⟩ := h
        refine m_call (va_runV (As := [.int v1, .int x53]) (rest := []) ⟨hx, hb, hml, hown, hts⟩ (c_X3_add l D b0 sz h168) (cwV 2 hts gX5_doubt_X3_add rfl rfl rfl (by decide +kernel) ⟨Nat.le_of_ble_eq_true rfl, Nat.le_of_ble_eq_true rfl⟩) ⟨PW.blind, m_recv (ci := 3) rfl hK hM k168, (fun U hU hW => ⟨rfl, PW.call hK hM hS hU hW⟩)⟩ rfl rfl hl.1 rfl (lv_room (Nat.le_of_ble_eq_true rfl)) dX5_doubt_168 ⟨(Nat.le_refl _), (Nat.le_refl _)⟩) hS (fun H locs hM hS => ?_)
        exact w_X5_doubt_171 C0 ih _ _ _ _ h _ _ _ hM hS (lv_sub hl [2, 3, 4] rfl)
      replace h := o_t c123 h
      refine lv_aload_n hx hb dX5_doubt_126 rfl (lv_at hl 2 rfl) ?_
      replace h := o_b h; obtain ⟨x127, h127, h⟩ := h
      refine m_get (C := RX5) (T := TX5) (N := 10) (ci := 5) hx hb hts qi_X5_doubt_X5 hown hK.1 hM 5 (ldR_F h127) rfl (by decide) (hts _ q_X5_doubt_6) (fun _ h9 => h9) dX5_doubt_127 ?_
      refine lv_iload_n hx hb dX5_doubt_130 rfl (lv_at hl 3 rfl) ?_
      refine lv_iload hx hb dX5_doubt_131 (lv_at hl 1 rfl) ?_
      replace h := o_b h; obtain ⟨_, k133, h⟩ := h
      replace h := o_b h; obtain ⟨q133, h133, h⟩ := h
      refine m_call (va_runV (As := [.int v1, .int x42]) (rest := []) ⟨hx, hb, hml, hown, hts⟩ (c_X3_add l D b0 sz h133) (cwV 2 hts gX5_doubt_X3_add rfl rfl rfl (by decide +kernel) ⟨Nat.le_of_ble_eq_true rfl, Nat.le_of_ble_eq_true rfl⟩) ⟨PW.blind, m_recv (ci := 3) rfl hK hM k133, (fun U hU hW => ⟨rfl, PW.call hK hM hS hU hW⟩)⟩ rfl rfl hl.1 rfl (lv_room (Nat.le_of_ble_eq_true rfl)) dX5_doubt_133 ⟨(Nat.le_refl _), (Nat.le_refl _)⟩) hS (fun H locs hM hS => ?_)
      refine lv_aload_n hx hb dX5_doubt_136 rfl (lv_at hl 2 rfl) ?_
      replace h := o_b h; obtain ⟨x137, h137, h⟩ := h
      refine m_get (C := RX5) (T := TX5) (N := 10) (ci := 5) hx hb hts qi_X5_doubt_X5 hown hK.1 hM 5 (ldR_F h137) rfl (by decide) (hts _ q_X5_doubt_6) (fun _ h9 => h9) dX5_doubt_137 ?_
      refine lv_iload_n hx hb dX5_doubt_140 rfl (lv_at hl 3 rfl) ?_
      refine lv_iload hx hb dX5_doubt_141 (lv_at hl 0 rfl) ?_
      replace h := o_b h; obtain ⟨_, k143, h⟩ := h
      replace h := o_b h; obtain ⟨q143, h143, h⟩ := h
      refine m_call (va_runV (As := [.int v1, .int x53]) (rest := []) ⟨hx, hb, hml, hown, hts⟩ (c_X3_add l D b0 sz h143) (cwV 2 hts gX5_doubt_X3_add rfl rfl rfl (by decide +kernel) ⟨Nat.le_of_ble_eq_true rfl, Nat.le_of_ble_eq_true rfl⟩) ⟨PW.blind, m_recv (ci := 3) rfl hK hM k143, (fun U hU hW => ⟨rfl, PW.call hK hM hS hU hW⟩)⟩ rfl rfl hl.1 rfl (lv_room (Nat.le_of_ble_eq_true rfl)) dX5_doubt_143 ⟨(Nat.le_refl _), (Nat.le_refl _)⟩) hS (fun H locs hM hS => ?_)
      refine lv_goto (tgt := 171) hx hb dX5_doubt_146 (by decide) ?_
      exact w_X5_doubt_171 C0 ih _ _ _ _ h _ _ _ hM hS (lv_sub hl [2, 3, 4] rfl)
    replace h := o_f c64 h
    refine lv_aload_n hx hb dX5_doubt_67 rfl (lv_at hl 2 rfl) ?_
    replace h := o_b h; obtain ⟨x68, h68, h⟩ := h
    refine m_get (C := RX5) (T := TX5) (N := 10) (ci := 5) hx hb hts qi_X5_doubt_X5 hown hK.1 hM 1 (ldR_F h68) rfl (by decide) (hts _ q_X5_doubt_1) (fun _ h9 => h9) dX5_doubt_68 ?_
    refine lv_iload_n hx hb dX5_doubt_71 rfl (lv_at hl 4 rfl) ?_
    replace h := o_b h; obtain ⟨_, k72, h⟩ := h
    replace h := o_b h; obtain ⟨q72, h72, h⟩ := h
    refine m_call (va_runV (As := [.int v3]) (rest := []) ⟨hx, hb, hml, hown, hts⟩ (c_X4_isIf l D b0 sz h72) (cwV 1 hts gX5_doubt_X4_isIf rfl rfl rfl (by decide +kernel) ⟨Nat.le_of_ble_eq_true rfl, Nat.le_of_ble_eq_true rfl⟩) ⟨PW.blind, m_recv (ci := 4) rfl hK hM k72, (fun U hU hW => ⟨rfl, PW.call hK hM hS hU hW⟩)⟩ rfl rfl hl.1 rfl (lv_room (Nat.le_of_ble_eq_true rfl)) dX5_doubt_72 ⟨(Nat.le_refl _), (Nat.le_refl _)⟩) hS (fun H locs hM hS => ?_)
    refine lv_if_eq (tgt := 171) hx hb dX5_doubt_75 (by decide) (fun c75 => ?_) (fun c75 => ?_)
    · replace h := o_t c75 h
      exact w_X5_doubt_171 C0 ih _ _ _ _ h _ _ _ hM hS (lv_sub hl [2, 3, 4] rfl)
    replace h := o_f c75 h
    refine lv_aload_n hx hb dX5_doubt_78 rfl (lv_at hl 2 rfl) ?_
    replace h := o_b h; obtain ⟨x79, h79, h⟩ := h
    refine m_get (C := RX5) (T := TX5) (N := 10) (ci := 5) hx hb hts qi_X5_doubt_X5 hown hK.1 hM 2 (ldR_F h79) rfl (by decide) (hts _ q_X5_doubt_5) (fun _ h9 => h9) dX5_doubt_79 ?_
    refine lv_iload hx hb dX5_doubt_82 (lv_at hl 0 rfl) ?_
    replace h := o_b h; obtain ⟨_, k84, h⟩ := h
    replace h := o_b h; obtain ⟨q84, h84, h⟩ := h
    refine m_call (va_runV (As := [.int x53]) (rest := []) ⟨hx, hb, hml, hown, hts⟩ (c_X2_has l D b0 sz h84) (cwV 1 hts gX5_doubt_X2_has rfl rfl rfl (by decide +kernel) ⟨Nat.le_of_ble_eq_true rfl, Nat.le_of_ble_eq_true rfl⟩) ⟨PW.blind, m_recv (ci := 2) rfl hK hM k84, (fun U hU hW => ⟨rfl, PW.call hK hM hS hU hW⟩)⟩ rfl rfl hl.1 rfl (lv_room (Nat.le_of_ble_eq_true rfl)) dX5_doubt_84 ⟨(Nat.le_refl _), (Nat.le_refl _)⟩) hS (fun H locs hM hS => ?_)
    refine lv_if_ne (tgt := 171) hx hb dX5_doubt_87 (by decide) (fun c87 => ?_) (fun c87 => ?_)
    · replace h := o_f c87 h
      exact w_X5_doubt_171 C0 ih _ _ _ _ h _ _ _ hM hS (lv_sub hl [2, 3, 4] rfl)
    replace h := o_t c87 h
    refine lv_aload_n hx hb dX5_doubt_90 rfl (lv_at hl 2 rfl) ?_
    replace h := o_b h; obtain ⟨x91, h91, h⟩ := h
    refine m_get (C := RX5) (T := TX5) (N := 10) (ci := 5) hx hb hts qi_X5_doubt_X5 hown hK.1 hM 5 (ldR_F h91) rfl (by decide) (hts _ q_X5_doubt_6) (fun _ h9 => h9) dX5_doubt_91 ?_
    refine lv_iload_n hx hb dX5_doubt_94 rfl (lv_at hl 3 rfl) ?_
    refine lv_iload hx hb dX5_doubt_95 (lv_at hl 1 rfl) ?_
    replace h := o_b h; obtain ⟨_, k97, h⟩ := h
    replace h := o_b h; obtain ⟨q97, h97, h⟩ := h
    refine m_call (va_runV (As := [.int v1, .int x42]) (rest := []) ⟨hx, hb, hml, hown, hts⟩ (c_X3_add l D b0 sz h97) (cwV 2 hts gX5_doubt_X3_add rfl rfl rfl (by decide +kernel) ⟨Nat.le_of_ble_eq_true rfl, Nat.le_of_ble_eq_true rfl⟩) ⟨PW.blind, m_recv (ci := 3) rfl hK hM k97, (fun U hU hW => ⟨rfl, PW.call hK hM hS hU hW⟩)⟩ rfl rfl hl.1 rfl (lv_room (Nat.le_of_ble_eq_true rfl)) dX5_doubt_97 ⟨(Nat.le_refl _), (Nat.le_refl _)⟩) hS (fun H locs hM hS => ?_)
    refine lv_goto (tgt := 171) hx hb dX5_doubt_100 (by decide) ?_
    exact w_X5_doubt_171 C0 ih _ _ _ _ h _ _ _ hM hS (lv_sub hl [2, 3, 4] rfl)
set_option maxHeartbeats 4000000 in
set_option maxRecDepth 100000 in
theorem w_X5_doubt (C0 : CX cX5_doubt 6 none wsX5_doubt RX5 p s m args meth c D b0) {v0 : Nat} {v1 : Int32} {v2 : Int32} {res : mmF} (h : f_X5_doubt v0 v1 v2 f = some res) : ∀ (H : Heap) (locs : List Loc) (ls : Array Slot), MM vwCl D b0 f sz s H → mS b0 s H locs → lv_has ls 6 [(0, .ref v0), (1, .int v1), (2, .int v2)] → W p l e ({ frames := 2, cells := 0, slots := 0, locals := 44 } : Room) s m args below meth c H locs 0 0 (MQ below (QW D b0 none res sz) args s 0 0 (fun q => b0 ≤ q)) (F0 m 0 ls []) := by
  obtain ⟨hx, hb, hr, hml, hown, hts, hlocks, hK⟩ := id C0
  intro H locs ls hM hS hl
  unfold f_X5_doubt at h
  refine lv_aload_n hx hb dX5_doubt_0 rfl (lv_at hl 0 rfl) ?_
  replace h := o_b h; obtain ⟨x1, h1, h⟩ := h
  refine m_get (C := RX5) (T := TX5) (N := 10) (ci := 5) hx hb hts qi_X5_doubt_X5 hown hK.1 hM 5 (ldR_F h1) rfl (by decide) (hts _ q_X5_doubt_6) (fun _ h9 => h9) dX5_doubt_1 ?_
  refine lv_iload_n hx hb dX5_doubt_4 rfl (lv_at hl 1 rfl) ?_
  refine lv_iconst (v := (0 : Int32)) hx hb dX5_doubt_5 (by decide) ?_
  replace h := o_b h; obtain ⟨_, k6, h⟩ := h
  replace h := o_b h; obtain ⟨q6, h6, h⟩ := h
  refine m_call (va_runV (As := [.int v1, .int (0 : Int32)]) (rest := []) ⟨hx, hb, hml, hown, hts⟩ (c_X3_fill l D b0 sz h6) (cwV 2 hts gX5_doubt_X3_fill rfl rfl rfl (by decide +kernel) ⟨Nat.le_of_ble_eq_true rfl, Nat.le_of_ble_eq_true rfl⟩) ⟨PW.blind, m_recv (ci := 3) rfl hK hM k6, (fun U hU hW => ⟨rfl, PW.call hK hM hS hU hW⟩)⟩ rfl rfl hl.1 rfl (lv_room (Nat.le_of_ble_eq_true rfl)) dX5_doubt_6 ⟨(Nat.le_refl _), (Nat.le_refl _)⟩) hS (fun H locs hM hS => ?_)
  refine lv_aload_n hx hb dX5_doubt_9 rfl (lv_at hl 0 rfl) ?_
  replace h := o_b h; obtain ⟨x10, h10, h⟩ := h
  refine m_get (C := RX5) (T := TX5) (N := 10) (ci := 5) hx hb hts qi_X5_doubt_X5 hown hK.1 hM 5 (ldR_F h10) rfl (by decide) (hts _ q_X5_doubt_6) (fun _ h9 => h9) dX5_doubt_10 ?_
  refine lv_iload_n hx hb dX5_doubt_13 rfl (lv_at hl 1 rfl) ?_
  refine lv_iload_n hx hb dX5_doubt_14 rfl (lv_at hl 2 rfl) ?_
  replace h := o_b h; obtain ⟨_, k15, h⟩ := h
  replace h := o_b h; obtain ⟨q15, h15, h⟩ := h
  refine m_call (va_runV (As := [.int v1, .int v2]) (rest := []) ⟨hx, hb, hml, hown, hts⟩ (c_X3_add l D b0 sz h15) (cwV 2 hts gX5_doubt_X3_add rfl rfl rfl (by decide +kernel) ⟨Nat.le_of_ble_eq_true rfl, Nat.le_of_ble_eq_true rfl⟩) ⟨PW.blind, m_recv (ci := 3) rfl hK hM k15, (fun U hU hW => ⟨rfl, PW.call hK hM hS hU hW⟩)⟩ rfl rfl hl.1 rfl (lv_room (Nat.le_of_ble_eq_true rfl)) dX5_doubt_15 ⟨(Nat.le_refl _), (Nat.le_refl _)⟩) hS (fun H locs hM hS => ?_)
  refine lv_aload_n hx hb dX5_doubt_18 rfl (lv_at hl 0 rfl) ?_
  replace h := o_b h; obtain ⟨x19, h19, h⟩ := h
  refine m_get (C := RX5) (T := TX5) (N := 10) (ci := 5) hx hb hts qi_X5_doubt_X5 hown hK.1 hM 1 (ldR_F h19) rfl (by decide) (hts _ q_X5_doubt_1) (fun _ h9 => h9) dX5_doubt_19 ?_
  replace h := o_b h; obtain ⟨x22, h22, h⟩ := h
  refine m_get (C := RX4) (T := TX4) (N := 8) (ci := 4) hx hb hts qi_X5_doubt_X4 hown hK.1 hM 0 (ldI_F h22) rfl (by decide) (hts _ q_X5_doubt_7) (fun _ h9 => h9) dX5_doubt_22 ?_
  refine lv_iconst (v := (1 : Int32)) hx hb dX5_doubt_25 (by decide) ?_
  refine lv_isub hx hb dX5_doubt_26 ?_
  refine lv_istore_n (lv' := [(3, .int (x22 - (1 : Int32))), (0, .ref v0), (1, .int v1), (2, .int v2)]) hx hb dX5_doubt_27 rfl hl (by decide) rfl (fun ls hl => ?_)
  exact w_X5_doubt_28 C0 FU _ _ _ _ h _ _ _ hM hS (lv_sub hl [1, 2, 0] rfl)
set_option maxHeartbeats 4000000 in
set_option maxRecDepth 100000 in
theorem c_X5_doubt (l : Launch) (D : mmD) (b0 sz : Nat) {v0 : Nat} {v1 : Int32} {v2 : Int32} {f : mmF} {res : mmF} (h : f_X5_doubt v0 v1 v2 f = some res) : Met l yX5_doubt wsX5_doubt ({ frames := 2, cells := 0, slots := 0, locals := 44 } : Room) (va_Pc [.ref v0, .int v1, .int v2] (PW D b0 f sz)) (QW D b0 none res sz) 0 0 (fun q => b0 ≤ q) := by
  refine Met.ofW (cc := cX5_doubt) (maxL := 6) (ret := none) (by decide) rfl ?_
  intro p e s m args below meth c s₁ B hml hv
  obtain ⟨rfl, hM, hK⟩ := hv
  have hl := lv_entry ([.ref v0, .int v1, .int v2]) (n := 6) (Nat.le_of_ble_eq_true rfl)
  rw [lg_entry_eq]
  generalize (lg_sl ([.ref v0, .int v1, .int v2]) ++ List.replicate (6 - (lg_sl ([.ref v0, .int v1, .int v2])).length) Slot.unset).toArray = ls at hl ⊢
  have hl : lv_has ls 6 [(0, .ref v0), (1, .int v1), (2, .int v2)] := hl
  exact w_X5_doubt ⟨B.exec, B.bytes, B.returns, hml, findClass_of_methodNamed B.named, atoms_spec (ws := wsX5_doubt) B.pre, B.notSynchronized, hK⟩ h s.heap [] ls hM va_S.rf hl
end S_X5_doubt
/-! X5_nextTrial -/
set_option maxRecDepth 20000 in
theorem qi_X5_nextTrial_X5 : ∀ w ∈ u_ws RX5 TX5 10, w ∈ wsX5_nextTrial := by decide +kernel
set_option maxRecDepth 20000 in
theorem q_X5_nextTrial_1 : Cond.fieldLink RX5 47 "StageTruths$Proof" "doubted" "LStageTruths$PartSets;" ∈ wsX5_nextTrial := by decide +kernel
set_option maxRecDepth 20000 in
theorem q_X5_nextTrial_2 : Cond.fieldLink RX5 24 "StageTruths$Proof" "parts" "LStageTruths$Parts;" ∈ wsX5_nextTrial := by decide +kernel
set_option maxRecDepth 20000 in
theorem q_X5_nextTrial_3 : Cond.fieldLink RX5 30 "StageTruths$Proof" "known" "LStageTruths$Known;" ∈ wsX5_nextTrial := by decide +kernel
set_option maxRecDepth 20000 in
theorem qi_X5_nextTrial_X4 : ∀ w ∈ u_ws RX4 TX4 8, w ∈ wsX5_nextTrial := by decide +kernel
set_option maxRecDepth 20000 in
theorem q_X5_nextTrial_5 : Cond.fieldLink RX5 115 "StageTruths$Parts" "left" "[I" ∈ wsX5_nextTrial := by decide +kernel
set_option maxRecDepth 20000 in
theorem q_X5_nextTrial_6 : Cond.fieldLink RX5 163 "StageTruths$Parts" "size" "I" ∈ wsX5_nextTrial := by decide +kernel
noncomputable def f_X5_nextTrial_71 (k10 : Nat → Int32 → Int32 → Option (Int32)) (f : mmF) (v0 : Nat) (v1 : Int32) (v2 : Int32) : Option (Int32) :=
  k10 v0 v1 (v2 + (-1 : Int32))
noncomputable def f_X5_nextTrial_10  (f : mmF) : Nat → Nat → Int32 → Int32 → Option (Int32)
  | 0, _, _, _ => none
  | n + 1, v0, v1, v2 =>
    if v2 < (6 : Int32) then
    (some ((-2 : Int32)))
    else
    (ldR f v0 5 5).bind fun x17 =>
    (ckO f x17 3).bind fun _ =>
    (f_X3_has x17 v1 v2 f).bind fun q22 =>
    if q22 = 0 then
    (f_X5_nextTrial_71 (fun a0 a1 a2 => f_X5_nextTrial_10 f n a0 a1 a2) f v0 v1 v2)
    else
    (ldR f v0 5 1).bind fun x29 =>
    (ckO f x29 4).bind fun _ =>
    (f_X4_isIf x29 v2 f).bind fun q33 =>
    if q33 = 0 then
    (f_X5_nextTrial_71 (fun a0 a1 a2 => f_X5_nextTrial_10 f n a0 a1 a2) f v0 v1 v2)
    else
    (ldR f v0 5 2).bind fun x40 =>
    (ckO f x40 2).bind fun _ =>
    (f_X2_has x40 v2 f).bind fun q44 =>
    if q44 = 0 then
    ((ldR f v0 5 2).bind fun x51 =>
    (ldR f v0 5 1).bind fun x55 =>
    (ldR f x55 4 2).bind fun x58 =>
    (ldA 0 f x58 v2).bind fun x62 =>
    (ckO f x51 2).bind fun _ =>
    (f_X2_has x51 x62 f).bind fun q63 =>
    if q63 = 0 then
    (some (v2))
    else
    f_X5_nextTrial_71 (fun a0 a1 a2 => f_X5_nextTrial_10 f n a0 a1 a2) f v0 v1 v2)
    else
    f_X5_nextTrial_71 (fun a0 a1 a2 => f_X5_nextTrial_10 f n a0 a1 a2) f v0 v1 v2
noncomputable def f_X5_nextTrial (v0 : Nat) (v1 : Int32) (f : mmF) : Option (Int32) :=
  (ldR f v0 5 1).bind fun x1 =>
  (ldI f x1 4 0).bind fun x4 =>
  f_X5_nextTrial_10 f FU v0 v1 (x4 - (1 : Int32))
section S_X5_nextTrial
variable {p : Program} {l : Launch} {e : Env} {s : State} {m : MethodId} {args : Array Value} {below : List Frame} {meth : Method} {c : Code} {D : mmD} {b0 sz : Nat} {f : mmF}
set_option maxHeartbeats 4000000 in
set_option maxRecDepth 100000 in
theorem w_X5_nextTrial_71 (C0 : CX cX5_nextTrial 3 (some .int) wsX5_nextTrial RX5 p s m args meth c D b0) {k10 : Nat → Int32 → Int32 → Option (Int32)} {res : Int32} (hk10 : ∀ (v0 : Nat) (v1 : Int32) (v2 : Int32), k10 v0 v1 v2 = some res → ∀ (H : Heap) (locs : List Loc) (ls : Array Slot), MM vwCl D b0 f sz s H → mS b0 s H locs → lv_has ls 3 [(0, .ref v0), (1, .int v1), (2, .int v2)] → W p l e ({ frames := 2, cells := 0, slots := 0, locals := 44 } : Room) s m args below meth c H locs 0 0 (MQ below (QW D b0 (some (.int res)) f sz) args s 0 0 (fun q => b0 ≤ q)) (F0 m 10 ls [])) : ∀ (v0 : Nat) (v1 : Int32) (v2 : Int32), f_X5_nextTrial_71 k10 f v0 v1 v2 = some res → ∀ (H : Heap) (locs : List Loc) (ls : Array Slot), MM vwCl D b0 f sz s H → mS b0 s H locs → lv_has ls 3 [(0, .ref v0), (1, .int v1), (2, .int v2)] → W p l e ({ frames := 2, cells := 0, slots := 0, locals := 44 } : Room) s m args below meth c H locs 0 0 (MQ below (QW D b0 (some (.int res)) f sz) args s 0 0 (fun q => b0 ≤ q)) (F0 m 71 ls []) := by
  obtain ⟨hx, hb, hr, hml, hown, hts, hlocks, hK⟩ := id C0
  intro v0 v1 v2 h H locs ls hM hS hl
  unfold f_X5_nextTrial_71 at h
  refine lv_iinc (v := (v2 + (-1 : Int32))) (lv' := [(2, .int (v2 + (-1 : Int32))), (0, .ref v0), (1, .int v1)]) hx hb dX5_nextTrial_71 hl (k := 2) rfl rfl (by decide) rfl (fun ls hl => ?_)
  refine lv_goto (tgt := 10) hx hb dX5_nextTrial_74 (by decide) ?_
  exact hk10 _ _ _ h _ _ _ hM hS (lv_sub hl [1, 2, 0] rfl)
set_option maxHeartbeats 4000000 in
set_option maxRecDepth 100000 in
theorem w_X5_nextTrial_10 (C0 : CX cX5_nextTrial 3 (some .int) wsX5_nextTrial RX5 p s m args meth c D b0) {res : Int32} : ∀ (n : Nat), ∀ (v0 : Nat) (v1 : Int32) (v2 : Int32), f_X5_nextTrial_10 f n v0 v1 v2 = some res → ∀ (H : Heap) (locs : List Loc) (ls : Array Slot), MM vwCl D b0 f sz s H → mS b0 s H locs → lv_has ls 3 [(0, .ref v0), (1, .int v1), (2, .int v2)] → W p l e ({ frames := 2, cells := 0, slots := 0, locals := 44 } : Room) s m args below meth c H locs 0 0 (MQ below (QW D b0 (some (.int res)) f sz) args s 0 0 (fun q => b0 ≤ q)) (F0 m 10 ls []) := by
  obtain ⟨hx, hb, hr, hml, hown, hts, hlocks, hK⟩ := id C0
  intro n
  induction n with
  | zero =>
    intro v0 v1 v2 h
    have h : (none : Option (Int32)) = some res := h
    cases h
  | succ n ih =>
    intro v0 v1 v2 h H locs ls hM hS hl
    rw [f_X5_nextTrial_10] at h
    refine lv_iload_n hx hb dX5_nextTrial_10 rfl (lv_at hl 2 rfl) ?_
    refine lv_bipush (v := (6 : Int32)) hx hb dX5_nextTrial_11 (by decide) ?_
    refine lv_icmp_lt (tgt := 77) hx hb dX5_nextTrial_13 (by decide) (fun c13 => ?_) (fun c13 => ?_)
    · replace h := o_t c13 h
      refine lv_bipush (v := (-2 : Int32)) hx hb dX5_nextTrial_77 (by decide) ?_
      replace h := Option.some.inj h; subst h
      exact W.iret hx hb hr (fun t ht hW => ⟨rfl, by rw [ht]; exact hM.moved hW.alike, hS.F ht⟩) hS.2.2 dX5_nextTrial_79
    replace h := o_f c13 h
    refine lv_aload_n hx hb dX5_nextTrial_16 rfl (lv_at hl 0 rfl) ?_
    replace h := o_b h; obtain ⟨x17, h17, h⟩ := h
    refine m_get (C := RX5) (T := TX5) (N := 10) (ci := 5) hx hb hts qi_X5_nextTrial_X5 hown hK.1 hM 5 (ldR_F h17) rfl (by decide) (hts _ q_X5_nextTrial_1) (fun _ h9 => h9) dX5_nextTrial_17 ?_
    refine lv_iload_n hx hb dX5_nextTrial_20 rfl (lv_at hl 1 rfl) ?_
    refine lv_iload_n hx hb dX5_nextTrial_21 rfl (lv_at hl 2 rfl) ?_
    replace h := o_b h; obtain ⟨_, k22, h⟩ := h
    replace h := o_b h; obtain ⟨q22, h22, h⟩ := h
    refine m_call (va_runV (As := [.int v1, .int v2]) (rest := []) ⟨hx, hb, hml, hown, hts⟩ (c_X3_has l D b0 sz h22) (cwV 2 hts gX5_nextTrial_X3_has rfl rfl rfl (by decide +kernel) ⟨Nat.le_of_ble_eq_true rfl, Nat.le_of_ble_eq_true rfl⟩) ⟨PW.blind, m_recv (ci := 3) rfl hK hM k22, (fun U hU hW => ⟨rfl, PW.call hK hM hS hU hW⟩)⟩ rfl rfl hl.1 rfl (lv_room (Nat.le_of_ble_eq_true rfl)) dX5_nextTrial_22 ⟨(Nat.le_refl _), (Nat.le_refl _)⟩) hS (fun H locs hM hS => ?_)
    refine lv_if_eq (tgt := 71) hx hb dX5_nextTrial_25 (by decide) (fun c25 => ?_) (fun c25 => ?_)
    · replace h := o_t c25 h
      exact w_X5_nextTrial_71 C0 ih _ _ _ h _ _ _ hM hS (lv_sub hl [0, 1, 2] rfl)
    replace h := o_f c25 h
    refine lv_aload_n hx hb dX5_nextTrial_28 rfl (lv_at hl 0 rfl) ?_
    replace h := o_b h; obtain ⟨x29, h29, h⟩ := h
    refine m_get (C := RX5) (T := TX5) (N := 10) (ci := 5) hx hb hts qi_X5_nextTrial_X5 hown hK.1 hM 1 (ldR_F h29) rfl (by decide) (hts _ q_X5_nextTrial_2) (fun _ h9 => h9) dX5_nextTrial_29 ?_
    refine lv_iload_n hx hb dX5_nextTrial_32 rfl (lv_at hl 2 rfl) ?_
    replace h := o_b h; obtain ⟨_, k33, h⟩ := h
    replace h := o_b h; obtain ⟨q33, h33, h⟩ := h
    refine m_call (va_runV (As := [.int v2]) (rest := []) ⟨hx, hb, hml, hown, hts⟩ (c_X4_isIf l D b0 sz h33) (cwV 1 hts gX5_nextTrial_X4_isIf rfl rfl rfl (by decide +kernel) ⟨Nat.le_of_ble_eq_true rfl, Nat.le_of_ble_eq_true rfl⟩) ⟨PW.blind, m_recv (ci := 4) rfl hK hM k33, (fun U hU hW => ⟨rfl, PW.call hK hM hS hU hW⟩)⟩ rfl rfl hl.1 rfl (lv_room (Nat.le_of_ble_eq_true rfl)) dX5_nextTrial_33 ⟨(Nat.le_refl _), (Nat.le_refl _)⟩) hS (fun H locs hM hS => ?_)
    refine lv_if_eq (tgt := 71) hx hb dX5_nextTrial_36 (by decide) (fun c36 => ?_) (fun c36 => ?_)
    · replace h := o_t c36 h
      exact w_X5_nextTrial_71 C0 ih _ _ _ h _ _ _ hM hS (lv_sub hl [0, 1, 2] rfl)
    replace h := o_f c36 h
    refine lv_aload_n hx hb dX5_nextTrial_39 rfl (lv_at hl 0 rfl) ?_
    replace h := o_b h; obtain ⟨x40, h40, h⟩ := h
    refine m_get (C := RX5) (T := TX5) (N := 10) (ci := 5) hx hb hts qi_X5_nextTrial_X5 hown hK.1 hM 2 (ldR_F h40) rfl (by decide) (hts _ q_X5_nextTrial_3) (fun _ h9 => h9) dX5_nextTrial_40 ?_
    refine lv_iload_n hx hb dX5_nextTrial_43 rfl (lv_at hl 2 rfl) ?_
    replace h := o_b h; obtain ⟨_, k44, h⟩ := h
    replace h := o_b h; obtain ⟨q44, h44, h⟩ := h
    refine m_call (va_runV (As := [.int v2]) (rest := []) ⟨hx, hb, hml, hown, hts⟩ (c_X2_has l D b0 sz h44) (cwV 1 hts gX5_nextTrial_X2_has rfl rfl rfl (by decide +kernel) ⟨Nat.le_of_ble_eq_true rfl, Nat.le_of_ble_eq_true rfl⟩) ⟨PW.blind, m_recv (ci := 2) rfl hK hM k44, (fun U hU hW => ⟨rfl, PW.call hK hM hS hU hW⟩)⟩ rfl rfl hl.1 rfl (lv_room (Nat.le_of_ble_eq_true rfl)) dX5_nextTrial_44 ⟨(Nat.le_refl _), (Nat.le_refl _)⟩) hS (fun H locs hM hS => ?_)
    refine lv_if_ne (tgt := 71) hx hb dX5_nextTrial_47 (by decide) (fun c47 => ?_) (fun c47 => ?_)
    · replace h := o_f c47 h
      exact w_X5_nextTrial_71 C0 ih _ _ _ h _ _ _ hM hS (lv_sub hl [0, 1, 2] rfl)
    replace h := o_t c47 h
    refine lv_aload_n hx hb dX5_nextTrial_50 rfl (lv_at hl 0 rfl) ?_
    replace h := o_b h; obtain ⟨x51, h51, h⟩ := h
    refine m_get (C := RX5) (T := TX5) (N := 10) (ci := 5) hx hb hts qi_X5_nextTrial_X5 hown hK.1 hM 2 (ldR_F h51) rfl (by decide) (hts _ q_X5_nextTrial_3) (fun _ h9 => h9) dX5_nextTrial_51 ?_
    refine lv_aload_n hx hb dX5_nextTrial_54 rfl (lv_at hl 0 rfl) ?_
    replace h := o_b h; obtain ⟨x55, h55, h⟩ := h
    refine m_get (C := RX5) (T := TX5) (N := 10) (ci := 5) hx hb hts qi_X5_nextTrial_X5 hown hK.1 hM 1 (ldR_F h55) rfl (by decide) (hts _ q_X5_nextTrial_2) (fun _ h9 => h9) dX5_nextTrial_55 ?_
    replace h := o_b h; obtain ⟨x58, h58, h⟩ := h
    refine m_get (C := RX4) (T := TX4) (N := 8) (ci := 4) hx hb hts qi_X5_nextTrial_X4 hown hK.1 hM 2 (ldR_F h58) rfl (by decide) (hts _ q_X5_nextTrial_5) (fun _ h9 => h9) dX5_nextTrial_58 ?_
    refine lv_iload_n hx hb dX5_nextTrial_61 rfl (lv_at hl 2 rfl) ?_
    replace h := o_b h; obtain ⟨x62, h62, h⟩ := h
    refine m_iald hx hb hK.1 hM hS rfl h62 dX5_nextTrial_62 ?_
    replace h := o_b h; obtain ⟨_, k63, h⟩ := h
    replace h := o_b h; obtain ⟨q63, h63, h⟩ := h
    refine m_call (va_runV (As := [.int x62]) (rest := []) ⟨hx, hb, hml, hown, hts⟩ (c_X2_has l D b0 sz h63) (cwV 1 hts gX5_nextTrial_X2_has rfl rfl rfl (by decide +kernel) ⟨Nat.le_of_ble_eq_true rfl, Nat.le_of_ble_eq_true rfl⟩) ⟨PW.blind, m_recv (ci := 2) rfl hK hM k63, (fun U hU hW => ⟨rfl, PW.call hK hM hS hU hW⟩)⟩ rfl rfl hl.1 rfl (lv_room (Nat.le_of_ble_eq_true rfl)) dX5_nextTrial_63 ⟨(Nat.le_refl _), (Nat.le_refl _)⟩) hS (fun H locs hM hS => ?_)
    refine lv_if_ne (tgt := 71) hx hb dX5_nextTrial_66 (by decide) (fun c66 => ?_) (fun c66 => ?_)
    · replace h := o_f c66 h
      exact w_X5_nextTrial_71 C0 ih _ _ _ h _ _ _ hM hS (lv_sub hl [0, 1, 2] rfl)
    replace h := o_t c66 h
    refine lv_iload_n hx hb dX5_nextTrial_69 rfl (lv_at hl 2 rfl) ?_
    replace h := Option.some.inj h; subst h
    exact W.iret hx hb hr (fun t ht hW => ⟨rfl, by rw [ht]; exact hM.moved hW.alike, hS.F ht⟩) hS.2.2 dX5_nextTrial_70
set_option maxHeartbeats 4000000 in
set_option maxRecDepth 100000 in
theorem w_X5_nextTrial (C0 : CX cX5_nextTrial 3 (some .int) wsX5_nextTrial RX5 p s m args meth c D b0) {v0 : Nat} {v1 : Int32} {res : Int32} (h : f_X5_nextTrial v0 v1 f = some res) : ∀ (H : Heap) (locs : List Loc) (ls : Array Slot), MM vwCl D b0 f sz s H → mS b0 s H locs → lv_has ls 3 [(0, .ref v0), (1, .int v1)] → W p l e ({ frames := 2, cells := 0, slots := 0, locals := 44 } : Room) s m args below meth c H locs 0 0 (MQ below (QW D b0 (some (.int res)) f sz) args s 0 0 (fun q => b0 ≤ q)) (F0 m 0 ls []) := by
  obtain ⟨hx, hb, hr, hml, hown, hts, hlocks, hK⟩ := id C0
  intro H locs ls hM hS hl
  unfold f_X5_nextTrial at h
  refine lv_aload_n hx hb dX5_nextTrial_0 rfl (lv_at hl 0 rfl) ?_
  replace h := o_b h; obtain ⟨x1, h1, h⟩ := h
  refine m_get (C := RX5) (T := TX5) (N := 10) (ci := 5) hx hb hts qi_X5_nextTrial_X5 hown hK.1 hM 1 (ldR_F h1) rfl (by decide) (hts _ q_X5_nextTrial_2) (fun _ h9 => h9) dX5_nextTrial_1 ?_
  replace h := o_b h; obtain ⟨x4, h4, h⟩ := h
  refine m_get (C := RX4) (T := TX4) (N := 8) (ci := 4) hx hb hts qi_X5_nextTrial_X4 hown hK.1 hM 0 (ldI_F h4) rfl (by decide) (hts _ q_X5_nextTrial_6) (fun _ h9 => h9) dX5_nextTrial_4 ?_
  refine lv_iconst (v := (1 : Int32)) hx hb dX5_nextTrial_7 (by decide) ?_
  refine lv_isub hx hb dX5_nextTrial_8 ?_
  refine lv_istore_n (lv' := [(2, .int (x4 - (1 : Int32))), (0, .ref v0), (1, .int v1)]) hx hb dX5_nextTrial_9 rfl hl (by decide) rfl (fun ls hl => ?_)
  exact w_X5_nextTrial_10 C0 FU _ _ _ h _ _ _ hM hS (lv_sub hl [1, 2, 0] rfl)
set_option maxHeartbeats 4000000 in
set_option maxRecDepth 100000 in
theorem c_X5_nextTrial (l : Launch) (D : mmD) (b0 sz : Nat) {v0 : Nat} {v1 : Int32} {f : mmF} {res : Int32} (h : f_X5_nextTrial v0 v1 f = some res) : Met l yX5_nextTrial wsX5_nextTrial ({ frames := 2, cells := 0, slots := 0, locals := 44 } : Room) (va_Pc [.ref v0, .int v1] (PW D b0 f sz)) (QW D b0 (some (.int res)) f sz) 0 0 (fun q => b0 ≤ q) := by
  refine Met.ofW (cc := cX5_nextTrial) (maxL := 3) (ret := (some .int)) (by decide) rfl ?_
  intro p e s m args below meth c s₁ B hml hv
  obtain ⟨rfl, hM, hK⟩ := hv
  have hl := lv_entry ([.ref v0, .int v1]) (n := 3) (Nat.le_of_ble_eq_true rfl)
  rw [lg_entry_eq]
  generalize (lg_sl ([.ref v0, .int v1]) ++ List.replicate (3 - (lg_sl ([.ref v0, .int v1])).length) Slot.unset).toArray = ls at hl ⊢
  have hl : lv_has ls 3 [(0, .ref v0), (1, .int v1)] := hl
  exact w_X5_nextTrial ⟨B.exec, B.bytes, B.returns, hml, findClass_of_methodNamed B.named, atoms_spec (ws := wsX5_nextTrial) B.pre, B.notSynchronized, hK⟩ h s.heap [] ls hM va_S.rf hl
end S_X5_nextTrial
/-! X5_firstTrial -/
set_option maxRecDepth 20000 in
theorem qi_X5_firstTrial_X5 : ∀ w ∈ u_ws RX5 TX5 10, w ∈ wsX5_firstTrial := by decide +kernel
set_option maxRecDepth 20000 in
theorem q_X5_firstTrial_1 : Cond.fieldLink RX5 43 "StageTruths$Proof" "used" "LStageTruths$PartSets;" ∈ wsX5_firstTrial := by decide +kernel
set_option maxRecDepth 20000 in
theorem q_X5_firstTrial_2 : Cond.fieldLink RX5 30 "StageTruths$Proof" "known" "LStageTruths$Known;" ∈ wsX5_firstTrial := by decide +kernel
set_option maxRecDepth 20000 in
theorem q_X5_firstTrial_3 : Cond.fieldLink RX5 24 "StageTruths$Proof" "parts" "LStageTruths$Parts;" ∈ wsX5_firstTrial := by decide +kernel
set_option maxRecDepth 20000 in
theorem qi_X5_firstTrial_X4 : ∀ w ∈ u_ws RX4 TX4 8, w ∈ wsX5_firstTrial := by decide +kernel
set_option maxRecDepth 20000 in
theorem q_X5_firstTrial_5 : Cond.fieldLink RX5 163 "StageTruths$Parts" "size" "I" ∈ wsX5_firstTrial := by decide +kernel
set_option maxRecDepth 20000 in
theorem q_X5_firstTrial_6 : Cond.fieldLink RX5 50 "StageTruths$Proof" "found" "LStageTruths$PartSets;" ∈ wsX5_firstTrial := by decide +kernel
set_option maxRecDepth 20000 in
theorem q_X5_firstTrial_7 : Cond.fieldLink RX5 108 "StageTruths$Parts" "kinds" "[I" ∈ wsX5_firstTrial := by decide +kernel
set_option maxRecDepth 20000 in
theorem q_X5_firstTrial_8 : Cond.fieldLink RX5 115 "StageTruths$Parts" "left" "[I" ∈ wsX5_firstTrial := by decide +kernel
set_option maxRecDepth 20000 in
theorem q_X5_firstTrial_9 : Cond.fieldLink RX5 118 "StageTruths$Parts" "right" "[I" ∈ wsX5_firstTrial := by decide +kernel
noncomputable def f_X5_firstTrial_59   (t0 : Nat) (t1 : Int32) (t2 : Int32) (f : mmF) : Option (Int32 × mmF) :=
  (ckO f t0 3).bind fun _ =>
  (f_X3_add t0 t1 t2 f).bind fun q59 =>
  some ((-1 : Int32), q59)
noncomputable def f_X5_firstTrial_29   (v0 : Nat) (v1 : Int32) (v2 : Int32) (f : mmF) : Option (Int32 × mmF) :=
  (ldR f v0 5 4).bind fun x30 =>
  (ckO f x30 3).bind fun _ =>
  (f_X3_fill x30 v1 (0 : Int32) f).bind fun q35 =>
  (ldR q35 v0 5 4).bind fun x39 =>
  (ldR q35 v0 5 2).bind fun x44 =>
  (ckO q35 x44 2).bind fun _ =>
  (f_X2_has x44 (5 : Int32) q35).bind fun q48 =>
  if q48 = 0 then
  (f_X5_firstTrial_59 x39 v1 v2 q35)
  else
  f_X5_firstTrial_59 x39 v1 (5 : Int32) q35
noncomputable def f_X5_firstTrial_143 (k67 : Nat → Int32 → Int32 → Int32 → mmF → Option (Int32 × mmF))  (v0 : Nat) (v1 : Int32) (v2 : Int32) (v3 : Int32) (f : mmF) : Option (Int32 × mmF) :=
  k67 v0 v1 v2 (v3 + (1 : Int32)) f
noncomputable def f_X5_firstTrial_67   : Nat → Nat → Int32 → Int32 → Int32 → mmF → Option (Int32 × mmF)
  | 0, _, _, _, _, _ => none
  | n + 1, v0, v1, v2, v3, f =>
    (ldR f v0 5 1).bind fun x69 =>
    (ldI f x69 4 0).bind fun x72 =>
    if x72 ≤ v3 then
    ((ckO f v0 5).bind fun _ =>
    (f_X5_doubt v0 v1 v2 f).bind fun q152 =>
    (ldR q152 v0 5 6).bind fun x156 =>
    (ckO q152 x156 3).bind fun _ =>
    (f_X3_fill x156 v1 (1 : Int32) q152).bind fun q161 =>
    (ckO q161 v0 5).bind fun _ =>
    (f_X5_nextTrial v0 v1 q161).bind fun q166 =>
    some (q166, q161))
    else
    (ldR f v0 5 1).bind fun x79 =>
    (ldR f x79 4 1).bind fun x82 =>
    (ldA 0 f x82 v3).bind fun x86 =>
    if x86 = (8 : Int32) then
    ((ldR f v0 5 2).bind fun x93 =>
    (ckO f x93 2).bind fun _ =>
    (f_X2_has x93 v3 f).bind fun q97 =>
    if q97 = 0 then
    (f_X5_firstTrial_143 (fun a0 a1 a2 a3 a4 => f_X5_firstTrial_67 n a0 a1 a2 a3 a4) v0 v1 v2 v3 f)
    else
    (ldR f v0 5 2).bind fun x104 =>
    (ldR f v0 5 1).bind fun x108 =>
    (ldR f x108 4 2).bind fun x111 =>
    (ldA 0 f x111 v3).bind fun x115 =>
    (ckO f x104 2).bind fun _ =>
    (f_X2_has x104 x115 f).bind fun q116 =>
    if q116 = 0 then
    ((ldR f v0 5 2).bind fun x123 =>
    (ldR f v0 5 1).bind fun x127 =>
    (ldR f x127 4 3).bind fun x130 =>
    (ldA 0 f x130 v3).bind fun x134 =>
    (ckO f x123 2).bind fun _ =>
    (f_X2_has x123 x134 f).bind fun q135 =>
    if q135 = 0 then
    (some (v3, f))
    else
    f_X5_firstTrial_143 (fun a0 a1 a2 a3 a4 => f_X5_firstTrial_67 n a0 a1 a2 a3 a4) v0 v1 v2 v3 f)
    else
    f_X5_firstTrial_143 (fun a0 a1 a2 a3 a4 => f_X5_firstTrial_67 n a0 a1 a2 a3 a4) v0 v1 v2 v3 f)
    else
    f_X5_firstTrial_143 (fun a0 a1 a2 a3 a4 => f_X5_firstTrial_67 n a0 a1 a2 a3 a4) v0 v1 v2 v3 f
noncomputable def f_X5_firstTrial (v0 : Nat) (v1 : Int32) (v2 : Int32) (f : mmF) : Option (Int32 × mmF) :=
  (ldR f v0 5 2).bind fun x1 =>
  (ckO f x1 2).bind fun _ =>
  (f_X2_spread x1 f).bind fun q4 =>
  (ldR q4 v0 5 2).bind fun x8 =>
  (ckO q4 x8 2).bind fun _ =>
  (f_X2_has x8 (5 : Int32) q4).bind fun q12 =>
  if q12 = 0 then
  ((ldR q4 v0 5 2).bind fun x19 =>
  (ckO q4 x19 2).bind fun _ =>
  (f_X2_has x19 v2 q4).bind fun q23 =>
  if q23 = 0 then
  (f_X5_firstTrial_67 FU v0 v1 v2 (6 : Int32) q4)
  else
  f_X5_firstTrial_29 v0 v1 v2 q4)
  else
  f_X5_firstTrial_29 v0 v1 v2 q4
section S_X5_firstTrial
variable {p : Program} {l : Launch} {e : Env} {s : State} {m : MethodId} {args : Array Value} {below : List Frame} {meth : Method} {c : Code} {D : mmD} {b0 sz : Nat} {f : mmF}
set_option maxHeartbeats 4000000 in
set_option maxRecDepth 100000 in
theorem w_X5_firstTrial_59 (C0 : CX cX5_firstTrial 4 (some .int) wsX5_firstTrial RX5 p s m args meth c D b0) {res : Int32 × mmF} : ∀ (t0 : Nat) (t1 : Int32) (t2 : Int32) (f : mmF), f_X5_firstTrial_59 t0 t1 t2 f = some res → ∀ (H : Heap) (locs : List Loc) (ls : Array Slot), MM vwCl D b0 f sz s H → mS b0 s H locs → lv_has ls 4 [] → W p l e ({ frames := 4, cells := 0, slots := 0, locals := 96 } : Room) s m args below meth c H locs 0 0 (MQ below (QW D b0 (some (.int res.1)) res.2 sz) args s 0 0 (fun q => b0 ≤ q)) (F0 m 59 ls [.int t2, .int t1, .ref t0]) := by
  obtain ⟨hx, hb, hr, hml, hown, hts, hlocks, hK⟩ := id C0
  intro t0 t1 t2 f h H locs ls hM hS hl
  unfold f_X5_firstTrial_59 at h
  replace h := o_b h; obtain ⟨_, k59, h⟩ := h
  replace h := o_b h; obtain ⟨q59, h59, h⟩ := h
  refine m_call (va_runV (As := [.int t1, .int t2]) (rest := []) ⟨hx, hb, hml, hown, hts⟩ (c_X3_add l D b0 sz h59) (cwV 2 hts gX5_firstTrial_X3_add rfl rfl rfl (by decide +kernel) ⟨Nat.le_of_ble_eq_true rfl, Nat.le_of_ble_eq_true rfl⟩) ⟨PW.blind, m_recv (ci := 3) rfl hK hM k59, (fun U hU hW => ⟨rfl, PW.call hK hM hS hU hW⟩)⟩ rfl rfl hl.1 rfl (lv_room (Nat.le_of_ble_eq_true rfl)) dX5_firstTrial_59 ⟨(Nat.le_refl _), (Nat.le_refl _)⟩) hS (fun H locs hM hS => ?_)
  refine lv_iconst (v := (-1 : Int32)) hx hb dX5_firstTrial_62 (by decide) ?_
  replace h := Option.some.inj h; subst h
  exact W.iret hx hb hr (fun t ht hW => ⟨rfl, by rw [ht]; exact hM.moved hW.alike, hS.F ht⟩) hS.2.2 dX5_firstTrial_63
set_option maxHeartbeats 4000000 in
set_option maxRecDepth 100000 in
theorem w_X5_firstTrial_29 (C0 : CX cX5_firstTrial 4 (some .int) wsX5_firstTrial RX5 p s m args meth c D b0) {res : Int32 × mmF} : ∀ (v0 : Nat) (v1 : Int32) (v2 : Int32) (f : mmF), f_X5_firstTrial_29 v0 v1 v2 f = some res → ∀ (H : Heap) (locs : List Loc) (ls : Array Slot), MM vwCl D b0 f sz s H → mS b0 s H locs → lv_has ls 4 [(0, .ref v0), (1, .int v1), (2, .int v2)] → W p l e ({ frames := 4, cells := 0, slots := 0, locals := 96 } : Room) s m args below meth c H locs 0 0 (MQ below (QW D b0 (some (.int res.1)) res.2 sz) args s 0 0 (fun q => b0 ≤ q)) (F0 m 29 ls []) := by
  obtain ⟨hx, hb, hr, hml, hown, hts, hlocks, hK⟩ := id C0
  intro v0 v1 v2 f h H locs ls hM hS hl
  unfold f_X5_firstTrial_29 at h
  refine lv_aload_n hx hb dX5_firstTrial_29 rfl (lv_at hl 0 rfl) ?_
  replace h := o_b h; obtain ⟨x30, h30, h⟩ := h
  refine m_get (C := RX5) (T := TX5) (N := 10) (ci := 5) hx hb hts qi_X5_firstTrial_X5 hown hK.1 hM 4 (ldR_F h30) rfl (by decide) (hts _ q_X5_firstTrial_1) (fun _ h9 => h9) dX5_firstTrial_30 ?_
  refine lv_iload_n hx hb dX5_firstTrial_33 rfl (lv_at hl 1 rfl) ?_
  refine lv_iconst (v := (0 : Int32)) hx hb dX5_firstTrial_34 (by decide) ?_
  replace h := o_b h; obtain ⟨_, k35, h⟩ := h
  replace h := o_b h; obtain ⟨q35, h35, h⟩ := h
  refine m_call (va_runV (As := [.int v1, .int (0 : Int32)]) (rest := []) ⟨hx, hb, hml, hown, hts⟩ (c_X3_fill l D b0 sz h35) (cwV 2 hts gX5_firstTrial_X3_fill rfl rfl rfl (by decide +kernel) ⟨Nat.le_of_ble_eq_true rfl, Nat.le_of_ble_eq_true rfl⟩) ⟨PW.blind, m_recv (ci := 3) rfl hK hM k35, (fun U hU hW => ⟨rfl, PW.call hK hM hS hU hW⟩)⟩ rfl rfl hl.1 rfl (lv_room (Nat.le_of_ble_eq_true rfl)) dX5_firstTrial_35 ⟨(Nat.le_refl _), (Nat.le_refl _)⟩) hS (fun H locs hM hS => ?_)
  refine lv_aload_n hx hb dX5_firstTrial_38 rfl (lv_at hl 0 rfl) ?_
  replace h := o_b h; obtain ⟨x39, h39, h⟩ := h
  refine m_get (C := RX5) (T := TX5) (N := 10) (ci := 5) hx hb hts qi_X5_firstTrial_X5 hown hK.1 hM 4 (ldR_F h39) rfl (by decide) (hts _ q_X5_firstTrial_1) (fun _ h9 => h9) dX5_firstTrial_39 ?_
  refine lv_iload_n hx hb dX5_firstTrial_42 rfl (lv_at hl 1 rfl) ?_
  refine lv_aload_n hx hb dX5_firstTrial_43 rfl (lv_at hl 0 rfl) ?_
  replace h := o_b h; obtain ⟨x44, h44, h⟩ := h
  refine m_get (C := RX5) (T := TX5) (N := 10) (ci := 5) hx hb hts qi_X5_firstTrial_X5 hown hK.1 hM 2 (ldR_F h44) rfl (by decide) (hts _ q_X5_firstTrial_2) (fun _ h9 => h9) dX5_firstTrial_44 ?_
  refine lv_iconst (v := (5 : Int32)) hx hb dX5_firstTrial_47 (by decide) ?_
  replace h := o_b h; obtain ⟨_, k48, h⟩ := h
  replace h := o_b h; obtain ⟨q48, h48, h⟩ := h
  refine m_call (va_runV (As := [.int (5 : Int32)]) (rest := [.int v1, .ref x39]) ⟨hx, hb, hml, hown, hts⟩ (c_X2_has l D b0 sz h48) (cwV 1 hts gX5_firstTrial_X2_has rfl rfl rfl (by decide +kernel) ⟨Nat.le_of_ble_eq_true rfl, Nat.le_of_ble_eq_true rfl⟩) ⟨PW.blind, m_recv (ci := 2) rfl hK hM k48, (fun U hU hW => ⟨rfl, PW.call hK hM hS hU hW⟩)⟩ rfl rfl hl.1 rfl (lv_room (Nat.le_of_ble_eq_true rfl)) dX5_firstTrial_48 ⟨(Nat.le_refl _), (Nat.le_refl _)⟩) hS (fun H locs hM hS => ?_)
  refine lv_if_eq (tgt := 58) hx hb dX5_firstTrial_51 (by decide) (fun c51 => ?_) (fun c51 => ?_)
  · replace h := o_t c51 h
    refine lv_iload_n hx hb dX5_firstTrial_58 rfl (lv_at hl 2 rfl) ?_
    exact w_X5_firstTrial_59 C0 _ _ _ _ h _ _ _ hM hS (lv_sub hl [] rfl)
  replace h := o_f c51 h
  refine lv_iconst (v := (5 : Int32)) hx hb dX5_firstTrial_54 (by decide) ?_
  refine lv_goto (tgt := 59) hx hb dX5_firstTrial_55 (by decide) ?_
  exact w_X5_firstTrial_59 C0 _ _ _ _ h _ _ _ hM hS (lv_sub hl [] rfl)
set_option maxHeartbeats 4000000 in
set_option maxRecDepth 100000 in
theorem w_X5_firstTrial_143 (C0 : CX cX5_firstTrial 4 (some .int) wsX5_firstTrial RX5 p s m args meth c D b0) {k67 : Nat → Int32 → Int32 → Int32 → mmF → Option (Int32 × mmF)} {res : Int32 × mmF} (hk67 : ∀ (v0 : Nat) (v1 : Int32) (v2 : Int32) (v3 : Int32) (f : mmF), k67 v0 v1 v2 v3 f = some res → ∀ (H : Heap) (locs : List Loc) (ls : Array Slot), MM vwCl D b0 f sz s H → mS b0 s H locs → lv_has ls 4 [(0, .ref v0), (1, .int v1), (2, .int v2), (3, .int v3)] → W p l e ({ frames := 4, cells := 0, slots := 0, locals := 96 } : Room) s m args below meth c H locs 0 0 (MQ below (QW D b0 (some (.int res.1)) res.2 sz) args s 0 0 (fun q => b0 ≤ q)) (F0 m 67 ls [])) : ∀ (v0 : Nat) (v1 : Int32) (v2 : Int32) (v3 : Int32) (f : mmF), f_X5_firstTrial_143 k67 v0 v1 v2 v3 f = some res → ∀ (H : Heap) (locs : List Loc) (ls : Array Slot), MM vwCl D b0 f sz s H → mS b0 s H locs → lv_has ls 4 [(0, .ref v0), (1, .int v1), (2, .int v2), (3, .int v3)] → W p l e ({ frames := 4, cells := 0, slots := 0, locals := 96 } : Room) s m args below meth c H locs 0 0 (MQ below (QW D b0 (some (.int res.1)) res.2 sz) args s 0 0 (fun q => b0 ≤ q)) (F0 m 143 ls []) := by
  obtain ⟨hx, hb, hr, hml, hown, hts, hlocks, hK⟩ := id C0
  intro v0 v1 v2 v3 f h H locs ls hM hS hl
  unfold f_X5_firstTrial_143 at h
  refine lv_iinc (v := (v3 + (1 : Int32))) (lv' := [(3, .int (v3 + (1 : Int32))), (0, .ref v0), (1, .int v1), (2, .int v2)]) hx hb dX5_firstTrial_143 hl (k := 3) rfl rfl (by decide) rfl (fun ls hl => ?_)
  refine lv_goto (tgt := 67) hx hb dX5_firstTrial_146 (by decide) ?_
  exact hk67 _ _ _ _ _ h _ _ _ hM hS (lv_sub hl [1, 2, 3, 0] rfl)
set_option maxHeartbeats 4000000 in
set_option maxRecDepth 100000 in
theorem w_X5_firstTrial_67 (C0 : CX cX5_firstTrial 4 (some .int) wsX5_firstTrial RX5 p s m args meth c D b0) {res : Int32 × mmF} : ∀ (n : Nat), ∀ (v0 : Nat) (v1 : Int32) (v2 : Int32) (v3 : Int32) (f : mmF), f_X5_firstTrial_67 n v0 v1 v2 v3 f = some res → ∀ (H : Heap) (locs : List Loc) (ls : Array Slot), MM vwCl D b0 f sz s H → mS b0 s H locs → lv_has ls 4 [(0, .ref v0), (1, .int v1), (2, .int v2), (3, .int v3)] → W p l e ({ frames := 4, cells := 0, slots := 0, locals := 96 } : Room) s m args below meth c H locs 0 0 (MQ below (QW D b0 (some (.int res.1)) res.2 sz) args s 0 0 (fun q => b0 ≤ q)) (F0 m 67 ls []) := by
  obtain ⟨hx, hb, hr, hml, hown, hts, hlocks, hK⟩ := id C0
  intro n
  induction n with
  | zero =>
    intro v0 v1 v2 v3 f h
    have h : (none : Option (Int32 × mmF)) = some res := h
    cases h
  | succ n ih =>
    intro v0 v1 v2 v3 f h H locs ls hM hS hl
    rw [f_X5_firstTrial_67] at h
    refine lv_iload_n hx hb dX5_firstTrial_67 rfl (lv_at hl 3 rfl) ?_
    refine lv_aload_n hx hb dX5_firstTrial_68 rfl (lv_at hl 0 rfl) ?_
    replace h := o_b h; obtain ⟨x69, h69, h⟩ := h
    refine m_get (C := RX5) (T := TX5) (N := 10) (ci := 5) hx hb hts qi_X5_firstTrial_X5 hown hK.1 hM 1 (ldR_F h69) rfl (by decide) (hts _ q_X5_firstTrial_3) (fun _ h9 => h9) dX5_firstTrial_69 ?_
    replace h := o_b h; obtain ⟨x72, h72, h⟩ := h
    refine m_get (C := RX4) (T := TX4) (N := 8) (ci := 4) hx hb hts qi_X5_firstTrial_X4 hown hK.1 hM 0 (ldI_F h72) rfl (by decide) (hts _ q_X5_firstTrial_5) (fun _ h9 => h9) dX5_firstTrial_72 ?_
    refine lv_icmp_ge (tgt := 149) hx hb dX5_firstTrial_75 (by decide) (fun c75 => ?_) (fun c75 => ?_)
    · replace h := o_t c75 h
      refine lv_aload_n hx hb dX5_firstTrial_149 rfl (lv_at hl 0 rfl) ?_
      refine lv_iload_n hx hb dX5_firstTrial_150 rfl (lv_at hl 1 rfl) ?_
      refine lv_iload_n hx hb dX5_firstTrial_151 rfl (lv_at hl 2 rfl) ?_
      replace h := o_b h; obtain ⟨_, k152, h⟩ := h
      replace h := o_b h; obtain ⟨q152, h152, h⟩ := h
      refine m_call (va_runV (As := [.int v1, .int v2]) (rest := []) ⟨hx, hb, hml, hown, hts⟩ (c_X5_doubt l D b0 sz h152) (cwV 2 hts gX5_firstTrial_X5_doubt rfl rfl rfl (by decide +kernel) ⟨Nat.le_of_ble_eq_true rfl, Nat.le_of_ble_eq_true rfl⟩) ⟨PW.blind, m_recv (ci := 5) rfl hK hM k152, (fun U hU hW => ⟨rfl, PW.call hK hM hS hU hW⟩)⟩ rfl rfl hl.1 rfl (lv_room (Nat.le_of_ble_eq_true rfl)) dX5_firstTrial_152 ⟨(Nat.le_refl _), (Nat.le_refl _)⟩) hS (fun H locs hM hS => ?_)
      refine lv_aload_n hx hb dX5_firstTrial_155 rfl (lv_at hl 0 rfl) ?_
      replace h := o_b h; obtain ⟨x156, h156, h⟩ := h
      refine m_get (C := RX5) (T := TX5) (N := 10) (ci := 5) hx hb hts qi_X5_firstTrial_X5 hown hK.1 hM 6 (ldR_F h156) rfl (by decide) (hts _ q_X5_firstTrial_6) (fun _ h9 => h9) dX5_firstTrial_156 ?_
      refine lv_iload_n hx hb dX5_firstTrial_159 rfl (lv_at hl 1 rfl) ?_
      refine lv_iconst (v := (1 : Int32)) hx hb dX5_firstTrial_160 (by decide) ?_
      replace h := o_b h; obtain ⟨_, k161, h⟩ := h
      replace h := o_b h; obtain ⟨q161, h161, h⟩ := h
      refine m_call (va_runV (As := [.int v1, .int (1 : Int32)]) (rest := []) ⟨hx, hb, hml, hown, hts⟩ (c_X3_fill l D b0 sz h161) (cwV 2 hts gX5_firstTrial_X3_fill rfl rfl rfl (by decide +kernel) ⟨Nat.le_of_ble_eq_true rfl, Nat.le_of_ble_eq_true rfl⟩) ⟨PW.blind, m_recv (ci := 3) rfl hK hM k161, (fun U hU hW => ⟨rfl, PW.call hK hM hS hU hW⟩)⟩ rfl rfl hl.1 rfl (lv_room (Nat.le_of_ble_eq_true rfl)) dX5_firstTrial_161 ⟨(Nat.le_refl _), (Nat.le_refl _)⟩) hS (fun H locs hM hS => ?_)
      refine lv_aload_n hx hb dX5_firstTrial_164 rfl (lv_at hl 0 rfl) ?_
      refine lv_iload_n hx hb dX5_firstTrial_165 rfl (lv_at hl 1 rfl) ?_
      replace h := o_b h; obtain ⟨_, k166, h⟩ := h
      replace h := o_b h; obtain ⟨q166, h166, h⟩ := h
      refine m_call (va_runV (As := [.int v1]) (rest := []) ⟨hx, hb, hml, hown, hts⟩ (c_X5_nextTrial l D b0 sz h166) (cwV 1 hts gX5_firstTrial_X5_nextTrial rfl rfl rfl (by decide +kernel) ⟨Nat.le_of_ble_eq_true rfl, Nat.le_of_ble_eq_true rfl⟩) ⟨PW.blind, m_recv (ci := 5) rfl hK hM k166, (fun U hU hW => ⟨rfl, PW.call hK hM hS hU hW⟩)⟩ rfl rfl hl.1 rfl (lv_room (Nat.le_of_ble_eq_true rfl)) dX5_firstTrial_166 ⟨(Nat.le_refl _), (Nat.le_refl _)⟩) hS (fun H locs hM hS => ?_)
      replace h := Option.some.inj h; subst h
      exact W.iret hx hb hr (fun t ht hW => ⟨rfl, by rw [ht]; exact hM.moved hW.alike, hS.F ht⟩) hS.2.2 dX5_firstTrial_169
    replace h := o_f c75 h
    refine lv_aload_n hx hb dX5_firstTrial_78 rfl (lv_at hl 0 rfl) ?_
    replace h := o_b h; obtain ⟨x79, h79, h⟩ := h
    refine m_get (C := RX5) (T := TX5) (N := 10) (ci := 5) hx hb hts qi_X5_firstTrial_X5 hown hK.1 hM 1 (ldR_F h79) rfl (by decide) (hts _ q_X5_firstTrial_3) (fun _ h9 => h9) dX5_firstTrial_79 ?_
    replace h := o_b h; obtain ⟨x82, h82, h⟩ := h
    refine m_get (C := RX4) (T := TX4) (N := 8) (ci := 4) hx hb hts qi_X5_firstTrial_X4 hown hK.1 hM 1 (ldR_F h82) rfl (by decide) (hts _ q_X5_firstTrial_7) (fun _ h9 => h9) dX5_firstTrial_82 ?_
    refine lv_iload_n hx hb dX5_firstTrial_85 rfl (lv_at hl 3 rfl) ?_
    replace h := o_b h; obtain ⟨x86, h86, h⟩ := h
    refine m_iald hx hb hK.1 hM hS rfl h86 dX5_firstTrial_86 ?_
    refine lv_bipush (v := (8 : Int32)) hx hb dX5_firstTrial_87 (by decide) ?_
    refine lv_icmp_ne (tgt := 143) hx hb dX5_firstTrial_89 (by decide) (fun c89 => ?_) (fun c89 => ?_)
    · replace h := o_f c89 h
      exact w_X5_firstTrial_143 C0 ih _ _ _ _ _ h _ _ _ hM hS (lv_sub hl [0, 1, 2, 3] rfl)
    replace h := o_t c89 h
    refine lv_aload_n hx hb dX5_firstTrial_92 rfl (lv_at hl 0 rfl) ?_
    replace h := o_b h; obtain ⟨x93, h93, h⟩ := h
    refine m_get (C := RX5) (T := TX5) (N := 10) (ci := 5) hx hb hts qi_X5_firstTrial_X5 hown hK.1 hM 2 (ldR_F h93) rfl (by decide) (hts _ q_X5_firstTrial_2) (fun _ h9 => h9) dX5_firstTrial_93 ?_
    refine lv_iload_n hx hb dX5_firstTrial_96 rfl (lv_at hl 3 rfl) ?_
    replace h := o_b h; obtain ⟨_, k97, h⟩ := h
    replace h := o_b h; obtain ⟨q97, h97, h⟩ := h
    refine m_call (va_runV (As := [.int v3]) (rest := []) ⟨hx, hb, hml, hown, hts⟩ (c_X2_has l D b0 sz h97) (cwV 1 hts gX5_firstTrial_X2_has rfl rfl rfl (by decide +kernel) ⟨Nat.le_of_ble_eq_true rfl, Nat.le_of_ble_eq_true rfl⟩) ⟨PW.blind, m_recv (ci := 2) rfl hK hM k97, (fun U hU hW => ⟨rfl, PW.call hK hM hS hU hW⟩)⟩ rfl rfl hl.1 rfl (lv_room (Nat.le_of_ble_eq_true rfl)) dX5_firstTrial_97 ⟨(Nat.le_refl _), (Nat.le_refl _)⟩) hS (fun H locs hM hS => ?_)
    refine lv_if_eq (tgt := 143) hx hb dX5_firstTrial_100 (by decide) (fun c100 => ?_) (fun c100 => ?_)
    · replace h := o_t c100 h
      exact w_X5_firstTrial_143 C0 ih _ _ _ _ _ h _ _ _ hM hS (lv_sub hl [0, 1, 2, 3] rfl)
    replace h := o_f c100 h
    refine lv_aload_n hx hb dX5_firstTrial_103 rfl (lv_at hl 0 rfl) ?_
    replace h := o_b h; obtain ⟨x104, h104, h⟩ := h
    refine m_get (C := RX5) (T := TX5) (N := 10) (ci := 5) hx hb hts qi_X5_firstTrial_X5 hown hK.1 hM 2 (ldR_F h104) rfl (by decide) (hts _ q_X5_firstTrial_2) (fun _ h9 => h9) dX5_firstTrial_104 ?_
    refine lv_aload_n hx hb dX5_firstTrial_107 rfl (lv_at hl 0 rfl) ?_
    replace h := o_b h; obtain ⟨x108, h108, h⟩ := h
    refine m_get (C := RX5) (T := TX5) (N := 10) (ci := 5) hx hb hts qi_X5_firstTrial_X5 hown hK.1 hM 1 (ldR_F h108) rfl (by decide) (hts _ q_X5_firstTrial_3) (fun _ h9 => h9) dX5_firstTrial_108 ?_
    replace h := o_b h; obtain ⟨x111, h111, h⟩ := h
    refine m_get (C := RX4) (T := TX4) (N := 8) (ci := 4) hx hb hts qi_X5_firstTrial_X4 hown hK.1 hM 2 (ldR_F h111) rfl (by decide) (hts _ q_X5_firstTrial_8) (fun _ h9 => h9) dX5_firstTrial_111 ?_
    refine lv_iload_n hx hb dX5_firstTrial_114 rfl (lv_at hl 3 rfl) ?_
    replace h := o_b h; obtain ⟨x115, h115, h⟩ := h
    refine m_iald hx hb hK.1 hM hS rfl h115 dX5_firstTrial_115 ?_
    replace h := o_b h; obtain ⟨_, k116, h⟩ := h
    replace h := o_b h; obtain ⟨q116, h116, h⟩ := h
    refine m_call (va_runV (As := [.int x115]) (rest := []) ⟨hx, hb, hml, hown, hts⟩ (c_X2_has l D b0 sz h116) (cwV 1 hts gX5_firstTrial_X2_has rfl rfl rfl (by decide +kernel) ⟨Nat.le_of_ble_eq_true rfl, Nat.le_of_ble_eq_true rfl⟩) ⟨PW.blind, m_recv (ci := 2) rfl hK hM k116, (fun U hU hW => ⟨rfl, PW.call hK hM hS hU hW⟩)⟩ rfl rfl hl.1 rfl (lv_room (Nat.le_of_ble_eq_true rfl)) dX5_firstTrial_116 ⟨(Nat.le_refl _), (Nat.le_refl _)⟩) hS (fun H locs hM hS => ?_)
    refine lv_if_ne (tgt := 143) hx hb dX5_firstTrial_119 (by decide) (fun c119 => ?_) (fun c119 => ?_)
    · replace h := o_f c119 h
      exact w_X5_firstTrial_143 C0 ih _ _ _ _ _ h _ _ _ hM hS (lv_sub hl [0, 1, 2, 3] rfl)
    replace h := o_t c119 h
    refine lv_aload_n hx hb dX5_firstTrial_122 rfl (lv_at hl 0 rfl) ?_
    replace h := o_b h; obtain ⟨x123, h123, h⟩ := h
    refine m_get (C := RX5) (T := TX5) (N := 10) (ci := 5) hx hb hts qi_X5_firstTrial_X5 hown hK.1 hM 2 (ldR_F h123) rfl (by decide) (hts _ q_X5_firstTrial_2) (fun _ h9 => h9) dX5_firstTrial_123 ?_
    refine lv_aload_n hx hb dX5_firstTrial_126 rfl (lv_at hl 0 rfl) ?_
    replace h := o_b h; obtain ⟨x127, h127, h⟩ := h
    refine m_get (C := RX5) (T := TX5) (N := 10) (ci := 5) hx hb hts qi_X5_firstTrial_X5 hown hK.1 hM 1 (ldR_F h127) rfl (by decide) (hts _ q_X5_firstTrial_3) (fun _ h9 => h9) dX5_firstTrial_127 ?_
    replace h := o_b h; obtain ⟨x130, h130, h⟩ := h
    refine m_get (C := RX4) (T := TX4) (N := 8) (ci := 4) hx hb hts qi_X5_firstTrial_X4 hown hK.1 hM 3 (ldR_F h130) rfl (by decide) (hts _ q_X5_firstTrial_9) (fun _ h9 => h9) dX5_firstTrial_130 ?_
    refine lv_iload_n hx hb dX5_firstTrial_133 rfl (lv_at hl 3 rfl) ?_
    replace h := o_b h; obtain ⟨x134, h134, h⟩ := h
    refine m_iald hx hb hK.1 hM hS rfl h134 dX5_firstTrial_134 ?_
    replace h := o_b h; obtain ⟨_, k135, h⟩ := h
    replace h := o_b h; obtain ⟨q135, h135, h⟩ := h
    refine m_call (va_runV (As := [.int x134]) (rest := []) ⟨hx, hb, hml, hown, hts⟩ (c_X2_has l D b0 sz h135) (cwV 1 hts gX5_firstTrial_X2_has rfl rfl rfl (by decide +kernel) ⟨Nat.le_of_ble_eq_true rfl, Nat.le_of_ble_eq_true rfl⟩) ⟨PW.blind, m_recv (ci := 2) rfl hK hM k135, (fun U hU hW => ⟨rfl, PW.call hK hM hS hU hW⟩)⟩ rfl rfl hl.1 rfl (lv_room (Nat.le_of_ble_eq_true rfl)) dX5_firstTrial_135 ⟨(Nat.le_refl _), (Nat.le_refl _)⟩) hS (fun H locs hM hS => ?_)
    refine lv_if_ne (tgt := 143) hx hb dX5_firstTrial_138 (by decide) (fun c138 => ?_) (fun c138 => ?_)
    · replace h := o_f c138 h
      exact w_X5_firstTrial_143 C0 ih _ _ _ _ _ h _ _ _ hM hS (lv_sub hl [0, 1, 2, 3] rfl)
    replace h := o_t c138 h
    refine lv_iload_n hx hb dX5_firstTrial_141 rfl (lv_at hl 3 rfl) ?_
    replace h := Option.some.inj h; subst h
    exact W.iret hx hb hr (fun t ht hW => ⟨rfl, by rw [ht]; exact hM.moved hW.alike, hS.F ht⟩) hS.2.2 dX5_firstTrial_142
set_option maxHeartbeats 4000000 in
set_option maxRecDepth 100000 in
theorem w_X5_firstTrial (C0 : CX cX5_firstTrial 4 (some .int) wsX5_firstTrial RX5 p s m args meth c D b0) {v0 : Nat} {v1 : Int32} {v2 : Int32} {res : Int32 × mmF} (h : f_X5_firstTrial v0 v1 v2 f = some res) : ∀ (H : Heap) (locs : List Loc) (ls : Array Slot), MM vwCl D b0 f sz s H → mS b0 s H locs → lv_has ls 4 [(0, .ref v0), (1, .int v1), (2, .int v2)] → W p l e ({ frames := 4, cells := 0, slots := 0, locals := 96 } : Room) s m args below meth c H locs 0 0 (MQ below (QW D b0 (some (.int res.1)) res.2 sz) args s 0 0 (fun q => b0 ≤ q)) (F0 m 0 ls []) := by
  obtain ⟨hx, hb, hr, hml, hown, hts, hlocks, hK⟩ := id C0
  intro H locs ls hM hS hl
  unfold f_X5_firstTrial at h
  refine lv_aload_n hx hb dX5_firstTrial_0 rfl (lv_at hl 0 rfl) ?_
  replace h := o_b h; obtain ⟨x1, h1, h⟩ := h
  refine m_get (C := RX5) (T := TX5) (N := 10) (ci := 5) hx hb hts qi_X5_firstTrial_X5 hown hK.1 hM 2 (ldR_F h1) rfl (by decide) (hts _ q_X5_firstTrial_2) (fun _ h9 => h9) dX5_firstTrial_1 ?_
  replace h := o_b h; obtain ⟨_, k4, h⟩ := h
  replace h := o_b h; obtain ⟨q4, h4, h⟩ := h
  refine m_call (va_runV (As := []) (rest := []) ⟨hx, hb, hml, hown, hts⟩ (c_X2_spread l D b0 sz h4) (cwV 0 hts gX5_firstTrial_X2_spread rfl rfl rfl (by decide +kernel) ⟨Nat.le_of_ble_eq_true rfl, Nat.le_of_ble_eq_true rfl⟩) ⟨PW.blind, m_recv (ci := 2) rfl hK hM k4, (fun U hU hW => ⟨rfl, PW.call hK hM hS hU hW⟩)⟩ rfl rfl hl.1 rfl (lv_room (Nat.le_of_ble_eq_true rfl)) dX5_firstTrial_4 ⟨(Nat.le_refl _), (Nat.le_refl _)⟩) hS (fun H locs hM hS => ?_)
  refine lv_aload_n hx hb dX5_firstTrial_7 rfl (lv_at hl 0 rfl) ?_
  replace h := o_b h; obtain ⟨x8, h8, h⟩ := h
  refine m_get (C := RX5) (T := TX5) (N := 10) (ci := 5) hx hb hts qi_X5_firstTrial_X5 hown hK.1 hM 2 (ldR_F h8) rfl (by decide) (hts _ q_X5_firstTrial_2) (fun _ h9 => h9) dX5_firstTrial_8 ?_
  refine lv_iconst (v := (5 : Int32)) hx hb dX5_firstTrial_11 (by decide) ?_
  replace h := o_b h; obtain ⟨_, k12, h⟩ := h
  replace h := o_b h; obtain ⟨q12, h12, h⟩ := h
  refine m_call (va_runV (As := [.int (5 : Int32)]) (rest := []) ⟨hx, hb, hml, hown, hts⟩ (c_X2_has l D b0 sz h12) (cwV 1 hts gX5_firstTrial_X2_has rfl rfl rfl (by decide +kernel) ⟨Nat.le_of_ble_eq_true rfl, Nat.le_of_ble_eq_true rfl⟩) ⟨PW.blind, m_recv (ci := 2) rfl hK hM k12, (fun U hU hW => ⟨rfl, PW.call hK hM hS hU hW⟩)⟩ rfl rfl hl.1 rfl (lv_room (Nat.le_of_ble_eq_true rfl)) dX5_firstTrial_12 ⟨(Nat.le_refl _), (Nat.le_refl _)⟩) hS (fun H locs hM hS => ?_)
  refine lv_if_ne (tgt := 29) hx hb dX5_firstTrial_15 (by decide) (fun c15 => ?_) (fun c15 => ?_)
  · replace h := o_f c15 h
    exact w_X5_firstTrial_29 C0 _ _ _ _ h _ _ _ hM hS (lv_sub hl [0, 1, 2] rfl)
  replace h := o_t c15 h
  refine lv_aload_n hx hb dX5_firstTrial_18 rfl (lv_at hl 0 rfl) ?_
  replace h := o_b h; obtain ⟨x19, h19, h⟩ := h
  refine m_get (C := RX5) (T := TX5) (N := 10) (ci := 5) hx hb hts qi_X5_firstTrial_X5 hown hK.1 hM 2 (ldR_F h19) rfl (by decide) (hts _ q_X5_firstTrial_2) (fun _ h9 => h9) dX5_firstTrial_19 ?_
  refine lv_iload_n hx hb dX5_firstTrial_22 rfl (lv_at hl 2 rfl) ?_
  replace h := o_b h; obtain ⟨_, k23, h⟩ := h
  replace h := o_b h; obtain ⟨q23, h23, h⟩ := h
  refine m_call (va_runV (As := [.int v2]) (rest := []) ⟨hx, hb, hml, hown, hts⟩ (c_X2_has l D b0 sz h23) (cwV 1 hts gX5_firstTrial_X2_has rfl rfl rfl (by decide +kernel) ⟨Nat.le_of_ble_eq_true rfl, Nat.le_of_ble_eq_true rfl⟩) ⟨PW.blind, m_recv (ci := 2) rfl hK hM k23, (fun U hU hW => ⟨rfl, PW.call hK hM hS hU hW⟩)⟩ rfl rfl hl.1 rfl (lv_room (Nat.le_of_ble_eq_true rfl)) dX5_firstTrial_23 ⟨(Nat.le_refl _), (Nat.le_refl _)⟩) hS (fun H locs hM hS => ?_)
  refine lv_if_eq (tgt := 64) hx hb dX5_firstTrial_26 (by decide) (fun c26 => ?_) (fun c26 => ?_)
  · replace h := o_t c26 h
    refine lv_bipush (v := (6 : Int32)) hx hb dX5_firstTrial_64 (by decide) ?_
    refine lv_istore_n (lv' := [(3, .int (6 : Int32)), (0, .ref v0), (1, .int v1), (2, .int v2)]) hx hb dX5_firstTrial_66 rfl hl (by decide) rfl (fun ls hl => ?_)
    exact w_X5_firstTrial_67 C0 FU _ _ _ _ _ h _ _ _ hM hS (lv_sub hl [1, 2, 3, 0] rfl)
  replace h := o_f c26 h
  exact w_X5_firstTrial_29 C0 _ _ _ _ h _ _ _ hM hS (lv_sub hl [0, 1, 2] rfl)
set_option maxHeartbeats 4000000 in
set_option maxRecDepth 100000 in
theorem c_X5_firstTrial (l : Launch) (D : mmD) (b0 sz : Nat) {v0 : Nat} {v1 : Int32} {v2 : Int32} {f : mmF} {res : Int32 × mmF} (h : f_X5_firstTrial v0 v1 v2 f = some res) : Met l yX5_firstTrial wsX5_firstTrial ({ frames := 4, cells := 0, slots := 0, locals := 96 } : Room) (va_Pc [.ref v0, .int v1, .int v2] (PW D b0 f sz)) (QW D b0 (some (.int res.1)) res.2 sz) 0 0 (fun q => b0 ≤ q) := by
  refine Met.ofW (cc := cX5_firstTrial) (maxL := 4) (ret := (some .int)) (by decide) rfl ?_
  intro p e s m args below meth c s₁ B hml hv
  obtain ⟨rfl, hM, hK⟩ := hv
  have hl := lv_entry ([.ref v0, .int v1, .int v2]) (n := 4) (Nat.le_of_ble_eq_true rfl)
  rw [lg_entry_eq]
  generalize (lg_sl ([.ref v0, .int v1, .int v2]) ++ List.replicate (4 - (lg_sl ([.ref v0, .int v1, .int v2])).length) Slot.unset).toArray = ls at hl ⊢
  have hl : lv_has ls 4 [(0, .ref v0), (1, .int v1), (2, .int v2)] := hl
  exact w_X5_firstTrial ⟨B.exec, B.bytes, B.returns, hml, findClass_of_methodNamed B.named, atoms_spec (ws := wsX5_firstTrial) B.pre, B.notSynchronized, hK⟩ h s.heap [] ls hM va_S.rf hl
end S_X5_firstTrial
/-! X5_goDeeper -/
set_option maxRecDepth 20000 in
theorem qi_X5_goDeeper_X5 : ∀ w ∈ u_ws RX5 TX5 10, w ∈ wsX5_goDeeper := by decide +kernel
set_option maxRecDepth 20000 in
theorem q_X5_goDeeper_1 : Cond.fieldLink RX5 34 "StageTruths$Proof" "starts" "[I" ∈ wsX5_goDeeper := by decide +kernel
set_option maxRecDepth 20000 in
theorem q_X5_goDeeper_2 : Cond.fieldLink RX5 30 "StageTruths$Proof" "known" "LStageTruths$Known;" ∈ wsX5_goDeeper := by decide +kernel
set_option maxRecDepth 20000 in
theorem qi_X5_goDeeper_X2 : ∀ w ∈ u_ws RX2 TX2 5, w ∈ wsX5_goDeeper := by decide +kernel
set_option maxRecDepth 20000 in
theorem q_X5_goDeeper_4 : Cond.fieldLink RX5 152 "StageTruths$Known" "size" "I" ∈ wsX5_goDeeper := by decide +kernel
set_option maxRecDepth 20000 in
theorem q_X5_goDeeper_5 : Cond.fieldLink RX5 53 "StageTruths$Proof" "singles" "[I" ∈ wsX5_goDeeper := by decide +kernel
noncomputable def f_X5_goDeeper (v0 : Nat) (v1 : Int32) (v2 : Int32) (f : mmF) : Option (mmF) :=
  if v1 < 0 then
  (some (f))
  else
  if (153 : Int32) ≤ (v1 + (1 : Int32)) then
  (some (f))
  else
  (ldR f v0 5 3).bind fun x14 =>
  (ldR f v0 5 2).bind fun x21 =>
  (ldI f x21 2 0).bind fun x24 =>
  (stA 0 f x14 (v1 + (1 : Int32)) x24).bind fun f27 =>
  (ldR f27 v0 5 7).bind fun x29 =>
  (ldR f27 v0 5 7).bind fun x36 =>
  (ldA 0 f27 x36 v1).bind fun x40 =>
  (stA 0 f27 x29 (v1 + (1 : Int32)) x40).bind fun f41 =>
  (ckO f41 v0 5).bind fun _ =>
  (f_X5_assume v0 (v1 + (1 : Int32)) v2 f41).bind fun q47 =>
  some (q47)
section S_X5_goDeeper
variable {p : Program} {l : Launch} {e : Env} {s : State} {m : MethodId} {args : Array Value} {below : List Frame} {meth : Method} {c : Code} {D : mmD} {b0 sz : Nat} {f : mmF}
set_option maxHeartbeats 4000000 in
set_option maxRecDepth 100000 in
theorem w_X5_goDeeper (C0 : CX cX5_goDeeper 3 none wsX5_goDeeper RX5 p s m args meth c D b0) {v0 : Nat} {v1 : Int32} {v2 : Int32} {res : mmF} (h : f_X5_goDeeper v0 v1 v2 f = some res) : ∀ (H : Heap) (locs : List Loc) (ls : Array Slot), MM vwCl D b0 f sz s H → mS b0 s H locs → lv_has ls 3 [(0, .ref v0), (1, .int v1), (2, .int v2)] → W p l e ({ frames := 4, cells := 0, slots := 0, locals := 90 } : Room) s m args below meth c H locs 0 0 (MQ below (QW D b0 none res sz) args s 0 0 (fun q => b0 ≤ q)) (F0 m 0 ls []) := by
  obtain ⟨hx, hb, hr, hml, hown, hts, hlocks, hK⟩ := id C0
  intro H locs ls hM hS hl
  unfold f_X5_goDeeper at h
  refine lv_iload_n hx hb dX5_goDeeper_0 rfl (lv_at hl 1 rfl) ?_
  refine lv_if_lt (tgt := 50) hx hb dX5_goDeeper_1 (by decide) (fun c1 => ?_) (fun c1 => ?_)
  · replace h := o_t c1 h
    replace h := Option.some.inj h; subst h
    exact W.vret hx hb hr (fun t ht hW => ⟨rfl, by rw [ht]; exact hM.moved hW.alike, hS.F ht⟩) hS.2.2 dX5_goDeeper_50
  replace h := o_f c1 h
  refine lv_iload_n hx hb dX5_goDeeper_4 rfl (lv_at hl 1 rfl) ?_
  refine lv_iconst (v := (1 : Int32)) hx hb dX5_goDeeper_5 (by decide) ?_
  refine lv_iadd hx hb dX5_goDeeper_6 ?_
  refine lv_sipush (v := (153 : Int32)) hx hb dX5_goDeeper_7 (by decide) ?_
  refine lv_icmp_ge (tgt := 50) hx hb dX5_goDeeper_10 (by decide) (fun c10 => ?_) (fun c10 => ?_)
  · replace h := o_t c10 h
    replace h := Option.some.inj h; subst h
    exact W.vret hx hb hr (fun t ht hW => ⟨rfl, by rw [ht]; exact hM.moved hW.alike, hS.F ht⟩) hS.2.2 dX5_goDeeper_50
  replace h := o_f c10 h
  refine lv_aload_n hx hb dX5_goDeeper_13 rfl (lv_at hl 0 rfl) ?_
  replace h := o_b h; obtain ⟨x14, h14, h⟩ := h
  refine m_get (C := RX5) (T := TX5) (N := 10) (ci := 5) hx hb hts qi_X5_goDeeper_X5 hown hK.1 hM 3 (ldR_F h14) rfl (by decide) (hts _ q_X5_goDeeper_1) (fun _ h9 => h9) dX5_goDeeper_14 ?_
  refine lv_iload_n hx hb dX5_goDeeper_17 rfl (lv_at hl 1 rfl) ?_
  refine lv_iconst (v := (1 : Int32)) hx hb dX5_goDeeper_18 (by decide) ?_
  refine lv_iadd hx hb dX5_goDeeper_19 ?_
  refine lv_aload_n hx hb dX5_goDeeper_20 rfl (lv_at hl 0 rfl) ?_
  replace h := o_b h; obtain ⟨x21, h21, h⟩ := h
  refine m_get (C := RX5) (T := TX5) (N := 10) (ci := 5) hx hb hts qi_X5_goDeeper_X5 hown hK.1 hM 2 (ldR_F h21) rfl (by decide) (hts _ q_X5_goDeeper_2) (fun _ h9 => h9) dX5_goDeeper_21 ?_
  replace h := o_b h; obtain ⟨x24, h24, h⟩ := h
  refine m_get (C := RX2) (T := TX2) (N := 5) (ci := 2) hx hb hts qi_X5_goDeeper_X2 hown hK.1 hM 0 (ldI_F h24) rfl (by decide) (hts _ q_X5_goDeeper_4) (fun _ h9 => h9) dX5_goDeeper_24 ?_
  replace h := o_b h; obtain ⟨f27, h27, h⟩ := h
  refine m_iast hx hb hK.1 hM hS rfl h27 dX5_goDeeper_27 (fun H locs hM hS => ?_)
  refine lv_aload_n hx hb dX5_goDeeper_28 rfl (lv_at hl 0 rfl) ?_
  replace h := o_b h; obtain ⟨x29, h29, h⟩ := h
  refine m_get (C := RX5) (T := TX5) (N := 10) (ci := 5) hx hb hts qi_X5_goDeeper_X5 hown hK.1 hM 7 (ldR_F h29) rfl (by decide) (hts _ q_X5_goDeeper_5) (fun _ h9 => h9) dX5_goDeeper_29 ?_
  refine lv_iload_n hx hb dX5_goDeeper_32 rfl (lv_at hl 1 rfl) ?_
  refine lv_iconst (v := (1 : Int32)) hx hb dX5_goDeeper_33 (by decide) ?_
  refine lv_iadd hx hb dX5_goDeeper_34 ?_
  refine lv_aload_n hx hb dX5_goDeeper_35 rfl (lv_at hl 0 rfl) ?_
  replace h := o_b h; obtain ⟨x36, h36, h⟩ := h
  refine m_get (C := RX5) (T := TX5) (N := 10) (ci := 5) hx hb hts qi_X5_goDeeper_X5 hown hK.1 hM 7 (ldR_F h36) rfl (by decide) (hts _ q_X5_goDeeper_5) (fun _ h9 => h9) dX5_goDeeper_36 ?_
  refine lv_iload_n hx hb dX5_goDeeper_39 rfl (lv_at hl 1 rfl) ?_
  replace h := o_b h; obtain ⟨x40, h40, h⟩ := h
  refine m_iald hx hb hK.1 hM hS rfl h40 dX5_goDeeper_40 ?_
  replace h := o_b h; obtain ⟨f41, h41, h⟩ := h
  refine m_iast hx hb hK.1 hM hS rfl h41 dX5_goDeeper_41 (fun H locs hM hS => ?_)
  refine lv_aload_n hx hb dX5_goDeeper_42 rfl (lv_at hl 0 rfl) ?_
  refine lv_iload_n hx hb dX5_goDeeper_43 rfl (lv_at hl 1 rfl) ?_
  refine lv_iconst (v := (1 : Int32)) hx hb dX5_goDeeper_44 (by decide) ?_
  refine lv_iadd hx hb dX5_goDeeper_45 ?_
  refine lv_iload_n hx hb dX5_goDeeper_46 rfl (lv_at hl 2 rfl) ?_
  replace h := o_b h; obtain ⟨_, k47, h⟩ := h
  replace h := o_b h; obtain ⟨q47, h47, h⟩ := h
  refine m_call (va_runV (As := [.int (v1 + (1 : Int32)), .int v2]) (rest := []) ⟨hx, hb, hml, hown, hts⟩ (c_X5_assume l D b0 sz h47) (cwV 2 hts gX5_goDeeper_X5_assume rfl rfl rfl (by decide +kernel) ⟨Nat.le_of_ble_eq_true rfl, Nat.le_of_ble_eq_true rfl⟩) ⟨PW.blind, m_recv (ci := 5) rfl hK hM k47, (fun U hU hW => ⟨rfl, PW.call hK hM hS hU hW⟩)⟩ rfl rfl hl.1 rfl (lv_room (Nat.le_of_ble_eq_true rfl)) dX5_goDeeper_47 ⟨(Nat.le_refl _), (Nat.le_refl _)⟩) hS (fun H locs hM hS => ?_)
  replace h := Option.some.inj h; subst h
  exact W.vret hx hb hr (fun t ht hW => ⟨rfl, by rw [ht]; exact hM.moved hW.alike, hS.F ht⟩) hS.2.2 dX5_goDeeper_50
set_option maxHeartbeats 4000000 in
set_option maxRecDepth 100000 in
theorem c_X5_goDeeper (l : Launch) (D : mmD) (b0 sz : Nat) {v0 : Nat} {v1 : Int32} {v2 : Int32} {f : mmF} {res : mmF} (h : f_X5_goDeeper v0 v1 v2 f = some res) : Met l yX5_goDeeper wsX5_goDeeper ({ frames := 4, cells := 0, slots := 0, locals := 90 } : Room) (va_Pc [.ref v0, .int v1, .int v2] (PW D b0 f sz)) (QW D b0 none res sz) 0 0 (fun q => b0 ≤ q) := by
  refine Met.ofW (cc := cX5_goDeeper) (maxL := 3) (ret := none) (by decide) rfl ?_
  intro p e s m args below meth c s₁ B hml hv
  obtain ⟨rfl, hM, hK⟩ := hv
  have hl := lv_entry ([.ref v0, .int v1, .int v2]) (n := 3) (Nat.le_of_ble_eq_true rfl)
  rw [lg_entry_eq]
  generalize (lg_sl ([.ref v0, .int v1, .int v2]) ++ List.replicate (3 - (lg_sl ([.ref v0, .int v1, .int v2])).length) Slot.unset).toArray = ls at hl ⊢
  have hl : lv_has ls 3 [(0, .ref v0), (1, .int v1), (2, .int v2)] := hl
  exact w_X5_goDeeper ⟨B.exec, B.bytes, B.returns, hml, findClass_of_methodNamed B.named, atoms_spec (ws := wsX5_goDeeper) B.pre, B.notSynchronized, hK⟩ h s.heap [] ls hM va_S.rf hl
end S_X5_goDeeper
/-! X5_conclude -/
set_option maxRecDepth 20000 in
theorem qi_X5_conclude_X5 : ∀ w ∈ u_ws RX5 TX5 10, w ∈ wsX5_conclude := by decide +kernel
set_option maxRecDepth 20000 in
theorem q_X5_conclude_1 : Cond.fieldLink RX5 30 "StageTruths$Proof" "known" "LStageTruths$Known;" ∈ wsX5_conclude := by decide +kernel
set_option maxRecDepth 20000 in
theorem q_X5_conclude_2 : Cond.fieldLink RX5 43 "StageTruths$Proof" "used" "LStageTruths$PartSets;" ∈ wsX5_conclude := by decide +kernel
set_option maxRecDepth 20000 in
theorem q_X5_conclude_3 : Cond.fieldLink RX5 53 "StageTruths$Proof" "singles" "[I" ∈ wsX5_conclude := by decide +kernel
set_option maxRecDepth 20000 in
theorem q_X5_conclude_4 : Cond.fieldLink RX5 14 "StageTruths$Proof" "models" "LStageTruths$SmallModels;" ∈ wsX5_conclude := by decide +kernel
noncomputable def f_X5_conclude (v0 : Nat) (v1 : Int32) (v2 : Int32) (v3 : Int32) (f : mmF) : Option (mmF) :=
  (ldR f v0 5 2).bind fun x1 =>
  (ldR f v0 5 4).bind fun x6 =>
  (ckO f x1 2).bind fun _ =>
  (f_X2_conclude x1 v2 x6 (v1 + (1 : Int32)) v3 f).bind fun q13 =>
  if v1 < 0 then
  (some (q13))
  else
  if (153 : Int32) ≤ v1 then
  (some (q13))
  else
  (ldR q13 v0 5 7).bind fun x28 =>
  (ldA 0 q13 x28 v1).bind fun x33 =>
  (ldR q13 v0 5 0).bind fun x35 =>
  (ckO q13 x35 6).bind fun _ =>
  (f_X6_singles x35 v2 q13).bind fun q39 =>
  (stA 0 q13 x28 v1 (x33 &&& q39)).bind fun f43 =>
  some (f43)
section S_X5_conclude
variable {p : Program} {l : Launch} {e : Env} {s : State} {m : MethodId} {args : Array Value} {below : List Frame} {meth : Method} {c : Code} {D : mmD} {b0 sz : Nat} {f : mmF}
set_option maxHeartbeats 4000000 in
set_option maxRecDepth 100000 in
theorem w_X5_conclude (C0 : CX cX5_conclude 4 none wsX5_conclude RX5 p s m args meth c D b0) {v0 : Nat} {v1 : Int32} {v2 : Int32} {v3 : Int32} {res : mmF} (h : f_X5_conclude v0 v1 v2 v3 f = some res) : ∀ (H : Heap) (locs : List Loc) (ls : Array Slot), MM vwCl D b0 f sz s H → mS b0 s H locs → lv_has ls 4 [(0, .ref v0), (1, .int v1), (2, .int v2), (3, .int v3)] → W p l e ({ frames := 3, cells := 0, slots := 0, locals := 73 } : Room) s m args below meth c H locs 0 0 (MQ below (QW D b0 none res sz) args s 0 0 (fun q => b0 ≤ q)) (F0 m 0 ls []) := by
  obtain ⟨hx, hb, hr, hml, hown, hts, hlocks, hK⟩ := id C0
  intro H locs ls hM hS hl
  unfold f_X5_conclude at h
  refine lv_aload_n hx hb dX5_conclude_0 rfl (lv_at hl 0 rfl) ?_
  replace h := o_b h; obtain ⟨x1, h1, h⟩ := h
  refine m_get (C := RX5) (T := TX5) (N := 10) (ci := 5) hx hb hts qi_X5_conclude_X5 hown hK.1 hM 2 (ldR_F h1) rfl (by decide) (hts _ q_X5_conclude_1) (fun _ h9 => h9) dX5_conclude_1 ?_
  refine lv_iload_n hx hb dX5_conclude_4 rfl (lv_at hl 2 rfl) ?_
  refine lv_aload_n hx hb dX5_conclude_5 rfl (lv_at hl 0 rfl) ?_
  replace h := o_b h; obtain ⟨x6, h6, h⟩ := h
  refine m_get (C := RX5) (T := TX5) (N := 10) (ci := 5) hx hb hts qi_X5_conclude_X5 hown hK.1 hM 4 (ldR_F h6) rfl (by decide) (hts _ q_X5_conclude_2) (fun _ h9 => h9) dX5_conclude_6 ?_
  refine lv_iload_n hx hb dX5_conclude_9 rfl (lv_at hl 1 rfl) ?_
  refine lv_iconst (v := (1 : Int32)) hx hb dX5_conclude_10 (by decide) ?_
  refine lv_iadd hx hb dX5_conclude_11 ?_
  refine lv_iload_n hx hb dX5_conclude_12 rfl (lv_at hl 3 rfl) ?_
  replace h := o_b h; obtain ⟨_, k13, h⟩ := h
  replace h := o_b h; obtain ⟨q13, h13, h⟩ := h
  refine m_call (va_runV (As := [.int v2, .ref x6, .int (v1 + (1 : Int32)), .int v3]) (rest := []) ⟨hx, hb, hml, hown, hts⟩ (c_X2_conclude l D b0 sz h13) (cwV 4 hts gX5_conclude_X2_conclude rfl rfl rfl (by decide +kernel) ⟨Nat.le_of_ble_eq_true rfl, Nat.le_of_ble_eq_true rfl⟩) ⟨PW.blind, m_recv (ci := 2) rfl hK hM k13, (fun U hU hW => ⟨rfl, PW.call hK hM hS hU hW⟩)⟩ rfl rfl hl.1 rfl (lv_room (Nat.le_of_ble_eq_true rfl)) dX5_conclude_13 ⟨(Nat.le_refl _), (Nat.le_refl _)⟩) hS (fun H locs hM hS => ?_)
  refine lv_iload_n hx hb dX5_conclude_16 rfl (lv_at hl 1 rfl) ?_
  refine lv_if_lt (tgt := 44) hx hb dX5_conclude_17 (by decide) (fun c17 => ?_) (fun c17 => ?_)
  · replace h := o_t c17 h
    replace h := Option.some.inj h; subst h
    exact W.vret hx hb hr (fun t ht hW => ⟨rfl, by rw [ht]; exact hM.moved hW.alike, hS.F ht⟩) hS.2.2 dX5_conclude_44
  replace h := o_f c17 h
  refine lv_iload_n hx hb dX5_conclude_20 rfl (lv_at hl 1 rfl) ?_
  refine lv_sipush (v := (153 : Int32)) hx hb dX5_conclude_21 (by decide) ?_
  refine lv_icmp_ge (tgt := 44) hx hb dX5_conclude_24 (by decide) (fun c24 => ?_) (fun c24 => ?_)
  · replace h := o_t c24 h
    replace h := Option.some.inj h; subst h
    exact W.vret hx hb hr (fun t ht hW => ⟨rfl, by rw [ht]; exact hM.moved hW.alike, hS.F ht⟩) hS.2.2 dX5_conclude_44
  replace h := o_f c24 h
  refine lv_aload_n hx hb dX5_conclude_27 rfl (lv_at hl 0 rfl) ?_
  replace h := o_b h; obtain ⟨x28, h28, h⟩ := h
  refine m_get (C := RX5) (T := TX5) (N := 10) (ci := 5) hx hb hts qi_X5_conclude_X5 hown hK.1 hM 7 (ldR_F h28) rfl (by decide) (hts _ q_X5_conclude_3) (fun _ h9 => h9) dX5_conclude_28 ?_
  refine lv_iload_n hx hb dX5_conclude_31 rfl (lv_at hl 1 rfl) ?_
  refine lv_dup2_11 hx hb dX5_conclude_32 rfl rfl ?_
  replace h := o_b h; obtain ⟨x33, h33, h⟩ := h
  refine m_iald hx hb hK.1 hM hS rfl h33 dX5_conclude_33 ?_
  refine lv_aload_n hx hb dX5_conclude_34 rfl (lv_at hl 0 rfl) ?_
  replace h := o_b h; obtain ⟨x35, h35, h⟩ := h
  refine m_get (C := RX5) (T := TX5) (N := 10) (ci := 5) hx hb hts qi_X5_conclude_X5 hown hK.1 hM 0 (ldR_F h35) rfl (by decide) (hts _ q_X5_conclude_4) (fun _ h9 => h9) dX5_conclude_35 ?_
  refine lv_iload_n hx hb dX5_conclude_38 rfl (lv_at hl 2 rfl) ?_
  replace h := o_b h; obtain ⟨_, k39, h⟩ := h
  replace h := o_b h; obtain ⟨q39, h39, h⟩ := h
  refine m_call (va_runV (As := [.int v2]) (rest := [.int x33, .int v1, .ref x28]) ⟨hx, hb, hml, hown, hts⟩ (c_X6_singles l D b0 sz h39) (cwV 1 hts gX5_conclude_X6_singles rfl rfl rfl (by decide +kernel) ⟨Nat.le_of_ble_eq_true rfl, Nat.le_of_ble_eq_true rfl⟩) ⟨PW.blind, m_recv (ci := 6) rfl hK hM k39, (fun U hU hW => ⟨rfl, PW.call hK hM hS hU hW⟩)⟩ rfl rfl hl.1 rfl (lv_room (Nat.le_of_ble_eq_true rfl)) dX5_conclude_39 ⟨(Nat.le_refl _), (Nat.le_refl _)⟩) hS (fun H locs hM hS => ?_)
  refine lv_iand hx hb dX5_conclude_42 ?_
  replace h := o_b h; obtain ⟨f43, h43, h⟩ := h
  refine m_iast hx hb hK.1 hM hS rfl h43 dX5_conclude_43 (fun H locs hM hS => ?_)
  replace h := Option.some.inj h; subst h
  exact W.vret hx hb hr (fun t ht hW => ⟨rfl, by rw [ht]; exact hM.moved hW.alike, hS.F ht⟩) hS.2.2 dX5_conclude_44
set_option maxHeartbeats 4000000 in
set_option maxRecDepth 100000 in
theorem c_X5_conclude (l : Launch) (D : mmD) (b0 sz : Nat) {v0 : Nat} {v1 : Int32} {v2 : Int32} {v3 : Int32} {f : mmF} {res : mmF} (h : f_X5_conclude v0 v1 v2 v3 f = some res) : Met l yX5_conclude wsX5_conclude ({ frames := 3, cells := 0, slots := 0, locals := 73 } : Room) (va_Pc [.ref v0, .int v1, .int v2, .int v3] (PW D b0 f sz)) (QW D b0 none res sz) 0 0 (fun q => b0 ≤ q) := by
  refine Met.ofW (cc := cX5_conclude) (maxL := 4) (ret := none) (by decide) rfl ?_
  intro p e s m args below meth c s₁ B hml hv
  obtain ⟨rfl, hM, hK⟩ := hv
  have hl := lv_entry ([.ref v0, .int v1, .int v2, .int v3]) (n := 4) (Nat.le_of_ble_eq_true rfl)
  rw [lg_entry_eq]
  generalize (lg_sl ([.ref v0, .int v1, .int v2, .int v3]) ++ List.replicate (4 - (lg_sl ([.ref v0, .int v1, .int v2, .int v3])).length) Slot.unset).toArray = ls at hl ⊢
  have hl : lv_has ls 4 [(0, .ref v0), (1, .int v1), (2, .int v2), (3, .int v3)] := hl
  exact w_X5_conclude ⟨B.exec, B.bytes, B.returns, hml, findClass_of_methodNamed B.named, atoms_spec (ws := wsX5_conclude) B.pre, B.notSynchronized, hK⟩ h s.heap [] ls hM va_S.rf hl
end S_X5_conclude
/-! X5_meet -/
set_option maxRecDepth 20000 in
theorem qi_X5_meet_X5 : ∀ w ∈ u_ws RX5 TX5 10, w ∈ wsX5_meet := by decide +kernel
set_option maxRecDepth 20000 in
theorem q_X5_meet_1 : Cond.fieldLink RX5 50 "StageTruths$Proof" "found" "LStageTruths$PartSets;" ∈ wsX5_meet := by decide +kernel
set_option maxRecDepth 20000 in
theorem q_X5_meet_2 : Cond.fieldLink RX5 24 "StageTruths$Proof" "parts" "LStageTruths$Parts;" ∈ wsX5_meet := by decide +kernel
set_option maxRecDepth 20000 in
theorem qi_X5_meet_X4 : ∀ w ∈ u_ws RX4 TX4 8, w ∈ wsX5_meet := by decide +kernel
set_option maxRecDepth 20000 in
theorem q_X5_meet_4 : Cond.fieldLink RX5 163 "StageTruths$Parts" "size" "I" ∈ wsX5_meet := by decide +kernel
set_option maxRecDepth 20000 in
theorem q_X5_meet_5 : Cond.fieldLink RX5 59 "StageTruths$Proof" "met" "LStageTruths$Findings;" ∈ wsX5_meet := by decide +kernel
set_option maxRecDepth 20000 in
theorem q_X5_meet_6 : Cond.fieldLink RX5 115 "StageTruths$Parts" "left" "[I" ∈ wsX5_meet := by decide +kernel
set_option maxRecDepth 20000 in
theorem q_X5_meet_7 : Cond.fieldLink RX5 118 "StageTruths$Parts" "right" "[I" ∈ wsX5_meet := by decide +kernel
set_option maxRecDepth 20000 in
theorem q_X5_meet_8 : Cond.fieldLink RX5 108 "StageTruths$Parts" "kinds" "[I" ∈ wsX5_meet := by decide +kernel
set_option maxRecDepth 20000 in
theorem q_X5_meet_9 : Cond.fieldLink RX5 30 "StageTruths$Proof" "known" "LStageTruths$Known;" ∈ wsX5_meet := by decide +kernel
noncomputable def f_X5_meet_156 (k2 : Nat → Int32 → Int32 → mmF → Option (mmF))  (v0 : Nat) (v1 : Int32) (v2 : Int32) (f : mmF) : Option (mmF) :=
  k2 v0 v1 (v2 + (1 : Int32)) f
noncomputable def f_X5_meet_140 (k2 : Nat → Int32 → Int32 → mmF → Option (mmF))  (v0 : Nat) (v1 : Int32) (v2 : Int32) (t0 : Int32) (f : mmF) : Option (mmF) :=
  if t0 = 0 then
  ((ldR f v0 5 6).bind fun x148 =>
  (ckO f x148 3).bind fun _ =>
  (f_X3_remove x148 v1 v2 f).bind fun q153 =>
  f_X5_meet_156 k2 v0 v1 v2 q153)
  else
  f_X5_meet_156 k2 v0 v1 v2 f
noncomputable def f_X5_meet_135 (k2 : Nat → Int32 → Int32 → mmF → Option (mmF))  (v0 : Nat) (v1 : Int32) (v2 : Int32) (f : mmF) : Option (mmF) :=
  f_X5_meet_140 k2 v0 v1 v2 (1 : Int32) f
noncomputable def f_X5_meet_118 (k2 : Nat → Int32 → Int32 → mmF → Option (mmF))  (v0 : Nat) (v1 : Int32) (v2 : Int32) (f : mmF) : Option (mmF) :=
  f_X5_meet_140 k2 v0 v1 v2 (1 : Int32) f
noncomputable def f_X5_meet_98 (k2 : Nat → Int32 → Int32 → mmF → Option (mmF))  (v0 : Nat) (v1 : Int32) (v2 : Int32) (f : mmF) : Option (mmF) :=
  f_X5_meet_140 k2 v0 v1 v2 (0 : Int32) f
noncomputable def f_X5_meet_2   : Nat → Nat → Int32 → Int32 → mmF → Option (mmF)
  | 0, _, _, _, _ => none
  | n + 1, v0, v1, v2, f =>
    (ldR f v0 5 1).bind fun x4 =>
    (ldI f x4 4 0).bind fun x7 =>
    if x7 ≤ v2 then
    ((ldR f v0 5 8).bind fun x163 =>
    (ldR f v0 5 6).bind fun x167 =>
    (ckO f x163 1).bind fun _ =>
    (f_X1_add x163 x167 v1 (5 : Int32) f).bind fun q172 =>
    some (q172))
    else
    (ldR f v0 5 6).bind fun x14 =>
    (ldR f v0 5 1).bind fun x19 =>
    (ldR f x19 4 2).bind fun x22 =>
    (ldA 0 f x22 v2).bind fun x26 =>
    (ckO f x14 3).bind fun _ =>
    (f_X3_has x14 v1 x26 f).bind fun q27 =>
    (ldR f v0 5 6).bind fun x32 =>
    (ldR f v0 5 1).bind fun x37 =>
    (ldR f x37 4 3).bind fun x40 =>
    (ldA 0 f x40 v2).bind fun x44 =>
    (ckO f x32 3).bind fun _ =>
    (f_X3_has x32 v1 x44 f).bind fun q45 =>
    (ldR f v0 5 1).bind fun x51 =>
    (ldR f x51 4 1).bind fun x54 =>
    (ldA 0 f x54 v2).bind fun x58 =>
    if (5 : Int32) < x58 then
    (if x58 = (7 : Int32) then
    (if q27 = 0 then
    (f_X5_meet_98 (fun a0 a1 a2 a3 => f_X5_meet_2 n a0 a1 a2 a3) v0 v1 v2 f)
    else
    if q45 = 0 then
    (f_X5_meet_98 (fun a0 a1 a2 a3 => f_X5_meet_2 n a0 a1 a2 a3) v0 v1 v2 f)
    else
    f_X5_meet_140 (fun a0 a1 a2 a3 => f_X5_meet_2 n a0 a1 a2 a3) v0 v1 v2 (1 : Int32) f)
    else
    if x58 = (8 : Int32) then
    (if q27 = 0 then
    (if q45 = 0 then
    (f_X5_meet_140 (fun a0 a1 a2 a3 => f_X5_meet_2 n a0 a1 a2 a3) v0 v1 v2 (0 : Int32) f)
    else
    f_X5_meet_118 (fun a0 a1 a2 a3 => f_X5_meet_2 n a0 a1 a2 a3) v0 v1 v2 f)
    else
    f_X5_meet_118 (fun a0 a1 a2 a3 => f_X5_meet_2 n a0 a1 a2 a3) v0 v1 v2 f)
    else
    if q27 = 0 then
    (f_X5_meet_135 (fun a0 a1 a2 a3 => f_X5_meet_2 n a0 a1 a2 a3) v0 v1 v2 f)
    else
    if q45 = 0 then
    (f_X5_meet_140 (fun a0 a1 a2 a3 => f_X5_meet_2 n a0 a1 a2 a3) v0 v1 v2 (0 : Int32) f)
    else
    f_X5_meet_135 (fun a0 a1 a2 a3 => f_X5_meet_2 n a0 a1 a2 a3) v0 v1 v2 f)
    else
    (ldR f v0 5 2).bind fun x68 =>
    (ckO f x68 2).bind fun _ =>
    (f_X2_has x68 v2 f).bind fun q72 =>
    f_X5_meet_140 (fun a0 a1 a2 a3 => f_X5_meet_2 n a0 a1 a2 a3) v0 v1 v2 q72 f
noncomputable def f_X5_meet (v0 : Nat) (v1 : Int32) (f : mmF) : Option (mmF) :=
  f_X5_meet_2 FU v0 v1 (0 : Int32) f
section S_X5_meet
variable {p : Program} {l : Launch} {e : Env} {s : State} {m : MethodId} {args : Array Value} {below : List Frame} {meth : Method} {c : Code} {D : mmD} {b0 sz : Nat} {f : mmF}
set_option maxHeartbeats 4000000 in
set_option maxRecDepth 100000 in
theorem w_X5_meet_156 (C0 : CX cX5_meet 7 none wsX5_meet RX5 p s m args meth c D b0) {k2 : Nat → Int32 → Int32 → mmF → Option (mmF)} {res : mmF} (hk2 : ∀ (v0 : Nat) (v1 : Int32) (v2 : Int32) (f : mmF), k2 v0 v1 v2 f = some res → ∀ (H : Heap) (locs : List Loc) (ls : Array Slot), MM vwCl D b0 f sz s H → mS b0 s H locs → lv_has ls 7 [(0, .ref v0), (1, .int v1), (2, .int v2)] → W p l e ({ frames := 3, cells := 0, slots := 0, locals := 72 } : Room) s m args below meth c H locs 0 0 (MQ below (QW D b0 none res sz) args s 0 0 (fun q => b0 ≤ q)) (F0 m 2 ls [])) : ∀ (v0 : Nat) (v1 : Int32) (v2 : Int32) (f : mmF), f_X5_meet_156 k2 v0 v1 v2 f = some res → ∀ (H : Heap) (locs : List Loc) (ls : Array Slot), MM vwCl D b0 f sz s H → mS b0 s H locs → lv_has ls 7 [(0, .ref v0), (1, .int v1), (2, .int v2)] → W p l e ({ frames := 3, cells := 0, slots := 0, locals := 72 } : Room) s m args below meth c H locs 0 0 (MQ below (QW D b0 none res sz) args s 0 0 (fun q => b0 ≤ q)) (F0 m 156 ls []) := by
  obtain ⟨hx, hb, hr, hml, hown, hts, hlocks, hK⟩ := id C0
  intro v0 v1 v2 f h H locs ls hM hS hl
  unfold f_X5_meet_156 at h
  refine lv_iinc (v := (v2 + (1 : Int32))) (lv' := [(2, .int (v2 + (1 : Int32))), (0, .ref v0), (1, .int v1)]) hx hb dX5_meet_156 hl (k := 2) rfl rfl (by decide) rfl (fun ls hl => ?_)
  refine lv_goto (tgt := 2) hx hb dX5_meet_159 (by decide) ?_
  exact hk2 _ _ _ _ h _ _ _ hM hS (lv_sub hl [1, 2, 0] rfl)
set_option maxHeartbeats 4000000 in
set_option maxRecDepth 100000 in
theorem w_X5_meet_140 (C0 : CX cX5_meet 7 none wsX5_meet RX5 p s m args meth c D b0) {k2 : Nat → Int32 → Int32 → mmF → Option (mmF)} {res : mmF} (hk2 : ∀ (v0 : Nat) (v1 : Int32) (v2 : Int32) (f : mmF), k2 v0 v1 v2 f = some res → ∀ (H : Heap) (locs : List Loc) (ls : Array Slot), MM vwCl D b0 f sz s H → mS b0 s H locs → lv_has ls 7 [(0, .ref v0), (1, .int v1), (2, .int v2)] → W p l e ({ frames := 3, cells := 0, slots := 0, locals := 72 } : Room) s m args below meth c H locs 0 0 (MQ below (QW D b0 none res sz) args s 0 0 (fun q => b0 ≤ q)) (F0 m 2 ls [])) : ∀ (v0 : Nat) (v1 : Int32) (v2 : Int32) (t0 : Int32) (f : mmF), f_X5_meet_140 k2 v0 v1 v2 t0 f = some res → ∀ (H : Heap) (locs : List Loc) (ls : Array Slot), MM vwCl D b0 f sz s H → mS b0 s H locs → lv_has ls 7 [(0, .ref v0), (1, .int v1), (2, .int v2)] → W p l e ({ frames := 3, cells := 0, slots := 0, locals := 72 } : Room) s m args below meth c H locs 0 0 (MQ below (QW D b0 none res sz) args s 0 0 (fun q => b0 ≤ q)) (F0 m 140 ls [.int t0]) := by
  obtain ⟨hx, hb, hr, hml, hown, hts, hlocks, hK⟩ := id C0
  intro v0 v1 v2 t0 f h H locs ls hM hS hl
  unfold f_X5_meet_140 at h
  refine lv_istore (lv' := [(6, .int t0), (0, .ref v0), (1, .int v1), (2, .int v2)]) hx hb dX5_meet_140 hl (by decide) rfl (fun ls hl => ?_)
  refine lv_iload hx hb dX5_meet_142 (lv_at hl 0 rfl) ?_
  refine lv_if_ne (tgt := 156) hx hb dX5_meet_144 (by decide) (fun c144 => ?_) (fun c144 => ?_)
  · replace h := o_f c144 h
    exact w_X5_meet_156 C0 hk2 _ _ _ _ h _ _ _ hM hS (lv_sub hl [1, 2, 3] rfl)
  replace h := o_t c144 h
  refine lv_aload_n hx hb dX5_meet_147 rfl (lv_at hl 1 rfl) ?_
  replace h := o_b h; obtain ⟨x148, h148, h⟩ := h
  refine m_get (C := RX5) (T := TX5) (N := 10) (ci := 5) hx hb hts qi_X5_meet_X5 hown hK.1 hM 6 (ldR_F h148) rfl (by decide) (hts _ q_X5_meet_1) (fun _ h9 => h9) dX5_meet_148 ?_
  refine lv_iload_n hx hb dX5_meet_151 rfl (lv_at hl 2 rfl) ?_
  refine lv_iload_n hx hb dX5_meet_152 rfl (lv_at hl 3 rfl) ?_
  replace h := o_b h; obtain ⟨_, k153, h⟩ := h
  replace h := o_b h; obtain ⟨q153, h153, h⟩ := h
  refine m_call (va_runV (As := [.int v1, .int v2]) (rest := []) ⟨hx, hb, hml, hown, hts⟩ (c_X3_remove l D b0 sz h153) (cwV 2 hts gX5_meet_X3_remove rfl rfl rfl (by decide +kernel) ⟨Nat.le_of_ble_eq_true rfl, Nat.le_of_ble_eq_true rfl⟩) ⟨PW.blind, m_recv (ci := 3) rfl hK hM k153, (fun U hU hW => ⟨rfl, PW.call hK hM hS hU hW⟩)⟩ rfl rfl hl.1 rfl (lv_room (Nat.le_of_ble_eq_true rfl)) dX5_meet_153 ⟨(Nat.le_refl _), (Nat.le_refl _)⟩) hS (fun H locs hM hS => ?_)
  exact w_X5_meet_156 C0 hk2 _ _ _ _ h _ _ _ hM hS (lv_sub hl [1, 2, 3] rfl)
set_option maxHeartbeats 4000000 in
set_option maxRecDepth 100000 in
theorem w_X5_meet_135 (C0 : CX cX5_meet 7 none wsX5_meet RX5 p s m args meth c D b0) {k2 : Nat → Int32 → Int32 → mmF → Option (mmF)} {res : mmF} (hk2 : ∀ (v0 : Nat) (v1 : Int32) (v2 : Int32) (f : mmF), k2 v0 v1 v2 f = some res → ∀ (H : Heap) (locs : List Loc) (ls : Array Slot), MM vwCl D b0 f sz s H → mS b0 s H locs → lv_has ls 7 [(0, .ref v0), (1, .int v1), (2, .int v2)] → W p l e ({ frames := 3, cells := 0, slots := 0, locals := 72 } : Room) s m args below meth c H locs 0 0 (MQ below (QW D b0 none res sz) args s 0 0 (fun q => b0 ≤ q)) (F0 m 2 ls [])) : ∀ (v0 : Nat) (v1 : Int32) (v2 : Int32) (f : mmF), f_X5_meet_135 k2 v0 v1 v2 f = some res → ∀ (H : Heap) (locs : List Loc) (ls : Array Slot), MM vwCl D b0 f sz s H → mS b0 s H locs → lv_has ls 7 [(0, .ref v0), (1, .int v1), (2, .int v2)] → W p l e ({ frames := 3, cells := 0, slots := 0, locals := 72 } : Room) s m args below meth c H locs 0 0 (MQ below (QW D b0 none res sz) args s 0 0 (fun q => b0 ≤ q)) (F0 m 135 ls []) := by
  obtain ⟨hx, hb, hr, hml, hown, hts, hlocks, hK⟩ := id C0
  intro v0 v1 v2 f h H locs ls hM hS hl
  unfold f_X5_meet_135 at h
  refine lv_iconst (v := (1 : Int32)) hx hb dX5_meet_135 (by decide) ?_
  refine lv_goto (tgt := 140) hx hb dX5_meet_136 (by decide) ?_
  exact w_X5_meet_140 C0 hk2 _ _ _ _ _ h _ _ _ hM hS (lv_sub hl [0, 1, 2] rfl)
set_option maxHeartbeats 4000000 in
set_option maxRecDepth 100000 in
theorem w_X5_meet_118 (C0 : CX cX5_meet 7 none wsX5_meet RX5 p s m args meth c D b0) {k2 : Nat → Int32 → Int32 → mmF → Option (mmF)} {res : mmF} (hk2 : ∀ (v0 : Nat) (v1 : Int32) (v2 : Int32) (f : mmF), k2 v0 v1 v2 f = some res → ∀ (H : Heap) (locs : List Loc) (ls : Array Slot), MM vwCl D b0 f sz s H → mS b0 s H locs → lv_has ls 7 [(0, .ref v0), (1, .int v1), (2, .int v2)] → W p l e ({ frames := 3, cells := 0, slots := 0, locals := 72 } : Room) s m args below meth c H locs 0 0 (MQ below (QW D b0 none res sz) args s 0 0 (fun q => b0 ≤ q)) (F0 m 2 ls [])) : ∀ (v0 : Nat) (v1 : Int32) (v2 : Int32) (f : mmF), f_X5_meet_118 k2 v0 v1 v2 f = some res → ∀ (H : Heap) (locs : List Loc) (ls : Array Slot), MM vwCl D b0 f sz s H → mS b0 s H locs → lv_has ls 7 [(0, .ref v0), (1, .int v1), (2, .int v2)] → W p l e ({ frames := 3, cells := 0, slots := 0, locals := 72 } : Room) s m args below meth c H locs 0 0 (MQ below (QW D b0 none res sz) args s 0 0 (fun q => b0 ≤ q)) (F0 m 118 ls []) := by
  obtain ⟨hx, hb, hr, hml, hown, hts, hlocks, hK⟩ := id C0
  intro v0 v1 v2 f h H locs ls hM hS hl
  unfold f_X5_meet_118 at h
  refine lv_iconst (v := (1 : Int32)) hx hb dX5_meet_118 (by decide) ?_
  refine lv_goto (tgt := 140) hx hb dX5_meet_119 (by decide) ?_
  exact w_X5_meet_140 C0 hk2 _ _ _ _ _ h _ _ _ hM hS (lv_sub hl [0, 1, 2] rfl)
set_option maxHeartbeats 4000000 in
set_option maxRecDepth 100000 in
theorem w_X5_meet_98 (C0 : CX cX5_meet 7 none wsX5_meet RX5 p s m args meth c D b0) {k2 : Nat → Int32 → Int32 → mmF → Option (mmF)} {res : mmF} (hk2 : ∀ (v0 : Nat) (v1 : Int32) (v2 : Int32) (f : mmF), k2 v0 v1 v2 f = some res → ∀ (H : Heap) (locs : List Loc) (ls : Array Slot), MM vwCl D b0 f sz s H → mS b0 s H locs → lv_has ls 7 [(0, .ref v0), (1, .int v1), (2, .int v2)] → W p l e ({ frames := 3, cells := 0, slots := 0, locals := 72 } : Room) s m args below meth c H locs 0 0 (MQ below (QW D b0 none res sz) args s 0 0 (fun q => b0 ≤ q)) (F0 m 2 ls [])) : ∀ (v0 : Nat) (v1 : Int32) (v2 : Int32) (f : mmF), f_X5_meet_98 k2 v0 v1 v2 f = some res → ∀ (H : Heap) (locs : List Loc) (ls : Array Slot), MM vwCl D b0 f sz s H → mS b0 s H locs → lv_has ls 7 [(0, .ref v0), (1, .int v1), (2, .int v2)] → W p l e ({ frames := 3, cells := 0, slots := 0, locals := 72 } : Room) s m args below meth c H locs 0 0 (MQ below (QW D b0 none res sz) args s 0 0 (fun q => b0 ≤ q)) (F0 m 98 ls []) := by
  obtain ⟨hx, hb, hr, hml, hown, hts, hlocks, hK⟩ := id C0
  intro v0 v1 v2 f h H locs ls hM hS hl
  unfold f_X5_meet_98 at h
  refine lv_iconst (v := (0 : Int32)) hx hb dX5_meet_98 (by decide) ?_
  refine lv_goto (tgt := 140) hx hb dX5_meet_99 (by decide) ?_
  exact w_X5_meet_140 C0 hk2 _ _ _ _ _ h _ _ _ hM hS (lv_sub hl [0, 1, 2] rfl)
set_option maxHeartbeats 4000000 in
set_option maxRecDepth 100000 in
theorem w_X5_meet_2 (C0 : CX cX5_meet 7 none wsX5_meet RX5 p s m args meth c D b0) {res : mmF} : ∀ (n : Nat), ∀ (v0 : Nat) (v1 : Int32) (v2 : Int32) (f : mmF), f_X5_meet_2 n v0 v1 v2 f = some res → ∀ (H : Heap) (locs : List Loc) (ls : Array Slot), MM vwCl D b0 f sz s H → mS b0 s H locs → lv_has ls 7 [(0, .ref v0), (1, .int v1), (2, .int v2)] → W p l e ({ frames := 3, cells := 0, slots := 0, locals := 72 } : Room) s m args below meth c H locs 0 0 (MQ below (QW D b0 none res sz) args s 0 0 (fun q => b0 ≤ q)) (F0 m 2 ls []) := by
  obtain ⟨hx, hb, hr, hml, hown, hts, hlocks, hK⟩ := id C0
  intro n
  induction n with
  | zero =>
    intro v0 v1 v2 f h
    have h : (none : Option (mmF)) = some res := h
    cases h
  | succ n ih =>
    intro v0 v1 v2 f h H locs ls hM hS hl
    rw [f_X5_meet_2] at h
    refine lv_iload_n hx hb dX5_meet_2 rfl (lv_at hl 2 rfl) ?_
    refine lv_aload_n hx hb dX5_meet_3 rfl (lv_at hl 0 rfl) ?_
    replace h := o_b h; obtain ⟨x4, h4, h⟩ := h
    refine m_get (C := RX5) (T := TX5) (N := 10) (ci := 5) hx hb hts qi_X5_meet_X5 hown hK.1 hM 1 (ldR_F h4) rfl (by decide) (hts _ q_X5_meet_2) (fun _ h9 => h9) dX5_meet_4 ?_
    replace h := o_b h; obtain ⟨x7, h7, h⟩ := h
    refine m_get (C := RX4) (T := TX4) (N := 8) (ci := 4) hx hb hts qi_X5_meet_X4 hown hK.1 hM 0 (ldI_F h7) rfl (by decide) (hts _ q_X5_meet_4) (fun _ h9 => h9) dX5_meet_7 ?_
    refine lv_icmp_ge (tgt := 162) hx hb dX5_meet_10 (by decide) (fun c10 => ?_) (fun c10 => ?_)
    · replace h := o_t c10 h
      refine lv_aload_n hx hb dX5_meet_162 rfl (lv_at hl 0 rfl) ?_
      replace h := o_b h; obtain ⟨x163, h163, h⟩ := h
      refine m_get (C := RX5) (T := TX5) (N := 10) (ci := 5) hx hb hts qi_X5_meet_X5 hown hK.1 hM 8 (ldR_F h163) rfl (by decide) (hts _ q_X5_meet_5) (fun _ h9 => h9) dX5_meet_163 ?_
      refine lv_aload_n hx hb dX5_meet_166 rfl (lv_at hl 0 rfl) ?_
      replace h := o_b h; obtain ⟨x167, h167, h⟩ := h
      refine m_get (C := RX5) (T := TX5) (N := 10) (ci := 5) hx hb hts qi_X5_meet_X5 hown hK.1 hM 6 (ldR_F h167) rfl (by decide) (hts _ q_X5_meet_1) (fun _ h9 => h9) dX5_meet_167 ?_
      refine lv_iload_n hx hb dX5_meet_170 rfl (lv_at hl 1 rfl) ?_
      refine lv_iconst (v := (5 : Int32)) hx hb dX5_meet_171 (by decide) ?_
      replace h := o_b h; obtain ⟨_, k172, h⟩ := h
      replace h := o_b h; obtain ⟨q172, h172, h⟩ := h
      refine m_call (va_runV (As := [.ref x167, .int v1, .int (5 : Int32)]) (rest := []) ⟨hx, hb, hml, hown, hts⟩ (c_X1_add l D b0 sz h172) (cwV 3 hts gX5_meet_X1_add rfl rfl rfl (by decide +kernel) ⟨Nat.le_of_ble_eq_true rfl, Nat.le_of_ble_eq_true rfl⟩) ⟨PW.blind, m_recv (ci := 1) rfl hK hM k172, (fun U hU hW => ⟨rfl, PW.call hK hM hS hU hW⟩)⟩ rfl rfl hl.1 rfl (lv_room (Nat.le_of_ble_eq_true rfl)) dX5_meet_172 ⟨(Nat.le_refl _), (Nat.le_refl _)⟩) hS (fun H locs hM hS => ?_)
      replace h := Option.some.inj h; subst h
      exact W.vret hx hb hr (fun t ht hW => ⟨rfl, by rw [ht]; exact hM.moved hW.alike, hS.F ht⟩) hS.2.2 dX5_meet_175
    replace h := o_f c10 h
    refine lv_aload_n hx hb dX5_meet_13 rfl (lv_at hl 0 rfl) ?_
    replace h := o_b h; obtain ⟨x14, h14, h⟩ := h
    refine m_get (C := RX5) (T := TX5) (N := 10) (ci := 5) hx hb hts qi_X5_meet_X5 hown hK.1 hM 6 (ldR_F h14) rfl (by decide) (hts _ q_X5_meet_1) (fun _ h9 => h9) dX5_meet_14 ?_
    refine lv_iload_n hx hb dX5_meet_17 rfl (lv_at hl 1 rfl) ?_
    refine lv_aload_n hx hb dX5_meet_18 rfl (lv_at hl 0 rfl) ?_
    replace h := o_b h; obtain ⟨x19, h19, h⟩ := h
    refine m_get (C := RX5) (T := TX5) (N := 10) (ci := 5) hx hb hts qi_X5_meet_X5 hown hK.1 hM 1 (ldR_F h19) rfl (by decide) (hts _ q_X5_meet_2) (fun _ h9 => h9) dX5_meet_19 ?_
    replace h := o_b h; obtain ⟨x22, h22, h⟩ := h
    refine m_get (C := RX4) (T := TX4) (N := 8) (ci := 4) hx hb hts qi_X5_meet_X4 hown hK.1 hM 2 (ldR_F h22) rfl (by decide) (hts _ q_X5_meet_6) (fun _ h9 => h9) dX5_meet_22 ?_
    refine lv_iload_n hx hb dX5_meet_25 rfl (lv_at hl 2 rfl) ?_
    replace h := o_b h; obtain ⟨x26, h26, h⟩ := h
    refine m_iald hx hb hK.1 hM hS rfl h26 dX5_meet_26 ?_
    replace h := o_b h; obtain ⟨_, k27, h⟩ := h
    replace h := o_b h; obtain ⟨q27, h27, h⟩ := h
    refine m_call (va_runV (As := [.int v1, .int x26]) (rest := []) ⟨hx, hb, hml, hown, hts⟩ (c_X3_has l D b0 sz h27) (cwV 2 hts gX5_meet_X3_has rfl rfl rfl (by decide +kernel) ⟨Nat.le_of_ble_eq_true rfl, Nat.le_of_ble_eq_true rfl⟩) ⟨PW.blind, m_recv (ci := 3) rfl hK hM k27, (fun U hU hW => ⟨rfl, PW.call hK hM hS hU hW⟩)⟩ rfl rfl hl.1 rfl (lv_room (Nat.le_of_ble_eq_true rfl)) dX5_meet_27 ⟨(Nat.le_refl _), (Nat.le_refl _)⟩) hS (fun H locs hM hS => ?_)
    refine lv_istore_n (lv' := [(3, .int q27), (0, .ref v0), (1, .int v1), (2, .int v2)]) hx hb dX5_meet_30 rfl hl (by decide) rfl (fun ls hl => ?_)
    refine lv_aload_n hx hb dX5_meet_31 rfl (lv_at hl 1 rfl) ?_
    replace h := o_b h; obtain ⟨x32, h32, h⟩ := h
    refine m_get (C := RX5) (T := TX5) (N := 10) (ci := 5) hx hb hts qi_X5_meet_X5 hown hK.1 hM 6 (ldR_F h32) rfl (by decide) (hts _ q_X5_meet_1) (fun _ h9 => h9) dX5_meet_32 ?_
    refine lv_iload_n hx hb dX5_meet_35 rfl (lv_at hl 2 rfl) ?_
    refine lv_aload_n hx hb dX5_meet_36 rfl (lv_at hl 1 rfl) ?_
    replace h := o_b h; obtain ⟨x37, h37, h⟩ := h
    refine m_get (C := RX5) (T := TX5) (N := 10) (ci := 5) hx hb hts qi_X5_meet_X5 hown hK.1 hM 1 (ldR_F h37) rfl (by decide) (hts _ q_X5_meet_2) (fun _ h9 => h9) dX5_meet_37 ?_
    replace h := o_b h; obtain ⟨x40, h40, h⟩ := h
    refine m_get (C := RX4) (T := TX4) (N := 8) (ci := 4) hx hb hts qi_X5_meet_X4 hown hK.1 hM 3 (ldR_F h40) rfl (by decide) (hts _ q_X5_meet_7) (fun _ h9 => h9) dX5_meet_40 ?_
    refine lv_iload_n hx hb dX5_meet_43 rfl (lv_at hl 3 rfl) ?_
    replace h := o_b h; obtain ⟨x44, h44, h⟩ := h
    refine m_iald hx hb hK.1 hM hS rfl h44 dX5_meet_44 ?_
    replace h := o_b h; obtain ⟨_, k45, h⟩ := h
    replace h := o_b h; obtain ⟨q45, h45, h⟩ := h
    refine m_call (va_runV (As := [.int v1, .int x44]) (rest := []) ⟨hx, hb, hml, hown, hts⟩ (c_X3_has l D b0 sz h45) (cwV 2 hts gX5_meet_X3_has rfl rfl rfl (by decide +kernel) ⟨Nat.le_of_ble_eq_true rfl, Nat.le_of_ble_eq_true rfl⟩) ⟨PW.blind, m_recv (ci := 3) rfl hK hM k45, (fun U hU hW => ⟨rfl, PW.call hK hM hS hU hW⟩)⟩ rfl rfl hl.1 rfl (lv_room (Nat.le_of_ble_eq_true rfl)) dX5_meet_45 ⟨(Nat.le_refl _), (Nat.le_refl _)⟩) hS (fun H locs hM hS => ?_)
    refine lv_istore (lv' := [(4, .int q45), (3, .int q27), (0, .ref v0), (1, .int v1), (2, .int v2)]) hx hb dX5_meet_48 hl (by decide) rfl (fun ls hl => ?_)
    refine lv_aload_n hx hb dX5_meet_50 rfl (lv_at hl 2 rfl) ?_
    replace h := o_b h; obtain ⟨x51, h51, h⟩ := h
    refine m_get (C := RX5) (T := TX5) (N := 10) (ci := 5) hx hb hts qi_X5_meet_X5 hown hK.1 hM 1 (ldR_F h51) rfl (by decide) (hts _ q_X5_meet_2) (fun _ h9 => h9) dX5_meet_51 ?_
    replace h := o_b h; obtain ⟨x54, h54, h⟩ := h
    refine m_get (C := RX4) (T := TX4) (N := 8) (ci := 4) hx hb hts qi_X5_meet_X4 hown hK.1 hM 1 (ldR_F h54) rfl (by decide) (hts _ q_X5_meet_8) (fun _ h9 => h9) dX5_meet_54 ?_
    refine lv_iload_n hx hb dX5_meet_57 rfl (lv_at hl 4 rfl) ?_
    replace h := o_b h; obtain ⟨x58, h58, h⟩ := h
    refine m_iald hx hb hK.1 hM hS rfl h58 dX5_meet_58 ?_
    refine lv_istore (lv' := [(5, .int x58), (4, .int q45), (3, .int q27), (0, .ref v0), (1, .int v1), (2, .int v2)]) hx hb dX5_meet_59 hl (by decide) rfl (fun ls hl => ?_)
    refine lv_iload hx hb dX5_meet_61 (lv_at hl 0 rfl) ?_
    refine lv_iconst (v := (5 : Int32)) hx hb dX5_meet_63 (by decide) ?_
    refine lv_icmp_gt (tgt := 78) hx hb dX5_meet_64 (by decide) (fun c64 => ?_) (fun c64 => ?_)
    · replace h := o_t c64 h
      refine lv_iload hx hb dX5_meet_78 (lv_at hl 0 rfl) ?_
      refine lv_bipush (v := (7 : Int32)) hx hb dX5_meet_80 (by decide) ?_
      refine lv_icmp_ne (tgt := 102) hx hb dX5_meet_82 (by decide) (fun c82 => ?_) (fun c82 => ?_)
      · replace h := o_f c82 h
        refine lv_iload hx hb dX5_meet_102 (lv_at hl 0 rfl) ?_
        refine lv_bipush (v := (8 : Int32)) hx hb dX5_meet_104 (by decide) ?_
        refine lv_icmp_ne (tgt := 126) hx hb dX5_meet_106 (by decide) (fun c106 => ?_) (fun c106 => ?_)
        · replace h := o_f c106 h
          refine lv_iload_n hx hb dX5_meet_126 rfl (lv_at hl 2 rfl) ?_
          refine lv_if_eq (tgt := 135) hx hb dX5_meet_127 (by decide) (fun c127 => ?_) (fun c127 => ?_)
          · replace h := o_t c127 h
            exact w_X5_meet_135 C0 ih _ _ _ _ h _ _ _ hM hS (lv_sub hl [3, 4, 5] rfl)
          replace h := o_f c127 h
          refine lv_iload hx hb dX5_meet_130 (lv_at hl 1 rfl) ?_
          refine lv_if_eq (tgt := 139) hx hb dX5_meet_132 (by decide) (fun c132 => ?_) (fun c132 => ?_)
          · replace h := o_t c132 h
            refine lv_iconst (v := (0 : Int32)) hx hb dX5_meet_139 (by decide) ?_
            exact w_X5_meet_140 C0 ih _ _ _ _ _ h _ _ _ hM hS (lv_sub hl [3, 4, 5] rfl)
          replace h := o_f c132 h
          exact w_X5_meet_135 C0 ih _ _ _ _ h _ _ _ hM hS (lv_sub hl [3, 4, 5] rfl)
        replace h := o_t c106 h
        refine lv_iload_n hx hb dX5_meet_109 rfl (lv_at hl 2 rfl) ?_
        refine lv_if_ne (tgt := 118) hx hb dX5_meet_110 (by decide) (fun c110 => ?_) (fun c110 => ?_)
        · replace h := o_f c110 h
          exact w_X5_meet_118 C0 ih _ _ _ _ h _ _ _ hM hS (lv_sub hl [3, 4, 5] rfl)
        replace h := o_t c110 h
        refine lv_iload hx hb dX5_meet_113 (lv_at hl 1 rfl) ?_
        refine lv_if_eq (tgt := 122) hx hb dX5_meet_115 (by decide) (fun c115 => ?_) (fun c115 => ?_)
        · replace h := o_t c115 h
          refine lv_iconst (v := (0 : Int32)) hx hb dX5_meet_122 (by decide) ?_
          refine lv_goto (tgt := 140) hx hb dX5_meet_123 (by decide) ?_
          exact w_X5_meet_140 C0 ih _ _ _ _ _ h _ _ _ hM hS (lv_sub hl [3, 4, 5] rfl)
        replace h := o_f c115 h
        exact w_X5_meet_118 C0 ih _ _ _ _ h _ _ _ hM hS (lv_sub hl [3, 4, 5] rfl)
      replace h := o_t c82 h
      refine lv_iload_n hx hb dX5_meet_85 rfl (lv_at hl 2 rfl) ?_
      refine lv_if_eq (tgt := 98) hx hb dX5_meet_86 (by decide) (fun c86 => ?_) (fun c86 => ?_)
      · replace h := o_t c86 h
        exact w_X5_meet_98 C0 ih _ _ _ _ h _ _ _ hM hS (lv_sub hl [3, 4, 5] rfl)
      replace h := o_f c86 h
      refine lv_iload hx hb dX5_meet_89 (lv_at hl 1 rfl) ?_
      refine lv_if_eq (tgt := 98) hx hb dX5_meet_91 (by decide) (fun c91 => ?_) (fun c91 => ?_)
      · replace h := o_t c91 h
        exact w_X5_meet_98 C0 ih _ _ _ _ h _ _ _ hM hS (lv_sub hl [3, 4, 5] rfl)
      replace h := o_f c91 h
      refine lv_iconst (v := (1 : Int32)) hx hb dX5_meet_94 (by decide) ?_
      refine lv_goto (tgt := 140) hx hb dX5_meet_95 (by decide) ?_
      exact w_X5_meet_140 C0 ih _ _ _ _ _ h _ _ _ hM hS (lv_sub hl [3, 4, 5] rfl)
    replace h := o_f c64 h
    refine lv_aload_n hx hb dX5_meet_67 rfl (lv_at hl 3 rfl) ?_
    replace h := o_b h; obtain ⟨x68, h68, h⟩ := h
    refine m_get (C := RX5) (T := TX5) (N := 10) (ci := 5) hx hb hts qi_X5_meet_X5 hown hK.1 hM 2 (ldR_F h68) rfl (by decide) (hts _ q_X5_meet_9) (fun _ h9 => h9) dX5_meet_68 ?_
    refine lv_iload_n hx hb dX5_meet_71 rfl (lv_at hl 5 rfl) ?_
    replace h := o_b h; obtain ⟨_, k72, h⟩ := h
    replace h := o_b h; obtain ⟨q72, h72, h⟩ := h
    refine m_call (va_runV (As := [.int v2]) (rest := []) ⟨hx, hb, hml, hown, hts⟩ (c_X2_has l D b0 sz h72) (cwV 1 hts gX5_meet_X2_has rfl rfl rfl (by decide +kernel) ⟨Nat.le_of_ble_eq_true rfl, Nat.le_of_ble_eq_true rfl⟩) ⟨PW.blind, m_recv (ci := 2) rfl hK hM k72, (fun U hU hW => ⟨rfl, PW.call hK hM hS hU hW⟩)⟩ rfl rfl hl.1 rfl (lv_room (Nat.le_of_ble_eq_true rfl)) dX5_meet_72 ⟨(Nat.le_refl _), (Nat.le_refl _)⟩) hS (fun H locs hM hS => ?_)
    refine lv_goto (tgt := 140) hx hb dX5_meet_75 (by decide) ?_
    exact w_X5_meet_140 C0 ih _ _ _ _ _ h _ _ _ hM hS (lv_sub hl [3, 4, 5] rfl)
set_option maxHeartbeats 4000000 in
set_option maxRecDepth 100000 in
theorem w_X5_meet (C0 : CX cX5_meet 7 none wsX5_meet RX5 p s m args meth c D b0) {v0 : Nat} {v1 : Int32} {res : mmF} (h : f_X5_meet v0 v1 f = some res) : ∀ (H : Heap) (locs : List Loc) (ls : Array Slot), MM vwCl D b0 f sz s H → mS b0 s H locs → lv_has ls 7 [(0, .ref v0), (1, .int v1)] → W p l e ({ frames := 3, cells := 0, slots := 0, locals := 72 } : Room) s m args below meth c H locs 0 0 (MQ below (QW D b0 none res sz) args s 0 0 (fun q => b0 ≤ q)) (F0 m 0 ls []) := by
  obtain ⟨hx, hb, hr, hml, hown, hts, hlocks, hK⟩ := id C0
  intro H locs ls hM hS hl
  unfold f_X5_meet at h
  refine lv_iconst (v := (0 : Int32)) hx hb dX5_meet_0 (by decide) ?_
  refine lv_istore_n (lv' := [(2, .int (0 : Int32)), (0, .ref v0), (1, .int v1)]) hx hb dX5_meet_1 rfl hl (by decide) rfl (fun ls hl => ?_)
  exact w_X5_meet_2 C0 FU _ _ _ _ h _ _ _ hM hS (lv_sub hl [1, 2, 0] rfl)
set_option maxHeartbeats 4000000 in
set_option maxRecDepth 100000 in
theorem c_X5_meet (l : Launch) (D : mmD) (b0 sz : Nat) {v0 : Nat} {v1 : Int32} {f : mmF} {res : mmF} (h : f_X5_meet v0 v1 f = some res) : Met l yX5_meet wsX5_meet ({ frames := 3, cells := 0, slots := 0, locals := 72 } : Room) (va_Pc [.ref v0, .int v1] (PW D b0 f sz)) (QW D b0 none res sz) 0 0 (fun q => b0 ≤ q) := by
  refine Met.ofW (cc := cX5_meet) (maxL := 7) (ret := none) (by decide) rfl ?_
  intro p e s m args below meth c s₁ B hml hv
  obtain ⟨rfl, hM, hK⟩ := hv
  have hl := lv_entry ([.ref v0, .int v1]) (n := 7) (Nat.le_of_ble_eq_true rfl)
  rw [lg_entry_eq]
  generalize (lg_sl ([.ref v0, .int v1]) ++ List.replicate (7 - (lg_sl ([.ref v0, .int v1])).length) Slot.unset).toArray = ls at hl ⊢
  have hl : lv_has ls 7 [(0, .ref v0), (1, .int v1)] := hl
  exact w_X5_meet ⟨B.exec, B.bytes, B.returns, hml, findClass_of_methodNamed B.named, atoms_spec (ws := wsX5_meet) B.pre, B.notSynchronized, hK⟩ h s.heap [] ls hM va_S.rf hl
end S_X5_meet
