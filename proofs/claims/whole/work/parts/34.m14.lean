/-! X10_shrink -/
set_option maxRecDepth 20000 in
theorem qi_X10_shrink_X10 : ∀ w ∈ u_ws RX10 TX10 25, w ∈ wsX10_shrink := by decide +kernel
set_option maxRecDepth 20000 in
theorem q_X10_shrink_1 : Cond.fieldLink RX10 7 "StageTruthsModel" "now" "[I" ∈ wsX10_shrink := by decide +kernel
set_option maxRecDepth 20000 in
theorem q_X10_shrink_2 : Cond.fieldLink RX10 22 "StageTruthsModel" "leadsThen" "[I" ∈ wsX10_shrink := by decide +kernel
set_option maxRecDepth 20000 in
theorem q_X10_shrink_3 : Cond.fieldLink RX10 19 "StageTruthsModel" "like" "[I" ∈ wsX10_shrink := by decide +kernel
noncomputable def f_X10_shrink_193 (k175 : Nat → Int32 → Int32 → mmF → Option (Int32 × mmF))  (v0 : Nat) (v2 : Int32) (v3 : Int32) (f : mmF) : Option (Int32 × mmF) :=
  k175 v0 v2 (v3 + (-1 : Int32)) f
noncomputable def f_X10_shrink_175   : Nat → Nat → Int32 → Int32 → mmF → Option (Int32 × mmF)
  | 0, _, _, _, _ => none
  | n + 1, v0, v2, v3, f =>
    if v3 < 0 then
    ((f_X10_bits v2 f).bind fun q200 =>
    some (q200, f))
    else
    if ((v2 >>> (v3 &&& 31)) &&& (1 : Int32)) = (1 : Int32) then
    ((ckO f v0 10).bind fun _ =>
    (f_X10_removes v0 v3 f).bind fun q190 =>
    f_X10_shrink_193 (fun a0 a1 a2 a3 => f_X10_shrink_175 n a0 a1 a2 a3) v0 v2 v3 q190)
    else
    f_X10_shrink_193 (fun a0 a1 a2 a3 => f_X10_shrink_175 n a0 a1 a2 a3) v0 v2 v3 f
noncomputable def f_X10_shrink_146   : Nat → Nat → Int32 → Int32 → Int32 → mmF → Option (Int32 × mmF)
  | 0, _, _, _, _, _ => none
  | n + 1, v0, v1, v2, v3, f =>
    if v1 ≤ v3 then
    (f_X10_shrink_175 FU v0 v2 (v1 - (1 : Int32)) f)
    else
    (ldR f v0 10 0).bind fun x152 =>
    (ldR f v0 10 6).bind fun x159 =>
    (ldA 0 f x159 v3).bind fun x163 =>
    (stA 0 f x152 ((0 : Int32) + v3) x163).bind fun f164 =>
    f_X10_shrink_146 n v0 v1 v2 (v3 + (1 : Int32)) f164
noncomputable def f_X10_shrink_121 (k16 : Nat → Int32 → Int32 → Int32 → mmF → Option (Int32 × mmF)) (k66 : Nat → Int32 → Int32 → Int32 → Int32 → Int32 → mmF → Option (Int32 × mmF))  (v0 : Nat) (v1 : Int32) (v2 : Int32) (v3 : Int32) (v4 : Int32) (v5 : Int32) (f : mmF) : Option (Int32 × mmF) :=
  k66 v0 v1 v2 v3 v4 (v5 + (1 : Int32)) f
noncomputable def f_X10_shrink_66 (k16 : Nat → Int32 → Int32 → Int32 → mmF → Option (Int32 × mmF))  : Nat → Nat → Int32 → Int32 → Int32 → Int32 → Int32 → mmF → Option (Int32 × mmF)
  | 0, _, _, _, _, _, _, _ => none
  | n + 1, v0, v1, v2, v3, v4, v5, f =>
    if v1 ≤ v5 then
    (k16 v0 v1 v2 (v3 + (1 : Int32)) f)
    else
    if v4 = 0 then
    (f_X10_shrink_121 k16 (fun a0 a1 a2 a3 a4 a5 a6 => f_X10_shrink_66 k16 n a0 a1 a2 a3 a4 a5 a6) v0 v1 v2 v3 v4 v5 f)
    else
    (ckO f v0 10).bind fun _ =>
    (f_X10_leadsTo v0 v3 v5 f).bind fun q81 =>
    if q81 = 0 then
    (f_X10_shrink_121 k16 (fun a0 a1 a2 a3 a4 a5 a6 => f_X10_shrink_66 k16 n a0 a1 a2 a3 a4 a5 a6) v0 v1 v2 v3 v4 v5 f)
    else
    (ldR f v0 10 5).bind fun x88 =>
    (ldA 0 f x88 v5).bind fun x93 =>
    (f_X10_lowest x93 f).bind fun q94 =>
    if v3 ≤ q94 then
    ((ldR f v0 10 6).bind fun x109 =>
    (ldA 0 f x109 v3).bind fun x114 =>
    (stA 0 f x109 v3 (x114 ||| ((1 : Int32) <<< (q94 &&& 31)))).bind fun f120 =>
    f_X10_shrink_121 k16 (fun a0 a1 a2 a3 a4 a5 a6 => f_X10_shrink_66 k16 n a0 a1 a2 a3 a4 a5 a6) v0 v1 v2 v3 v4 v5 f120)
    else
    some ((-4 : Int32), f)
noncomputable def f_X10_shrink_54 (k16 : Nat → Int32 → Int32 → Int32 → mmF → Option (Int32 × mmF))  (v0 : Nat) (v1 : Int32) (v3 : Int32) (v4 : Int32) (t0 : Int32) (t1 : Int32) (f : mmF) : Option (Int32 × mmF) :=
  (ldR f v0 10 6).bind fun x57 =>
  (stA 0 f x57 v3 (0 : Int32)).bind fun f62 =>
  f_X10_shrink_66 k16 FU v0 v1 (t0 ||| t1) v3 v4 (0 : Int32) f62
noncomputable def f_X10_shrink_39 (k16 : Nat → Int32 → Int32 → Int32 → mmF → Option (Int32 × mmF))  (v0 : Nat) (v1 : Int32) (v2 : Int32) (v3 : Int32) (t0 : Int32) (f : mmF) : Option (Int32 × mmF) :=
  if t0 = 0 then
  (f_X10_shrink_54 k16 v0 v1 v3 t0 v2 ((1 : Int32) <<< (v3 &&& 31)) f)
  else
  f_X10_shrink_54 k16 v0 v1 v3 t0 v2 (0 : Int32) f
noncomputable def f_X10_shrink_16   : Nat → Nat → Int32 → Int32 → Int32 → mmF → Option (Int32 × mmF)
  | 0, _, _, _, _, _ => none
  | n + 1, v0, v1, v2, v3, f =>
    if v1 ≤ v3 then
    (if v2 = 0 then
    (some ((-5 : Int32), f))
    else
    (ckO f v0 10).bind fun _ =>
    (f_X10_record v0 f).bind fun q141 =>
    f_X10_shrink_146 FU v0 v1 v2 (0 : Int32) q141)
    else
    (ldR f v0 10 5).bind fun x22 =>
    (ldA 0 f x22 v3).bind fun x26 =>
    (f_X10_lowest x26 f).bind fun q27 =>
    if q27 = v3 then
    (f_X10_shrink_39 (fun a0 a1 a2 a3 a4 => f_X10_shrink_16 n a0 a1 a2 a3 a4) v0 v1 v2 v3 (1 : Int32) f)
    else
    f_X10_shrink_39 (fun a0 a1 a2 a3 a4 => f_X10_shrink_16 n a0 a1 a2 a3 a4) v0 v1 v2 v3 (0 : Int32) f
noncomputable def f_X10_shrink (v0 : Nat) (f : mmF) : Option (Int32 × mmF) :=
  (ckO f v0 10).bind fun _ =>
  (f_X10_findsLike v0 f).bind fun q1 =>
  (ldR q1 v0 10 0).bind fun x5 =>
  (ldA 0 q1 x5 (16 : Int32)).bind fun x10 =>
  f_X10_shrink_16 FU v0 x10 (0 : Int32) (0 : Int32) q1
section S_X10_shrink
variable {p : Program} {l : Launch} {e : Env} {s : State} {m : MethodId} {args : Array Value} {below : List Frame} {meth : Method} {c : Code} {D : mmD} {b0 sz : Nat} {f : mmF}
set_option maxHeartbeats 4000000 in
set_option maxRecDepth 100000 in
theorem w_X10_shrink_193 (C0 : CX cX10_shrink 7 (some .int) wsX10_shrink RX10 p s m args meth c D b0) {k175 : Nat → Int32 → Int32 → mmF → Option (Int32 × mmF)} {res : Int32 × mmF} (hk175 : ∀ (v0 : Nat) (v2 : Int32) (v3 : Int32) (f : mmF), k175 v0 v2 v3 f = some res → ∀ (H : Heap) (locs : List Loc) (ls : Array Slot), MM vwCl D b0 f sz s H → mS b0 s H locs → lv_has ls 7 [(0, .ref v0), (2, .int v2), (3, .int v3)] → W p l e ({ frames := 3, cells := 0, slots := 0, locals := 69 } : Room) s m args below meth c H locs 0 0 (MQ below (QW D b0 (some (.int res.1)) res.2 sz) args s 0 0 (fun q => b0 ≤ q)) (F0 m 175 ls [])) : ∀ (v0 : Nat) (v2 : Int32) (v3 : Int32) (f : mmF), f_X10_shrink_193 k175 v0 v2 v3 f = some res → ∀ (H : Heap) (locs : List Loc) (ls : Array Slot), MM vwCl D b0 f sz s H → mS b0 s H locs → lv_has ls 7 [(0, .ref v0), (2, .int v2), (3, .int v3)] → W p l e ({ frames := 3, cells := 0, slots := 0, locals := 69 } : Room) s m args below meth c H locs 0 0 (MQ below (QW D b0 (some (.int res.1)) res.2 sz) args s 0 0 (fun q => b0 ≤ q)) (F0 m 193 ls []) := by
  obtain ⟨hx, hb, hr, hml, hown, hts, hlocks, hK⟩ := id C0
  intro v0 v2 v3 f h H locs ls hM hS hl
  unfold f_X10_shrink_193 at h
  refine lv_iinc (v := (v3 + (-1 : Int32))) (lv' := [(3, .int (v3 + (-1 : Int32))), (0, .ref v0), (2, .int v2)]) hx hb dX10_shrink_193 hl (k := 2) rfl rfl (by decide) rfl (fun ls hl => ?_)
  refine lv_goto (tgt := 175) hx hb dX10_shrink_196 (by decide) ?_
  exact hk175 _ _ _ _ h _ _ _ hM hS (lv_sub hl [1, 2, 0] rfl)
set_option maxHeartbeats 4000000 in
set_option maxRecDepth 100000 in
theorem w_X10_shrink_175 (C0 : CX cX10_shrink 7 (some .int) wsX10_shrink RX10 p s m args meth c D b0) {res : Int32 × mmF} : ∀ (n : Nat), ∀ (v0 : Nat) (v2 : Int32) (v3 : Int32) (f : mmF), f_X10_shrink_175 n v0 v2 v3 f = some res → ∀ (H : Heap) (locs : List Loc) (ls : Array Slot), MM vwCl D b0 f sz s H → mS b0 s H locs → lv_has ls 7 [(0, .ref v0), (2, .int v2), (3, .int v3)] → W p l e ({ frames := 3, cells := 0, slots := 0, locals := 69 } : Room) s m args below meth c H locs 0 0 (MQ below (QW D b0 (some (.int res.1)) res.2 sz) args s 0 0 (fun q => b0 ≤ q)) (F0 m 175 ls []) := by
  obtain ⟨hx, hb, hr, hml, hown, hts, hlocks, hK⟩ := id C0
  intro n
  induction n with
  | zero =>
    intro v0 v2 v3 f h
    have h : (none : Option (Int32 × mmF)) = some res := h
    cases h
  | succ n ih =>
    intro v0 v2 v3 f h H locs ls hM hS hl
    rw [f_X10_shrink_175] at h
    refine lv_iload_n hx hb dX10_shrink_175 rfl (lv_at hl 2 rfl) ?_
    refine lv_if_lt (tgt := 199) hx hb dX10_shrink_176 (by decide) (fun c176 => ?_) (fun c176 => ?_)
    · replace h := o_t c176 h
      refine lv_iload_n hx hb dX10_shrink_199 rfl (lv_at hl 1 rfl) ?_
      replace h := o_b h; obtain ⟨q200, h200, h⟩ := h
      refine m_call (va_runS (As := [.int v2]) (rest := []) ⟨hx, hb, hml, hown, hts⟩ (c_X10_bits l D b0 sz h200) (va_cwS 1 hts gX10_shrink_X10_bits rfl rfl rfl (by decide +kernel) ⟨Nat.le_of_ble_eq_true rfl, Nat.le_of_ble_eq_true rfl⟩) ⟨PW.blind, (fun U hU hW => ⟨rfl, PW.call hK hM hS hU hW⟩)⟩ rfl rfl hl.1 rfl (lv_room (Nat.le_of_ble_eq_true rfl)) dX10_shrink_200 ⟨(Nat.le_refl _), (Nat.le_refl _)⟩) hS (fun H locs hM hS => ?_)
      replace h := Option.some.inj h; subst h
      exact W.iret hx hb hr (fun t ht hW => ⟨rfl, by rw [ht]; exact hM.moved hW.alike, hS.F ht⟩) hS.2.2 dX10_shrink_203
    replace h := o_f c176 h
    refine lv_iload_n hx hb dX10_shrink_179 rfl (lv_at hl 1 rfl) ?_
    refine lv_iload_n hx hb dX10_shrink_180 rfl (lv_at hl 2 rfl) ?_
    refine lv_ishr hx hb dX10_shrink_181 ?_
    refine lv_iconst (v := (1 : Int32)) hx hb dX10_shrink_182 (by decide) ?_
    refine lv_iand hx hb dX10_shrink_183 ?_
    refine lv_iconst (v := (1 : Int32)) hx hb dX10_shrink_184 (by decide) ?_
    refine lv_icmp_ne (tgt := 193) hx hb dX10_shrink_185 (by decide) (fun c185 => ?_) (fun c185 => ?_)
    · replace h := o_f c185 h
      exact w_X10_shrink_193 C0 ih _ _ _ _ h _ _ _ hM hS (lv_sub hl [0, 1, 2] rfl)
    replace h := o_t c185 h
    refine lv_aload_n hx hb dX10_shrink_188 rfl (lv_at hl 0 rfl) ?_
    refine lv_iload_n hx hb dX10_shrink_189 rfl (lv_at hl 2 rfl) ?_
    replace h := o_b h; obtain ⟨_, k190, h⟩ := h
    replace h := o_b h; obtain ⟨q190, h190, h⟩ := h
    refine m_call (va_runV (As := [.int v3]) (rest := []) ⟨hx, hb, hml, hown, hts⟩ (c_X10_removes l D b0 sz h190) (cwV 1 hts gX10_shrink_X10_removes rfl rfl rfl (by decide +kernel) ⟨Nat.le_of_ble_eq_true rfl, Nat.le_of_ble_eq_true rfl⟩) ⟨PW.blind, m_recv (ci := 10) rfl hK hM k190, (fun U hU hW => ⟨rfl, PW.call hK hM hS hU hW⟩)⟩ rfl rfl hl.1 rfl (lv_room (Nat.le_of_ble_eq_true rfl)) dX10_shrink_190 ⟨(Nat.le_refl _), (Nat.le_refl _)⟩) hS (fun H locs hM hS => ?_)
    exact w_X10_shrink_193 C0 ih _ _ _ _ h _ _ _ hM hS (lv_sub hl [0, 1, 2] rfl)
set_option maxHeartbeats 4000000 in
set_option maxRecDepth 100000 in
theorem w_X10_shrink_146 (C0 : CX cX10_shrink 7 (some .int) wsX10_shrink RX10 p s m args meth c D b0) {res : Int32 × mmF} : ∀ (n : Nat), ∀ (v0 : Nat) (v1 : Int32) (v2 : Int32) (v3 : Int32) (f : mmF), f_X10_shrink_146 n v0 v1 v2 v3 f = some res → ∀ (H : Heap) (locs : List Loc) (ls : Array Slot), MM vwCl D b0 f sz s H → mS b0 s H locs → lv_has ls 7 [(0, .ref v0), (1, .int v1), (2, .int v2), (3, .int v3)] → W p l e ({ frames := 3, cells := 0, slots := 0, locals := 69 } : Room) s m args below meth c H locs 0 0 (MQ below (QW D b0 (some (.int res.1)) res.2 sz) args s 0 0 (fun q => b0 ≤ q)) (F0 m 146 ls []) := by
  obtain ⟨hx, hb, hr, hml, hown, hts, hlocks, hK⟩ := id C0
  intro n
  induction n with
  | zero =>
    intro v0 v1 v2 v3 f h
    have h : (none : Option (Int32 × mmF)) = some res := h
    cases h
  | succ n ih =>
    intro v0 v1 v2 v3 f h H locs ls hM hS hl
    rw [f_X10_shrink_146] at h
    refine lv_iload_n hx hb dX10_shrink_146 rfl (lv_at hl 3 rfl) ?_
    refine lv_iload_n hx hb dX10_shrink_147 rfl (lv_at hl 1 rfl) ?_
    refine lv_icmp_ge (tgt := 171) hx hb dX10_shrink_148 (by decide) (fun c148 => ?_) (fun c148 => ?_)
    · replace h := o_t c148 h
      refine lv_iload_n hx hb dX10_shrink_171 rfl (lv_at hl 1 rfl) ?_
      refine lv_iconst (v := (1 : Int32)) hx hb dX10_shrink_172 (by decide) ?_
      refine lv_isub hx hb dX10_shrink_173 ?_
      refine lv_istore_n (lv' := [(3, .int (v1 - (1 : Int32))), (0, .ref v0), (1, .int v1), (2, .int v2)]) hx hb dX10_shrink_174 rfl hl (by decide) rfl (fun ls hl => ?_)
      exact w_X10_shrink_175 C0 FU _ _ _ _ h _ _ _ hM hS (lv_sub hl [1, 3, 0] rfl)
    replace h := o_f c148 h
    refine lv_aload_n hx hb dX10_shrink_151 rfl (lv_at hl 0 rfl) ?_
    replace h := o_b h; obtain ⟨x152, h152, h⟩ := h
    refine m_get (C := RX10) (T := TX10) (N := 25) (ci := 10) hx hb hts qi_X10_shrink_X10 hown hK.1 hM 0 (ldR_F h152) rfl (by decide) (hts _ q_X10_shrink_1) (fun _ h9 => h9) dX10_shrink_152 ?_
    refine lv_iconst (v := (0 : Int32)) hx hb dX10_shrink_155 (by decide) ?_
    refine lv_iload_n hx hb dX10_shrink_156 rfl (lv_at hl 3 rfl) ?_
    refine lv_iadd hx hb dX10_shrink_157 ?_
    refine lv_aload_n hx hb dX10_shrink_158 rfl (lv_at hl 0 rfl) ?_
    replace h := o_b h; obtain ⟨x159, h159, h⟩ := h
    refine m_get (C := RX10) (T := TX10) (N := 25) (ci := 10) hx hb hts qi_X10_shrink_X10 hown hK.1 hM 6 (ldR_F h159) rfl (by decide) (hts _ q_X10_shrink_2) (fun _ h9 => h9) dX10_shrink_159 ?_
    refine lv_iload_n hx hb dX10_shrink_162 rfl (lv_at hl 3 rfl) ?_
    replace h := o_b h; obtain ⟨x163, h163, h⟩ := h
    refine m_iald hx hb hK.1 hM hS rfl h163 dX10_shrink_163 ?_
    replace h := o_b h; obtain ⟨f164, h164, h⟩ := h
    refine m_iast hx hb hK.1 hM hS rfl h164 dX10_shrink_164 (fun H locs hM hS => ?_)
    refine lv_iinc (v := (v3 + (1 : Int32))) (lv' := [(3, .int (v3 + (1 : Int32))), (0, .ref v0), (1, .int v1), (2, .int v2)]) hx hb dX10_shrink_165 hl (k := 3) rfl rfl (by decide) rfl (fun ls hl => ?_)
    refine lv_goto (tgt := 146) hx hb dX10_shrink_168 (by decide) ?_
    exact ih _ _ _ _ _ h _ _ _ hM hS (lv_sub hl [1, 2, 3, 0] rfl)
set_option maxHeartbeats 4000000 in
set_option maxRecDepth 100000 in
theorem w_X10_shrink_121 (C0 : CX cX10_shrink 7 (some .int) wsX10_shrink RX10 p s m args meth c D b0) {k16 : Nat → Int32 → Int32 → Int32 → mmF → Option (Int32 × mmF)} {k66 : Nat → Int32 → Int32 → Int32 → Int32 → Int32 → mmF → Option (Int32 × mmF)} {res : Int32 × mmF} (hk16 : ∀ (v0 : Nat) (v1 : Int32) (v2 : Int32) (v3 : Int32) (f : mmF), k16 v0 v1 v2 v3 f = some res → ∀ (H : Heap) (locs : List Loc) (ls : Array Slot), MM vwCl D b0 f sz s H → mS b0 s H locs → lv_has ls 7 [(0, .ref v0), (1, .int v1), (2, .int v2), (3, .int v3)] → W p l e ({ frames := 3, cells := 0, slots := 0, locals := 69 } : Room) s m args below meth c H locs 0 0 (MQ below (QW D b0 (some (.int res.1)) res.2 sz) args s 0 0 (fun q => b0 ≤ q)) (F0 m 16 ls [])) (hk66 : ∀ (v0 : Nat) (v1 : Int32) (v2 : Int32) (v3 : Int32) (v4 : Int32) (v5 : Int32) (f : mmF), k66 v0 v1 v2 v3 v4 v5 f = some res → ∀ (H : Heap) (locs : List Loc) (ls : Array Slot), MM vwCl D b0 f sz s H → mS b0 s H locs → lv_has ls 7 [(0, .ref v0), (1, .int v1), (2, .int v2), (3, .int v3), (4, .int v4), (5, .int v5)] → W p l e ({ frames := 3, cells := 0, slots := 0, locals := 69 } : Room) s m args below meth c H locs 0 0 (MQ below (QW D b0 (some (.int res.1)) res.2 sz) args s 0 0 (fun q => b0 ≤ q)) (F0 m 66 ls [])) : ∀ (v0 : Nat) (v1 : Int32) (v2 : Int32) (v3 : Int32) (v4 : Int32) (v5 : Int32) (f : mmF), f_X10_shrink_121 k16 k66 v0 v1 v2 v3 v4 v5 f = some res → ∀ (H : Heap) (locs : List Loc) (ls : Array Slot), MM vwCl D b0 f sz s H → mS b0 s H locs → lv_has ls 7 [(0, .ref v0), (1, .int v1), (2, .int v2), (3, .int v3), (4, .int v4), (5, .int v5)] → W p l e ({ frames := 3, cells := 0, slots := 0, locals := 69 } : Room) s m args below meth c H locs 0 0 (MQ below (QW D b0 (some (.int res.1)) res.2 sz) args s 0 0 (fun q => b0 ≤ q)) (F0 m 121 ls []) := by
  obtain ⟨hx, hb, hr, hml, hown, hts, hlocks, hK⟩ := id C0
  intro v0 v1 v2 v3 v4 v5 f h H locs ls hM hS hl
  unfold f_X10_shrink_121 at h
  refine lv_iinc (v := (v5 + (1 : Int32))) (lv' := [(5, .int (v5 + (1 : Int32))), (0, .ref v0), (1, .int v1), (2, .int v2), (3, .int v3), (4, .int v4)]) hx hb dX10_shrink_121 hl (k := 5) rfl rfl (by decide) rfl (fun ls hl => ?_)
  refine lv_goto (tgt := 66) hx hb dX10_shrink_124 (by decide) ?_
  exact hk66 _ _ _ _ _ _ _ h _ _ _ hM hS (lv_sub hl [1, 2, 3, 4, 5, 0] rfl)
set_option maxHeartbeats 4000000 in
set_option maxRecDepth 100000 in
theorem w_X10_shrink_66 (C0 : CX cX10_shrink 7 (some .int) wsX10_shrink RX10 p s m args meth c D b0) {k16 : Nat → Int32 → Int32 → Int32 → mmF → Option (Int32 × mmF)} {res : Int32 × mmF} (hk16 : ∀ (v0 : Nat) (v1 : Int32) (v2 : Int32) (v3 : Int32) (f : mmF), k16 v0 v1 v2 v3 f = some res → ∀ (H : Heap) (locs : List Loc) (ls : Array Slot), MM vwCl D b0 f sz s H → mS b0 s H locs → lv_has ls 7 [(0, .ref v0), (1, .int v1), (2, .int v2), (3, .int v3)] → W p l e ({ frames := 3, cells := 0, slots := 0, locals := 69 } : Room) s m args below meth c H locs 0 0 (MQ below (QW D b0 (some (.int res.1)) res.2 sz) args s 0 0 (fun q => b0 ≤ q)) (F0 m 16 ls [])) : ∀ (n : Nat), ∀ (v0 : Nat) (v1 : Int32) (v2 : Int32) (v3 : Int32) (v4 : Int32) (v5 : Int32) (f : mmF), f_X10_shrink_66 k16 n v0 v1 v2 v3 v4 v5 f = some res → ∀ (H : Heap) (locs : List Loc) (ls : Array Slot), MM vwCl D b0 f sz s H → mS b0 s H locs → lv_has ls 7 [(0, .ref v0), (1, .int v1), (2, .int v2), (3, .int v3), (4, .int v4), (5, .int v5)] → W p l e ({ frames := 3, cells := 0, slots := 0, locals := 69 } : Room) s m args below meth c H locs 0 0 (MQ below (QW D b0 (some (.int res.1)) res.2 sz) args s 0 0 (fun q => b0 ≤ q)) (F0 m 66 ls []) := by
  obtain ⟨hx, hb, hr, hml, hown, hts, hlocks, hK⟩ := id C0
  intro n
  induction n with
  | zero =>
    intro v0 v1 v2 v3 v4 v5 f h
    have h : (none : Option (Int32 × mmF)) = some res := h
    cases h
  | succ n ih =>
    intro v0 v1 v2 v3 v4 v5 f h H locs ls hM hS hl
    rw [f_X10_shrink_66] at h
    refine lv_iload hx hb dX10_shrink_66 (lv_at hl 5 rfl) ?_
    refine lv_iload_n hx hb dX10_shrink_68 rfl (lv_at hl 1 rfl) ?_
    refine lv_icmp_ge (tgt := 127) hx hb dX10_shrink_69 (by decide) (fun c69 => ?_) (fun c69 => ?_)
    · replace h := o_t c69 h
      refine lv_iinc (v := (v3 + (1 : Int32))) (lv' := [(3, .int (v3 + (1 : Int32))), (0, .ref v0), (1, .int v1), (2, .int v2), (4, .int v4), (5, .int v5)]) hx hb dX10_shrink_127 hl (k := 3) rfl rfl (by decide) rfl (fun ls hl => ?_)
      refine lv_goto (tgt := 16) hx hb dX10_shrink_130 (by decide) ?_
      exact hk16 _ _ _ _ _ h _ _ _ hM hS (lv_sub hl [1, 2, 3, 0] rfl)
    replace h := o_f c69 h
    refine lv_iload hx hb dX10_shrink_72 (lv_at hl 4 rfl) ?_
    refine lv_if_eq (tgt := 121) hx hb dX10_shrink_74 (by decide) (fun c74 => ?_) (fun c74 => ?_)
    · replace h := o_t c74 h
      exact w_X10_shrink_121 C0 hk16 ih _ _ _ _ _ _ _ h _ _ _ hM hS (lv_sub hl [0, 1, 2, 3, 4, 5] rfl)
    replace h := o_f c74 h
    refine lv_aload_n hx hb dX10_shrink_77 rfl (lv_at hl 0 rfl) ?_
    refine lv_iload_n hx hb dX10_shrink_78 rfl (lv_at hl 3 rfl) ?_
    refine lv_iload hx hb dX10_shrink_79 (lv_at hl 5 rfl) ?_
    replace h := o_b h; obtain ⟨_, k81, h⟩ := h
    replace h := o_b h; obtain ⟨q81, h81, h⟩ := h
    refine m_call (va_runV (As := [.int v3, .int v5]) (rest := []) ⟨hx, hb, hml, hown, hts⟩ (c_X10_leadsTo l D b0 sz h81) (cwV 2 hts gX10_shrink_X10_leadsTo rfl rfl rfl (by decide +kernel) ⟨Nat.le_of_ble_eq_true rfl, Nat.le_of_ble_eq_true rfl⟩) ⟨PW.blind, m_recv (ci := 10) rfl hK hM k81, (fun U hU hW => ⟨rfl, PW.call hK hM hS hU hW⟩)⟩ rfl rfl hl.1 rfl (lv_room (Nat.le_of_ble_eq_true rfl)) dX10_shrink_81 ⟨(Nat.le_refl _), (Nat.le_refl _)⟩) hS (fun H locs hM hS => ?_)
    refine lv_if_eq (tgt := 121) hx hb dX10_shrink_84 (by decide) (fun c84 => ?_) (fun c84 => ?_)
    · replace h := o_t c84 h
      exact w_X10_shrink_121 C0 hk16 ih _ _ _ _ _ _ _ h _ _ _ hM hS (lv_sub hl [0, 1, 2, 3, 4, 5] rfl)
    replace h := o_f c84 h
    refine lv_aload_n hx hb dX10_shrink_87 rfl (lv_at hl 0 rfl) ?_
    replace h := o_b h; obtain ⟨x88, h88, h⟩ := h
    refine m_get (C := RX10) (T := TX10) (N := 25) (ci := 10) hx hb hts qi_X10_shrink_X10 hown hK.1 hM 5 (ldR_F h88) rfl (by decide) (hts _ q_X10_shrink_3) (fun _ h9 => h9) dX10_shrink_88 ?_
    refine lv_iload hx hb dX10_shrink_91 (lv_at hl 5 rfl) ?_
    replace h := o_b h; obtain ⟨x93, h93, h⟩ := h
    refine m_iald hx hb hK.1 hM hS rfl h93 dX10_shrink_93 ?_
    replace h := o_b h; obtain ⟨q94, h94, h⟩ := h
    refine m_call (va_runS (As := [.int x93]) (rest := []) ⟨hx, hb, hml, hown, hts⟩ (c_X10_lowest l D b0 sz h94) (va_cwS 1 hts gX10_shrink_X10_lowest rfl rfl rfl (by decide +kernel) ⟨Nat.le_of_ble_eq_true rfl, Nat.le_of_ble_eq_true rfl⟩) ⟨PW.blind, (fun U hU hW => ⟨rfl, PW.call hK hM hS hU hW⟩)⟩ rfl rfl hl.1 rfl (lv_room (Nat.le_of_ble_eq_true rfl)) dX10_shrink_94 ⟨(Nat.le_refl _), (Nat.le_refl _)⟩) hS (fun H locs hM hS => ?_)
    refine lv_istore (lv' := [(6, .int q94), (0, .ref v0), (1, .int v1), (2, .int v2), (3, .int v3), (4, .int v4), (5, .int v5)]) hx hb dX10_shrink_97 hl (by decide) rfl (fun ls hl => ?_)
    refine lv_iload hx hb dX10_shrink_99 (lv_at hl 0 rfl) ?_
    refine lv_iload_n hx hb dX10_shrink_101 rfl (lv_at hl 4 rfl) ?_
    refine lv_icmp_ge (tgt := 108) hx hb dX10_shrink_102 (by decide) (fun c102 => ?_) (fun c102 => ?_)
    · replace h := o_t c102 h
      refine lv_aload_n hx hb dX10_shrink_108 rfl (lv_at hl 1 rfl) ?_
      replace h := o_b h; obtain ⟨x109, h109, h⟩ := h
      refine m_get (C := RX10) (T := TX10) (N := 25) (ci := 10) hx hb hts qi_X10_shrink_X10 hown hK.1 hM 6 (ldR_F h109) rfl (by decide) (hts _ q_X10_shrink_2) (fun _ h9 => h9) dX10_shrink_109 ?_
      refine lv_iload_n hx hb dX10_shrink_112 rfl (lv_at hl 4 rfl) ?_
      refine lv_dup2_11 hx hb dX10_shrink_113 rfl rfl ?_
      replace h := o_b h; obtain ⟨x114, h114, h⟩ := h
      refine m_iald hx hb hK.1 hM hS rfl h114 dX10_shrink_114 ?_
      refine lv_iconst (v := (1 : Int32)) hx hb dX10_shrink_115 (by decide) ?_
      refine lv_iload hx hb dX10_shrink_116 (lv_at hl 0 rfl) ?_
      refine lv_ishl hx hb dX10_shrink_118 ?_
      refine lv_ior hx hb dX10_shrink_119 ?_
      replace h := o_b h; obtain ⟨f120, h120, h⟩ := h
      refine m_iast hx hb hK.1 hM hS rfl h120 dX10_shrink_120 (fun H locs hM hS => ?_)
      exact w_X10_shrink_121 C0 hk16 ih _ _ _ _ _ _ _ h _ _ _ hM hS (lv_sub hl [1, 2, 3, 4, 5, 6] rfl)
    replace h := o_f c102 h
    refine lv_bipush (v := (-4 : Int32)) hx hb dX10_shrink_105 (by decide) ?_
    replace h := Option.some.inj h; subst h
    exact W.iret hx hb hr (fun t ht hW => ⟨rfl, by rw [ht]; exact hM.moved hW.alike, hS.F ht⟩) hS.2.2 dX10_shrink_107
set_option maxHeartbeats 4000000 in
set_option maxRecDepth 100000 in
theorem w_X10_shrink_54 (C0 : CX cX10_shrink 7 (some .int) wsX10_shrink RX10 p s m args meth c D b0) {k16 : Nat → Int32 → Int32 → Int32 → mmF → Option (Int32 × mmF)} {res : Int32 × mmF} (hk16 : ∀ (v0 : Nat) (v1 : Int32) (v2 : Int32) (v3 : Int32) (f : mmF), k16 v0 v1 v2 v3 f = some res → ∀ (H : Heap) (locs : List Loc) (ls : Array Slot), MM vwCl D b0 f sz s H → mS b0 s H locs → lv_has ls 7 [(0, .ref v0), (1, .int v1), (2, .int v2), (3, .int v3)] → W p l e ({ frames := 3, cells := 0, slots := 0, locals := 69 } : Room) s m args below meth c H locs 0 0 (MQ below (QW D b0 (some (.int res.1)) res.2 sz) args s 0 0 (fun q => b0 ≤ q)) (F0 m 16 ls [])) : ∀ (v0 : Nat) (v1 : Int32) (v3 : Int32) (v4 : Int32) (t0 : Int32) (t1 : Int32) (f : mmF), f_X10_shrink_54 k16 v0 v1 v3 v4 t0 t1 f = some res → ∀ (H : Heap) (locs : List Loc) (ls : Array Slot), MM vwCl D b0 f sz s H → mS b0 s H locs → lv_has ls 7 [(0, .ref v0), (1, .int v1), (3, .int v3), (4, .int v4)] → W p l e ({ frames := 3, cells := 0, slots := 0, locals := 69 } : Room) s m args below meth c H locs 0 0 (MQ below (QW D b0 (some (.int res.1)) res.2 sz) args s 0 0 (fun q => b0 ≤ q)) (F0 m 54 ls [.int t1, .int t0]) := by
  obtain ⟨hx, hb, hr, hml, hown, hts, hlocks, hK⟩ := id C0
  intro v0 v1 v3 v4 t0 t1 f h H locs ls hM hS hl
  unfold f_X10_shrink_54 at h
  refine lv_ior hx hb dX10_shrink_54 ?_
  refine lv_istore_n (lv' := [(2, .int (t0 ||| t1)), (0, .ref v0), (1, .int v1), (3, .int v3), (4, .int v4)]) hx hb dX10_shrink_55 rfl hl (by decide) rfl (fun ls hl => ?_)
  refine lv_aload_n hx hb dX10_shrink_56 rfl (lv_at hl 1 rfl) ?_
  replace h := o_b h; obtain ⟨x57, h57, h⟩ := h
  refine m_get (C := RX10) (T := TX10) (N := 25) (ci := 10) hx hb hts qi_X10_shrink_X10 hown hK.1 hM 6 (ldR_F h57) rfl (by decide) (hts _ q_X10_shrink_2) (fun _ h9 => h9) dX10_shrink_57 ?_
  refine lv_iload_n hx hb dX10_shrink_60 rfl (lv_at hl 3 rfl) ?_
  refine lv_iconst (v := (0 : Int32)) hx hb dX10_shrink_61 (by decide) ?_
  replace h := o_b h; obtain ⟨f62, h62, h⟩ := h
  refine m_iast hx hb hK.1 hM hS rfl h62 dX10_shrink_62 (fun H locs hM hS => ?_)
  refine lv_iconst (v := (0 : Int32)) hx hb dX10_shrink_63 (by decide) ?_
  refine lv_istore (lv' := [(5, .int (0 : Int32)), (2, .int (t0 ||| t1)), (0, .ref v0), (1, .int v1), (3, .int v3), (4, .int v4)]) hx hb dX10_shrink_64 hl (by decide) rfl (fun ls hl => ?_)
  exact w_X10_shrink_66 C0 hk16 FU _ _ _ _ _ _ _ h _ _ _ hM hS (lv_sub hl [2, 3, 1, 4, 5, 0] rfl)
set_option maxHeartbeats 4000000 in
set_option maxRecDepth 100000 in
theorem w_X10_shrink_39 (C0 : CX cX10_shrink 7 (some .int) wsX10_shrink RX10 p s m args meth c D b0) {k16 : Nat → Int32 → Int32 → Int32 → mmF → Option (Int32 × mmF)} {res : Int32 × mmF} (hk16 : ∀ (v0 : Nat) (v1 : Int32) (v2 : Int32) (v3 : Int32) (f : mmF), k16 v0 v1 v2 v3 f = some res → ∀ (H : Heap) (locs : List Loc) (ls : Array Slot), MM vwCl D b0 f sz s H → mS b0 s H locs → lv_has ls 7 [(0, .ref v0), (1, .int v1), (2, .int v2), (3, .int v3)] → W p l e ({ frames := 3, cells := 0, slots := 0, locals := 69 } : Room) s m args below meth c H locs 0 0 (MQ below (QW D b0 (some (.int res.1)) res.2 sz) args s 0 0 (fun q => b0 ≤ q)) (F0 m 16 ls [])) : ∀ (v0 : Nat) (v1 : Int32) (v2 : Int32) (v3 : Int32) (t0 : Int32) (f : mmF), f_X10_shrink_39 k16 v0 v1 v2 v3 t0 f = some res → ∀ (H : Heap) (locs : List Loc) (ls : Array Slot), MM vwCl D b0 f sz s H → mS b0 s H locs → lv_has ls 7 [(0, .ref v0), (1, .int v1), (2, .int v2), (3, .int v3)] → W p l e ({ frames := 3, cells := 0, slots := 0, locals := 69 } : Room) s m args below meth c H locs 0 0 (MQ below (QW D b0 (some (.int res.1)) res.2 sz) args s 0 0 (fun q => b0 ≤ q)) (F0 m 39 ls [.int t0]) := by
  obtain ⟨hx, hb, hr, hml, hown, hts, hlocks, hK⟩ := id C0
  intro v0 v1 v2 v3 t0 f h H locs ls hM hS hl
  unfold f_X10_shrink_39 at h
  refine lv_istore (lv' := [(4, .int t0), (0, .ref v0), (1, .int v1), (2, .int v2), (3, .int v3)]) hx hb dX10_shrink_39 hl (by decide) rfl (fun ls hl => ?_)
  refine lv_iload_n hx hb dX10_shrink_41 rfl (lv_at hl 3 rfl) ?_
  refine lv_iload hx hb dX10_shrink_42 (lv_at hl 0 rfl) ?_
  refine lv_if_eq (tgt := 51) hx hb dX10_shrink_44 (by decide) (fun c44 => ?_) (fun c44 => ?_)
  · replace h := o_t c44 h
    refine lv_iconst (v := (1 : Int32)) hx hb dX10_shrink_51 (by decide) ?_
    refine lv_iload_n hx hb dX10_shrink_52 rfl (lv_at hl 4 rfl) ?_
    refine lv_ishl hx hb dX10_shrink_53 ?_
    exact w_X10_shrink_54 C0 hk16 _ _ _ _ _ _ _ h _ _ _ hM hS (lv_sub hl [1, 2, 4, 0] rfl)
  replace h := o_f c44 h
  refine lv_iconst (v := (0 : Int32)) hx hb dX10_shrink_47 (by decide) ?_
  refine lv_goto (tgt := 54) hx hb dX10_shrink_48 (by decide) ?_
  exact w_X10_shrink_54 C0 hk16 _ _ _ _ _ _ _ h _ _ _ hM hS (lv_sub hl [1, 2, 4, 0] rfl)
set_option maxHeartbeats 4000000 in
set_option maxRecDepth 100000 in
theorem w_X10_shrink_16 (C0 : CX cX10_shrink 7 (some .int) wsX10_shrink RX10 p s m args meth c D b0) {res : Int32 × mmF} : ∀ (n : Nat), ∀ (v0 : Nat) (v1 : Int32) (v2 : Int32) (v3 : Int32) (f : mmF), f_X10_shrink_16 n v0 v1 v2 v3 f = some res → ∀ (H : Heap) (locs : List Loc) (ls : Array Slot), MM vwCl D b0 f sz s H → mS b0 s H locs → lv_has ls 7 [(0, .ref v0), (1, .int v1), (2, .int v2), (3, .int v3)] → W p l e ({ frames := 3, cells := 0, slots := 0, locals := 69 } : Room) s m args below meth c H locs 0 0 (MQ below (QW D b0 (some (.int res.1)) res.2 sz) args s 0 0 (fun q => b0 ≤ q)) (F0 m 16 ls []) := by
  obtain ⟨hx, hb, hr, hml, hown, hts, hlocks, hK⟩ := id C0
  intro n
  induction n with
  | zero =>
    intro v0 v1 v2 v3 f h
    have h : (none : Option (Int32 × mmF)) = some res := h
    cases h
  | succ n ih =>
    intro v0 v1 v2 v3 f h H locs ls hM hS hl
    rw [f_X10_shrink_16] at h
    refine lv_iload_n hx hb dX10_shrink_16 rfl (lv_at hl 3 rfl) ?_
    refine lv_iload_n hx hb dX10_shrink_17 rfl (lv_at hl 1 rfl) ?_
    refine lv_icmp_ge (tgt := 133) hx hb dX10_shrink_18 (by decide) (fun c18 => ?_) (fun c18 => ?_)
    · replace h := o_t c18 h
      refine lv_iload_n hx hb dX10_shrink_133 rfl (lv_at hl 2 rfl) ?_
      refine lv_if_ne (tgt := 140) hx hb dX10_shrink_134 (by decide) (fun c134 => ?_) (fun c134 => ?_)
      · replace h := o_f c134 h
        refine lv_aload_n hx hb dX10_shrink_140 rfl (lv_at hl 0 rfl) ?_
        replace h := o_b h; obtain ⟨_, k141, h⟩ := h
        replace h := o_b h; obtain ⟨q141, h141, h⟩ := h
        refine m_call (va_runV (As := []) (rest := []) ⟨hx, hb, hml, hown, hts⟩ (c_X10_record l D b0 sz h141) (cwV 0 hts gX10_shrink_X10_record rfl rfl rfl (by decide +kernel) ⟨Nat.le_of_ble_eq_true rfl, Nat.le_of_ble_eq_true rfl⟩) ⟨PW.blind, m_recv (ci := 10) rfl hK hM k141, (fun U hU hW => ⟨rfl, PW.call hK hM hS hU hW⟩)⟩ rfl rfl hl.1 rfl (lv_room (Nat.le_of_ble_eq_true rfl)) dX10_shrink_141 ⟨(Nat.le_refl _), (Nat.le_refl _)⟩) hS (fun H locs hM hS => ?_)
        refine lv_iconst (v := (0 : Int32)) hx hb dX10_shrink_144 (by decide) ?_
        refine lv_istore_n (lv' := [(3, .int (0 : Int32)), (0, .ref v0), (1, .int v1), (2, .int v2)]) hx hb dX10_shrink_145 rfl hl (by decide) rfl (fun ls hl => ?_)
        exact w_X10_shrink_146 C0 FU _ _ _ _ _ h _ _ _ hM hS (lv_sub hl [1, 2, 3, 0] rfl)
      replace h := o_t c134 h
      refine lv_bipush (v := (-5 : Int32)) hx hb dX10_shrink_137 (by decide) ?_
      replace h := Option.some.inj h; subst h
      exact W.iret hx hb hr (fun t ht hW => ⟨rfl, by rw [ht]; exact hM.moved hW.alike, hS.F ht⟩) hS.2.2 dX10_shrink_139
    replace h := o_f c18 h
    refine lv_aload_n hx hb dX10_shrink_21 rfl (lv_at hl 0 rfl) ?_
    replace h := o_b h; obtain ⟨x22, h22, h⟩ := h
    refine m_get (C := RX10) (T := TX10) (N := 25) (ci := 10) hx hb hts qi_X10_shrink_X10 hown hK.1 hM 5 (ldR_F h22) rfl (by decide) (hts _ q_X10_shrink_3) (fun _ h9 => h9) dX10_shrink_22 ?_
    refine lv_iload_n hx hb dX10_shrink_25 rfl (lv_at hl 3 rfl) ?_
    replace h := o_b h; obtain ⟨x26, h26, h⟩ := h
    refine m_iald hx hb hK.1 hM hS rfl h26 dX10_shrink_26 ?_
    replace h := o_b h; obtain ⟨q27, h27, h⟩ := h
    refine m_call (va_runS (As := [.int x26]) (rest := []) ⟨hx, hb, hml, hown, hts⟩ (c_X10_lowest l D b0 sz h27) (va_cwS 1 hts gX10_shrink_X10_lowest rfl rfl rfl (by decide +kernel) ⟨Nat.le_of_ble_eq_true rfl, Nat.le_of_ble_eq_true rfl⟩) ⟨PW.blind, (fun U hU hW => ⟨rfl, PW.call hK hM hS hU hW⟩)⟩ rfl rfl hl.1 rfl (lv_room (Nat.le_of_ble_eq_true rfl)) dX10_shrink_27 ⟨(Nat.le_refl _), (Nat.le_refl _)⟩) hS (fun H locs hM hS => ?_)
    refine lv_iload_n hx hb dX10_shrink_30 rfl (lv_at hl 3 rfl) ?_
    refine lv_icmp_ne (tgt := 38) hx hb dX10_shrink_31 (by decide) (fun c31 => ?_) (fun c31 => ?_)
    · replace h := o_f c31 h
      refine lv_iconst (v := (0 : Int32)) hx hb dX10_shrink_38 (by decide) ?_
      exact w_X10_shrink_39 C0 ih _ _ _ _ _ _ h _ _ _ hM hS (lv_sub hl [0, 1, 2, 3] rfl)
    replace h := o_t c31 h
    refine lv_iconst (v := (1 : Int32)) hx hb dX10_shrink_34 (by decide) ?_
    refine lv_goto (tgt := 39) hx hb dX10_shrink_35 (by decide) ?_
    exact w_X10_shrink_39 C0 ih _ _ _ _ _ _ h _ _ _ hM hS (lv_sub hl [0, 1, 2, 3] rfl)
set_option maxHeartbeats 4000000 in
set_option maxRecDepth 100000 in
theorem w_X10_shrink (C0 : CX cX10_shrink 7 (some .int) wsX10_shrink RX10 p s m args meth c D b0) {v0 : Nat} {res : Int32 × mmF} (h : f_X10_shrink v0 f = some res) : ∀ (H : Heap) (locs : List Loc) (ls : Array Slot), MM vwCl D b0 f sz s H → mS b0 s H locs → lv_has ls 7 [(0, .ref v0)] → W p l e ({ frames := 3, cells := 0, slots := 0, locals := 69 } : Room) s m args below meth c H locs 0 0 (MQ below (QW D b0 (some (.int res.1)) res.2 sz) args s 0 0 (fun q => b0 ≤ q)) (F0 m 0 ls []) := by
  obtain ⟨hx, hb, hr, hml, hown, hts, hlocks, hK⟩ := id C0
  intro H locs ls hM hS hl
  unfold f_X10_shrink at h
  refine lv_aload_n hx hb dX10_shrink_0 rfl (lv_at hl 0 rfl) ?_
  replace h := o_b h; obtain ⟨_, k1, h⟩ := h
  replace h := o_b h; obtain ⟨q1, h1, h⟩ := h
  refine m_call (va_runV (As := []) (rest := []) ⟨hx, hb, hml, hown, hts⟩ (c_X10_findsLike l D b0 sz h1) (cwV 0 hts gX10_shrink_X10_findsLike rfl rfl rfl (by decide +kernel) ⟨Nat.le_of_ble_eq_true rfl, Nat.le_of_ble_eq_true rfl⟩) ⟨PW.blind, m_recv (ci := 10) rfl hK hM k1, (fun U hU hW => ⟨rfl, PW.call hK hM hS hU hW⟩)⟩ rfl rfl hl.1 rfl (lv_room (Nat.le_of_ble_eq_true rfl)) dX10_shrink_1 ⟨(Nat.le_refl _), (Nat.le_refl _)⟩) hS (fun H locs hM hS => ?_)
  refine lv_aload_n hx hb dX10_shrink_4 rfl (lv_at hl 0 rfl) ?_
  replace h := o_b h; obtain ⟨x5, h5, h⟩ := h
  refine m_get (C := RX10) (T := TX10) (N := 25) (ci := 10) hx hb hts qi_X10_shrink_X10 hown hK.1 hM 0 (ldR_F h5) rfl (by decide) (hts _ q_X10_shrink_1) (fun _ h9 => h9) dX10_shrink_5 ?_
  refine lv_bipush (v := (16 : Int32)) hx hb dX10_shrink_8 (by decide) ?_
  replace h := o_b h; obtain ⟨x10, h10, h⟩ := h
  refine m_iald hx hb hK.1 hM hS rfl h10 dX10_shrink_10 ?_
  refine lv_istore_n (lv' := [(1, .int x10), (0, .ref v0)]) hx hb dX10_shrink_11 rfl hl (by decide) rfl (fun ls hl => ?_)
  refine lv_iconst (v := (0 : Int32)) hx hb dX10_shrink_12 (by decide) ?_
  refine lv_istore_n (lv' := [(2, .int (0 : Int32)), (1, .int x10), (0, .ref v0)]) hx hb dX10_shrink_13 rfl hl (by decide) rfl (fun ls hl => ?_)
  refine lv_iconst (v := (0 : Int32)) hx hb dX10_shrink_14 (by decide) ?_
  refine lv_istore_n (lv' := [(3, .int (0 : Int32)), (2, .int (0 : Int32)), (1, .int x10), (0, .ref v0)]) hx hb dX10_shrink_15 rfl hl (by decide) rfl (fun ls hl => ?_)
  exact w_X10_shrink_16 C0 FU _ _ _ _ _ h _ _ _ hM hS (lv_sub hl [3, 2, 1, 0] rfl)
set_option maxHeartbeats 4000000 in
set_option maxRecDepth 100000 in
theorem c_X10_shrink (l : Launch) (D : mmD) (b0 sz : Nat) {v0 : Nat} {f : mmF} {res : Int32 × mmF} (h : f_X10_shrink v0 f = some res) : Met l yX10_shrink wsX10_shrink ({ frames := 3, cells := 0, slots := 0, locals := 69 } : Room) (va_Pc [.ref v0] (PW D b0 f sz)) (QW D b0 (some (.int res.1)) res.2 sz) 0 0 (fun q => b0 ≤ q) := by
  refine Met.ofW (cc := cX10_shrink) (maxL := 7) (ret := (some .int)) (by decide) rfl ?_
  intro p e s m args below meth c s₁ B hml hv
  obtain ⟨rfl, hM, hK⟩ := hv
  have hl := lv_entry ([.ref v0]) (n := 7) (Nat.le_of_ble_eq_true rfl)
  rw [lg_entry_eq]
  generalize (lg_sl ([.ref v0]) ++ List.replicate (7 - (lg_sl ([.ref v0])).length) Slot.unset).toArray = ls at hl ⊢
  have hl : lv_has ls 7 [(0, .ref v0)] := hl
  exact w_X10_shrink ⟨B.exec, B.bytes, B.returns, hml, findClass_of_methodNamed B.named, atoms_spec (ws := wsX10_shrink) B.pre, B.notSynchronized, hK⟩ h s.heap [] ls hM va_S.rf hl
end S_X10_shrink
/-! X10_type -/
set_option maxRecDepth 20000 in
theorem qi_X10_type_X10 : ∀ w ∈ u_ws RX10 TX10 25, w ∈ wsX10_type := by decide +kernel
set_option maxRecDepth 20000 in
theorem q_X10_type_1 : Cond.fieldLink RX10 119 "StageTruthsModel" "typed" "I" ∈ wsX10_type := by decide +kernel
set_option maxRecDepth 20000 in
theorem q_X10_type_2 : Cond.fieldLink RX10 25 "StageTruthsModel" "text" "[C" ∈ wsX10_type := by decide +kernel
noncomputable def f_X10_type (v0 : Nat) (v1 : Int32) (f : mmF) : Option (Int32 × mmF) :=
  (ldI f v0 10 7).bind fun x1 =>
  if x1 = (30 : Int32) then
  (some ((-3 : Int32), f))
  else
  (ldR f v0 10 8).bind fun x13 =>
  (ldI f v0 10 7).bind fun x17 =>
  (stA 1 f x13 x17 (vp_nar .char v1)).bind fun f21 =>
  (ldI f21 v0 10 7).bind fun x24 =>
  (stF f21 v0 10 7 (.int (x24 + (1 : Int32)))).bind fun f29 =>
  (ldI f29 v0 10 7).bind fun x33 =>
  some (x33, f29)
section S_X10_type
variable {p : Program} {l : Launch} {e : Env} {s : State} {m : MethodId} {args : Array Value} {below : List Frame} {meth : Method} {c : Code} {D : mmD} {b0 sz : Nat} {f : mmF}
set_option maxHeartbeats 4000000 in
set_option maxRecDepth 100000 in
theorem w_X10_type (C0 : CX cX10_type 2 (some .int) wsX10_type RX10 p s m args meth c D b0) {v0 : Nat} {v1 : Int32} {res : Int32 × mmF} (h : f_X10_type v0 v1 f = some res) : ∀ (H : Heap) (locs : List Loc) (ls : Array Slot), MM vwCl D b0 f sz s H → mS b0 s H locs → lv_has ls 2 [(0, .ref v0), (1, .int v1)] → W p l e ({ frames := 0, cells := 0, slots := 0, locals := 0 } : Room) s m args below meth c H locs 0 0 (MQ below (QW D b0 (some (.int res.1)) res.2 sz) args s 0 0 (fun q => b0 ≤ q)) (F0 m 0 ls []) := by
  obtain ⟨hx, hb, hr, hml, hown, hts, hlocks, hK⟩ := id C0
  intro H locs ls hM hS hl
  unfold f_X10_type at h
  refine lv_aload_n hx hb dX10_type_0 rfl (lv_at hl 0 rfl) ?_
  replace h := o_b h; obtain ⟨x1, h1, h⟩ := h
  refine m_get (C := RX10) (T := TX10) (N := 25) (ci := 10) hx hb hts qi_X10_type_X10 hown hK.1 hM 7 (ldI_F h1) rfl (by decide) (hts _ q_X10_type_1) (fun _ h9 => h9) dX10_type_1 ?_
  refine lv_bipush (v := (30 : Int32)) hx hb dX10_type_4 (by decide) ?_
  refine lv_icmp_ne (tgt := 12) hx hb dX10_type_6 (by decide) (fun c6 => ?_) (fun c6 => ?_)
  · replace h := o_f c6 h
    refine lv_aload_n hx hb dX10_type_12 rfl (lv_at hl 0 rfl) ?_
    replace h := o_b h; obtain ⟨x13, h13, h⟩ := h
    refine m_get (C := RX10) (T := TX10) (N := 25) (ci := 10) hx hb hts qi_X10_type_X10 hown hK.1 hM 8 (ldR_F h13) rfl (by decide) (hts _ q_X10_type_2) (fun _ h9 => h9) dX10_type_13 ?_
    refine lv_aload_n hx hb dX10_type_16 rfl (lv_at hl 0 rfl) ?_
    replace h := o_b h; obtain ⟨x17, h17, h⟩ := h
    refine m_get (C := RX10) (T := TX10) (N := 25) (ci := 10) hx hb hts qi_X10_type_X10 hown hK.1 hM 7 (ldI_F h17) rfl (by decide) (hts _ q_X10_type_1) (fun _ h9 => h9) dX10_type_17 ?_
    refine lv_iload_n hx hb dX10_type_20 rfl (lv_at hl 1 rfl) ?_
    replace h := o_b h; obtain ⟨f21, h21, h⟩ := h
    refine m_cast hx hb hK.1 hM hS rfl h21 dX10_type_21 (fun H locs hM hS => ?_)
    refine lv_aload_n hx hb dX10_type_22 rfl (lv_at hl 0 rfl) ?_
    refine lv_dup hx hb dX10_type_23 rfl ?_
    replace h := o_b h; obtain ⟨x24, h24, h⟩ := h
    refine m_get (C := RX10) (T := TX10) (N := 25) (ci := 10) hx hb hts qi_X10_type_X10 hown hK.1 hM 7 (ldI_F h24) rfl (by decide) (hts _ q_X10_type_1) (fun _ h9 => h9) dX10_type_24 ?_
    refine lv_iconst (v := (1 : Int32)) hx hb dX10_type_27 (by decide) ?_
    refine lv_iadd hx hb dX10_type_28 ?_
    replace h := o_b h; obtain ⟨f29, h29, h⟩ := h
    refine m_put (ty := .int) (C := RX10) (T := TX10) (N := 25) (ci := 10) hx hb hts qi_X10_type_X10 tyX10 tyX10_ok nmX10 hown hK.1 hM hS 7 h29 rfl (by decide) (hts _ q_X10_type_1) (fun _ h9 => h9) rfl (by decide +kernel) rfl rfl dX10_type_29 (fun H locs hM hS => ?_)
    refine lv_aload_n hx hb dX10_type_32 rfl (lv_at hl 0 rfl) ?_
    replace h := o_b h; obtain ⟨x33, h33, h⟩ := h
    refine m_get (C := RX10) (T := TX10) (N := 25) (ci := 10) hx hb hts qi_X10_type_X10 hown hK.1 hM 7 (ldI_F h33) rfl (by decide) (hts _ q_X10_type_1) (fun _ h9 => h9) dX10_type_33 ?_
    replace h := Option.some.inj h; subst h
    exact W.iret hx hb hr (fun t ht hW => ⟨rfl, by rw [ht]; exact hM.moved hW.alike, hS.F ht⟩) hS.2.2 dX10_type_36
  replace h := o_t c6 h
  refine lv_bipush (v := (-3 : Int32)) hx hb dX10_type_9 (by decide) ?_
  replace h := Option.some.inj h; subst h
  exact W.iret hx hb hr (fun t ht hW => ⟨rfl, by rw [ht]; exact hM.moved hW.alike, hS.F ht⟩) hS.2.2 dX10_type_11
set_option maxHeartbeats 4000000 in
set_option maxRecDepth 100000 in
theorem c_X10_type (l : Launch) (D : mmD) (b0 sz : Nat) {v0 : Nat} {v1 : Int32} {f : mmF} {res : Int32 × mmF} (h : f_X10_type v0 v1 f = some res) : Met l yX10_type wsX10_type ({ frames := 0, cells := 0, slots := 0, locals := 0 } : Room) (va_Pc [.ref v0, .int v1] (PW D b0 f sz)) (QW D b0 (some (.int res.1)) res.2 sz) 0 0 (fun q => b0 ≤ q) := by
  refine Met.ofW (cc := cX10_type) (maxL := 2) (ret := (some .int)) (by decide) rfl ?_
  intro p e s m args below meth c s₁ B hml hv
  obtain ⟨rfl, hM, hK⟩ := hv
  have hl := lv_entry ([.ref v0, .int v1]) (n := 2) (Nat.le_of_ble_eq_true rfl)
  rw [lg_entry_eq]
  generalize (lg_sl ([.ref v0, .int v1]) ++ List.replicate (2 - (lg_sl ([.ref v0, .int v1])).length) Slot.unset).toArray = ls at hl ⊢
  have hl : lv_has ls 2 [(0, .ref v0), (1, .int v1)] := hl
  exact w_X10_type ⟨B.exec, B.bytes, B.returns, hml, findClass_of_methodNamed B.named, atoms_spec (ws := wsX10_type) B.pre, B.notSynchronized, hK⟩ h s.heap [] ls hM va_S.rf hl
end S_X10_type
/-! X10_clearText -/
set_option maxRecDepth 20000 in
theorem qi_X10_clearText_X10 : ∀ w ∈ u_ws RX10 TX10 25, w ∈ wsX10_clearText := by decide +kernel
set_option maxRecDepth 20000 in
theorem q_X10_clearText_1 : Cond.fieldLink RX10 119 "StageTruthsModel" "typed" "I" ∈ wsX10_clearText := by decide +kernel
noncomputable def f_X10_clearText (v0 : Nat) (f : mmF) : Option (Int32 × mmF) :=
  (ldI f v0 10 7).bind fun x1 =>
  (stF f v0 10 7 (.int (0 : Int32))).bind fun f7 =>
  some (x1, f7)
section S_X10_clearText
variable {p : Program} {l : Launch} {e : Env} {s : State} {m : MethodId} {args : Array Value} {below : List Frame} {meth : Method} {c : Code} {D : mmD} {b0 sz : Nat} {f : mmF}
set_option maxHeartbeats 4000000 in
set_option maxRecDepth 100000 in
theorem w_X10_clearText (C0 : CX cX10_clearText 2 (some .int) wsX10_clearText RX10 p s m args meth c D b0) {v0 : Nat} {res : Int32 × mmF} (h : f_X10_clearText v0 f = some res) : ∀ (H : Heap) (locs : List Loc) (ls : Array Slot), MM vwCl D b0 f sz s H → mS b0 s H locs → lv_has ls 2 [(0, .ref v0)] → W p l e ({ frames := 0, cells := 0, slots := 0, locals := 0 } : Room) s m args below meth c H locs 0 0 (MQ below (QW D b0 (some (.int res.1)) res.2 sz) args s 0 0 (fun q => b0 ≤ q)) (F0 m 0 ls []) := by
  obtain ⟨hx, hb, hr, hml, hown, hts, hlocks, hK⟩ := id C0
  intro H locs ls hM hS hl
  unfold f_X10_clearText at h
  refine lv_aload_n hx hb dX10_clearText_0 rfl (lv_at hl 0 rfl) ?_
  replace h := o_b h; obtain ⟨x1, h1, h⟩ := h
  refine m_get (C := RX10) (T := TX10) (N := 25) (ci := 10) hx hb hts qi_X10_clearText_X10 hown hK.1 hM 7 (ldI_F h1) rfl (by decide) (hts _ q_X10_clearText_1) (fun _ h9 => h9) dX10_clearText_1 ?_
  refine lv_istore_n (lv' := [(1, .int x1), (0, .ref v0)]) hx hb dX10_clearText_4 rfl hl (by decide) rfl (fun ls hl => ?_)
  refine lv_aload_n hx hb dX10_clearText_5 rfl (lv_at hl 1 rfl) ?_
  refine lv_iconst (v := (0 : Int32)) hx hb dX10_clearText_6 (by decide) ?_
  replace h := o_b h; obtain ⟨f7, h7, h⟩ := h
  refine m_put (ty := .int) (C := RX10) (T := TX10) (N := 25) (ci := 10) hx hb hts qi_X10_clearText_X10 tyX10 tyX10_ok nmX10 hown hK.1 hM hS 7 h7 rfl (by decide) (hts _ q_X10_clearText_1) (fun _ h9 => h9) rfl (by decide +kernel) rfl rfl dX10_clearText_7 (fun H locs hM hS => ?_)
  refine lv_iload_n hx hb dX10_clearText_10 rfl (lv_at hl 0 rfl) ?_
  replace h := Option.some.inj h; subst h
  exact W.iret hx hb hr (fun t ht hW => ⟨rfl, by rw [ht]; exact hM.moved hW.alike, hS.F ht⟩) hS.2.2 dX10_clearText_11
set_option maxHeartbeats 4000000 in
set_option maxRecDepth 100000 in
theorem c_X10_clearText (l : Launch) (D : mmD) (b0 sz : Nat) {v0 : Nat} {f : mmF} {res : Int32 × mmF} (h : f_X10_clearText v0 f = some res) : Met l yX10_clearText wsX10_clearText ({ frames := 0, cells := 0, slots := 0, locals := 0 } : Room) (va_Pc [.ref v0] (PW D b0 f sz)) (QW D b0 (some (.int res.1)) res.2 sz) 0 0 (fun q => b0 ≤ q) := by
  refine Met.ofW (cc := cX10_clearText) (maxL := 2) (ret := (some .int)) (by decide) rfl ?_
  intro p e s m args below meth c s₁ B hml hv
  obtain ⟨rfl, hM, hK⟩ := hv
  have hl := lv_entry ([.ref v0]) (n := 2) (Nat.le_of_ble_eq_true rfl)
  rw [lg_entry_eq]
  generalize (lg_sl ([.ref v0]) ++ List.replicate (2 - (lg_sl ([.ref v0])).length) Slot.unset).toArray = ls at hl ⊢
  have hl : lv_has ls 2 [(0, .ref v0)] := hl
  exact w_X10_clearText ⟨B.exec, B.bytes, B.returns, hml, findClass_of_methodNamed B.named, atoms_spec (ws := wsX10_clearText) B.pre, B.notSynchronized, hK⟩ h s.heap [] ls hM va_S.rf hl
end S_X10_clearText
/-! X10_puts -/
set_option maxRecDepth 20000 in
theorem qi_X10_puts_X10 : ∀ w ∈ u_ws RX10 TX10 25, w ∈ wsX10_puts := by decide +kernel
set_option maxRecDepth 20000 in
theorem q_X10_puts_1 : Cond.fieldLink RX10 29 "StageTruthsModel" "signs" "[I" ∈ wsX10_puts := by decide +kernel
set_option maxRecDepth 20000 in
theorem q_X10_puts_2 : Cond.fieldLink RX10 122 "StageTruthsModel" "length" "I" ∈ wsX10_puts := by decide +kernel
noncomputable def f_X10_puts (v0 : Nat) (v1 : Int32) (f : mmF) : Option (mmF) :=
  (ldR f v0 10 10).bind fun x1 =>
  (ldI f v0 10 11).bind fun x5 =>
  (stA 0 f x1 x5 v1).bind fun f9 =>
  (ldI f9 v0 10 11).bind fun x12 =>
  (stF f9 v0 10 11 (.int (x12 + (1 : Int32)))).bind fun f17 =>
  some (f17)
section S_X10_puts
variable {p : Program} {l : Launch} {e : Env} {s : State} {m : MethodId} {args : Array Value} {below : List Frame} {meth : Method} {c : Code} {D : mmD} {b0 sz : Nat} {f : mmF}
set_option maxHeartbeats 4000000 in
set_option maxRecDepth 100000 in
theorem w_X10_puts (C0 : CX cX10_puts 2 none wsX10_puts RX10 p s m args meth c D b0) {v0 : Nat} {v1 : Int32} {res : mmF} (h : f_X10_puts v0 v1 f = some res) : ∀ (H : Heap) (locs : List Loc) (ls : Array Slot), MM vwCl D b0 f sz s H → mS b0 s H locs → lv_has ls 2 [(0, .ref v0), (1, .int v1)] → W p l e ({ frames := 0, cells := 0, slots := 0, locals := 0 } : Room) s m args below meth c H locs 0 0 (MQ below (QW D b0 none res sz) args s 0 0 (fun q => b0 ≤ q)) (F0 m 0 ls []) := by
  obtain ⟨hx, hb, hr, hml, hown, hts, hlocks, hK⟩ := id C0
  intro H locs ls hM hS hl
  unfold f_X10_puts at h
  refine lv_aload_n hx hb dX10_puts_0 rfl (lv_at hl 0 rfl) ?_
  replace h := o_b h; obtain ⟨x1, h1, h⟩ := h
  refine m_get (C := RX10) (T := TX10) (N := 25) (ci := 10) hx hb hts qi_X10_puts_X10 hown hK.1 hM 10 (ldR_F h1) rfl (by decide) (hts _ q_X10_puts_1) (fun _ h9 => h9) dX10_puts_1 ?_
  refine lv_aload_n hx hb dX10_puts_4 rfl (lv_at hl 0 rfl) ?_
  replace h := o_b h; obtain ⟨x5, h5, h⟩ := h
  refine m_get (C := RX10) (T := TX10) (N := 25) (ci := 10) hx hb hts qi_X10_puts_X10 hown hK.1 hM 11 (ldI_F h5) rfl (by decide) (hts _ q_X10_puts_2) (fun _ h9 => h9) dX10_puts_5 ?_
  refine lv_iload_n hx hb dX10_puts_8 rfl (lv_at hl 1 rfl) ?_
  replace h := o_b h; obtain ⟨f9, h9, h⟩ := h
  refine m_iast hx hb hK.1 hM hS rfl h9 dX10_puts_9 (fun H locs hM hS => ?_)
  refine lv_aload_n hx hb dX10_puts_10 rfl (lv_at hl 0 rfl) ?_
  refine lv_dup hx hb dX10_puts_11 rfl ?_
  replace h := o_b h; obtain ⟨x12, h12, h⟩ := h
  refine m_get (C := RX10) (T := TX10) (N := 25) (ci := 10) hx hb hts qi_X10_puts_X10 hown hK.1 hM 11 (ldI_F h12) rfl (by decide) (hts _ q_X10_puts_2) (fun _ h9 => h9) dX10_puts_12 ?_
  refine lv_iconst (v := (1 : Int32)) hx hb dX10_puts_15 (by decide) ?_
  refine lv_iadd hx hb dX10_puts_16 ?_
  replace h := o_b h; obtain ⟨f17, h17, h⟩ := h
  refine m_put (ty := .int) (C := RX10) (T := TX10) (N := 25) (ci := 10) hx hb hts qi_X10_puts_X10 tyX10 tyX10_ok nmX10 hown hK.1 hM hS 11 h17 rfl (by decide) (hts _ q_X10_puts_2) (fun _ h9 => h9) rfl (by decide +kernel) rfl rfl dX10_puts_17 (fun H locs hM hS => ?_)
  replace h := Option.some.inj h; subst h
  exact W.vret hx hb hr (fun t ht hW => ⟨rfl, by rw [ht]; exact hM.moved hW.alike, hS.F ht⟩) hS.2.2 dX10_puts_20
set_option maxHeartbeats 4000000 in
set_option maxRecDepth 100000 in
theorem c_X10_puts (l : Launch) (D : mmD) (b0 sz : Nat) {v0 : Nat} {v1 : Int32} {f : mmF} {res : mmF} (h : f_X10_puts v0 v1 f = some res) : Met l yX10_puts wsX10_puts ({ frames := 0, cells := 0, slots := 0, locals := 0 } : Room) (va_Pc [.ref v0, .int v1] (PW D b0 f sz)) (QW D b0 none res sz) 0 0 (fun q => b0 ≤ q) := by
  refine Met.ofW (cc := cX10_puts) (maxL := 2) (ret := none) (by decide) rfl ?_
  intro p e s m args below meth c s₁ B hml hv
  obtain ⟨rfl, hM, hK⟩ := hv
  have hl := lv_entry ([.ref v0, .int v1]) (n := 2) (Nat.le_of_ble_eq_true rfl)
  rw [lg_entry_eq]
  generalize (lg_sl ([.ref v0, .int v1]) ++ List.replicate (2 - (lg_sl ([.ref v0, .int v1])).length) Slot.unset).toArray = ls at hl ⊢
  have hl : lv_has ls 2 [(0, .ref v0), (1, .int v1)] := hl
  exact w_X10_puts ⟨B.exec, B.bytes, B.returns, hml, findClass_of_methodNamed B.named, atoms_spec (ws := wsX10_puts) B.pre, B.notSynchronized, hK⟩ h s.heap [] ls hM va_S.rf hl
end S_X10_puts
/-! X10_comesOut -/
set_option maxRecDepth 20000 in
theorem qi_X10_comesOut_X10 : ∀ w ∈ u_ws RX10 TX10 25, w ∈ wsX10_comesOut := by decide +kernel
set_option maxRecDepth 20000 in
theorem q_X10_comesOut_1 : Cond.fieldLink RX10 125 "StageTruthsModel" "waits" "I" ∈ wsX10_comesOut := by decide +kernel
set_option maxRecDepth 20000 in
theorem q_X10_comesOut_2 : Cond.fieldLink RX10 32 "StageTruthsModel" "waiting" "[I" ∈ wsX10_comesOut := by decide +kernel
noncomputable def f_X10_comesOut_59 (k0 : Nat → Int32 → mmF → Option (mmF))  (v0 : Nat) (v1 : Int32) (f : mmF) : Option (mmF) :=
  (ldI f v0 10 13).bind fun x61 =>
  (stF f v0 10 13 (.int (x61 - (1 : Int32)))).bind fun f66 =>
  (ldR f66 v0 10 12).bind fun x71 =>
  (ldI f66 v0 10 13).bind fun x75 =>
  (ldA 0 f66 x71 x75).bind fun x78 =>
  (ckO f66 v0 10).bind fun _ =>
  (f_X10_puts v0 x78 f66).bind fun q79 =>
  k0 v0 v1 q79
noncomputable def f_X10_comesOut_0   : Nat → Nat → Int32 → mmF → Option (mmF)
  | 0, _, _, _ => none
  | n + 1, v0, v1, f =>
    (ldI f v0 10 13).bind fun x1 =>
    if x1 ≤ 0 then
    (some (f))
    else
    (ldR f v0 10 12).bind fun x8 =>
    (ldI f v0 10 13).bind fun x12 =>
    (ldA 0 f x8 (x12 - (1 : Int32))).bind fun x17 =>
    if (10 : Int32) ≤ x17 then
    (some (f))
    else
    (ldR f v0 10 12).bind fun x24 =>
    (ldI f v0 10 13).bind fun x28 =>
    (ldA 0 f x24 (x28 - (1 : Int32))).bind fun x33 =>
    if x33 < v1 then
    (f_X10_comesOut_59 (fun a0 a1 a2 => f_X10_comesOut_0 n a0 a1 a2) v0 v1 f)
    else
    (ldR f v0 10 12).bind fun x39 =>
    (ldI f v0 10 13).bind fun x43 =>
    (ldA 0 f x39 (x43 - (1 : Int32))).bind fun x48 =>
    if x48 = v1 then
    (if v1 = (9 : Int32) then
    (some (f))
    else
    f_X10_comesOut_59 (fun a0 a1 a2 => f_X10_comesOut_0 n a0 a1 a2) v0 v1 f)
    else
    some (f)
noncomputable def f_X10_comesOut (v0 : Nat) (v1 : Int32) (f : mmF) : Option (mmF) :=
  f_X10_comesOut_0 FU v0 v1 f
section S_X10_comesOut
variable {p : Program} {l : Launch} {e : Env} {s : State} {m : MethodId} {args : Array Value} {below : List Frame} {meth : Method} {c : Code} {D : mmD} {b0 sz : Nat} {f : mmF}
set_option maxHeartbeats 4000000 in
set_option maxRecDepth 100000 in
theorem w_X10_comesOut_59 (C0 : CX cX10_comesOut 2 none wsX10_comesOut RX10 p s m args meth c D b0) {k0 : Nat → Int32 → mmF → Option (mmF)} {res : mmF} (hk0 : ∀ (v0 : Nat) (v1 : Int32) (f : mmF), k0 v0 v1 f = some res → ∀ (H : Heap) (locs : List Loc) (ls : Array Slot), MM vwCl D b0 f sz s H → mS b0 s H locs → lv_has ls 2 [(0, .ref v0), (1, .int v1)] → W p l e ({ frames := 1, cells := 0, slots := 0, locals := 21 } : Room) s m args below meth c H locs 0 0 (MQ below (QW D b0 none res sz) args s 0 0 (fun q => b0 ≤ q)) (F0 m 0 ls [])) : ∀ (v0 : Nat) (v1 : Int32) (f : mmF), f_X10_comesOut_59 k0 v0 v1 f = some res → ∀ (H : Heap) (locs : List Loc) (ls : Array Slot), MM vwCl D b0 f sz s H → mS b0 s H locs → lv_has ls 2 [(0, .ref v0), (1, .int v1)] → W p l e ({ frames := 1, cells := 0, slots := 0, locals := 21 } : Room) s m args below meth c H locs 0 0 (MQ below (QW D b0 none res sz) args s 0 0 (fun q => b0 ≤ q)) (F0 m 59 ls []) := by
  obtain ⟨hx, hb, hr, hml, hown, hts, hlocks, hK⟩ := id C0
  intro v0 v1 f h H locs ls hM hS hl
  unfold f_X10_comesOut_59 at h
  refine lv_aload_n hx hb dX10_comesOut_59 rfl (lv_at hl 0 rfl) ?_
  refine lv_dup hx hb dX10_comesOut_60 rfl ?_
  replace h := o_b h; obtain ⟨x61, h61, h⟩ := h
  refine m_get (C := RX10) (T := TX10) (N := 25) (ci := 10) hx hb hts qi_X10_comesOut_X10 hown hK.1 hM 13 (ldI_F h61) rfl (by decide) (hts _ q_X10_comesOut_1) (fun _ h9 => h9) dX10_comesOut_61 ?_
  refine lv_iconst (v := (1 : Int32)) hx hb dX10_comesOut_64 (by decide) ?_
  refine lv_isub hx hb dX10_comesOut_65 ?_
  replace h := o_b h; obtain ⟨f66, h66, h⟩ := h
  refine m_put (ty := .int) (C := RX10) (T := TX10) (N := 25) (ci := 10) hx hb hts qi_X10_comesOut_X10 tyX10 tyX10_ok nmX10 hown hK.1 hM hS 13 h66 rfl (by decide) (hts _ q_X10_comesOut_1) (fun _ h9 => h9) rfl (by decide +kernel) rfl rfl dX10_comesOut_66 (fun H locs hM hS => ?_)
  refine lv_aload_n hx hb dX10_comesOut_69 rfl (lv_at hl 0 rfl) ?_
  refine lv_aload_n hx hb dX10_comesOut_70 rfl (lv_at hl 0 rfl) ?_
  replace h := o_b h; obtain ⟨x71, h71, h⟩ := h
  refine m_get (C := RX10) (T := TX10) (N := 25) (ci := 10) hx hb hts qi_X10_comesOut_X10 hown hK.1 hM 12 (ldR_F h71) rfl (by decide) (hts _ q_X10_comesOut_2) (fun _ h9 => h9) dX10_comesOut_71 ?_
  refine lv_aload_n hx hb dX10_comesOut_74 rfl (lv_at hl 0 rfl) ?_
  replace h := o_b h; obtain ⟨x75, h75, h⟩ := h
  refine m_get (C := RX10) (T := TX10) (N := 25) (ci := 10) hx hb hts qi_X10_comesOut_X10 hown hK.1 hM 13 (ldI_F h75) rfl (by decide) (hts _ q_X10_comesOut_1) (fun _ h9 => h9) dX10_comesOut_75 ?_
  replace h := o_b h; obtain ⟨x78, h78, h⟩ := h
  refine m_iald hx hb hK.1 hM hS rfl h78 dX10_comesOut_78 ?_
  replace h := o_b h; obtain ⟨_, k79, h⟩ := h
  replace h := o_b h; obtain ⟨q79, h79, h⟩ := h
  refine m_call (va_runV (As := [.int x78]) (rest := []) ⟨hx, hb, hml, hown, hts⟩ (c_X10_puts l D b0 sz h79) (cwV 1 hts gX10_comesOut_X10_puts rfl rfl rfl (by decide +kernel) ⟨Nat.le_of_ble_eq_true rfl, Nat.le_of_ble_eq_true rfl⟩) ⟨PW.blind, m_recv (ci := 10) rfl hK hM k79, (fun U hU hW => ⟨rfl, PW.call hK hM hS hU hW⟩)⟩ rfl rfl hl.1 rfl (lv_room (Nat.le_of_ble_eq_true rfl)) dX10_comesOut_79 ⟨(Nat.le_refl _), (Nat.le_refl _)⟩) hS (fun H locs hM hS => ?_)
  refine lv_goto (tgt := 0) hx hb dX10_comesOut_82 (by decide) ?_
  exact hk0 _ _ _ h _ _ _ hM hS (lv_sub hl [0, 1] rfl)
set_option maxHeartbeats 4000000 in
set_option maxRecDepth 100000 in
theorem w_X10_comesOut_0 (C0 : CX cX10_comesOut 2 none wsX10_comesOut RX10 p s m args meth c D b0) {res : mmF} : ∀ (n : Nat), ∀ (v0 : Nat) (v1 : Int32) (f : mmF), f_X10_comesOut_0 n v0 v1 f = some res → ∀ (H : Heap) (locs : List Loc) (ls : Array Slot), MM vwCl D b0 f sz s H → mS b0 s H locs → lv_has ls 2 [(0, .ref v0), (1, .int v1)] → W p l e ({ frames := 1, cells := 0, slots := 0, locals := 21 } : Room) s m args below meth c H locs 0 0 (MQ below (QW D b0 none res sz) args s 0 0 (fun q => b0 ≤ q)) (F0 m 0 ls []) := by
  obtain ⟨hx, hb, hr, hml, hown, hts, hlocks, hK⟩ := id C0
  intro n
  induction n with
  | zero =>
    intro v0 v1 f h
    have h : (none : Option (mmF)) = some res := h
    cases h
  | succ n ih =>
    intro v0 v1 f h H locs ls hM hS hl
    rw [f_X10_comesOut_0] at h
    refine lv_aload_n hx hb dX10_comesOut_0 rfl (lv_at hl 0 rfl) ?_
    replace h := o_b h; obtain ⟨x1, h1, h⟩ := h
    refine m_get (C := RX10) (T := TX10) (N := 25) (ci := 10) hx hb hts qi_X10_comesOut_X10 hown hK.1 hM 13 (ldI_F h1) rfl (by decide) (hts _ q_X10_comesOut_1) (fun _ h9 => h9) dX10_comesOut_1 ?_
    refine lv_if_le (tgt := 85) hx hb dX10_comesOut_4 (by decide) (fun c4 => ?_) (fun c4 => ?_)
    · replace h := o_t c4 h
      replace h := Option.some.inj h; subst h
      exact W.vret hx hb hr (fun t ht hW => ⟨rfl, by rw [ht]; exact hM.moved hW.alike, hS.F ht⟩) hS.2.2 dX10_comesOut_85
    replace h := o_f c4 h
    refine lv_aload_n hx hb dX10_comesOut_7 rfl (lv_at hl 0 rfl) ?_
    replace h := o_b h; obtain ⟨x8, h8, h⟩ := h
    refine m_get (C := RX10) (T := TX10) (N := 25) (ci := 10) hx hb hts qi_X10_comesOut_X10 hown hK.1 hM 12 (ldR_F h8) rfl (by decide) (hts _ q_X10_comesOut_2) (fun _ h9 => h9) dX10_comesOut_8 ?_
    refine lv_aload_n hx hb dX10_comesOut_11 rfl (lv_at hl 0 rfl) ?_
    replace h := o_b h; obtain ⟨x12, h12, h⟩ := h
    refine m_get (C := RX10) (T := TX10) (N := 25) (ci := 10) hx hb hts qi_X10_comesOut_X10 hown hK.1 hM 13 (ldI_F h12) rfl (by decide) (hts _ q_X10_comesOut_1) (fun _ h9 => h9) dX10_comesOut_12 ?_
    refine lv_iconst (v := (1 : Int32)) hx hb dX10_comesOut_15 (by decide) ?_
    refine lv_isub hx hb dX10_comesOut_16 ?_
    replace h := o_b h; obtain ⟨x17, h17, h⟩ := h
    refine m_iald hx hb hK.1 hM hS rfl h17 dX10_comesOut_17 ?_
    refine lv_bipush (v := (10 : Int32)) hx hb dX10_comesOut_18 (by decide) ?_
    refine lv_icmp_ge (tgt := 85) hx hb dX10_comesOut_20 (by decide) (fun c20 => ?_) (fun c20 => ?_)
    · replace h := o_t c20 h
      replace h := Option.some.inj h; subst h
      exact W.vret hx hb hr (fun t ht hW => ⟨rfl, by rw [ht]; exact hM.moved hW.alike, hS.F ht⟩) hS.2.2 dX10_comesOut_85
    replace h := o_f c20 h
    refine lv_aload_n hx hb dX10_comesOut_23 rfl (lv_at hl 0 rfl) ?_
    replace h := o_b h; obtain ⟨x24, h24, h⟩ := h
    refine m_get (C := RX10) (T := TX10) (N := 25) (ci := 10) hx hb hts qi_X10_comesOut_X10 hown hK.1 hM 12 (ldR_F h24) rfl (by decide) (hts _ q_X10_comesOut_2) (fun _ h9 => h9) dX10_comesOut_24 ?_
    refine lv_aload_n hx hb dX10_comesOut_27 rfl (lv_at hl 0 rfl) ?_
    replace h := o_b h; obtain ⟨x28, h28, h⟩ := h
    refine m_get (C := RX10) (T := TX10) (N := 25) (ci := 10) hx hb hts qi_X10_comesOut_X10 hown hK.1 hM 13 (ldI_F h28) rfl (by decide) (hts _ q_X10_comesOut_1) (fun _ h9 => h9) dX10_comesOut_28 ?_
    refine lv_iconst (v := (1 : Int32)) hx hb dX10_comesOut_31 (by decide) ?_
    refine lv_isub hx hb dX10_comesOut_32 ?_
    replace h := o_b h; obtain ⟨x33, h33, h⟩ := h
    refine m_iald hx hb hK.1 hM hS rfl h33 dX10_comesOut_33 ?_
    refine lv_iload_n hx hb dX10_comesOut_34 rfl (lv_at hl 1 rfl) ?_
    refine lv_icmp_lt (tgt := 59) hx hb dX10_comesOut_35 (by decide) (fun c35 => ?_) (fun c35 => ?_)
    · replace h := o_t c35 h
      exact w_X10_comesOut_59 C0 ih _ _ _ h _ _ _ hM hS (lv_sub hl [0, 1] rfl)
    replace h := o_f c35 h
    refine lv_aload_n hx hb dX10_comesOut_38 rfl (lv_at hl 0 rfl) ?_
    replace h := o_b h; obtain ⟨x39, h39, h⟩ := h
    refine m_get (C := RX10) (T := TX10) (N := 25) (ci := 10) hx hb hts qi_X10_comesOut_X10 hown hK.1 hM 12 (ldR_F h39) rfl (by decide) (hts _ q_X10_comesOut_2) (fun _ h9 => h9) dX10_comesOut_39 ?_
    refine lv_aload_n hx hb dX10_comesOut_42 rfl (lv_at hl 0 rfl) ?_
    replace h := o_b h; obtain ⟨x43, h43, h⟩ := h
    refine m_get (C := RX10) (T := TX10) (N := 25) (ci := 10) hx hb hts qi_X10_comesOut_X10 hown hK.1 hM 13 (ldI_F h43) rfl (by decide) (hts _ q_X10_comesOut_1) (fun _ h9 => h9) dX10_comesOut_43 ?_
    refine lv_iconst (v := (1 : Int32)) hx hb dX10_comesOut_46 (by decide) ?_
    refine lv_isub hx hb dX10_comesOut_47 ?_
    replace h := o_b h; obtain ⟨x48, h48, h⟩ := h
    refine m_iald hx hb hK.1 hM hS rfl h48 dX10_comesOut_48 ?_
    refine lv_iload_n hx hb dX10_comesOut_49 rfl (lv_at hl 1 rfl) ?_
    refine lv_icmp_ne (tgt := 85) hx hb dX10_comesOut_50 (by decide) (fun c50 => ?_) (fun c50 => ?_)
    · replace h := o_f c50 h
      replace h := Option.some.inj h; subst h
      exact W.vret hx hb hr (fun t ht hW => ⟨rfl, by rw [ht]; exact hM.moved hW.alike, hS.F ht⟩) hS.2.2 dX10_comesOut_85
    replace h := o_t c50 h
    refine lv_iload_n hx hb dX10_comesOut_53 rfl (lv_at hl 1 rfl) ?_
    refine lv_bipush (v := (9 : Int32)) hx hb dX10_comesOut_54 (by decide) ?_
    refine lv_icmp_eq (tgt := 85) hx hb dX10_comesOut_56 (by decide) (fun c56 => ?_) (fun c56 => ?_)
    · replace h := o_t c56 h
      replace h := Option.some.inj h; subst h
      exact W.vret hx hb hr (fun t ht hW => ⟨rfl, by rw [ht]; exact hM.moved hW.alike, hS.F ht⟩) hS.2.2 dX10_comesOut_85
    replace h := o_f c56 h
    exact w_X10_comesOut_59 C0 ih _ _ _ h _ _ _ hM hS (lv_sub hl [0, 1] rfl)
set_option maxHeartbeats 4000000 in
set_option maxRecDepth 100000 in
theorem w_X10_comesOut (C0 : CX cX10_comesOut 2 none wsX10_comesOut RX10 p s m args meth c D b0) {v0 : Nat} {v1 : Int32} {res : mmF} (h : f_X10_comesOut v0 v1 f = some res) : ∀ (H : Heap) (locs : List Loc) (ls : Array Slot), MM vwCl D b0 f sz s H → mS b0 s H locs → lv_has ls 2 [(0, .ref v0), (1, .int v1)] → W p l e ({ frames := 1, cells := 0, slots := 0, locals := 21 } : Room) s m args below meth c H locs 0 0 (MQ below (QW D b0 none res sz) args s 0 0 (fun q => b0 ≤ q)) (F0 m 0 ls []) := by
  obtain ⟨hx, hb, hr, hml, hown, hts, hlocks, hK⟩ := id C0
  intro H locs ls hM hS hl
  unfold f_X10_comesOut at h
  exact w_X10_comesOut_0 C0 FU _ _ _ h _ _ _ hM hS (lv_sub hl [0, 1] rfl)
set_option maxHeartbeats 4000000 in
set_option maxRecDepth 100000 in
theorem c_X10_comesOut (l : Launch) (D : mmD) (b0 sz : Nat) {v0 : Nat} {v1 : Int32} {f : mmF} {res : mmF} (h : f_X10_comesOut v0 v1 f = some res) : Met l yX10_comesOut wsX10_comesOut ({ frames := 1, cells := 0, slots := 0, locals := 21 } : Room) (va_Pc [.ref v0, .int v1] (PW D b0 f sz)) (QW D b0 none res sz) 0 0 (fun q => b0 ≤ q) := by
  refine Met.ofW (cc := cX10_comesOut) (maxL := 2) (ret := none) (by decide) rfl ?_
  intro p e s m args below meth c s₁ B hml hv
  obtain ⟨rfl, hM, hK⟩ := hv
  have hl := lv_entry ([.ref v0, .int v1]) (n := 2) (Nat.le_of_ble_eq_true rfl)
  rw [lg_entry_eq]
  generalize (lg_sl ([.ref v0, .int v1]) ++ List.replicate (2 - (lg_sl ([.ref v0, .int v1])).length) Slot.unset).toArray = ls at hl ⊢
  have hl : lv_has ls 2 [(0, .ref v0), (1, .int v1)] := hl
  exact w_X10_comesOut ⟨B.exec, B.bytes, B.returns, hml, findClass_of_methodNamed B.named, atoms_spec (ws := wsX10_comesOut) B.pre, B.notSynchronized, hK⟩ h s.heap [] ls hM va_S.rf hl
end S_X10_comesOut
/-! X10_waitsThen -/
set_option maxRecDepth 20000 in
theorem qi_X10_waitsThen_X10 : ∀ w ∈ u_ws RX10 TX10 25, w ∈ wsX10_waitsThen := by decide +kernel
set_option maxRecDepth 20000 in
theorem q_X10_waitsThen_1 : Cond.fieldLink RX10 32 "StageTruthsModel" "waiting" "[I" ∈ wsX10_waitsThen := by decide +kernel
set_option maxRecDepth 20000 in
theorem q_X10_waitsThen_2 : Cond.fieldLink RX10 125 "StageTruthsModel" "waits" "I" ∈ wsX10_waitsThen := by decide +kernel
noncomputable def f_X10_waitsThen (v0 : Nat) (v1 : Int32) (f : mmF) : Option (mmF) :=
  (ldR f v0 10 12).bind fun x1 =>
  (ldI f v0 10 13).bind fun x5 =>
  (stA 0 f x1 x5 v1).bind fun f9 =>
  (ldI f9 v0 10 13).bind fun x12 =>
  (stF f9 v0 10 13 (.int (x12 + (1 : Int32)))).bind fun f17 =>
  some (f17)
section S_X10_waitsThen
variable {p : Program} {l : Launch} {e : Env} {s : State} {m : MethodId} {args : Array Value} {below : List Frame} {meth : Method} {c : Code} {D : mmD} {b0 sz : Nat} {f : mmF}
set_option maxHeartbeats 4000000 in
set_option maxRecDepth 100000 in
theorem w_X10_waitsThen (C0 : CX cX10_waitsThen 2 none wsX10_waitsThen RX10 p s m args meth c D b0) {v0 : Nat} {v1 : Int32} {res : mmF} (h : f_X10_waitsThen v0 v1 f = some res) : ∀ (H : Heap) (locs : List Loc) (ls : Array Slot), MM vwCl D b0 f sz s H → mS b0 s H locs → lv_has ls 2 [(0, .ref v0), (1, .int v1)] → W p l e ({ frames := 0, cells := 0, slots := 0, locals := 0 } : Room) s m args below meth c H locs 0 0 (MQ below (QW D b0 none res sz) args s 0 0 (fun q => b0 ≤ q)) (F0 m 0 ls []) := by
  obtain ⟨hx, hb, hr, hml, hown, hts, hlocks, hK⟩ := id C0
  intro H locs ls hM hS hl
  unfold f_X10_waitsThen at h
  refine lv_aload_n hx hb dX10_waitsThen_0 rfl (lv_at hl 0 rfl) ?_
  replace h := o_b h; obtain ⟨x1, h1, h⟩ := h
  refine m_get (C := RX10) (T := TX10) (N := 25) (ci := 10) hx hb hts qi_X10_waitsThen_X10 hown hK.1 hM 12 (ldR_F h1) rfl (by decide) (hts _ q_X10_waitsThen_1) (fun _ h9 => h9) dX10_waitsThen_1 ?_
  refine lv_aload_n hx hb dX10_waitsThen_4 rfl (lv_at hl 0 rfl) ?_
  replace h := o_b h; obtain ⟨x5, h5, h⟩ := h
  refine m_get (C := RX10) (T := TX10) (N := 25) (ci := 10) hx hb hts qi_X10_waitsThen_X10 hown hK.1 hM 13 (ldI_F h5) rfl (by decide) (hts _ q_X10_waitsThen_2) (fun _ h9 => h9) dX10_waitsThen_5 ?_
  refine lv_iload_n hx hb dX10_waitsThen_8 rfl (lv_at hl 1 rfl) ?_
  replace h := o_b h; obtain ⟨f9, h9, h⟩ := h
  refine m_iast hx hb hK.1 hM hS rfl h9 dX10_waitsThen_9 (fun H locs hM hS => ?_)
  refine lv_aload_n hx hb dX10_waitsThen_10 rfl (lv_at hl 0 rfl) ?_
  refine lv_dup hx hb dX10_waitsThen_11 rfl ?_
  replace h := o_b h; obtain ⟨x12, h12, h⟩ := h
  refine m_get (C := RX10) (T := TX10) (N := 25) (ci := 10) hx hb hts qi_X10_waitsThen_X10 hown hK.1 hM 13 (ldI_F h12) rfl (by decide) (hts _ q_X10_waitsThen_2) (fun _ h9 => h9) dX10_waitsThen_12 ?_
  refine lv_iconst (v := (1 : Int32)) hx hb dX10_waitsThen_15 (by decide) ?_
  refine lv_iadd hx hb dX10_waitsThen_16 ?_
  replace h := o_b h; obtain ⟨f17, h17, h⟩ := h
  refine m_put (ty := .int) (C := RX10) (T := TX10) (N := 25) (ci := 10) hx hb hts qi_X10_waitsThen_X10 tyX10 tyX10_ok nmX10 hown hK.1 hM hS 13 h17 rfl (by decide) (hts _ q_X10_waitsThen_2) (fun _ h9 => h9) rfl (by decide +kernel) rfl rfl dX10_waitsThen_17 (fun H locs hM hS => ?_)
  replace h := Option.some.inj h; subst h
  exact W.vret hx hb hr (fun t ht hW => ⟨rfl, by rw [ht]; exact hM.moved hW.alike, hS.F ht⟩) hS.2.2 dX10_waitsThen_20
set_option maxHeartbeats 4000000 in
set_option maxRecDepth 100000 in
theorem c_X10_waitsThen (l : Launch) (D : mmD) (b0 sz : Nat) {v0 : Nat} {v1 : Int32} {f : mmF} {res : mmF} (h : f_X10_waitsThen v0 v1 f = some res) : Met l yX10_waitsThen wsX10_waitsThen ({ frames := 0, cells := 0, slots := 0, locals := 0 } : Room) (va_Pc [.ref v0, .int v1] (PW D b0 f sz)) (QW D b0 none res sz) 0 0 (fun q => b0 ≤ q) := by
  refine Met.ofW (cc := cX10_waitsThen) (maxL := 2) (ret := none) (by decide) rfl ?_
  intro p e s m args below meth c s₁ B hml hv
  obtain ⟨rfl, hM, hK⟩ := hv
  have hl := lv_entry ([.ref v0, .int v1]) (n := 2) (Nat.le_of_ble_eq_true rfl)
  rw [lg_entry_eq]
  generalize (lg_sl ([.ref v0, .int v1]) ++ List.replicate (2 - (lg_sl ([.ref v0, .int v1])).length) Slot.unset).toArray = ls at hl ⊢
  have hl : lv_has ls 2 [(0, .ref v0), (1, .int v1)] := hl
  exact w_X10_waitsThen ⟨B.exec, B.bytes, B.returns, hml, findClass_of_methodNamed B.named, atoms_spec (ws := wsX10_waitsThen) B.pre, B.notSynchronized, hK⟩ h s.heap [] ls hM va_S.rf hl
end S_X10_waitsThen
/-! X10_operand -/
noncomputable def f_X10_operand_19  (f : mmF) (v0 : Int32) : Option (Int32) :=
  if v0 = (84 : Int32) then
  (some ((4 : Int32)))
  else
  if v0 = (70 : Int32) then
  (some ((5 : Int32)))
  else
  some ((-5 : Int32))
noncomputable def f_X10_operand (v0 : Int32) (f : mmF) : Option (Int32) :=
  if v0 < (97 : Int32) then
  (f_X10_operand_19 f v0)
  else
  if (100 : Int32) < v0 then
  (f_X10_operand_19 f v0)
  else
  some ((v0 - (97 : Int32)))
section S_X10_operand
variable {p : Program} {l : Launch} {e : Env} {s : State} {m : MethodId} {args : Array Value} {below : List Frame} {meth : Method} {c : Code} {D : mmD} {b0 sz : Nat} {f : mmF}
set_option maxHeartbeats 4000000 in
set_option maxRecDepth 100000 in
theorem w_X10_operand_19 (C0 : CX cX10_operand 1 (some .int) wsX10_operand RX10 p s m args meth c D b0) {res : Int32} : ∀ (v0 : Int32), f_X10_operand_19 f v0 = some res → ∀ (H : Heap) (locs : List Loc) (ls : Array Slot), MM vwCl D b0 f sz s H → mS b0 s H locs → lv_has ls 1 [(0, .int v0)] → W p l e ({ frames := 0, cells := 0, slots := 0, locals := 0 } : Room) s m args below meth c H locs 0 0 (MQ below (QW D b0 (some (.int res)) f sz) args s 0 0 (fun q => b0 ≤ q)) (F0 m 19 ls []) := by
  obtain ⟨hx, hb, hr, hml, hown, hts, hlocks, hK⟩ := id C0
  intro v0 h H locs ls hM hS hl
  unfold f_X10_operand_19 at h
  refine lv_iload_n hx hb dX10_operand_19 rfl (lv_at hl 0 rfl) ?_
  refine lv_bipush (v := (84 : Int32)) hx hb dX10_operand_20 (by decide) ?_
  refine lv_icmp_ne (tgt := 29) hx hb dX10_operand_22 (by decide) (fun c22 => ?_) (fun c22 => ?_)
  · replace h := o_f c22 h
    refine lv_iload_n hx hb dX10_operand_29 rfl (lv_at hl 0 rfl) ?_
    refine lv_bipush (v := (70 : Int32)) hx hb dX10_operand_30 (by decide) ?_
    refine lv_icmp_ne (tgt := 39) hx hb dX10_operand_32 (by decide) (fun c32 => ?_) (fun c32 => ?_)
    · replace h := o_f c32 h
      refine lv_bipush (v := (-5 : Int32)) hx hb dX10_operand_39 (by decide) ?_
      replace h := Option.some.inj h; subst h
      exact W.iret hx hb hr (fun t ht hW => ⟨rfl, by rw [ht]; exact hM.moved hW.alike, hS.F ht⟩) hS.2.2 dX10_operand_41
    replace h := o_t c32 h
    refine lv_iconst (v := (5 : Int32)) hx hb dX10_operand_35 (by decide) ?_
    refine lv_goto (tgt := 41) hx hb dX10_operand_36 (by decide) ?_
    replace h := Option.some.inj h; subst h
    exact W.iret hx hb hr (fun t ht hW => ⟨rfl, by rw [ht]; exact hM.moved hW.alike, hS.F ht⟩) hS.2.2 dX10_operand_41
  replace h := o_t c22 h
  refine lv_iconst (v := (4 : Int32)) hx hb dX10_operand_25 (by decide) ?_
  refine lv_goto (tgt := 41) hx hb dX10_operand_26 (by decide) ?_
  replace h := Option.some.inj h; subst h
  exact W.iret hx hb hr (fun t ht hW => ⟨rfl, by rw [ht]; exact hM.moved hW.alike, hS.F ht⟩) hS.2.2 dX10_operand_41
set_option maxHeartbeats 4000000 in
set_option maxRecDepth 100000 in
theorem w_X10_operand (C0 : CX cX10_operand 1 (some .int) wsX10_operand RX10 p s m args meth c D b0) {v0 : Int32} {res : Int32} (h : f_X10_operand v0 f = some res) : ∀ (H : Heap) (locs : List Loc) (ls : Array Slot), MM vwCl D b0 f sz s H → mS b0 s H locs → lv_has ls 1 [(0, .int v0)] → W p l e ({ frames := 0, cells := 0, slots := 0, locals := 0 } : Room) s m args below meth c H locs 0 0 (MQ below (QW D b0 (some (.int res)) f sz) args s 0 0 (fun q => b0 ≤ q)) (F0 m 0 ls []) := by
  obtain ⟨hx, hb, hr, hml, hown, hts, hlocks, hK⟩ := id C0
  intro H locs ls hM hS hl
  unfold f_X10_operand at h
  refine lv_iload_n hx hb dX10_operand_0 rfl (lv_at hl 0 rfl) ?_
  refine lv_bipush (v := (97 : Int32)) hx hb dX10_operand_1 (by decide) ?_
  refine lv_icmp_lt (tgt := 19) hx hb dX10_operand_3 (by decide) (fun c3 => ?_) (fun c3 => ?_)
  · replace h := o_t c3 h
    exact w_X10_operand_19 C0 _ h _ _ _ hM hS (lv_sub hl [0] rfl)
  replace h := o_f c3 h
  refine lv_iload_n hx hb dX10_operand_6 rfl (lv_at hl 0 rfl) ?_
  refine lv_bipush (v := (100 : Int32)) hx hb dX10_operand_7 (by decide) ?_
  refine lv_icmp_gt (tgt := 19) hx hb dX10_operand_9 (by decide) (fun c9 => ?_) (fun c9 => ?_)
  · replace h := o_t c9 h
    exact w_X10_operand_19 C0 _ h _ _ _ hM hS (lv_sub hl [0] rfl)
  replace h := o_f c9 h
  refine lv_iload_n hx hb dX10_operand_12 rfl (lv_at hl 0 rfl) ?_
  refine lv_bipush (v := (97 : Int32)) hx hb dX10_operand_13 (by decide) ?_
  refine lv_isub hx hb dX10_operand_15 ?_
  refine lv_goto (tgt := 41) hx hb dX10_operand_16 (by decide) ?_
  replace h := Option.some.inj h; subst h
  exact W.iret hx hb hr (fun t ht hW => ⟨rfl, by rw [ht]; exact hM.moved hW.alike, hS.F ht⟩) hS.2.2 dX10_operand_41
set_option maxHeartbeats 4000000 in
set_option maxRecDepth 100000 in
theorem c_X10_operand (l : Launch) (D : mmD) (b0 sz : Nat) {v0 : Int32} {f : mmF} {res : Int32} (h : f_X10_operand v0 f = some res) : Met l yX10_operand wsX10_operand ({ frames := 0, cells := 0, slots := 0, locals := 0 } : Room) (va_Pc [.int v0] (PW D b0 f sz)) (QW D b0 (some (.int res)) f sz) 0 0 (fun q => b0 ≤ q) := by
  refine Met.ofW (cc := cX10_operand) (maxL := 1) (ret := (some .int)) (by decide) rfl ?_
  intro p e s m args below meth c s₁ B hml hv
  obtain ⟨rfl, hM, hK⟩ := hv
  have hl := lv_entry ([.int v0]) (n := 1) (Nat.le_of_ble_eq_true rfl)
  rw [lg_entry_eq]
  generalize (lg_sl ([.int v0]) ++ List.replicate (1 - (lg_sl ([.int v0])).length) Slot.unset).toArray = ls at hl ⊢
  have hl : lv_has ls 1 [(0, .int v0)] := hl
  exact w_X10_operand ⟨B.exec, B.bytes, B.returns, hml, findClass_of_methodNamed B.named, atoms_spec (ws := wsX10_operand) B.pre, B.notSynchronized, hK⟩ h s.heap [] ls hM va_S.rf hl
end S_X10_operand
/-! X10_operator -/
noncomputable def f_X10_operator (v0 : Int32) (f : mmF) : Option (Int32) :=
  if v0 = (38 : Int32) then
  (some ((7 : Int32)))
  else
  if v0 = (124 : Int32) then
  (some ((8 : Int32)))
  else
  if v0 = (62 : Int32) then
  (some ((9 : Int32)))
  else
  some ((-5 : Int32))
section S_X10_operator
variable {p : Program} {l : Launch} {e : Env} {s : State} {m : MethodId} {args : Array Value} {below : List Frame} {meth : Method} {c : Code} {D : mmD} {b0 sz : Nat} {f : mmF}
set_option maxHeartbeats 4000000 in
set_option maxRecDepth 100000 in
theorem w_X10_operator (C0 : CX cX10_operator 1 (some .int) wsX10_operator RX10 p s m args meth c D b0) {v0 : Int32} {res : Int32} (h : f_X10_operator v0 f = some res) : ∀ (H : Heap) (locs : List Loc) (ls : Array Slot), MM vwCl D b0 f sz s H → mS b0 s H locs → lv_has ls 1 [(0, .int v0)] → W p l e ({ frames := 0, cells := 0, slots := 0, locals := 0 } : Room) s m args below meth c H locs 0 0 (MQ below (QW D b0 (some (.int res)) f sz) args s 0 0 (fun q => b0 ≤ q)) (F0 m 0 ls []) := by
  obtain ⟨hx, hb, hr, hml, hown, hts, hlocks, hK⟩ := id C0
  intro H locs ls hM hS hl
  unfold f_X10_operator at h
  refine lv_iload_n hx hb dX10_operator_0 rfl (lv_at hl 0 rfl) ?_
  refine lv_bipush (v := (38 : Int32)) hx hb dX10_operator_1 (by decide) ?_
  refine lv_icmp_ne (tgt := 11) hx hb dX10_operator_3 (by decide) (fun c3 => ?_) (fun c3 => ?_)
  · replace h := o_f c3 h
    refine lv_iload_n hx hb dX10_operator_11 rfl (lv_at hl 0 rfl) ?_
    refine lv_bipush (v := (124 : Int32)) hx hb dX10_operator_12 (by decide) ?_
    refine lv_icmp_ne (tgt := 22) hx hb dX10_operator_14 (by decide) (fun c14 => ?_) (fun c14 => ?_)
    · replace h := o_f c14 h
      refine lv_iload_n hx hb dX10_operator_22 rfl (lv_at hl 0 rfl) ?_
      refine lv_bipush (v := (62 : Int32)) hx hb dX10_operator_23 (by decide) ?_
      refine lv_icmp_ne (tgt := 33) hx hb dX10_operator_25 (by decide) (fun c25 => ?_) (fun c25 => ?_)
      · replace h := o_f c25 h
        refine lv_bipush (v := (-5 : Int32)) hx hb dX10_operator_33 (by decide) ?_
        replace h := Option.some.inj h; subst h
        exact W.iret hx hb hr (fun t ht hW => ⟨rfl, by rw [ht]; exact hM.moved hW.alike, hS.F ht⟩) hS.2.2 dX10_operator_35
      replace h := o_t c25 h
      refine lv_bipush (v := (9 : Int32)) hx hb dX10_operator_28 (by decide) ?_
      refine lv_goto (tgt := 35) hx hb dX10_operator_30 (by decide) ?_
      replace h := Option.some.inj h; subst h
      exact W.iret hx hb hr (fun t ht hW => ⟨rfl, by rw [ht]; exact hM.moved hW.alike, hS.F ht⟩) hS.2.2 dX10_operator_35
    replace h := o_t c14 h
    refine lv_bipush (v := (8 : Int32)) hx hb dX10_operator_17 (by decide) ?_
    refine lv_goto (tgt := 35) hx hb dX10_operator_19 (by decide) ?_
    replace h := Option.some.inj h; subst h
    exact W.iret hx hb hr (fun t ht hW => ⟨rfl, by rw [ht]; exact hM.moved hW.alike, hS.F ht⟩) hS.2.2 dX10_operator_35
  replace h := o_t c3 h
  refine lv_bipush (v := (7 : Int32)) hx hb dX10_operator_6 (by decide) ?_
  refine lv_goto (tgt := 35) hx hb dX10_operator_8 (by decide) ?_
  replace h := Option.some.inj h; subst h
  exact W.iret hx hb hr (fun t ht hW => ⟨rfl, by rw [ht]; exact hM.moved hW.alike, hS.F ht⟩) hS.2.2 dX10_operator_35
set_option maxHeartbeats 4000000 in
set_option maxRecDepth 100000 in
theorem c_X10_operator (l : Launch) (D : mmD) (b0 sz : Nat) {v0 : Int32} {f : mmF} {res : Int32} (h : f_X10_operator v0 f = some res) : Met l yX10_operator wsX10_operator ({ frames := 0, cells := 0, slots := 0, locals := 0 } : Room) (va_Pc [.int v0] (PW D b0 f sz)) (QW D b0 (some (.int res)) f sz) 0 0 (fun q => b0 ≤ q) := by
  refine Met.ofW (cc := cX10_operator) (maxL := 1) (ret := (some .int)) (by decide) rfl ?_
  intro p e s m args below meth c s₁ B hml hv
  obtain ⟨rfl, hM, hK⟩ := hv
  have hl := lv_entry ([.int v0]) (n := 1) (Nat.le_of_ble_eq_true rfl)
  rw [lg_entry_eq]
  generalize (lg_sl ([.int v0]) ++ List.replicate (1 - (lg_sl ([.int v0])).length) Slot.unset).toArray = ls at hl ⊢
  have hl : lv_has ls 1 [(0, .int v0)] := hl
  exact w_X10_operator ⟨B.exec, B.bytes, B.returns, hml, findClass_of_methodNamed B.named, atoms_spec (ws := wsX10_operator) B.pre, B.notSynchronized, hK⟩ h s.heap [] ls hM va_S.rf hl
end S_X10_operator
/-! X10_isClaim -/
set_option maxRecDepth 20000 in
theorem qi_X10_isClaim_X10 : ∀ w ∈ u_ws RX10 TX10 25, w ∈ wsX10_isClaim := by decide +kernel
set_option maxRecDepth 20000 in
theorem q_X10_isClaim_1 : Cond.fieldLink RX10 131 "StageTruthsModel" "at" "I" ∈ wsX10_isClaim := by decide +kernel
set_option maxRecDepth 20000 in
theorem q_X10_isClaim_2 : Cond.fieldLink RX10 119 "StageTruthsModel" "typed" "I" ∈ wsX10_isClaim := by decide +kernel
set_option maxRecDepth 20000 in
theorem q_X10_isClaim_3 : Cond.fieldLink RX10 25 "StageTruthsModel" "text" "[C" ∈ wsX10_isClaim := by decide +kernel
set_option maxRecDepth 20000 in
theorem q_X10_isClaim_4 : Cond.fieldLink RX10 125 "StageTruthsModel" "waits" "I" ∈ wsX10_isClaim := by decide +kernel
set_option maxRecDepth 20000 in
theorem q_X10_isClaim_5 : Cond.fieldLink RX10 122 "StageTruthsModel" "length" "I" ∈ wsX10_isClaim := by decide +kernel
noncomputable def f_X10_isClaim_171 (k19 : Nat → Int32 → Int32 → mmF → Option (Int32 × mmF))  (v0 : Nat) (v1 : Int32) (v2 : Int32) (f : mmF) : Option (Int32 × mmF) :=
  (ldI f v0 10 9).bind fun x173 =>
  (stF f v0 10 9 (.int (x173 + (1 : Int32)))).bind fun f178 =>
  k19 v0 v1 v2 f178
noncomputable def f_X10_isClaim_147 (k19 : Nat → Int32 → Int32 → mmF → Option (Int32 × mmF))  (v0 : Nat) (v1 : Int32) (v3 : Int32) (f : mmF) : Option (Int32 × mmF) :=
  (f_X10_operand v3 f).bind fun q148 =>
  if q148 = (-5 : Int32) then
  (some ((0 : Int32), f))
  else
  (f_X10_operand v3 f).bind fun q158 =>
  (ckO f v0 10).bind fun _ =>
  (f_X10_puts v0 q158 f).bind fun q161 =>
  f_X10_isClaim_171 k19 v0 v1 (1 : Int32) q161
noncomputable def f_X10_isClaim_76 (k19 : Nat → Int32 → Int32 → mmF → Option (Int32 × mmF))  (v0 : Nat) (v1 : Int32) (v3 : Int32) (f : mmF) : Option (Int32 × mmF) :=
  (f_X10_operator v3 f).bind fun q77 =>
  if q77 = (-5 : Int32) then
  (some ((0 : Int32), f))
  else
  (f_X10_operator v3 f).bind fun q87 =>
  (ckO f v0 10).bind fun _ =>
  (f_X10_comesOut v0 q87 f).bind fun q90 =>
  (f_X10_operator v3 q90).bind fun q95 =>
  (ckO q90 v0 10).bind fun _ =>
  (f_X10_waitsThen v0 q95 q90).bind fun q98 =>
  f_X10_isClaim_171 k19 v0 v1 (0 : Int32) q98
noncomputable def f_X10_isClaim_19   : Nat → Nat → Int32 → Int32 → mmF → Option (Int32 × mmF)
  | 0, _, _, _, _ => none
  | n + 1, v0, v1, v2, f =>
    (ldI f v0 10 9).bind fun x20 =>
    (ldI f v0 10 7).bind fun x24 =>
    if x24 ≤ x20 then
    (if v2 = 0 then
    (some ((0 : Int32), f))
    else
    if v1 ≤ 0 then
    ((ckO f v0 10).bind fun _ =>
    (f_X10_comesOut v0 (10 : Int32) f).bind fun q197 =>
    some ((1 : Int32), q197))
    else
    some ((0 : Int32), f))
    else
    (ldR f v0 10 8).bind fun x31 =>
    (ldI f v0 10 9).bind fun x35 =>
    (ldA 1 f x31 x35).bind fun x38 =>
    if v2 = 0 then
    (if x38 = (126 : Int32) then
    ((ckO f v0 10).bind fun _ =>
    (f_X10_waitsThen v0 (6 : Int32) f).bind fun q117 =>
    f_X10_isClaim_171 (fun a0 a1 a2 a3 => f_X10_isClaim_19 n a0 a1 a2 a3) v0 v1 v2 q117)
    else
    if x38 = (40 : Int32) then
    (if (6 : Int32) ≤ v1 then
    (f_X10_isClaim_147 (fun a0 a1 a2 a3 => f_X10_isClaim_19 n a0 a1 a2 a3) v0 v1 x38 f)
    else
    (ckO f v0 10).bind fun _ =>
    (f_X10_waitsThen v0 (10 : Int32) f).bind fun q138 =>
    f_X10_isClaim_171 (fun a0 a1 a2 a3 => f_X10_isClaim_19 n a0 a1 a2 a3) v0 (v1 + (1 : Int32)) v2 q138)
    else
    f_X10_isClaim_147 (fun a0 a1 a2 a3 => f_X10_isClaim_19 n a0 a1 a2 a3) v0 v1 x38 f)
    else
    if x38 = (41 : Int32) then
    (if v1 ≤ 0 then
    (f_X10_isClaim_76 (fun a0 a1 a2 a3 => f_X10_isClaim_19 n a0 a1 a2 a3) v0 v1 x38 f)
    else
    (ckO f v0 10).bind fun _ =>
    (f_X10_comesOut v0 (10 : Int32) f).bind fun q57 =>
    (ldI q57 v0 10 13).bind fun x62 =>
    (stF q57 v0 10 13 (.int (x62 - (1 : Int32)))).bind fun f67 =>
    f_X10_isClaim_171 (fun a0 a1 a2 a3 => f_X10_isClaim_19 n a0 a1 a2 a3) v0 (v1 + (-1 : Int32)) v2 f67)
    else
    f_X10_isClaim_76 (fun a0 a1 a2 a3 => f_X10_isClaim_19 n a0 a1 a2 a3) v0 v1 x38 f
noncomputable def f_X10_isClaim (v0 : Nat) (f : mmF) : Option (Int32 × mmF) :=
  (stF f v0 10 11 (.int (0 : Int32))).bind fun f2 =>
  (stF f2 v0 10 13 (.int (0 : Int32))).bind fun f7 =>
  (stF f7 v0 10 9 (.int (0 : Int32))).bind fun f16 =>
  f_X10_isClaim_19 FU v0 (0 : Int32) (0 : Int32) f16
section S_X10_isClaim
variable {p : Program} {l : Launch} {e : Env} {s : State} {m : MethodId} {args : Array Value} {below : List Frame} {meth : Method} {c : Code} {D : mmD} {b0 sz : Nat} {f : mmF}
set_option maxHeartbeats 4000000 in
set_option maxRecDepth 100000 in
theorem w_X10_isClaim_171 (C0 : CX cX10_isClaim 4 (some .boolean) wsX10_isClaim RX10 p s m args meth c D b0) {k19 : Nat → Int32 → Int32 → mmF → Option (Int32 × mmF)} {res : Int32 × mmF} (hk19 : ∀ (v0 : Nat) (v1 : Int32) (v2 : Int32) (f : mmF), k19 v0 v1 v2 f = some res → ∀ (H : Heap) (locs : List Loc) (ls : Array Slot), MM vwCl D b0 f sz s H → mS b0 s H locs → lv_has ls 4 [(0, .ref v0), (1, .int v1), (2, .int v2)] → W p l e ({ frames := 2, cells := 0, slots := 0, locals := 42 } : Room) s m args below meth c H locs 0 0 (MQ below (QW D b0 (some (.int res.1)) res.2 sz) args s 0 0 (fun q => b0 ≤ q)) (F0 m 19 ls [])) : ∀ (v0 : Nat) (v1 : Int32) (v2 : Int32) (f : mmF), f_X10_isClaim_171 k19 v0 v1 v2 f = some res → ∀ (H : Heap) (locs : List Loc) (ls : Array Slot), MM vwCl D b0 f sz s H → mS b0 s H locs → lv_has ls 4 [(0, .ref v0), (1, .int v1), (2, .int v2)] → W p l e ({ frames := 2, cells := 0, slots := 0, locals := 42 } : Room) s m args below meth c H locs 0 0 (MQ below (QW D b0 (some (.int res.1)) res.2 sz) args s 0 0 (fun q => b0 ≤ q)) (F0 m 171 ls []) := by
  obtain ⟨hx, hb, hr, hml, hown, hts, hlocks, hK⟩ := id C0
  intro v0 v1 v2 f h H locs ls hM hS hl
  unfold f_X10_isClaim_171 at h
  refine lv_aload_n hx hb dX10_isClaim_171 rfl (lv_at hl 0 rfl) ?_
  refine lv_dup hx hb dX10_isClaim_172 rfl ?_
  replace h := o_b h; obtain ⟨x173, h173, h⟩ := h
  refine m_get (C := RX10) (T := TX10) (N := 25) (ci := 10) hx hb hts qi_X10_isClaim_X10 hown hK.1 hM 9 (ldI_F h173) rfl (by decide) (hts _ q_X10_isClaim_1) (fun _ h9 => h9) dX10_isClaim_173 ?_
  refine lv_iconst (v := (1 : Int32)) hx hb dX10_isClaim_176 (by decide) ?_
  refine lv_iadd hx hb dX10_isClaim_177 ?_
  replace h := o_b h; obtain ⟨f178, h178, h⟩ := h
  refine m_put (ty := .int) (C := RX10) (T := TX10) (N := 25) (ci := 10) hx hb hts qi_X10_isClaim_X10 tyX10 tyX10_ok nmX10 hown hK.1 hM hS 9 h178 rfl (by decide) (hts _ q_X10_isClaim_1) (fun _ h9 => h9) rfl (by decide +kernel) rfl rfl dX10_isClaim_178 (fun H locs hM hS => ?_)
  refine lv_goto (tgt := 19) hx hb dX10_isClaim_181 (by decide) ?_
  exact hk19 _ _ _ _ h _ _ _ hM hS (lv_sub hl [0, 1, 2] rfl)
set_option maxHeartbeats 4000000 in
set_option maxRecDepth 100000 in
theorem w_X10_isClaim_147 (C0 : CX cX10_isClaim 4 (some .boolean) wsX10_isClaim RX10 p s m args meth c D b0) {k19 : Nat → Int32 → Int32 → mmF → Option (Int32 × mmF)} {res : Int32 × mmF} (hk19 : ∀ (v0 : Nat) (v1 : Int32) (v2 : Int32) (f : mmF), k19 v0 v1 v2 f = some res → ∀ (H : Heap) (locs : List Loc) (ls : Array Slot), MM vwCl D b0 f sz s H → mS b0 s H locs → lv_has ls 4 [(0, .ref v0), (1, .int v1), (2, .int v2)] → W p l e ({ frames := 2, cells := 0, slots := 0, locals := 42 } : Room) s m args below meth c H locs 0 0 (MQ below (QW D b0 (some (.int res.1)) res.2 sz) args s 0 0 (fun q => b0 ≤ q)) (F0 m 19 ls [])) : ∀ (v0 : Nat) (v1 : Int32) (v3 : Int32) (f : mmF), f_X10_isClaim_147 k19 v0 v1 v3 f = some res → ∀ (H : Heap) (locs : List Loc) (ls : Array Slot), MM vwCl D b0 f sz s H → mS b0 s H locs → lv_has ls 4 [(0, .ref v0), (1, .int v1), (3, .int v3)] → W p l e ({ frames := 2, cells := 0, slots := 0, locals := 42 } : Room) s m args below meth c H locs 0 0 (MQ below (QW D b0 (some (.int res.1)) res.2 sz) args s 0 0 (fun q => b0 ≤ q)) (F0 m 147 ls []) := by
  obtain ⟨hx, hb, hr, hml, hown, hts, hlocks, hK⟩ := id C0
  intro v0 v1 v3 f h H locs ls hM hS hl
  unfold f_X10_isClaim_147 at h
  refine lv_iload_n hx hb dX10_isClaim_147 rfl (lv_at hl 2 rfl) ?_
  replace h := o_b h; obtain ⟨q148, h148, h⟩ := h
  refine m_call (va_runS (As := [.int v3]) (rest := []) ⟨hx, hb, hml, hown, hts⟩ (c_X10_operand l D b0 sz h148) (va_cwS 1 hts gX10_isClaim_X10_operand rfl rfl rfl (by decide +kernel) ⟨Nat.le_of_ble_eq_true rfl, Nat.le_of_ble_eq_true rfl⟩) ⟨PW.blind, (fun U hU hW => ⟨rfl, PW.call hK hM hS hU hW⟩)⟩ rfl rfl hl.1 rfl (lv_room (Nat.le_of_ble_eq_true rfl)) dX10_isClaim_148 ⟨(Nat.le_refl _), (Nat.le_refl _)⟩) hS (fun H locs hM hS => ?_)
  refine lv_bipush (v := (-5 : Int32)) hx hb dX10_isClaim_151 (by decide) ?_
  refine lv_icmp_eq (tgt := 169) hx hb dX10_isClaim_153 (by decide) (fun c153 => ?_) (fun c153 => ?_)
  · replace h := o_t c153 h
    refine lv_iconst (v := (0 : Int32)) hx hb dX10_isClaim_169 (by decide) ?_
    replace h := Option.some.inj h; subst h
    exact W.zret hx hb hr rfl (fun t ht hW => ⟨rfl, by rw [ht]; exact hM.moved hW.alike, hS.F ht⟩) hS.2.2 dX10_isClaim_170
  replace h := o_f c153 h
  refine lv_aload_n hx hb dX10_isClaim_156 rfl (lv_at hl 0 rfl) ?_
  refine lv_iload_n hx hb dX10_isClaim_157 rfl (lv_at hl 2 rfl) ?_
  replace h := o_b h; obtain ⟨q158, h158, h⟩ := h
  refine m_call (va_runS (As := [.int v3]) (rest := [.ref v0]) ⟨hx, hb, hml, hown, hts⟩ (c_X10_operand l D b0 sz h158) (va_cwS 1 hts gX10_isClaim_X10_operand rfl rfl rfl (by decide +kernel) ⟨Nat.le_of_ble_eq_true rfl, Nat.le_of_ble_eq_true rfl⟩) ⟨PW.blind, (fun U hU hW => ⟨rfl, PW.call hK hM hS hU hW⟩)⟩ rfl rfl hl.1 rfl (lv_room (Nat.le_of_ble_eq_true rfl)) dX10_isClaim_158 ⟨(Nat.le_refl _), (Nat.le_refl _)⟩) hS (fun H locs hM hS => ?_)
  replace h := o_b h; obtain ⟨_, k161, h⟩ := h
  replace h := o_b h; obtain ⟨q161, h161, h⟩ := h
  refine m_call (va_runV (As := [.int q158]) (rest := []) ⟨hx, hb, hml, hown, hts⟩ (c_X10_puts l D b0 sz h161) (cwV 1 hts gX10_isClaim_X10_puts rfl rfl rfl (by decide +kernel) ⟨Nat.le_of_ble_eq_true rfl, Nat.le_of_ble_eq_true rfl⟩) ⟨PW.blind, m_recv (ci := 10) rfl hK hM k161, (fun U hU hW => ⟨rfl, PW.call hK hM hS hU hW⟩)⟩ rfl rfl hl.1 rfl (lv_room (Nat.le_of_ble_eq_true rfl)) dX10_isClaim_161 ⟨(Nat.le_refl _), (Nat.le_refl _)⟩) hS (fun H locs hM hS => ?_)
  refine lv_iconst (v := (1 : Int32)) hx hb dX10_isClaim_164 (by decide) ?_
  refine lv_istore_n (lv' := [(2, .int (1 : Int32)), (0, .ref v0), (1, .int v1), (3, .int v3)]) hx hb dX10_isClaim_165 rfl hl (by decide) rfl (fun ls hl => ?_)
  refine lv_goto (tgt := 171) hx hb dX10_isClaim_166 (by decide) ?_
  exact w_X10_isClaim_171 C0 hk19 _ _ _ _ h _ _ _ hM hS (lv_sub hl [1, 2, 0] rfl)
set_option maxHeartbeats 4000000 in
set_option maxRecDepth 100000 in
theorem w_X10_isClaim_76 (C0 : CX cX10_isClaim 4 (some .boolean) wsX10_isClaim RX10 p s m args meth c D b0) {k19 : Nat → Int32 → Int32 → mmF → Option (Int32 × mmF)} {res : Int32 × mmF} (hk19 : ∀ (v0 : Nat) (v1 : Int32) (v2 : Int32) (f : mmF), k19 v0 v1 v2 f = some res → ∀ (H : Heap) (locs : List Loc) (ls : Array Slot), MM vwCl D b0 f sz s H → mS b0 s H locs → lv_has ls 4 [(0, .ref v0), (1, .int v1), (2, .int v2)] → W p l e ({ frames := 2, cells := 0, slots := 0, locals := 42 } : Room) s m args below meth c H locs 0 0 (MQ below (QW D b0 (some (.int res.1)) res.2 sz) args s 0 0 (fun q => b0 ≤ q)) (F0 m 19 ls [])) : ∀ (v0 : Nat) (v1 : Int32) (v3 : Int32) (f : mmF), f_X10_isClaim_76 k19 v0 v1 v3 f = some res → ∀ (H : Heap) (locs : List Loc) (ls : Array Slot), MM vwCl D b0 f sz s H → mS b0 s H locs → lv_has ls 4 [(0, .ref v0), (1, .int v1), (3, .int v3)] → W p l e ({ frames := 2, cells := 0, slots := 0, locals := 42 } : Room) s m args below meth c H locs 0 0 (MQ below (QW D b0 (some (.int res.1)) res.2 sz) args s 0 0 (fun q => b0 ≤ q)) (F0 m 76 ls []) := by
  obtain ⟨hx, hb, hr, hml, hown, hts, hlocks, hK⟩ := id C0
  intro v0 v1 v3 f h H locs ls hM hS hl
  unfold f_X10_isClaim_76 at h
  refine lv_iload_n hx hb dX10_isClaim_76 rfl (lv_at hl 2 rfl) ?_
  replace h := o_b h; obtain ⟨q77, h77, h⟩ := h
  refine m_call (va_runS (As := [.int v3]) (rest := []) ⟨hx, hb, hml, hown, hts⟩ (c_X10_operator l D b0 sz h77) (va_cwS 1 hts gX10_isClaim_X10_operator rfl rfl rfl (by decide +kernel) ⟨Nat.le_of_ble_eq_true rfl, Nat.le_of_ble_eq_true rfl⟩) ⟨PW.blind, (fun U hU hW => ⟨rfl, PW.call hK hM hS hU hW⟩)⟩ rfl rfl hl.1 rfl (lv_room (Nat.le_of_ble_eq_true rfl)) dX10_isClaim_77 ⟨(Nat.le_refl _), (Nat.le_refl _)⟩) hS (fun H locs hM hS => ?_)
  refine lv_bipush (v := (-5 : Int32)) hx hb dX10_isClaim_80 (by decide) ?_
  refine lv_icmp_eq (tgt := 106) hx hb dX10_isClaim_82 (by decide) (fun c82 => ?_) (fun c82 => ?_)
  · replace h := o_t c82 h
    refine lv_iconst (v := (0 : Int32)) hx hb dX10_isClaim_106 (by decide) ?_
    replace h := Option.some.inj h; subst h
    exact W.zret hx hb hr rfl (fun t ht hW => ⟨rfl, by rw [ht]; exact hM.moved hW.alike, hS.F ht⟩) hS.2.2 dX10_isClaim_107
  replace h := o_f c82 h
  refine lv_aload_n hx hb dX10_isClaim_85 rfl (lv_at hl 0 rfl) ?_
  refine lv_iload_n hx hb dX10_isClaim_86 rfl (lv_at hl 2 rfl) ?_
  replace h := o_b h; obtain ⟨q87, h87, h⟩ := h
  refine m_call (va_runS (As := [.int v3]) (rest := [.ref v0]) ⟨hx, hb, hml, hown, hts⟩ (c_X10_operator l D b0 sz h87) (va_cwS 1 hts gX10_isClaim_X10_operator rfl rfl rfl (by decide +kernel) ⟨Nat.le_of_ble_eq_true rfl, Nat.le_of_ble_eq_true rfl⟩) ⟨PW.blind, (fun U hU hW => ⟨rfl, PW.call hK hM hS hU hW⟩)⟩ rfl rfl hl.1 rfl (lv_room (Nat.le_of_ble_eq_true rfl)) dX10_isClaim_87 ⟨(Nat.le_refl _), (Nat.le_refl _)⟩) hS (fun H locs hM hS => ?_)
  replace h := o_b h; obtain ⟨_, k90, h⟩ := h
  replace h := o_b h; obtain ⟨q90, h90, h⟩ := h
  refine m_call (va_runV (As := [.int q87]) (rest := []) ⟨hx, hb, hml, hown, hts⟩ (c_X10_comesOut l D b0 sz h90) (cwV 1 hts gX10_isClaim_X10_comesOut rfl rfl rfl (by decide +kernel) ⟨Nat.le_of_ble_eq_true rfl, Nat.le_of_ble_eq_true rfl⟩) ⟨PW.blind, m_recv (ci := 10) rfl hK hM k90, (fun U hU hW => ⟨rfl, PW.call hK hM hS hU hW⟩)⟩ rfl rfl hl.1 rfl (lv_room (Nat.le_of_ble_eq_true rfl)) dX10_isClaim_90 ⟨(Nat.le_refl _), (Nat.le_refl _)⟩) hS (fun H locs hM hS => ?_)
  refine lv_aload_n hx hb dX10_isClaim_93 rfl (lv_at hl 0 rfl) ?_
  refine lv_iload_n hx hb dX10_isClaim_94 rfl (lv_at hl 2 rfl) ?_
  replace h := o_b h; obtain ⟨q95, h95, h⟩ := h
  refine m_call (va_runS (As := [.int v3]) (rest := [.ref v0]) ⟨hx, hb, hml, hown, hts⟩ (c_X10_operator l D b0 sz h95) (va_cwS 1 hts gX10_isClaim_X10_operator rfl rfl rfl (by decide +kernel) ⟨Nat.le_of_ble_eq_true rfl, Nat.le_of_ble_eq_true rfl⟩) ⟨PW.blind, (fun U hU hW => ⟨rfl, PW.call hK hM hS hU hW⟩)⟩ rfl rfl hl.1 rfl (lv_room (Nat.le_of_ble_eq_true rfl)) dX10_isClaim_95 ⟨(Nat.le_refl _), (Nat.le_refl _)⟩) hS (fun H locs hM hS => ?_)
  replace h := o_b h; obtain ⟨_, k98, h⟩ := h
  replace h := o_b h; obtain ⟨q98, h98, h⟩ := h
  refine m_call (va_runV (As := [.int q95]) (rest := []) ⟨hx, hb, hml, hown, hts⟩ (c_X10_waitsThen l D b0 sz h98) (cwV 1 hts gX10_isClaim_X10_waitsThen rfl rfl rfl (by decide +kernel) ⟨Nat.le_of_ble_eq_true rfl, Nat.le_of_ble_eq_true rfl⟩) ⟨PW.blind, m_recv (ci := 10) rfl hK hM k98, (fun U hU hW => ⟨rfl, PW.call hK hM hS hU hW⟩)⟩ rfl rfl hl.1 rfl (lv_room (Nat.le_of_ble_eq_true rfl)) dX10_isClaim_98 ⟨(Nat.le_refl _), (Nat.le_refl _)⟩) hS (fun H locs hM hS => ?_)
  refine lv_iconst (v := (0 : Int32)) hx hb dX10_isClaim_101 (by decide) ?_
  refine lv_istore_n (lv' := [(2, .int (0 : Int32)), (0, .ref v0), (1, .int v1), (3, .int v3)]) hx hb dX10_isClaim_102 rfl hl (by decide) rfl (fun ls hl => ?_)
  refine lv_goto (tgt := 171) hx hb dX10_isClaim_103 (by decide) ?_
  exact w_X10_isClaim_171 C0 hk19 _ _ _ _ h _ _ _ hM hS (lv_sub hl [1, 2, 0] rfl)
set_option maxHeartbeats 4000000 in
set_option maxRecDepth 100000 in
theorem w_X10_isClaim_19 (C0 : CX cX10_isClaim 4 (some .boolean) wsX10_isClaim RX10 p s m args meth c D b0) {res : Int32 × mmF} : ∀ (n : Nat), ∀ (v0 : Nat) (v1 : Int32) (v2 : Int32) (f : mmF), f_X10_isClaim_19 n v0 v1 v2 f = some res → ∀ (H : Heap) (locs : List Loc) (ls : Array Slot), MM vwCl D b0 f sz s H → mS b0 s H locs → lv_has ls 4 [(0, .ref v0), (1, .int v1), (2, .int v2)] → W p l e ({ frames := 2, cells := 0, slots := 0, locals := 42 } : Room) s m args below meth c H locs 0 0 (MQ below (QW D b0 (some (.int res.1)) res.2 sz) args s 0 0 (fun q => b0 ≤ q)) (F0 m 19 ls []) := by
  obtain ⟨hx, hb, hr, hml, hown, hts, hlocks, hK⟩ := id C0
  intro n
  induction n with
  | zero =>
    intro v0 v1 v2 f h
    have h : (none : Option (Int32 × mmF)) = some res := h
    cases h
  | succ n ih =>
    intro v0 v1 v2 f h H locs ls hM hS hl
    rw [f_X10_isClaim_19] at h
    refine lv_aload_n hx hb dX10_isClaim_19 rfl (lv_at hl 0 rfl) ?_
    replace h := o_b h; obtain ⟨x20, h20, h⟩ := h
    refine m_get (C := RX10) (T := TX10) (N := 25) (ci := 10) hx hb hts qi_X10_isClaim_X10 hown hK.1 hM 9 (ldI_F h20) rfl (by decide) (hts _ q_X10_isClaim_1) (fun _ h9 => h9) dX10_isClaim_20 ?_
    refine lv_aload_n hx hb dX10_isClaim_23 rfl (lv_at hl 0 rfl) ?_
    replace h := o_b h; obtain ⟨x24, h24, h⟩ := h
    refine m_get (C := RX10) (T := TX10) (N := 25) (ci := 10) hx hb hts qi_X10_isClaim_X10 hown hK.1 hM 7 (ldI_F h24) rfl (by decide) (hts _ q_X10_isClaim_2) (fun _ h9 => h9) dX10_isClaim_24 ?_
    refine lv_icmp_ge (tgt := 184) hx hb dX10_isClaim_27 (by decide) (fun c27 => ?_) (fun c27 => ?_)
    · replace h := o_t c27 h
      refine lv_iload_n hx hb dX10_isClaim_184 rfl (lv_at hl 2 rfl) ?_
      refine lv_if_eq (tgt := 192) hx hb dX10_isClaim_185 (by decide) (fun c185 => ?_) (fun c185 => ?_)
      · replace h := o_t c185 h
        refine lv_iconst (v := (0 : Int32)) hx hb dX10_isClaim_192 (by decide) ?_
        replace h := Option.some.inj h; subst h
        exact W.zret hx hb hr rfl (fun t ht hW => ⟨rfl, by rw [ht]; exact hM.moved hW.alike, hS.F ht⟩) hS.2.2 dX10_isClaim_193
      replace h := o_f c185 h
      refine lv_iload_n hx hb dX10_isClaim_188 rfl (lv_at hl 1 rfl) ?_
      refine lv_if_le (tgt := 194) hx hb dX10_isClaim_189 (by decide) (fun c189 => ?_) (fun c189 => ?_)
      · replace h := o_t c189 h
        refine lv_aload_n hx hb dX10_isClaim_194 rfl (lv_at hl 0 rfl) ?_
        refine lv_bipush (v := (10 : Int32)) hx hb dX10_isClaim_195 (by decide) ?_
        replace h := o_b h; obtain ⟨_, k197, h⟩ := h
        replace h := o_b h; obtain ⟨q197, h197, h⟩ := h
        refine m_call (va_runV (As := [.int (10 : Int32)]) (rest := []) ⟨hx, hb, hml, hown, hts⟩ (c_X10_comesOut l D b0 sz h197) (cwV 1 hts gX10_isClaim_X10_comesOut rfl rfl rfl (by decide +kernel) ⟨Nat.le_of_ble_eq_true rfl, Nat.le_of_ble_eq_true rfl⟩) ⟨PW.blind, m_recv (ci := 10) rfl hK hM k197, (fun U hU hW => ⟨rfl, PW.call hK hM hS hU hW⟩)⟩ rfl rfl hl.1 rfl (lv_room (Nat.le_of_ble_eq_true rfl)) dX10_isClaim_197 ⟨(Nat.le_refl _), (Nat.le_refl _)⟩) hS (fun H locs hM hS => ?_)
        refine lv_iconst (v := (1 : Int32)) hx hb dX10_isClaim_200 (by decide) ?_
        replace h := Option.some.inj h; subst h
        exact W.zret hx hb hr rfl (fun t ht hW => ⟨rfl, by rw [ht]; exact hM.moved hW.alike, hS.F ht⟩) hS.2.2 dX10_isClaim_201
      replace h := o_f c189 h
      refine lv_iconst (v := (0 : Int32)) hx hb dX10_isClaim_192 (by decide) ?_
      replace h := Option.some.inj h; subst h
      exact W.zret hx hb hr rfl (fun t ht hW => ⟨rfl, by rw [ht]; exact hM.moved hW.alike, hS.F ht⟩) hS.2.2 dX10_isClaim_193
    replace h := o_f c27 h
    refine lv_aload_n hx hb dX10_isClaim_30 rfl (lv_at hl 0 rfl) ?_
    replace h := o_b h; obtain ⟨x31, h31, h⟩ := h
    refine m_get (C := RX10) (T := TX10) (N := 25) (ci := 10) hx hb hts qi_X10_isClaim_X10 hown hK.1 hM 8 (ldR_F h31) rfl (by decide) (hts _ q_X10_isClaim_3) (fun _ h9 => h9) dX10_isClaim_31 ?_
    refine lv_aload_n hx hb dX10_isClaim_34 rfl (lv_at hl 0 rfl) ?_
    replace h := o_b h; obtain ⟨x35, h35, h⟩ := h
    refine m_get (C := RX10) (T := TX10) (N := 25) (ci := 10) hx hb hts qi_X10_isClaim_X10 hown hK.1 hM 9 (ldI_F h35) rfl (by decide) (hts _ q_X10_isClaim_1) (fun _ h9 => h9) dX10_isClaim_35 ?_
    replace h := o_b h; obtain ⟨x38, h38, h⟩ := h
    refine m_cald hx hb hK.1 hM rfl h38 dX10_isClaim_38 ?_
    refine lv_istore_n (lv' := [(3, .int x38), (0, .ref v0), (1, .int v1), (2, .int v2)]) hx hb dX10_isClaim_39 rfl hl (by decide) rfl (fun ls hl => ?_)
    refine lv_iload_n hx hb dX10_isClaim_40 rfl (lv_at hl 3 rfl) ?_
    refine lv_if_eq (tgt := 108) hx hb dX10_isClaim_41 (by decide) (fun c41 => ?_) (fun c41 => ?_)
    · replace h := o_t c41 h
      refine lv_iload_n hx hb dX10_isClaim_108 rfl (lv_at hl 0 rfl) ?_
      refine lv_bipush (v := (126 : Int32)) hx hb dX10_isClaim_109 (by decide) ?_
      refine lv_icmp_ne (tgt := 123) hx hb dX10_isClaim_111 (by decide) (fun c111 => ?_) (fun c111 => ?_)
      · replace h := o_f c111 h
        refine lv_iload_n hx hb dX10_isClaim_123 rfl (lv_at hl 0 rfl) ?_
        refine lv_bipush (v := (40 : Int32)) hx hb dX10_isClaim_124 (by decide) ?_
        refine lv_icmp_ne (tgt := 147) hx hb dX10_isClaim_126 (by decide) (fun c126 => ?_) (fun c126 => ?_)
        · replace h := o_f c126 h
          exact w_X10_isClaim_147 C0 ih _ _ _ _ h _ _ _ hM hS (lv_sub hl [1, 2, 0] rfl)
        replace h := o_t c126 h
        refine lv_iload_n hx hb dX10_isClaim_129 rfl (lv_at hl 2 rfl) ?_
        refine lv_bipush (v := (6 : Int32)) hx hb dX10_isClaim_130 (by decide) ?_
        refine lv_icmp_ge (tgt := 147) hx hb dX10_isClaim_132 (by decide) (fun c132 => ?_) (fun c132 => ?_)
        · replace h := o_t c132 h
          exact w_X10_isClaim_147 C0 ih _ _ _ _ h _ _ _ hM hS (lv_sub hl [1, 2, 0] rfl)
        replace h := o_f c132 h
        refine lv_aload_n hx hb dX10_isClaim_135 rfl (lv_at hl 1 rfl) ?_
        refine lv_bipush (v := (10 : Int32)) hx hb dX10_isClaim_136 (by decide) ?_
        replace h := o_b h; obtain ⟨_, k138, h⟩ := h
        replace h := o_b h; obtain ⟨q138, h138, h⟩ := h
        refine m_call (va_runV (As := [.int (10 : Int32)]) (rest := []) ⟨hx, hb, hml, hown, hts⟩ (c_X10_waitsThen l D b0 sz h138) (cwV 1 hts gX10_isClaim_X10_waitsThen rfl rfl rfl (by decide +kernel) ⟨Nat.le_of_ble_eq_true rfl, Nat.le_of_ble_eq_true rfl⟩) ⟨PW.blind, m_recv (ci := 10) rfl hK hM k138, (fun U hU hW => ⟨rfl, PW.call hK hM hS hU hW⟩)⟩ rfl rfl hl.1 rfl (lv_room (Nat.le_of_ble_eq_true rfl)) dX10_isClaim_138 ⟨(Nat.le_refl _), (Nat.le_refl _)⟩) hS (fun H locs hM hS => ?_)
        refine lv_iinc (v := (v1 + (1 : Int32))) (lv' := [(1, .int (v1 + (1 : Int32))), (3, .int x38), (0, .ref v0), (2, .int v2)]) hx hb dX10_isClaim_141 hl (k := 2) rfl rfl (by decide) rfl (fun ls hl => ?_)
        refine lv_goto (tgt := 171) hx hb dX10_isClaim_144 (by decide) ?_
        exact w_X10_isClaim_171 C0 ih _ _ _ _ h _ _ _ hM hS (lv_sub hl [2, 0, 3] rfl)
      replace h := o_t c111 h
      refine lv_aload_n hx hb dX10_isClaim_114 rfl (lv_at hl 1 rfl) ?_
      refine lv_bipush (v := (6 : Int32)) hx hb dX10_isClaim_115 (by decide) ?_
      replace h := o_b h; obtain ⟨_, k117, h⟩ := h
      replace h := o_b h; obtain ⟨q117, h117, h⟩ := h
      refine m_call (va_runV (As := [.int (6 : Int32)]) (rest := []) ⟨hx, hb, hml, hown, hts⟩ (c_X10_waitsThen l D b0 sz h117) (cwV 1 hts gX10_isClaim_X10_waitsThen rfl rfl rfl (by decide +kernel) ⟨Nat.le_of_ble_eq_true rfl, Nat.le_of_ble_eq_true rfl⟩) ⟨PW.blind, m_recv (ci := 10) rfl hK hM k117, (fun U hU hW => ⟨rfl, PW.call hK hM hS hU hW⟩)⟩ rfl rfl hl.1 rfl (lv_room (Nat.le_of_ble_eq_true rfl)) dX10_isClaim_117 ⟨(Nat.le_refl _), (Nat.le_refl _)⟩) hS (fun H locs hM hS => ?_)
      refine lv_goto (tgt := 171) hx hb dX10_isClaim_120 (by decide) ?_
      exact w_X10_isClaim_171 C0 ih _ _ _ _ h _ _ _ hM hS (lv_sub hl [1, 2, 3] rfl)
    replace h := o_f c41 h
    refine lv_iload_n hx hb dX10_isClaim_44 rfl (lv_at hl 0 rfl) ?_
    refine lv_bipush (v := (41 : Int32)) hx hb dX10_isClaim_45 (by decide) ?_
    refine lv_icmp_ne (tgt := 76) hx hb dX10_isClaim_47 (by decide) (fun c47 => ?_) (fun c47 => ?_)
    · replace h := o_f c47 h
      exact w_X10_isClaim_76 C0 ih _ _ _ _ h _ _ _ hM hS (lv_sub hl [1, 2, 0] rfl)
    replace h := o_t c47 h
    refine lv_iload_n hx hb dX10_isClaim_50 rfl (lv_at hl 2 rfl) ?_
    refine lv_if_le (tgt := 76) hx hb dX10_isClaim_51 (by decide) (fun c51 => ?_) (fun c51 => ?_)
    · replace h := o_t c51 h
      exact w_X10_isClaim_76 C0 ih _ _ _ _ h _ _ _ hM hS (lv_sub hl [1, 2, 0] rfl)
    replace h := o_f c51 h
    refine lv_aload_n hx hb dX10_isClaim_54 rfl (lv_at hl 1 rfl) ?_
    refine lv_bipush (v := (10 : Int32)) hx hb dX10_isClaim_55 (by decide) ?_
    replace h := o_b h; obtain ⟨_, k57, h⟩ := h
    replace h := o_b h; obtain ⟨q57, h57, h⟩ := h
    refine m_call (va_runV (As := [.int (10 : Int32)]) (rest := []) ⟨hx, hb, hml, hown, hts⟩ (c_X10_comesOut l D b0 sz h57) (cwV 1 hts gX10_isClaim_X10_comesOut rfl rfl rfl (by decide +kernel) ⟨Nat.le_of_ble_eq_true rfl, Nat.le_of_ble_eq_true rfl⟩) ⟨PW.blind, m_recv (ci := 10) rfl hK hM k57, (fun U hU hW => ⟨rfl, PW.call hK hM hS hU hW⟩)⟩ rfl rfl hl.1 rfl (lv_room (Nat.le_of_ble_eq_true rfl)) dX10_isClaim_57 ⟨(Nat.le_refl _), (Nat.le_refl _)⟩) hS (fun H locs hM hS => ?_)
    refine lv_aload_n hx hb dX10_isClaim_60 rfl (lv_at hl 1 rfl) ?_
    refine lv_dup hx hb dX10_isClaim_61 rfl ?_
    replace h := o_b h; obtain ⟨x62, h62, h⟩ := h
    refine m_get (C := RX10) (T := TX10) (N := 25) (ci := 10) hx hb hts qi_X10_isClaim_X10 hown hK.1 hM 13 (ldI_F h62) rfl (by decide) (hts _ q_X10_isClaim_4) (fun _ h9 => h9) dX10_isClaim_62 ?_
    refine lv_iconst (v := (1 : Int32)) hx hb dX10_isClaim_65 (by decide) ?_
    refine lv_isub hx hb dX10_isClaim_66 ?_
    replace h := o_b h; obtain ⟨f67, h67, h⟩ := h
    refine m_put (ty := .int) (C := RX10) (T := TX10) (N := 25) (ci := 10) hx hb hts qi_X10_isClaim_X10 tyX10 tyX10_ok nmX10 hown hK.1 hM hS 13 h67 rfl (by decide) (hts _ q_X10_isClaim_4) (fun _ h9 => h9) rfl (by decide +kernel) rfl rfl dX10_isClaim_67 (fun H locs hM hS => ?_)
    refine lv_iinc (v := (v1 + (-1 : Int32))) (lv' := [(1, .int (v1 + (-1 : Int32))), (3, .int x38), (0, .ref v0), (2, .int v2)]) hx hb dX10_isClaim_70 hl (k := 2) rfl rfl (by decide) rfl (fun ls hl => ?_)
    refine lv_goto (tgt := 171) hx hb dX10_isClaim_73 (by decide) ?_
    exact w_X10_isClaim_171 C0 ih _ _ _ _ h _ _ _ hM hS (lv_sub hl [2, 0, 3] rfl)
set_option maxHeartbeats 4000000 in
set_option maxRecDepth 100000 in
theorem w_X10_isClaim (C0 : CX cX10_isClaim 4 (some .boolean) wsX10_isClaim RX10 p s m args meth c D b0) {v0 : Nat} {res : Int32 × mmF} (h : f_X10_isClaim v0 f = some res) : ∀ (H : Heap) (locs : List Loc) (ls : Array Slot), MM vwCl D b0 f sz s H → mS b0 s H locs → lv_has ls 4 [(0, .ref v0)] → W p l e ({ frames := 2, cells := 0, slots := 0, locals := 42 } : Room) s m args below meth c H locs 0 0 (MQ below (QW D b0 (some (.int res.1)) res.2 sz) args s 0 0 (fun q => b0 ≤ q)) (F0 m 0 ls []) := by
  obtain ⟨hx, hb, hr, hml, hown, hts, hlocks, hK⟩ := id C0
  intro H locs ls hM hS hl
  unfold f_X10_isClaim at h
  refine lv_aload_n hx hb dX10_isClaim_0 rfl (lv_at hl 0 rfl) ?_
  refine lv_iconst (v := (0 : Int32)) hx hb dX10_isClaim_1 (by decide) ?_
  replace h := o_b h; obtain ⟨f2, h2, h⟩ := h
  refine m_put (ty := .int) (C := RX10) (T := TX10) (N := 25) (ci := 10) hx hb hts qi_X10_isClaim_X10 tyX10 tyX10_ok nmX10 hown hK.1 hM hS 11 h2 rfl (by decide) (hts _ q_X10_isClaim_5) (fun _ h9 => h9) rfl (by decide +kernel) rfl rfl dX10_isClaim_2 (fun H locs hM hS => ?_)
  refine lv_aload_n hx hb dX10_isClaim_5 rfl (lv_at hl 0 rfl) ?_
  refine lv_iconst (v := (0 : Int32)) hx hb dX10_isClaim_6 (by decide) ?_
  replace h := o_b h; obtain ⟨f7, h7, h⟩ := h
  refine m_put (ty := .int) (C := RX10) (T := TX10) (N := 25) (ci := 10) hx hb hts qi_X10_isClaim_X10 tyX10 tyX10_ok nmX10 hown hK.1 hM hS 13 h7 rfl (by decide) (hts _ q_X10_isClaim_4) (fun _ h9 => h9) rfl (by decide +kernel) rfl rfl dX10_isClaim_7 (fun H locs hM hS => ?_)
  refine lv_iconst (v := (0 : Int32)) hx hb dX10_isClaim_10 (by decide) ?_
  refine lv_istore_n (lv' := [(1, .int (0 : Int32)), (0, .ref v0)]) hx hb dX10_isClaim_11 rfl hl (by decide) rfl (fun ls hl => ?_)
  refine lv_iconst (v := (0 : Int32)) hx hb dX10_isClaim_12 (by decide) ?_
  refine lv_istore_n (lv' := [(2, .int (0 : Int32)), (1, .int (0 : Int32)), (0, .ref v0)]) hx hb dX10_isClaim_13 rfl hl (by decide) rfl (fun ls hl => ?_)
  refine lv_aload_n hx hb dX10_isClaim_14 rfl (lv_at hl 2 rfl) ?_
  refine lv_iconst (v := (0 : Int32)) hx hb dX10_isClaim_15 (by decide) ?_
  replace h := o_b h; obtain ⟨f16, h16, h⟩ := h
  refine m_put (ty := .int) (C := RX10) (T := TX10) (N := 25) (ci := 10) hx hb hts qi_X10_isClaim_X10 tyX10 tyX10_ok nmX10 hown hK.1 hM hS 9 h16 rfl (by decide) (hts _ q_X10_isClaim_1) (fun _ h9 => h9) rfl (by decide +kernel) rfl rfl dX10_isClaim_16 (fun H locs hM hS => ?_)
  exact w_X10_isClaim_19 C0 FU _ _ _ _ h _ _ _ hM hS (lv_sub hl [2, 1, 0] rfl)
set_option maxHeartbeats 4000000 in
set_option maxRecDepth 100000 in
theorem c_X10_isClaim (l : Launch) (D : mmD) (b0 sz : Nat) {v0 : Nat} {f : mmF} {res : Int32 × mmF} (h : f_X10_isClaim v0 f = some res) : Met l yX10_isClaim wsX10_isClaim ({ frames := 2, cells := 0, slots := 0, locals := 42 } : Room) (va_Pc [.ref v0] (PW D b0 f sz)) (QW D b0 (some (.int res.1)) res.2 sz) 0 0 (fun q => b0 ≤ q) := by
  refine Met.ofW (cc := cX10_isClaim) (maxL := 4) (ret := (some .boolean)) (by decide) rfl ?_
  intro p e s m args below meth c s₁ B hml hv
  obtain ⟨rfl, hM, hK⟩ := hv
  have hl := lv_entry ([.ref v0]) (n := 4) (Nat.le_of_ble_eq_true rfl)
  rw [lg_entry_eq]
  generalize (lg_sl ([.ref v0]) ++ List.replicate (4 - (lg_sl ([.ref v0])).length) Slot.unset).toArray = ls at hl ⊢
  have hl : lv_has ls 4 [(0, .ref v0)] := hl
  exact w_X10_isClaim ⟨B.exec, B.bytes, B.returns, hml, findClass_of_methodNamed B.named, atoms_spec (ws := wsX10_isClaim) B.pre, B.notSynchronized, hK⟩ h s.heap [] ls hM va_S.rf hl
end S_X10_isClaim
/-! X10_always -/
set_option maxRecDepth 20000 in
theorem qi_X10_always_X10 : ∀ w ∈ u_ws RX10 TX10 25, w ∈ wsX10_always := by decide +kernel
set_option maxRecDepth 20000 in
theorem q_X10_always_1 : Cond.fieldLink RX10 7 "StageTruthsModel" "now" "[I" ∈ wsX10_always := by decide +kernel
noncomputable def f_X10_always_38 (k4 : Nat → Int32 → Int32 → Int32 → Option (Int32)) (f : mmF) (v0 : Nat) (v1 : Int32) (v3 : Int32) (t0 : Int32) (t1 : Int32) : Option (Int32) :=
  k4 v0 v1 (t0 ||| t1) (v3 + (1 : Int32))
noncomputable def f_X10_always_4  (f : mmF) : Nat → Nat → Int32 → Int32 → Int32 → Option (Int32)
  | 0, _, _, _, _ => none
  | n + 1, v0, v1, v2, v3 =>
    (ldR f v0 10 0).bind fun x6 =>
    (ldA 0 f x6 (16 : Int32)).bind fun x11 =>
    if x11 ≤ v3 then
    (some (v2))
    else
    (ldR f v0 10 0).bind fun x17 =>
    (ldA 0 f x17 ((0 : Int32) + v3)).bind fun x23 =>
    if (x23 &&& (v1 ^^^ (-1 : Int32))) = 0 then
    (f_X10_always_38 (fun a0 a1 a2 a3 => f_X10_always_4 f n a0 a1 a2 a3) f v0 v1 v3 v2 ((1 : Int32) <<< (v3 &&& 31)))
    else
    f_X10_always_38 (fun a0 a1 a2 a3 => f_X10_always_4 f n a0 a1 a2 a3) f v0 v1 v3 v2 (0 : Int32)
noncomputable def f_X10_always (v0 : Nat) (v1 : Int32) (f : mmF) : Option (Int32) :=
  f_X10_always_4 f FU v0 v1 (0 : Int32) (0 : Int32)
section S_X10_always
variable {p : Program} {l : Launch} {e : Env} {s : State} {m : MethodId} {args : Array Value} {below : List Frame} {meth : Method} {c : Code} {D : mmD} {b0 sz : Nat} {f : mmF}
set_option maxHeartbeats 4000000 in
set_option maxRecDepth 100000 in
theorem w_X10_always_38 (C0 : CX cX10_always 4 (some .int) wsX10_always RX10 p s m args meth c D b0) {k4 : Nat → Int32 → Int32 → Int32 → Option (Int32)} {res : Int32} (hk4 : ∀ (v0 : Nat) (v1 : Int32) (v2 : Int32) (v3 : Int32), k4 v0 v1 v2 v3 = some res → ∀ (H : Heap) (locs : List Loc) (ls : Array Slot), MM vwCl D b0 f sz s H → mS b0 s H locs → lv_has ls 4 [(0, .ref v0), (1, .int v1), (2, .int v2), (3, .int v3)] → W p l e ({ frames := 0, cells := 0, slots := 0, locals := 0 } : Room) s m args below meth c H locs 0 0 (MQ below (QW D b0 (some (.int res)) f sz) args s 0 0 (fun q => b0 ≤ q)) (F0 m 4 ls [])) : ∀ (v0 : Nat) (v1 : Int32) (v3 : Int32) (t0 : Int32) (t1 : Int32), f_X10_always_38 k4 f v0 v1 v3 t0 t1 = some res → ∀ (H : Heap) (locs : List Loc) (ls : Array Slot), MM vwCl D b0 f sz s H → mS b0 s H locs → lv_has ls 4 [(0, .ref v0), (1, .int v1), (3, .int v3)] → W p l e ({ frames := 0, cells := 0, slots := 0, locals := 0 } : Room) s m args below meth c H locs 0 0 (MQ below (QW D b0 (some (.int res)) f sz) args s 0 0 (fun q => b0 ≤ q)) (F0 m 38 ls [.int t1, .int t0]) := by
  obtain ⟨hx, hb, hr, hml, hown, hts, hlocks, hK⟩ := id C0
  intro v0 v1 v3 t0 t1 h H locs ls hM hS hl
  unfold f_X10_always_38 at h
  refine lv_ior hx hb dX10_always_38 ?_
  refine lv_istore_n (lv' := [(2, .int (t0 ||| t1)), (0, .ref v0), (1, .int v1), (3, .int v3)]) hx hb dX10_always_39 rfl hl (by decide) rfl (fun ls hl => ?_)
  refine lv_iinc (v := (v3 + (1 : Int32))) (lv' := [(3, .int (v3 + (1 : Int32))), (2, .int (t0 ||| t1)), (0, .ref v0), (1, .int v1)]) hx hb dX10_always_40 hl (k := 3) rfl rfl (by decide) rfl (fun ls hl => ?_)
  refine lv_goto (tgt := 4) hx hb dX10_always_43 (by decide) ?_
  exact hk4 _ _ _ _ h _ _ _ hM hS (lv_sub hl [2, 3, 1, 0] rfl)
set_option maxHeartbeats 4000000 in
set_option maxRecDepth 100000 in
theorem w_X10_always_4 (C0 : CX cX10_always 4 (some .int) wsX10_always RX10 p s m args meth c D b0) {res : Int32} : ∀ (n : Nat), ∀ (v0 : Nat) (v1 : Int32) (v2 : Int32) (v3 : Int32), f_X10_always_4 f n v0 v1 v2 v3 = some res → ∀ (H : Heap) (locs : List Loc) (ls : Array Slot), MM vwCl D b0 f sz s H → mS b0 s H locs → lv_has ls 4 [(0, .ref v0), (1, .int v1), (2, .int v2), (3, .int v3)] → W p l e ({ frames := 0, cells := 0, slots := 0, locals := 0 } : Room) s m args below meth c H locs 0 0 (MQ below (QW D b0 (some (.int res)) f sz) args s 0 0 (fun q => b0 ≤ q)) (F0 m 4 ls []) := by
  obtain ⟨hx, hb, hr, hml, hown, hts, hlocks, hK⟩ := id C0
  intro n
  induction n with
  | zero =>
    intro v0 v1 v2 v3 h
    have h : (none : Option (Int32)) = some res := h
    cases h
  | succ n ih =>
    intro v0 v1 v2 v3 h H locs ls hM hS hl
    rw [f_X10_always_4] at h
    refine lv_iload_n hx hb dX10_always_4 rfl (lv_at hl 3 rfl) ?_
    refine lv_aload_n hx hb dX10_always_5 rfl (lv_at hl 0 rfl) ?_
    replace h := o_b h; obtain ⟨x6, h6, h⟩ := h
    refine m_get (C := RX10) (T := TX10) (N := 25) (ci := 10) hx hb hts qi_X10_always_X10 hown hK.1 hM 0 (ldR_F h6) rfl (by decide) (hts _ q_X10_always_1) (fun _ h9 => h9) dX10_always_6 ?_
    refine lv_bipush (v := (16 : Int32)) hx hb dX10_always_9 (by decide) ?_
    replace h := o_b h; obtain ⟨x11, h11, h⟩ := h
    refine m_iald hx hb hK.1 hM hS rfl h11 dX10_always_11 ?_
    refine lv_icmp_ge (tgt := 46) hx hb dX10_always_12 (by decide) (fun c12 => ?_) (fun c12 => ?_)
    · replace h := o_t c12 h
      refine lv_iload_n hx hb dX10_always_46 rfl (lv_at hl 2 rfl) ?_
      replace h := Option.some.inj h; subst h
      exact W.iret hx hb hr (fun t ht hW => ⟨rfl, by rw [ht]; exact hM.moved hW.alike, hS.F ht⟩) hS.2.2 dX10_always_47
    replace h := o_f c12 h
    refine lv_iload_n hx hb dX10_always_15 rfl (lv_at hl 2 rfl) ?_
    refine lv_aload_n hx hb dX10_always_16 rfl (lv_at hl 0 rfl) ?_
    replace h := o_b h; obtain ⟨x17, h17, h⟩ := h
    refine m_get (C := RX10) (T := TX10) (N := 25) (ci := 10) hx hb hts qi_X10_always_X10 hown hK.1 hM 0 (ldR_F h17) rfl (by decide) (hts _ q_X10_always_1) (fun _ h9 => h9) dX10_always_17 ?_
    refine lv_iconst (v := (0 : Int32)) hx hb dX10_always_20 (by decide) ?_
    refine lv_iload_n hx hb dX10_always_21 rfl (lv_at hl 3 rfl) ?_
    refine lv_iadd hx hb dX10_always_22 ?_
    replace h := o_b h; obtain ⟨x23, h23, h⟩ := h
    refine m_iald hx hb hK.1 hM hS rfl h23 dX10_always_23 ?_
    refine lv_iload_n hx hb dX10_always_24 rfl (lv_at hl 1 rfl) ?_
    refine lv_iconst (v := (-1 : Int32)) hx hb dX10_always_25 (by decide) ?_
    refine lv_ixor hx hb dX10_always_26 ?_
    refine lv_iand hx hb dX10_always_27 ?_
    refine lv_if_ne (tgt := 37) hx hb dX10_always_28 (by decide) (fun c28 => ?_) (fun c28 => ?_)
    · replace h := o_f c28 h
      refine lv_iconst (v := (0 : Int32)) hx hb dX10_always_37 (by decide) ?_
      exact w_X10_always_38 C0 ih _ _ _ _ _ h _ _ _ hM hS (lv_sub hl [0, 1, 3] rfl)
    replace h := o_t c28 h
    refine lv_iconst (v := (1 : Int32)) hx hb dX10_always_31 (by decide) ?_
    refine lv_iload_n hx hb dX10_always_32 rfl (lv_at hl 3 rfl) ?_
    refine lv_ishl hx hb dX10_always_33 ?_
    refine lv_goto (tgt := 38) hx hb dX10_always_34 (by decide) ?_
    exact w_X10_always_38 C0 ih _ _ _ _ _ h _ _ _ hM hS (lv_sub hl [0, 1, 3] rfl)
set_option maxHeartbeats 4000000 in
set_option maxRecDepth 100000 in
theorem w_X10_always (C0 : CX cX10_always 4 (some .int) wsX10_always RX10 p s m args meth c D b0) {v0 : Nat} {v1 : Int32} {res : Int32} (h : f_X10_always v0 v1 f = some res) : ∀ (H : Heap) (locs : List Loc) (ls : Array Slot), MM vwCl D b0 f sz s H → mS b0 s H locs → lv_has ls 4 [(0, .ref v0), (1, .int v1)] → W p l e ({ frames := 0, cells := 0, slots := 0, locals := 0 } : Room) s m args below meth c H locs 0 0 (MQ below (QW D b0 (some (.int res)) f sz) args s 0 0 (fun q => b0 ≤ q)) (F0 m 0 ls []) := by
  obtain ⟨hx, hb, hr, hml, hown, hts, hlocks, hK⟩ := id C0
  intro H locs ls hM hS hl
  unfold f_X10_always at h
  refine lv_iconst (v := (0 : Int32)) hx hb dX10_always_0 (by decide) ?_
  refine lv_istore_n (lv' := [(2, .int (0 : Int32)), (0, .ref v0), (1, .int v1)]) hx hb dX10_always_1 rfl hl (by decide) rfl (fun ls hl => ?_)
  refine lv_iconst (v := (0 : Int32)) hx hb dX10_always_2 (by decide) ?_
  refine lv_istore_n (lv' := [(3, .int (0 : Int32)), (2, .int (0 : Int32)), (0, .ref v0), (1, .int v1)]) hx hb dX10_always_3 rfl hl (by decide) rfl (fun ls hl => ?_)
  exact w_X10_always_4 C0 FU _ _ _ _ h _ _ _ hM hS (lv_sub hl [2, 3, 1, 0] rfl)
set_option maxHeartbeats 4000000 in
set_option maxRecDepth 100000 in
theorem c_X10_always (l : Launch) (D : mmD) (b0 sz : Nat) {v0 : Nat} {v1 : Int32} {f : mmF} {res : Int32} (h : f_X10_always v0 v1 f = some res) : Met l yX10_always wsX10_always ({ frames := 0, cells := 0, slots := 0, locals := 0 } : Room) (va_Pc [.ref v0, .int v1] (PW D b0 f sz)) (QW D b0 (some (.int res)) f sz) 0 0 (fun q => b0 ≤ q) := by
  refine Met.ofW (cc := cX10_always) (maxL := 4) (ret := (some .int)) (by decide) rfl ?_
  intro p e s m args below meth c s₁ B hml hv
  obtain ⟨rfl, hM, hK⟩ := hv
  have hl := lv_entry ([.ref v0, .int v1]) (n := 4) (Nat.le_of_ble_eq_true rfl)
  rw [lg_entry_eq]
  generalize (lg_sl ([.ref v0, .int v1]) ++ List.replicate (4 - (lg_sl ([.ref v0, .int v1])).length) Slot.unset).toArray = ls at hl ⊢
  have hl : lv_has ls 4 [(0, .ref v0), (1, .int v1)] := hl
  exact w_X10_always ⟨B.exec, B.bytes, B.returns, hml, findClass_of_methodNamed B.named, atoms_spec (ws := wsX10_always) B.pre, B.notSynchronized, hK⟩ h s.heap [] ls hM va_S.rf hl
end S_X10_always
