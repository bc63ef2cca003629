/-! X10_holding -/
set_option maxRecDepth 20000 in
theorem qi_X10_holding_X10 : ∀ w ∈ u_ws RX10 TX10 25, w ∈ wsX10_holding := by decide +kernel
set_option maxRecDepth 20000 in
theorem q_X10_holding_1 : Cond.fieldLink RX10 7 "StageTruthsModel" "now" "[I" ∈ wsX10_holding := by decide +kernel
set_option maxRecDepth 20000 in
theorem q_X10_holding_2 : Cond.fieldLink RX10 35 "StageTruthsModel" "stack" "[I" ∈ wsX10_holding := by decide +kernel
noncomputable def f_X10_holding_205 (k26 : Nat → Int32 → Int32 → Int32 → Int32 → mmF → Option (Int32 × mmF))  (v0 : Nat) (v2 : Int32) (v3 : Int32) (v4 : Int32) (v5 : Int32) (f : mmF) : Option (Int32 × mmF) :=
  k26 v0 v2 v3 v4 (v5 + (1 : Int32)) f
noncomputable def f_X10_holding_204 (k26 : Nat → Int32 → Int32 → Int32 → Int32 → mmF → Option (Int32 × mmF))  (v0 : Nat) (v2 : Int32) (v3 : Int32) (v4 : Int32) (v5 : Int32) (t0 : Nat) (t1 : Int32) (t2 : Int32) (f : mmF) : Option (Int32 × mmF) :=
  (stA 0 f t0 t1 t2).bind fun f204 =>
  f_X10_holding_205 k26 v0 v2 v3 v4 v5 f204
noncomputable def f_X10_holding_87 (k26 : Nat → Int32 → Int32 → Int32 → Int32 → mmF → Option (Int32 × mmF))  (v0 : Nat) (v2 : Int32) (v3 : Int32) (v4 : Int32) (v5 : Int32) (t0 : Nat) (t1 : Int32) (t2 : Int32) (f : mmF) : Option (Int32 × mmF) :=
  (stA 0 f t0 t1 t2).bind fun f87 =>
  f_X10_holding_205 k26 v0 v2 v3 (v4 + (1 : Int32)) v5 f87
noncomputable def f_X10_holding_26   : Nat → Nat → Int32 → Int32 → Int32 → Int32 → mmF → Option (Int32 × mmF)
  | 0, _, _, _, _, _, _ => none
  | n + 1, v0, v2, v3, v4, v5, f =>
    (ldR f v0 10 0).bind fun x29 =>
    (ldA 0 f x29 v2).bind fun x33 =>
    if x33 < v5 then
    ((ldR f v0 10 14).bind fun x212 =>
    (ldA 0 f x212 (0 : Int32)).bind fun x216 =>
    some (x216, f))
    else
    (ldR f v0 10 0).bind fun x38 =>
    (ldA 0 f x38 (v2 + v5)).bind fun x45 =>
    if (6 : Int32) ≤ x45 then
    (if x45 = (6 : Int32) then
    ((ldR f v0 10 14).bind fun x102 =>
    (ldR f v0 10 14).bind fun x112 =>
    (ldA 0 f x112 (v4 - (1 : Int32))).bind fun x119 =>
    (ckO f v0 10).bind fun _ =>
    (f_X10_always v0 (v3 &&& (x119 ^^^ (-1 : Int32))) f).bind fun q123 =>
    (stA 0 f x102 (v4 - (1 : Int32)) q123).bind fun f126 =>
    f_X10_holding_205 (fun a0 a1 a2 a3 a4 a5 => f_X10_holding_26 n a0 a1 a2 a3 a4 a5) v0 v2 v3 v4 v5 f126)
    else
    (ldR f v0 10 14).bind fun x134 =>
    (ldA 0 f x134 ((v4 + (-1 : Int32)) - (1 : Int32))).bind fun x141 =>
    (ldR f v0 10 14).bind fun x145 =>
    (ldA 0 f x145 (v4 + (-1 : Int32))).bind fun x150 =>
    (ldR f v0 10 14).bind fun x154 =>
    if x45 = (7 : Int32) then
    (f_X10_holding_204 (fun a0 a1 a2 a3 a4 a5 => f_X10_holding_26 n a0 a1 a2 a3 a4 a5) v0 v2 v3 (v4 + (-1 : Int32)) v5 x154 ((v4 + (-1 : Int32)) - (1 : Int32)) (x141 &&& x150) f)
    else
    if x45 = (8 : Int32) then
    (f_X10_holding_204 (fun a0 a1 a2 a3 a4 a5 => f_X10_holding_26 n a0 a1 a2 a3 a4 a5) v0 v2 v3 (v4 + (-1 : Int32)) v5 x154 ((v4 + (-1 : Int32)) - (1 : Int32)) (x141 ||| x150) f)
    else
    (ckO f v0 10).bind fun _ =>
    (f_X10_always v0 ((v3 &&& (x141 ^^^ (-1 : Int32))) ||| x150) f).bind fun q201 =>
    f_X10_holding_204 (fun a0 a1 a2 a3 a4 a5 => f_X10_holding_26 n a0 a1 a2 a3 a4 a5) v0 v2 v3 (v4 + (-1 : Int32)) v5 x154 ((v4 + (-1 : Int32)) - (1 : Int32)) q201 f)
    else
    (ldR f v0 10 14).bind fun x56 =>
    if (4 : Int32) ≤ x45 then
    (if x45 = (4 : Int32) then
    (f_X10_holding_87 (fun a0 a1 a2 a3 a4 a5 => f_X10_holding_26 n a0 a1 a2 a3 a4 a5) v0 v2 v3 v4 v5 x56 v4 v3 f)
    else
    f_X10_holding_87 (fun a0 a1 a2 a3 a4 a5 => f_X10_holding_26 n a0 a1 a2 a3 a4 a5) v0 v2 v3 v4 v5 x56 v4 (0 : Int32) f)
    else
    (ckO f v0 10).bind fun _ =>
    (f_X10_knownAt v0 x45 f).bind fun q70 =>
    f_X10_holding_87 (fun a0 a1 a2 a3 a4 a5 => f_X10_holding_26 n a0 a1 a2 a3 a4 a5) v0 v2 v3 v4 v5 x56 v4 q70 f
noncomputable def f_X10_holding (v0 : Nat) (v1 : Int32) (f : mmF) : Option (Int32 × mmF) :=
  (ldR f v0 10 0).bind fun x10 =>
  (ldA 0 f x10 (16 : Int32)).bind fun x15 =>
  f_X10_holding_26 FU v0 ((17 : Int32) + ((31 : Int32) * v1)) (((1 : Int32) <<< (x15 &&& 31)) - (1 : Int32)) (0 : Int32) (1 : Int32) f
section S_X10_holding
variable {p : Program} {l : Launch} {e : Env} {s : State} {m : MethodId} {args : Array Value} {below : List Frame} {meth : Method} {c : Code} {D : mmD} {b0 sz : Nat} {f : mmF}
set_option maxHeartbeats 4000000 in
set_option maxRecDepth 100000 in
theorem w_X10_holding_205 (C0 : CX cX10_holding 9 (some .int) wsX10_holding RX10 p s m args meth c D b0) {k26 : Nat → Int32 → Int32 → Int32 → Int32 → mmF → Option (Int32 × mmF)} {res : Int32 × mmF} (hk26 : ∀ (v0 : Nat) (v2 : Int32) (v3 : Int32) (v4 : Int32) (v5 : Int32) (f : mmF), k26 v0 v2 v3 v4 v5 f = some res → ∀ (H : Heap) (locs : List Loc) (ls : Array Slot), MM vwCl D b0 f sz s H → mS b0 s H locs → lv_has ls 9 [(0, .ref v0), (2, .int v2), (3, .int v3), (4, .int v4), (5, .int v5)] → W p l e ({ frames := 1, cells := 0, slots := 0, locals := 23 } : Room) s m args below meth c H locs 0 0 (MQ below (QW D b0 (some (.int res.1)) res.2 sz) args s 0 0 (fun q => b0 ≤ q)) (F0 m 26 ls [])) : ∀ (v0 : Nat) (v2 : Int32) (v3 : Int32) (v4 : Int32) (v5 : Int32) (f : mmF), f_X10_holding_205 k26 v0 v2 v3 v4 v5 f = some res → ∀ (H : Heap) (locs : List Loc) (ls : Array Slot), MM vwCl D b0 f sz s H → mS b0 s H locs → lv_has ls 9 [(0, .ref v0), (2, .int v2), (3, .int v3), (4, .int v4), (5, .int v5)] → W p l e ({ frames := 1, cells := 0, slots := 0, locals := 23 } : Room) s m args below meth c H locs 0 0 (MQ below (QW D b0 (some (.int res.1)) res.2 sz) args s 0 0 (fun q => b0 ≤ q)) (F0 m 205 ls []) := by
  obtain ⟨hx, hb, hr, hml, hown, hts, hlocks, hK⟩ := id C0
  intro v0 v2 v3 v4 v5 f h H locs ls hM hS hl
  unfold f_X10_holding_205 at h
  refine lv_iinc (v := (v5 + (1 : Int32))) (lv' := [(5, .int (v5 + (1 : Int32))), (0, .ref v0), (2, .int v2), (3, .int v3), (4, .int v4)]) hx hb dX10_holding_205 hl (k := 4) rfl rfl (by decide) rfl (fun ls hl => ?_)
  refine lv_goto (tgt := 26) hx hb dX10_holding_208 (by decide) ?_
  exact hk26 _ _ _ _ _ _ h _ _ _ hM hS (lv_sub hl [1, 2, 3, 4, 0] rfl)
set_option maxHeartbeats 4000000 in
set_option maxRecDepth 100000 in
theorem w_X10_holding_204 (C0 : CX cX10_holding 9 (some .int) wsX10_holding RX10 p s m args meth c D b0) {k26 : Nat → Int32 → Int32 → Int32 → Int32 → mmF → Option (Int32 × mmF)} {res : Int32 × mmF} (hk26 : ∀ (v0 : Nat) (v2 : Int32) (v3 : Int32) (v4 : Int32) (v5 : Int32) (f : mmF), k26 v0 v2 v3 v4 v5 f = some res → ∀ (H : Heap) (locs : List Loc) (ls : Array Slot), MM vwCl D b0 f sz s H → mS b0 s H locs → lv_has ls 9 [(0, .ref v0), (2, .int v2), (3, .int v3), (4, .int v4), (5, .int v5)] → W p l e ({ frames := 1, cells := 0, slots := 0, locals := 23 } : Room) s m args below meth c H locs 0 0 (MQ below (QW D b0 (some (.int res.1)) res.2 sz) args s 0 0 (fun q => b0 ≤ q)) (F0 m 26 ls [])) : ∀ (v0 : Nat) (v2 : Int32) (v3 : Int32) (v4 : Int32) (v5 : Int32) (t0 : Nat) (t1 : Int32) (t2 : Int32) (f : mmF), f_X10_holding_204 k26 v0 v2 v3 v4 v5 t0 t1 t2 f = some res → ∀ (H : Heap) (locs : List Loc) (ls : Array Slot), MM vwCl D b0 f sz s H → mS b0 s H locs → lv_has ls 9 [(0, .ref v0), (2, .int v2), (3, .int v3), (4, .int v4), (5, .int v5)] → W p l e ({ frames := 1, cells := 0, slots := 0, locals := 23 } : Room) s m args below meth c H locs 0 0 (MQ below (QW D b0 (some (.int res.1)) res.2 sz) args s 0 0 (fun q => b0 ≤ q)) (F0 m 204 ls [.int t2, .int t1, .ref t0]) := by
  obtain ⟨hx, hb, hr, hml, hown, hts, hlocks, hK⟩ := id C0
  intro v0 v2 v3 v4 v5 t0 t1 t2 f h H locs ls hM hS hl
  unfold f_X10_holding_204 at h
  replace h := o_b h; obtain ⟨f204, h204, h⟩ := h
  refine m_iast hx hb hK.1 hM hS rfl h204 dX10_holding_204 (fun H locs hM hS => ?_)
  exact w_X10_holding_205 C0 hk26 _ _ _ _ _ _ h _ _ _ hM hS (lv_sub hl [0, 1, 2, 3, 4] rfl)
set_option maxHeartbeats 4000000 in
set_option maxRecDepth 100000 in
theorem w_X10_holding_87 (C0 : CX cX10_holding 9 (some .int) wsX10_holding RX10 p s m args meth c D b0) {k26 : Nat → Int32 → Int32 → Int32 → Int32 → mmF → Option (Int32 × mmF)} {res : Int32 × mmF} (hk26 : ∀ (v0 : Nat) (v2 : Int32) (v3 : Int32) (v4 : Int32) (v5 : Int32) (f : mmF), k26 v0 v2 v3 v4 v5 f = some res → ∀ (H : Heap) (locs : List Loc) (ls : Array Slot), MM vwCl D b0 f sz s H → mS b0 s H locs → lv_has ls 9 [(0, .ref v0), (2, .int v2), (3, .int v3), (4, .int v4), (5, .int v5)] → W p l e ({ frames := 1, cells := 0, slots := 0, locals := 23 } : Room) s m args below meth c H locs 0 0 (MQ below (QW D b0 (some (.int res.1)) res.2 sz) args s 0 0 (fun q => b0 ≤ q)) (F0 m 26 ls [])) : ∀ (v0 : Nat) (v2 : Int32) (v3 : Int32) (v4 : Int32) (v5 : Int32) (t0 : Nat) (t1 : Int32) (t2 : Int32) (f : mmF), f_X10_holding_87 k26 v0 v2 v3 v4 v5 t0 t1 t2 f = some res → ∀ (H : Heap) (locs : List Loc) (ls : Array Slot), MM vwCl D b0 f sz s H → mS b0 s H locs → lv_has ls 9 [(0, .ref v0), (2, .int v2), (3, .int v3), (4, .int v4), (5, .int v5)] → W p l e ({ frames := 1, cells := 0, slots := 0, locals := 23 } : Room) s m args below meth c H locs 0 0 (MQ below (QW D b0 (some (.int res.1)) res.2 sz) args s 0 0 (fun q => b0 ≤ q)) (F0 m 87 ls [.int t2, .int t1, .ref t0]) := by
  obtain ⟨hx, hb, hr, hml, hown, hts, hlocks, hK⟩ := id C0
  intro v0 v2 v3 v4 v5 t0 t1 t2 f h H locs ls hM hS hl
  unfold f_X10_holding_87 at h
  replace h := o_b h; obtain ⟨f87, h87, h⟩ := h
  refine m_iast hx hb hK.1 hM hS rfl h87 dX10_holding_87 (fun H locs hM hS => ?_)
  refine lv_iinc (v := (v4 + (1 : Int32))) (lv' := [(4, .int (v4 + (1 : Int32))), (0, .ref v0), (2, .int v2), (3, .int v3), (5, .int v5)]) hx hb dX10_holding_88 hl (k := 3) rfl rfl (by decide) rfl (fun ls hl => ?_)
  refine lv_goto (tgt := 205) hx hb dX10_holding_91 (by decide) ?_
  exact w_X10_holding_205 C0 hk26 _ _ _ _ _ _ h _ _ _ hM hS (lv_sub hl [1, 2, 3, 0, 4] rfl)
set_option maxHeartbeats 4000000 in
set_option maxRecDepth 100000 in
theorem w_X10_holding_26 (C0 : CX cX10_holding 9 (some .int) wsX10_holding RX10 p s m args meth c D b0) {res : Int32 × mmF} : ∀ (n : Nat), ∀ (v0 : Nat) (v2 : Int32) (v3 : Int32) (v4 : Int32) (v5 : Int32) (f : mmF), f_X10_holding_26 n v0 v2 v3 v4 v5 f = some res → ∀ (H : Heap) (locs : List Loc) (ls : Array Slot), MM vwCl D b0 f sz s H → mS b0 s H locs → lv_has ls 9 [(0, .ref v0), (2, .int v2), (3, .int v3), (4, .int v4), (5, .int v5)] → W p l e ({ frames := 1, cells := 0, slots := 0, locals := 23 } : Room) s m args below meth c H locs 0 0 (MQ below (QW D b0 (some (.int res.1)) res.2 sz) args s 0 0 (fun q => b0 ≤ q)) (F0 m 26 ls []) := by
  obtain ⟨hx, hb, hr, hml, hown, hts, hlocks, hK⟩ := id C0
  intro n
  induction n with
  | zero =>
    intro v0 v2 v3 v4 v5 f h
    have h : (none : Option (Int32 × mmF)) = some res := h
    cases h
  | succ n ih =>
    intro v0 v2 v3 v4 v5 f h H locs ls hM hS hl
    rw [f_X10_holding_26] at h
    refine lv_iload hx hb dX10_holding_26 (lv_at hl 4 rfl) ?_
    refine lv_aload_n hx hb dX10_holding_28 rfl (lv_at hl 0 rfl) ?_
    replace h := o_b h; obtain ⟨x29, h29, h⟩ := h
    refine m_get (C := RX10) (T := TX10) (N := 25) (ci := 10) hx hb hts qi_X10_holding_X10 hown hK.1 hM 0 (ldR_F h29) rfl (by decide) (hts _ q_X10_holding_1) (fun _ h9 => h9) dX10_holding_29 ?_
    refine lv_iload_n hx hb dX10_holding_32 rfl (lv_at hl 1 rfl) ?_
    replace h := o_b h; obtain ⟨x33, h33, h⟩ := h
    refine m_iald hx hb hK.1 hM hS rfl h33 dX10_holding_33 ?_
    refine lv_icmp_gt (tgt := 211) hx hb dX10_holding_34 (by decide) (fun c34 => ?_) (fun c34 => ?_)
    · replace h := o_t c34 h
      refine lv_aload_n hx hb dX10_holding_211 rfl (lv_at hl 0 rfl) ?_
      replace h := o_b h; obtain ⟨x212, h212, h⟩ := h
      refine m_get (C := RX10) (T := TX10) (N := 25) (ci := 10) hx hb hts qi_X10_holding_X10 hown hK.1 hM 14 (ldR_F h212) rfl (by decide) (hts _ q_X10_holding_2) (fun _ h9 => h9) dX10_holding_212 ?_
      refine lv_iconst (v := (0 : Int32)) hx hb dX10_holding_215 (by decide) ?_
      replace h := o_b h; obtain ⟨x216, h216, h⟩ := h
      refine m_iald hx hb hK.1 hM hS rfl h216 dX10_holding_216 ?_
      replace h := Option.some.inj h; subst h
      exact W.iret hx hb hr (fun t ht hW => ⟨rfl, by rw [ht]; exact hM.moved hW.alike, hS.F ht⟩) hS.2.2 dX10_holding_217
    replace h := o_f c34 h
    refine lv_aload_n hx hb dX10_holding_37 rfl (lv_at hl 0 rfl) ?_
    replace h := o_b h; obtain ⟨x38, h38, h⟩ := h
    refine m_get (C := RX10) (T := TX10) (N := 25) (ci := 10) hx hb hts qi_X10_holding_X10 hown hK.1 hM 0 (ldR_F h38) rfl (by decide) (hts _ q_X10_holding_1) (fun _ h9 => h9) dX10_holding_38 ?_
    refine lv_iload_n hx hb dX10_holding_41 rfl (lv_at hl 1 rfl) ?_
    refine lv_iload hx hb dX10_holding_42 (lv_at hl 4 rfl) ?_
    refine lv_iadd hx hb dX10_holding_44 ?_
    replace h := o_b h; obtain ⟨x45, h45, h⟩ := h
    refine m_iald hx hb hK.1 hM hS rfl h45 dX10_holding_45 ?_
    refine lv_istore (lv' := [(6, .int x45), (0, .ref v0), (2, .int v2), (3, .int v3), (4, .int v4), (5, .int v5)]) hx hb dX10_holding_46 hl (by decide) rfl (fun ls hl => ?_)
    refine lv_iload hx hb dX10_holding_48 (lv_at hl 0 rfl) ?_
    refine lv_bipush (v := (6 : Int32)) hx hb dX10_holding_50 (by decide) ?_
    refine lv_icmp_ge (tgt := 94) hx hb dX10_holding_52 (by decide) (fun c52 => ?_) (fun c52 => ?_)
    · replace h := o_t c52 h
      refine lv_iload hx hb dX10_holding_94 (lv_at hl 0 rfl) ?_
      refine lv_bipush (v := (6 : Int32)) hx hb dX10_holding_96 (by decide) ?_
      refine lv_icmp_ne (tgt := 130) hx hb dX10_holding_98 (by decide) (fun c98 => ?_) (fun c98 => ?_)
      · replace h := o_f c98 h
        refine lv_iinc (v := (v4 + (-1 : Int32))) (lv' := [(4, .int (v4 + (-1 : Int32))), (6, .int x45), (0, .ref v0), (2, .int v2), (3, .int v3), (5, .int v5)]) hx hb dX10_holding_130 hl (k := 4) rfl rfl (by decide) rfl (fun ls hl => ?_)
        refine lv_aload_n hx hb dX10_holding_133 rfl (lv_at hl 2 rfl) ?_
        replace h := o_b h; obtain ⟨x134, h134, h⟩ := h
        refine m_get (C := RX10) (T := TX10) (N := 25) (ci := 10) hx hb hts qi_X10_holding_X10 hown hK.1 hM 14 (ldR_F h134) rfl (by decide) (hts _ q_X10_holding_2) (fun _ h9 => h9) dX10_holding_134 ?_
        refine lv_iload hx hb dX10_holding_137 (lv_at hl 0 rfl) ?_
        refine lv_iconst (v := (1 : Int32)) hx hb dX10_holding_139 (by decide) ?_
        refine lv_isub hx hb dX10_holding_140 ?_
        replace h := o_b h; obtain ⟨x141, h141, h⟩ := h
        refine m_iald hx hb hK.1 hM hS rfl h141 dX10_holding_141 ?_
        refine lv_istore (lv' := [(7, .int x141), (4, .int (v4 + (-1 : Int32))), (6, .int x45), (0, .ref v0), (2, .int v2), (3, .int v3), (5, .int v5)]) hx hb dX10_holding_142 hl (by decide) rfl (fun ls hl => ?_)
        refine lv_aload_n hx hb dX10_holding_144 rfl (lv_at hl 3 rfl) ?_
        replace h := o_b h; obtain ⟨x145, h145, h⟩ := h
        refine m_get (C := RX10) (T := TX10) (N := 25) (ci := 10) hx hb hts qi_X10_holding_X10 hown hK.1 hM 14 (ldR_F h145) rfl (by decide) (hts _ q_X10_holding_2) (fun _ h9 => h9) dX10_holding_145 ?_
        refine lv_iload hx hb dX10_holding_148 (lv_at hl 1 rfl) ?_
        replace h := o_b h; obtain ⟨x150, h150, h⟩ := h
        refine m_iald hx hb hK.1 hM hS rfl h150 dX10_holding_150 ?_
        refine lv_istore (lv' := [(8, .int x150), (7, .int x141), (4, .int (v4 + (-1 : Int32))), (6, .int x45), (0, .ref v0), (2, .int v2), (3, .int v3), (5, .int v5)]) hx hb dX10_holding_151 hl (by decide) rfl (fun ls hl => ?_)
        refine lv_aload_n hx hb dX10_holding_153 rfl (lv_at hl 4 rfl) ?_
        replace h := o_b h; obtain ⟨x154, h154, h⟩ := h
        refine m_get (C := RX10) (T := TX10) (N := 25) (ci := 10) hx hb hts qi_X10_holding_X10 hown hK.1 hM 14 (ldR_F h154) rfl (by decide) (hts _ q_X10_holding_2) (fun _ h9 => h9) dX10_holding_154 ?_
        refine lv_iload hx hb dX10_holding_157 (lv_at hl 2 rfl) ?_
        refine lv_iconst (v := (1 : Int32)) hx hb dX10_holding_159 (by decide) ?_
        refine lv_isub hx hb dX10_holding_160 ?_
        refine lv_iload hx hb dX10_holding_161 (lv_at hl 3 rfl) ?_
        refine lv_bipush (v := (7 : Int32)) hx hb dX10_holding_163 (by decide) ?_
        refine lv_icmp_ne (tgt := 176) hx hb dX10_holding_165 (by decide) (fun c165 => ?_) (fun c165 => ?_)
        · replace h := o_f c165 h
          refine lv_iload hx hb dX10_holding_176 (lv_at hl 3 rfl) ?_
          refine lv_bipush (v := (8 : Int32)) hx hb dX10_holding_178 (by decide) ?_
          refine lv_icmp_ne (tgt := 191) hx hb dX10_holding_180 (by decide) (fun c180 => ?_) (fun c180 => ?_)
          · replace h := o_f c180 h
            refine lv_aload_n hx hb dX10_holding_191 rfl (lv_at hl 4 rfl) ?_
            refine lv_iload_n hx hb dX10_holding_192 rfl (lv_at hl 6 rfl) ?_
            refine lv_iload hx hb dX10_holding_193 (lv_at hl 1 rfl) ?_
            refine lv_iconst (v := (-1 : Int32)) hx hb dX10_holding_195 (by decide) ?_
            refine lv_ixor hx hb dX10_holding_196 ?_
            refine lv_iand hx hb dX10_holding_197 ?_
            refine lv_iload hx hb dX10_holding_198 (lv_at hl 0 rfl) ?_
            refine lv_ior hx hb dX10_holding_200 ?_
            replace h := o_b h; obtain ⟨_, k201, h⟩ := h
            replace h := o_b h; obtain ⟨q201, h201, h⟩ := h
            refine m_call (va_runV (As := [.int ((v3 &&& (x141 ^^^ (-1 : Int32))) ||| x150)]) (rest := [.int ((v4 + (-1 : Int32)) - (1 : Int32)), .ref x154]) ⟨hx, hb, hml, hown, hts⟩ (c_X10_always l D b0 sz h201) (cwV 1 hts gX10_holding_X10_always rfl rfl rfl (by decide +kernel) ⟨Nat.le_of_ble_eq_true rfl, Nat.le_of_ble_eq_true rfl⟩) ⟨PW.blind, m_recv (ci := 10) rfl hK hM k201, (fun U hU hW => ⟨rfl, PW.call hK hM hS hU hW⟩)⟩ rfl rfl hl.1 rfl (lv_room (Nat.le_of_ble_eq_true rfl)) dX10_holding_201 ⟨(Nat.le_refl _), (Nat.le_refl _)⟩) hS (fun H locs hM hS => ?_)
            exact w_X10_holding_204 C0 ih _ _ _ _ _ _ _ _ _ h _ _ _ hM hS (lv_sub hl [4, 5, 6, 2, 7] rfl)
          replace h := o_t c180 h
          refine lv_iload hx hb dX10_holding_183 (lv_at hl 1 rfl) ?_
          refine lv_iload hx hb dX10_holding_185 (lv_at hl 0 rfl) ?_
          refine lv_ior hx hb dX10_holding_187 ?_
          refine lv_goto (tgt := 204) hx hb dX10_holding_188 (by decide) ?_
          exact w_X10_holding_204 C0 ih _ _ _ _ _ _ _ _ _ h _ _ _ hM hS (lv_sub hl [4, 5, 6, 2, 7] rfl)
        replace h := o_t c165 h
        refine lv_iload hx hb dX10_holding_168 (lv_at hl 1 rfl) ?_
        refine lv_iload hx hb dX10_holding_170 (lv_at hl 0 rfl) ?_
        refine lv_iand hx hb dX10_holding_172 ?_
        refine lv_goto (tgt := 204) hx hb dX10_holding_173 (by decide) ?_
        exact w_X10_holding_204 C0 ih _ _ _ _ _ _ _ _ _ h _ _ _ hM hS (lv_sub hl [4, 5, 6, 2, 7] rfl)
      replace h := o_t c98 h
      refine lv_aload_n hx hb dX10_holding_101 rfl (lv_at hl 1 rfl) ?_
      replace h := o_b h; obtain ⟨x102, h102, h⟩ := h
      refine m_get (C := RX10) (T := TX10) (N := 25) (ci := 10) hx hb hts qi_X10_holding_X10 hown hK.1 hM 14 (ldR_F h102) rfl (by decide) (hts _ q_X10_holding_2) (fun _ h9 => h9) dX10_holding_102 ?_
      refine lv_iload hx hb dX10_holding_105 (lv_at hl 4 rfl) ?_
      refine lv_iconst (v := (1 : Int32)) hx hb dX10_holding_107 (by decide) ?_
      refine lv_isub hx hb dX10_holding_108 ?_
      refine lv_aload_n hx hb dX10_holding_109 rfl (lv_at hl 1 rfl) ?_
      refine lv_iload_n hx hb dX10_holding_110 rfl (lv_at hl 3 rfl) ?_
      refine lv_aload_n hx hb dX10_holding_111 rfl (lv_at hl 1 rfl) ?_
      replace h := o_b h; obtain ⟨x112, h112, h⟩ := h
      refine m_get (C := RX10) (T := TX10) (N := 25) (ci := 10) hx hb hts qi_X10_holding_X10 hown hK.1 hM 14 (ldR_F h112) rfl (by decide) (hts _ q_X10_holding_2) (fun _ h9 => h9) dX10_holding_112 ?_
      refine lv_iload hx hb dX10_holding_115 (lv_at hl 4 rfl) ?_
      refine lv_iconst (v := (1 : Int32)) hx hb dX10_holding_117 (by decide) ?_
      refine lv_isub hx hb dX10_holding_118 ?_
      replace h := o_b h; obtain ⟨x119, h119, h⟩ := h
      refine m_iald hx hb hK.1 hM hS rfl h119 dX10_holding_119 ?_
      refine lv_iconst (v := (-1 : Int32)) hx hb dX10_holding_120 (by decide) ?_
      refine lv_ixor hx hb dX10_holding_121 ?_
      refine lv_iand hx hb dX10_holding_122 ?_
      replace h := o_b h; obtain ⟨_, k123, h⟩ := h
      replace h := o_b h; obtain ⟨q123, h123, h⟩ := h
      refine m_call (va_runV (As := [.int (v3 &&& (x119 ^^^ (-1 : Int32)))]) (rest := [.int (v4 - (1 : Int32)), .ref x102]) ⟨hx, hb, hml, hown, hts⟩ (c_X10_always l D b0 sz h123) (cwV 1 hts gX10_holding_X10_always rfl rfl rfl (by decide +kernel) ⟨Nat.le_of_ble_eq_true rfl, Nat.le_of_ble_eq_true rfl⟩) ⟨PW.blind, m_recv (ci := 10) rfl hK hM k123, (fun U hU hW => ⟨rfl, PW.call hK hM hS hU hW⟩)⟩ rfl rfl hl.1 rfl (lv_room (Nat.le_of_ble_eq_true rfl)) dX10_holding_123 ⟨(Nat.le_refl _), (Nat.le_refl _)⟩) hS (fun H locs hM hS => ?_)
      replace h := o_b h; obtain ⟨f126, h126, h⟩ := h
      refine m_iast hx hb hK.1 hM hS rfl h126 dX10_holding_126 (fun H locs hM hS => ?_)
      refine lv_goto (tgt := 205) hx hb dX10_holding_127 (by decide) ?_
      exact w_X10_holding_205 C0 ih _ _ _ _ _ _ h _ _ _ hM hS (lv_sub hl [1, 2, 3, 4, 5] rfl)
    replace h := o_f c52 h
    refine lv_aload_n hx hb dX10_holding_55 rfl (lv_at hl 1 rfl) ?_
    replace h := o_b h; obtain ⟨x56, h56, h⟩ := h
    refine m_get (C := RX10) (T := TX10) (N := 25) (ci := 10) hx hb hts qi_X10_holding_X10 hown hK.1 hM 14 (ldR_F h56) rfl (by decide) (hts _ q_X10_holding_2) (fun _ h9 => h9) dX10_holding_56 ?_
    refine lv_iload hx hb dX10_holding_59 (lv_at hl 4 rfl) ?_
    refine lv_iload hx hb dX10_holding_61 (lv_at hl 0 rfl) ?_
    refine lv_iconst (v := (4 : Int32)) hx hb dX10_holding_63 (by decide) ?_
    refine lv_icmp_ge (tgt := 76) hx hb dX10_holding_64 (by decide) (fun c64 => ?_) (fun c64 => ?_)
    · replace h := o_t c64 h
      refine lv_iload hx hb dX10_holding_76 (lv_at hl 0 rfl) ?_
      refine lv_iconst (v := (4 : Int32)) hx hb dX10_holding_78 (by decide) ?_
      refine lv_icmp_ne (tgt := 86) hx hb dX10_holding_79 (by decide) (fun c79 => ?_) (fun c79 => ?_)
      · replace h := o_f c79 h
        refine lv_iconst (v := (0 : Int32)) hx hb dX10_holding_86 (by decide) ?_
        exact w_X10_holding_87 C0 ih _ _ _ _ _ _ _ _ _ h _ _ _ hM hS (lv_sub hl [1, 2, 3, 4, 5] rfl)
      replace h := o_t c79 h
      refine lv_iload_n hx hb dX10_holding_82 rfl (lv_at hl 3 rfl) ?_
      refine lv_goto (tgt := 87) hx hb dX10_holding_83 (by decide) ?_
      exact w_X10_holding_87 C0 ih _ _ _ _ _ _ _ _ _ h _ _ _ hM hS (lv_sub hl [1, 2, 3, 4, 5] rfl)
    replace h := o_f c64 h
    refine lv_aload_n hx hb dX10_holding_67 rfl (lv_at hl 1 rfl) ?_
    refine lv_iload hx hb dX10_holding_68 (lv_at hl 0 rfl) ?_
    replace h := o_b h; obtain ⟨_, k70, h⟩ := h
    replace h := o_b h; obtain ⟨q70, h70, h⟩ := h
    refine m_call (va_runV (As := [.int x45]) (rest := [.int v4, .ref x56]) ⟨hx, hb, hml, hown, hts⟩ (c_X10_knownAt l D b0 sz h70) (cwV 1 hts gX10_holding_X10_knownAt rfl rfl rfl (by decide +kernel) ⟨Nat.le_of_ble_eq_true rfl, Nat.le_of_ble_eq_true rfl⟩) ⟨PW.blind, m_recv (ci := 10) rfl hK hM k70, (fun U hU hW => ⟨rfl, PW.call hK hM hS hU hW⟩)⟩ rfl rfl hl.1 rfl (lv_room (Nat.le_of_ble_eq_true rfl)) dX10_holding_70 ⟨(Nat.le_refl _), (Nat.le_refl _)⟩) hS (fun H locs hM hS => ?_)
    refine lv_goto (tgt := 87) hx hb dX10_holding_73 (by decide) ?_
    exact w_X10_holding_87 C0 ih _ _ _ _ _ _ _ _ _ h _ _ _ hM hS (lv_sub hl [1, 2, 3, 4, 5] rfl)
set_option maxHeartbeats 4000000 in
set_option maxRecDepth 100000 in
theorem w_X10_holding (C0 : CX cX10_holding 9 (some .int) wsX10_holding RX10 p s m args meth c D b0) {v0 : Nat} {v1 : Int32} {res : Int32 × mmF} (h : f_X10_holding v0 v1 f = some res) : ∀ (H : Heap) (locs : List Loc) (ls : Array Slot), MM vwCl D b0 f sz s H → mS b0 s H locs → lv_has ls 9 [(0, .ref v0), (1, .int v1)] → W p l e ({ frames := 1, cells := 0, slots := 0, locals := 23 } : Room) s m args below meth c H locs 0 0 (MQ below (QW D b0 (some (.int res.1)) res.2 sz) args s 0 0 (fun q => b0 ≤ q)) (F0 m 0 ls []) := by
  obtain ⟨hx, hb, hr, hml, hown, hts, hlocks, hK⟩ := id C0
  intro H locs ls hM hS hl
  unfold f_X10_holding at h
  refine lv_bipush (v := (17 : Int32)) hx hb dX10_holding_0 (by decide) ?_
  refine lv_bipush (v := (31 : Int32)) hx hb dX10_holding_2 (by decide) ?_
  refine lv_iload_n hx hb dX10_holding_4 rfl (lv_at hl 1 rfl) ?_
  refine lv_imul hx hb dX10_holding_5 ?_
  refine lv_iadd hx hb dX10_holding_6 ?_
  refine lv_istore_n (lv' := [(2, .int ((17 : Int32) + ((31 : Int32) * v1))), (0, .ref v0), (1, .int v1)]) hx hb dX10_holding_7 rfl hl (by decide) rfl (fun ls hl => ?_)
  refine lv_iconst (v := (1 : Int32)) hx hb dX10_holding_8 (by decide) ?_
  refine lv_aload_n hx hb dX10_holding_9 rfl (lv_at hl 1 rfl) ?_
  replace h := o_b h; obtain ⟨x10, h10, h⟩ := h
  refine m_get (C := RX10) (T := TX10) (N := 25) (ci := 10) hx hb hts qi_X10_holding_X10 hown hK.1 hM 0 (ldR_F h10) rfl (by decide) (hts _ q_X10_holding_1) (fun _ h9 => h9) dX10_holding_10 ?_
  refine lv_bipush (v := (16 : Int32)) hx hb dX10_holding_13 (by decide) ?_
  replace h := o_b h; obtain ⟨x15, h15, h⟩ := h
  refine m_iald hx hb hK.1 hM hS rfl h15 dX10_holding_15 ?_
  refine lv_ishl hx hb dX10_holding_16 ?_
  refine lv_iconst (v := (1 : Int32)) hx hb dX10_holding_17 (by decide) ?_
  refine lv_isub hx hb dX10_holding_18 ?_
  refine lv_istore_n (lv' := [(3, .int (((1 : Int32) <<< (x15 &&& 31)) - (1 : Int32))), (2, .int ((17 : Int32) + ((31 : Int32) * v1))), (0, .ref v0), (1, .int v1)]) hx hb dX10_holding_19 rfl hl (by decide) rfl (fun ls hl => ?_)
  refine lv_iconst (v := (0 : Int32)) hx hb dX10_holding_20 (by decide) ?_
  refine lv_istore (lv' := [(4, .int (0 : Int32)), (3, .int (((1 : Int32) <<< (x15 &&& 31)) - (1 : Int32))), (2, .int ((17 : Int32) + ((31 : Int32) * v1))), (0, .ref v0), (1, .int v1)]) hx hb dX10_holding_21 hl (by decide) rfl (fun ls hl => ?_)
  refine lv_iconst (v := (1 : Int32)) hx hb dX10_holding_23 (by decide) ?_
  refine lv_istore (lv' := [(5, .int (1 : Int32)), (4, .int (0 : Int32)), (3, .int (((1 : Int32) <<< (x15 &&& 31)) - (1 : Int32))), (2, .int ((17 : Int32) + ((31 : Int32) * v1))), (0, .ref v0), (1, .int v1)]) hx hb dX10_holding_24 hl (by decide) rfl (fun ls hl => ?_)
  exact w_X10_holding_26 C0 FU _ _ _ _ _ _ h _ _ _ hM hS (lv_sub hl [4, 3, 2, 1, 0] rfl)
set_option maxHeartbeats 4000000 in
set_option maxRecDepth 100000 in
theorem c_X10_holding (l : Launch) (D : mmD) (b0 sz : Nat) {v0 : Nat} {v1 : Int32} {f : mmF} {res : Int32 × mmF} (h : f_X10_holding v0 v1 f = some res) : Met l yX10_holding wsX10_holding ({ frames := 1, cells := 0, slots := 0, locals := 23 } : Room) (va_Pc [.ref v0, .int v1] (PW D b0 f sz)) (QW D b0 (some (.int res.1)) res.2 sz) 0 0 (fun q => b0 ≤ q) := by
  refine Met.ofW (cc := cX10_holding) (maxL := 9) (ret := (some .int)) (by decide) rfl ?_
  intro p e s m args below meth c s₁ B hml hv
  obtain ⟨rfl, hM, hK⟩ := hv
  have hl := lv_entry ([.ref v0, .int v1]) (n := 9) (Nat.le_of_ble_eq_true rfl)
  rw [lg_entry_eq]
  generalize (lg_sl ([.ref v0, .int v1]) ++ List.replicate (9 - (lg_sl ([.ref v0, .int v1])).length) Slot.unset).toArray = ls at hl ⊢
  have hl : lv_has ls 9 [(0, .ref v0), (1, .int v1)] := hl
  exact w_X10_holding ⟨B.exec, B.bytes, B.returns, hml, findClass_of_methodNamed B.named, atoms_spec (ws := wsX10_holding) B.pre, B.notSynchronized, hK⟩ h s.heap [] ls hM va_S.rf hl
end S_X10_holding
/-! X10_isSame -/
set_option maxRecDepth 20000 in
theorem qi_X10_isSame_X10 : ∀ w ∈ u_ws RX10 TX10 25, w ∈ wsX10_isSame := by decide +kernel
set_option maxRecDepth 20000 in
theorem q_X10_isSame_1 : Cond.fieldLink RX10 122 "StageTruthsModel" "length" "I" ∈ wsX10_isSame := by decide +kernel
set_option maxRecDepth 20000 in
theorem q_X10_isSame_2 : Cond.fieldLink RX10 7 "StageTruthsModel" "now" "[I" ∈ wsX10_isSame := by decide +kernel
set_option maxRecDepth 20000 in
theorem q_X10_isSame_3 : Cond.fieldLink RX10 29 "StageTruthsModel" "signs" "[I" ∈ wsX10_isSame := by decide +kernel
noncomputable def f_X10_isSame_69 (k30 : Nat → Int32 → Int32 → Int32 → Option (Int32)) (f : mmF) (v0 : Nat) (v2 : Int32) (v4 : Int32) (t0 : Int32) : Option (Int32) :=
  k30 v0 v2 t0 (v4 + (1 : Int32))
noncomputable def f_X10_isSame_30  (f : mmF) : Nat → Nat → Int32 → Int32 → Int32 → Option (Int32)
  | 0, _, _, _, _ => none
  | n + 1, v0, v2, v3, v4 =>
    (ldI f v0 10 11).bind fun x33 =>
    if x33 ≤ v4 then
    ((rz v3).bind fun z77 =>
    some (z77))
    else
    if v3 = 0 then
    ((rz v3).bind fun z77 =>
    some (z77))
    else
    (ldR f v0 10 0).bind fun x44 =>
    (ldA 0 f x44 ((v2 + (1 : Int32)) + v4)).bind fun x53 =>
    (ldR f v0 10 10).bind fun x55 =>
    (ldA 0 f x55 v4).bind fun x60 =>
    if x53 = x60 then
    (f_X10_isSame_69 (fun a0 a1 a2 a3 => f_X10_isSame_30 f n a0 a1 a2 a3) f v0 v2 v4 (1 : Int32))
    else
    f_X10_isSame_69 (fun a0 a1 a2 a3 => f_X10_isSame_30 f n a0 a1 a2 a3) f v0 v2 v4 (0 : Int32)
noncomputable def f_X10_isSame_26  (f : mmF) (v0 : Nat) (v2 : Int32) (t0 : Int32) : Option (Int32) :=
  f_X10_isSame_30 f FU v0 v2 t0 (0 : Int32)
noncomputable def f_X10_isSame (v0 : Nat) (v1 : Int32) (f : mmF) : Option (Int32) :=
  (ldR f v0 10 0).bind fun x9 =>
  (ldA 0 f x9 ((17 : Int32) + ((31 : Int32) * v1))).bind fun x13 =>
  (ldI f v0 10 11).bind fun x15 =>
  if x13 = x15 then
  (f_X10_isSame_26 f v0 ((17 : Int32) + ((31 : Int32) * v1)) (1 : Int32))
  else
  f_X10_isSame_26 f v0 ((17 : Int32) + ((31 : Int32) * v1)) (0 : Int32)
section S_X10_isSame
variable {p : Program} {l : Launch} {e : Env} {s : State} {m : MethodId} {args : Array Value} {below : List Frame} {meth : Method} {c : Code} {D : mmD} {b0 sz : Nat} {f : mmF}
set_option maxHeartbeats 4000000 in
set_option maxRecDepth 100000 in
theorem w_X10_isSame_69 (C0 : CX cX10_isSame 5 (some .boolean) wsX10_isSame RX10 p s m args meth c D b0) {k30 : Nat → Int32 → Int32 → Int32 → Option (Int32)} {res : Int32} (hk30 : ∀ (v0 : Nat) (v2 : Int32) (v3 : Int32) (v4 : Int32), k30 v0 v2 v3 v4 = some res → ∀ (H : Heap) (locs : List Loc) (ls : Array Slot), MM vwCl D b0 f sz s H → mS b0 s H locs → lv_has ls 5 [(0, .ref v0), (2, .int v2), (3, .int v3), (4, .int v4)] → W p l e ({ frames := 0, cells := 0, slots := 0, locals := 0 } : Room) s m args below meth c H locs 0 0 (MQ below (QW D b0 (some (.int res)) f sz) args s 0 0 (fun q => b0 ≤ q)) (F0 m 30 ls [])) : ∀ (v0 : Nat) (v2 : Int32) (v4 : Int32) (t0 : Int32), f_X10_isSame_69 k30 f v0 v2 v4 t0 = some res → ∀ (H : Heap) (locs : List Loc) (ls : Array Slot), MM vwCl D b0 f sz s H → mS b0 s H locs → lv_has ls 5 [(0, .ref v0), (2, .int v2), (4, .int v4)] → W p l e ({ frames := 0, cells := 0, slots := 0, locals := 0 } : Room) s m args below meth c H locs 0 0 (MQ below (QW D b0 (some (.int res)) f sz) args s 0 0 (fun q => b0 ≤ q)) (F0 m 69 ls [.int t0]) := by
  obtain ⟨hx, hb, hr, hml, hown, hts, hlocks, hK⟩ := id C0
  intro v0 v2 v4 t0 h H locs ls hM hS hl
  unfold f_X10_isSame_69 at h
  refine lv_istore_n (lv' := [(3, .int t0), (0, .ref v0), (2, .int v2), (4, .int v4)]) hx hb dX10_isSame_69 rfl hl (by decide) rfl (fun ls hl => ?_)
  refine lv_iinc (v := (v4 + (1 : Int32))) (lv' := [(4, .int (v4 + (1 : Int32))), (3, .int t0), (0, .ref v0), (2, .int v2)]) hx hb dX10_isSame_70 hl (k := 3) rfl rfl (by decide) rfl (fun ls hl => ?_)
  refine lv_goto (tgt := 30) hx hb dX10_isSame_73 (by decide) ?_
  exact hk30 _ _ _ _ h _ _ _ hM hS (lv_sub hl [2, 3, 1, 0] rfl)
set_option maxHeartbeats 4000000 in
set_option maxRecDepth 100000 in
theorem w_X10_isSame_30 (C0 : CX cX10_isSame 5 (some .boolean) wsX10_isSame RX10 p s m args meth c D b0) {res : Int32} : ∀ (n : Nat), ∀ (v0 : Nat) (v2 : Int32) (v3 : Int32) (v4 : Int32), f_X10_isSame_30 f n v0 v2 v3 v4 = some res → ∀ (H : Heap) (locs : List Loc) (ls : Array Slot), MM vwCl D b0 f sz s H → mS b0 s H locs → lv_has ls 5 [(0, .ref v0), (2, .int v2), (3, .int v3), (4, .int v4)] → W p l e ({ frames := 0, cells := 0, slots := 0, locals := 0 } : Room) s m args below meth c H locs 0 0 (MQ below (QW D b0 (some (.int res)) f sz) args s 0 0 (fun q => b0 ≤ q)) (F0 m 30 ls []) := by
  obtain ⟨hx, hb, hr, hml, hown, hts, hlocks, hK⟩ := id C0
  intro n
  induction n with
  | zero =>
    intro v0 v2 v3 v4 h
    have h : (none : Option (Int32)) = some res := h
    cases h
  | succ n ih =>
    intro v0 v2 v3 v4 h H locs ls hM hS hl
    rw [f_X10_isSame_30] at h
    refine lv_iload hx hb dX10_isSame_30 (lv_at hl 3 rfl) ?_
    refine lv_aload_n hx hb dX10_isSame_32 rfl (lv_at hl 0 rfl) ?_
    replace h := o_b h; obtain ⟨x33, h33, h⟩ := h
    refine m_get (C := RX10) (T := TX10) (N := 25) (ci := 10) hx hb hts qi_X10_isSame_X10 hown hK.1 hM 11 (ldI_F h33) rfl (by decide) (hts _ q_X10_isSame_1) (fun _ h9 => h9) dX10_isSame_33 ?_
    refine lv_icmp_ge (tgt := 76) hx hb dX10_isSame_36 (by decide) (fun c36 => ?_) (fun c36 => ?_)
    · replace h := o_t c36 h
      refine lv_iload_n hx hb dX10_isSame_76 rfl (lv_at hl 2 rfl) ?_
      replace h := o_b h; obtain ⟨z77, hz77, h⟩ := h
      obtain ⟨ez77, nz77⟩ := rz_at hz77
      subst ez77
      replace h := Option.some.inj h; subst h
      exact W.zret hx hb hr nz77 (fun t ht hW => ⟨rfl, by rw [ht]; exact hM.moved hW.alike, hS.F ht⟩) hS.2.2 dX10_isSame_77
    replace h := o_f c36 h
    refine lv_iload_n hx hb dX10_isSame_39 rfl (lv_at hl 2 rfl) ?_
    refine lv_if_eq (tgt := 76) hx hb dX10_isSame_40 (by decide) (fun c40 => ?_) (fun c40 => ?_)
    · replace h := o_t c40 h
      refine lv_iload_n hx hb dX10_isSame_76 rfl (lv_at hl 2 rfl) ?_
      replace h := o_b h; obtain ⟨z77, hz77, h⟩ := h
      obtain ⟨ez77, nz77⟩ := rz_at hz77
      subst ez77
      replace h := Option.some.inj h; subst h
      exact W.zret hx hb hr nz77 (fun t ht hW => ⟨rfl, by rw [ht]; exact hM.moved hW.alike, hS.F ht⟩) hS.2.2 dX10_isSame_77
    replace h := o_f c40 h
    refine lv_aload_n hx hb dX10_isSame_43 rfl (lv_at hl 0 rfl) ?_
    replace h := o_b h; obtain ⟨x44, h44, h⟩ := h
    refine m_get (C := RX10) (T := TX10) (N := 25) (ci := 10) hx hb hts qi_X10_isSame_X10 hown hK.1 hM 0 (ldR_F h44) rfl (by decide) (hts _ q_X10_isSame_2) (fun _ h9 => h9) dX10_isSame_44 ?_
    refine lv_iload_n hx hb dX10_isSame_47 rfl (lv_at hl 1 rfl) ?_
    refine lv_iconst (v := (1 : Int32)) hx hb dX10_isSame_48 (by decide) ?_
    refine lv_iadd hx hb dX10_isSame_49 ?_
    refine lv_iload hx hb dX10_isSame_50 (lv_at hl 3 rfl) ?_
    refine lv_iadd hx hb dX10_isSame_52 ?_
    replace h := o_b h; obtain ⟨x53, h53, h⟩ := h
    refine m_iald hx hb hK.1 hM hS rfl h53 dX10_isSame_53 ?_
    refine lv_aload_n hx hb dX10_isSame_54 rfl (lv_at hl 0 rfl) ?_
    replace h := o_b h; obtain ⟨x55, h55, h⟩ := h
    refine m_get (C := RX10) (T := TX10) (N := 25) (ci := 10) hx hb hts qi_X10_isSame_X10 hown hK.1 hM 10 (ldR_F h55) rfl (by decide) (hts _ q_X10_isSame_3) (fun _ h9 => h9) dX10_isSame_55 ?_
    refine lv_iload hx hb dX10_isSame_58 (lv_at hl 3 rfl) ?_
    replace h := o_b h; obtain ⟨x60, h60, h⟩ := h
    refine m_iald hx hb hK.1 hM hS rfl h60 dX10_isSame_60 ?_
    refine lv_icmp_ne (tgt := 68) hx hb dX10_isSame_61 (by decide) (fun c61 => ?_) (fun c61 => ?_)
    · replace h := o_f c61 h
      refine lv_iconst (v := (0 : Int32)) hx hb dX10_isSame_68 (by decide) ?_
      exact w_X10_isSame_69 C0 ih _ _ _ _ h _ _ _ hM hS (lv_sub hl [0, 1, 3] rfl)
    replace h := o_t c61 h
    refine lv_iconst (v := (1 : Int32)) hx hb dX10_isSame_64 (by decide) ?_
    refine lv_goto (tgt := 69) hx hb dX10_isSame_65 (by decide) ?_
    exact w_X10_isSame_69 C0 ih _ _ _ _ h _ _ _ hM hS (lv_sub hl [0, 1, 3] rfl)
set_option maxHeartbeats 4000000 in
set_option maxRecDepth 100000 in
theorem w_X10_isSame_26 (C0 : CX cX10_isSame 5 (some .boolean) wsX10_isSame RX10 p s m args meth c D b0) {res : Int32} : ∀ (v0 : Nat) (v2 : Int32) (t0 : Int32), f_X10_isSame_26 f v0 v2 t0 = some res → ∀ (H : Heap) (locs : List Loc) (ls : Array Slot), MM vwCl D b0 f sz s H → mS b0 s H locs → lv_has ls 5 [(0, .ref v0), (2, .int v2)] → W p l e ({ frames := 0, cells := 0, slots := 0, locals := 0 } : Room) s m args below meth c H locs 0 0 (MQ below (QW D b0 (some (.int res)) f sz) args s 0 0 (fun q => b0 ≤ q)) (F0 m 26 ls [.int t0]) := by
  obtain ⟨hx, hb, hr, hml, hown, hts, hlocks, hK⟩ := id C0
  intro v0 v2 t0 h H locs ls hM hS hl
  unfold f_X10_isSame_26 at h
  refine lv_istore_n (lv' := [(3, .int t0), (0, .ref v0), (2, .int v2)]) hx hb dX10_isSame_26 rfl hl (by decide) rfl (fun ls hl => ?_)
  refine lv_iconst (v := (0 : Int32)) hx hb dX10_isSame_27 (by decide) ?_
  refine lv_istore (lv' := [(4, .int (0 : Int32)), (3, .int t0), (0, .ref v0), (2, .int v2)]) hx hb dX10_isSame_28 hl (by decide) rfl (fun ls hl => ?_)
  exact w_X10_isSame_30 C0 FU _ _ _ _ h _ _ _ hM hS (lv_sub hl [2, 3, 1, 0] rfl)
set_option maxHeartbeats 4000000 in
set_option maxRecDepth 100000 in
theorem w_X10_isSame (C0 : CX cX10_isSame 5 (some .boolean) wsX10_isSame RX10 p s m args meth c D b0) {v0 : Nat} {v1 : Int32} {res : Int32} (h : f_X10_isSame v0 v1 f = some res) : ∀ (H : Heap) (locs : List Loc) (ls : Array Slot), MM vwCl D b0 f sz s H → mS b0 s H locs → lv_has ls 5 [(0, .ref v0), (1, .int v1)] → W p l e ({ frames := 0, cells := 0, slots := 0, locals := 0 } : Room) s m args below meth c H locs 0 0 (MQ below (QW D b0 (some (.int res)) f sz) args s 0 0 (fun q => b0 ≤ q)) (F0 m 0 ls []) := by
  obtain ⟨hx, hb, hr, hml, hown, hts, hlocks, hK⟩ := id C0
  intro H locs ls hM hS hl
  unfold f_X10_isSame at h
  refine lv_bipush (v := (17 : Int32)) hx hb dX10_isSame_0 (by decide) ?_
  refine lv_bipush (v := (31 : Int32)) hx hb dX10_isSame_2 (by decide) ?_
  refine lv_iload_n hx hb dX10_isSame_4 rfl (lv_at hl 1 rfl) ?_
  refine lv_imul hx hb dX10_isSame_5 ?_
  refine lv_iadd hx hb dX10_isSame_6 ?_
  refine lv_istore_n (lv' := [(2, .int ((17 : Int32) + ((31 : Int32) * v1))), (0, .ref v0), (1, .int v1)]) hx hb dX10_isSame_7 rfl hl (by decide) rfl (fun ls hl => ?_)
  refine lv_aload_n hx hb dX10_isSame_8 rfl (lv_at hl 1 rfl) ?_
  replace h := o_b h; obtain ⟨x9, h9, h⟩ := h
  refine m_get (C := RX10) (T := TX10) (N := 25) (ci := 10) hx hb hts qi_X10_isSame_X10 hown hK.1 hM 0 (ldR_F h9) rfl (by decide) (hts _ q_X10_isSame_2) (fun _ h9 => h9) dX10_isSame_9 ?_
  refine lv_iload_n hx hb dX10_isSame_12 rfl (lv_at hl 0 rfl) ?_
  replace h := o_b h; obtain ⟨x13, h13, h⟩ := h
  refine m_iald hx hb hK.1 hM hS rfl h13 dX10_isSame_13 ?_
  refine lv_aload_n hx hb dX10_isSame_14 rfl (lv_at hl 1 rfl) ?_
  replace h := o_b h; obtain ⟨x15, h15, h⟩ := h
  refine m_get (C := RX10) (T := TX10) (N := 25) (ci := 10) hx hb hts qi_X10_isSame_X10 hown hK.1 hM 11 (ldI_F h15) rfl (by decide) (hts _ q_X10_isSame_1) (fun _ h9 => h9) dX10_isSame_15 ?_
  refine lv_icmp_ne (tgt := 25) hx hb dX10_isSame_18 (by decide) (fun c18 => ?_) (fun c18 => ?_)
  · replace h := o_f c18 h
    refine lv_iconst (v := (0 : Int32)) hx hb dX10_isSame_25 (by decide) ?_
    exact w_X10_isSame_26 C0 _ _ _ h _ _ _ hM hS (lv_sub hl [1, 0] rfl)
  replace h := o_t c18 h
  refine lv_iconst (v := (1 : Int32)) hx hb dX10_isSame_21 (by decide) ?_
  refine lv_goto (tgt := 26) hx hb dX10_isSame_22 (by decide) ?_
  exact w_X10_isSame_26 C0 _ _ _ h _ _ _ hM hS (lv_sub hl [1, 0] rfl)
set_option maxHeartbeats 4000000 in
set_option maxRecDepth 100000 in
theorem c_X10_isSame (l : Launch) (D : mmD) (b0 sz : Nat) {v0 : Nat} {v1 : Int32} {f : mmF} {res : Int32} (h : f_X10_isSame v0 v1 f = some res) : Met l yX10_isSame wsX10_isSame ({ frames := 0, cells := 0, slots := 0, locals := 0 } : Room) (va_Pc [.ref v0, .int v1] (PW D b0 f sz)) (QW D b0 (some (.int res)) f sz) 0 0 (fun q => b0 ≤ q) := by
  refine Met.ofW (cc := cX10_isSame) (maxL := 5) (ret := (some .boolean)) (by decide) rfl ?_
  intro p e s m args below meth c s₁ B hml hv
  obtain ⟨rfl, hM, hK⟩ := hv
  have hl := lv_entry ([.ref v0, .int v1]) (n := 5) (Nat.le_of_ble_eq_true rfl)
  rw [lg_entry_eq]
  generalize (lg_sl ([.ref v0, .int v1]) ++ List.replicate (5 - (lg_sl ([.ref v0, .int v1])).length) Slot.unset).toArray = ls at hl ⊢
  have hl : lv_has ls 5 [(0, .ref v0), (1, .int v1)] := hl
  exact w_X10_isSame ⟨B.exec, B.bytes, B.returns, hml, findClass_of_methodNamed B.named, atoms_spec (ws := wsX10_isSame) B.pre, B.notSynchronized, hK⟩ h s.heap [] ls hM va_S.rf hl
end S_X10_isSame
/-! X10_lays -/
set_option maxRecDepth 20000 in
theorem qi_X10_lays_X10 : ∀ w ∈ u_ws RX10 TX10 25, w ∈ wsX10_lays := by decide +kernel
set_option maxRecDepth 20000 in
theorem q_X10_lays_1 : Cond.fieldLink RX10 122 "StageTruthsModel" "length" "I" ∈ wsX10_lays := by decide +kernel
set_option maxRecDepth 20000 in
theorem q_X10_lays_2 : Cond.fieldLink RX10 7 "StageTruthsModel" "now" "[I" ∈ wsX10_lays := by decide +kernel
set_option maxRecDepth 20000 in
theorem q_X10_lays_3 : Cond.fieldLink RX10 29 "StageTruthsModel" "signs" "[I" ∈ wsX10_lays := by decide +kernel
noncomputable def f_X10_lays_20   : Nat → Nat → Int32 → Int32 → mmF → Option (mmF)
  | 0, _, _, _, _ => none
  | n + 1, v0, v2, v3, f =>
    (ldI f v0 10 11).bind fun x22 =>
    if x22 ≤ v3 then
    (some (f))
    else
    (ldR f v0 10 0).bind fun x29 =>
    (ldR f v0 10 10).bind fun x38 =>
    (ldA 0 f x38 v3).bind fun x42 =>
    (stA 0 f x29 ((v2 + (1 : Int32)) + v3) x42).bind fun f43 =>
    f_X10_lays_20 n v0 v2 (v3 + (1 : Int32)) f43
noncomputable def f_X10_lays (v0 : Nat) (v1 : Int32) (f : mmF) : Option (mmF) :=
  (ldR f v0 10 0).bind fun x9 =>
  (ldI f v0 10 11).bind fun x14 =>
  (stA 0 f x9 ((17 : Int32) + ((31 : Int32) * v1)) x14).bind fun f17 =>
  f_X10_lays_20 FU v0 ((17 : Int32) + ((31 : Int32) * v1)) (0 : Int32) f17
section S_X10_lays
variable {p : Program} {l : Launch} {e : Env} {s : State} {m : MethodId} {args : Array Value} {below : List Frame} {meth : Method} {c : Code} {D : mmD} {b0 sz : Nat} {f : mmF}
set_option maxHeartbeats 4000000 in
set_option maxRecDepth 100000 in
theorem w_X10_lays_20 (C0 : CX cX10_lays 4 none wsX10_lays RX10 p s m args meth c D b0) {res : mmF} : ∀ (n : Nat), ∀ (v0 : Nat) (v2 : Int32) (v3 : Int32) (f : mmF), f_X10_lays_20 n v0 v2 v3 f = some res → ∀ (H : Heap) (locs : List Loc) (ls : Array Slot), MM vwCl D b0 f sz s H → mS b0 s H locs → lv_has ls 4 [(0, .ref v0), (2, .int v2), (3, .int v3)] → W p l e ({ frames := 0, cells := 0, slots := 0, locals := 0 } : Room) s m args below meth c H locs 0 0 (MQ below (QW D b0 none res sz) args s 0 0 (fun q => b0 ≤ q)) (F0 m 20 ls []) := by
  obtain ⟨hx, hb, hr, hml, hown, hts, hlocks, hK⟩ := id C0
  intro n
  induction n with
  | zero =>
    intro v0 v2 v3 f h
    have h : (none : Option (mmF)) = some res := h
    cases h
  | succ n ih =>
    intro v0 v2 v3 f h H locs ls hM hS hl
    rw [f_X10_lays_20] at h
    refine lv_iload_n hx hb dX10_lays_20 rfl (lv_at hl 2 rfl) ?_
    refine lv_aload_n hx hb dX10_lays_21 rfl (lv_at hl 0 rfl) ?_
    replace h := o_b h; obtain ⟨x22, h22, h⟩ := h
    refine m_get (C := RX10) (T := TX10) (N := 25) (ci := 10) hx hb hts qi_X10_lays_X10 hown hK.1 hM 11 (ldI_F h22) rfl (by decide) (hts _ q_X10_lays_1) (fun _ h9 => h9) dX10_lays_22 ?_
    refine lv_icmp_ge (tgt := 50) hx hb dX10_lays_25 (by decide) (fun c25 => ?_) (fun c25 => ?_)
    · replace h := o_t c25 h
      replace h := Option.some.inj h; subst h
      exact W.vret hx hb hr (fun t ht hW => ⟨rfl, by rw [ht]; exact hM.moved hW.alike, hS.F ht⟩) hS.2.2 dX10_lays_50
    replace h := o_f c25 h
    refine lv_aload_n hx hb dX10_lays_28 rfl (lv_at hl 0 rfl) ?_
    replace h := o_b h; obtain ⟨x29, h29, h⟩ := h
    refine m_get (C := RX10) (T := TX10) (N := 25) (ci := 10) hx hb hts qi_X10_lays_X10 hown hK.1 hM 0 (ldR_F h29) rfl (by decide) (hts _ q_X10_lays_2) (fun _ h9 => h9) dX10_lays_29 ?_
    refine lv_iload_n hx hb dX10_lays_32 rfl (lv_at hl 1 rfl) ?_
    refine lv_iconst (v := (1 : Int32)) hx hb dX10_lays_33 (by decide) ?_
    refine lv_iadd hx hb dX10_lays_34 ?_
    refine lv_iload_n hx hb dX10_lays_35 rfl (lv_at hl 2 rfl) ?_
    refine lv_iadd hx hb dX10_lays_36 ?_
    refine lv_aload_n hx hb dX10_lays_37 rfl (lv_at hl 0 rfl) ?_
    replace h := o_b h; obtain ⟨x38, h38, h⟩ := h
    refine m_get (C := RX10) (T := TX10) (N := 25) (ci := 10) hx hb hts qi_X10_lays_X10 hown hK.1 hM 10 (ldR_F h38) rfl (by decide) (hts _ q_X10_lays_3) (fun _ h9 => h9) dX10_lays_38 ?_
    refine lv_iload_n hx hb dX10_lays_41 rfl (lv_at hl 2 rfl) ?_
    replace h := o_b h; obtain ⟨x42, h42, h⟩ := h
    refine m_iald hx hb hK.1 hM hS rfl h42 dX10_lays_42 ?_
    replace h := o_b h; obtain ⟨f43, h43, h⟩ := h
    refine m_iast hx hb hK.1 hM hS rfl h43 dX10_lays_43 (fun H locs hM hS => ?_)
    refine lv_iinc (v := (v3 + (1 : Int32))) (lv' := [(3, .int (v3 + (1 : Int32))), (0, .ref v0), (2, .int v2)]) hx hb dX10_lays_44 hl (k := 2) rfl rfl (by decide) rfl (fun ls hl => ?_)
    refine lv_goto (tgt := 20) hx hb dX10_lays_47 (by decide) ?_
    exact ih _ _ _ _ h _ _ _ hM hS (lv_sub hl [1, 2, 0] rfl)
set_option maxHeartbeats 4000000 in
set_option maxRecDepth 100000 in
theorem w_X10_lays (C0 : CX cX10_lays 4 none wsX10_lays RX10 p s m args meth c D b0) {v0 : Nat} {v1 : Int32} {res : mmF} (h : f_X10_lays v0 v1 f = some res) : ∀ (H : Heap) (locs : List Loc) (ls : Array Slot), MM vwCl D b0 f sz s H → mS b0 s H locs → lv_has ls 4 [(0, .ref v0), (1, .int v1)] → W p l e ({ frames := 0, cells := 0, slots := 0, locals := 0 } : Room) s m args below meth c H locs 0 0 (MQ below (QW D b0 none res sz) args s 0 0 (fun q => b0 ≤ q)) (F0 m 0 ls []) := by
  obtain ⟨hx, hb, hr, hml, hown, hts, hlocks, hK⟩ := id C0
  intro H locs ls hM hS hl
  unfold f_X10_lays at h
  refine lv_bipush (v := (17 : Int32)) hx hb dX10_lays_0 (by decide) ?_
  refine lv_bipush (v := (31 : Int32)) hx hb dX10_lays_2 (by decide) ?_
  refine lv_iload_n hx hb dX10_lays_4 rfl (lv_at hl 1 rfl) ?_
  refine lv_imul hx hb dX10_lays_5 ?_
  refine lv_iadd hx hb dX10_lays_6 ?_
  refine lv_istore_n (lv' := [(2, .int ((17 : Int32) + ((31 : Int32) * v1))), (0, .ref v0), (1, .int v1)]) hx hb dX10_lays_7 rfl hl (by decide) rfl (fun ls hl => ?_)
  refine lv_aload_n hx hb dX10_lays_8 rfl (lv_at hl 1 rfl) ?_
  replace h := o_b h; obtain ⟨x9, h9, h⟩ := h
  refine m_get (C := RX10) (T := TX10) (N := 25) (ci := 10) hx hb hts qi_X10_lays_X10 hown hK.1 hM 0 (ldR_F h9) rfl (by decide) (hts _ q_X10_lays_2) (fun _ h9 => h9) dX10_lays_9 ?_
  refine lv_iload_n hx hb dX10_lays_12 rfl (lv_at hl 0 rfl) ?_
  refine lv_aload_n hx hb dX10_lays_13 rfl (lv_at hl 1 rfl) ?_
  replace h := o_b h; obtain ⟨x14, h14, h⟩ := h
  refine m_get (C := RX10) (T := TX10) (N := 25) (ci := 10) hx hb hts qi_X10_lays_X10 hown hK.1 hM 11 (ldI_F h14) rfl (by decide) (hts _ q_X10_lays_1) (fun _ h9 => h9) dX10_lays_14 ?_
  replace h := o_b h; obtain ⟨f17, h17, h⟩ := h
  refine m_iast hx hb hK.1 hM hS rfl h17 dX10_lays_17 (fun H locs hM hS => ?_)
  refine lv_iconst (v := (0 : Int32)) hx hb dX10_lays_18 (by decide) ?_
  refine lv_istore_n (lv' := [(3, .int (0 : Int32)), (2, .int ((17 : Int32) + ((31 : Int32) * v1))), (0, .ref v0), (1, .int v1)]) hx hb dX10_lays_19 rfl hl (by decide) rfl (fun ls hl => ?_)
  exact w_X10_lays_20 C0 FU _ _ _ _ h _ _ _ hM hS (lv_sub hl [2, 1, 0] rfl)
set_option maxHeartbeats 4000000 in
set_option maxRecDepth 100000 in
theorem c_X10_lays (l : Launch) (D : mmD) (b0 sz : Nat) {v0 : Nat} {v1 : Int32} {f : mmF} {res : mmF} (h : f_X10_lays v0 v1 f = some res) : Met l yX10_lays wsX10_lays ({ frames := 0, cells := 0, slots := 0, locals := 0 } : Room) (va_Pc [.ref v0, .int v1] (PW D b0 f sz)) (QW D b0 none res sz) 0 0 (fun q => b0 ≤ q) := by
  refine Met.ofW (cc := cX10_lays) (maxL := 4) (ret := none) (by decide) rfl ?_
  intro p e s m args below meth c s₁ B hml hv
  obtain ⟨rfl, hM, hK⟩ := hv
  have hl := lv_entry ([.ref v0, .int v1]) (n := 4) (Nat.le_of_ble_eq_true rfl)
  rw [lg_entry_eq]
  generalize (lg_sl ([.ref v0, .int v1]) ++ List.replicate (4 - (lg_sl ([.ref v0, .int v1])).length) Slot.unset).toArray = ls at hl ⊢
  have hl : lv_has ls 4 [(0, .ref v0), (1, .int v1)] := hl
  exact w_X10_lays ⟨B.exec, B.bytes, B.returns, hml, findClass_of_methodNamed B.named, atoms_spec (ws := wsX10_lays) B.pre, B.notSynchronized, hK⟩ h s.heap [] ls hM va_S.rf hl
end S_X10_lays
/-! X10_put -/
set_option maxRecDepth 20000 in
theorem qi_X10_put_X10 : ∀ w ∈ u_ws RX10 TX10 25, w ∈ wsX10_put := by decide +kernel
set_option maxRecDepth 20000 in
theorem q_X10_put_1 : Cond.fieldLink RX10 131 "StageTruthsModel" "at" "I" ∈ wsX10_put := by decide +kernel
noncomputable def f_X10_put (v0 : Nat) (v1 : Int32) (f : mmF) : Option (Int32 × mmF) :=
  (f_X10_noPlace v1 f).bind fun q1 =>
  if q1 = 0 then
  ((ckO f v0 10).bind fun _ =>
  (f_X10_isClaim v0 f).bind fun q10 =>
  if q10.1 = 0 then
  ((ldI q10.2 v0 10 9).bind fun x19 =>
  some (((-100 : Int32) - x19), q10.2))
  else
  (ckO q10.2 v0 10).bind fun _ =>
  (f_X10_isSame v0 v1 q10.2).bind fun q26 =>
  if q26 = 0 then
  ((ckO q10.2 v0 10).bind fun _ =>
  (f_X10_record v0 q10.2).bind fun q36 =>
  (ckO q36 v0 10).bind fun _ =>
  (f_X10_lays v0 v1 q36).bind fun q41 =>
  (ckO q41 v0 10).bind fun _ =>
  (f_X10_holding v0 v1 q41).bind fun q46 =>
  some (q46.1, q46.2))
  else
  some ((-5 : Int32), q10.2))
  else
  some ((-1 : Int32), f)
section S_X10_put
variable {p : Program} {l : Launch} {e : Env} {s : State} {m : MethodId} {args : Array Value} {below : List Frame} {meth : Method} {c : Code} {D : mmD} {b0 sz : Nat} {f : mmF}
set_option maxHeartbeats 4000000 in
set_option maxRecDepth 100000 in
theorem w_X10_put (C0 : CX cX10_put 2 (some .int) wsX10_put RX10 p s m args meth c D b0) {v0 : Nat} {v1 : Int32} {res : Int32 × mmF} (h : f_X10_put v0 v1 f = some res) : ∀ (H : Heap) (locs : List Loc) (ls : Array Slot), MM vwCl D b0 f sz s H → mS b0 s H locs → lv_has ls 2 [(0, .ref v0), (1, .int v1)] → W p l e ({ frames := 3, cells := 0, slots := 0, locals := 65 } : Room) s m args below meth c H locs 0 0 (MQ below (QW D b0 (some (.int res.1)) res.2 sz) args s 0 0 (fun q => b0 ≤ q)) (F0 m 0 ls []) := by
  obtain ⟨hx, hb, hr, hml, hown, hts, hlocks, hK⟩ := id C0
  intro H locs ls hM hS hl
  unfold f_X10_put at h
  refine lv_iload_n hx hb dX10_put_0 rfl (lv_at hl 1 rfl) ?_
  replace h := o_b h; obtain ⟨q1, h1, h⟩ := h
  refine m_call (va_runS (As := [.int v1]) (rest := []) ⟨hx, hb, hml, hown, hts⟩ (c_X10_noPlace l D b0 sz h1) (va_cwS 1 hts gX10_put_X10_noPlace rfl rfl rfl (by decide +kernel) ⟨Nat.le_of_ble_eq_true rfl, Nat.le_of_ble_eq_true rfl⟩) ⟨PW.blind, (fun U hU hW => ⟨rfl, PW.call hK hM hS hU hW⟩)⟩ rfl rfl hl.1 rfl (lv_room (Nat.le_of_ble_eq_true rfl)) dX10_put_1 ⟨(Nat.le_refl _), (Nat.le_refl _)⟩) hS (fun H locs hM hS => ?_)
  refine lv_if_eq (tgt := 9) hx hb dX10_put_4 (by decide) (fun c4 => ?_) (fun c4 => ?_)
  · replace h := o_t c4 h
    refine lv_aload_n hx hb dX10_put_9 rfl (lv_at hl 0 rfl) ?_
    replace h := o_b h; obtain ⟨_, k10, h⟩ := h
    replace h := o_b h; obtain ⟨q10, h10, h⟩ := h
    refine m_call (va_runV (As := []) (rest := []) ⟨hx, hb, hml, hown, hts⟩ (c_X10_isClaim l D b0 sz h10) (cwV 0 hts gX10_put_X10_isClaim rfl rfl rfl (by decide +kernel) ⟨Nat.le_of_ble_eq_true rfl, Nat.le_of_ble_eq_true rfl⟩) ⟨PW.blind, m_recv (ci := 10) rfl hK hM k10, (fun U hU hW => ⟨rfl, PW.call hK hM hS hU hW⟩)⟩ rfl rfl hl.1 rfl (lv_room (Nat.le_of_ble_eq_true rfl)) dX10_put_10 ⟨(Nat.le_refl _), (Nat.le_refl _)⟩) hS (fun H locs hM hS => ?_)
    refine lv_if_ne (tgt := 24) hx hb dX10_put_13 (by decide) (fun c13 => ?_) (fun c13 => ?_)
    · replace h := o_f c13 h
      refine lv_aload_n hx hb dX10_put_24 rfl (lv_at hl 0 rfl) ?_
      refine lv_iload_n hx hb dX10_put_25 rfl (lv_at hl 1 rfl) ?_
      replace h := o_b h; obtain ⟨_, k26, h⟩ := h
      replace h := o_b h; obtain ⟨q26, h26, h⟩ := h
      refine m_call (va_runV (As := [.int v1]) (rest := []) ⟨hx, hb, hml, hown, hts⟩ (c_X10_isSame l D b0 sz h26) (cwV 1 hts gX10_put_X10_isSame rfl rfl rfl (by decide +kernel) ⟨Nat.le_of_ble_eq_true rfl, Nat.le_of_ble_eq_true rfl⟩) ⟨PW.blind, m_recv (ci := 10) rfl hK hM k26, (fun U hU hW => ⟨rfl, PW.call hK hM hS hU hW⟩)⟩ rfl rfl hl.1 rfl (lv_room (Nat.le_of_ble_eq_true rfl)) dX10_put_26 ⟨(Nat.le_refl _), (Nat.le_refl _)⟩) hS (fun H locs hM hS => ?_)
      refine lv_if_eq (tgt := 35) hx hb dX10_put_29 (by decide) (fun c29 => ?_) (fun c29 => ?_)
      · replace h := o_t c29 h
        refine lv_aload_n hx hb dX10_put_35 rfl (lv_at hl 0 rfl) ?_
        replace h := o_b h; obtain ⟨_, k36, h⟩ := h
        replace h := o_b h; obtain ⟨q36, h36, h⟩ := h
        refine m_call (va_runV (As := []) (rest := []) ⟨hx, hb, hml, hown, hts⟩ (c_X10_record l D b0 sz h36) (cwV 0 hts gX10_put_X10_record rfl rfl rfl (by decide +kernel) ⟨Nat.le_of_ble_eq_true rfl, Nat.le_of_ble_eq_true rfl⟩) ⟨PW.blind, m_recv (ci := 10) rfl hK hM k36, (fun U hU hW => ⟨rfl, PW.call hK hM hS hU hW⟩)⟩ rfl rfl hl.1 rfl (lv_room (Nat.le_of_ble_eq_true rfl)) dX10_put_36 ⟨(Nat.le_refl _), (Nat.le_refl _)⟩) hS (fun H locs hM hS => ?_)
        refine lv_aload_n hx hb dX10_put_39 rfl (lv_at hl 0 rfl) ?_
        refine lv_iload_n hx hb dX10_put_40 rfl (lv_at hl 1 rfl) ?_
        replace h := o_b h; obtain ⟨_, k41, h⟩ := h
        replace h := o_b h; obtain ⟨q41, h41, h⟩ := h
        refine m_call (va_runV (As := [.int v1]) (rest := []) ⟨hx, hb, hml, hown, hts⟩ (c_X10_lays l D b0 sz h41) (cwV 1 hts gX10_put_X10_lays rfl rfl rfl (by decide +kernel) ⟨Nat.le_of_ble_eq_true rfl, Nat.le_of_ble_eq_true rfl⟩) ⟨PW.blind, m_recv (ci := 10) rfl hK hM k41, (fun U hU hW => ⟨rfl, PW.call hK hM hS hU hW⟩)⟩ rfl rfl hl.1 rfl (lv_room (Nat.le_of_ble_eq_true rfl)) dX10_put_41 ⟨(Nat.le_refl _), (Nat.le_refl _)⟩) hS (fun H locs hM hS => ?_)
        refine lv_aload_n hx hb dX10_put_44 rfl (lv_at hl 0 rfl) ?_
        refine lv_iload_n hx hb dX10_put_45 rfl (lv_at hl 1 rfl) ?_
        replace h := o_b h; obtain ⟨_, k46, h⟩ := h
        replace h := o_b h; obtain ⟨q46, h46, h⟩ := h
        refine m_call (va_runV (As := [.int v1]) (rest := []) ⟨hx, hb, hml, hown, hts⟩ (c_X10_holding l D b0 sz h46) (cwV 1 hts gX10_put_X10_holding rfl rfl rfl (by decide +kernel) ⟨Nat.le_of_ble_eq_true rfl, Nat.le_of_ble_eq_true rfl⟩) ⟨PW.blind, m_recv (ci := 10) rfl hK hM k46, (fun U hU hW => ⟨rfl, PW.call hK hM hS hU hW⟩)⟩ rfl rfl hl.1 rfl (lv_room (Nat.le_of_ble_eq_true rfl)) dX10_put_46 ⟨(Nat.le_refl _), (Nat.le_refl _)⟩) hS (fun H locs hM hS => ?_)
        replace h := Option.some.inj h; subst h
        exact W.iret hx hb hr (fun t ht hW => ⟨rfl, by rw [ht]; exact hM.moved hW.alike, hS.F ht⟩) hS.2.2 dX10_put_49
      replace h := o_f c29 h
      refine lv_bipush (v := (-5 : Int32)) hx hb dX10_put_32 (by decide) ?_
      replace h := Option.some.inj h; subst h
      exact W.iret hx hb hr (fun t ht hW => ⟨rfl, by rw [ht]; exact hM.moved hW.alike, hS.F ht⟩) hS.2.2 dX10_put_34
    replace h := o_t c13 h
    refine lv_bipush (v := (-100 : Int32)) hx hb dX10_put_16 (by decide) ?_
    refine lv_aload_n hx hb dX10_put_18 rfl (lv_at hl 0 rfl) ?_
    replace h := o_b h; obtain ⟨x19, h19, h⟩ := h
    refine m_get (C := RX10) (T := TX10) (N := 25) (ci := 10) hx hb hts qi_X10_put_X10 hown hK.1 hM 9 (ldI_F h19) rfl (by decide) (hts _ q_X10_put_1) (fun _ h9 => h9) dX10_put_19 ?_
    refine lv_isub hx hb dX10_put_22 ?_
    replace h := Option.some.inj h; subst h
    exact W.iret hx hb hr (fun t ht hW => ⟨rfl, by rw [ht]; exact hM.moved hW.alike, hS.F ht⟩) hS.2.2 dX10_put_23
  replace h := o_f c4 h
  refine lv_iconst (v := (-1 : Int32)) hx hb dX10_put_7 (by decide) ?_
  replace h := Option.some.inj h; subst h
  exact W.iret hx hb hr (fun t ht hW => ⟨rfl, by rw [ht]; exact hM.moved hW.alike, hS.F ht⟩) hS.2.2 dX10_put_8
set_option maxHeartbeats 4000000 in
set_option maxRecDepth 100000 in
theorem c_X10_put (l : Launch) (D : mmD) (b0 sz : Nat) {v0 : Nat} {v1 : Int32} {f : mmF} {res : Int32 × mmF} (h : f_X10_put v0 v1 f = some res) : Met l yX10_put wsX10_put ({ frames := 3, cells := 0, slots := 0, locals := 65 } : Room) (va_Pc [.ref v0, .int v1] (PW D b0 f sz)) (QW D b0 (some (.int res.1)) res.2 sz) 0 0 (fun q => b0 ≤ q) := by
  refine Met.ofW (cc := cX10_put) (maxL := 2) (ret := (some .int)) (by decide) rfl ?_
  intro p e s m args below meth c s₁ B hml hv
  obtain ⟨rfl, hM, hK⟩ := hv
  have hl := lv_entry ([.ref v0, .int v1]) (n := 2) (Nat.le_of_ble_eq_true rfl)
  rw [lg_entry_eq]
  generalize (lg_sl ([.ref v0, .int v1]) ++ List.replicate (2 - (lg_sl ([.ref v0, .int v1])).length) Slot.unset).toArray = ls at hl ⊢
  have hl : lv_has ls 2 [(0, .ref v0), (1, .int v1)] := hl
  exact w_X10_put ⟨B.exec, B.bytes, B.returns, hml, findClass_of_methodNamed B.named, atoms_spec (ws := wsX10_put) B.pre, B.notSynchronized, hK⟩ h s.heap [] ls hM va_S.rf hl
end S_X10_put
/-! X10_places -/
noncomputable def f_X10_places_25 (k4 : Nat → Int32 → Int32 → Option (Int32)) (f : mmF) (v0 : Nat) (v2 : Int32) (t0 : Int32) (t1 : Int32) : Option (Int32) :=
  k4 v0 (t0 ||| t1) (v2 + (1 : Int32))
noncomputable def f_X10_places_4  (f : mmF) : Nat → Nat → Int32 → Int32 → Option (Int32)
  | 0, _, _, _ => none
  | n + 1, v0, v1, v2 =>
    if (5 : Int32) ≤ v2 then
    (some (v1))
    else
    (ckO f v0 10).bind fun _ =>
    (f_X10_noClaim v0 v2 f).bind fun q12 =>
    if q12 = 0 then
    (f_X10_places_25 (fun a0 a1 a2 => f_X10_places_4 f n a0 a1 a2) f v0 v2 v1 ((1 : Int32) <<< (v2 &&& 31)))
    else
    f_X10_places_25 (fun a0 a1 a2 => f_X10_places_4 f n a0 a1 a2) f v0 v2 v1 (0 : Int32)
noncomputable def f_X10_places (v0 : Nat) (f : mmF) : Option (Int32) :=
  f_X10_places_4 f FU v0 (0 : Int32) (0 : Int32)
section S_X10_places
variable {p : Program} {l : Launch} {e : Env} {s : State} {m : MethodId} {args : Array Value} {below : List Frame} {meth : Method} {c : Code} {D : mmD} {b0 sz : Nat} {f : mmF}
set_option maxHeartbeats 4000000 in
set_option maxRecDepth 100000 in
theorem w_X10_places_25 (C0 : CX cX10_places 3 (some .int) wsX10_places RX10 p s m args meth c D b0) {k4 : Nat → Int32 → Int32 → Option (Int32)} {res : Int32} (hk4 : ∀ (v0 : Nat) (v1 : Int32) (v2 : Int32), k4 v0 v1 v2 = some res → ∀ (H : Heap) (locs : List Loc) (ls : Array Slot), MM vwCl D b0 f sz s H → mS b0 s H locs → lv_has ls 3 [(0, .ref v0), (1, .int v1), (2, .int v2)] → W p l e ({ frames := 3, cells := 0, slots := 0, locals := 63 } : Room) s m args below meth c H locs 0 0 (MQ below (QW D b0 (some (.int res)) f sz) args s 0 0 (fun q => b0 ≤ q)) (F0 m 4 ls [])) : ∀ (v0 : Nat) (v2 : Int32) (t0 : Int32) (t1 : Int32), f_X10_places_25 k4 f v0 v2 t0 t1 = some res → ∀ (H : Heap) (locs : List Loc) (ls : Array Slot), MM vwCl D b0 f sz s H → mS b0 s H locs → lv_has ls 3 [(0, .ref v0), (2, .int v2)] → W p l e ({ frames := 3, cells := 0, slots := 0, locals := 63 } : Room) s m args below meth c H locs 0 0 (MQ below (QW D b0 (some (.int res)) f sz) args s 0 0 (fun q => b0 ≤ q)) (F0 m 25 ls [.int t1, .int t0]) := by
  obtain ⟨hx, hb, hr, hml, hown, hts, hlocks, hK⟩ := id C0
  intro v0 v2 t0 t1 h H locs ls hM hS hl
  unfold f_X10_places_25 at h
  refine lv_ior hx hb dX10_places_25 ?_
  refine lv_istore_n (lv' := [(1, .int (t0 ||| t1)), (0, .ref v0), (2, .int v2)]) hx hb dX10_places_26 rfl hl (by decide) rfl (fun ls hl => ?_)
  refine lv_iinc (v := (v2 + (1 : Int32))) (lv' := [(2, .int (v2 + (1 : Int32))), (1, .int (t0 ||| t1)), (0, .ref v0)]) hx hb dX10_places_27 hl (k := 2) rfl rfl (by decide) rfl (fun ls hl => ?_)
  refine lv_goto (tgt := 4) hx hb dX10_places_30 (by decide) ?_
  exact hk4 _ _ _ h _ _ _ hM hS (lv_sub hl [2, 1, 0] rfl)
set_option maxHeartbeats 4000000 in
set_option maxRecDepth 100000 in
theorem w_X10_places_4 (C0 : CX cX10_places 3 (some .int) wsX10_places RX10 p s m args meth c D b0) {res : Int32} : ∀ (n : Nat), ∀ (v0 : Nat) (v1 : Int32) (v2 : Int32), f_X10_places_4 f n v0 v1 v2 = some res → ∀ (H : Heap) (locs : List Loc) (ls : Array Slot), MM vwCl D b0 f sz s H → mS b0 s H locs → lv_has ls 3 [(0, .ref v0), (1, .int v1), (2, .int v2)] → W p l e ({ frames := 3, cells := 0, slots := 0, locals := 63 } : Room) s m args below meth c H locs 0 0 (MQ below (QW D b0 (some (.int res)) f sz) args s 0 0 (fun q => b0 ≤ q)) (F0 m 4 ls []) := by
  obtain ⟨hx, hb, hr, hml, hown, hts, hlocks, hK⟩ := id C0
  intro n
  induction n with
  | zero =>
    intro v0 v1 v2 h
    have h : (none : Option (Int32)) = some res := h
    cases h
  | succ n ih =>
    intro v0 v1 v2 h H locs ls hM hS hl
    rw [f_X10_places_4] at h
    refine lv_iload_n hx hb dX10_places_4 rfl (lv_at hl 2 rfl) ?_
    refine lv_iconst (v := (5 : Int32)) hx hb dX10_places_5 (by decide) ?_
    refine lv_icmp_ge (tgt := 33) hx hb dX10_places_6 (by decide) (fun c6 => ?_) (fun c6 => ?_)
    · replace h := o_t c6 h
      refine lv_iload_n hx hb dX10_places_33 rfl (lv_at hl 1 rfl) ?_
      replace h := Option.some.inj h; subst h
      exact W.iret hx hb hr (fun t ht hW => ⟨rfl, by rw [ht]; exact hM.moved hW.alike, hS.F ht⟩) hS.2.2 dX10_places_34
    replace h := o_f c6 h
    refine lv_iload_n hx hb dX10_places_9 rfl (lv_at hl 1 rfl) ?_
    refine lv_aload_n hx hb dX10_places_10 rfl (lv_at hl 0 rfl) ?_
    refine lv_iload_n hx hb dX10_places_11 rfl (lv_at hl 2 rfl) ?_
    replace h := o_b h; obtain ⟨_, k12, h⟩ := h
    replace h := o_b h; obtain ⟨q12, h12, h⟩ := h
    refine m_call (va_runV (As := [.int v2]) (rest := [.int v1]) ⟨hx, hb, hml, hown, hts⟩ (c_X10_noClaim l D b0 sz h12) (cwV 1 hts gX10_places_X10_noClaim rfl rfl rfl (by decide +kernel) ⟨Nat.le_of_ble_eq_true rfl, Nat.le_of_ble_eq_true rfl⟩) ⟨PW.blind, m_recv (ci := 10) rfl hK hM k12, (fun U hU hW => ⟨rfl, PW.call hK hM hS hU hW⟩)⟩ rfl rfl hl.1 rfl (lv_room (Nat.le_of_ble_eq_true rfl)) dX10_places_12 ⟨(Nat.le_refl _), (Nat.le_refl _)⟩) hS (fun H locs hM hS => ?_)
    refine lv_if_eq (tgt := 22) hx hb dX10_places_15 (by decide) (fun c15 => ?_) (fun c15 => ?_)
    · replace h := o_t c15 h
      refine lv_iconst (v := (1 : Int32)) hx hb dX10_places_22 (by decide) ?_
      refine lv_iload_n hx hb dX10_places_23 rfl (lv_at hl 2 rfl) ?_
      refine lv_ishl hx hb dX10_places_24 ?_
      exact w_X10_places_25 C0 ih _ _ _ _ h _ _ _ hM hS (lv_sub hl [0, 2] rfl)
    replace h := o_f c15 h
    refine lv_iconst (v := (0 : Int32)) hx hb dX10_places_18 (by decide) ?_
    refine lv_goto (tgt := 25) hx hb dX10_places_19 (by decide) ?_
    exact w_X10_places_25 C0 ih _ _ _ _ h _ _ _ hM hS (lv_sub hl [0, 2] rfl)
set_option maxHeartbeats 4000000 in
set_option maxRecDepth 100000 in
theorem w_X10_places (C0 : CX cX10_places 3 (some .int) wsX10_places RX10 p s m args meth c D b0) {v0 : Nat} {res : Int32} (h : f_X10_places v0 f = some res) : ∀ (H : Heap) (locs : List Loc) (ls : Array Slot), MM vwCl D b0 f sz s H → mS b0 s H locs → lv_has ls 3 [(0, .ref v0)] → W p l e ({ frames := 3, cells := 0, slots := 0, locals := 63 } : Room) s m args below meth c H locs 0 0 (MQ below (QW D b0 (some (.int res)) f sz) args s 0 0 (fun q => b0 ≤ q)) (F0 m 0 ls []) := by
  obtain ⟨hx, hb, hr, hml, hown, hts, hlocks, hK⟩ := id C0
  intro H locs ls hM hS hl
  unfold f_X10_places at h
  refine lv_iconst (v := (0 : Int32)) hx hb dX10_places_0 (by decide) ?_
  refine lv_istore_n (lv' := [(1, .int (0 : Int32)), (0, .ref v0)]) hx hb dX10_places_1 rfl hl (by decide) rfl (fun ls hl => ?_)
  refine lv_iconst (v := (0 : Int32)) hx hb dX10_places_2 (by decide) ?_
  refine lv_istore_n (lv' := [(2, .int (0 : Int32)), (1, .int (0 : Int32)), (0, .ref v0)]) hx hb dX10_places_3 rfl hl (by decide) rfl (fun ls hl => ?_)
  exact w_X10_places_4 C0 FU _ _ _ h _ _ _ hM hS (lv_sub hl [2, 1, 0] rfl)
set_option maxHeartbeats 4000000 in
set_option maxRecDepth 100000 in
theorem c_X10_places (l : Launch) (D : mmD) (b0 sz : Nat) {v0 : Nat} {f : mmF} {res : Int32} (h : f_X10_places v0 f = some res) : Met l yX10_places wsX10_places ({ frames := 3, cells := 0, slots := 0, locals := 63 } : Room) (va_Pc [.ref v0] (PW D b0 f sz)) (QW D b0 (some (.int res)) f sz) 0 0 (fun q => b0 ≤ q) := by
  refine Met.ofW (cc := cX10_places) (maxL := 3) (ret := (some .int)) (by decide) rfl ?_
  intro p e s m args below meth c s₁ B hml hv
  obtain ⟨rfl, hM, hK⟩ := hv
  have hl := lv_entry ([.ref v0]) (n := 3) (Nat.le_of_ble_eq_true rfl)
  rw [lg_entry_eq]
  generalize (lg_sl ([.ref v0]) ++ List.replicate (3 - (lg_sl ([.ref v0])).length) Slot.unset).toArray = ls at hl ⊢
  have hl : lv_has ls 3 [(0, .ref v0)] := hl
  exact w_X10_places ⟨B.exec, B.bytes, B.returns, hml, findClass_of_methodNamed B.named, atoms_spec (ws := wsX10_places) B.pre, B.notSynchronized, hK⟩ h s.heap [] ls hM va_S.rf hl
end S_X10_places
/-! X10_drop -/
set_option maxRecDepth 20000 in
theorem qi_X10_drop_X10 : ∀ w ∈ u_ws RX10 TX10 25, w ∈ wsX10_drop := by decide +kernel
set_option maxRecDepth 20000 in
theorem q_X10_drop_1 : Cond.fieldLink RX10 7 "StageTruthsModel" "now" "[I" ∈ wsX10_drop := by decide +kernel
noncomputable def f_X10_drop (v0 : Nat) (v1 : Int32) (f : mmF) : Option (Int32 × mmF) :=
  (ckO f v0 10).bind fun _ =>
  (f_X10_noClaim v0 v1 f).bind fun q2 =>
  if q2 = 0 then
  ((ckO f v0 10).bind fun _ =>
  (f_X10_record v0 f).bind fun q11 =>
  (ldR q11 v0 10 0).bind fun x15 =>
  (stA 0 q11 x15 ((17 : Int32) + ((31 : Int32) * v1)) (0 : Int32)).bind fun f26 =>
  (ckO f26 v0 10).bind fun _ =>
  (f_X10_places v0 f26).bind fun q28 =>
  (f_X10_bits q28 f26).bind fun q31 =>
  some (q31, f26))
  else
  some ((-1 : Int32), f)
section S_X10_drop
variable {p : Program} {l : Launch} {e : Env} {s : State} {m : MethodId} {args : Array Value} {below : List Frame} {meth : Method} {c : Code} {D : mmD} {b0 sz : Nat} {f : mmF}
set_option maxHeartbeats 4000000 in
set_option maxRecDepth 100000 in
theorem w_X10_drop (C0 : CX cX10_drop 2 (some .int) wsX10_drop RX10 p s m args meth c D b0) {v0 : Nat} {v1 : Int32} {res : Int32 × mmF} (h : f_X10_drop v0 v1 f = some res) : ∀ (H : Heap) (locs : List Loc) (ls : Array Slot), MM vwCl D b0 f sz s H → mS b0 s H locs → lv_has ls 2 [(0, .ref v0), (1, .int v1)] → W p l e ({ frames := 4, cells := 0, slots := 0, locals := 85 } : Room) s m args below meth c H locs 0 0 (MQ below (QW D b0 (some (.int res.1)) res.2 sz) args s 0 0 (fun q => b0 ≤ q)) (F0 m 0 ls []) := by
  obtain ⟨hx, hb, hr, hml, hown, hts, hlocks, hK⟩ := id C0
  intro H locs ls hM hS hl
  unfold f_X10_drop at h
  refine lv_aload_n hx hb dX10_drop_0 rfl (lv_at hl 0 rfl) ?_
  refine lv_iload_n hx hb dX10_drop_1 rfl (lv_at hl 1 rfl) ?_
  replace h := o_b h; obtain ⟨_, k2, h⟩ := h
  replace h := o_b h; obtain ⟨q2, h2, h⟩ := h
  refine m_call (va_runV (As := [.int v1]) (rest := []) ⟨hx, hb, hml, hown, hts⟩ (c_X10_noClaim l D b0 sz h2) (cwV 1 hts gX10_drop_X10_noClaim rfl rfl rfl (by decide +kernel) ⟨Nat.le_of_ble_eq_true rfl, Nat.le_of_ble_eq_true rfl⟩) ⟨PW.blind, m_recv (ci := 10) rfl hK hM k2, (fun U hU hW => ⟨rfl, PW.call hK hM hS hU hW⟩)⟩ rfl rfl hl.1 rfl (lv_room (Nat.le_of_ble_eq_true rfl)) dX10_drop_2 ⟨(Nat.le_refl _), (Nat.le_refl _)⟩) hS (fun H locs hM hS => ?_)
  refine lv_if_eq (tgt := 10) hx hb dX10_drop_5 (by decide) (fun c5 => ?_) (fun c5 => ?_)
  · replace h := o_t c5 h
    refine lv_aload_n hx hb dX10_drop_10 rfl (lv_at hl 0 rfl) ?_
    replace h := o_b h; obtain ⟨_, k11, h⟩ := h
    replace h := o_b h; obtain ⟨q11, h11, h⟩ := h
    refine m_call (va_runV (As := []) (rest := []) ⟨hx, hb, hml, hown, hts⟩ (c_X10_record l D b0 sz h11) (cwV 0 hts gX10_drop_X10_record rfl rfl rfl (by decide +kernel) ⟨Nat.le_of_ble_eq_true rfl, Nat.le_of_ble_eq_true rfl⟩) ⟨PW.blind, m_recv (ci := 10) rfl hK hM k11, (fun U hU hW => ⟨rfl, PW.call hK hM hS hU hW⟩)⟩ rfl rfl hl.1 rfl (lv_room (Nat.le_of_ble_eq_true rfl)) dX10_drop_11 ⟨(Nat.le_refl _), (Nat.le_refl _)⟩) hS (fun H locs hM hS => ?_)
    refine lv_aload_n hx hb dX10_drop_14 rfl (lv_at hl 0 rfl) ?_
    replace h := o_b h; obtain ⟨x15, h15, h⟩ := h
    refine m_get (C := RX10) (T := TX10) (N := 25) (ci := 10) hx hb hts qi_X10_drop_X10 hown hK.1 hM 0 (ldR_F h15) rfl (by decide) (hts _ q_X10_drop_1) (fun _ h9 => h9) dX10_drop_15 ?_
    refine lv_bipush (v := (17 : Int32)) hx hb dX10_drop_18 (by decide) ?_
    refine lv_bipush (v := (31 : Int32)) hx hb dX10_drop_20 (by decide) ?_
    refine lv_iload_n hx hb dX10_drop_22 rfl (lv_at hl 1 rfl) ?_
    refine lv_imul hx hb dX10_drop_23 ?_
    refine lv_iadd hx hb dX10_drop_24 ?_
    refine lv_iconst (v := (0 : Int32)) hx hb dX10_drop_25 (by decide) ?_
    replace h := o_b h; obtain ⟨f26, h26, h⟩ := h
    refine m_iast hx hb hK.1 hM hS rfl h26 dX10_drop_26 (fun H locs hM hS => ?_)
    refine lv_aload_n hx hb dX10_drop_27 rfl (lv_at hl 0 rfl) ?_
    replace h := o_b h; obtain ⟨_, k28, h⟩ := h
    replace h := o_b h; obtain ⟨q28, h28, h⟩ := h
    refine m_call (va_runV (As := []) (rest := []) ⟨hx, hb, hml, hown, hts⟩ (c_X10_places l D b0 sz h28) (cwV 0 hts gX10_drop_X10_places rfl rfl rfl (by decide +kernel) ⟨Nat.le_of_ble_eq_true rfl, Nat.le_of_ble_eq_true rfl⟩) ⟨PW.blind, m_recv (ci := 10) rfl hK hM k28, (fun U hU hW => ⟨rfl, PW.call hK hM hS hU hW⟩)⟩ rfl rfl hl.1 rfl (lv_room (Nat.le_of_ble_eq_true rfl)) dX10_drop_28 ⟨(Nat.le_refl _), (Nat.le_refl _)⟩) hS (fun H locs hM hS => ?_)
    replace h := o_b h; obtain ⟨q31, h31, h⟩ := h
    refine m_call (va_runS (As := [.int q28]) (rest := []) ⟨hx, hb, hml, hown, hts⟩ (c_X10_bits l D b0 sz h31) (va_cwS 1 hts gX10_drop_X10_bits rfl rfl rfl (by decide +kernel) ⟨Nat.le_of_ble_eq_true rfl, Nat.le_of_ble_eq_true rfl⟩) ⟨PW.blind, (fun U hU hW => ⟨rfl, PW.call hK hM hS hU hW⟩)⟩ rfl rfl hl.1 rfl (lv_room (Nat.le_of_ble_eq_true rfl)) dX10_drop_31 ⟨(Nat.le_refl _), (Nat.le_refl _)⟩) hS (fun H locs hM hS => ?_)
    replace h := Option.some.inj h; subst h
    exact W.iret hx hb hr (fun t ht hW => ⟨rfl, by rw [ht]; exact hM.moved hW.alike, hS.F ht⟩) hS.2.2 dX10_drop_34
  replace h := o_f c5 h
  refine lv_iconst (v := (-1 : Int32)) hx hb dX10_drop_8 (by decide) ?_
  replace h := Option.some.inj h; subst h
  exact W.iret hx hb hr (fun t ht hW => ⟨rfl, by rw [ht]; exact hM.moved hW.alike, hS.F ht⟩) hS.2.2 dX10_drop_9
set_option maxHeartbeats 4000000 in
set_option maxRecDepth 100000 in
theorem c_X10_drop (l : Launch) (D : mmD) (b0 sz : Nat) {v0 : Nat} {v1 : Int32} {f : mmF} {res : Int32 × mmF} (h : f_X10_drop v0 v1 f = some res) : Met l yX10_drop wsX10_drop ({ frames := 4, cells := 0, slots := 0, locals := 85 } : Room) (va_Pc [.ref v0, .int v1] (PW D b0 f sz)) (QW D b0 (some (.int res.1)) res.2 sz) 0 0 (fun q => b0 ≤ q) := by
  refine Met.ofW (cc := cX10_drop) (maxL := 2) (ret := (some .int)) (by decide) rfl ?_
  intro p e s m args below meth c s₁ B hml hv
  obtain ⟨rfl, hM, hK⟩ := hv
  have hl := lv_entry ([.ref v0, .int v1]) (n := 2) (Nat.le_of_ble_eq_true rfl)
  rw [lg_entry_eq]
  generalize (lg_sl ([.ref v0, .int v1]) ++ List.replicate (2 - (lg_sl ([.ref v0, .int v1])).length) Slot.unset).toArray = ls at hl ⊢
  have hl : lv_has ls 2 [(0, .ref v0), (1, .int v1)] := hl
  exact w_X10_drop ⟨B.exec, B.bytes, B.returns, hml, findClass_of_methodNamed B.named, atoms_spec (ws := wsX10_drop) B.pre, B.notSynchronized, hK⟩ h s.heap [] ls hM va_S.rf hl
end S_X10_drop
/-! X10_takes -/
set_option maxRecDepth 20000 in
theorem qi_X10_takes_X10 : ∀ w ∈ u_ws RX10 TX10 25, w ∈ wsX10_takes := by decide +kernel
set_option maxRecDepth 20000 in
theorem q_X10_takes_1 : Cond.fieldLink RX10 7 "StageTruthsModel" "now" "[I" ∈ wsX10_takes := by decide +kernel
noncomputable def f_X10_takes_10   : Nat → Nat → Int32 → Int32 → mmF → Option (mmF)
  | 0, _, _, _, _ => none
  | n + 1, v0, v2, v3, f =>
    (ldR f v0 10 0).bind fun x12 =>
    (ldA 0 f x12 v2).bind fun x16 =>
    if x16 < v3 then
    (some (f))
    else
    (ldR f v0 10 0).bind fun x22 =>
    (ldA 0 f x22 (v2 + v3)).bind fun x28 =>
    (ckO f v0 10).bind fun _ =>
    (f_X10_puts v0 x28 f).bind fun q29 =>
    f_X10_takes_10 n v0 v2 (v3 + (1 : Int32)) q29
noncomputable def f_X10_takes (v0 : Nat) (v1 : Int32) (f : mmF) : Option (mmF) :=
  f_X10_takes_10 FU v0 ((17 : Int32) + ((31 : Int32) * v1)) (1 : Int32) f
section S_X10_takes
variable {p : Program} {l : Launch} {e : Env} {s : State} {m : MethodId} {args : Array Value} {below : List Frame} {meth : Method} {c : Code} {D : mmD} {b0 sz : Nat} {f : mmF}
set_option maxHeartbeats 4000000 in
set_option maxRecDepth 100000 in
theorem w_X10_takes_10 (C0 : CX cX10_takes 4 none wsX10_takes RX10 p s m args meth c D b0) {res : mmF} : ∀ (n : Nat), ∀ (v0 : Nat) (v2 : Int32) (v3 : Int32) (f : mmF), f_X10_takes_10 n v0 v2 v3 f = some res → ∀ (H : Heap) (locs : List Loc) (ls : Array Slot), MM vwCl D b0 f sz s H → mS b0 s H locs → lv_has ls 4 [(0, .ref v0), (2, .int v2), (3, .int v3)] → W p l e ({ frames := 1, cells := 0, slots := 0, locals := 21 } : Room) s m args below meth c H locs 0 0 (MQ below (QW D b0 none res sz) args s 0 0 (fun q => b0 ≤ q)) (F0 m 10 ls []) := by
  obtain ⟨hx, hb, hr, hml, hown, hts, hlocks, hK⟩ := id C0
  intro n
  induction n with
  | zero =>
    intro v0 v2 v3 f h
    have h : (none : Option (mmF)) = some res := h
    cases h
  | succ n ih =>
    intro v0 v2 v3 f h H locs ls hM hS hl
    rw [f_X10_takes_10] at h
    refine lv_iload_n hx hb dX10_takes_10 rfl (lv_at hl 2 rfl) ?_
    refine lv_aload_n hx hb dX10_takes_11 rfl (lv_at hl 0 rfl) ?_
    replace h := o_b h; obtain ⟨x12, h12, h⟩ := h
    refine m_get (C := RX10) (T := TX10) (N := 25) (ci := 10) hx hb hts qi_X10_takes_X10 hown hK.1 hM 0 (ldR_F h12) rfl (by decide) (hts _ q_X10_takes_1) (fun _ h9 => h9) dX10_takes_12 ?_
    refine lv_iload_n hx hb dX10_takes_15 rfl (lv_at hl 1 rfl) ?_
    replace h := o_b h; obtain ⟨x16, h16, h⟩ := h
    refine m_iald hx hb hK.1 hM hS rfl h16 dX10_takes_16 ?_
    refine lv_icmp_gt (tgt := 38) hx hb dX10_takes_17 (by decide) (fun c17 => ?_) (fun c17 => ?_)
    · replace h := o_t c17 h
      replace h := Option.some.inj h; subst h
      exact W.vret hx hb hr (fun t ht hW => ⟨rfl, by rw [ht]; exact hM.moved hW.alike, hS.F ht⟩) hS.2.2 dX10_takes_38
    replace h := o_f c17 h
    refine lv_aload_n hx hb dX10_takes_20 rfl (lv_at hl 0 rfl) ?_
    refine lv_aload_n hx hb dX10_takes_21 rfl (lv_at hl 0 rfl) ?_
    replace h := o_b h; obtain ⟨x22, h22, h⟩ := h
    refine m_get (C := RX10) (T := TX10) (N := 25) (ci := 10) hx hb hts qi_X10_takes_X10 hown hK.1 hM 0 (ldR_F h22) rfl (by decide) (hts _ q_X10_takes_1) (fun _ h9 => h9) dX10_takes_22 ?_
    refine lv_iload_n hx hb dX10_takes_25 rfl (lv_at hl 1 rfl) ?_
    refine lv_iload_n hx hb dX10_takes_26 rfl (lv_at hl 2 rfl) ?_
    refine lv_iadd hx hb dX10_takes_27 ?_
    replace h := o_b h; obtain ⟨x28, h28, h⟩ := h
    refine m_iald hx hb hK.1 hM hS rfl h28 dX10_takes_28 ?_
    replace h := o_b h; obtain ⟨_, k29, h⟩ := h
    replace h := o_b h; obtain ⟨q29, h29, h⟩ := h
    refine m_call (va_runV (As := [.int x28]) (rest := []) ⟨hx, hb, hml, hown, hts⟩ (c_X10_puts l D b0 sz h29) (cwV 1 hts gX10_takes_X10_puts rfl rfl rfl (by decide +kernel) ⟨Nat.le_of_ble_eq_true rfl, Nat.le_of_ble_eq_true rfl⟩) ⟨PW.blind, m_recv (ci := 10) rfl hK hM k29, (fun U hU hW => ⟨rfl, PW.call hK hM hS hU hW⟩)⟩ rfl rfl hl.1 rfl (lv_room (Nat.le_of_ble_eq_true rfl)) dX10_takes_29 ⟨(Nat.le_refl _), (Nat.le_refl _)⟩) hS (fun H locs hM hS => ?_)
    refine lv_iinc (v := (v3 + (1 : Int32))) (lv' := [(3, .int (v3 + (1 : Int32))), (0, .ref v0), (2, .int v2)]) hx hb dX10_takes_32 hl (k := 2) rfl rfl (by decide) rfl (fun ls hl => ?_)
    refine lv_goto (tgt := 10) hx hb dX10_takes_35 (by decide) ?_
    exact ih _ _ _ _ h _ _ _ hM hS (lv_sub hl [1, 2, 0] rfl)
set_option maxHeartbeats 4000000 in
set_option maxRecDepth 100000 in
theorem w_X10_takes (C0 : CX cX10_takes 4 none wsX10_takes RX10 p s m args meth c D b0) {v0 : Nat} {v1 : Int32} {res : mmF} (h : f_X10_takes v0 v1 f = some res) : ∀ (H : Heap) (locs : List Loc) (ls : Array Slot), MM vwCl D b0 f sz s H → mS b0 s H locs → lv_has ls 4 [(0, .ref v0), (1, .int v1)] → W p l e ({ frames := 1, cells := 0, slots := 0, locals := 21 } : Room) s m args below meth c H locs 0 0 (MQ below (QW D b0 none res sz) args s 0 0 (fun q => b0 ≤ q)) (F0 m 0 ls []) := by
  obtain ⟨hx, hb, hr, hml, hown, hts, hlocks, hK⟩ := id C0
  intro H locs ls hM hS hl
  unfold f_X10_takes at h
  refine lv_bipush (v := (17 : Int32)) hx hb dX10_takes_0 (by decide) ?_
  refine lv_bipush (v := (31 : Int32)) hx hb dX10_takes_2 (by decide) ?_
  refine lv_iload_n hx hb dX10_takes_4 rfl (lv_at hl 1 rfl) ?_
  refine lv_imul hx hb dX10_takes_5 ?_
  refine lv_iadd hx hb dX10_takes_6 ?_
  refine lv_istore_n (lv' := [(2, .int ((17 : Int32) + ((31 : Int32) * v1))), (0, .ref v0), (1, .int v1)]) hx hb dX10_takes_7 rfl hl (by decide) rfl (fun ls hl => ?_)
  refine lv_iconst (v := (1 : Int32)) hx hb dX10_takes_8 (by decide) ?_
  refine lv_istore_n (lv' := [(3, .int (1 : Int32)), (2, .int ((17 : Int32) + ((31 : Int32) * v1))), (0, .ref v0), (1, .int v1)]) hx hb dX10_takes_9 rfl hl (by decide) rfl (fun ls hl => ?_)
  exact w_X10_takes_10 C0 FU _ _ _ _ h _ _ _ hM hS (lv_sub hl [2, 1, 0] rfl)
set_option maxHeartbeats 4000000 in
set_option maxRecDepth 100000 in
theorem c_X10_takes (l : Launch) (D : mmD) (b0 sz : Nat) {v0 : Nat} {v1 : Int32} {f : mmF} {res : mmF} (h : f_X10_takes v0 v1 f = some res) : Met l yX10_takes wsX10_takes ({ frames := 1, cells := 0, slots := 0, locals := 21 } : Room) (va_Pc [.ref v0, .int v1] (PW D b0 f sz)) (QW D b0 none res sz) 0 0 (fun q => b0 ≤ q) := by
  refine Met.ofW (cc := cX10_takes) (maxL := 4) (ret := none) (by decide) rfl ?_
  intro p e s m args below meth c s₁ B hml hv
  obtain ⟨rfl, hM, hK⟩ := hv
  have hl := lv_entry ([.ref v0, .int v1]) (n := 4) (Nat.le_of_ble_eq_true rfl)
  rw [lg_entry_eq]
  generalize (lg_sl ([.ref v0, .int v1]) ++ List.replicate (4 - (lg_sl ([.ref v0, .int v1])).length) Slot.unset).toArray = ls at hl ⊢
  have hl : lv_has ls 4 [(0, .ref v0), (1, .int v1)] := hl
  exact w_X10_takes ⟨B.exec, B.bytes, B.returns, hml, findClass_of_methodNamed B.named, atoms_spec (ws := wsX10_takes) B.pre, B.notSynchronized, hK⟩ h s.heap [] ls hM va_S.rf hl
end S_X10_takes
/-! X10_join -/
set_option maxRecDepth 20000 in
theorem qi_X10_join_X10 : ∀ w ∈ u_ws RX10 TX10 25, w ∈ wsX10_join := by decide +kernel
set_option maxRecDepth 20000 in
theorem q_X10_join_1 : Cond.fieldLink RX10 7 "StageTruthsModel" "now" "[I" ∈ wsX10_join := by decide +kernel
set_option maxRecDepth 20000 in
theorem q_X10_join_2 : Cond.fieldLink RX10 122 "StageTruthsModel" "length" "I" ∈ wsX10_join := by decide +kernel
noncomputable def f_X10_join (v0 : Nat) (v1 : Int32) (v2 : Int32) (v3 : Int32) (v4 : Int32) (f : mmF) : Option (Int32 × mmF) :=
  (f_X10_noPlace v1 f).bind fun q1 =>
  if q1 = 0 then
  ((ckO f v0 10).bind fun _ =>
  (f_X10_noClaim v0 v2 f).bind fun q9 =>
  if q9 = 0 then
  ((ckO f v0 10).bind fun _ =>
  (f_X10_noClaim v0 v4 f).bind fun q18 =>
  if q18 = 0 then
  ((f_X10_in v3 (0 : Int32) (2 : Int32) f).bind fun q29 =>
  if q29 = 0 then
  (some ((-2 : Int32), f))
  else
  (ldR f v0 10 0).bind fun x39 =>
  (ldA 0 f x39 ((17 : Int32) + ((31 : Int32) * v2))).bind fun x49 =>
  (ldR f v0 10 0).bind fun x51 =>
  (ldA 0 f x51 ((17 : Int32) + ((31 : Int32) * v4))).bind fun x62 =>
  if ((x49 + x62) + (1 : Int32)) ≤ (24 : Int32) then
  ((ckO f v0 10).bind fun _ =>
  (f_X10_record v0 f).bind fun q75 =>
  (stF q75 v0 10 11 (.int (0 : Int32))).bind fun f80 =>
  (ckO f80 v0 10).bind fun _ =>
  (f_X10_takes v0 v2 f80).bind fun q85 =>
  (ckO q85 v0 10).bind fun _ =>
  (f_X10_takes v0 v4 q85).bind fun q91 =>
  (ckO q91 v0 10).bind fun _ =>
  (f_X10_puts v0 ((7 : Int32) + v3) q91).bind fun q99 =>
  (ckO q99 v0 10).bind fun _ =>
  (f_X10_lays v0 v1 q99).bind fun q104 =>
  (ckO q104 v0 10).bind fun _ =>
  (f_X10_holding v0 v1 q104).bind fun q109 =>
  some (q109.1, q109.2))
  else
  some ((-4 : Int32), f))
  else
  some ((-1 : Int32), f))
  else
  some ((-1 : Int32), f))
  else
  some ((-1 : Int32), f)
section S_X10_join
variable {p : Program} {l : Launch} {e : Env} {s : State} {m : MethodId} {args : Array Value} {below : List Frame} {meth : Method} {c : Code} {D : mmD} {b0 sz : Nat} {f : mmF}
set_option maxHeartbeats 4000000 in
set_option maxRecDepth 100000 in
theorem w_X10_join (C0 : CX cX10_join 5 (some .int) wsX10_join RX10 p s m args meth c D b0) {v0 : Nat} {v1 : Int32} {v2 : Int32} {v3 : Int32} {v4 : Int32} {res : Int32 × mmF} (h : f_X10_join v0 v1 v2 v3 v4 f = some res) : ∀ (H : Heap) (locs : List Loc) (ls : Array Slot), MM vwCl D b0 f sz s H → mS b0 s H locs → lv_has ls 5 [(0, .ref v0), (1, .int v1), (2, .int v2), (3, .int v3), (4, .int v4)] → W p l e ({ frames := 3, cells := 0, slots := 0, locals := 63 } : Room) s m args below meth c H locs 0 0 (MQ below (QW D b0 (some (.int res.1)) res.2 sz) args s 0 0 (fun q => b0 ≤ q)) (F0 m 0 ls []) := by
  obtain ⟨hx, hb, hr, hml, hown, hts, hlocks, hK⟩ := id C0
  intro H locs ls hM hS hl
  unfold f_X10_join at h
  refine lv_iload_n hx hb dX10_join_0 rfl (lv_at hl 1 rfl) ?_
  replace h := o_b h; obtain ⟨q1, h1, h⟩ := h
  refine m_call (va_runS (As := [.int v1]) (rest := []) ⟨hx, hb, hml, hown, hts⟩ (c_X10_noPlace l D b0 sz h1) (va_cwS 1 hts gX10_join_X10_noPlace rfl rfl rfl (by decide +kernel) ⟨Nat.le_of_ble_eq_true rfl, Nat.le_of_ble_eq_true rfl⟩) ⟨PW.blind, (fun U hU hW => ⟨rfl, PW.call hK hM hS hU hW⟩)⟩ rfl rfl hl.1 rfl (lv_room (Nat.le_of_ble_eq_true rfl)) dX10_join_1 ⟨(Nat.le_refl _), (Nat.le_refl _)⟩) hS (fun H locs hM hS => ?_)
  refine lv_if_ne (tgt := 24) hx hb dX10_join_4 (by decide) (fun c4 => ?_) (fun c4 => ?_)
  · replace h := o_f c4 h
    refine lv_iconst (v := (-1 : Int32)) hx hb dX10_join_24 (by decide) ?_
    replace h := Option.some.inj h; subst h
    exact W.iret hx hb hr (fun t ht hW => ⟨rfl, by rw [ht]; exact hM.moved hW.alike, hS.F ht⟩) hS.2.2 dX10_join_25
  replace h := o_t c4 h
  refine lv_aload_n hx hb dX10_join_7 rfl (lv_at hl 0 rfl) ?_
  refine lv_iload_n hx hb dX10_join_8 rfl (lv_at hl 2 rfl) ?_
  replace h := o_b h; obtain ⟨_, k9, h⟩ := h
  replace h := o_b h; obtain ⟨q9, h9, h⟩ := h
  refine m_call (va_runV (As := [.int v2]) (rest := []) ⟨hx, hb, hml, hown, hts⟩ (c_X10_noClaim l D b0 sz h9) (cwV 1 hts gX10_join_X10_noClaim rfl rfl rfl (by decide +kernel) ⟨Nat.le_of_ble_eq_true rfl, Nat.le_of_ble_eq_true rfl⟩) ⟨PW.blind, m_recv (ci := 10) rfl hK hM k9, (fun U hU hW => ⟨rfl, PW.call hK hM hS hU hW⟩)⟩ rfl rfl hl.1 rfl (lv_room (Nat.le_of_ble_eq_true rfl)) dX10_join_9 ⟨(Nat.le_refl _), (Nat.le_refl _)⟩) hS (fun H locs hM hS => ?_)
  refine lv_if_ne (tgt := 24) hx hb dX10_join_12 (by decide) (fun c12 => ?_) (fun c12 => ?_)
  · replace h := o_f c12 h
    refine lv_iconst (v := (-1 : Int32)) hx hb dX10_join_24 (by decide) ?_
    replace h := Option.some.inj h; subst h
    exact W.iret hx hb hr (fun t ht hW => ⟨rfl, by rw [ht]; exact hM.moved hW.alike, hS.F ht⟩) hS.2.2 dX10_join_25
  replace h := o_t c12 h
  refine lv_aload_n hx hb dX10_join_15 rfl (lv_at hl 0 rfl) ?_
  refine lv_iload hx hb dX10_join_16 (lv_at hl 4 rfl) ?_
  replace h := o_b h; obtain ⟨_, k18, h⟩ := h
  replace h := o_b h; obtain ⟨q18, h18, h⟩ := h
  refine m_call (va_runV (As := [.int v4]) (rest := []) ⟨hx, hb, hml, hown, hts⟩ (c_X10_noClaim l D b0 sz h18) (cwV 1 hts gX10_join_X10_noClaim rfl rfl rfl (by decide +kernel) ⟨Nat.le_of_ble_eq_true rfl, Nat.le_of_ble_eq_true rfl⟩) ⟨PW.blind, m_recv (ci := 10) rfl hK hM k18, (fun U hU hW => ⟨rfl, PW.call hK hM hS hU hW⟩)⟩ rfl rfl hl.1 rfl (lv_room (Nat.le_of_ble_eq_true rfl)) dX10_join_18 ⟨(Nat.le_refl _), (Nat.le_refl _)⟩) hS (fun H locs hM hS => ?_)
  refine lv_if_eq (tgt := 26) hx hb dX10_join_21 (by decide) (fun c21 => ?_) (fun c21 => ?_)
  · replace h := o_t c21 h
    refine lv_iload_n hx hb dX10_join_26 rfl (lv_at hl 3 rfl) ?_
    refine lv_iconst (v := (0 : Int32)) hx hb dX10_join_27 (by decide) ?_
    refine lv_iconst (v := (2 : Int32)) hx hb dX10_join_28 (by decide) ?_
    replace h := o_b h; obtain ⟨q29, h29, h⟩ := h
    refine m_call (va_runS (As := [.int v3, .int (0 : Int32), .int (2 : Int32)]) (rest := []) ⟨hx, hb, hml, hown, hts⟩ (c_X10_in l D b0 sz h29) (va_cwS 3 hts gX10_join_X10_in rfl rfl rfl (by decide +kernel) ⟨Nat.le_of_ble_eq_true rfl, Nat.le_of_ble_eq_true rfl⟩) ⟨PW.blind, (fun U hU hW => ⟨rfl, PW.call hK hM hS hU hW⟩)⟩ rfl rfl hl.1 rfl (lv_room (Nat.le_of_ble_eq_true rfl)) dX10_join_29 ⟨(Nat.le_refl _), (Nat.le_refl _)⟩) hS (fun H locs hM hS => ?_)
    refine lv_if_ne (tgt := 38) hx hb dX10_join_32 (by decide) (fun c32 => ?_) (fun c32 => ?_)
    · replace h := o_f c32 h
      refine lv_aload_n hx hb dX10_join_38 rfl (lv_at hl 0 rfl) ?_
      replace h := o_b h; obtain ⟨x39, h39, h⟩ := h
      refine m_get (C := RX10) (T := TX10) (N := 25) (ci := 10) hx hb hts qi_X10_join_X10 hown hK.1 hM 0 (ldR_F h39) rfl (by decide) (hts _ q_X10_join_1) (fun _ h9 => h9) dX10_join_39 ?_
      refine lv_bipush (v := (17 : Int32)) hx hb dX10_join_42 (by decide) ?_
      refine lv_bipush (v := (31 : Int32)) hx hb dX10_join_44 (by decide) ?_
      refine lv_iload_n hx hb dX10_join_46 rfl (lv_at hl 2 rfl) ?_
      refine lv_imul hx hb dX10_join_47 ?_
      refine lv_iadd hx hb dX10_join_48 ?_
      replace h := o_b h; obtain ⟨x49, h49, h⟩ := h
      refine m_iald hx hb hK.1 hM hS rfl h49 dX10_join_49 ?_
      refine lv_aload_n hx hb dX10_join_50 rfl (lv_at hl 0 rfl) ?_
      replace h := o_b h; obtain ⟨x51, h51, h⟩ := h
      refine m_get (C := RX10) (T := TX10) (N := 25) (ci := 10) hx hb hts qi_X10_join_X10 hown hK.1 hM 0 (ldR_F h51) rfl (by decide) (hts _ q_X10_join_1) (fun _ h9 => h9) dX10_join_51 ?_
      refine lv_bipush (v := (17 : Int32)) hx hb dX10_join_54 (by decide) ?_
      refine lv_bipush (v := (31 : Int32)) hx hb dX10_join_56 (by decide) ?_
      refine lv_iload hx hb dX10_join_58 (lv_at hl 4 rfl) ?_
      refine lv_imul hx hb dX10_join_60 ?_
      refine lv_iadd hx hb dX10_join_61 ?_
      replace h := o_b h; obtain ⟨x62, h62, h⟩ := h
      refine m_iald hx hb hK.1 hM hS rfl h62 dX10_join_62 ?_
      refine lv_iadd hx hb dX10_join_63 ?_
      refine lv_iconst (v := (1 : Int32)) hx hb dX10_join_64 (by decide) ?_
      refine lv_iadd hx hb dX10_join_65 ?_
      refine lv_bipush (v := (24 : Int32)) hx hb dX10_join_66 (by decide) ?_
      refine lv_icmp_le (tgt := 74) hx hb dX10_join_68 (by decide) (fun c68 => ?_) (fun c68 => ?_)
      · replace h := o_t c68 h
        refine lv_aload_n hx hb dX10_join_74 rfl (lv_at hl 0 rfl) ?_
        replace h := o_b h; obtain ⟨_, k75, h⟩ := h
        replace h := o_b h; obtain ⟨q75, h75, h⟩ := h
        refine m_call (va_runV (As := []) (rest := []) ⟨hx, hb, hml, hown, hts⟩ (c_X10_record l D b0 sz h75) (cwV 0 hts gX10_join_X10_record rfl rfl rfl (by decide +kernel) ⟨Nat.le_of_ble_eq_true rfl, Nat.le_of_ble_eq_true rfl⟩) ⟨PW.blind, m_recv (ci := 10) rfl hK hM k75, (fun U hU hW => ⟨rfl, PW.call hK hM hS hU hW⟩)⟩ rfl rfl hl.1 rfl (lv_room (Nat.le_of_ble_eq_true rfl)) dX10_join_75 ⟨(Nat.le_refl _), (Nat.le_refl _)⟩) hS (fun H locs hM hS => ?_)
        refine lv_aload_n hx hb dX10_join_78 rfl (lv_at hl 0 rfl) ?_
        refine lv_iconst (v := (0 : Int32)) hx hb dX10_join_79 (by decide) ?_
        replace h := o_b h; obtain ⟨f80, h80, h⟩ := h
        refine m_put (ty := .int) (C := RX10) (T := TX10) (N := 25) (ci := 10) hx hb hts qi_X10_join_X10 tyX10 tyX10_ok nmX10 hown hK.1 hM hS 11 h80 rfl (by decide) (hts _ q_X10_join_2) (fun _ h9 => h9) rfl (by decide +kernel) rfl rfl dX10_join_80 (fun H locs hM hS => ?_)
        refine lv_aload_n hx hb dX10_join_83 rfl (lv_at hl 0 rfl) ?_
        refine lv_iload_n hx hb dX10_join_84 rfl (lv_at hl 2 rfl) ?_
        replace h := o_b h; obtain ⟨_, k85, h⟩ := h
        replace h := o_b h; obtain ⟨q85, h85, h⟩ := h
        refine m_call (va_runV (As := [.int v2]) (rest := []) ⟨hx, hb, hml, hown, hts⟩ (c_X10_takes l D b0 sz h85) (cwV 1 hts gX10_join_X10_takes rfl rfl rfl (by decide +kernel) ⟨Nat.le_of_ble_eq_true rfl, Nat.le_of_ble_eq_true rfl⟩) ⟨PW.blind, m_recv (ci := 10) rfl hK hM k85, (fun U hU hW => ⟨rfl, PW.call hK hM hS hU hW⟩)⟩ rfl rfl hl.1 rfl (lv_room (Nat.le_of_ble_eq_true rfl)) dX10_join_85 ⟨(Nat.le_refl _), (Nat.le_refl _)⟩) hS (fun H locs hM hS => ?_)
        refine lv_aload_n hx hb dX10_join_88 rfl (lv_at hl 0 rfl) ?_
        refine lv_iload hx hb dX10_join_89 (lv_at hl 4 rfl) ?_
        replace h := o_b h; obtain ⟨_, k91, h⟩ := h
        replace h := o_b h; obtain ⟨q91, h91, h⟩ := h
        refine m_call (va_runV (As := [.int v4]) (rest := []) ⟨hx, hb, hml, hown, hts⟩ (c_X10_takes l D b0 sz h91) (cwV 1 hts gX10_join_X10_takes rfl rfl rfl (by decide +kernel) ⟨Nat.le_of_ble_eq_true rfl, Nat.le_of_ble_eq_true rfl⟩) ⟨PW.blind, m_recv (ci := 10) rfl hK hM k91, (fun U hU hW => ⟨rfl, PW.call hK hM hS hU hW⟩)⟩ rfl rfl hl.1 rfl (lv_room (Nat.le_of_ble_eq_true rfl)) dX10_join_91 ⟨(Nat.le_refl _), (Nat.le_refl _)⟩) hS (fun H locs hM hS => ?_)
        refine lv_aload_n hx hb dX10_join_94 rfl (lv_at hl 0 rfl) ?_
        refine lv_bipush (v := (7 : Int32)) hx hb dX10_join_95 (by decide) ?_
        refine lv_iload_n hx hb dX10_join_97 rfl (lv_at hl 3 rfl) ?_
        refine lv_iadd hx hb dX10_join_98 ?_
        replace h := o_b h; obtain ⟨_, k99, h⟩ := h
        replace h := o_b h; obtain ⟨q99, h99, h⟩ := h
        refine m_call (va_runV (As := [.int ((7 : Int32) + v3)]) (rest := []) ⟨hx, hb, hml, hown, hts⟩ (c_X10_puts l D b0 sz h99) (cwV 1 hts gX10_join_X10_puts rfl rfl rfl (by decide +kernel) ⟨Nat.le_of_ble_eq_true rfl, Nat.le_of_ble_eq_true rfl⟩) ⟨PW.blind, m_recv (ci := 10) rfl hK hM k99, (fun U hU hW => ⟨rfl, PW.call hK hM hS hU hW⟩)⟩ rfl rfl hl.1 rfl (lv_room (Nat.le_of_ble_eq_true rfl)) dX10_join_99 ⟨(Nat.le_refl _), (Nat.le_refl _)⟩) hS (fun H locs hM hS => ?_)
        refine lv_aload_n hx hb dX10_join_102 rfl (lv_at hl 0 rfl) ?_
        refine lv_iload_n hx hb dX10_join_103 rfl (lv_at hl 1 rfl) ?_
        replace h := o_b h; obtain ⟨_, k104, h⟩ := h
        replace h := o_b h; obtain ⟨q104, h104, h⟩ := h
        refine m_call (va_runV (As := [.int v1]) (rest := []) ⟨hx, hb, hml, hown, hts⟩ (c_X10_lays l D b0 sz h104) (cwV 1 hts gX10_join_X10_lays rfl rfl rfl (by decide +kernel) ⟨Nat.le_of_ble_eq_true rfl, Nat.le_of_ble_eq_true rfl⟩) ⟨PW.blind, m_recv (ci := 10) rfl hK hM k104, (fun U hU hW => ⟨rfl, PW.call hK hM hS hU hW⟩)⟩ rfl rfl hl.1 rfl (lv_room (Nat.le_of_ble_eq_true rfl)) dX10_join_104 ⟨(Nat.le_refl _), (Nat.le_refl _)⟩) hS (fun H locs hM hS => ?_)
        refine lv_aload_n hx hb dX10_join_107 rfl (lv_at hl 0 rfl) ?_
        refine lv_iload_n hx hb dX10_join_108 rfl (lv_at hl 1 rfl) ?_
        replace h := o_b h; obtain ⟨_, k109, h⟩ := h
        replace h := o_b h; obtain ⟨q109, h109, h⟩ := h
        refine m_call (va_runV (As := [.int v1]) (rest := []) ⟨hx, hb, hml, hown, hts⟩ (c_X10_holding l D b0 sz h109) (cwV 1 hts gX10_join_X10_holding rfl rfl rfl (by decide +kernel) ⟨Nat.le_of_ble_eq_true rfl, Nat.le_of_ble_eq_true rfl⟩) ⟨PW.blind, m_recv (ci := 10) rfl hK hM k109, (fun U hU hW => ⟨rfl, PW.call hK hM hS hU hW⟩)⟩ rfl rfl hl.1 rfl (lv_room (Nat.le_of_ble_eq_true rfl)) dX10_join_109 ⟨(Nat.le_refl _), (Nat.le_refl _)⟩) hS (fun H locs hM hS => ?_)
        replace h := Option.some.inj h; subst h
        exact W.iret hx hb hr (fun t ht hW => ⟨rfl, by rw [ht]; exact hM.moved hW.alike, hS.F ht⟩) hS.2.2 dX10_join_112
      replace h := o_f c68 h
      refine lv_bipush (v := (-4 : Int32)) hx hb dX10_join_71 (by decide) ?_
      replace h := Option.some.inj h; subst h
      exact W.iret hx hb hr (fun t ht hW => ⟨rfl, by rw [ht]; exact hM.moved hW.alike, hS.F ht⟩) hS.2.2 dX10_join_73
    replace h := o_t c32 h
    refine lv_bipush (v := (-2 : Int32)) hx hb dX10_join_35 (by decide) ?_
    replace h := Option.some.inj h; subst h
    exact W.iret hx hb hr (fun t ht hW => ⟨rfl, by rw [ht]; exact hM.moved hW.alike, hS.F ht⟩) hS.2.2 dX10_join_37
  replace h := o_f c21 h
  refine lv_iconst (v := (-1 : Int32)) hx hb dX10_join_24 (by decide) ?_
  replace h := Option.some.inj h; subst h
  exact W.iret hx hb hr (fun t ht hW => ⟨rfl, by rw [ht]; exact hM.moved hW.alike, hS.F ht⟩) hS.2.2 dX10_join_25
set_option maxHeartbeats 4000000 in
set_option maxRecDepth 100000 in
theorem c_X10_join (l : Launch) (D : mmD) (b0 sz : Nat) {v0 : Nat} {v1 : Int32} {v2 : Int32} {v3 : Int32} {v4 : Int32} {f : mmF} {res : Int32 × mmF} (h : f_X10_join v0 v1 v2 v3 v4 f = some res) : Met l yX10_join wsX10_join ({ frames := 3, cells := 0, slots := 0, locals := 63 } : Room) (va_Pc [.ref v0, .int v1, .int v2, .int v3, .int v4] (PW D b0 f sz)) (QW D b0 (some (.int res.1)) res.2 sz) 0 0 (fun q => b0 ≤ q) := by
  refine Met.ofW (cc := cX10_join) (maxL := 5) (ret := (some .int)) (by decide) rfl ?_
  intro p e s m args below meth c s₁ B hml hv
  obtain ⟨rfl, hM, hK⟩ := hv
  have hl := lv_entry ([.ref v0, .int v1, .int v2, .int v3, .int v4]) (n := 5) (Nat.le_of_ble_eq_true rfl)
  rw [lg_entry_eq]
  generalize (lg_sl ([.ref v0, .int v1, .int v2, .int v3, .int v4]) ++ List.replicate (5 - (lg_sl ([.ref v0, .int v1, .int v2, .int v3, .int v4])).length) Slot.unset).toArray = ls at hl ⊢
  have hl : lv_has ls 5 [(0, .ref v0), (1, .int v1), (2, .int v2), (3, .int v3), (4, .int v4)] := hl
  exact w_X10_join ⟨B.exec, B.bytes, B.returns, hml, findClass_of_methodNamed B.named, atoms_spec (ws := wsX10_join) B.pre, B.notSynchronized, hK⟩ h s.heap [] ls hM va_S.rf hl
end S_X10_join
/-! X10_wordsOf -/
noncomputable def f_X10_wordsOf (v0 : Int32) (f : mmF) : Option (Int32) :=
  if v0 = 0 then
  (some ((1 : Int32)))
  else
  if v0 = (1 : Int32) then
  (some ((3 : Int32)))
  else
  if v0 = (2 : Int32) then
  (some ((8 : Int32)))
  else
  some ((20 : Int32))
section S_X10_wordsOf
variable {p : Program} {l : Launch} {e : Env} {s : State} {m : MethodId} {args : Array Value} {below : List Frame} {meth : Method} {c : Code} {D : mmD} {b0 sz : Nat} {f : mmF}
set_option maxHeartbeats 4000000 in
set_option maxRecDepth 100000 in
theorem w_X10_wordsOf (C0 : CX cX10_wordsOf 1 (some .int) wsX10_wordsOf RX10 p s m args meth c D b0) {v0 : Int32} {res : Int32} (h : f_X10_wordsOf v0 f = some res) : ∀ (H : Heap) (locs : List Loc) (ls : Array Slot), MM vwCl D b0 f sz s H → mS b0 s H locs → lv_has ls 1 [(0, .int v0)] → W p l e ({ frames := 0, cells := 0, slots := 0, locals := 0 } : Room) s m args below meth c H locs 0 0 (MQ below (QW D b0 (some (.int res)) f sz) args s 0 0 (fun q => b0 ≤ q)) (F0 m 0 ls []) := by
  obtain ⟨hx, hb, hr, hml, hown, hts, hlocks, hK⟩ := id C0
  intro H locs ls hM hS hl
  unfold f_X10_wordsOf at h
  refine lv_iload_n hx hb dX10_wordsOf_0 rfl (lv_at hl 0 rfl) ?_
  refine lv_if_ne (tgt := 8) hx hb dX10_wordsOf_1 (by decide) (fun c1 => ?_) (fun c1 => ?_)
  · replace h := o_f c1 h
    refine lv_iload_n hx hb dX10_wordsOf_8 rfl (lv_at hl 0 rfl) ?_
    refine lv_iconst (v := (1 : Int32)) hx hb dX10_wordsOf_9 (by decide) ?_
    refine lv_icmp_ne (tgt := 17) hx hb dX10_wordsOf_10 (by decide) (fun c10 => ?_) (fun c10 => ?_)
    · replace h := o_f c10 h
      refine lv_iload_n hx hb dX10_wordsOf_17 rfl (lv_at hl 0 rfl) ?_
      refine lv_iconst (v := (2 : Int32)) hx hb dX10_wordsOf_18 (by decide) ?_
      refine lv_icmp_ne (tgt := 27) hx hb dX10_wordsOf_19 (by decide) (fun c19 => ?_) (fun c19 => ?_)
      · replace h := o_f c19 h
        refine lv_bipush (v := (20 : Int32)) hx hb dX10_wordsOf_27 (by decide) ?_
        replace h := Option.some.inj h; subst h
        exact W.iret hx hb hr (fun t ht hW => ⟨rfl, by rw [ht]; exact hM.moved hW.alike, hS.F ht⟩) hS.2.2 dX10_wordsOf_29
      replace h := o_t c19 h
      refine lv_bipush (v := (8 : Int32)) hx hb dX10_wordsOf_22 (by decide) ?_
      refine lv_goto (tgt := 29) hx hb dX10_wordsOf_24 (by decide) ?_
      replace h := Option.some.inj h; subst h
      exact W.iret hx hb hr (fun t ht hW => ⟨rfl, by rw [ht]; exact hM.moved hW.alike, hS.F ht⟩) hS.2.2 dX10_wordsOf_29
    replace h := o_t c10 h
    refine lv_iconst (v := (3 : Int32)) hx hb dX10_wordsOf_13 (by decide) ?_
    refine lv_goto (tgt := 29) hx hb dX10_wordsOf_14 (by decide) ?_
    replace h := Option.some.inj h; subst h
    exact W.iret hx hb hr (fun t ht hW => ⟨rfl, by rw [ht]; exact hM.moved hW.alike, hS.F ht⟩) hS.2.2 dX10_wordsOf_29
  replace h := o_t c1 h
  refine lv_iconst (v := (1 : Int32)) hx hb dX10_wordsOf_4 (by decide) ?_
  refine lv_goto (tgt := 29) hx hb dX10_wordsOf_5 (by decide) ?_
  replace h := Option.some.inj h; subst h
  exact W.iret hx hb hr (fun t ht hW => ⟨rfl, by rw [ht]; exact hM.moved hW.alike, hS.F ht⟩) hS.2.2 dX10_wordsOf_29
set_option maxHeartbeats 4000000 in
set_option maxRecDepth 100000 in
theorem c_X10_wordsOf (l : Launch) (D : mmD) (b0 sz : Nat) {v0 : Int32} {f : mmF} {res : Int32} (h : f_X10_wordsOf v0 f = some res) : Met l yX10_wordsOf wsX10_wordsOf ({ frames := 0, cells := 0, slots := 0, locals := 0 } : Room) (va_Pc [.int v0] (PW D b0 f sz)) (QW D b0 (some (.int res)) f sz) 0 0 (fun q => b0 ≤ q) := by
  refine Met.ofW (cc := cX10_wordsOf) (maxL := 1) (ret := (some .int)) (by decide) rfl ?_
  intro p e s m args below meth c s₁ B hml hv
  obtain ⟨rfl, hM, hK⟩ := hv
  have hl := lv_entry ([.int v0]) (n := 1) (Nat.le_of_ble_eq_true rfl)
  rw [lg_entry_eq]
  generalize (lg_sl ([.int v0]) ++ List.replicate (1 - (lg_sl ([.int v0])).length) Slot.unset).toArray = ls at hl ⊢
  have hl : lv_has ls 1 [(0, .int v0)] := hl
  exact w_X10_wordsOf ⟨B.exec, B.bytes, B.returns, hml, findClass_of_methodNamed B.named, atoms_spec (ws := wsX10_wordsOf) B.pre, B.notSynchronized, hK⟩ h s.heap [] ls hM va_S.rf hl
end S_X10_wordsOf
/-! X10_begin -/
noncomputable def f_X10_begin (v0 : Int32) (f : mmF) : Option (Int32) :=
  if v0 = 0 then
  (some ((0 : Int32)))
  else
  if v0 = (1 : Int32) then
  (some ((1 : Int32)))
  else
  if v0 = (2 : Int32) then
  (some ((7 : Int32)))
  else
  some ((31 : Int32))
section S_X10_begin
variable {p : Program} {l : Launch} {e : Env} {s : State} {m : MethodId} {args : Array Value} {below : List Frame} {meth : Method} {c : Code} {D : mmD} {b0 sz : Nat} {f : mmF}
set_option maxHeartbeats 4000000 in
set_option maxRecDepth 100000 in
theorem w_X10_begin (C0 : CX cX10_begin 1 (some .int) wsX10_begin RX10 p s m args meth c D b0) {v0 : Int32} {res : Int32} (h : f_X10_begin v0 f = some res) : ∀ (H : Heap) (locs : List Loc) (ls : Array Slot), MM vwCl D b0 f sz s H → mS b0 s H locs → lv_has ls 1 [(0, .int v0)] → W p l e ({ frames := 0, cells := 0, slots := 0, locals := 0 } : Room) s m args below meth c H locs 0 0 (MQ below (QW D b0 (some (.int res)) f sz) args s 0 0 (fun q => b0 ≤ q)) (F0 m 0 ls []) := by
  obtain ⟨hx, hb, hr, hml, hown, hts, hlocks, hK⟩ := id C0
  intro H locs ls hM hS hl
  unfold f_X10_begin at h
  refine lv_iload_n hx hb dX10_begin_0 rfl (lv_at hl 0 rfl) ?_
  refine lv_if_ne (tgt := 8) hx hb dX10_begin_1 (by decide) (fun c1 => ?_) (fun c1 => ?_)
  · replace h := o_f c1 h
    refine lv_iload_n hx hb dX10_begin_8 rfl (lv_at hl 0 rfl) ?_
    refine lv_iconst (v := (1 : Int32)) hx hb dX10_begin_9 (by decide) ?_
    refine lv_icmp_ne (tgt := 17) hx hb dX10_begin_10 (by decide) (fun c10 => ?_) (fun c10 => ?_)
    · replace h := o_f c10 h
      refine lv_iload_n hx hb dX10_begin_17 rfl (lv_at hl 0 rfl) ?_
      refine lv_iconst (v := (2 : Int32)) hx hb dX10_begin_18 (by decide) ?_
      refine lv_icmp_ne (tgt := 27) hx hb dX10_begin_19 (by decide) (fun c19 => ?_) (fun c19 => ?_)
      · replace h := o_f c19 h
        refine lv_bipush (v := (31 : Int32)) hx hb dX10_begin_27 (by decide) ?_
        replace h := Option.some.inj h; subst h
        exact W.iret hx hb hr (fun t ht hW => ⟨rfl, by rw [ht]; exact hM.moved hW.alike, hS.F ht⟩) hS.2.2 dX10_begin_29
      replace h := o_t c19 h
      refine lv_bipush (v := (7 : Int32)) hx hb dX10_begin_22 (by decide) ?_
      refine lv_goto (tgt := 29) hx hb dX10_begin_24 (by decide) ?_
      replace h := Option.some.inj h; subst h
      exact W.iret hx hb hr (fun t ht hW => ⟨rfl, by rw [ht]; exact hM.moved hW.alike, hS.F ht⟩) hS.2.2 dX10_begin_29
    replace h := o_t c10 h
    refine lv_iconst (v := (1 : Int32)) hx hb dX10_begin_13 (by decide) ?_
    refine lv_goto (tgt := 29) hx hb dX10_begin_14 (by decide) ?_
    replace h := Option.some.inj h; subst h
    exact W.iret hx hb hr (fun t ht hW => ⟨rfl, by rw [ht]; exact hM.moved hW.alike, hS.F ht⟩) hS.2.2 dX10_begin_29
  replace h := o_t c1 h
  refine lv_iconst (v := (0 : Int32)) hx hb dX10_begin_4 (by decide) ?_
  refine lv_goto (tgt := 29) hx hb dX10_begin_5 (by decide) ?_
  replace h := Option.some.inj h; subst h
  exact W.iret hx hb hr (fun t ht hW => ⟨rfl, by rw [ht]; exact hM.moved hW.alike, hS.F ht⟩) hS.2.2 dX10_begin_29
set_option maxHeartbeats 4000000 in
set_option maxRecDepth 100000 in
theorem c_X10_begin (l : Launch) (D : mmD) (b0 sz : Nat) {v0 : Int32} {f : mmF} {res : Int32} (h : f_X10_begin v0 f = some res) : Met l yX10_begin wsX10_begin ({ frames := 0, cells := 0, slots := 0, locals := 0 } : Room) (va_Pc [.int v0] (PW D b0 f sz)) (QW D b0 (some (.int res)) f sz) 0 0 (fun q => b0 ≤ q) := by
  refine Met.ofW (cc := cX10_begin) (maxL := 1) (ret := (some .int)) (by decide) rfl ?_
  intro p e s m args below meth c s₁ B hml hv
  obtain ⟨rfl, hM, hK⟩ := hv
  have hl := lv_entry ([.int v0]) (n := 1) (Nat.le_of_ble_eq_true rfl)
  rw [lg_entry_eq]
  generalize (lg_sl ([.int v0]) ++ List.replicate (1 - (lg_sl ([.int v0])).length) Slot.unset).toArray = ls at hl ⊢
  have hl : lv_has ls 1 [(0, .int v0)] := hl
  exact w_X10_begin ⟨B.exec, B.bytes, B.returns, hml, findClass_of_methodNamed B.named, atoms_spec (ws := wsX10_begin) B.pre, B.notSynchronized, hK⟩ h s.heap [] ls hM va_S.rf hl
end S_X10_begin
/-! X10_models -/
noncomputable def f_X10_models (v0 : Int32) (f : mmF) : Option (Int32) :=
  if v0 = 0 then
  (some ((16 : Int32)))
  else
  if v0 = (1 : Int32) then
  (some ((81 : Int32)))
  else
  if v0 = (2 : Int32) then
  (some ((256 : Int32)))
  else
  some ((625 : Int32))
section S_X10_models
variable {p : Program} {l : Launch} {e : Env} {s : State} {m : MethodId} {args : Array Value} {below : List Frame} {meth : Method} {c : Code} {D : mmD} {b0 sz : Nat} {f : mmF}
set_option maxHeartbeats 4000000 in
set_option maxRecDepth 100000 in
theorem w_X10_models (C0 : CX cX10_models 1 (some .int) wsX10_models RX10 p s m args meth c D b0) {v0 : Int32} {res : Int32} (h : f_X10_models v0 f = some res) : ∀ (H : Heap) (locs : List Loc) (ls : Array Slot), MM vwCl D b0 f sz s H → mS b0 s H locs → lv_has ls 1 [(0, .int v0)] → W p l e ({ frames := 0, cells := 0, slots := 0, locals := 0 } : Room) s m args below meth c H locs 0 0 (MQ below (QW D b0 (some (.int res)) f sz) args s 0 0 (fun q => b0 ≤ q)) (F0 m 0 ls []) := by
  obtain ⟨hx, hb, hr, hml, hown, hts, hlocks, hK⟩ := id C0
  intro H locs ls hM hS hl
  unfold f_X10_models at h
  refine lv_iload_n hx hb dX10_models_0 rfl (lv_at hl 0 rfl) ?_
  refine lv_if_ne (tgt := 9) hx hb dX10_models_1 (by decide) (fun c1 => ?_) (fun c1 => ?_)
  · replace h := o_f c1 h
    refine lv_iload_n hx hb dX10_models_9 rfl (lv_at hl 0 rfl) ?_
    refine lv_iconst (v := (1 : Int32)) hx hb dX10_models_10 (by decide) ?_
    refine lv_icmp_ne (tgt := 19) hx hb dX10_models_11 (by decide) (fun c11 => ?_) (fun c11 => ?_)
    · replace h := o_f c11 h
      refine lv_iload_n hx hb dX10_models_19 rfl (lv_at hl 0 rfl) ?_
      refine lv_iconst (v := (2 : Int32)) hx hb dX10_models_20 (by decide) ?_
      refine lv_icmp_ne (tgt := 30) hx hb dX10_models_21 (by decide) (fun c21 => ?_) (fun c21 => ?_)
      · replace h := o_f c21 h
        refine lv_sipush (v := (625 : Int32)) hx hb dX10_models_30 (by decide) ?_
        replace h := Option.some.inj h; subst h
        exact W.iret hx hb hr (fun t ht hW => ⟨rfl, by rw [ht]; exact hM.moved hW.alike, hS.F ht⟩) hS.2.2 dX10_models_33
      replace h := o_t c21 h
      refine lv_sipush (v := (256 : Int32)) hx hb dX10_models_24 (by decide) ?_
      refine lv_goto (tgt := 33) hx hb dX10_models_27 (by decide) ?_
      replace h := Option.some.inj h; subst h
      exact W.iret hx hb hr (fun t ht hW => ⟨rfl, by rw [ht]; exact hM.moved hW.alike, hS.F ht⟩) hS.2.2 dX10_models_33
    replace h := o_t c11 h
    refine lv_bipush (v := (81 : Int32)) hx hb dX10_models_14 (by decide) ?_
    refine lv_goto (tgt := 33) hx hb dX10_models_16 (by decide) ?_
    replace h := Option.some.inj h; subst h
    exact W.iret hx hb hr (fun t ht hW => ⟨rfl, by rw [ht]; exact hM.moved hW.alike, hS.F ht⟩) hS.2.2 dX10_models_33
  replace h := o_t c1 h
  refine lv_bipush (v := (16 : Int32)) hx hb dX10_models_4 (by decide) ?_
  refine lv_goto (tgt := 33) hx hb dX10_models_6 (by decide) ?_
  replace h := Option.some.inj h; subst h
  exact W.iret hx hb hr (fun t ht hW => ⟨rfl, by rw [ht]; exact hM.moved hW.alike, hS.F ht⟩) hS.2.2 dX10_models_33
set_option maxHeartbeats 4000000 in
set_option maxRecDepth 100000 in
theorem c_X10_models (l : Launch) (D : mmD) (b0 sz : Nat) {v0 : Int32} {f : mmF} {res : Int32} (h : f_X10_models v0 f = some res) : Met l yX10_models wsX10_models ({ frames := 0, cells := 0, slots := 0, locals := 0 } : Room) (va_Pc [.int v0] (PW D b0 f sz)) (QW D b0 (some (.int res)) f sz) 0 0 (fun q => b0 ≤ q) := by
  refine Met.ofW (cc := cX10_models) (maxL := 1) (ret := (some .int)) (by decide) rfl ?_
  intro p e s m args below meth c s₁ B hml hv
  obtain ⟨rfl, hM, hK⟩ := hv
  have hl := lv_entry ([.int v0]) (n := 1) (Nat.le_of_ble_eq_true rfl)
  rw [lg_entry_eq]
  generalize (lg_sl ([.int v0]) ++ List.replicate (1 - (lg_sl ([.int v0])).length) Slot.unset).toArray = ls at hl ⊢
  have hl : lv_has ls 1 [(0, .int v0)] := hl
  exact w_X10_models ⟨B.exec, B.bytes, B.returns, hml, findClass_of_methodNamed B.named, atoms_spec (ws := wsX10_models) B.pre, B.notSynchronized, hK⟩ h s.heap [] ls hM va_S.rf hl
end S_X10_models
