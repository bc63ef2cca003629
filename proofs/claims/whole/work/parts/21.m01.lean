/-! X9_has -/
noncomputable def f_X9_has (v0 : Int32) (v1 : Int32) (f : mmF) : Option (Int32) :=
  if ((v0 >>> (v1 &&& 31)) &&& (1 : Int32)) = 0 then
  (some ((0 : Int32)))
  else
  some ((1 : Int32))
section S_X9_has
variable {p : Program} {l : Launch} {e : Env} {s : State} {m : MethodId} {args : Array Value} {below : List Frame} {meth : Method} {c : Code} {D : mmD} {b0 sz : Nat} {f : mmF}
set_option maxHeartbeats 4000000 in
set_option maxRecDepth 100000 in
theorem w_X9_has (C0 : CX cX9_has 2 (some .boolean) wsX9_has RX9 p s m args meth c D b0) {v0 : Int32} {v1 : Int32} {res : Int32} (h : f_X9_has v0 v1 f = some res) : ∀ (H : Heap) (locs : List Loc) (ls : Array Slot), MM vwCl D b0 f sz s H → mS b0 s H locs → lv_has ls 2 [(0, .int v0), (1, .int v1)] → W p l e ({ frames := 0, cells := 0, slots := 0, locals := 0 } : Room) s m args below meth c H locs 0 0 (MQ below (QW D b0 (some (.int res)) f sz) args s 0 0 (fun q => b0 ≤ q)) (F0 m 0 ls []) := by
  obtain ⟨hx, hb, hr, hml, hown, hts, hlocks, hK⟩ := id C0
  intro H locs ls hM hS hl
  unfold f_X9_has at h
  refine lv_iload_n hx hb dX9_has_0 rfl (lv_at hl 0 rfl) ?_
  refine lv_iload_n hx hb dX9_has_1 rfl (lv_at hl 1 rfl) ?_
  refine lv_ishr hx hb dX9_has_2 ?_
  refine lv_iconst (v := (1 : Int32)) hx hb dX9_has_3 (by decide) ?_
  refine lv_iand hx hb dX9_has_4 ?_
  refine lv_if_eq (tgt := 12) hx hb dX9_has_5 (by decide) (fun c5 => ?_) (fun c5 => ?_)
  · replace h := o_t c5 h
    refine lv_iconst (v := (0 : Int32)) hx hb dX9_has_12 (by decide) ?_
    replace h := Option.some.inj h; subst h
    exact W.zret hx hb hr rfl (fun t ht hW => ⟨rfl, by rw [ht]; exact hM.moved hW.alike, hS.F ht⟩) hS.2.2 dX9_has_13
  replace h := o_f c5 h
  refine lv_iconst (v := (1 : Int32)) hx hb dX9_has_8 (by decide) ?_
  refine lv_goto (tgt := 13) hx hb dX9_has_9 (by decide) ?_
  replace h := Option.some.inj h; subst h
  exact W.zret hx hb hr rfl (fun t ht hW => ⟨rfl, by rw [ht]; exact hM.moved hW.alike, hS.F ht⟩) hS.2.2 dX9_has_13
set_option maxHeartbeats 4000000 in
set_option maxRecDepth 100000 in
theorem c_X9_has (l : Launch) (D : mmD) (b0 sz : Nat) {v0 : Int32} {v1 : Int32} {f : mmF} {res : Int32} (h : f_X9_has v0 v1 f = some res) : Met l yX9_has wsX9_has ({ frames := 0, cells := 0, slots := 0, locals := 0 } : Room) (va_Pc [.int v0, .int v1] (PW D b0 f sz)) (QW D b0 (some (.int res)) f sz) 0 0 (fun q => b0 ≤ q) := by
  refine Met.ofW (cc := cX9_has) (maxL := 2) (ret := (some .boolean)) (by decide) rfl ?_
  intro p e s m args below meth c s₁ B hml hv
  obtain ⟨rfl, hM, hK⟩ := hv
  have hl := lv_entry ([.int v0, .int v1]) (n := 2) (Nat.le_of_ble_eq_true rfl)
  rw [lg_entry_eq]
  generalize (lg_sl ([.int v0, .int v1]) ++ List.replicate (2 - (lg_sl ([.int v0, .int v1])).length) Slot.unset).toArray = ls at hl ⊢
  have hl : lv_has ls 2 [(0, .int v0), (1, .int v1)] := hl
  exact w_X9_has ⟨B.exec, B.bytes, B.returns, hml, findClass_of_methodNamed B.named, atoms_spec (ws := wsX9_has) B.pre, B.notSynchronized, hK⟩ h s.heap [] ls hM va_S.rf hl
end S_X9_has
/-! X9_at -/
noncomputable def f_X9_at (v0 : Nat) (v1 : Int32) (f : mmF) : Option (Int32) :=
  if v1 < 0 then
  (some ((0 : Int32)))
  else
  (lenA f v0).bind fun x6 =>
  if x6 ≤ v1 then
  (some ((0 : Int32)))
  else
  (ldA 0 f v0 v1).bind fun x12 =>
  some (x12)
section S_X9_at
variable {p : Program} {l : Launch} {e : Env} {s : State} {m : MethodId} {args : Array Value} {below : List Frame} {meth : Method} {c : Code} {D : mmD} {b0 sz : Nat} {f : mmF}
set_option maxHeartbeats 4000000 in
set_option maxRecDepth 100000 in
theorem w_X9_at (C0 : CX cX9_at 2 (some .int) wsX9_at RX9 p s m args meth c D b0) {v0 : Nat} {v1 : Int32} {res : Int32} (h : f_X9_at v0 v1 f = some res) : ∀ (H : Heap) (locs : List Loc) (ls : Array Slot), MM vwCl D b0 f sz s H → mS b0 s H locs → lv_has ls 2 [(0, .ref v0), (1, .int v1)] → W p l e ({ frames := 0, cells := 0, slots := 0, locals := 0 } : Room) s m args below meth c H locs 0 0 (MQ below (QW D b0 (some (.int res)) f sz) args s 0 0 (fun q => b0 ≤ q)) (F0 m 0 ls []) := by
  obtain ⟨hx, hb, hr, hml, hown, hts, hlocks, hK⟩ := id C0
  intro H locs ls hM hS hl
  unfold f_X9_at at h
  refine lv_iload_n hx hb dX9_at_0 rfl (lv_at hl 1 rfl) ?_
  refine lv_if_lt (tgt := 16) hx hb dX9_at_1 (by decide) (fun c1 => ?_) (fun c1 => ?_)
  · replace h := o_t c1 h
    refine lv_iconst (v := (0 : Int32)) hx hb dX9_at_16 (by decide) ?_
    replace h := Option.some.inj h; subst h
    exact W.iret hx hb hr (fun t ht hW => ⟨rfl, by rw [ht]; exact hM.moved hW.alike, hS.F ht⟩) hS.2.2 dX9_at_17
  replace h := o_f c1 h
  refine lv_iload_n hx hb dX9_at_4 rfl (lv_at hl 1 rfl) ?_
  refine lv_aload_n hx hb dX9_at_5 rfl (lv_at hl 0 rfl) ?_
  replace h := o_b h; obtain ⟨x6, h6, h⟩ := h
  refine m_alen hx hb hK.1 hM h6 dX9_at_6 ?_
  refine lv_icmp_ge (tgt := 16) hx hb dX9_at_7 (by decide) (fun c7 => ?_) (fun c7 => ?_)
  · replace h := o_t c7 h
    refine lv_iconst (v := (0 : Int32)) hx hb dX9_at_16 (by decide) ?_
    replace h := Option.some.inj h; subst h
    exact W.iret hx hb hr (fun t ht hW => ⟨rfl, by rw [ht]; exact hM.moved hW.alike, hS.F ht⟩) hS.2.2 dX9_at_17
  replace h := o_f c7 h
  refine lv_aload_n hx hb dX9_at_10 rfl (lv_at hl 0 rfl) ?_
  refine lv_iload_n hx hb dX9_at_11 rfl (lv_at hl 1 rfl) ?_
  replace h := o_b h; obtain ⟨x12, h12, h⟩ := h
  refine m_iald hx hb hK.1 hM hS rfl h12 dX9_at_12 ?_
  refine lv_goto (tgt := 17) hx hb dX9_at_13 (by decide) ?_
  replace h := Option.some.inj h; subst h
  exact W.iret hx hb hr (fun t ht hW => ⟨rfl, by rw [ht]; exact hM.moved hW.alike, hS.F ht⟩) hS.2.2 dX9_at_17
set_option maxHeartbeats 4000000 in
set_option maxRecDepth 100000 in
theorem c_X9_at (l : Launch) (D : mmD) (b0 sz : Nat) {v0 : Nat} {v1 : Int32} {f : mmF} {res : Int32} (h : f_X9_at v0 v1 f = some res) : Met l yX9_at wsX9_at ({ frames := 0, cells := 0, slots := 0, locals := 0 } : Room) (va_Pc [.ref v0, .int v1] (PW D b0 f sz)) (QW D b0 (some (.int res)) f sz) 0 0 (fun q => b0 ≤ q) := by
  refine Met.ofW (cc := cX9_at) (maxL := 2) (ret := (some .int)) (by decide) rfl ?_
  intro p e s m args below meth c s₁ B hml hv
  obtain ⟨rfl, hM, hK⟩ := hv
  have hl := lv_entry ([.ref v0, .int v1]) (n := 2) (Nat.le_of_ble_eq_true rfl)
  rw [lg_entry_eq]
  generalize (lg_sl ([.ref v0, .int v1]) ++ List.replicate (2 - (lg_sl ([.ref v0, .int v1])).length) Slot.unset).toArray = ls at hl ⊢
  have hl : lv_has ls 2 [(0, .ref v0), (1, .int v1)] := hl
  exact w_X9_at ⟨B.exec, B.bytes, B.returns, hml, findClass_of_methodNamed B.named, atoms_spec (ws := wsX9_at) B.pre, B.notSynchronized, hK⟩ h s.heap [] ls hM va_S.rf hl
end S_X9_at
/-! X4_find -/
set_option maxRecDepth 20000 in
theorem qi_X4_find_X4 : ∀ w ∈ u_ws RX4 TX4 8, w ∈ wsX4_find := by decide +kernel
set_option maxRecDepth 20000 in
theorem q_X4_find_1 : Cond.fieldLink RX4 11 "StageTruths$Parts" "size" "I" ∈ wsX4_find := by decide +kernel
set_option maxRecDepth 20000 in
theorem q_X4_find_2 : Cond.fieldLink RX4 15 "StageTruths$Parts" "kinds" "[I" ∈ wsX4_find := by decide +kernel
set_option maxRecDepth 20000 in
theorem q_X4_find_3 : Cond.fieldLink RX4 19 "StageTruths$Parts" "left" "[I" ∈ wsX4_find := by decide +kernel
set_option maxRecDepth 20000 in
theorem q_X4_find_4 : Cond.fieldLink RX4 22 "StageTruths$Parts" "right" "[I" ∈ wsX4_find := by decide +kernel
noncomputable def f_X4_find_49 (k4 : Nat → Int32 → Int32 → Int32 → Int32 → mmF → Option (Int32 × mmF))  (v0 : Nat) (v1 : Int32) (v2 : Int32) (v3 : Int32) (v4 : Int32) (f : mmF) : Option (Int32 × mmF) :=
  k4 v0 v1 v2 v3 (v4 + (1 : Int32)) f
noncomputable def f_X4_find_4   : Nat → Nat → Int32 → Int32 → Int32 → Int32 → mmF → Option (Int32 × mmF)
  | 0, _, _, _, _, _, _ => none
  | n + 1, v0, v1, v2, v3, v4, f =>
    (ldI f v0 4 0).bind fun x7 =>
    if x7 ≤ v4 then
    ((ldI f v0 4 0).bind fun x56 =>
    if x56 < (151 : Int32) then
    ((ldR f v0 4 1).bind fun x68 =>
    (ldI f v0 4 0).bind fun x72 =>
    (stA 0 f x68 x72 v1).bind fun f76 =>
    (ldR f76 v0 4 2).bind fun x78 =>
    (ldI f76 v0 4 0).bind fun x82 =>
    (stA 0 f76 x78 x82 v2).bind fun f86 =>
    (ldR f86 v0 4 3).bind fun x88 =>
    (ldI f86 v0 4 0).bind fun x92 =>
    (stA 0 f86 x88 x92 v3).bind fun f96 =>
    (ldI f96 v0 4 0).bind fun x99 =>
    (stF f96 v0 4 0 (.int (x99 + (1 : Int32)))).bind fun f104 =>
    (ldI f104 v0 4 0).bind fun x108 =>
    some ((x108 - (1 : Int32)), f104))
    else
    some ((5 : Int32), f))
    else
    (ldR f v0 4 2).bind fun x14 =>
    (ldA 0 f x14 v4).bind fun x19 =>
    if x19 = v2 then
    ((ldR f v0 4 3).bind fun x25 =>
    (ldA 0 f x25 v4).bind fun x30 =>
    if x30 = v3 then
    ((ldR f v0 4 1).bind fun x36 =>
    (ldA 0 f x36 v4).bind fun x41 =>
    if x41 = v1 then
    (some (v4, f))
    else
    f_X4_find_49 (fun a0 a1 a2 a3 a4 a5 => f_X4_find_4 n a0 a1 a2 a3 a4 a5) v0 v1 v2 v3 v4 f)
    else
    f_X4_find_49 (fun a0 a1 a2 a3 a4 a5 => f_X4_find_4 n a0 a1 a2 a3 a4 a5) v0 v1 v2 v3 v4 f)
    else
    f_X4_find_49 (fun a0 a1 a2 a3 a4 a5 => f_X4_find_4 n a0 a1 a2 a3 a4 a5) v0 v1 v2 v3 v4 f
noncomputable def f_X4_find (v0 : Nat) (v1 : Int32) (v2 : Int32) (v3 : Int32) (f : mmF) : Option (Int32 × mmF) :=
  f_X4_find_4 FU v0 v1 v2 v3 (6 : Int32) f
section S_X4_find
variable {p : Program} {l : Launch} {e : Env} {s : State} {m : MethodId} {args : Array Value} {below : List Frame} {meth : Method} {c : Code} {D : mmD} {b0 sz : Nat} {f : mmF}
set_option maxHeartbeats 4000000 in
set_option maxRecDepth 100000 in
theorem w_X4_find_49 (C0 : CX cX4_find 5 (some .int) wsX4_find RX4 p s m args meth c D b0) {k4 : Nat → Int32 → Int32 → Int32 → Int32 → mmF → Option (Int32 × mmF)} {res : Int32 × mmF} (hk4 : ∀ (v0 : Nat) (v1 : Int32) (v2 : Int32) (v3 : Int32) (v4 : Int32) (f : mmF), k4 v0 v1 v2 v3 v4 f = some res → ∀ (H : Heap) (locs : List Loc) (ls : Array Slot), MM vwCl D b0 f sz s H → mS b0 s H locs → lv_has ls 5 [(0, .ref v0), (1, .int v1), (2, .int v2), (3, .int v3), (4, .int v4)] → W p l e ({ frames := 0, cells := 0, slots := 0, locals := 0 } : Room) s m args below meth c H locs 0 0 (MQ below (QW D b0 (some (.int res.1)) res.2 sz) args s 0 0 (fun q => b0 ≤ q)) (F0 m 4 ls [])) : ∀ (v0 : Nat) (v1 : Int32) (v2 : Int32) (v3 : Int32) (v4 : Int32) (f : mmF), f_X4_find_49 k4 v0 v1 v2 v3 v4 f = some res → ∀ (H : Heap) (locs : List Loc) (ls : Array Slot), MM vwCl D b0 f sz s H → mS b0 s H locs → lv_has ls 5 [(0, .ref v0), (1, .int v1), (2, .int v2), (3, .int v3), (4, .int v4)] → W p l e ({ frames := 0, cells := 0, slots := 0, locals := 0 } : Room) s m args below meth c H locs 0 0 (MQ below (QW D b0 (some (.int res.1)) res.2 sz) args s 0 0 (fun q => b0 ≤ q)) (F0 m 49 ls []) := by
  obtain ⟨hx, hb, hr, hml, hown, hts, hlocks, hK⟩ := id C0
  intro v0 v1 v2 v3 v4 f h H locs ls hM hS hl
  unfold f_X4_find_49 at h
  refine lv_iinc (v := (v4 + (1 : Int32))) (lv' := [(4, .int (v4 + (1 : Int32))), (0, .ref v0), (1, .int v1), (2, .int v2), (3, .int v3)]) hx hb dX4_find_49 hl (k := 4) rfl rfl (by decide) rfl (fun ls hl => ?_)
  refine lv_goto (tgt := 4) hx hb dX4_find_52 (by decide) ?_
  exact hk4 _ _ _ _ _ _ h _ _ _ hM hS (lv_sub hl [1, 2, 3, 4, 0] rfl)
set_option maxHeartbeats 4000000 in
set_option maxRecDepth 100000 in
theorem w_X4_find_4 (C0 : CX cX4_find 5 (some .int) wsX4_find RX4 p s m args meth c D b0) {res : Int32 × mmF} : ∀ (n : Nat), ∀ (v0 : Nat) (v1 : Int32) (v2 : Int32) (v3 : Int32) (v4 : Int32) (f : mmF), f_X4_find_4 n v0 v1 v2 v3 v4 f = some res → ∀ (H : Heap) (locs : List Loc) (ls : Array Slot), MM vwCl D b0 f sz s H → mS b0 s H locs → lv_has ls 5 [(0, .ref v0), (1, .int v1), (2, .int v2), (3, .int v3), (4, .int v4)] → W p l e ({ frames := 0, cells := 0, slots := 0, locals := 0 } : Room) s m args below meth c H locs 0 0 (MQ below (QW D b0 (some (.int res.1)) res.2 sz) args s 0 0 (fun q => b0 ≤ q)) (F0 m 4 ls []) := by
  obtain ⟨hx, hb, hr, hml, hown, hts, hlocks, hK⟩ := id C0
  intro n
  induction n with
  | zero =>
    intro v0 v1 v2 v3 v4 f h
    have h : (none : Option (Int32 × mmF)) = some res := h
    cases h
  | succ n ih =>
    intro v0 v1 v2 v3 v4 f h H locs ls hM hS hl
    rw [f_X4_find_4] at h
    refine lv_iload hx hb dX4_find_4 (lv_at hl 4 rfl) ?_
    refine lv_aload_n hx hb dX4_find_6 rfl (lv_at hl 0 rfl) ?_
    replace h := o_b h; obtain ⟨x7, h7, h⟩ := h
    refine m_get (C := RX4) (T := TX4) (N := 8) (ci := 4) hx hb hts qi_X4_find_X4 hown hK.1 hM 0 (ldI_F h7) rfl (by decide) (hts _ q_X4_find_1) (fun _ h9 => h9) dX4_find_7 ?_
    refine lv_icmp_ge (tgt := 55) hx hb dX4_find_10 (by decide) (fun c10 => ?_) (fun c10 => ?_)
    · replace h := o_t c10 h
      refine lv_aload_n hx hb dX4_find_55 rfl (lv_at hl 0 rfl) ?_
      replace h := o_b h; obtain ⟨x56, h56, h⟩ := h
      refine m_get (C := RX4) (T := TX4) (N := 8) (ci := 4) hx hb hts qi_X4_find_X4 hown hK.1 hM 0 (ldI_F h56) rfl (by decide) (hts _ q_X4_find_1) (fun _ h9 => h9) dX4_find_56 ?_
      refine lv_sipush (v := (151 : Int32)) hx hb dX4_find_59 (by decide) ?_
      refine lv_icmp_lt (tgt := 67) hx hb dX4_find_62 (by decide) (fun c62 => ?_) (fun c62 => ?_)
      · replace h := o_t c62 h
        refine lv_aload_n hx hb dX4_find_67 rfl (lv_at hl 0 rfl) ?_
        replace h := o_b h; obtain ⟨x68, h68, h⟩ := h
        refine m_get (C := RX4) (T := TX4) (N := 8) (ci := 4) hx hb hts qi_X4_find_X4 hown hK.1 hM 1 (ldR_F h68) rfl (by decide) (hts _ q_X4_find_2) (fun _ h9 => h9) dX4_find_68 ?_
        refine lv_aload_n hx hb dX4_find_71 rfl (lv_at hl 0 rfl) ?_
        replace h := o_b h; obtain ⟨x72, h72, h⟩ := h
        refine m_get (C := RX4) (T := TX4) (N := 8) (ci := 4) hx hb hts qi_X4_find_X4 hown hK.1 hM 0 (ldI_F h72) rfl (by decide) (hts _ q_X4_find_1) (fun _ h9 => h9) dX4_find_72 ?_
        refine lv_iload_n hx hb dX4_find_75 rfl (lv_at hl 1 rfl) ?_
        replace h := o_b h; obtain ⟨f76, h76, h⟩ := h
        refine m_iast hx hb hK.1 hM hS rfl h76 dX4_find_76 (fun H locs hM hS => ?_)
        refine lv_aload_n hx hb dX4_find_77 rfl (lv_at hl 0 rfl) ?_
        replace h := o_b h; obtain ⟨x78, h78, h⟩ := h
        refine m_get (C := RX4) (T := TX4) (N := 8) (ci := 4) hx hb hts qi_X4_find_X4 hown hK.1 hM 2 (ldR_F h78) rfl (by decide) (hts _ q_X4_find_3) (fun _ h9 => h9) dX4_find_78 ?_
        refine lv_aload_n hx hb dX4_find_81 rfl (lv_at hl 0 rfl) ?_
        replace h := o_b h; obtain ⟨x82, h82, h⟩ := h
        refine m_get (C := RX4) (T := TX4) (N := 8) (ci := 4) hx hb hts qi_X4_find_X4 hown hK.1 hM 0 (ldI_F h82) rfl (by decide) (hts _ q_X4_find_1) (fun _ h9 => h9) dX4_find_82 ?_
        refine lv_iload_n hx hb dX4_find_85 rfl (lv_at hl 2 rfl) ?_
        replace h := o_b h; obtain ⟨f86, h86, h⟩ := h
        refine m_iast hx hb hK.1 hM hS rfl h86 dX4_find_86 (fun H locs hM hS => ?_)
        refine lv_aload_n hx hb dX4_find_87 rfl (lv_at hl 0 rfl) ?_
        replace h := o_b h; obtain ⟨x88, h88, h⟩ := h
        refine m_get (C := RX4) (T := TX4) (N := 8) (ci := 4) hx hb hts qi_X4_find_X4 hown hK.1 hM 3 (ldR_F h88) rfl (by decide) (hts _ q_X4_find_4) (fun _ h9 => h9) dX4_find_88 ?_
        refine lv_aload_n hx hb dX4_find_91 rfl (lv_at hl 0 rfl) ?_
        replace h := o_b h; obtain ⟨x92, h92, h⟩ := h
        refine m_get (C := RX4) (T := TX4) (N := 8) (ci := 4) hx hb hts qi_X4_find_X4 hown hK.1 hM 0 (ldI_F h92) rfl (by decide) (hts _ q_X4_find_1) (fun _ h9 => h9) dX4_find_92 ?_
        refine lv_iload_n hx hb dX4_find_95 rfl (lv_at hl 3 rfl) ?_
        replace h := o_b h; obtain ⟨f96, h96, h⟩ := h
        refine m_iast hx hb hK.1 hM hS rfl h96 dX4_find_96 (fun H locs hM hS => ?_)
        refine lv_aload_n hx hb dX4_find_97 rfl (lv_at hl 0 rfl) ?_
        refine lv_dup hx hb dX4_find_98 rfl ?_
        replace h := o_b h; obtain ⟨x99, h99, h⟩ := h
        refine m_get (C := RX4) (T := TX4) (N := 8) (ci := 4) hx hb hts qi_X4_find_X4 hown hK.1 hM 0 (ldI_F h99) rfl (by decide) (hts _ q_X4_find_1) (fun _ h9 => h9) dX4_find_99 ?_
        refine lv_iconst (v := (1 : Int32)) hx hb dX4_find_102 (by decide) ?_
        refine lv_iadd hx hb dX4_find_103 ?_
        replace h := o_b h; obtain ⟨f104, h104, h⟩ := h
        refine m_put (ty := .int) (C := RX4) (T := TX4) (N := 8) (ci := 4) hx hb hts qi_X4_find_X4 tyX4 tyX4_ok nmX4 hown hK.1 hM hS 0 h104 rfl (by decide) (hts _ q_X4_find_1) (fun _ h9 => h9) rfl (by decide +kernel) rfl rfl dX4_find_104 (fun H locs hM hS => ?_)
        refine lv_aload_n hx hb dX4_find_107 rfl (lv_at hl 0 rfl) ?_
        replace h := o_b h; obtain ⟨x108, h108, h⟩ := h
        refine m_get (C := RX4) (T := TX4) (N := 8) (ci := 4) hx hb hts qi_X4_find_X4 hown hK.1 hM 0 (ldI_F h108) rfl (by decide) (hts _ q_X4_find_1) (fun _ h9 => h9) dX4_find_108 ?_
        refine lv_iconst (v := (1 : Int32)) hx hb dX4_find_111 (by decide) ?_
        refine lv_isub hx hb dX4_find_112 ?_
        replace h := Option.some.inj h; subst h
        exact W.iret hx hb hr (fun t ht hW => ⟨rfl, by rw [ht]; exact hM.moved hW.alike, hS.F ht⟩) hS.2.2 dX4_find_113
      replace h := o_f c62 h
      refine lv_iconst (v := (5 : Int32)) hx hb dX4_find_65 (by decide) ?_
      replace h := Option.some.inj h; subst h
      exact W.iret hx hb hr (fun t ht hW => ⟨rfl, by rw [ht]; exact hM.moved hW.alike, hS.F ht⟩) hS.2.2 dX4_find_66
    replace h := o_f c10 h
    refine lv_aload_n hx hb dX4_find_13 rfl (lv_at hl 0 rfl) ?_
    replace h := o_b h; obtain ⟨x14, h14, h⟩ := h
    refine m_get (C := RX4) (T := TX4) (N := 8) (ci := 4) hx hb hts qi_X4_find_X4 hown hK.1 hM 2 (ldR_F h14) rfl (by decide) (hts _ q_X4_find_3) (fun _ h9 => h9) dX4_find_14 ?_
    refine lv_iload hx hb dX4_find_17 (lv_at hl 4 rfl) ?_
    replace h := o_b h; obtain ⟨x19, h19, h⟩ := h
    refine m_iald hx hb hK.1 hM hS rfl h19 dX4_find_19 ?_
    refine lv_iload_n hx hb dX4_find_20 rfl (lv_at hl 2 rfl) ?_
    refine lv_icmp_ne (tgt := 49) hx hb dX4_find_21 (by decide) (fun c21 => ?_) (fun c21 => ?_)
    · replace h := o_f c21 h
      exact w_X4_find_49 C0 ih _ _ _ _ _ _ h _ _ _ hM hS (lv_sub hl [0, 1, 2, 3, 4] rfl)
    replace h := o_t c21 h
    refine lv_aload_n hx hb dX4_find_24 rfl (lv_at hl 0 rfl) ?_
    replace h := o_b h; obtain ⟨x25, h25, h⟩ := h
    refine m_get (C := RX4) (T := TX4) (N := 8) (ci := 4) hx hb hts qi_X4_find_X4 hown hK.1 hM 3 (ldR_F h25) rfl (by decide) (hts _ q_X4_find_4) (fun _ h9 => h9) dX4_find_25 ?_
    refine lv_iload hx hb dX4_find_28 (lv_at hl 4 rfl) ?_
    replace h := o_b h; obtain ⟨x30, h30, h⟩ := h
    refine m_iald hx hb hK.1 hM hS rfl h30 dX4_find_30 ?_
    refine lv_iload_n hx hb dX4_find_31 rfl (lv_at hl 3 rfl) ?_
    refine lv_icmp_ne (tgt := 49) hx hb dX4_find_32 (by decide) (fun c32 => ?_) (fun c32 => ?_)
    · replace h := o_f c32 h
      exact w_X4_find_49 C0 ih _ _ _ _ _ _ h _ _ _ hM hS (lv_sub hl [0, 1, 2, 3, 4] rfl)
    replace h := o_t c32 h
    refine lv_aload_n hx hb dX4_find_35 rfl (lv_at hl 0 rfl) ?_
    replace h := o_b h; obtain ⟨x36, h36, h⟩ := h
    refine m_get (C := RX4) (T := TX4) (N := 8) (ci := 4) hx hb hts qi_X4_find_X4 hown hK.1 hM 1 (ldR_F h36) rfl (by decide) (hts _ q_X4_find_2) (fun _ h9 => h9) dX4_find_36 ?_
    refine lv_iload hx hb dX4_find_39 (lv_at hl 4 rfl) ?_
    replace h := o_b h; obtain ⟨x41, h41, h⟩ := h
    refine m_iald hx hb hK.1 hM hS rfl h41 dX4_find_41 ?_
    refine lv_iload_n hx hb dX4_find_42 rfl (lv_at hl 1 rfl) ?_
    refine lv_icmp_ne (tgt := 49) hx hb dX4_find_43 (by decide) (fun c43 => ?_) (fun c43 => ?_)
    · replace h := o_f c43 h
      exact w_X4_find_49 C0 ih _ _ _ _ _ _ h _ _ _ hM hS (lv_sub hl [0, 1, 2, 3, 4] rfl)
    replace h := o_t c43 h
    refine lv_iload hx hb dX4_find_46 (lv_at hl 4 rfl) ?_
    replace h := Option.some.inj h; subst h
    exact W.iret hx hb hr (fun t ht hW => ⟨rfl, by rw [ht]; exact hM.moved hW.alike, hS.F ht⟩) hS.2.2 dX4_find_48
set_option maxHeartbeats 4000000 in
set_option maxRecDepth 100000 in
theorem w_X4_find (C0 : CX cX4_find 5 (some .int) wsX4_find RX4 p s m args meth c D b0) {v0 : Nat} {v1 : Int32} {v2 : Int32} {v3 : Int32} {res : Int32 × mmF} (h : f_X4_find v0 v1 v2 v3 f = some res) : ∀ (H : Heap) (locs : List Loc) (ls : Array Slot), MM vwCl D b0 f sz s H → mS b0 s H locs → lv_has ls 5 [(0, .ref v0), (1, .int v1), (2, .int v2), (3, .int v3)] → W p l e ({ frames := 0, cells := 0, slots := 0, locals := 0 } : Room) s m args below meth c H locs 0 0 (MQ below (QW D b0 (some (.int res.1)) res.2 sz) args s 0 0 (fun q => b0 ≤ q)) (F0 m 0 ls []) := by
  obtain ⟨hx, hb, hr, hml, hown, hts, hlocks, hK⟩ := id C0
  intro H locs ls hM hS hl
  unfold f_X4_find at h
  refine lv_bipush (v := (6 : Int32)) hx hb dX4_find_0 (by decide) ?_
  refine lv_istore (lv' := [(4, .int (6 : Int32)), (0, .ref v0), (1, .int v1), (2, .int v2), (3, .int v3)]) hx hb dX4_find_2 hl (by decide) rfl (fun ls hl => ?_)
  exact w_X4_find_4 C0 FU _ _ _ _ _ _ h _ _ _ hM hS (lv_sub hl [1, 2, 3, 4, 0] rfl)
set_option maxHeartbeats 4000000 in
set_option maxRecDepth 100000 in
theorem c_X4_find (l : Launch) (D : mmD) (b0 sz : Nat) {v0 : Nat} {v1 : Int32} {v2 : Int32} {v3 : Int32} {f : mmF} {res : Int32 × mmF} (h : f_X4_find v0 v1 v2 v3 f = some res) : Met l yX4_find wsX4_find ({ frames := 0, cells := 0, slots := 0, locals := 0 } : Room) (va_Pc [.ref v0, .int v1, .int v2, .int v3] (PW D b0 f sz)) (QW D b0 (some (.int res.1)) res.2 sz) 0 0 (fun q => b0 ≤ q) := by
  refine Met.ofW (cc := cX4_find) (maxL := 5) (ret := (some .int)) (by decide) rfl ?_
  intro p e s m args below meth c s₁ B hml hv
  obtain ⟨rfl, hM, hK⟩ := hv
  have hl := lv_entry ([.ref v0, .int v1, .int v2, .int v3]) (n := 5) (Nat.le_of_ble_eq_true rfl)
  rw [lg_entry_eq]
  generalize (lg_sl ([.ref v0, .int v1, .int v2, .int v3]) ++ List.replicate (5 - (lg_sl ([.ref v0, .int v1, .int v2, .int v3])).length) Slot.unset).toArray = ls at hl ⊢
  have hl : lv_has ls 5 [(0, .ref v0), (1, .int v1), (2, .int v2), (3, .int v3)] := hl
  exact w_X4_find ⟨B.exec, B.bytes, B.returns, hml, findClass_of_methodNamed B.named, atoms_spec (ws := wsX4_find) B.pre, B.notSynchronized, hK⟩ h s.heap [] ls hM va_S.rf hl
end S_X4_find
/-! X4_add -/
set_option maxRecDepth 20000 in
theorem qi_X4_add_X4 : ∀ w ∈ u_ws RX4 TX4 8, w ∈ wsX4_add := by decide +kernel
set_option maxRecDepth 20000 in
theorem q_X4_add_1 : Cond.fieldLink RX4 31 "StageTruths$Parts" "open" "[I" ∈ wsX4_add := by decide +kernel
set_option maxRecDepth 20000 in
theorem qi_X4_add_X0 : ∀ w ∈ u_ws RX0 TX0 2, w ∈ wsX4_add := by decide +kernel
set_option maxRecDepth 20000 in
theorem q_X4_add_3 : Cond.fieldLink RX4 49 "StageTruths$Claim" "size" "I" ∈ wsX4_add := by decide +kernel
set_option maxRecDepth 20000 in
theorem q_X4_add_4 : Cond.fieldLink RX4 52 "StageTruths$Claim" "signs" "[I" ∈ wsX4_add := by decide +kernel
set_option maxRecDepth 20000 in
theorem q_X4_add_5 : Cond.methodLink RX4 55 Lib.Math.max.name ∈ wsX4_add := by decide +kernel
set_option maxRecDepth 20000 in
theorem q_X4_add_6 : Cond.static Lib.Math.max.name ∈ wsX4_add := by decide +kernel
set_option maxRecDepth 20000 in
theorem q_X4_add_7 : Cond.initialized "java/lang/Math" ∈ wsX4_add := by decide +kernel
set_option maxRecDepth 20000 in
theorem q_X4_add_8 : Cond.code Lib.Math.max.name Lib.Math.max.code 2 (some .int) ∈ wsX4_add := by decide +kernel
set_option maxRecDepth 20000 in
theorem q_X4_add_9 : Cond.initialized RX9 ∈ wsX4_add := by decide +kernel
set_option maxRecDepth 20000 in
theorem q_X4_add_10 : Cond.static yX9_at ∈ wsX4_add := by decide +kernel
set_option maxRecDepth 20000 in
theorem q_X4_add_11 : Cond.fieldLink RX4 28 "StageTruths$Parts" "usedLeaves" "I" ∈ wsX4_add := by decide +kernel
noncomputable def f_X4_add_135 (k4 : Nat → Nat → Int32 → Int32 → mmF → Option (Int32 × mmF))  (v0 : Nat) (v1 : Nat) (v2 : Int32) (v3 : Int32) (f : mmF) : Option (Int32 × mmF) :=
  k4 v0 v1 v2 (v3 + (1 : Int32)) f
noncomputable def f_X4_add_115 (k4 : Nat → Nat → Int32 → Int32 → mmF → Option (Int32 × mmF))  (v0 : Nat) (v1 : Nat) (v2 : Int32) (v3 : Int32) (v5 : Int32) (f : mmF) : Option (Int32 × mmF) :=
  (ldR f v0 4 6).bind fun x117 =>
  (lenA f x117).bind fun x120 =>
  if x120 ≤ v2 then
  (f_X4_add_135 k4 v0 v1 v2 v3 f)
  else
  (ldR f v0 4 6).bind fun x125 =>
  (stA 0 f x125 v2 v5).bind fun f131 =>
  f_X4_add_135 k4 v0 v1 (v2 + (1 : Int32)) v3 f131
noncomputable def f_X4_add_4   : Nat → Nat → Nat → Int32 → Int32 → mmF → Option (Int32 × mmF)
  | 0, _, _, _, _, _ => none
  | n + 1, v0, v1, v2, v3, f =>
    (ldI f v1 0 0).bind fun x6 =>
    if x6 ≤ v3 then
    ((ldR f v0 4 6).bind fun x142 =>
    (ldA 0 f x142 (0 : Int32)).bind fun x146 =>
    some (x146, f))
    else
    (ldR f v1 0 1).bind fun x13 =>
    (ldA 0 f x13 v3).bind fun x17 =>
    if (5 : Int32) < x17 then
    (if x17 = (6 : Int32) then
    ((ldR f v0 4 6).bind fun x65 =>
    (f_X9_at x65 (if (0 : Int32) < (v2 - (1 : Int32)) then (v2 - (1 : Int32)) else (0 : Int32)) f).bind fun q69 =>
    (ckO f v0 4).bind fun _ =>
    (f_X4_find v0 (6 : Int32) q69 (5 : Int32) f).bind fun q73 =>
    f_X4_add_115 (fun a0 a1 a2 a3 a4 => f_X4_add_4 n a0 a1 a2 a3 a4) v0 v1 (if (0 : Int32) < (v2 - (1 : Int32)) then (v2 - (1 : Int32)) else (0 : Int32)) v3 q73.1 q73.2)
    else
    (ldR f v0 4 6).bind fun x93 =>
    (f_X9_at x93 (if (0 : Int32) < (v2 - (2 : Int32)) then (v2 - (2 : Int32)) else (0 : Int32)) f).bind fun q97 =>
    (ldR f v0 4 6).bind fun x101 =>
    (f_X9_at x101 ((if (0 : Int32) < (v2 - (2 : Int32)) then (v2 - (2 : Int32)) else (0 : Int32)) + (1 : Int32)) f).bind fun q107 =>
    (ckO f v0 4).bind fun _ =>
    (f_X4_find v0 x17 q97 q107 f).bind fun q110 =>
    f_X4_add_115 (fun a0 a1 a2 a3 a4 => f_X4_add_4 n a0 a1 a2 a3 a4) v0 v1 (if (0 : Int32) < (v2 - (2 : Int32)) then (v2 - (2 : Int32)) else (0 : Int32)) v3 q110.1 q110.2)
    else
    (ldI f v0 4 5).bind fun x32 =>
    (stF f v0 4 5 (.int (x32 ||| ((1 : Int32) <<< (x17 &&& 31))))).bind fun f40 =>
    f_X4_add_115 (fun a0 a1 a2 a3 a4 => f_X4_add_4 n a0 a1 a2 a3 a4) v0 v1 v2 v3 x17 f40
noncomputable def f_X4_add (v0 : Nat) (v1 : Nat) (f : mmF) : Option (Int32 × mmF) :=
  f_X4_add_4 FU v0 v1 (0 : Int32) (0 : Int32) f
section S_X4_add
variable {p : Program} {l : Launch} {e : Env} {s : State} {m : MethodId} {args : Array Value} {below : List Frame} {meth : Method} {c : Code} {D : mmD} {b0 sz : Nat} {f : mmF}
set_option maxHeartbeats 4000000 in
set_option maxRecDepth 100000 in
theorem w_X4_add_135 (C0 : CX cX4_add 6 (some .int) wsX4_add RX4 p s m args meth c D b0) {k4 : Nat → Nat → Int32 → Int32 → mmF → Option (Int32 × mmF)} {res : Int32 × mmF} (hk4 : ∀ (v0 : Nat) (v1 : Nat) (v2 : Int32) (v3 : Int32) (f : mmF), k4 v0 v1 v2 v3 f = some res → ∀ (H : Heap) (locs : List Loc) (ls : Array Slot), MM vwCl D b0 f sz s H → mS b0 s H locs → lv_has ls 6 [(0, .ref v0), (1, .ref v1), (2, .int v2), (3, .int v3)] → W p l e ({ frames := 1, cells := 0, slots := 0, locals := 24 } : Room) s m args below meth c H locs 0 0 (MQ below (QW D b0 (some (.int res.1)) res.2 sz) args s 0 0 (fun q => b0 ≤ q)) (F0 m 4 ls [])) : ∀ (v0 : Nat) (v1 : Nat) (v2 : Int32) (v3 : Int32) (f : mmF), f_X4_add_135 k4 v0 v1 v2 v3 f = some res → ∀ (H : Heap) (locs : List Loc) (ls : Array Slot), MM vwCl D b0 f sz s H → mS b0 s H locs → lv_has ls 6 [(0, .ref v0), (1, .ref v1), (2, .int v2), (3, .int v3)] → W p l e ({ frames := 1, cells := 0, slots := 0, locals := 24 } : Room) s m args below meth c H locs 0 0 (MQ below (QW D b0 (some (.int res.1)) res.2 sz) args s 0 0 (fun q => b0 ≤ q)) (F0 m 135 ls []) := by
  obtain ⟨hx, hb, hr, hml, hown, hts, hlocks, hK⟩ := id C0
  intro v0 v1 v2 v3 f h H locs ls hM hS hl
  unfold f_X4_add_135 at h
  refine lv_iinc (v := (v3 + (1 : Int32))) (lv' := [(3, .int (v3 + (1 : Int32))), (0, .ref v0), (1, .ref v1), (2, .int v2)]) hx hb dX4_add_135 hl (k := 3) rfl rfl (by decide) rfl (fun ls hl => ?_)
  refine lv_goto (tgt := 4) hx hb dX4_add_138 (by decide) ?_
  exact hk4 _ _ _ _ _ h _ _ _ hM hS (lv_sub hl [1, 2, 3, 0] rfl)
set_option maxHeartbeats 4000000 in
set_option maxRecDepth 100000 in
theorem w_X4_add_115 (C0 : CX cX4_add 6 (some .int) wsX4_add RX4 p s m args meth c D b0) {k4 : Nat → Nat → Int32 → Int32 → mmF → Option (Int32 × mmF)} {res : Int32 × mmF} (hk4 : ∀ (v0 : Nat) (v1 : Nat) (v2 : Int32) (v3 : Int32) (f : mmF), k4 v0 v1 v2 v3 f = some res → ∀ (H : Heap) (locs : List Loc) (ls : Array Slot), MM vwCl D b0 f sz s H → mS b0 s H locs → lv_has ls 6 [(0, .ref v0), (1, .ref v1), (2, .int v2), (3, .int v3)] → W p l e ({ frames := 1, cells := 0, slots := 0, locals := 24 } : Room) s m args below meth c H locs 0 0 (MQ below (QW D b0 (some (.int res.1)) res.2 sz) args s 0 0 (fun q => b0 ≤ q)) (F0 m 4 ls [])) : ∀ (v0 : Nat) (v1 : Nat) (v2 : Int32) (v3 : Int32) (v5 : Int32) (f : mmF), f_X4_add_115 k4 v0 v1 v2 v3 v5 f = some res → ∀ (H : Heap) (locs : List Loc) (ls : Array Slot), MM vwCl D b0 f sz s H → mS b0 s H locs → lv_has ls 6 [(0, .ref v0), (1, .ref v1), (2, .int v2), (3, .int v3), (5, .int v5)] → W p l e ({ frames := 1, cells := 0, slots := 0, locals := 24 } : Room) s m args below meth c H locs 0 0 (MQ below (QW D b0 (some (.int res.1)) res.2 sz) args s 0 0 (fun q => b0 ≤ q)) (F0 m 115 ls []) := by
  obtain ⟨hx, hb, hr, hml, hown, hts, hlocks, hK⟩ := id C0
  intro v0 v1 v2 v3 v5 f h H locs ls hM hS hl
  unfold f_X4_add_115 at h
  refine lv_iload_n hx hb dX4_add_115 rfl (lv_at hl 2 rfl) ?_
  refine lv_aload_n hx hb dX4_add_116 rfl (lv_at hl 0 rfl) ?_
  replace h := o_b h; obtain ⟨x117, h117, h⟩ := h
  refine m_get (C := RX4) (T := TX4) (N := 8) (ci := 4) hx hb hts qi_X4_add_X4 hown hK.1 hM 6 (ldR_F h117) rfl (by decide) (hts _ q_X4_add_1) (fun _ h9 => h9) dX4_add_117 ?_
  replace h := o_b h; obtain ⟨x120, h120, h⟩ := h
  refine m_alen hx hb hK.1 hM h120 dX4_add_120 ?_
  refine lv_icmp_ge (tgt := 135) hx hb dX4_add_121 (by decide) (fun c121 => ?_) (fun c121 => ?_)
  · replace h := o_t c121 h
    exact w_X4_add_135 C0 hk4 _ _ _ _ _ h _ _ _ hM hS (lv_sub hl [0, 1, 2, 3] rfl)
  replace h := o_f c121 h
  refine lv_aload_n hx hb dX4_add_124 rfl (lv_at hl 0 rfl) ?_
  replace h := o_b h; obtain ⟨x125, h125, h⟩ := h
  refine m_get (C := RX4) (T := TX4) (N := 8) (ci := 4) hx hb hts qi_X4_add_X4 hown hK.1 hM 6 (ldR_F h125) rfl (by decide) (hts _ q_X4_add_1) (fun _ h9 => h9) dX4_add_125 ?_
  refine lv_iload_n hx hb dX4_add_128 rfl (lv_at hl 2 rfl) ?_
  refine lv_iload hx hb dX4_add_129 (lv_at hl 4 rfl) ?_
  replace h := o_b h; obtain ⟨f131, h131, h⟩ := h
  refine m_iast hx hb hK.1 hM hS rfl h131 dX4_add_131 (fun H locs hM hS => ?_)
  refine lv_iinc (v := (v2 + (1 : Int32))) (lv' := [(2, .int (v2 + (1 : Int32))), (0, .ref v0), (1, .ref v1), (3, .int v3), (5, .int v5)]) hx hb dX4_add_132 hl (k := 2) rfl rfl (by decide) rfl (fun ls hl => ?_)
  exact w_X4_add_135 C0 hk4 _ _ _ _ _ h _ _ _ hM hS (lv_sub hl [1, 2, 0, 3] rfl)
set_option maxHeartbeats 4000000 in
set_option maxRecDepth 100000 in
theorem w_X4_add_4 (C0 : CX cX4_add 6 (some .int) wsX4_add RX4 p s m args meth c D b0) {res : Int32 × mmF} : ∀ (n : Nat), ∀ (v0 : Nat) (v1 : Nat) (v2 : Int32) (v3 : Int32) (f : mmF), f_X4_add_4 n v0 v1 v2 v3 f = some res → ∀ (H : Heap) (locs : List Loc) (ls : Array Slot), MM vwCl D b0 f sz s H → mS b0 s H locs → lv_has ls 6 [(0, .ref v0), (1, .ref v1), (2, .int v2), (3, .int v3)] → W p l e ({ frames := 1, cells := 0, slots := 0, locals := 24 } : Room) s m args below meth c H locs 0 0 (MQ below (QW D b0 (some (.int res.1)) res.2 sz) args s 0 0 (fun q => b0 ≤ q)) (F0 m 4 ls []) := by
  obtain ⟨hx, hb, hr, hml, hown, hts, hlocks, hK⟩ := id C0
  intro n
  induction n with
  | zero =>
    intro v0 v1 v2 v3 f h
    have h : (none : Option (Int32 × mmF)) = some res := h
    cases h
  | succ n ih =>
    intro v0 v1 v2 v3 f h H locs ls hM hS hl
    rw [f_X4_add_4] at h
    refine lv_iload_n hx hb dX4_add_4 rfl (lv_at hl 3 rfl) ?_
    refine lv_aload_n hx hb dX4_add_5 rfl (lv_at hl 1 rfl) ?_
    replace h := o_b h; obtain ⟨x6, h6, h⟩ := h
    refine m_get (C := RX0) (T := TX0) (N := 2) (ci := 0) hx hb hts qi_X4_add_X0 hown hK.1 hM 0 (ldI_F h6) rfl (by decide) (hts _ q_X4_add_3) (fun _ h9 => h9) dX4_add_6 ?_
    refine lv_icmp_ge (tgt := 141) hx hb dX4_add_9 (by decide) (fun c9 => ?_) (fun c9 => ?_)
    · replace h := o_t c9 h
      refine lv_aload_n hx hb dX4_add_141 rfl (lv_at hl 0 rfl) ?_
      replace h := o_b h; obtain ⟨x142, h142, h⟩ := h
      refine m_get (C := RX4) (T := TX4) (N := 8) (ci := 4) hx hb hts qi_X4_add_X4 hown hK.1 hM 6 (ldR_F h142) rfl (by decide) (hts _ q_X4_add_1) (fun _ h9 => h9) dX4_add_142 ?_
      refine lv_iconst (v := (0 : Int32)) hx hb dX4_add_145 (by decide) ?_
      replace h := o_b h; obtain ⟨x146, h146, h⟩ := h
      refine m_iald hx hb hK.1 hM hS rfl h146 dX4_add_146 ?_
      replace h := Option.some.inj h; subst h
      exact W.iret hx hb hr (fun t ht hW => ⟨rfl, by rw [ht]; exact hM.moved hW.alike, hS.F ht⟩) hS.2.2 dX4_add_147
    replace h := o_f c9 h
    refine lv_aload_n hx hb dX4_add_12 rfl (lv_at hl 1 rfl) ?_
    replace h := o_b h; obtain ⟨x13, h13, h⟩ := h
    refine m_get (C := RX0) (T := TX0) (N := 2) (ci := 0) hx hb hts qi_X4_add_X0 hown hK.1 hM 1 (ldR_F h13) rfl (by decide) (hts _ q_X4_add_4) (fun _ h9 => h9) dX4_add_13 ?_
    refine lv_iload_n hx hb dX4_add_16 rfl (lv_at hl 3 rfl) ?_
    replace h := o_b h; obtain ⟨x17, h17, h⟩ := h
    refine m_iald hx hb hK.1 hM hS rfl h17 dX4_add_17 ?_
    refine lv_istore (lv' := [(4, .int x17), (0, .ref v0), (1, .ref v1), (2, .int v2), (3, .int v3)]) hx hb dX4_add_18 hl (by decide) rfl (fun ls hl => ?_)
    refine lv_iload hx hb dX4_add_20 (lv_at hl 0 rfl) ?_
    refine lv_istore (lv' := [(5, .int x17), (4, .int x17), (0, .ref v0), (1, .ref v1), (2, .int v2), (3, .int v3)]) hx hb dX4_add_22 hl (by decide) rfl (fun ls hl => ?_)
    refine lv_iload hx hb dX4_add_24 (lv_at hl 1 rfl) ?_
    refine lv_iconst (v := (5 : Int32)) hx hb dX4_add_26 (by decide) ?_
    refine lv_icmp_gt (tgt := 46) hx hb dX4_add_27 (by decide) (fun c27 => ?_) (fun c27 => ?_)
    · replace h := o_t c27 h
      refine lv_iload hx hb dX4_add_46 (lv_at hl 1 rfl) ?_
      refine lv_bipush (v := (6 : Int32)) hx hb dX4_add_48 (by decide) ?_
      refine lv_icmp_ne (tgt := 81) hx hb dX4_add_50 (by decide) (fun c50 => ?_) (fun c50 => ?_)
      · replace h := o_f c50 h
        refine lv_iconst (v := (0 : Int32)) hx hb dX4_add_81 (by decide) ?_
        refine lv_iload_n hx hb dX4_add_82 rfl (lv_at hl 4 rfl) ?_
        refine lv_iconst (v := (2 : Int32)) hx hb dX4_add_83 (by decide) ?_
        refine lv_isub hx hb dX4_add_84 ?_
        refine va_mmax hx hb (hml.trans hl.1.symm) hown (hts _ q_X4_add_5) (hts _ q_X4_add_6) (hts _ q_X4_add_7) (hts _ q_X4_add_8) (Nat.le_of_ble_eq_true rfl) (Nat.le_of_ble_eq_true rfl) (Nat.zero_le _) (Nat.zero_le _) dX4_add_85 ?_
        refine lv_istore_n (lv' := [(2, .int (if (0 : Int32) < (v2 - (2 : Int32)) then (v2 - (2 : Int32)) else (0 : Int32))), (5, .int x17), (4, .int x17), (0, .ref v0), (1, .ref v1), (3, .int v3)]) hx hb dX4_add_88 rfl hl (by decide) rfl (fun ls hl => ?_)
        refine lv_aload_n hx hb dX4_add_89 rfl (lv_at hl 3 rfl) ?_
        refine lv_iload hx hb dX4_add_90 (lv_at hl 2 rfl) ?_
        refine lv_aload_n hx hb dX4_add_92 rfl (lv_at hl 3 rfl) ?_
        replace h := o_b h; obtain ⟨x93, h93, h⟩ := h
        refine m_get (C := RX4) (T := TX4) (N := 8) (ci := 4) hx hb hts qi_X4_add_X4 hown hK.1 hM 6 (ldR_F h93) rfl (by decide) (hts _ q_X4_add_1) (fun _ h9 => h9) dX4_add_93 ?_
        refine lv_iload_n hx hb dX4_add_96 rfl (lv_at hl 0 rfl) ?_
        replace h := o_b h; obtain ⟨q97, h97, h⟩ := h
        refine m_call (va_runSN (As := [.ref x93, .int (if (0 : Int32) < (v2 - (2 : Int32)) then (v2 - (2 : Int32)) else (0 : Int32))]) (rest := [.int x17, .ref v0]) ⟨hx, hb, hml, hown, hts⟩ (c_X9_at l D b0 sz h97) ⟨(va_cnB 2 hts gX4_add_X9_at_n45 rfl rfl rfl (hK.2.1 (RX4, 45, yX9_at, "StageTruths") (by decide)) (hts _ q_X4_add_9) (by decide +kernel) ⟨Nat.le_of_ble_eq_true rfl, Nat.le_of_ble_eq_true rfl⟩), (hts _ q_X4_add_10), trivial⟩ ⟨PW.blind, (fun U hU hW => ⟨rfl, PW.call hK hM hS hU hW⟩)⟩ rfl rfl hl.1 rfl (lv_room (Nat.le_of_ble_eq_true rfl)) dX4_add_97 ⟨(Nat.le_refl _), (Nat.le_refl _)⟩) hS (fun H locs hM hS => ?_)
        refine lv_aload_n hx hb dX4_add_100 rfl (lv_at hl 3 rfl) ?_
        replace h := o_b h; obtain ⟨x101, h101, h⟩ := h
        refine m_get (C := RX4) (T := TX4) (N := 8) (ci := 4) hx hb hts qi_X4_add_X4 hown hK.1 hM 6 (ldR_F h101) rfl (by decide) (hts _ q_X4_add_1) (fun _ h9 => h9) dX4_add_101 ?_
        refine lv_iload_n hx hb dX4_add_104 rfl (lv_at hl 0 rfl) ?_
        refine lv_iconst (v := (1 : Int32)) hx hb dX4_add_105 (by decide) ?_
        refine lv_iadd hx hb dX4_add_106 ?_
        replace h := o_b h; obtain ⟨q107, h107, h⟩ := h
        refine m_call (va_runSN (As := [.ref x101, .int ((if (0 : Int32) < (v2 - (2 : Int32)) then (v2 - (2 : Int32)) else (0 : Int32)) + (1 : Int32))]) (rest := [.int q97, .int x17, .ref v0]) ⟨hx, hb, hml, hown, hts⟩ (c_X9_at l D b0 sz h107) ⟨(va_cnB 2 hts gX4_add_X9_at_n45 rfl rfl rfl (hK.2.1 (RX4, 45, yX9_at, "StageTruths") (by decide)) (hts _ q_X4_add_9) (by decide +kernel) ⟨Nat.le_of_ble_eq_true rfl, Nat.le_of_ble_eq_true rfl⟩), (hts _ q_X4_add_10), trivial⟩ ⟨PW.blind, (fun U hU hW => ⟨rfl, PW.call hK hM hS hU hW⟩)⟩ rfl rfl hl.1 rfl (lv_room (Nat.le_of_ble_eq_true rfl)) dX4_add_107 ⟨(Nat.le_refl _), (Nat.le_refl _)⟩) hS (fun H locs hM hS => ?_)
        replace h := o_b h; obtain ⟨_, k110, h⟩ := h
        replace h := o_b h; obtain ⟨q110, h110, h⟩ := h
        refine m_call (va_runV (As := [.int x17, .int q97, .int q107]) (rest := []) ⟨hx, hb, hml, hown, hts⟩ (c_X4_find l D b0 sz h110) (cwV 3 hts gX4_add_X4_find rfl rfl rfl (by decide +kernel) ⟨Nat.le_of_ble_eq_true rfl, Nat.le_of_ble_eq_true rfl⟩) ⟨PW.blind, m_recv (ci := 4) rfl hK hM k110, (fun U hU hW => ⟨rfl, PW.call hK hM hS hU hW⟩)⟩ rfl rfl hl.1 rfl (lv_room (Nat.le_of_ble_eq_true rfl)) dX4_add_110 ⟨(Nat.le_refl _), (Nat.le_refl _)⟩) hS (fun H locs hM hS => ?_)
        refine lv_istore (lv' := [(5, .int q110.1), (2, .int (if (0 : Int32) < (v2 - (2 : Int32)) then (v2 - (2 : Int32)) else (0 : Int32))), (4, .int x17), (0, .ref v0), (1, .ref v1), (3, .int v3)]) hx hb dX4_add_113 hl (by decide) rfl (fun ls hl => ?_)
        exact w_X4_add_115 C0 ih _ _ _ _ _ _ h _ _ _ hM hS (lv_sub hl [3, 4, 1, 5, 0] rfl)
      replace h := o_t c50 h
      refine lv_iconst (v := (0 : Int32)) hx hb dX4_add_53 (by decide) ?_
      refine lv_iload_n hx hb dX4_add_54 rfl (lv_at hl 4 rfl) ?_
      refine lv_iconst (v := (1 : Int32)) hx hb dX4_add_55 (by decide) ?_
      refine lv_isub hx hb dX4_add_56 ?_
      refine va_mmax hx hb (hml.trans hl.1.symm) hown (hts _ q_X4_add_5) (hts _ q_X4_add_6) (hts _ q_X4_add_7) (hts _ q_X4_add_8) (Nat.le_of_ble_eq_true rfl) (Nat.le_of_ble_eq_true rfl) (Nat.zero_le _) (Nat.zero_le _) dX4_add_57 ?_
      refine lv_istore_n (lv' := [(2, .int (if (0 : Int32) < (v2 - (1 : Int32)) then (v2 - (1 : Int32)) else (0 : Int32))), (5, .int x17), (4, .int x17), (0, .ref v0), (1, .ref v1), (3, .int v3)]) hx hb dX4_add_60 rfl hl (by decide) rfl (fun ls hl => ?_)
      refine lv_aload_n hx hb dX4_add_61 rfl (lv_at hl 3 rfl) ?_
      refine lv_bipush (v := (6 : Int32)) hx hb dX4_add_62 (by decide) ?_
      refine lv_aload_n hx hb dX4_add_64 rfl (lv_at hl 3 rfl) ?_
      replace h := o_b h; obtain ⟨x65, h65, h⟩ := h
      refine m_get (C := RX4) (T := TX4) (N := 8) (ci := 4) hx hb hts qi_X4_add_X4 hown hK.1 hM 6 (ldR_F h65) rfl (by decide) (hts _ q_X4_add_1) (fun _ h9 => h9) dX4_add_65 ?_
      refine lv_iload_n hx hb dX4_add_68 rfl (lv_at hl 0 rfl) ?_
      replace h := o_b h; obtain ⟨q69, h69, h⟩ := h
      refine m_call (va_runSN (As := [.ref x65, .int (if (0 : Int32) < (v2 - (1 : Int32)) then (v2 - (1 : Int32)) else (0 : Int32))]) (rest := [.int (6 : Int32), .ref v0]) ⟨hx, hb, hml, hown, hts⟩ (c_X9_at l D b0 sz h69) ⟨(va_cnB 2 hts gX4_add_X9_at_n45 rfl rfl rfl (hK.2.1 (RX4, 45, yX9_at, "StageTruths") (by decide)) (hts _ q_X4_add_9) (by decide +kernel) ⟨Nat.le_of_ble_eq_true rfl, Nat.le_of_ble_eq_true rfl⟩), (hts _ q_X4_add_10), trivial⟩ ⟨PW.blind, (fun U hU hW => ⟨rfl, PW.call hK hM hS hU hW⟩)⟩ rfl rfl hl.1 rfl (lv_room (Nat.le_of_ble_eq_true rfl)) dX4_add_69 ⟨(Nat.le_refl _), (Nat.le_refl _)⟩) hS (fun H locs hM hS => ?_)
      refine lv_iconst (v := (5 : Int32)) hx hb dX4_add_72 (by decide) ?_
      replace h := o_b h; obtain ⟨_, k73, h⟩ := h
      replace h := o_b h; obtain ⟨q73, h73, h⟩ := h
      refine m_call (va_runV (As := [.int (6 : Int32), .int q69, .int (5 : Int32)]) (rest := []) ⟨hx, hb, hml, hown, hts⟩ (c_X4_find l D b0 sz h73) (cwV 3 hts gX4_add_X4_find rfl rfl rfl (by decide +kernel) ⟨Nat.le_of_ble_eq_true rfl, Nat.le_of_ble_eq_true rfl⟩) ⟨PW.blind, m_recv (ci := 4) rfl hK hM k73, (fun U hU hW => ⟨rfl, PW.call hK hM hS hU hW⟩)⟩ rfl rfl hl.1 rfl (lv_room (Nat.le_of_ble_eq_true rfl)) dX4_add_73 ⟨(Nat.le_refl _), (Nat.le_refl _)⟩) hS (fun H locs hM hS => ?_)
      refine lv_istore (lv' := [(5, .int q73.1), (2, .int (if (0 : Int32) < (v2 - (1 : Int32)) then (v2 - (1 : Int32)) else (0 : Int32))), (4, .int x17), (0, .ref v0), (1, .ref v1), (3, .int v3)]) hx hb dX4_add_76 hl (by decide) rfl (fun ls hl => ?_)
      refine lv_goto (tgt := 115) hx hb dX4_add_78 (by decide) ?_
      exact w_X4_add_115 C0 ih _ _ _ _ _ _ h _ _ _ hM hS (lv_sub hl [3, 4, 1, 5, 0] rfl)
    replace h := o_f c27 h
    refine lv_aload_n hx hb dX4_add_30 rfl (lv_at hl 2 rfl) ?_
    refine lv_dup hx hb dX4_add_31 rfl ?_
    replace h := o_b h; obtain ⟨x32, h32, h⟩ := h
    refine m_get (C := RX4) (T := TX4) (N := 8) (ci := 4) hx hb hts qi_X4_add_X4 hown hK.1 hM 5 (ldI_F h32) rfl (by decide) (hts _ q_X4_add_11) (fun _ h9 => h9) dX4_add_32 ?_
    refine lv_iconst (v := (1 : Int32)) hx hb dX4_add_35 (by decide) ?_
    refine lv_iload hx hb dX4_add_36 (lv_at hl 1 rfl) ?_
    refine lv_ishl hx hb dX4_add_38 ?_
    refine lv_ior hx hb dX4_add_39 ?_
    replace h := o_b h; obtain ⟨f40, h40, h⟩ := h
    refine m_put (ty := .int) (C := RX4) (T := TX4) (N := 8) (ci := 4) hx hb hts qi_X4_add_X4 tyX4 tyX4_ok nmX4 hown hK.1 hM hS 5 h40 rfl (by decide) (hts _ q_X4_add_11) (fun _ h9 => h9) rfl (by decide +kernel) rfl rfl dX4_add_40 (fun H locs hM hS => ?_)
    refine lv_goto (tgt := 115) hx hb dX4_add_43 (by decide) ?_
    exact w_X4_add_115 C0 ih _ _ _ _ _ _ h _ _ _ hM hS (lv_sub hl [2, 3, 4, 5, 0] rfl)
set_option maxHeartbeats 4000000 in
set_option maxRecDepth 100000 in
theorem w_X4_add (C0 : CX cX4_add 6 (some .int) wsX4_add RX4 p s m args meth c D b0) {v0 : Nat} {v1 : Nat} {res : Int32 × mmF} (h : f_X4_add v0 v1 f = some res) : ∀ (H : Heap) (locs : List Loc) (ls : Array Slot), MM vwCl D b0 f sz s H → mS b0 s H locs → lv_has ls 6 [(0, .ref v0), (1, .ref v1)] → W p l e ({ frames := 1, cells := 0, slots := 0, locals := 24 } : Room) s m args below meth c H locs 0 0 (MQ below (QW D b0 (some (.int res.1)) res.2 sz) args s 0 0 (fun q => b0 ≤ q)) (F0 m 0 ls []) := by
  obtain ⟨hx, hb, hr, hml, hown, hts, hlocks, hK⟩ := id C0
  intro H locs ls hM hS hl
  unfold f_X4_add at h
  refine lv_iconst (v := (0 : Int32)) hx hb dX4_add_0 (by decide) ?_
  refine lv_istore_n (lv' := [(2, .int (0 : Int32)), (0, .ref v0), (1, .ref v1)]) hx hb dX4_add_1 rfl hl (by decide) rfl (fun ls hl => ?_)
  refine lv_iconst (v := (0 : Int32)) hx hb dX4_add_2 (by decide) ?_
  refine lv_istore_n (lv' := [(3, .int (0 : Int32)), (2, .int (0 : Int32)), (0, .ref v0), (1, .ref v1)]) hx hb dX4_add_3 rfl hl (by decide) rfl (fun ls hl => ?_)
  exact w_X4_add_4 C0 FU _ _ _ _ _ h _ _ _ hM hS (lv_sub hl [2, 3, 1, 0] rfl)
set_option maxHeartbeats 4000000 in
set_option maxRecDepth 100000 in
theorem c_X4_add (l : Launch) (D : mmD) (b0 sz : Nat) {v0 : Nat} {v1 : Nat} {f : mmF} {res : Int32 × mmF} (h : f_X4_add v0 v1 f = some res) : Met l yX4_add wsX4_add ({ frames := 1, cells := 0, slots := 0, locals := 24 } : Room) (va_Pc [.ref v0, .ref v1] (PW D b0 f sz)) (QW D b0 (some (.int res.1)) res.2 sz) 0 0 (fun q => b0 ≤ q) := by
  refine Met.ofW (cc := cX4_add) (maxL := 6) (ret := (some .int)) (by decide) rfl ?_
  intro p e s m args below meth c s₁ B hml hv
  obtain ⟨rfl, hM, hK⟩ := hv
  have hl := lv_entry ([.ref v0, .ref v1]) (n := 6) (Nat.le_of_ble_eq_true rfl)
  rw [lg_entry_eq]
  generalize (lg_sl ([.ref v0, .ref v1]) ++ List.replicate (6 - (lg_sl ([.ref v0, .ref v1])).length) Slot.unset).toArray = ls at hl ⊢
  have hl : lv_has ls 6 [(0, .ref v0), (1, .ref v1)] := hl
  exact w_X4_add ⟨B.exec, B.bytes, B.returns, hml, findClass_of_methodNamed B.named, atoms_spec (ws := wsX4_add) B.pre, B.notSynchronized, hK⟩ h s.heap [] ls hM va_S.rf hl
end S_X4_add
/-! X4_take -/
set_option maxRecDepth 20000 in
theorem qi_X4_take_X4 : ∀ w ∈ u_ws RX4 TX4 8, w ∈ wsX4_take := by decide +kernel
set_option maxRecDepth 20000 in
theorem q_X4_take_1 : Cond.fieldLink RX4 25 "StageTruths$Parts" "wholes" "[I" ∈ wsX4_take := by decide +kernel
set_option maxRecDepth 20000 in
theorem q_X4_take_2 : Cond.initialized RX9 ∈ wsX4_take := by decide +kernel
set_option maxRecDepth 20000 in
theorem q_X4_take_3 : Cond.static yX9_has ∈ wsX4_take := by decide +kernel
set_option maxRecDepth 20000 in
theorem q_X4_take_4 : Cond.fieldLink RX4 11 "StageTruths$Parts" "size" "I" ∈ wsX4_take := by decide +kernel
set_option maxRecDepth 20000 in
theorem q_X4_take_5 : Cond.fieldLink RX4 28 "StageTruths$Parts" "usedLeaves" "I" ∈ wsX4_take := by decide +kernel
noncomputable def f_X4_take_57 (k13 : Nat → Nat → Int32 → Int32 → mmF → Option (mmF))  (v0 : Nat) (v1 : Nat) (v2 : Int32) (v3 : Int32) (t0 : Nat) (t1 : Int32) (t2 : Int32) (f : mmF) : Option (mmF) :=
  (stA 0 f t0 t1 t2).bind fun f57 =>
  k13 v0 v1 v2 (v3 + (1 : Int32)) f57
noncomputable def f_X4_take_56 (k13 : Nat → Nat → Int32 → Int32 → mmF → Option (mmF))  (v0 : Nat) (v1 : Nat) (v2 : Int32) (v3 : Int32) (t0 : Nat) (t1 : Int32) (f : mmF) : Option (mmF) :=
  f_X4_take_57 k13 v0 v1 v2 v3 t0 t1 (4 : Int32) f
noncomputable def f_X4_take_13   : Nat → Nat → Nat → Int32 → Int32 → mmF → Option (mmF)
  | 0, _, _, _, _, _ => none
  | n + 1, v0, v1, v2, v3, f =>
    if (5 : Int32) ≤ v3 then
    (some (f))
    else
    (lenA f v1).bind fun x20 =>
    if x20 ≤ v3 then
    (some (f))
    else
    (ldQ 3 f v1 v3).bind fun x26 =>
    (ldR f v0 4 4).bind fun x30 =>
    qc x26 (f_X4_take_56 (fun a0 a1 a2 a3 a4 => f_X4_take_13 n a0 a1 a2 a3 a4) v0 v1 v2 v3 x30 v3 f) (fun r36 =>
    (f_X9_has v2 v3 f).bind fun q41 =>
    if q41 = 0 then
    (f_X4_take_56 (fun a0 a1 a2 a3 a4 => f_X4_take_13 n a0 a1 a2 a3 a4) v0 v1 v2 v3 x30 v3 f)
    else
    (ckO f v0 4).bind fun _ =>
    (f_X4_add v0 r36 f).bind fun q50 =>
    f_X4_take_57 (fun a0 a1 a2 a3 a4 => f_X4_take_13 n a0 a1 a2 a3 a4) v0 v1 v2 v3 x30 v3 q50.1 q50.2)
noncomputable def f_X4_take (v0 : Nat) (v1 : Nat) (v2 : Int32) (f : mmF) : Option (mmF) :=
  (stF f v0 4 0 (.int (6 : Int32))).bind fun f3 =>
  (stF f3 v0 4 5 (.int (0 : Int32))).bind fun f8 =>
  f_X4_take_13 FU v0 v1 v2 (0 : Int32) f8
section S_X4_take
variable {p : Program} {l : Launch} {e : Env} {s : State} {m : MethodId} {args : Array Value} {below : List Frame} {meth : Method} {c : Code} {D : mmD} {b0 sz : Nat} {f : mmF}
set_option maxHeartbeats 4000000 in
set_option maxRecDepth 100000 in
theorem w_X4_take_57 (C0 : CX cX4_take 5 none wsX4_take RX4 p s m args meth c D b0) {k13 : Nat → Nat → Int32 → Int32 → mmF → Option (mmF)} {res : mmF} (hk13 : ∀ (v0 : Nat) (v1 : Nat) (v2 : Int32) (v3 : Int32) (f : mmF), k13 v0 v1 v2 v3 f = some res → ∀ (H : Heap) (locs : List Loc) (ls : Array Slot), MM vwCl D b0 f sz s H → mS b0 s H locs → lv_has ls 5 [(0, .ref v0), (1, .ref v1), (2, .int v2), (3, .int v3)] → W p l e ({ frames := 2, cells := 0, slots := 0, locals := 49 } : Room) s m args below meth c H locs 0 0 (MQ below (QW D b0 none res sz) args s 0 0 (fun q => b0 ≤ q)) (F0 m 13 ls [])) : ∀ (v0 : Nat) (v1 : Nat) (v2 : Int32) (v3 : Int32) (t0 : Nat) (t1 : Int32) (t2 : Int32) (f : mmF), f_X4_take_57 k13 v0 v1 v2 v3 t0 t1 t2 f = some res → ∀ (H : Heap) (locs : List Loc) (ls : Array Slot), MM vwCl D b0 f sz s H → mS b0 s H locs → lv_has ls 5 [(0, .ref v0), (1, .ref v1), (2, .int v2), (3, .int v3)] → W p l e ({ frames := 2, cells := 0, slots := 0, locals := 49 } : Room) s m args below meth c H locs 0 0 (MQ below (QW D b0 none res sz) args s 0 0 (fun q => b0 ≤ q)) (F0 m 57 ls [.int t2, .int t1, .ref t0]) := by
  obtain ⟨hx, hb, hr, hml, hown, hts, hlocks, hK⟩ := id C0
  intro v0 v1 v2 v3 t0 t1 t2 f h H locs ls hM hS hl
  unfold f_X4_take_57 at h
  replace h := o_b h; obtain ⟨f57, h57, h⟩ := h
  refine m_iast hx hb hK.1 hM hS rfl h57 dX4_take_57 (fun H locs hM hS => ?_)
  refine lv_iinc (v := (v3 + (1 : Int32))) (lv' := [(3, .int (v3 + (1 : Int32))), (0, .ref v0), (1, .ref v1), (2, .int v2)]) hx hb dX4_take_58 hl (k := 3) rfl rfl (by decide) rfl (fun ls hl => ?_)
  refine lv_goto (tgt := 13) hx hb dX4_take_61 (by decide) ?_
  exact hk13 _ _ _ _ _ h _ _ _ hM hS (lv_sub hl [1, 2, 3, 0] rfl)
set_option maxHeartbeats 4000000 in
set_option maxRecDepth 100000 in
theorem w_X4_take_56 (C0 : CX cX4_take 5 none wsX4_take RX4 p s m args meth c D b0) {k13 : Nat → Nat → Int32 → Int32 → mmF → Option (mmF)} {res : mmF} (hk13 : ∀ (v0 : Nat) (v1 : Nat) (v2 : Int32) (v3 : Int32) (f : mmF), k13 v0 v1 v2 v3 f = some res → ∀ (H : Heap) (locs : List Loc) (ls : Array Slot), MM vwCl D b0 f sz s H → mS b0 s H locs → lv_has ls 5 [(0, .ref v0), (1, .ref v1), (2, .int v2), (3, .int v3)] → W p l e ({ frames := 2, cells := 0, slots := 0, locals := 49 } : Room) s m args below meth c H locs 0 0 (MQ below (QW D b0 none res sz) args s 0 0 (fun q => b0 ≤ q)) (F0 m 13 ls [])) : ∀ (v0 : Nat) (v1 : Nat) (v2 : Int32) (v3 : Int32) (t0 : Nat) (t1 : Int32) (f : mmF), f_X4_take_56 k13 v0 v1 v2 v3 t0 t1 f = some res → ∀ (H : Heap) (locs : List Loc) (ls : Array Slot), MM vwCl D b0 f sz s H → mS b0 s H locs → lv_has ls 5 [(0, .ref v0), (1, .ref v1), (2, .int v2), (3, .int v3)] → W p l e ({ frames := 2, cells := 0, slots := 0, locals := 49 } : Room) s m args below meth c H locs 0 0 (MQ below (QW D b0 none res sz) args s 0 0 (fun q => b0 ≤ q)) (F0 m 56 ls [.int t1, .ref t0]) := by
  obtain ⟨hx, hb, hr, hml, hown, hts, hlocks, hK⟩ := id C0
  intro v0 v1 v2 v3 t0 t1 f h H locs ls hM hS hl
  unfold f_X4_take_56 at h
  refine lv_iconst (v := (4 : Int32)) hx hb dX4_take_56 (by decide) ?_
  exact w_X4_take_57 C0 hk13 _ _ _ _ _ _ _ _ h _ _ _ hM hS (lv_sub hl [0, 1, 2, 3] rfl)
set_option maxHeartbeats 4000000 in
set_option maxRecDepth 100000 in
theorem w_X4_take_13 (C0 : CX cX4_take 5 none wsX4_take RX4 p s m args meth c D b0) {res : mmF} : ∀ (n : Nat), ∀ (v0 : Nat) (v1 : Nat) (v2 : Int32) (v3 : Int32) (f : mmF), f_X4_take_13 n v0 v1 v2 v3 f = some res → ∀ (H : Heap) (locs : List Loc) (ls : Array Slot), MM vwCl D b0 f sz s H → mS b0 s H locs → lv_has ls 5 [(0, .ref v0), (1, .ref v1), (2, .int v2), (3, .int v3)] → W p l e ({ frames := 2, cells := 0, slots := 0, locals := 49 } : Room) s m args below meth c H locs 0 0 (MQ below (QW D b0 none res sz) args s 0 0 (fun q => b0 ≤ q)) (F0 m 13 ls []) := by
  obtain ⟨hx, hb, hr, hml, hown, hts, hlocks, hK⟩ := id C0
  intro n
  induction n with
  | zero =>
    intro v0 v1 v2 v3 f h
    have h : (none : Option (mmF)) = some res := h
    cases h
  | succ n ih =>
    intro v0 v1 v2 v3 f h H locs ls hM hS hl
    rw [f_X4_take_13] at h
    refine lv_iload_n hx hb dX4_take_13 rfl (lv_at hl 3 rfl) ?_
    refine lv_iconst (v := (5 : Int32)) hx hb dX4_take_14 (by decide) ?_
    refine lv_icmp_ge (tgt := 64) hx hb dX4_take_15 (by decide) (fun c15 => ?_) (fun c15 => ?_)
    · replace h := o_t c15 h
      replace h := Option.some.inj h; subst h
      exact W.vret hx hb hr (fun t ht hW => ⟨rfl, by rw [ht]; exact hM.moved hW.alike, hS.F ht⟩) hS.2.2 dX4_take_64
    replace h := o_f c15 h
    refine lv_iload_n hx hb dX4_take_18 rfl (lv_at hl 3 rfl) ?_
    refine lv_aload_n hx hb dX4_take_19 rfl (lv_at hl 1 rfl) ?_
    replace h := o_b h; obtain ⟨x20, h20, h⟩ := h
    refine m_alen hx hb hK.1 hM h20 dX4_take_20 ?_
    refine lv_icmp_ge (tgt := 64) hx hb dX4_take_21 (by decide) (fun c21 => ?_) (fun c21 => ?_)
    · replace h := o_t c21 h
      replace h := Option.some.inj h; subst h
      exact W.vret hx hb hr (fun t ht hW => ⟨rfl, by rw [ht]; exact hM.moved hW.alike, hS.F ht⟩) hS.2.2 dX4_take_64
    replace h := o_f c21 h
    refine lv_aload_n hx hb dX4_take_24 rfl (lv_at hl 1 rfl) ?_
    refine lv_iload_n hx hb dX4_take_25 rfl (lv_at hl 3 rfl) ?_
    replace h := o_b h; obtain ⟨x26, h26, h⟩ := h
    refine m_aldq 3 (by decide) rfl hx hb hK.1 hM h26 dX4_take_26 ?_
    refine m_astore (lv' := [(4, va_rf x26), (0, .ref v0), (1, .ref v1), (2, .int v2), (3, .int v3)]) hx hb dX4_take_27 hl (by decide) rfl (fun ls hl => ?_)
    refine lv_aload_n hx hb dX4_take_29 rfl (lv_at hl 1 rfl) ?_
    replace h := o_b h; obtain ⟨x30, h30, h⟩ := h
    refine m_get (C := RX4) (T := TX4) (N := 8) (ci := 4) hx hb hts qi_X4_take_X4 hown hK.1 hM 4 (ldR_F h30) rfl (by decide) (hts _ q_X4_take_1) (fun _ h9 => h9) dX4_take_30 ?_
    refine lv_iload_n hx hb dX4_take_33 rfl (lv_at hl 4 rfl) ?_
    refine m_aload hx hb dX4_take_34 (lv_at hl 0 rfl) ?_
    rcases x26 with _ | r36
    · replace h := qc_n h
      refine lv_ifnullN (tgt := 56) hx hb dX4_take_36 (by decide) ?_
      exact w_X4_take_56 C0 ih _ _ _ _ _ _ _ h _ _ _ hM hS (lv_sub hl [1, 2, 3, 4] rfl)
    replace h := qc_s h
    refine lv_ifnull hx hb dX4_take_36 ?_
    refine lv_iload_n hx hb dX4_take_39 rfl (lv_at hl 3 rfl) ?_
    refine lv_iload_n hx hb dX4_take_40 rfl (lv_at hl 4 rfl) ?_
    replace h := o_b h; obtain ⟨q41, h41, h⟩ := h
    refine m_call (va_runSN (As := [.int v2, .int v3]) (rest := [.int v3, .ref x30]) ⟨hx, hb, hml, hown, hts⟩ (c_X9_has l D b0 sz h41) ⟨(va_cnB 2 hts gX4_take_X9_has_n37 rfl rfl rfl (hK.2.1 (RX4, 37, yX9_has, "StageTruths") (by decide)) (hts _ q_X4_take_2) (by decide +kernel) ⟨Nat.le_of_ble_eq_true rfl, Nat.le_of_ble_eq_true rfl⟩), (hts _ q_X4_take_3), trivial⟩ ⟨PW.blind, (fun U hU hW => ⟨rfl, PW.call hK hM hS hU hW⟩)⟩ rfl rfl hl.1 rfl (lv_room (Nat.le_of_ble_eq_true rfl)) dX4_take_41 ⟨(Nat.le_refl _), (Nat.le_refl _)⟩) hS (fun H locs hM hS => ?_)
    refine lv_if_eq (tgt := 56) hx hb dX4_take_44 (by decide) (fun c44 => ?_) (fun c44 => ?_)
    · replace h := o_t c44 h
      exact w_X4_take_56 C0 ih _ _ _ _ _ _ _ h _ _ _ hM hS (lv_sub hl [1, 2, 3, 4] rfl)
    replace h := o_f c44 h
    refine lv_aload_n hx hb dX4_take_47 rfl (lv_at hl 1 rfl) ?_
    refine lv_aload hx hb dX4_take_48 (lv_at hl 0 rfl) ?_
    replace h := o_b h; obtain ⟨_, k50, h⟩ := h
    replace h := o_b h; obtain ⟨q50, h50, h⟩ := h
    refine m_call (va_runV (As := [.ref r36]) (rest := [.int v3, .ref x30]) ⟨hx, hb, hml, hown, hts⟩ (c_X4_add l D b0 sz h50) (cwV 1 hts gX4_take_X4_add rfl rfl rfl (by decide +kernel) ⟨Nat.le_of_ble_eq_true rfl, Nat.le_of_ble_eq_true rfl⟩) ⟨PW.blind, m_recv (ci := 4) rfl hK hM k50, (fun U hU hW => ⟨rfl, PW.call hK hM hS hU hW⟩)⟩ rfl rfl hl.1 rfl (lv_room (Nat.le_of_ble_eq_true rfl)) dX4_take_50 ⟨(Nat.le_refl _), (Nat.le_refl _)⟩) hS (fun H locs hM hS => ?_)
    refine lv_goto (tgt := 57) hx hb dX4_take_53 (by decide) ?_
    exact w_X4_take_57 C0 ih _ _ _ _ _ _ _ _ h _ _ _ hM hS (lv_sub hl [1, 2, 3, 4] rfl)
set_option maxHeartbeats 4000000 in
set_option maxRecDepth 100000 in
theorem w_X4_take (C0 : CX cX4_take 5 none wsX4_take RX4 p s m args meth c D b0) {v0 : Nat} {v1 : Nat} {v2 : Int32} {res : mmF} (h : f_X4_take v0 v1 v2 f = some res) : ∀ (H : Heap) (locs : List Loc) (ls : Array Slot), MM vwCl D b0 f sz s H → mS b0 s H locs → lv_has ls 5 [(0, .ref v0), (1, .ref v1), (2, .int v2)] → W p l e ({ frames := 2, cells := 0, slots := 0, locals := 49 } : Room) s m args below meth c H locs 0 0 (MQ below (QW D b0 none res sz) args s 0 0 (fun q => b0 ≤ q)) (F0 m 0 ls []) := by
  obtain ⟨hx, hb, hr, hml, hown, hts, hlocks, hK⟩ := id C0
  intro H locs ls hM hS hl
  unfold f_X4_take at h
  refine lv_aload_n hx hb dX4_take_0 rfl (lv_at hl 0 rfl) ?_
  refine lv_bipush (v := (6 : Int32)) hx hb dX4_take_1 (by decide) ?_
  replace h := o_b h; obtain ⟨f3, h3, h⟩ := h
  refine m_put (ty := .int) (C := RX4) (T := TX4) (N := 8) (ci := 4) hx hb hts qi_X4_take_X4 tyX4 tyX4_ok nmX4 hown hK.1 hM hS 0 h3 rfl (by decide) (hts _ q_X4_take_4) (fun _ h9 => h9) rfl (by decide +kernel) rfl rfl dX4_take_3 (fun H locs hM hS => ?_)
  refine lv_aload_n hx hb dX4_take_6 rfl (lv_at hl 0 rfl) ?_
  refine lv_iconst (v := (0 : Int32)) hx hb dX4_take_7 (by decide) ?_
  replace h := o_b h; obtain ⟨f8, h8, h⟩ := h
  refine m_put (ty := .int) (C := RX4) (T := TX4) (N := 8) (ci := 4) hx hb hts qi_X4_take_X4 tyX4 tyX4_ok nmX4 hown hK.1 hM hS 5 h8 rfl (by decide) (hts _ q_X4_take_5) (fun _ h9 => h9) rfl (by decide +kernel) rfl rfl dX4_take_8 (fun H locs hM hS => ?_)
  refine lv_iconst (v := (0 : Int32)) hx hb dX4_take_11 (by decide) ?_
  refine lv_istore_n (lv' := [(3, .int (0 : Int32)), (0, .ref v0), (1, .ref v1), (2, .int v2)]) hx hb dX4_take_12 rfl hl (by decide) rfl (fun ls hl => ?_)
  exact w_X4_take_13 C0 FU _ _ _ _ _ h _ _ _ hM hS (lv_sub hl [1, 2, 3, 0] rfl)
set_option maxHeartbeats 4000000 in
set_option maxRecDepth 100000 in
theorem c_X4_take (l : Launch) (D : mmD) (b0 sz : Nat) {v0 : Nat} {v1 : Nat} {v2 : Int32} {f : mmF} {res : mmF} (h : f_X4_take v0 v1 v2 f = some res) : Met l yX4_take wsX4_take ({ frames := 2, cells := 0, slots := 0, locals := 49 } : Room) (va_Pc [.ref v0, .ref v1, .int v2] (PW D b0 f sz)) (QW D b0 none res sz) 0 0 (fun q => b0 ≤ q) := by
  refine Met.ofW (cc := cX4_take) (maxL := 5) (ret := none) (by decide) rfl ?_
  intro p e s m args below meth c s₁ B hml hv
  obtain ⟨rfl, hM, hK⟩ := hv
  have hl := lv_entry ([.ref v0, .ref v1, .int v2]) (n := 5) (Nat.le_of_ble_eq_true rfl)
  rw [lg_entry_eq]
  generalize (lg_sl ([.ref v0, .ref v1, .int v2]) ++ List.replicate (5 - (lg_sl ([.ref v0, .ref v1, .int v2])).length) Slot.unset).toArray = ls at hl ⊢
  have hl : lv_has ls 5 [(0, .ref v0), (1, .ref v1), (2, .int v2)] := hl
  exact w_X4_take ⟨B.exec, B.bytes, B.returns, hml, findClass_of_methodNamed B.named, atoms_spec (ws := wsX4_take) B.pre, B.notSynchronized, hK⟩ h s.heap [] ls hM va_S.rf hl
end S_X4_take
/-! X4_whole -/
set_option maxRecDepth 20000 in
theorem qi_X4_whole_X4 : ∀ w ∈ u_ws RX4 TX4 8, w ∈ wsX4_whole := by decide +kernel
set_option maxRecDepth 20000 in
theorem q_X4_whole_1 : Cond.fieldLink RX4 25 "StageTruths$Parts" "wholes" "[I" ∈ wsX4_whole := by decide +kernel
set_option maxRecDepth 20000 in
theorem q_X4_whole_2 : Cond.initialized RX9 ∈ wsX4_whole := by decide +kernel
set_option maxRecDepth 20000 in
theorem q_X4_whole_3 : Cond.static yX9_at ∈ wsX4_whole := by decide +kernel
noncomputable def f_X4_whole (v0 : Nat) (v1 : Int32) (f : mmF) : Option (Int32) :=
  (ldR f v0 4 4).bind fun x1 =>
  (f_X9_at x1 v1 f).bind fun q5 =>
  some (q5)
section S_X4_whole
variable {p : Program} {l : Launch} {e : Env} {s : State} {m : MethodId} {args : Array Value} {below : List Frame} {meth : Method} {c : Code} {D : mmD} {b0 sz : Nat} {f : mmF}
set_option maxHeartbeats 4000000 in
set_option maxRecDepth 100000 in
theorem w_X4_whole (C0 : CX cX4_whole 2 (some .int) wsX4_whole RX4 p s m args meth c D b0) {v0 : Nat} {v1 : Int32} {res : Int32} (h : f_X4_whole v0 v1 f = some res) : ∀ (H : Heap) (locs : List Loc) (ls : Array Slot), MM vwCl D b0 f sz s H → mS b0 s H locs → lv_has ls 2 [(0, .ref v0), (1, .int v1)] → W p l e ({ frames := 1, cells := 0, slots := 0, locals := 21 } : Room) s m args below meth c H locs 0 0 (MQ below (QW D b0 (some (.int res)) f sz) args s 0 0 (fun q => b0 ≤ q)) (F0 m 0 ls []) := by
  obtain ⟨hx, hb, hr, hml, hown, hts, hlocks, hK⟩ := id C0
  intro H locs ls hM hS hl
  unfold f_X4_whole at h
  refine lv_aload_n hx hb dX4_whole_0 rfl (lv_at hl 0 rfl) ?_
  replace h := o_b h; obtain ⟨x1, h1, h⟩ := h
  refine m_get (C := RX4) (T := TX4) (N := 8) (ci := 4) hx hb hts qi_X4_whole_X4 hown hK.1 hM 4 (ldR_F h1) rfl (by decide) (hts _ q_X4_whole_1) (fun _ h9 => h9) dX4_whole_1 ?_
  refine lv_iload_n hx hb dX4_whole_4 rfl (lv_at hl 1 rfl) ?_
  replace h := o_b h; obtain ⟨q5, h5, h⟩ := h
  refine m_call (va_runSN (As := [.ref x1, .int v1]) (rest := []) ⟨hx, hb, hml, hown, hts⟩ (c_X9_at l D b0 sz h5) ⟨(va_cnB 2 hts gX4_whole_X9_at_n45 rfl rfl rfl (hK.2.1 (RX4, 45, yX9_at, "StageTruths") (by decide)) (hts _ q_X4_whole_2) (by decide +kernel) ⟨Nat.le_of_ble_eq_true rfl, Nat.le_of_ble_eq_true rfl⟩), (hts _ q_X4_whole_3), trivial⟩ ⟨PW.blind, (fun U hU hW => ⟨rfl, PW.call hK hM hS hU hW⟩)⟩ rfl rfl hl.1 rfl (lv_room (Nat.le_of_ble_eq_true rfl)) dX4_whole_5 ⟨(Nat.le_refl _), (Nat.le_refl _)⟩) hS (fun H locs hM hS => ?_)
  replace h := Option.some.inj h; subst h
  exact W.iret hx hb hr (fun t ht hW => ⟨rfl, by rw [ht]; exact hM.moved hW.alike, hS.F ht⟩) hS.2.2 dX4_whole_8
set_option maxHeartbeats 4000000 in
set_option maxRecDepth 100000 in
theorem c_X4_whole (l : Launch) (D : mmD) (b0 sz : Nat) {v0 : Nat} {v1 : Int32} {f : mmF} {res : Int32} (h : f_X4_whole v0 v1 f = some res) : Met l yX4_whole wsX4_whole ({ frames := 1, cells := 0, slots := 0, locals := 21 } : Room) (va_Pc [.ref v0, .int v1] (PW D b0 f sz)) (QW D b0 (some (.int res)) f sz) 0 0 (fun q => b0 ≤ q) := by
  refine Met.ofW (cc := cX4_whole) (maxL := 2) (ret := (some .int)) (by decide) rfl ?_
  intro p e s m args below meth c s₁ B hml hv
  obtain ⟨rfl, hM, hK⟩ := hv
  have hl := lv_entry ([.ref v0, .int v1]) (n := 2) (Nat.le_of_ble_eq_true rfl)
  rw [lg_entry_eq]
  generalize (lg_sl ([.ref v0, .int v1]) ++ List.replicate (2 - (lg_sl ([.ref v0, .int v1])).length) Slot.unset).toArray = ls at hl ⊢
  have hl : lv_has ls 2 [(0, .ref v0), (1, .int v1)] := hl
  exact w_X4_whole ⟨B.exec, B.bytes, B.returns, hml, findClass_of_methodNamed B.named, atoms_spec (ws := wsX4_whole) B.pre, B.notSynchronized, hK⟩ h s.heap [] ls hM va_S.rf hl
end S_X4_whole
/-! X4_isIf -/
set_option maxRecDepth 20000 in
theorem qi_X4_isIf_X4 : ∀ w ∈ u_ws RX4 TX4 8, w ∈ wsX4_isIf := by decide +kernel
set_option maxRecDepth 20000 in
theorem q_X4_isIf_1 : Cond.fieldLink RX4 11 "StageTruths$Parts" "size" "I" ∈ wsX4_isIf := by decide +kernel
set_option maxRecDepth 20000 in
theorem q_X4_isIf_2 : Cond.fieldLink RX4 15 "StageTruths$Parts" "kinds" "[I" ∈ wsX4_isIf := by decide +kernel
noncomputable def f_X4_isIf (v0 : Nat) (v1 : Int32) (f : mmF) : Option (Int32) :=
  if v1 < 0 then
  (some ((0 : Int32)))
  else
  (ldI f v0 4 0).bind fun x6 =>
  if x6 ≤ v1 then
  (some ((0 : Int32)))
  else
  (ldR f v0 4 1).bind fun x13 =>
  (ldA 0 f x13 v1).bind fun x17 =>
  if x17 = (9 : Int32) then
  (some ((1 : Int32)))
  else
  (ldR f v0 4 1).bind fun x24 =>
  (ldA 0 f x24 v1).bind fun x28 =>
  if x28 = (6 : Int32) then
  (some ((1 : Int32)))
  else
  some ((0 : Int32))
section S_X4_isIf
variable {p : Program} {l : Launch} {e : Env} {s : State} {m : MethodId} {args : Array Value} {below : List Frame} {meth : Method} {c : Code} {D : mmD} {b0 sz : Nat} {f : mmF}
set_option maxHeartbeats 4000000 in
set_option maxRecDepth 100000 in
theorem w_X4_isIf (C0 : CX cX4_isIf 2 (some .boolean) wsX4_isIf RX4 p s m args meth c D b0) {v0 : Nat} {v1 : Int32} {res : Int32} (h : f_X4_isIf v0 v1 f = some res) : ∀ (H : Heap) (locs : List Loc) (ls : Array Slot), MM vwCl D b0 f sz s H → mS b0 s H locs → lv_has ls 2 [(0, .ref v0), (1, .int v1)] → W p l e ({ frames := 0, cells := 0, slots := 0, locals := 0 } : Room) s m args below meth c H locs 0 0 (MQ below (QW D b0 (some (.int res)) f sz) args s 0 0 (fun q => b0 ≤ q)) (F0 m 0 ls []) := by
  obtain ⟨hx, hb, hr, hml, hown, hts, hlocks, hK⟩ := id C0
  intro H locs ls hM hS hl
  unfold f_X4_isIf at h
  refine lv_iload_n hx hb dX4_isIf_0 rfl (lv_at hl 1 rfl) ?_
  refine lv_if_lt (tgt := 38) hx hb dX4_isIf_1 (by decide) (fun c1 => ?_) (fun c1 => ?_)
  · replace h := o_t c1 h
    refine lv_iconst (v := (0 : Int32)) hx hb dX4_isIf_38 (by decide) ?_
    replace h := Option.some.inj h; subst h
    exact W.zret hx hb hr rfl (fun t ht hW => ⟨rfl, by rw [ht]; exact hM.moved hW.alike, hS.F ht⟩) hS.2.2 dX4_isIf_39
  replace h := o_f c1 h
  refine lv_iload_n hx hb dX4_isIf_4 rfl (lv_at hl 1 rfl) ?_
  refine lv_aload_n hx hb dX4_isIf_5 rfl (lv_at hl 0 rfl) ?_
  replace h := o_b h; obtain ⟨x6, h6, h⟩ := h
  refine m_get (C := RX4) (T := TX4) (N := 8) (ci := 4) hx hb hts qi_X4_isIf_X4 hown hK.1 hM 0 (ldI_F h6) rfl (by decide) (hts _ q_X4_isIf_1) (fun _ h9 => h9) dX4_isIf_6 ?_
  refine lv_icmp_ge (tgt := 38) hx hb dX4_isIf_9 (by decide) (fun c9 => ?_) (fun c9 => ?_)
  · replace h := o_t c9 h
    refine lv_iconst (v := (0 : Int32)) hx hb dX4_isIf_38 (by decide) ?_
    replace h := Option.some.inj h; subst h
    exact W.zret hx hb hr rfl (fun t ht hW => ⟨rfl, by rw [ht]; exact hM.moved hW.alike, hS.F ht⟩) hS.2.2 dX4_isIf_39
  replace h := o_f c9 h
  refine lv_aload_n hx hb dX4_isIf_12 rfl (lv_at hl 0 rfl) ?_
  replace h := o_b h; obtain ⟨x13, h13, h⟩ := h
  refine m_get (C := RX4) (T := TX4) (N := 8) (ci := 4) hx hb hts qi_X4_isIf_X4 hown hK.1 hM 1 (ldR_F h13) rfl (by decide) (hts _ q_X4_isIf_2) (fun _ h9 => h9) dX4_isIf_13 ?_
  refine lv_iload_n hx hb dX4_isIf_16 rfl (lv_at hl 1 rfl) ?_
  replace h := o_b h; obtain ⟨x17, h17, h⟩ := h
  refine m_iald hx hb hK.1 hM hS rfl h17 dX4_isIf_17 ?_
  refine lv_bipush (v := (9 : Int32)) hx hb dX4_isIf_18 (by decide) ?_
  refine lv_icmp_eq (tgt := 34) hx hb dX4_isIf_20 (by decide) (fun c20 => ?_) (fun c20 => ?_)
  · replace h := o_t c20 h
    refine lv_iconst (v := (1 : Int32)) hx hb dX4_isIf_34 (by decide) ?_
    refine lv_goto (tgt := 39) hx hb dX4_isIf_35 (by decide) ?_
    replace h := Option.some.inj h; subst h
    exact W.zret hx hb hr rfl (fun t ht hW => ⟨rfl, by rw [ht]; exact hM.moved hW.alike, hS.F ht⟩) hS.2.2 dX4_isIf_39
  replace h := o_f c20 h
  refine lv_aload_n hx hb dX4_isIf_23 rfl (lv_at hl 0 rfl) ?_
  replace h := o_b h; obtain ⟨x24, h24, h⟩ := h
  refine m_get (C := RX4) (T := TX4) (N := 8) (ci := 4) hx hb hts qi_X4_isIf_X4 hown hK.1 hM 1 (ldR_F h24) rfl (by decide) (hts _ q_X4_isIf_2) (fun _ h9 => h9) dX4_isIf_24 ?_
  refine lv_iload_n hx hb dX4_isIf_27 rfl (lv_at hl 1 rfl) ?_
  replace h := o_b h; obtain ⟨x28, h28, h⟩ := h
  refine m_iald hx hb hK.1 hM hS rfl h28 dX4_isIf_28 ?_
  refine lv_bipush (v := (6 : Int32)) hx hb dX4_isIf_29 (by decide) ?_
  refine lv_icmp_ne (tgt := 38) hx hb dX4_isIf_31 (by decide) (fun c31 => ?_) (fun c31 => ?_)
  · replace h := o_f c31 h
    refine lv_iconst (v := (0 : Int32)) hx hb dX4_isIf_38 (by decide) ?_
    replace h := Option.some.inj h; subst h
    exact W.zret hx hb hr rfl (fun t ht hW => ⟨rfl, by rw [ht]; exact hM.moved hW.alike, hS.F ht⟩) hS.2.2 dX4_isIf_39
  replace h := o_t c31 h
  refine lv_iconst (v := (1 : Int32)) hx hb dX4_isIf_34 (by decide) ?_
  refine lv_goto (tgt := 39) hx hb dX4_isIf_35 (by decide) ?_
  replace h := Option.some.inj h; subst h
  exact W.zret hx hb hr rfl (fun t ht hW => ⟨rfl, by rw [ht]; exact hM.moved hW.alike, hS.F ht⟩) hS.2.2 dX4_isIf_39
set_option maxHeartbeats 4000000 in
set_option maxRecDepth 100000 in
theorem c_X4_isIf (l : Launch) (D : mmD) (b0 sz : Nat) {v0 : Nat} {v1 : Int32} {f : mmF} {res : Int32} (h : f_X4_isIf v0 v1 f = some res) : Met l yX4_isIf wsX4_isIf ({ frames := 0, cells := 0, slots := 0, locals := 0 } : Room) (va_Pc [.ref v0, .int v1] (PW D b0 f sz)) (QW D b0 (some (.int res)) f sz) 0 0 (fun q => b0 ≤ q) := by
  refine Met.ofW (cc := cX4_isIf) (maxL := 2) (ret := (some .boolean)) (by decide) rfl ?_
  intro p e s m args below meth c s₁ B hml hv
  obtain ⟨rfl, hM, hK⟩ := hv
  have hl := lv_entry ([.ref v0, .int v1]) (n := 2) (Nat.le_of_ble_eq_true rfl)
  rw [lg_entry_eq]
  generalize (lg_sl ([.ref v0, .int v1]) ++ List.replicate (2 - (lg_sl ([.ref v0, .int v1])).length) Slot.unset).toArray = ls at hl ⊢
  have hl : lv_has ls 2 [(0, .ref v0), (1, .int v1)] := hl
  exact w_X4_isIf ⟨B.exec, B.bytes, B.returns, hml, findClass_of_methodNamed B.named, atoms_spec (ws := wsX4_isIf) B.pre, B.notSynchronized, hK⟩ h s.heap [] ls hM va_S.rf hl
end S_X4_isIf
/-! J6_bitCount_0f7a4 -/
set_option maxRecDepth 20000 in
theorem q_J6_bitCount_0f7a4_0 : Cond.constant RJ6 265 (1431655765) ∈ wsJ6_bitCount_0f7a4 := by decide +kernel
set_option maxRecDepth 20000 in
theorem q_J6_bitCount_0f7a4_1 : Cond.constant RJ6 266 (858993459) ∈ wsJ6_bitCount_0f7a4 := by decide +kernel
set_option maxRecDepth 20000 in
theorem q_J6_bitCount_0f7a4_2 : Cond.constant RJ6 267 (252645135) ∈ wsJ6_bitCount_0f7a4 := by decide +kernel
noncomputable def f_J6_bitCount_0f7a4 (v0 : Int32) (f : mmF) : Option (Int32) :=
  some (((((((((v0 - ((mm_ushr v0 (1 : Int32)) &&& (1431655765 : Int32))) &&& (858993459 : Int32)) + ((mm_ushr (v0 - ((mm_ushr v0 (1 : Int32)) &&& (1431655765 : Int32))) (2 : Int32)) &&& (858993459 : Int32))) + (mm_ushr (((v0 - ((mm_ushr v0 (1 : Int32)) &&& (1431655765 : Int32))) &&& (858993459 : Int32)) + ((mm_ushr (v0 - ((mm_ushr v0 (1 : Int32)) &&& (1431655765 : Int32))) (2 : Int32)) &&& (858993459 : Int32))) (4 : Int32))) &&& (252645135 : Int32)) + (mm_ushr (((((v0 - ((mm_ushr v0 (1 : Int32)) &&& (1431655765 : Int32))) &&& (858993459 : Int32)) + ((mm_ushr (v0 - ((mm_ushr v0 (1 : Int32)) &&& (1431655765 : Int32))) (2 : Int32)) &&& (858993459 : Int32))) + (mm_ushr (((v0 - ((mm_ushr v0 (1 : Int32)) &&& (1431655765 : Int32))) &&& (858993459 : Int32)) + ((mm_ushr (v0 - ((mm_ushr v0 (1 : Int32)) &&& (1431655765 : Int32))) (2 : Int32)) &&& (858993459 : Int32))) (4 : Int32))) &&& (252645135 : Int32)) (8 : Int32))) + (mm_ushr ((((((v0 - ((mm_ushr v0 (1 : Int32)) &&& (1431655765 : Int32))) &&& (858993459 : Int32)) + ((mm_ushr (v0 - ((mm_ushr v0 (1 : Int32)) &&& (1431655765 : Int32))) (2 : Int32)) &&& (858993459 : Int32))) + (mm_ushr (((v0 - ((mm_ushr v0 (1 : Int32)) &&& (1431655765 : Int32))) &&& (858993459 : Int32)) + ((mm_ushr (v0 - ((mm_ushr v0 (1 : Int32)) &&& (1431655765 : Int32))) (2 : Int32)) &&& (858993459 : Int32))) (4 : Int32))) &&& (252645135 : Int32)) + (mm_ushr (((((v0 - ((mm_ushr v0 (1 : Int32)) &&& (1431655765 : Int32))) &&& (858993459 : Int32)) + ((mm_ushr (v0 - ((mm_ushr v0 (1 : Int32)) &&& (1431655765 : Int32))) (2 : Int32)) &&& (858993459 : Int32))) + (mm_ushr (((v0 - ((mm_ushr v0 (1 : Int32)) &&& (1431655765 : Int32))) &&& (858993459 : Int32)) + ((mm_ushr (v0 - ((mm_ushr v0 (1 : Int32)) &&& (1431655765 : Int32))) (2 : Int32)) &&& (858993459 : Int32))) (4 : Int32))) &&& (252645135 : Int32)) (8 : Int32))) (16 : Int32))) &&& (63 : Int32)))
section S_J6_bitCount_0f7a4
variable {p : Program} {l : Launch} {e : Env} {s : State} {m : MethodId} {args : Array Value} {below : List Frame} {meth : Method} {c : Code} {D : mmD} {b0 sz : Nat} {f : mmF}
set_option maxHeartbeats 4000000 in
set_option maxRecDepth 100000 in
theorem w_J6_bitCount_0f7a4 (C0 : CX cJ6_bitCount_0f7a4 1 (some .int) wsJ6_bitCount_0f7a4 RJ6 p s m args meth c D b0) {v0 : Int32} {res : Int32} (h : f_J6_bitCount_0f7a4 v0 f = some res) : ∀ (H : Heap) (locs : List Loc) (ls : Array Slot), MM vwCl D b0 f sz s H → mS b0 s H locs → lv_has ls 1 [(0, .int v0)] → W p l e ({ frames := 0, cells := 0, slots := 0, locals := 0 } : Room) s m args below meth c H locs 0 0 (MQ below (QW D b0 (some (.int res)) f sz) args s 0 0 (fun q => b0 ≤ q)) (F0 m 0 ls []) := by
  obtain ⟨hx, hb, hr, hml, hown, hts, hlocks, hK⟩ := id C0
  intro H locs ls hM hS hl
  unfold f_J6_bitCount_0f7a4 at h
  refine lv_iload_n hx hb dJ6_bitCount_0f7a4_0 rfl (lv_at hl 0 rfl) ?_
  refine lv_iload_n hx hb dJ6_bitCount_0f7a4_1 rfl (lv_at hl 0 rfl) ?_
  refine lv_iconst (v := (1 : Int32)) hx hb dJ6_bitCount_0f7a4_2 (by decide) ?_
  refine lv_iushr (v := (mm_ushr v0 (1 : Int32))) hx hb dJ6_bitCount_0f7a4_3 rfl ?_
  refine lv_ldcw (v := (1431655765 : Int32)) hx hb hown (hts _ q_J6_bitCount_0f7a4_0) dJ6_bitCount_0f7a4_4 ?_
  refine lv_iand hx hb dJ6_bitCount_0f7a4_7 ?_
  refine lv_isub hx hb dJ6_bitCount_0f7a4_8 ?_
  refine lv_istore_n (lv' := [(0, .int (v0 - ((mm_ushr v0 (1 : Int32)) &&& (1431655765 : Int32))))]) hx hb dJ6_bitCount_0f7a4_9 rfl hl (by decide) rfl (fun ls hl => ?_)
  refine lv_iload_n hx hb dJ6_bitCount_0f7a4_10 rfl (lv_at hl 0 rfl) ?_
  refine lv_ldcw (v := (858993459 : Int32)) hx hb hown (hts _ q_J6_bitCount_0f7a4_1) dJ6_bitCount_0f7a4_11 ?_
  refine lv_iand hx hb dJ6_bitCount_0f7a4_14 ?_
  refine lv_iload_n hx hb dJ6_bitCount_0f7a4_15 rfl (lv_at hl 0 rfl) ?_
  refine lv_iconst (v := (2 : Int32)) hx hb dJ6_bitCount_0f7a4_16 (by decide) ?_
  refine lv_iushr (v := (mm_ushr (v0 - ((mm_ushr v0 (1 : Int32)) &&& (1431655765 : Int32))) (2 : Int32))) hx hb dJ6_bitCount_0f7a4_17 rfl ?_
  refine lv_ldcw (v := (858993459 : Int32)) hx hb hown (hts _ q_J6_bitCount_0f7a4_1) dJ6_bitCount_0f7a4_18 ?_
  refine lv_iand hx hb dJ6_bitCount_0f7a4_21 ?_
  refine lv_iadd hx hb dJ6_bitCount_0f7a4_22 ?_
  refine lv_istore_n (lv' := [(0, .int (((v0 - ((mm_ushr v0 (1 : Int32)) &&& (1431655765 : Int32))) &&& (858993459 : Int32)) + ((mm_ushr (v0 - ((mm_ushr v0 (1 : Int32)) &&& (1431655765 : Int32))) (2 : Int32)) &&& (858993459 : Int32))))]) hx hb dJ6_bitCount_0f7a4_23 rfl hl (by decide) rfl (fun ls hl => ?_)
  refine lv_iload_n hx hb dJ6_bitCount_0f7a4_24 rfl (lv_at hl 0 rfl) ?_
  refine lv_iload_n hx hb dJ6_bitCount_0f7a4_25 rfl (lv_at hl 0 rfl) ?_
  refine lv_iconst (v := (4 : Int32)) hx hb dJ6_bitCount_0f7a4_26 (by decide) ?_
  refine lv_iushr (v := (mm_ushr (((v0 - ((mm_ushr v0 (1 : Int32)) &&& (1431655765 : Int32))) &&& (858993459 : Int32)) + ((mm_ushr (v0 - ((mm_ushr v0 (1 : Int32)) &&& (1431655765 : Int32))) (2 : Int32)) &&& (858993459 : Int32))) (4 : Int32))) hx hb dJ6_bitCount_0f7a4_27 rfl ?_
  refine lv_iadd hx hb dJ6_bitCount_0f7a4_28 ?_
  refine lv_ldcw (v := (252645135 : Int32)) hx hb hown (hts _ q_J6_bitCount_0f7a4_2) dJ6_bitCount_0f7a4_29 ?_
  refine lv_iand hx hb dJ6_bitCount_0f7a4_32 ?_
  refine lv_istore_n (lv' := [(0, .int (((((v0 - ((mm_ushr v0 (1 : Int32)) &&& (1431655765 : Int32))) &&& (858993459 : Int32)) + ((mm_ushr (v0 - ((mm_ushr v0 (1 : Int32)) &&& (1431655765 : Int32))) (2 : Int32)) &&& (858993459 : Int32))) + (mm_ushr (((v0 - ((mm_ushr v0 (1 : Int32)) &&& (1431655765 : Int32))) &&& (858993459 : Int32)) + ((mm_ushr (v0 - ((mm_ushr v0 (1 : Int32)) &&& (1431655765 : Int32))) (2 : Int32)) &&& (858993459 : Int32))) (4 : Int32))) &&& (252645135 : Int32)))]) hx hb dJ6_bitCount_0f7a4_33 rfl hl (by decide) rfl (fun ls hl => ?_)
  refine lv_iload_n hx hb dJ6_bitCount_0f7a4_34 rfl (lv_at hl 0 rfl) ?_
  refine lv_iload_n hx hb dJ6_bitCount_0f7a4_35 rfl (lv_at hl 0 rfl) ?_
  refine lv_bipush (v := (8 : Int32)) hx hb dJ6_bitCount_0f7a4_36 (by decide) ?_
  refine lv_iushr (v := (mm_ushr (((((v0 - ((mm_ushr v0 (1 : Int32)) &&& (1431655765 : Int32))) &&& (858993459 : Int32)) + ((mm_ushr (v0 - ((mm_ushr v0 (1 : Int32)) &&& (1431655765 : Int32))) (2 : Int32)) &&& (858993459 : Int32))) + (mm_ushr (((v0 - ((mm_ushr v0 (1 : Int32)) &&& (1431655765 : Int32))) &&& (858993459 : Int32)) + ((mm_ushr (v0 - ((mm_ushr v0 (1 : Int32)) &&& (1431655765 : Int32))) (2 : Int32)) &&& (858993459 : Int32))) (4 : Int32))) &&& (252645135 : Int32)) (8 : Int32))) hx hb dJ6_bitCount_0f7a4_38 rfl ?_
  refine lv_iadd hx hb dJ6_bitCount_0f7a4_39 ?_
  refine lv_istore_n (lv' := [(0, .int ((((((v0 - ((mm_ushr v0 (1 : Int32)) &&& (1431655765 : Int32))) &&& (858993459 : Int32)) + ((mm_ushr (v0 - ((mm_ushr v0 (1 : Int32)) &&& (1431655765 : Int32))) (2 : Int32)) &&& (858993459 : Int32))) + (mm_ushr (((v0 - ((mm_ushr v0 (1 : Int32)) &&& (1431655765 : Int32))) &&& (858993459 : Int32)) + ((mm_ushr (v0 - ((mm_ushr v0 (1 : Int32)) &&& (1431655765 : Int32))) (2 : Int32)) &&& (858993459 : Int32))) (4 : Int32))) &&& (252645135 : Int32)) + (mm_ushr (((((v0 - ((mm_ushr v0 (1 : Int32)) &&& (1431655765 : Int32))) &&& (858993459 : Int32)) + ((mm_ushr (v0 - ((mm_ushr v0 (1 : Int32)) &&& (1431655765 : Int32))) (2 : Int32)) &&& (858993459 : Int32))) + (mm_ushr (((v0 - ((mm_ushr v0 (1 : Int32)) &&& (1431655765 : Int32))) &&& (858993459 : Int32)) + ((mm_ushr (v0 - ((mm_ushr v0 (1 : Int32)) &&& (1431655765 : Int32))) (2 : Int32)) &&& (858993459 : Int32))) (4 : Int32))) &&& (252645135 : Int32)) (8 : Int32))))]) hx hb dJ6_bitCount_0f7a4_40 rfl hl (by decide) rfl (fun ls hl => ?_)
  refine lv_iload_n hx hb dJ6_bitCount_0f7a4_41 rfl (lv_at hl 0 rfl) ?_
  refine lv_iload_n hx hb dJ6_bitCount_0f7a4_42 rfl (lv_at hl 0 rfl) ?_
  refine lv_bipush (v := (16 : Int32)) hx hb dJ6_bitCount_0f7a4_43 (by decide) ?_
  refine lv_iushr (v := (mm_ushr ((((((v0 - ((mm_ushr v0 (1 : Int32)) &&& (1431655765 : Int32))) &&& (858993459 : Int32)) + ((mm_ushr (v0 - ((mm_ushr v0 (1 : Int32)) &&& (1431655765 : Int32))) (2 : Int32)) &&& (858993459 : Int32))) + (mm_ushr (((v0 - ((mm_ushr v0 (1 : Int32)) &&& (1431655765 : Int32))) &&& (858993459 : Int32)) + ((mm_ushr (v0 - ((mm_ushr v0 (1 : Int32)) &&& (1431655765 : Int32))) (2 : Int32)) &&& (858993459 : Int32))) (4 : Int32))) &&& (252645135 : Int32)) + (mm_ushr (((((v0 - ((mm_ushr v0 (1 : Int32)) &&& (1431655765 : Int32))) &&& (858993459 : Int32)) + ((mm_ushr (v0 - ((mm_ushr v0 (1 : Int32)) &&& (1431655765 : Int32))) (2 : Int32)) &&& (858993459 : Int32))) + (mm_ushr (((v0 - ((mm_ushr v0 (1 : Int32)) &&& (1431655765 : Int32))) &&& (858993459 : Int32)) + ((mm_ushr (v0 - ((mm_ushr v0 (1 : Int32)) &&& (1431655765 : Int32))) (2 : Int32)) &&& (858993459 : Int32))) (4 : Int32))) &&& (252645135 : Int32)) (8 : Int32))) (16 : Int32))) hx hb dJ6_bitCount_0f7a4_45 rfl ?_
  refine lv_iadd hx hb dJ6_bitCount_0f7a4_46 ?_
  refine lv_istore_n (lv' := [(0, .int (((((((v0 - ((mm_ushr v0 (1 : Int32)) &&& (1431655765 : Int32))) &&& (858993459 : Int32)) + ((mm_ushr (v0 - ((mm_ushr v0 (1 : Int32)) &&& (1431655765 : Int32))) (2 : Int32)) &&& (858993459 : Int32))) + (mm_ushr (((v0 - ((mm_ushr v0 (1 : Int32)) &&& (1431655765 : Int32))) &&& (858993459 : Int32)) + ((mm_ushr (v0 - ((mm_ushr v0 (1 : Int32)) &&& (1431655765 : Int32))) (2 : Int32)) &&& (858993459 : Int32))) (4 : Int32))) &&& (252645135 : Int32)) + (mm_ushr (((((v0 - ((mm_ushr v0 (1 : Int32)) &&& (1431655765 : Int32))) &&& (858993459 : Int32)) + ((mm_ushr (v0 - ((mm_ushr v0 (1 : Int32)) &&& (1431655765 : Int32))) (2 : Int32)) &&& (858993459 : Int32))) + (mm_ushr (((v0 - ((mm_ushr v0 (1 : Int32)) &&& (1431655765 : Int32))) &&& (858993459 : Int32)) + ((mm_ushr (v0 - ((mm_ushr v0 (1 : Int32)) &&& (1431655765 : Int32))) (2 : Int32)) &&& (858993459 : Int32))) (4 : Int32))) &&& (252645135 : Int32)) (8 : Int32))) + (mm_ushr ((((((v0 - ((mm_ushr v0 (1 : Int32)) &&& (1431655765 : Int32))) &&& (858993459 : Int32)) + ((mm_ushr (v0 - ((mm_ushr v0 (1 : Int32)) &&& (1431655765 : Int32))) (2 : Int32)) &&& (858993459 : Int32))) + (mm_ushr (((v0 - ((mm_ushr v0 (1 : Int32)) &&& (1431655765 : Int32))) &&& (858993459 : Int32)) + ((mm_ushr (v0 - ((mm_ushr v0 (1 : Int32)) &&& (1431655765 : Int32))) (2 : Int32)) &&& (858993459 : Int32))) (4 : Int32))) &&& (252645135 : Int32)) + (mm_ushr (((((v0 - ((mm_ushr v0 (1 : Int32)) &&& (1431655765 : Int32))) &&& (858993459 : Int32)) + ((mm_ushr (v0 - ((mm_ushr v0 (1 : Int32)) &&& (1431655765 : Int32))) (2 : Int32)) &&& (858993459 : Int32))) + (mm_ushr (((v0 - ((mm_ushr v0 (1 : Int32)) &&& (1431655765 : Int32))) &&& (858993459 : Int32)) + ((mm_ushr (v0 - ((mm_ushr v0 (1 : Int32)) &&& (1431655765 : Int32))) (2 : Int32)) &&& (858993459 : Int32))) (4 : Int32))) &&& (252645135 : Int32)) (8 : Int32))) (16 : Int32))))]) hx hb dJ6_bitCount_0f7a4_47 rfl hl (by decide) rfl (fun ls hl => ?_)
  refine lv_iload_n hx hb dJ6_bitCount_0f7a4_48 rfl (lv_at hl 0 rfl) ?_
  refine lv_bipush (v := (63 : Int32)) hx hb dJ6_bitCount_0f7a4_49 (by decide) ?_
  refine lv_iand hx hb dJ6_bitCount_0f7a4_51 ?_
  replace h := Option.some.inj h; subst h
  exact W.iret hx hb hr (fun t ht hW => ⟨rfl, by rw [ht]; exact hM.moved hW.alike, hS.F ht⟩) hS.2.2 dJ6_bitCount_0f7a4_52
set_option maxHeartbeats 4000000 in
set_option maxRecDepth 100000 in
theorem c_J6_bitCount_0f7a4 (l : Launch) (D : mmD) (b0 sz : Nat) {v0 : Int32} {f : mmF} {res : Int32} (h : f_J6_bitCount_0f7a4 v0 f = some res) : Met l yJ6_bitCount_0f7a4 wsJ6_bitCount_0f7a4 ({ frames := 0, cells := 0, slots := 0, locals := 0 } : Room) (va_Pc [.int v0] (PW D b0 f sz)) (QW D b0 (some (.int res)) f sz) 0 0 (fun q => b0 ≤ q) := by
  refine Met.ofW (cc := cJ6_bitCount_0f7a4) (maxL := 1) (ret := (some .int)) (by decide) rfl ?_
  intro p e s m args below meth c s₁ B hml hv
  obtain ⟨rfl, hM, hK⟩ := hv
  have hl := lv_entry ([.int v0]) (n := 1) (Nat.le_of_ble_eq_true rfl)
  rw [lg_entry_eq]
  generalize (lg_sl ([.int v0]) ++ List.replicate (1 - (lg_sl ([.int v0])).length) Slot.unset).toArray = ls at hl ⊢
  have hl : lv_has ls 1 [(0, .int v0)] := hl
  exact w_J6_bitCount_0f7a4 ⟨B.exec, B.bytes, B.returns, hml, findClass_of_methodNamed B.named, atoms_spec (ws := wsJ6_bitCount_0f7a4) B.pre, B.notSynchronized, hK⟩ h s.heap [] ls hM va_S.rf hl
end S_J6_bitCount_0f7a4
/-! X4_different -/
set_option maxRecDepth 20000 in
theorem qi_X4_different_X4 : ∀ w ∈ u_ws RX4 TX4 8, w ∈ wsX4_different := by decide +kernel
set_option maxRecDepth 20000 in
theorem q_X4_different_1 : Cond.fieldLink RX4 11 "StageTruths$Parts" "size" "I" ∈ wsX4_different := by decide +kernel
set_option maxRecDepth 20000 in
theorem q_X4_different_2 : Cond.fieldLink RX4 28 "StageTruths$Parts" "usedLeaves" "I" ∈ wsX4_different := by decide +kernel
noncomputable def f_X4_different (v0 : Nat) (f : mmF) : Option (Int32) :=
  (ldI f v0 4 0).bind fun x1 =>
  (ldI f v0 4 5).bind fun x8 =>
  (f_J6_bitCount_0f7a4 x8 f).bind fun q11 =>
  some (((x1 - (6 : Int32)) + q11))
section S_X4_different
variable {p : Program} {l : Launch} {e : Env} {s : State} {m : MethodId} {args : Array Value} {below : List Frame} {meth : Method} {c : Code} {D : mmD} {b0 sz : Nat} {f : mmF}
set_option maxHeartbeats 4000000 in
set_option maxRecDepth 100000 in
theorem w_X4_different (C0 : CX cX4_different 1 (some .int) wsX4_different RX4 p s m args meth c D b0) {v0 : Nat} {res : Int32} (h : f_X4_different v0 f = some res) : ∀ (H : Heap) (locs : List Loc) (ls : Array Slot), MM vwCl D b0 f sz s H → mS b0 s H locs → lv_has ls 1 [(0, .ref v0)] → W p l e ({ frames := 1, cells := 0, slots := 0, locals := 20 } : Room) s m args below meth c H locs 0 0 (MQ below (QW D b0 (some (.int res)) f sz) args s 0 0 (fun q => b0 ≤ q)) (F0 m 0 ls []) := by
  obtain ⟨hx, hb, hr, hml, hown, hts, hlocks, hK⟩ := id C0
  intro H locs ls hM hS hl
  unfold f_X4_different at h
  refine lv_aload_n hx hb dX4_different_0 rfl (lv_at hl 0 rfl) ?_
  replace h := o_b h; obtain ⟨x1, h1, h⟩ := h
  refine m_get (C := RX4) (T := TX4) (N := 8) (ci := 4) hx hb hts qi_X4_different_X4 hown hK.1 hM 0 (ldI_F h1) rfl (by decide) (hts _ q_X4_different_1) (fun _ h9 => h9) dX4_different_1 ?_
  refine lv_bipush (v := (6 : Int32)) hx hb dX4_different_4 (by decide) ?_
  refine lv_isub hx hb dX4_different_6 ?_
  refine lv_aload_n hx hb dX4_different_7 rfl (lv_at hl 0 rfl) ?_
  replace h := o_b h; obtain ⟨x8, h8, h⟩ := h
  refine m_get (C := RX4) (T := TX4) (N := 8) (ci := 4) hx hb hts qi_X4_different_X4 hown hK.1 hM 5 (ldI_F h8) rfl (by decide) (hts _ q_X4_different_2) (fun _ h9 => h9) dX4_different_8 ?_
  replace h := o_b h; obtain ⟨q11, h11, h⟩ := h
  refine m_call (va_runS (As := [.int x8]) (rest := [.int (x1 - (6 : Int32))]) ⟨hx, hb, hml, hown, hts⟩ (c_J6_bitCount_0f7a4 l D b0 sz h11) (va_cwS 1 hts gX4_different_J6_bitCount_0f7a4 rfl rfl rfl (by decide +kernel) ⟨Nat.le_of_ble_eq_true rfl, Nat.le_of_ble_eq_true rfl⟩) ⟨PW.blind, (fun U hU hW => ⟨rfl, PW.call hK hM hS hU hW⟩)⟩ rfl rfl hl.1 rfl (lv_room (Nat.le_of_ble_eq_true rfl)) dX4_different_11 ⟨(Nat.le_refl _), (Nat.le_refl _)⟩) hS (fun H locs hM hS => ?_)
  refine lv_iadd hx hb dX4_different_14 ?_
  replace h := Option.some.inj h; subst h
  exact W.iret hx hb hr (fun t ht hW => ⟨rfl, by rw [ht]; exact hM.moved hW.alike, hS.F ht⟩) hS.2.2 dX4_different_15
set_option maxHeartbeats 4000000 in
set_option maxRecDepth 100000 in
theorem c_X4_different (l : Launch) (D : mmD) (b0 sz : Nat) {v0 : Nat} {f : mmF} {res : Int32} (h : f_X4_different v0 f = some res) : Met l yX4_different wsX4_different ({ frames := 1, cells := 0, slots := 0, locals := 20 } : Room) (va_Pc [.ref v0] (PW D b0 f sz)) (QW D b0 (some (.int res)) f sz) 0 0 (fun q => b0 ≤ q) := by
  refine Met.ofW (cc := cX4_different) (maxL := 1) (ret := (some .int)) (by decide) rfl ?_
  intro p e s m args below meth c s₁ B hml hv
  obtain ⟨rfl, hM, hK⟩ := hv
  have hl := lv_entry ([.ref v0]) (n := 1) (Nat.le_of_ble_eq_true rfl)
  rw [lg_entry_eq]
  generalize (lg_sl ([.ref v0]) ++ List.replicate (1 - (lg_sl ([.ref v0])).length) Slot.unset).toArray = ls at hl ⊢
  have hl : lv_has ls 1 [(0, .ref v0)] := hl
  exact w_X4_different ⟨B.exec, B.bytes, B.returns, hml, findClass_of_methodNamed B.named, atoms_spec (ws := wsX4_different) B.pre, B.notSynchronized, hK⟩ h s.heap [] ls hM va_S.rf hl
end S_X4_different
/-! X4_usedFacts -/
set_option maxRecDepth 20000 in
theorem qi_X4_usedFacts_X4 : ∀ w ∈ u_ws RX4 TX4 8, w ∈ wsX4_usedFacts := by decide +kernel
set_option maxRecDepth 20000 in
theorem q_X4_usedFacts_1 : Cond.fieldLink RX4 28 "StageTruths$Parts" "usedLeaves" "I" ∈ wsX4_usedFacts := by decide +kernel
noncomputable def f_X4_usedFacts (v0 : Nat) (f : mmF) : Option (Int32) :=
  (ldI f v0 4 5).bind fun x1 =>
  some ((x1 &&& (15 : Int32)))
section S_X4_usedFacts
variable {p : Program} {l : Launch} {e : Env} {s : State} {m : MethodId} {args : Array Value} {below : List Frame} {meth : Method} {c : Code} {D : mmD} {b0 sz : Nat} {f : mmF}
set_option maxHeartbeats 4000000 in
set_option maxRecDepth 100000 in
theorem w_X4_usedFacts (C0 : CX cX4_usedFacts 1 (some .int) wsX4_usedFacts RX4 p s m args meth c D b0) {v0 : Nat} {res : Int32} (h : f_X4_usedFacts v0 f = some res) : ∀ (H : Heap) (locs : List Loc) (ls : Array Slot), MM vwCl D b0 f sz s H → mS b0 s H locs → lv_has ls 1 [(0, .ref v0)] → W p l e ({ frames := 0, cells := 0, slots := 0, locals := 0 } : Room) s m args below meth c H locs 0 0 (MQ below (QW D b0 (some (.int res)) f sz) args s 0 0 (fun q => b0 ≤ q)) (F0 m 0 ls []) := by
  obtain ⟨hx, hb, hr, hml, hown, hts, hlocks, hK⟩ := id C0
  intro H locs ls hM hS hl
  unfold f_X4_usedFacts at h
  refine lv_aload_n hx hb dX4_usedFacts_0 rfl (lv_at hl 0 rfl) ?_
  replace h := o_b h; obtain ⟨x1, h1, h⟩ := h
  refine m_get (C := RX4) (T := TX4) (N := 8) (ci := 4) hx hb hts qi_X4_usedFacts_X4 hown hK.1 hM 5 (ldI_F h1) rfl (by decide) (hts _ q_X4_usedFacts_1) (fun _ h9 => h9) dX4_usedFacts_1 ?_
  refine lv_bipush (v := (15 : Int32)) hx hb dX4_usedFacts_4 (by decide) ?_
  refine lv_iand hx hb dX4_usedFacts_6 ?_
  replace h := Option.some.inj h; subst h
  exact W.iret hx hb hr (fun t ht hW => ⟨rfl, by rw [ht]; exact hM.moved hW.alike, hS.F ht⟩) hS.2.2 dX4_usedFacts_7
set_option maxHeartbeats 4000000 in
set_option maxRecDepth 100000 in
theorem c_X4_usedFacts (l : Launch) (D : mmD) (b0 sz : Nat) {v0 : Nat} {f : mmF} {res : Int32} (h : f_X4_usedFacts v0 f = some res) : Met l yX4_usedFacts wsX4_usedFacts ({ frames := 0, cells := 0, slots := 0, locals := 0 } : Room) (va_Pc [.ref v0] (PW D b0 f sz)) (QW D b0 (some (.int res)) f sz) 0 0 (fun q => b0 ≤ q) := by
  refine Met.ofW (cc := cX4_usedFacts) (maxL := 1) (ret := (some .int)) (by decide) rfl ?_
  intro p e s m args below meth c s₁ B hml hv
  obtain ⟨rfl, hM, hK⟩ := hv
  have hl := lv_entry ([.ref v0]) (n := 1) (Nat.le_of_ble_eq_true rfl)
  rw [lg_entry_eq]
  generalize (lg_sl ([.ref v0]) ++ List.replicate (1 - (lg_sl ([.ref v0])).length) Slot.unset).toArray = ls at hl ⊢
  have hl : lv_has ls 1 [(0, .ref v0)] := hl
  exact w_X4_usedFacts ⟨B.exec, B.bytes, B.returns, hml, findClass_of_methodNamed B.named, atoms_spec (ws := wsX4_usedFacts) B.pre, B.notSynchronized, hK⟩ h s.heap [] ls hM va_S.rf hl
end S_X4_usedFacts
/-! X4_depth -/
set_option maxRecDepth 20000 in
theorem qi_X4_depth_X4 : ∀ w ∈ u_ws RX4 TX4 8, w ∈ wsX4_depth := by decide +kernel
set_option maxRecDepth 20000 in
theorem q_X4_depth_1 : Cond.fieldLink RX4 11 "StageTruths$Parts" "size" "I" ∈ wsX4_depth := by decide +kernel
set_option maxRecDepth 20000 in
theorem q_X4_depth_2 : Cond.fieldLink RX4 34 "StageTruths$Parts" "depths" "[I" ∈ wsX4_depth := by decide +kernel
set_option maxRecDepth 20000 in
theorem q_X4_depth_3 : Cond.initialized RX9 ∈ wsX4_depth := by decide +kernel
set_option maxRecDepth 20000 in
theorem q_X4_depth_4 : Cond.static yX9_at ∈ wsX4_depth := by decide +kernel
set_option maxRecDepth 20000 in
theorem q_X4_depth_5 : Cond.fieldLink RX4 19 "StageTruths$Parts" "left" "[I" ∈ wsX4_depth := by decide +kernel
set_option maxRecDepth 20000 in
theorem q_X4_depth_6 : Cond.fieldLink RX4 22 "StageTruths$Parts" "right" "[I" ∈ wsX4_depth := by decide +kernel
set_option maxRecDepth 20000 in
theorem q_X4_depth_7 : Cond.methodLink RX4 55 Lib.Math.max.name ∈ wsX4_depth := by decide +kernel
set_option maxRecDepth 20000 in
theorem q_X4_depth_8 : Cond.static Lib.Math.max.name ∈ wsX4_depth := by decide +kernel
set_option maxRecDepth 20000 in
theorem q_X4_depth_9 : Cond.initialized "java/lang/Math" ∈ wsX4_depth := by decide +kernel
set_option maxRecDepth 20000 in
theorem q_X4_depth_10 : Cond.code Lib.Math.max.name Lib.Math.max.code 2 (some .int) ∈ wsX4_depth := by decide +kernel
noncomputable def f_X4_depth_58 (k2 : Nat → Int32 → Int32 → mmF → Option (Int32 × mmF))  (v0 : Nat) (v1 : Int32) (v2 : Int32) (t0 : Nat) (t1 : Int32) (t2 : Int32) (f : mmF) : Option (Int32 × mmF) :=
  (stA 0 f t0 t1 t2).bind fun f58 =>
  k2 v0 v1 (v2 + (1 : Int32)) f58
noncomputable def f_X4_depth_2   : Nat → Nat → Int32 → Int32 → mmF → Option (Int32 × mmF)
  | 0, _, _, _, _ => none
  | n + 1, v0, v1, v2, f =>
    (ldI f v0 4 0).bind fun x4 =>
    if x4 ≤ v2 then
    ((ldR f v0 4 7).bind fun x66 =>
    (ckO f v0 4).bind fun _ =>
    (f_X4_whole v0 v1 f).bind fun q71 =>
    (f_X9_at x66 q71 f).bind fun q74 =>
    some (q74, f))
    else
    (ldR f v0 4 7).bind fun x11 =>
    (ldR f v0 4 2).bind fun x15 =>
    (ldA 0 f x15 v2).bind fun x19 =>
    (f_X9_at x11 x19 f).bind fun q20 =>
    (ldR f v0 4 7).bind fun x24 =>
    (ldR f v0 4 3).bind fun x28 =>
    (ldA 0 f x28 v2).bind fun x32 =>
    (f_X9_at x24 x32 f).bind fun q33 =>
    (ldR f v0 4 7).bind fun x41 =>
    if (6 : Int32) ≤ v2 then
    (f_X4_depth_58 (fun a0 a1 a2 a3 => f_X4_depth_2 n a0 a1 a2 a3) v0 v1 v2 x41 v2 ((1 : Int32) + (if q20 < q33 then q33 else q20)) f)
    else
    f_X4_depth_58 (fun a0 a1 a2 a3 => f_X4_depth_2 n a0 a1 a2 a3) v0 v1 v2 x41 v2 (1 : Int32) f
noncomputable def f_X4_depth (v0 : Nat) (v1 : Int32) (f : mmF) : Option (Int32 × mmF) :=
  f_X4_depth_2 FU v0 v1 (0 : Int32) f
section S_X4_depth
variable {p : Program} {l : Launch} {e : Env} {s : State} {m : MethodId} {args : Array Value} {below : List Frame} {meth : Method} {c : Code} {D : mmD} {b0 sz : Nat} {f : mmF}
set_option maxHeartbeats 4000000 in
set_option maxRecDepth 100000 in
theorem w_X4_depth_58 (C0 : CX cX4_depth 4 (some .int) wsX4_depth RX4 p s m args meth c D b0) {k2 : Nat → Int32 → Int32 → mmF → Option (Int32 × mmF)} {res : Int32 × mmF} (hk2 : ∀ (v0 : Nat) (v1 : Int32) (v2 : Int32) (f : mmF), k2 v0 v1 v2 f = some res → ∀ (H : Heap) (locs : List Loc) (ls : Array Slot), MM vwCl D b0 f sz s H → mS b0 s H locs → lv_has ls 4 [(0, .ref v0), (1, .int v1), (2, .int v2)] → W p l e ({ frames := 2, cells := 0, slots := 0, locals := 42 } : Room) s m args below meth c H locs 0 0 (MQ below (QW D b0 (some (.int res.1)) res.2 sz) args s 0 0 (fun q => b0 ≤ q)) (F0 m 2 ls [])) : ∀ (v0 : Nat) (v1 : Int32) (v2 : Int32) (t0 : Nat) (t1 : Int32) (t2 : Int32) (f : mmF), f_X4_depth_58 k2 v0 v1 v2 t0 t1 t2 f = some res → ∀ (H : Heap) (locs : List Loc) (ls : Array Slot), MM vwCl D b0 f sz s H → mS b0 s H locs → lv_has ls 4 [(0, .ref v0), (1, .int v1), (2, .int v2)] → W p l e ({ frames := 2, cells := 0, slots := 0, locals := 42 } : Room) s m args below meth c H locs 0 0 (MQ below (QW D b0 (some (.int res.1)) res.2 sz) args s 0 0 (fun q => b0 ≤ q)) (F0 m 58 ls [.int t2, .int t1, .ref t0]) := by
  obtain ⟨hx, hb, hr, hml, hown, hts, hlocks, hK⟩ := id C0
  intro v0 v1 v2 t0 t1 t2 f h H locs ls hM hS hl
  unfold f_X4_depth_58 at h
  replace h := o_b h; obtain ⟨f58, h58, h⟩ := h
  refine m_iast hx hb hK.1 hM hS rfl h58 dX4_depth_58 (fun H locs hM hS => ?_)
  refine lv_iinc (v := (v2 + (1 : Int32))) (lv' := [(2, .int (v2 + (1 : Int32))), (0, .ref v0), (1, .int v1)]) hx hb dX4_depth_59 hl (k := 2) rfl rfl (by decide) rfl (fun ls hl => ?_)
  refine lv_goto (tgt := 2) hx hb dX4_depth_62 (by decide) ?_
  exact hk2 _ _ _ _ h _ _ _ hM hS (lv_sub hl [1, 2, 0] rfl)
set_option maxHeartbeats 4000000 in
set_option maxRecDepth 100000 in
theorem w_X4_depth_2 (C0 : CX cX4_depth 4 (some .int) wsX4_depth RX4 p s m args meth c D b0) {res : Int32 × mmF} : ∀ (n : Nat), ∀ (v0 : Nat) (v1 : Int32) (v2 : Int32) (f : mmF), f_X4_depth_2 n v0 v1 v2 f = some res → ∀ (H : Heap) (locs : List Loc) (ls : Array Slot), MM vwCl D b0 f sz s H → mS b0 s H locs → lv_has ls 4 [(0, .ref v0), (1, .int v1), (2, .int v2)] → W p l e ({ frames := 2, cells := 0, slots := 0, locals := 42 } : Room) s m args below meth c H locs 0 0 (MQ below (QW D b0 (some (.int res.1)) res.2 sz) args s 0 0 (fun q => b0 ≤ q)) (F0 m 2 ls []) := by
  obtain ⟨hx, hb, hr, hml, hown, hts, hlocks, hK⟩ := id C0
  intro n
  induction n with
  | zero =>
    intro v0 v1 v2 f h
    have h : (none : Option (Int32 × mmF)) = some res := h
    cases h
  | succ n ih =>
    intro v0 v1 v2 f h H locs ls hM hS hl
    rw [f_X4_depth_2] at h
    refine lv_iload_n hx hb dX4_depth_2 rfl (lv_at hl 2 rfl) ?_
    refine lv_aload_n hx hb dX4_depth_3 rfl (lv_at hl 0 rfl) ?_
    replace h := o_b h; obtain ⟨x4, h4, h⟩ := h
    refine m_get (C := RX4) (T := TX4) (N := 8) (ci := 4) hx hb hts qi_X4_depth_X4 hown hK.1 hM 0 (ldI_F h4) rfl (by decide) (hts _ q_X4_depth_1) (fun _ h9 => h9) dX4_depth_4 ?_
    refine lv_icmp_ge (tgt := 65) hx hb dX4_depth_7 (by decide) (fun c7 => ?_) (fun c7 => ?_)
    · replace h := o_t c7 h
      refine lv_aload_n hx hb dX4_depth_65 rfl (lv_at hl 0 rfl) ?_
      replace h := o_b h; obtain ⟨x66, h66, h⟩ := h
      refine m_get (C := RX4) (T := TX4) (N := 8) (ci := 4) hx hb hts qi_X4_depth_X4 hown hK.1 hM 7 (ldR_F h66) rfl (by decide) (hts _ q_X4_depth_2) (fun _ h9 => h9) dX4_depth_66 ?_
      refine lv_aload_n hx hb dX4_depth_69 rfl (lv_at hl 0 rfl) ?_
      refine lv_iload_n hx hb dX4_depth_70 rfl (lv_at hl 1 rfl) ?_
      replace h := o_b h; obtain ⟨_, k71, h⟩ := h
      replace h := o_b h; obtain ⟨q71, h71, h⟩ := h
      refine m_call (va_runV (As := [.int v1]) (rest := [.ref x66]) ⟨hx, hb, hml, hown, hts⟩ (c_X4_whole l D b0 sz h71) (cwV 1 hts gX4_depth_X4_whole rfl rfl rfl (by decide +kernel) ⟨Nat.le_of_ble_eq_true rfl, Nat.le_of_ble_eq_true rfl⟩) ⟨PW.blind, m_recv (ci := 4) rfl hK hM k71, (fun U hU hW => ⟨rfl, PW.call hK hM hS hU hW⟩)⟩ rfl rfl hl.1 rfl (lv_room (Nat.le_of_ble_eq_true rfl)) dX4_depth_71 ⟨(Nat.le_refl _), (Nat.le_refl _)⟩) hS (fun H locs hM hS => ?_)
      replace h := o_b h; obtain ⟨q74, h74, h⟩ := h
      refine m_call (va_runSN (As := [.ref x66, .int q71]) (rest := []) ⟨hx, hb, hml, hown, hts⟩ (c_X9_at l D b0 sz h74) ⟨(va_cnB 2 hts gX4_depth_X9_at_n45 rfl rfl rfl (hK.2.1 (RX4, 45, yX9_at, "StageTruths") (by decide)) (hts _ q_X4_depth_3) (by decide +kernel) ⟨Nat.le_of_ble_eq_true rfl, Nat.le_of_ble_eq_true rfl⟩), (hts _ q_X4_depth_4), trivial⟩ ⟨PW.blind, (fun U hU hW => ⟨rfl, PW.call hK hM hS hU hW⟩)⟩ rfl rfl hl.1 rfl (lv_room (Nat.le_of_ble_eq_true rfl)) dX4_depth_74 ⟨(Nat.le_refl _), (Nat.le_refl _)⟩) hS (fun H locs hM hS => ?_)
      replace h := Option.some.inj h; subst h
      exact W.iret hx hb hr (fun t ht hW => ⟨rfl, by rw [ht]; exact hM.moved hW.alike, hS.F ht⟩) hS.2.2 dX4_depth_77
    replace h := o_f c7 h
    refine lv_aload_n hx hb dX4_depth_10 rfl (lv_at hl 0 rfl) ?_
    replace h := o_b h; obtain ⟨x11, h11, h⟩ := h
    refine m_get (C := RX4) (T := TX4) (N := 8) (ci := 4) hx hb hts qi_X4_depth_X4 hown hK.1 hM 7 (ldR_F h11) rfl (by decide) (hts _ q_X4_depth_2) (fun _ h9 => h9) dX4_depth_11 ?_
    refine lv_aload_n hx hb dX4_depth_14 rfl (lv_at hl 0 rfl) ?_
    replace h := o_b h; obtain ⟨x15, h15, h⟩ := h
    refine m_get (C := RX4) (T := TX4) (N := 8) (ci := 4) hx hb hts qi_X4_depth_X4 hown hK.1 hM 2 (ldR_F h15) rfl (by decide) (hts _ q_X4_depth_5) (fun _ h9 => h9) dX4_depth_15 ?_
    refine lv_iload_n hx hb dX4_depth_18 rfl (lv_at hl 2 rfl) ?_
    replace h := o_b h; obtain ⟨x19, h19, h⟩ := h
    refine m_iald hx hb hK.1 hM hS rfl h19 dX4_depth_19 ?_
    replace h := o_b h; obtain ⟨q20, h20, h⟩ := h
    refine m_call (va_runSN (As := [.ref x11, .int x19]) (rest := []) ⟨hx, hb, hml, hown, hts⟩ (c_X9_at l D b0 sz h20) ⟨(va_cnB 2 hts gX4_depth_X9_at_n45 rfl rfl rfl (hK.2.1 (RX4, 45, yX9_at, "StageTruths") (by decide)) (hts _ q_X4_depth_3) (by decide +kernel) ⟨Nat.le_of_ble_eq_true rfl, Nat.le_of_ble_eq_true rfl⟩), (hts _ q_X4_depth_4), trivial⟩ ⟨PW.blind, (fun U hU hW => ⟨rfl, PW.call hK hM hS hU hW⟩)⟩ rfl rfl hl.1 rfl (lv_room (Nat.le_of_ble_eq_true rfl)) dX4_depth_20 ⟨(Nat.le_refl _), (Nat.le_refl _)⟩) hS (fun H locs hM hS => ?_)
    refine lv_aload_n hx hb dX4_depth_23 rfl (lv_at hl 0 rfl) ?_
    replace h := o_b h; obtain ⟨x24, h24, h⟩ := h
    refine m_get (C := RX4) (T := TX4) (N := 8) (ci := 4) hx hb hts qi_X4_depth_X4 hown hK.1 hM 7 (ldR_F h24) rfl (by decide) (hts _ q_X4_depth_2) (fun _ h9 => h9) dX4_depth_24 ?_
    refine lv_aload_n hx hb dX4_depth_27 rfl (lv_at hl 0 rfl) ?_
    replace h := o_b h; obtain ⟨x28, h28, h⟩ := h
    refine m_get (C := RX4) (T := TX4) (N := 8) (ci := 4) hx hb hts qi_X4_depth_X4 hown hK.1 hM 3 (ldR_F h28) rfl (by decide) (hts _ q_X4_depth_6) (fun _ h9 => h9) dX4_depth_28 ?_
    refine lv_iload_n hx hb dX4_depth_31 rfl (lv_at hl 2 rfl) ?_
    replace h := o_b h; obtain ⟨x32, h32, h⟩ := h
    refine m_iald hx hb hK.1 hM hS rfl h32 dX4_depth_32 ?_
    replace h := o_b h; obtain ⟨q33, h33, h⟩ := h
    refine m_call (va_runSN (As := [.ref x24, .int x32]) (rest := [.int q20]) ⟨hx, hb, hml, hown, hts⟩ (c_X9_at l D b0 sz h33) ⟨(va_cnB 2 hts gX4_depth_X9_at_n45 rfl rfl rfl (hK.2.1 (RX4, 45, yX9_at, "StageTruths") (by decide)) (hts _ q_X4_depth_3) (by decide +kernel) ⟨Nat.le_of_ble_eq_true rfl, Nat.le_of_ble_eq_true rfl⟩), (hts _ q_X4_depth_4), trivial⟩ ⟨PW.blind, (fun U hU hW => ⟨rfl, PW.call hK hM hS hU hW⟩)⟩ rfl rfl hl.1 rfl (lv_room (Nat.le_of_ble_eq_true rfl)) dX4_depth_33 ⟨(Nat.le_refl _), (Nat.le_refl _)⟩) hS (fun H locs hM hS => ?_)
    refine va_mmax hx hb (hml.trans hl.1.symm) hown (hts _ q_X4_depth_7) (hts _ q_X4_depth_8) (hts _ q_X4_depth_9) (hts _ q_X4_depth_10) (Nat.le_of_ble_eq_true rfl) (Nat.le_of_ble_eq_true rfl) (Nat.zero_le _) (Nat.zero_le _) dX4_depth_36 ?_
    refine lv_istore_n (lv' := [(3, .int (if q20 < q33 then q33 else q20)), (0, .ref v0), (1, .int v1), (2, .int v2)]) hx hb dX4_depth_39 rfl hl (by decide) rfl (fun ls hl => ?_)
    refine lv_aload_n hx hb dX4_depth_40 rfl (lv_at hl 1 rfl) ?_
    replace h := o_b h; obtain ⟨x41, h41, h⟩ := h
    refine m_get (C := RX4) (T := TX4) (N := 8) (ci := 4) hx hb hts qi_X4_depth_X4 hown hK.1 hM 7 (ldR_F h41) rfl (by decide) (hts _ q_X4_depth_2) (fun _ h9 => h9) dX4_depth_41 ?_
    refine lv_iload_n hx hb dX4_depth_44 rfl (lv_at hl 3 rfl) ?_
    refine lv_iload_n hx hb dX4_depth_45 rfl (lv_at hl 3 rfl) ?_
    refine lv_bipush (v := (6 : Int32)) hx hb dX4_depth_46 (by decide) ?_
    refine lv_icmp_ge (tgt := 55) hx hb dX4_depth_48 (by decide) (fun c48 => ?_) (fun c48 => ?_)
    · replace h := o_t c48 h
      refine lv_iconst (v := (1 : Int32)) hx hb dX4_depth_55 (by decide) ?_
      refine lv_iload_n hx hb dX4_depth_56 rfl (lv_at hl 0 rfl) ?_
      refine lv_iadd hx hb dX4_depth_57 ?_
      exact w_X4_depth_58 C0 ih _ _ _ _ _ _ _ h _ _ _ hM hS (lv_sub hl [1, 2, 3] rfl)
    replace h := o_f c48 h
    refine lv_iconst (v := (1 : Int32)) hx hb dX4_depth_51 (by decide) ?_
    refine lv_goto (tgt := 58) hx hb dX4_depth_52 (by decide) ?_
    exact w_X4_depth_58 C0 ih _ _ _ _ _ _ _ h _ _ _ hM hS (lv_sub hl [1, 2, 3] rfl)
set_option maxHeartbeats 4000000 in
set_option maxRecDepth 100000 in
theorem w_X4_depth (C0 : CX cX4_depth 4 (some .int) wsX4_depth RX4 p s m args meth c D b0) {v0 : Nat} {v1 : Int32} {res : Int32 × mmF} (h : f_X4_depth v0 v1 f = some res) : ∀ (H : Heap) (locs : List Loc) (ls : Array Slot), MM vwCl D b0 f sz s H → mS b0 s H locs → lv_has ls 4 [(0, .ref v0), (1, .int v1)] → W p l e ({ frames := 2, cells := 0, slots := 0, locals := 42 } : Room) s m args below meth c H locs 0 0 (MQ below (QW D b0 (some (.int res.1)) res.2 sz) args s 0 0 (fun q => b0 ≤ q)) (F0 m 0 ls []) := by
  obtain ⟨hx, hb, hr, hml, hown, hts, hlocks, hK⟩ := id C0
  intro H locs ls hM hS hl
  unfold f_X4_depth at h
  refine lv_iconst (v := (0 : Int32)) hx hb dX4_depth_0 (by decide) ?_
  refine lv_istore_n (lv' := [(2, .int (0 : Int32)), (0, .ref v0), (1, .int v1)]) hx hb dX4_depth_1 rfl hl (by decide) rfl (fun ls hl => ?_)
  exact w_X4_depth_2 C0 FU _ _ _ _ h _ _ _ hM hS (lv_sub hl [1, 2, 0] rfl)
set_option maxHeartbeats 4000000 in
set_option maxRecDepth 100000 in
theorem c_X4_depth (l : Launch) (D : mmD) (b0 sz : Nat) {v0 : Nat} {v1 : Int32} {f : mmF} {res : Int32 × mmF} (h : f_X4_depth v0 v1 f = some res) : Met l yX4_depth wsX4_depth ({ frames := 2, cells := 0, slots := 0, locals := 42 } : Room) (va_Pc [.ref v0, .int v1] (PW D b0 f sz)) (QW D b0 (some (.int res.1)) res.2 sz) 0 0 (fun q => b0 ≤ q) := by
  refine Met.ofW (cc := cX4_depth) (maxL := 4) (ret := (some .int)) (by decide) rfl ?_
  intro p e s m args below meth c s₁ B hml hv
  obtain ⟨rfl, hM, hK⟩ := hv
  have hl := lv_entry ([.ref v0, .int v1]) (n := 4) (Nat.le_of_ble_eq_true rfl)
  rw [lg_entry_eq]
  generalize (lg_sl ([.ref v0, .int v1]) ++ List.replicate (4 - (lg_sl ([.ref v0, .int v1])).length) Slot.unset).toArray = ls at hl ⊢
  have hl : lv_has ls 4 [(0, .ref v0), (1, .int v1)] := hl
  exact w_X4_depth ⟨B.exec, B.bytes, B.returns, hml, findClass_of_methodNamed B.named, atoms_spec (ws := wsX4_depth) B.pre, B.notSynchronized, hK⟩ h s.heap [] ls hM va_S.rf hl
end S_X4_depth
/-! X6_init -/
set_option maxRecDepth 20000 in
theorem qi_X6_init_X6 : ∀ w ∈ u_ws RX6 TX6 5, w ∈ wsX6_init := by decide +kernel
set_option maxRecDepth 20000 in
theorem q_X6_init_1 : Cond.fieldLink RX6 18 "StageTruths$SmallModels" "nothing" "[I" ∈ wsX6_init := by decide +kernel
set_option maxRecDepth 20000 in
theorem q_X6_init_2 : Cond.constant RX6 31 (65535) ∈ wsX6_init := by decide +kernel
set_option maxRecDepth 20000 in
theorem q_X6_init_3 : Cond.methodLink RX6 3 objectInit ∈ wsX6_init := by decide +kernel
set_option maxRecDepth 20000 in
theorem q_X6_init_4 : Cond.instanceMethod objectInit ∈ wsX6_init := by decide +kernel
set_option maxRecDepth 20000 in
theorem q_X6_init_5 : Cond.code objectInit ⟨#[0xb1]⟩ 1 none ∈ wsX6_init := by decide +kernel
set_option maxRecDepth 20000 in
theorem qi_X6_init_X4 : ∀ w ∈ u_ws RX4 TX4 8, w ∈ wsX6_init := by decide +kernel
set_option maxRecDepth 20000 in
theorem q_X6_init_7 : Cond.classLink RX6 9 RX4 ∈ wsX6_init := by decide +kernel
set_option maxRecDepth 20000 in
theorem q_X6_init_8 : Cond.instantiable RX4 8 ∈ wsX6_init := by decide +kernel
set_option maxRecDepth 20000 in
theorem q_X6_init_9 : Cond.initialized RX4 ∈ wsX6_init := by decide +kernel
set_option maxRecDepth 20000 in
theorem q_X6_init_10 : Cond.methodLink RX6 11 yX4_init ∈ wsX6_init := by decide +kernel
set_option maxRecDepth 20000 in
theorem q_X6_init_11 : Cond.instanceMethod yX4_init ∈ wsX6_init := by decide +kernel
set_option maxRecDepth 20000 in
theorem q_X6_init_12 : Cond.fieldLink RX6 12 "StageTruths$SmallModels" "parts" "LStageTruths$Parts;" ∈ wsX6_init := by decide +kernel
set_option maxRecDepth 20000 in
theorem q_X6_init_13 : Cond.arrayClass .int ∈ wsX6_init := by decide +kernel
set_option maxRecDepth 20000 in
theorem q_X6_init_14 : Cond.fieldLink RX6 22 "StageTruths$SmallModels" "single" "[I" ∈ wsX6_init := by decide +kernel
set_option maxRecDepth 20000 in
theorem q_X6_init_15 : Cond.fieldLink RX6 25 "StageTruths$SmallModels" "second" "[I" ∈ wsX6_init := by decide +kernel
set_option maxRecDepth 20000 in
theorem q_X6_init_16 : Cond.fieldLink RX6 28 "StageTruths$SmallModels" "third" "[I" ∈ wsX6_init := by decide +kernel
noncomputable def f_X6_init_53   : Nat → Nat → Int32 → mmF → Nat → Option (mmF × Nat)
  | 0, _, _, _, _ => none
  | n + 1, v0, v1, f, sz =>
    (ldR f v0 6 1).bind fun x55 =>
    (lenA f x55).bind fun x58 =>
    if x58 ≤ v1 then
    (some (f, sz))
    else
    (ldR f v0 6 1).bind fun x63 =>
    (stA 0 f x63 v1 (65535 : Int32)).bind fun f69 =>
    f_X6_init_53 n v0 (v1 + (1 : Int32)) f69 sz
noncomputable def f_X6_init (v0 : Nat) (f : mmF) (sz : Nat) : Option (mmF × Nat) :=
  (some (va_up f sz (some (.inr (4, [.int 0, .null, .null, .null, .null, .int 0, .null, .null]))))).bind fun f5 =>
  (f_X4_init sz f5 (sz + 1)).bind fun q9 =>
  (stF q9.1 v0 6 0 (.ref sz)).bind fun f12 =>
  (some (va_up f12 q9.2 (some (.inl (0, 151, .inl (fun _ => 0)))))).bind fun f19 =>
  (stF f19 v0 6 1 (.ref q9.2)).bind fun f21 =>
  (some (va_up f21 (q9.2 + 1) (some (.inl (0, 151, .inl (fun _ => 0)))))).bind fun f28 =>
  (stF f28 v0 6 2 (.ref (q9.2 + 1))).bind fun f30 =>
  (some (va_up f30 ((q9.2 + 1) + 1) (some (.inl (0, 151, .inl (fun _ => 0)))))).bind fun f37 =>
  (stF f37 v0 6 3 (.ref ((q9.2 + 1) + 1))).bind fun f39 =>
  (some (va_up f39 (((q9.2 + 1) + 1) + 1) (some (.inl (0, 151, .inl (fun _ => 0)))))).bind fun f46 =>
  (stF f46 v0 6 4 (.ref (((q9.2 + 1) + 1) + 1))).bind fun f48 =>
  f_X6_init_53 FU v0 (0 : Int32) f48 ((((q9.2 + 1) + 1) + 1) + 1)
section S_X6_init
variable {p : Program} {l : Launch} {e : Env} {s : State} {m : MethodId} {args : Array Value} {below : List Frame} {meth : Method} {c : Code} {D : mmD} {b0 sz : Nat} {f : mmF}
set_option maxHeartbeats 4000000 in
set_option maxRecDepth 100000 in
theorem w_X6_init_53 (C0 : CX cX6_init 2 none wsX6_init RX6 p s m args meth c D b0) (hin : meth.name = "<init>") {res : mmF × Nat} : ∀ (n : Nat), ∀ (v0 : Nat) (v1 : Int32) (f : mmF) (sz : Nat), f_X6_init_53 n v0 v1 f sz = some res → ∀ (H : Heap) (locs : List Loc) (ls : Array Slot), MM vwCl D b0 f sz s H → mS b0 s H locs → lv_has ls 2 [(0, .ref v0), (1, .int v1)] → W p l e ({ frames := 2, cells := 11, slots := 1251, locals := 45 } : Room) s m args below meth c H locs 11 1251 (MQ below (QW D b0 none res.1 res.2) args s 11 1251 (fun q => b0 ≤ q)) (F0 m 53 ls []) := by
  obtain ⟨hx, hb, hr, hml, hown, hts, hlocks, hK⟩ := id C0
  intro n
  induction n with
  | zero =>
    intro v0 v1 f sz h
    have h : (none : Option (mmF × Nat)) = some res := h
    cases h
  | succ n ih =>
    intro v0 v1 f sz h H locs ls hM hS hl
    rw [f_X6_init_53] at h
    refine lv_iload_n hx hb dX6_init_53 rfl (lv_at hl 1 rfl) ?_
    refine lv_aload_n hx hb dX6_init_54 rfl (lv_at hl 0 rfl) ?_
    replace h := o_b h; obtain ⟨x55, h55, h⟩ := h
    refine m_get (C := RX6) (T := TX6) (N := 5) (ci := 6) hx hb hts qi_X6_init_X6 hown hK.1 hM 1 (ldR_F h55) rfl (by decide) (hts _ q_X6_init_1) (fun _ h9 => h9) dX6_init_55 ?_
    replace h := o_b h; obtain ⟨x58, h58, h⟩ := h
    refine m_alen hx hb hK.1 hM h58 dX6_init_58 ?_
    refine lv_icmp_ge (tgt := 76) hx hb dX6_init_59 (by decide) (fun c59 => ?_) (fun c59 => ?_)
    · replace h := o_t c59 h
      refine W.widen (k := 11) (n := 1251) (Nat.le_of_ble_eq_true rfl) (Nat.le_of_ble_eq_true rfl) ?_
      replace h := Option.some.inj h; subst h
      exact W.vret hx hb hr (fun t ht hW => ⟨rfl, by rw [ht]; exact hM.moved hW.alike, hS.F ht⟩) hS.2.2 dX6_init_76
    replace h := o_f c59 h
    refine lv_aload_n hx hb dX6_init_62 rfl (lv_at hl 0 rfl) ?_
    replace h := o_b h; obtain ⟨x63, h63, h⟩ := h
    refine m_get (C := RX6) (T := TX6) (N := 5) (ci := 6) hx hb hts qi_X6_init_X6 hown hK.1 hM 1 (ldR_F h63) rfl (by decide) (hts _ q_X6_init_1) (fun _ h9 => h9) dX6_init_63 ?_
    refine lv_iload_n hx hb dX6_init_66 rfl (lv_at hl 1 rfl) ?_
    refine lv_ldc (v := (65535 : Int32)) hx hb hown (hts _ q_X6_init_2) dX6_init_67 ?_
    replace h := o_b h; obtain ⟨f69, h69, h⟩ := h
    refine m_iast hx hb hK.1 hM hS rfl h69 dX6_init_69 (fun H locs hM hS => ?_)
    refine lv_iinc (v := (v1 + (1 : Int32))) (lv' := [(1, .int (v1 + (1 : Int32))), (0, .ref v0)]) hx hb dX6_init_70 hl (k := 1) rfl rfl (by decide) rfl (fun ls hl => ?_)
    refine lv_goto (tgt := 53) hx hb dX6_init_73 (by decide) ?_
    exact ih _ _ _ _ h _ _ _ hM hS (lv_sub hl [1, 0] rfl)
set_option maxHeartbeats 4000000 in
set_option maxRecDepth 100000 in
theorem w_X6_init (C0 : CX cX6_init 2 none wsX6_init RX6 p s m args meth c D b0) (hin : meth.name = "<init>") {v0 : Nat} {res : mmF × Nat} (h : f_X6_init v0 f sz = some res) : ∀ (H : Heap) (locs : List Loc) (ls : Array Slot), MM vwCl D b0 f sz s H → mS b0 s H locs → lv_has ls 2 [(0, .ref v0)] → W p l e ({ frames := 2, cells := 11, slots := 1251, locals := 45 } : Room) s m args below meth c H locs 0 0 (MQ below (QW D b0 none res.1 res.2) args s 11 1251 (fun q => b0 ≤ q)) (F0 m 0 ls []) := by
  obtain ⟨hx, hb, hr, hml, hown, hts, hlocks, hK⟩ := id C0
  intro H locs ls hM hS hl
  unfold f_X6_init at h
  refine lv_aload_n hx hb dX6_init_0 rfl (lv_at hl 0 rfl) ?_
  refine W.objInit hx hb hown (hts _ q_X6_init_3) (hts _ q_X6_init_4) (hts _ q_X6_init_5) rfl (by rw [hml]; exact hl.1) rfl dX6_init_1 (Nat.le_of_ble_eq_true rfl) (Nat.le_of_ble_eq_true rfl) ?_
  refine lv_aload_n hx hb dX6_init_4 rfl (lv_at hl 0 rfl) ?_
  refine m_new (ci := 4) (fs := [.int 0, .null, .null, .null, .null, .int 0, .null, .null]) (C := RX4) (T := TX4) (N := 8) hx hb hts qi_X6_init_X4 tyX4 tyX4_ok hown (hts _ q_X6_init_7) (hts _ q_X6_init_8) (hts _ q_X6_init_9) hK.1 hM hS rfl (fun j hj => by match j, hj with | 0, _ => rfl | 1, _ => rfl | 2, _ => rfl | 3, _ => rfl | 4, _ => rfl | 5, _ => rfl | 6, _ => rfl | 7, _ => rfl | j + 8, hj => exact absurd hj (by omega)) (Nat.le_of_ble_eq_true rfl) (Nat.le_of_ble_eq_true rfl) dX6_init_5 (fun H hM hS => ?_)
  replace h := o_b h; obtain ⟨f5, h5, h⟩ := h
  replace h5 := Option.some.inj h5
  subst h5
  refine lv_dup hx hb dX6_init_8 rfl ?_
  replace h := o_b h; obtain ⟨q9, h9, h⟩ := h
  refine m_call (va_runI (As := []) (rest := [.ref sz, .ref v0]) ⟨hx, hb, hml, hown, hts⟩ (c_X4_init l D b0 (sz + 1) h9) (cwI 0 hts gX6_init_X4_init rfl rfl rfl (hts _ q_X6_init_9) (hts _ q_X6_init_10) (hts _ q_X6_init_11) rfl (by decide +kernel) ⟨Nat.le_of_ble_eq_true rfl, Nat.le_of_ble_eq_true rfl⟩) ⟨PW.blind, (fun U hU hW => ⟨rfl, PW.call hK hM hS hU hW⟩)⟩ rfl rfl hl.1 rfl (lv_room (Nat.le_of_ble_eq_true rfl)) dX6_init_9 ⟨(Nat.le_of_ble_eq_true rfl), (Nat.le_of_ble_eq_true rfl)⟩) hS (fun H locs hM hS => ?_)
  replace h := o_b h; obtain ⟨f12, h12, h⟩ := h
  refine m_putF (ty := (.object "StageTruths$Parts")) (C := RX6) (T := TX6) (N := 5) (ci := 6) hx hb hts qi_X6_init_X6 tyX6 tyX6_ok nmX6 hown hK.1 hM hS 0 h12 rfl (by decide) (hts _ q_X6_init_12) (fun _ h9 => h9) rfl hin rfl (by decide +kernel) rfl rfl dX6_init_12 (fun H locs hM hS => ?_)
  refine lv_aload_n hx hb dX6_init_15 rfl (lv_at hl 0 rfl) ?_
  refine lv_sipush (v := (151 : Int32)) hx hb dX6_init_16 (by decide) ?_
  refine m_newa 0 (by decide) hx hb (atype := .int) (N' := 151) (hts _ q_X6_init_13) rfl rfl hK.1 hM hS (y := .inl (fun _ => 0)) (fun _ => rfl) (fun _ => Iff.rfl) (by decide) (by decide) (Nat.le_of_ble_eq_true rfl) (Nat.le_of_ble_eq_true rfl) (Nat.le_of_ble_eq_true rfl) dX6_init_19 (fun H hM hS => ?_)
  replace h := o_b h; obtain ⟨f19, h19, h⟩ := h
  replace h19 := Option.some.inj h19
  subst h19
  replace h := o_b h; obtain ⟨f21, h21, h⟩ := h
  refine m_putF (ty := (.array .int)) (C := RX6) (T := TX6) (N := 5) (ci := 6) hx hb hts qi_X6_init_X6 tyX6 tyX6_ok nmX6 hown hK.1 hM hS 1 h21 rfl (by decide) (hts _ q_X6_init_1) (fun _ h9 => h9) rfl hin rfl (by decide +kernel) rfl rfl dX6_init_21 (fun H locs hM hS => ?_)
  refine lv_aload_n hx hb dX6_init_24 rfl (lv_at hl 0 rfl) ?_
  refine lv_sipush (v := (151 : Int32)) hx hb dX6_init_25 (by decide) ?_
  refine m_newa 0 (by decide) hx hb (atype := .int) (N' := 151) (hts _ q_X6_init_13) rfl rfl hK.1 hM hS (y := .inl (fun _ => 0)) (fun _ => rfl) (fun _ => Iff.rfl) (by decide) (by decide) (Nat.le_of_ble_eq_true rfl) (Nat.le_of_ble_eq_true rfl) (Nat.le_of_ble_eq_true rfl) dX6_init_28 (fun H hM hS => ?_)
  replace h := o_b h; obtain ⟨f28, h28, h⟩ := h
  replace h28 := Option.some.inj h28
  subst h28
  replace h := o_b h; obtain ⟨f30, h30, h⟩ := h
  refine m_putF (ty := (.array .int)) (C := RX6) (T := TX6) (N := 5) (ci := 6) hx hb hts qi_X6_init_X6 tyX6 tyX6_ok nmX6 hown hK.1 hM hS 2 h30 rfl (by decide) (hts _ q_X6_init_14) (fun _ h9 => h9) rfl hin rfl (by decide +kernel) rfl rfl dX6_init_30 (fun H locs hM hS => ?_)
  refine lv_aload_n hx hb dX6_init_33 rfl (lv_at hl 0 rfl) ?_
  refine lv_sipush (v := (151 : Int32)) hx hb dX6_init_34 (by decide) ?_
  refine m_newa 0 (by decide) hx hb (atype := .int) (N' := 151) (hts _ q_X6_init_13) rfl rfl hK.1 hM hS (y := .inl (fun _ => 0)) (fun _ => rfl) (fun _ => Iff.rfl) (by decide) (by decide) (Nat.le_of_ble_eq_true rfl) (Nat.le_of_ble_eq_true rfl) (Nat.le_of_ble_eq_true rfl) dX6_init_37 (fun H hM hS => ?_)
  replace h := o_b h; obtain ⟨f37, h37, h⟩ := h
  replace h37 := Option.some.inj h37
  subst h37
  replace h := o_b h; obtain ⟨f39, h39, h⟩ := h
  refine m_putF (ty := (.array .int)) (C := RX6) (T := TX6) (N := 5) (ci := 6) hx hb hts qi_X6_init_X6 tyX6 tyX6_ok nmX6 hown hK.1 hM hS 3 h39 rfl (by decide) (hts _ q_X6_init_15) (fun _ h9 => h9) rfl hin rfl (by decide +kernel) rfl rfl dX6_init_39 (fun H locs hM hS => ?_)
  refine lv_aload_n hx hb dX6_init_42 rfl (lv_at hl 0 rfl) ?_
  refine lv_sipush (v := (151 : Int32)) hx hb dX6_init_43 (by decide) ?_
  refine m_newa 0 (by decide) hx hb (atype := .int) (N' := 151) (hts _ q_X6_init_13) rfl rfl hK.1 hM hS (y := .inl (fun _ => 0)) (fun _ => rfl) (fun _ => Iff.rfl) (by decide) (by decide) (Nat.le_of_ble_eq_true rfl) (Nat.le_of_ble_eq_true rfl) (Nat.le_of_ble_eq_true rfl) dX6_init_46 (fun H hM hS => ?_)
  replace h := o_b h; obtain ⟨f46, h46, h⟩ := h
  replace h46 := Option.some.inj h46
  subst h46
  replace h := o_b h; obtain ⟨f48, h48, h⟩ := h
  refine m_putF (ty := (.array .int)) (C := RX6) (T := TX6) (N := 5) (ci := 6) hx hb hts qi_X6_init_X6 tyX6 tyX6_ok nmX6 hown hK.1 hM hS 4 h48 rfl (by decide) (hts _ q_X6_init_16) (fun _ h9 => h9) rfl hin rfl (by decide +kernel) rfl rfl dX6_init_48 (fun H locs hM hS => ?_)
  refine lv_iconst (v := (0 : Int32)) hx hb dX6_init_51 (by decide) ?_
  refine lv_istore_n (lv' := [(1, .int (0 : Int32)), (0, .ref v0)]) hx hb dX6_init_52 rfl hl (by decide) rfl (fun ls hl => ?_)
  exact w_X6_init_53 C0 hin FU _ _ _ _ h _ _ _ hM hS (lv_sub hl [1, 0] rfl)
set_option maxHeartbeats 4000000 in
set_option maxRecDepth 100000 in
theorem c_X6_init (l : Launch) (D : mmD) (b0 sz : Nat) {v0 : Nat} {f : mmF} {res : mmF × Nat} (h : f_X6_init v0 f sz = some res) : Met l yX6_init wsX6_init ({ frames := 2, cells := 11, slots := 1251, locals := 45 } : Room) (va_Pc [.ref v0] (PW D b0 f sz)) (QW D b0 none res.1 res.2) 11 1251 (fun q => b0 ≤ q) := by
  refine Met.ofW (cc := cX6_init) (maxL := 2) (ret := none) (by decide) rfl ?_
  intro p e s m args below meth c s₁ B hml hv
  obtain ⟨rfl, hM, hK⟩ := hv
  have hl := lv_entry ([.ref v0]) (n := 2) (Nat.le_of_ble_eq_true rfl)
  rw [lg_entry_eq]
  generalize (lg_sl ([.ref v0]) ++ List.replicate (2 - (lg_sl ([.ref v0])).length) Slot.unset).toArray = ls at hl ⊢
  have hl : lv_has ls 2 [(0, .ref v0)] := hl
  exact w_X6_init ⟨B.exec, B.bytes, B.returns, hml, findClass_of_methodNamed B.named, atoms_spec (ws := wsX6_init) B.pre, B.notSynchronized, hK⟩ (name_of_methodNamed B.named B.method).1 h s.heap [] ls hM va_S.rf hl
end S_X6_init
/-! X5_init -/
set_option maxRecDepth 20000 in
theorem qi_X5_init_X5 : ∀ w ∈ u_ws RX5 TX5 5, w ∈ wsX5_init := by decide +kernel
set_option maxRecDepth 20000 in
theorem q_X5_init_1 : Cond.fieldLink RX5 27 "StageTruths$Proof" "levels" "[LStageTruths$Level;" ∈ wsX5_init := by decide +kernel
set_option maxRecDepth 20000 in
theorem qi_X5_init_X2 : ∀ w ∈ u_ws RX2 TX2 5, w ∈ wsX5_init := by decide +kernel
set_option maxRecDepth 20000 in
theorem q_X5_init_3 : Cond.classLink RX5 25 RX2 ∈ wsX5_init := by decide +kernel
set_option maxRecDepth 20000 in
theorem q_X5_init_4 : Cond.instantiable RX2 5 ∈ wsX5_init := by decide +kernel
set_option maxRecDepth 20000 in
theorem q_X5_init_5 : Cond.initialized RX2 ∈ wsX5_init := by decide +kernel
set_option maxRecDepth 20000 in
theorem q_X5_init_6 : Cond.instanceMethod yX2_init ∈ wsX5_init := by decide +kernel
set_option maxRecDepth 20000 in
theorem q_X5_init_7 : Cond.methodLink RX5 5 objectInit ∈ wsX5_init := by decide +kernel
set_option maxRecDepth 20000 in
theorem q_X5_init_8 : Cond.instanceMethod objectInit ∈ wsX5_init := by decide +kernel
set_option maxRecDepth 20000 in
theorem q_X5_init_9 : Cond.code objectInit ⟨#[0xb1]⟩ 1 none ∈ wsX5_init := by decide +kernel
set_option maxRecDepth 20000 in
theorem qi_X5_init_X6 : ∀ w ∈ u_ws RX6 TX6 5, w ∈ wsX5_init := by decide +kernel
set_option maxRecDepth 20000 in
theorem q_X5_init_11 : Cond.classLink RX5 11 RX6 ∈ wsX5_init := by decide +kernel
set_option maxRecDepth 20000 in
theorem q_X5_init_12 : Cond.instantiable RX6 5 ∈ wsX5_init := by decide +kernel
set_option maxRecDepth 20000 in
theorem q_X5_init_13 : Cond.initialized RX6 ∈ wsX5_init := by decide +kernel
set_option maxRecDepth 20000 in
theorem q_X5_init_14 : Cond.methodLink RX5 13 yX6_init ∈ wsX5_init := by decide +kernel
set_option maxRecDepth 20000 in
theorem q_X5_init_15 : Cond.instanceMethod yX6_init ∈ wsX5_init := by decide +kernel
set_option maxRecDepth 20000 in
theorem q_X5_init_16 : Cond.fieldLink RX5 14 "StageTruths$Proof" "models" "LStageTruths$SmallModels;" ∈ wsX5_init := by decide +kernel
set_option maxRecDepth 20000 in
theorem q_X5_init_17 : Cond.fieldLink RX5 20 "StageTruths$SmallModels" "parts" "LStageTruths$Parts;" ∈ wsX5_init := by decide +kernel
set_option maxRecDepth 20000 in
theorem q_X5_init_18 : Cond.fieldLink RX5 24 "StageTruths$Proof" "parts" "LStageTruths$Parts;" ∈ wsX5_init := by decide +kernel
set_option maxRecDepth 20000 in
theorem qi_X5_init_X1 : ∀ w ∈ u_ws RX1 TX1 4, w ∈ wsX5_init := by decide +kernel
set_option maxRecDepth 20000 in
theorem q_X5_init_20 : Cond.classLink RX5 31 RX1 ∈ wsX5_init := by decide +kernel
set_option maxRecDepth 20000 in
theorem q_X5_init_21 : Cond.instantiable RX1 4 ∈ wsX5_init := by decide +kernel
set_option maxRecDepth 20000 in
theorem q_X5_init_22 : Cond.initialized RX1 ∈ wsX5_init := by decide +kernel
set_option maxRecDepth 20000 in
theorem q_X5_init_23 : Cond.methodLink RX5 33 yX1_init ∈ wsX5_init := by decide +kernel
set_option maxRecDepth 20000 in
theorem q_X5_init_24 : Cond.instanceMethod yX1_init ∈ wsX5_init := by decide +kernel
set_option maxRecDepth 20000 in
theorem q_X5_init_25 : Cond.fieldLink RX5 34 "StageTruths$Proof" "met" "LStageTruths$Findings;" ∈ wsX5_init := by decide +kernel
set_option maxRecDepth 20000 in
theorem q_X5_init_26 : Cond.fieldLink RX5 38 "StageTruths$Proof" "proved" "LStageTruths$Findings;" ∈ wsX5_init := by decide +kernel
noncomputable def f_X5_init_60   : Nat → Nat → Int32 → mmF → Nat → Nat → Nat → Option (mmF × Nat)
  | 0, _, _, _, _, _, _ => none
  | n + 1, v0, v1, f, sz, kc, ks =>
    if (153 : Int32) ≤ v1 then
    (if ¬ (kc ≤ 1040 ∧ ks ≤ 5298) then none else
    some (f, sz))
    else
    (ldR f v0 5 2).bind fun x68 =>
    if ¬ (kc + 1 ≤ 1040 ∧ ks + 5 ≤ 5298) then none else
    (some (va_up f sz (some (.inr (2, [.null, .null, .null, .null, .int 0]))))).bind fun f72 =>
    if ¬ ((kc + 1) + 4 ≤ 1040 ∧ (ks + 5) + 12 ≤ 5298) then none else
    (f_X2_init sz f72 (sz + 1)).bind fun q76 =>
    (stQ 4 2 q76.1 x68 v1 (some sz)).bind fun f79 =>
    f_X5_init_60 n v0 (v1 + (1 : Int32)) f79 q76.2 ((kc + 1) + 4) ((ks + 5) + 12)
noncomputable def f_X5_init (v0 : Nat) (f : mmF) (sz : Nat) : Option (mmF × Nat) :=
  if ¬ (0 + 1 ≤ 1040 ∧ 0 + 5 ≤ 5298) then none else
  (some (va_up f sz (some (.inr (6, [.null, .null, .null, .null, .null]))))).bind fun f5 =>
  if ¬ ((0 + 1) + 11 ≤ 1040 ∧ (0 + 5) + 1251 ≤ 5298) then none else
  (f_X6_init sz f5 (sz + 1)).bind fun q9 =>
  (stF q9.1 v0 5 0 (.ref sz)).bind fun f12 =>
  (ldR f12 v0 5 0).bind fun x17 =>
  (ldR f12 x17 6 0).bind fun x20 =>
  (stF f12 v0 5 1 (.ref x20)).bind fun f23 =>
  if ¬ (((0 + 1) + 11) + 1 ≤ 1040 ∧ ((0 + 5) + 1251) + 153 ≤ 5298) then none else
  (some (va_up f23 q9.2 (some (.inl (4, 153, .inr (.inr (.inr (.inr (fun _ => none))))))))).bind fun f30 =>
  (stF f30 v0 5 2 (.ref q9.2)).bind fun f33 =>
  if ¬ ((((0 + 1) + 11) + 1) + 1 ≤ 1040 ∧ (((0 + 5) + 1251) + 153) + 4 ≤ 5298) then none else
  (some (va_up f33 (q9.2 + 1) (some (.inr (1, [.int 0, .null, .null, .int 0]))))).bind fun f37 =>
  if ¬ (((((0 + 1) + 11) + 1) + 1) + 130 ≤ 1040 ∧ ((((0 + 5) + 1251) + 153) + 4) + 640 ≤ 5298) then none else
  (f_X1_init (q9.2 + 1) f37 ((q9.2 + 1) + 1)).bind fun q41 =>
  (stF q41.1 v0 5 3 (.ref (q9.2 + 1))).bind fun f44 =>
  if ¬ ((((((0 + 1) + 11) + 1) + 1) + 130) + 1 ≤ 1040 ∧ (((((0 + 5) + 1251) + 153) + 4) + 640) + 4 ≤ 5298) then none else
  (some (va_up f44 q41.2 (some (.inr (1, [.int 0, .null, .null, .int 0]))))).bind fun f48 =>
  if ¬ (((((((0 + 1) + 11) + 1) + 1) + 130) + 1) + 130 ≤ 1040 ∧ ((((((0 + 5) + 1251) + 153) + 4) + 640) + 4) + 640 ≤ 5298) then none else
  (f_X1_init q41.2 f48 (q41.2 + 1)).bind fun q52 =>
  (stF q52.1 v0 5 4 (.ref q41.2)).bind fun f55 =>
  f_X5_init_60 FU v0 (0 : Int32) f55 q52.2 (((((((0 + 1) + 11) + 1) + 1) + 130) + 1) + 130) (((((((0 + 5) + 1251) + 153) + 4) + 640) + 4) + 640)
section S_X5_init
variable {p : Program} {l : Launch} {e : Env} {s : State} {m : MethodId} {args : Array Value} {below : List Frame} {meth : Method} {c : Code} {D : mmD} {b0 sz : Nat} {f : mmF}
set_option maxHeartbeats 4000000 in
set_option maxRecDepth 100000 in
theorem w_X5_init_60 (C0 : CX cX5_init 2 none wsX5_init RX5 p s m args meth c D b0) (hin : meth.name = "<init>") {res : mmF × Nat} : ∀ (n : Nat), ∀ (v0 : Nat) (v1 : Int32) (f : mmF) (sz : Nat) (kc : Nat) (ks : Nat), f_X5_init_60 n v0 v1 f sz kc ks = some res → ∀ (H : Heap) (locs : List Loc) (ls : Array Slot), MM vwCl D b0 f sz s H → mS b0 s H locs → lv_has ls 2 [(0, .ref v0), (1, .int v1)] → W p l e ({ frames := 3, cells := 1040, slots := 5298, locals := 66 } : Room) s m args below meth c H locs kc ks (MQ below (QW D b0 none res.1 res.2) args s 1040 5298 (fun q => b0 ≤ q)) (F0 m 60 ls []) := by
  obtain ⟨hx, hb, hr, hml, hown, hts, hlocks, hK⟩ := id C0
  intro n
  induction n with
  | zero =>
    intro v0 v1 f sz kc ks h
    have h : (none : Option (mmF × Nat)) = some res := h
    cases h
  | succ n ih =>
    intro v0 v1 f sz kc ks h H locs ls hM hS hl
    rw [f_X5_init_60] at h
    refine lv_iload_n hx hb dX5_init_60 rfl (lv_at hl 1 rfl) ?_
    refine lv_sipush (v := (153 : Int32)) hx hb dX5_init_61 (by decide) ?_
    refine lv_icmp_ge (tgt := 86) hx hb dX5_init_64 (by decide) (fun c64 => ?_) (fun c64 => ?_)
    · replace h := o_t c64 h
      replace h := o_n h; obtain ⟨z86, h⟩ := h
      replace z86 := Decidable.not_not.mp z86
      refine W.widen (k := 1040) (n := 5298) z86.1 z86.2 ?_
      replace h := Option.some.inj h; subst h
      exact W.vret hx hb hr (fun t ht hW => ⟨rfl, by rw [ht]; exact hM.moved hW.alike, hS.F ht⟩) hS.2.2 dX5_init_86
    replace h := o_f c64 h
    refine lv_aload_n hx hb dX5_init_67 rfl (lv_at hl 0 rfl) ?_
    replace h := o_b h; obtain ⟨x68, h68, h⟩ := h
    refine m_get (C := RX5) (T := TX5) (N := 5) (ci := 5) hx hb hts qi_X5_init_X5 hown hK.1 hM 2 (ldR_F h68) rfl (by decide) (hts _ q_X5_init_1) (fun _ h9 => h9) dX5_init_68 ?_
    refine lv_iload_n hx hb dX5_init_71 rfl (lv_at hl 1 rfl) ?_
    replace h := o_n h; obtain ⟨z72, h⟩ := h
    replace z72 := Decidable.not_not.mp z72
    refine m_new (ci := 2) (fs := [.null, .null, .null, .null, .int 0]) (C := RX2) (T := TX2) (N := 5) hx hb hts qi_X5_init_X2 tyX2 tyX2_ok hown (hts _ q_X5_init_3) (hts _ q_X5_init_4) (hts _ q_X5_init_5) hK.1 hM hS rfl (fun j hj => by match j, hj with | 0, _ => rfl | 1, _ => rfl | 2, _ => rfl | 3, _ => rfl | 4, _ => rfl | j + 5, hj => exact absurd hj (by omega)) z72.1 z72.2 dX5_init_72 (fun H hM hS => ?_)
    replace h := o_b h; obtain ⟨f72, h72, h⟩ := h
    replace h72 := Option.some.inj h72
    subst h72
    refine lv_dup hx hb dX5_init_75 rfl ?_
    replace h := o_n h; obtain ⟨z76, h⟩ := h
    replace z76 := Decidable.not_not.mp z76
    replace h := o_b h; obtain ⟨q76, h76, h⟩ := h
    refine m_call (va_runIN (As := []) (rest := [.ref sz, .int v1, .ref x68]) ⟨hx, hb, hml, hown, hts⟩ (c_X2_init l D b0 (sz + 1) h76) ⟨(va_cnB 0 hts gX5_init_X2_init_n41 rfl rfl rfl (hK.2.1 (RX5, 41, yX2_init, "StageTruths") (by decide)) (hts _ q_X5_init_5) (by decide +kernel) ⟨Nat.le_of_ble_eq_true rfl, Nat.le_of_ble_eq_true rfl⟩), rfl, (hts _ q_X5_init_6)⟩ ⟨PW.blind, (fun U hU hW => ⟨rfl, PW.call hK hM hS hU hW⟩)⟩ rfl rfl hl.1 rfl (lv_room (Nat.le_of_ble_eq_true rfl)) dX5_init_76 ⟨z76.1, z76.2⟩) hS (fun H locs hM hS => ?_)
    replace h := o_b h; obtain ⟨f79, h79, h⟩ := h
    refine m_astq 4 2 (by decide) (r0 := (RX2, TX2, 5)) rfl rfl hx hb hK.1 hM hS (r := (some sz)) h79 dX5_init_79 (fun H locs hM hS => ?_)
    refine lv_iinc (v := (v1 + (1 : Int32))) (lv' := [(1, .int (v1 + (1 : Int32))), (0, .ref v0)]) hx hb dX5_init_80 hl (k := 1) rfl rfl (by decide) rfl (fun ls hl => ?_)
    refine lv_goto (tgt := 60) hx hb dX5_init_83 (by decide) ?_
    exact ih _ _ _ _ _ _ h _ _ _ hM hS (lv_sub hl [1, 0] rfl)
set_option maxHeartbeats 4000000 in
set_option maxRecDepth 100000 in
theorem w_X5_init (C0 : CX cX5_init 2 none wsX5_init RX5 p s m args meth c D b0) (hin : meth.name = "<init>") {v0 : Nat} {res : mmF × Nat} (h : f_X5_init v0 f sz = some res) : ∀ (H : Heap) (locs : List Loc) (ls : Array Slot), MM vwCl D b0 f sz s H → mS b0 s H locs → lv_has ls 2 [(0, .ref v0)] → W p l e ({ frames := 3, cells := 1040, slots := 5298, locals := 66 } : Room) s m args below meth c H locs 0 0 (MQ below (QW D b0 none res.1 res.2) args s 1040 5298 (fun q => b0 ≤ q)) (F0 m 0 ls []) := by
  obtain ⟨hx, hb, hr, hml, hown, hts, hlocks, hK⟩ := id C0
  intro H locs ls hM hS hl
  unfold f_X5_init at h
  refine lv_aload_n hx hb dX5_init_0 rfl (lv_at hl 0 rfl) ?_
  refine W.objInit hx hb hown (hts _ q_X5_init_7) (hts _ q_X5_init_8) (hts _ q_X5_init_9) rfl (by rw [hml]; exact hl.1) rfl dX5_init_1 (Nat.le_of_ble_eq_true rfl) (Nat.le_of_ble_eq_true rfl) ?_
  refine lv_aload_n hx hb dX5_init_4 rfl (lv_at hl 0 rfl) ?_
  replace h := o_n h; obtain ⟨z5, h⟩ := h
  replace z5 := Decidable.not_not.mp z5
  refine m_new (ci := 6) (fs := [.null, .null, .null, .null, .null]) (C := RX6) (T := TX6) (N := 5) hx hb hts qi_X5_init_X6 tyX6 tyX6_ok hown (hts _ q_X5_init_11) (hts _ q_X5_init_12) (hts _ q_X5_init_13) hK.1 hM hS rfl (fun j hj => by match j, hj with | 0, _ => rfl | 1, _ => rfl | 2, _ => rfl | 3, _ => rfl | 4, _ => rfl | j + 5, hj => exact absurd hj (by omega)) z5.1 z5.2 dX5_init_5 (fun H hM hS => ?_)
  replace h := o_b h; obtain ⟨f5, h5, h⟩ := h
  replace h5 := Option.some.inj h5
  subst h5
  refine lv_dup hx hb dX5_init_8 rfl ?_
  replace h := o_n h; obtain ⟨z9, h⟩ := h
  replace z9 := Decidable.not_not.mp z9
  replace h := o_b h; obtain ⟨q9, h9, h⟩ := h
  refine m_call (va_runI (As := []) (rest := [.ref sz, .ref v0]) ⟨hx, hb, hml, hown, hts⟩ (c_X6_init l D b0 (sz + 1) h9) (cwI 0 hts gX5_init_X6_init rfl rfl rfl (hts _ q_X5_init_13) (hts _ q_X5_init_14) (hts _ q_X5_init_15) rfl (by decide +kernel) ⟨Nat.le_of_ble_eq_true rfl, Nat.le_of_ble_eq_true rfl⟩) ⟨PW.blind, (fun U hU hW => ⟨rfl, PW.call hK hM hS hU hW⟩)⟩ rfl rfl hl.1 rfl (lv_room (Nat.le_of_ble_eq_true rfl)) dX5_init_9 ⟨z9.1, z9.2⟩) hS (fun H locs hM hS => ?_)
  replace h := o_b h; obtain ⟨f12, h12, h⟩ := h
  refine m_putF (ty := (.object "StageTruths$SmallModels")) (C := RX5) (T := TX5) (N := 5) (ci := 5) hx hb hts qi_X5_init_X5 tyX5 tyX5_ok nmX5 hown hK.1 hM hS 0 h12 rfl (by decide) (hts _ q_X5_init_16) (fun _ h9 => h9) rfl hin rfl (by decide +kernel) rfl rfl dX5_init_12 (fun H locs hM hS => ?_)
  refine lv_aload_n hx hb dX5_init_15 rfl (lv_at hl 0 rfl) ?_
  refine lv_aload_n hx hb dX5_init_16 rfl (lv_at hl 0 rfl) ?_
  replace h := o_b h; obtain ⟨x17, h17, h⟩ := h
  refine m_get (C := RX5) (T := TX5) (N := 5) (ci := 5) hx hb hts qi_X5_init_X5 hown hK.1 hM 0 (ldR_F h17) rfl (by decide) (hts _ q_X5_init_16) (fun _ h9 => h9) dX5_init_17 ?_
  replace h := o_b h; obtain ⟨x20, h20, h⟩ := h
  refine m_get (C := RX6) (T := TX6) (N := 5) (ci := 6) hx hb hts qi_X5_init_X6 hown hK.1 hM 0 (ldR_F h20) rfl (by decide) (hts _ q_X5_init_17) (fun _ h9 => h9) dX5_init_20 ?_
  replace h := o_b h; obtain ⟨f23, h23, h⟩ := h
  refine m_putF (ty := (.object "StageTruths$Parts")) (C := RX5) (T := TX5) (N := 5) (ci := 5) hx hb hts qi_X5_init_X5 tyX5 tyX5_ok nmX5 hown hK.1 hM hS 1 h23 rfl (by decide) (hts _ q_X5_init_18) (fun _ h9 => h9) rfl hin rfl (by decide +kernel) rfl rfl dX5_init_23 (fun H locs hM hS => ?_)
  refine lv_aload_n hx hb dX5_init_26 rfl (lv_at hl 0 rfl) ?_
  refine lv_sipush (v := (153 : Int32)) hx hb dX5_init_27 (by decide) ?_
  replace h := o_n h; obtain ⟨z30, h⟩ := h
  replace z30 := Decidable.not_not.mp z30
  refine m_newq (N' := 153) 4 (by decide) rfl hx hb hown (hts _ q_X5_init_3) (hK.2.2.1 RX2 (by decide)) hK.1 hM hS (by decide) (by decide) (Nat.le_of_ble_eq_true rfl) z30.1 z30.2 dX5_init_30 (fun H hM hS => ?_)
  replace h := o_b h; obtain ⟨f30, h30, h⟩ := h
  replace h30 := Option.some.inj h30
  subst h30
  replace h := o_b h; obtain ⟨f33, h33, h⟩ := h
  refine m_putF (ty := (.array (.object "StageTruths$Level"))) (C := RX5) (T := TX5) (N := 5) (ci := 5) hx hb hts qi_X5_init_X5 tyX5 tyX5_ok nmX5 hown hK.1 hM hS 2 h33 rfl (by decide) (hts _ q_X5_init_1) (fun _ h9 => h9) rfl hin rfl (by decide +kernel) rfl rfl dX5_init_33 (fun H locs hM hS => ?_)
  refine lv_aload_n hx hb dX5_init_36 rfl (lv_at hl 0 rfl) ?_
  replace h := o_n h; obtain ⟨z37, h⟩ := h
  replace z37 := Decidable.not_not.mp z37
  refine m_new (ci := 1) (fs := [.int 0, .null, .null, .int 0]) (C := RX1) (T := TX1) (N := 4) hx hb hts qi_X5_init_X1 tyX1 tyX1_ok hown (hts _ q_X5_init_20) (hts _ q_X5_init_21) (hts _ q_X5_init_22) hK.1 hM hS rfl (fun j hj => by match j, hj with | 0, _ => rfl | 1, _ => rfl | 2, _ => rfl | 3, _ => rfl | j + 4, hj => exact absurd hj (by omega)) z37.1 z37.2 dX5_init_37 (fun H hM hS => ?_)
  replace h := o_b h; obtain ⟨f37, h37, h⟩ := h
  replace h37 := Option.some.inj h37
  subst h37
  refine lv_dup hx hb dX5_init_40 rfl ?_
  replace h := o_n h; obtain ⟨z41, h⟩ := h
  replace z41 := Decidable.not_not.mp z41
  replace h := o_b h; obtain ⟨q41, h41, h⟩ := h
  refine m_call (va_runI (As := []) (rest := [.ref (q9.2 + 1), .ref v0]) ⟨hx, hb, hml, hown, hts⟩ (c_X1_init l D b0 ((q9.2 + 1) + 1) h41) (cwI 0 hts gX5_init_X1_init rfl rfl rfl (hts _ q_X5_init_22) (hts _ q_X5_init_23) (hts _ q_X5_init_24) rfl (by decide +kernel) ⟨Nat.le_of_ble_eq_true rfl, Nat.le_of_ble_eq_true rfl⟩) ⟨PW.blind, (fun U hU hW => ⟨rfl, PW.call hK hM hS hU hW⟩)⟩ rfl rfl hl.1 rfl (lv_room (Nat.le_of_ble_eq_true rfl)) dX5_init_41 ⟨z41.1, z41.2⟩) hS (fun H locs hM hS => ?_)
  replace h := o_b h; obtain ⟨f44, h44, h⟩ := h
  refine m_putF (ty := (.object "StageTruths$Findings")) (C := RX5) (T := TX5) (N := 5) (ci := 5) hx hb hts qi_X5_init_X5 tyX5 tyX5_ok nmX5 hown hK.1 hM hS 3 h44 rfl (by decide) (hts _ q_X5_init_25) (fun _ h9 => h9) rfl hin rfl (by decide +kernel) rfl rfl dX5_init_44 (fun H locs hM hS => ?_)
  refine lv_aload_n hx hb dX5_init_47 rfl (lv_at hl 0 rfl) ?_
  replace h := o_n h; obtain ⟨z48, h⟩ := h
  replace z48 := Decidable.not_not.mp z48
  refine m_new (ci := 1) (fs := [.int 0, .null, .null, .int 0]) (C := RX1) (T := TX1) (N := 4) hx hb hts qi_X5_init_X1 tyX1 tyX1_ok hown (hts _ q_X5_init_20) (hts _ q_X5_init_21) (hts _ q_X5_init_22) hK.1 hM hS rfl (fun j hj => by match j, hj with | 0, _ => rfl | 1, _ => rfl | 2, _ => rfl | 3, _ => rfl | j + 4, hj => exact absurd hj (by omega)) z48.1 z48.2 dX5_init_48 (fun H hM hS => ?_)
  replace h := o_b h; obtain ⟨f48, h48, h⟩ := h
  replace h48 := Option.some.inj h48
  subst h48
  refine lv_dup hx hb dX5_init_51 rfl ?_
  replace h := o_n h; obtain ⟨z52, h⟩ := h
  replace z52 := Decidable.not_not.mp z52
  replace h := o_b h; obtain ⟨q52, h52, h⟩ := h
  refine m_call (va_runI (As := []) (rest := [.ref q41.2, .ref v0]) ⟨hx, hb, hml, hown, hts⟩ (c_X1_init l D b0 (q41.2 + 1) h52) (cwI 0 hts gX5_init_X1_init rfl rfl rfl (hts _ q_X5_init_22) (hts _ q_X5_init_23) (hts _ q_X5_init_24) rfl (by decide +kernel) ⟨Nat.le_of_ble_eq_true rfl, Nat.le_of_ble_eq_true rfl⟩) ⟨PW.blind, (fun U hU hW => ⟨rfl, PW.call hK hM hS hU hW⟩)⟩ rfl rfl hl.1 rfl (lv_room (Nat.le_of_ble_eq_true rfl)) dX5_init_52 ⟨z52.1, z52.2⟩) hS (fun H locs hM hS => ?_)
  replace h := o_b h; obtain ⟨f55, h55, h⟩ := h
  refine m_putF (ty := (.object "StageTruths$Findings")) (C := RX5) (T := TX5) (N := 5) (ci := 5) hx hb hts qi_X5_init_X5 tyX5 tyX5_ok nmX5 hown hK.1 hM hS 4 h55 rfl (by decide) (hts _ q_X5_init_26) (fun _ h9 => h9) rfl hin rfl (by decide +kernel) rfl rfl dX5_init_55 (fun H locs hM hS => ?_)
  refine lv_iconst (v := (0 : Int32)) hx hb dX5_init_58 (by decide) ?_
  refine lv_istore_n (lv' := [(1, .int (0 : Int32)), (0, .ref v0)]) hx hb dX5_init_59 rfl hl (by decide) rfl (fun ls hl => ?_)
  exact w_X5_init_60 C0 hin FU _ _ _ _ _ _ h _ _ _ hM hS (lv_sub hl [1, 0] rfl)
set_option maxHeartbeats 4000000 in
set_option maxRecDepth 100000 in
theorem c_X5_init (l : Launch) (D : mmD) (b0 sz : Nat) {v0 : Nat} {f : mmF} {res : mmF × Nat} (h : f_X5_init v0 f sz = some res) : Met l yX5_init wsX5_init ({ frames := 3, cells := 1040, slots := 5298, locals := 66 } : Room) (va_Pc [.ref v0] (PW D b0 f sz)) (QW D b0 none res.1 res.2) 1040 5298 (fun q => b0 ≤ q) := by
  refine Met.ofW (cc := cX5_init) (maxL := 2) (ret := none) (by decide) rfl ?_
  intro p e s m args below meth c s₁ B hml hv
  obtain ⟨rfl, hM, hK⟩ := hv
  have hl := lv_entry ([.ref v0]) (n := 2) (Nat.le_of_ble_eq_true rfl)
  rw [lg_entry_eq]
  generalize (lg_sl ([.ref v0]) ++ List.replicate (2 - (lg_sl ([.ref v0])).length) Slot.unset).toArray = ls at hl ⊢
  have hl : lv_has ls 2 [(0, .ref v0)] := hl
  exact w_X5_init ⟨B.exec, B.bytes, B.returns, hml, findClass_of_methodNamed B.named, atoms_spec (ws := wsX5_init) B.pre, B.notSynchronized, hK⟩ (name_of_methodNamed B.named B.method).1 h s.heap [] ls hM va_S.rf hl
end S_X5_init
/-! X5_startAnew -/
set_option maxRecDepth 20000 in
theorem qi_X5_startAnew_X5 : ∀ w ∈ u_ws RX5 TX5 5, w ∈ wsX5_startAnew := by decide +kernel
set_option maxRecDepth 20000 in
theorem q_X5_startAnew_1 : Cond.fieldLink RX5 34 "StageTruths$Proof" "met" "LStageTruths$Findings;" ∈ wsX5_startAnew := by decide +kernel
set_option maxRecDepth 20000 in
theorem q_X5_startAnew_2 : Cond.fieldLink RX5 38 "StageTruths$Proof" "proved" "LStageTruths$Findings;" ∈ wsX5_startAnew := by decide +kernel
noncomputable def f_X5_startAnew (v0 : Nat) (f : mmF) : Option (mmF) :=
  (ldR f v0 5 3).bind fun x1 =>
  (ckO f x1 1).bind fun _ =>
  (f_X1_clear x1 f).bind fun q4 =>
  (ldR q4 v0 5 4).bind fun x8 =>
  (ckO q4 x8 1).bind fun _ =>
  (f_X1_clear x8 q4).bind fun q11 =>
  some (q11)
section S_X5_startAnew
variable {p : Program} {l : Launch} {e : Env} {s : State} {m : MethodId} {args : Array Value} {below : List Frame} {meth : Method} {c : Code} {D : mmD} {b0 sz : Nat} {f : mmF}
set_option maxHeartbeats 4000000 in
set_option maxRecDepth 100000 in
theorem w_X5_startAnew (C0 : CX cX5_startAnew 1 none wsX5_startAnew RX5 p s m args meth c D b0) {v0 : Nat} {res : mmF} (h : f_X5_startAnew v0 f = some res) : ∀ (H : Heap) (locs : List Loc) (ls : Array Slot), MM vwCl D b0 f sz s H → mS b0 s H locs → lv_has ls 1 [(0, .ref v0)] → W p l e ({ frames := 1, cells := 0, slots := 0, locals := 20 } : Room) s m args below meth c H locs 0 0 (MQ below (QW D b0 none res sz) args s 0 0 (fun q => b0 ≤ q)) (F0 m 0 ls []) := by
  obtain ⟨hx, hb, hr, hml, hown, hts, hlocks, hK⟩ := id C0
  intro H locs ls hM hS hl
  unfold f_X5_startAnew at h
  refine lv_aload_n hx hb dX5_startAnew_0 rfl (lv_at hl 0 rfl) ?_
  replace h := o_b h; obtain ⟨x1, h1, h⟩ := h
  refine m_get (C := RX5) (T := TX5) (N := 5) (ci := 5) hx hb hts qi_X5_startAnew_X5 hown hK.1 hM 3 (ldR_F h1) rfl (by decide) (hts _ q_X5_startAnew_1) (fun _ h9 => h9) dX5_startAnew_1 ?_
  replace h := o_b h; obtain ⟨_, k4, h⟩ := h
  replace h := o_b h; obtain ⟨q4, h4, h⟩ := h
  refine m_call (va_runV (As := []) (rest := []) ⟨hx, hb, hml, hown, hts⟩ (c_X1_clear l D b0 sz h4) (cwV 0 hts gX5_startAnew_X1_clear rfl rfl rfl (by decide +kernel) ⟨Nat.le_of_ble_eq_true rfl, Nat.le_of_ble_eq_true rfl⟩) ⟨PW.blind, m_recv (ci := 1) rfl hK hM k4, (fun U hU hW => ⟨rfl, PW.call hK hM hS hU hW⟩)⟩ rfl rfl hl.1 rfl (lv_room (Nat.le_of_ble_eq_true rfl)) dX5_startAnew_4 ⟨(Nat.le_refl _), (Nat.le_refl _)⟩) hS (fun H locs hM hS => ?_)
  refine lv_aload_n hx hb dX5_startAnew_7 rfl (lv_at hl 0 rfl) ?_
  replace h := o_b h; obtain ⟨x8, h8, h⟩ := h
  refine m_get (C := RX5) (T := TX5) (N := 5) (ci := 5) hx hb hts qi_X5_startAnew_X5 hown hK.1 hM 4 (ldR_F h8) rfl (by decide) (hts _ q_X5_startAnew_2) (fun _ h9 => h9) dX5_startAnew_8 ?_
  replace h := o_b h; obtain ⟨_, k11, h⟩ := h
  replace h := o_b h; obtain ⟨q11, h11, h⟩ := h
  refine m_call (va_runV (As := []) (rest := []) ⟨hx, hb, hml, hown, hts⟩ (c_X1_clear l D b0 sz h11) (cwV 0 hts gX5_startAnew_X1_clear rfl rfl rfl (by decide +kernel) ⟨Nat.le_of_ble_eq_true rfl, Nat.le_of_ble_eq_true rfl⟩) ⟨PW.blind, m_recv (ci := 1) rfl hK hM k11, (fun U hU hW => ⟨rfl, PW.call hK hM hS hU hW⟩)⟩ rfl rfl hl.1 rfl (lv_room (Nat.le_of_ble_eq_true rfl)) dX5_startAnew_11 ⟨(Nat.le_refl _), (Nat.le_refl _)⟩) hS (fun H locs hM hS => ?_)
  replace h := Option.some.inj h; subst h
  exact W.vret hx hb hr (fun t ht hW => ⟨rfl, by rw [ht]; exact hM.moved hW.alike, hS.F ht⟩) hS.2.2 dX5_startAnew_14
set_option maxHeartbeats 4000000 in
set_option maxRecDepth 100000 in
theorem c_X5_startAnew (l : Launch) (D : mmD) (b0 sz : Nat) {v0 : Nat} {f : mmF} {res : mmF} (h : f_X5_startAnew v0 f = some res) : Met l yX5_startAnew wsX5_startAnew ({ frames := 1, cells := 0, slots := 0, locals := 20 } : Room) (va_Pc [.ref v0] (PW D b0 f sz)) (QW D b0 none res sz) 0 0 (fun q => b0 ≤ q) := by
  refine Met.ofW (cc := cX5_startAnew) (maxL := 1) (ret := none) (by decide) rfl ?_
  intro p e s m args below meth c s₁ B hml hv
  obtain ⟨rfl, hM, hK⟩ := hv
  have hl := lv_entry ([.ref v0]) (n := 1) (Nat.le_of_ble_eq_true rfl)
  rw [lg_entry_eq]
  generalize (lg_sl ([.ref v0]) ++ List.replicate (1 - (lg_sl ([.ref v0])).length) Slot.unset).toArray = ls at hl ⊢
  have hl : lv_has ls 1 [(0, .ref v0)] := hl
  exact w_X5_startAnew ⟨B.exec, B.bytes, B.returns, hml, findClass_of_methodNamed B.named, atoms_spec (ws := wsX5_startAnew) B.pre, B.notSynchronized, hK⟩ h s.heap [] ls hM va_S.rf hl
end S_X5_startAnew
/-! X6_singles -/
set_option maxRecDepth 20000 in
theorem qi_X6_singles_X6 : ∀ w ∈ u_ws RX6 TX6 5, w ∈ wsX6_singles := by decide +kernel
set_option maxRecDepth 20000 in
theorem q_X6_singles_1 : Cond.fieldLink RX6 22 "StageTruths$SmallModels" "single" "[I" ∈ wsX6_singles := by decide +kernel
set_option maxRecDepth 20000 in
theorem q_X6_singles_2 : Cond.initialized RX9 ∈ wsX6_singles := by decide +kernel
set_option maxRecDepth 20000 in
theorem q_X6_singles_3 : Cond.static yX9_at ∈ wsX6_singles := by decide +kernel
noncomputable def f_X6_singles (v0 : Nat) (v1 : Int32) (f : mmF) : Option (Int32) :=
  (ldR f v0 6 2).bind fun x1 =>
  (f_X9_at x1 v1 f).bind fun q5 =>
  some (q5)
section S_X6_singles
variable {p : Program} {l : Launch} {e : Env} {s : State} {m : MethodId} {args : Array Value} {below : List Frame} {meth : Method} {c : Code} {D : mmD} {b0 sz : Nat} {f : mmF}
set_option maxHeartbeats 4000000 in
set_option maxRecDepth 100000 in
theorem w_X6_singles (C0 : CX cX6_singles 2 (some .int) wsX6_singles RX6 p s m args meth c D b0) {v0 : Nat} {v1 : Int32} {res : Int32} (h : f_X6_singles v0 v1 f = some res) : ∀ (H : Heap) (locs : List Loc) (ls : Array Slot), MM vwCl D b0 f sz s H → mS b0 s H locs → lv_has ls 2 [(0, .ref v0), (1, .int v1)] → W p l e ({ frames := 1, cells := 0, slots := 0, locals := 21 } : Room) s m args below meth c H locs 0 0 (MQ below (QW D b0 (some (.int res)) f sz) args s 0 0 (fun q => b0 ≤ q)) (F0 m 0 ls []) := by
  obtain ⟨hx, hb, hr, hml, hown, hts, hlocks, hK⟩ := id C0
  intro H locs ls hM hS hl
  unfold f_X6_singles at h
  refine lv_aload_n hx hb dX6_singles_0 rfl (lv_at hl 0 rfl) ?_
  replace h := o_b h; obtain ⟨x1, h1, h⟩ := h
  refine m_get (C := RX6) (T := TX6) (N := 5) (ci := 6) hx hb hts qi_X6_singles_X6 hown hK.1 hM 2 (ldR_F h1) rfl (by decide) (hts _ q_X6_singles_1) (fun _ h9 => h9) dX6_singles_1 ?_
  refine lv_iload_n hx hb dX6_singles_4 rfl (lv_at hl 1 rfl) ?_
  replace h := o_b h; obtain ⟨q5, h5, h⟩ := h
  refine m_call (va_runSN (As := [.ref x1, .int v1]) (rest := []) ⟨hx, hb, hml, hown, hts⟩ (c_X9_at l D b0 sz h5) ⟨(va_cnB 2 hts gX6_singles_X9_at_n36 rfl rfl rfl (hK.2.1 (RX6, 36, yX9_at, "StageTruths") (by decide)) (hts _ q_X6_singles_2) (by decide +kernel) ⟨Nat.le_of_ble_eq_true rfl, Nat.le_of_ble_eq_true rfl⟩), (hts _ q_X6_singles_3), trivial⟩ ⟨PW.blind, (fun U hU hW => ⟨rfl, PW.call hK hM hS hU hW⟩)⟩ rfl rfl hl.1 rfl (lv_room (Nat.le_of_ble_eq_true rfl)) dX6_singles_5 ⟨(Nat.le_refl _), (Nat.le_refl _)⟩) hS (fun H locs hM hS => ?_)
  replace h := Option.some.inj h; subst h
  exact W.iret hx hb hr (fun t ht hW => ⟨rfl, by rw [ht]; exact hM.moved hW.alike, hS.F ht⟩) hS.2.2 dX6_singles_8
set_option maxHeartbeats 4000000 in
set_option maxRecDepth 100000 in
theorem c_X6_singles (l : Launch) (D : mmD) (b0 sz : Nat) {v0 : Nat} {v1 : Int32} {f : mmF} {res : Int32} (h : f_X6_singles v0 v1 f = some res) : Met l yX6_singles wsX6_singles ({ frames := 1, cells := 0, slots := 0, locals := 21 } : Room) (va_Pc [.ref v0, .int v1] (PW D b0 f sz)) (QW D b0 (some (.int res)) f sz) 0 0 (fun q => b0 ≤ q) := by
  refine Met.ofW (cc := cX6_singles) (maxL := 2) (ret := (some .int)) (by decide) rfl ?_
  intro p e s m args below meth c s₁ B hml hv
  obtain ⟨rfl, hM, hK⟩ := hv
  have hl := lv_entry ([.ref v0, .int v1]) (n := 2) (Nat.le_of_ble_eq_true rfl)
  rw [lg_entry_eq]
  generalize (lg_sl ([.ref v0, .int v1]) ++ List.replicate (2 - (lg_sl ([.ref v0, .int v1])).length) Slot.unset).toArray = ls at hl ⊢
  have hl : lv_has ls 2 [(0, .ref v0), (1, .int v1)] := hl
  exact w_X6_singles ⟨B.exec, B.bytes, B.returns, hml, findClass_of_methodNamed B.named, atoms_spec (ws := wsX6_singles) B.pre, B.notSynchronized, hK⟩ h s.heap [] ls hM va_S.rf hl
end S_X6_singles
/-! X5_assume -/
set_option maxRecDepth 20000 in
theorem qi_X5_assume_X2 : ∀ w ∈ u_ws RX2 TX2 5, w ∈ wsX5_assume := by decide +kernel
set_option maxRecDepth 20000 in
theorem q_X5_assume_1 : Cond.fieldLink RX5 45 "StageTruths$Level" "known" "LStageTruths$PartSet;" ∈ wsX5_assume := by decide +kernel
set_option maxRecDepth 20000 in
theorem q_X5_assume_2 : Cond.fieldLink RX5 55 "StageTruths$Level" "singles" "I" ∈ wsX5_assume := by decide +kernel
set_option maxRecDepth 20000 in
theorem qi_X5_assume_X5 : ∀ w ∈ u_ws RX5 TX5 5, w ∈ wsX5_assume := by decide +kernel
set_option maxRecDepth 20000 in
theorem q_X5_assume_4 : Cond.fieldLink RX5 14 "StageTruths$Proof" "models" "LStageTruths$SmallModels;" ∈ wsX5_assume := by decide +kernel
noncomputable def f_X5_assume (v0 : Nat) (v1 : Nat) (v2 : Int32) (f : mmF) : Option (mmF) :=
  (ldR f v1 2 0).bind fun x1 =>
  (ckO f x1 3).bind fun _ =>
  (f_X3_set x1 v2 (1 : Int32) f).bind fun q6 =>
  (ldI q6 v1 2 4).bind fun x11 =>
  (ldR q6 v0 5 0).bind fun x15 =>
  (ckO q6 x15 6).bind fun _ =>
  (f_X6_singles x15 v2 q6).bind fun q19 =>
  (stF q6 v1 2 4 (.int (x11 &&& q19))).bind fun f23 =>
  some (f23)
section S_X5_assume
variable {p : Program} {l : Launch} {e : Env} {s : State} {m : MethodId} {args : Array Value} {below : List Frame} {meth : Method} {c : Code} {D : mmD} {b0 sz : Nat} {f : mmF}
set_option maxHeartbeats 4000000 in
set_option maxRecDepth 100000 in
theorem w_X5_assume (C0 : CX cX5_assume 3 none wsX5_assume RX5 p s m args meth c D b0) {v0 : Nat} {v1 : Nat} {v2 : Int32} {res : mmF} (h : f_X5_assume v0 v1 v2 f = some res) : ∀ (H : Heap) (locs : List Loc) (ls : Array Slot), MM vwCl D b0 f sz s H → mS b0 s H locs → lv_has ls 3 [(0, .ref v0), (1, .ref v1), (2, .int v2)] → W p l e ({ frames := 2, cells := 0, slots := 0, locals := 42 } : Room) s m args below meth c H locs 0 0 (MQ below (QW D b0 none res sz) args s 0 0 (fun q => b0 ≤ q)) (F0 m 0 ls []) := by
  obtain ⟨hx, hb, hr, hml, hown, hts, hlocks, hK⟩ := id C0
  intro H locs ls hM hS hl
  unfold f_X5_assume at h
  refine lv_aload_n hx hb dX5_assume_0 rfl (lv_at hl 1 rfl) ?_
  replace h := o_b h; obtain ⟨x1, h1, h⟩ := h
  refine m_get (C := RX2) (T := TX2) (N := 5) (ci := 2) hx hb hts qi_X5_assume_X2 hown hK.1 hM 0 (ldR_F h1) rfl (by decide) (hts _ q_X5_assume_1) (fun _ h9 => h9) dX5_assume_1 ?_
  refine lv_iload_n hx hb dX5_assume_4 rfl (lv_at hl 2 rfl) ?_
  refine lv_iconst (v := (1 : Int32)) hx hb dX5_assume_5 (by decide) ?_
  replace h := o_b h; obtain ⟨_, k6, h⟩ := h
  replace h := o_b h; obtain ⟨q6, h6, h⟩ := h
  refine m_call (va_runV (As := [.int v2, .int (1 : Int32)]) (rest := []) ⟨hx, hb, hml, hown, hts⟩ (c_X3_set l D b0 sz h6) (cwV 2 hts gX5_assume_X3_set rfl rfl rfl (by decide +kernel) ⟨Nat.le_of_ble_eq_true rfl, Nat.le_of_ble_eq_true rfl⟩) ⟨PW.blind, m_recv (ci := 3) rfl hK hM k6, (fun U hU hW => ⟨rfl, PW.call hK hM hS hU hW⟩)⟩ rfl rfl hl.1 rfl (lv_room (Nat.le_of_ble_eq_true rfl)) dX5_assume_6 ⟨(Nat.le_refl _), (Nat.le_refl _)⟩) hS (fun H locs hM hS => ?_)
  refine lv_aload_n hx hb dX5_assume_9 rfl (lv_at hl 1 rfl) ?_
  refine lv_dup hx hb dX5_assume_10 rfl ?_
  replace h := o_b h; obtain ⟨x11, h11, h⟩ := h
  refine m_get (C := RX2) (T := TX2) (N := 5) (ci := 2) hx hb hts qi_X5_assume_X2 hown hK.1 hM 4 (ldI_F h11) rfl (by decide) (hts _ q_X5_assume_2) (fun _ h9 => h9) dX5_assume_11 ?_
  refine lv_aload_n hx hb dX5_assume_14 rfl (lv_at hl 0 rfl) ?_
  replace h := o_b h; obtain ⟨x15, h15, h⟩ := h
  refine m_get (C := RX5) (T := TX5) (N := 5) (ci := 5) hx hb hts qi_X5_assume_X5 hown hK.1 hM 0 (ldR_F h15) rfl (by decide) (hts _ q_X5_assume_4) (fun _ h9 => h9) dX5_assume_15 ?_
  refine lv_iload_n hx hb dX5_assume_18 rfl (lv_at hl 2 rfl) ?_
  replace h := o_b h; obtain ⟨_, k19, h⟩ := h
  replace h := o_b h; obtain ⟨q19, h19, h⟩ := h
  refine m_call (va_runV (As := [.int v2]) (rest := [.int x11, .ref v1]) ⟨hx, hb, hml, hown, hts⟩ (c_X6_singles l D b0 sz h19) (cwV 1 hts gX5_assume_X6_singles rfl rfl rfl (by decide +kernel) ⟨Nat.le_of_ble_eq_true rfl, Nat.le_of_ble_eq_true rfl⟩) ⟨PW.blind, m_recv (ci := 6) rfl hK hM k19, (fun U hU hW => ⟨rfl, PW.call hK hM hS hU hW⟩)⟩ rfl rfl hl.1 rfl (lv_room (Nat.le_of_ble_eq_true rfl)) dX5_assume_19 ⟨(Nat.le_refl _), (Nat.le_refl _)⟩) hS (fun H locs hM hS => ?_)
  refine lv_iand hx hb dX5_assume_22 ?_
  replace h := o_b h; obtain ⟨f23, h23, h⟩ := h
  refine m_put (ty := .int) (C := RX2) (T := TX2) (N := 5) (ci := 2) hx hb hts qi_X5_assume_X2 tyX2 tyX2_ok nmX2 hown hK.1 hM hS 4 h23 rfl (by decide) (hts _ q_X5_assume_2) (fun _ h9 => h9) rfl (by decide +kernel) rfl rfl dX5_assume_23 (fun H locs hM hS => ?_)
  replace h := Option.some.inj h; subst h
  exact W.vret hx hb hr (fun t ht hW => ⟨rfl, by rw [ht]; exact hM.moved hW.alike, hS.F ht⟩) hS.2.2 dX5_assume_26
set_option maxHeartbeats 4000000 in
set_option maxRecDepth 100000 in
theorem c_X5_assume (l : Launch) (D : mmD) (b0 sz : Nat) {v0 : Nat} {v1 : Nat} {v2 : Int32} {f : mmF} {res : mmF} (h : f_X5_assume v0 v1 v2 f = some res) : Met l yX5_assume wsX5_assume ({ frames := 2, cells := 0, slots := 0, locals := 42 } : Room) (va_Pc [.ref v0, .ref v1, .int v2] (PW D b0 f sz)) (QW D b0 none res sz) 0 0 (fun q => b0 ≤ q) := by
  refine Met.ofW (cc := cX5_assume) (maxL := 3) (ret := none) (by decide) rfl ?_
  intro p e s m args below meth c s₁ B hml hv
  obtain ⟨rfl, hM, hK⟩ := hv
  have hl := lv_entry ([.ref v0, .ref v1, .int v2]) (n := 3) (Nat.le_of_ble_eq_true rfl)
  rw [lg_entry_eq]
  generalize (lg_sl ([.ref v0, .ref v1, .int v2]) ++ List.replicate (3 - (lg_sl ([.ref v0, .ref v1, .int v2])).length) Slot.unset).toArray = ls at hl ⊢
  have hl : lv_has ls 3 [(0, .ref v0), (1, .ref v1), (2, .int v2)] := hl
  exact w_X5_assume ⟨B.exec, B.bytes, B.returns, hml, findClass_of_methodNamed B.named, atoms_spec (ws := wsX5_assume) B.pre, B.notSynchronized, hK⟩ h s.heap [] ls hM va_S.rf hl
end S_X5_assume
