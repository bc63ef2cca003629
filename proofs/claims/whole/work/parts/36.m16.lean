/-! X10_isIn -/
noncomputable def f_X10_isIn (v0 : Int32) (v1 : Int32) (f : mmF) : Option (Int32) :=
  if ((v0 >>> (v1 &&& 31)) &&& (1 : Int32)) = (1 : Int32) then
  (some ((1 : Int32)))
  else
  some ((0 : Int32))
section S_X10_isIn
variable {p : Program} {l : Launch} {e : Env} {s : State} {m : MethodId} {args : Array Value} {below : List Frame} {meth : Method} {c : Code} {D : mmD} {b0 sz : Nat} {f : mmF}
set_option maxHeartbeats 4000000 in
set_option maxRecDepth 100000 in
theorem w_X10_isIn (C0 : CX cX10_isIn 2 (some .boolean) wsX10_isIn RX10 p s m args meth c D b0) {v0 : Int32} {v1 : Int32} {res : Int32} (h : f_X10_isIn v0 v1 f = some res) : ∀ (H : Heap) (locs : List Loc) (ls : Array Slot), MM vwCl D b0 f sz s H → mS b0 s H locs → lv_has ls 2 [(0, .int v0), (1, .int v1)] → W p l e ({ frames := 0, cells := 0, slots := 0, locals := 0 } : Room) s m args below meth c H locs 0 0 (MQ below (QW D b0 (some (.int res)) f sz) args s 0 0 (fun q => b0 ≤ q)) (F0 m 0 ls []) := by
  obtain ⟨hx, hb, hr, hml, hown, hts, hlocks, hK⟩ := id C0
  intro H locs ls hM hS hl
  unfold f_X10_isIn at h
  refine lv_iload_n hx hb dX10_isIn_0 rfl (lv_at hl 0 rfl) ?_
  refine lv_iload_n hx hb dX10_isIn_1 rfl (lv_at hl 1 rfl) ?_
  refine lv_ishr hx hb dX10_isIn_2 ?_
  refine lv_iconst (v := (1 : Int32)) hx hb dX10_isIn_3 (by decide) ?_
  refine lv_iand hx hb dX10_isIn_4 ?_
  refine lv_iconst (v := (1 : Int32)) hx hb dX10_isIn_5 (by decide) ?_
  refine lv_icmp_ne (tgt := 13) hx hb dX10_isIn_6 (by decide) (fun c6 => ?_) (fun c6 => ?_)
  · replace h := o_f c6 h
    refine lv_iconst (v := (0 : Int32)) hx hb dX10_isIn_13 (by decide) ?_
    replace h := Option.some.inj h; subst h
    exact W.zret hx hb hr rfl (fun t ht hW => ⟨rfl, by rw [ht]; exact hM.moved hW.alike, hS.F ht⟩) hS.2.2 dX10_isIn_14
  replace h := o_t c6 h
  refine lv_iconst (v := (1 : Int32)) hx hb dX10_isIn_9 (by decide) ?_
  refine lv_goto (tgt := 14) hx hb dX10_isIn_10 (by decide) ?_
  replace h := Option.some.inj h; subst h
  exact W.zret hx hb hr rfl (fun t ht hW => ⟨rfl, by rw [ht]; exact hM.moved hW.alike, hS.F ht⟩) hS.2.2 dX10_isIn_14
set_option maxHeartbeats 4000000 in
set_option maxRecDepth 100000 in
theorem c_X10_isIn (l : Launch) (D : mmD) (b0 sz : Nat) {v0 : Int32} {v1 : Int32} {f : mmF} {res : Int32} (h : f_X10_isIn v0 v1 f = some res) : Met l yX10_isIn wsX10_isIn ({ frames := 0, cells := 0, slots := 0, locals := 0 } : Room) (va_Pc [.int v0, .int v1] (PW D b0 f sz)) (QW D b0 (some (.int res)) f sz) 0 0 (fun q => b0 ≤ q) := by
  refine Met.ofW (cc := cX10_isIn) (maxL := 2) (ret := (some .boolean)) (by decide) rfl ?_
  intro p e s m args below meth c s₁ B hml hv
  obtain ⟨rfl, hM, hK⟩ := hv
  have hl := lv_entry ([.int v0, .int v1]) (n := 2) (Nat.le_of_ble_eq_true rfl)
  rw [lg_entry_eq]
  generalize (lg_sl ([.int v0, .int v1]) ++ List.replicate (2 - (lg_sl ([.int v0, .int v1])).length) Slot.unset).toArray = ls at hl ⊢
  have hl : lv_has ls 2 [(0, .int v0), (1, .int v1)] := hl
  exact w_X10_isIn ⟨B.exec, B.bytes, B.returns, hml, findClass_of_methodNamed B.named, atoms_spec (ws := wsX10_isIn) B.pre, B.notSynchronized, hK⟩ h s.heap [] ls hM va_S.rf hl
end S_X10_isIn
/-! X10_isKnownIn -/
noncomputable def f_X10_isKnownIn_35  (f : mmF) : Nat → Int32 → Int32 → Int32 → Int32 → Int32 → Int32 → Option (Int32)
  | 0, _, _, _, _, _, _ => none
  | n + 1, v0, v2, v3, v4, v5, v6 =>
    if v3 ≤ v6 then
    (if v4 = 0 then none else
    if (3 : Int32) ≤ v0 then
    (if (v5 - v5 / v4 * v4) = (4 : Int32) then
    (some ((1 : Int32)))
    else
    if v2 ≤ 0 then
    (some ((0 : Int32)))
    else
    (f_X10_isIn (v5 - v5 / v4 * v4) (v2 - (1 : Int32)) f).bind fun q98 =>
    if q98 = 0 then
    (some ((0 : Int32)))
    else
    some ((1 : Int32)))
    else
    if v2 < ((v4 - (1 : Int32)) - (v5 - v5 / v4 * v4)) then
    (some ((0 : Int32)))
    else
    some ((1 : Int32)))
    else
    if v4 = 0 then none else
    f_X10_isKnownIn_35 f n v0 v2 v3 v4 (v5 / v4) (v6 + (1 : Int32))
noncomputable def f_X10_isKnownIn_27  (f : mmF) (v0 : Int32) (v1 : Int32) (v2 : Int32) (v3 : Int32) (t0 : Int32) : Option (Int32) :=
  f_X10_isKnownIn_35 f FU v0 v2 v3 t0 v1 (0 : Int32)
noncomputable def f_X10_isKnownIn (v0 : Int32) (v1 : Int32) (v2 : Int32) (v3 : Int32) (f : mmF) : Option (Int32) :=
  if v0 = 0 then
  (f_X10_isKnownIn_27 f v0 v1 v2 v3 (2 : Int32))
  else
  if v0 = (1 : Int32) then
  (f_X10_isKnownIn_27 f v0 v1 v2 v3 (3 : Int32))
  else
  if v0 = (2 : Int32) then
  (f_X10_isKnownIn_27 f v0 v1 v2 v3 (4 : Int32))
  else
  f_X10_isKnownIn_27 f v0 v1 v2 v3 (5 : Int32)
section S_X10_isKnownIn
variable {p : Program} {l : Launch} {e : Env} {s : State} {m : MethodId} {args : Array Value} {below : List Frame} {meth : Method} {c : Code} {D : mmD} {b0 sz : Nat} {f : mmF}
set_option maxHeartbeats 4000000 in
set_option maxRecDepth 100000 in
theorem w_X10_isKnownIn_35 (C0 : CX cX10_isKnownIn 7 (some .boolean) wsX10_isKnownIn RX10 p s m args meth c D b0) {res : Int32} : ∀ (n : Nat), ∀ (v0 : Int32) (v2 : Int32) (v3 : Int32) (v4 : Int32) (v5 : Int32) (v6 : Int32), f_X10_isKnownIn_35 f n v0 v2 v3 v4 v5 v6 = some res → ∀ (H : Heap) (locs : List Loc) (ls : Array Slot), MM vwCl D b0 f sz s H → mS b0 s H locs → lv_has ls 7 [(0, .int v0), (2, .int v2), (3, .int v3), (4, .int v4), (5, .int v5), (6, .int v6)] → W p l e ({ frames := 1, cells := 0, slots := 0, locals := 21 } : Room) s m args below meth c H locs 0 0 (MQ below (QW D b0 (some (.int res)) f sz) args s 0 0 (fun q => b0 ≤ q)) (F0 m 35 ls []) := by
  obtain ⟨hx, hb, hr, hml, hown, hts, hlocks, hK⟩ := id C0
  intro n
  induction n with
  | zero =>
    intro v0 v2 v3 v4 v5 v6 h
    have h : (none : Option (Int32)) = some res := h
    cases h
  | succ n ih =>
    intro v0 v2 v3 v4 v5 v6 h H locs ls hM hS hl
    rw [f_X10_isKnownIn_35] at h
    refine lv_iload hx hb dX10_isKnownIn_35 (lv_at hl 5 rfl) ?_
    refine lv_iload_n hx hb dX10_isKnownIn_37 rfl (lv_at hl 2 rfl) ?_
    refine lv_icmp_ge (tgt := 54) hx hb dX10_isKnownIn_38 (by decide) (fun c38 => ?_) (fun c38 => ?_)
    · replace h := o_t c38 h
      refine lv_iload hx hb dX10_isKnownIn_54 (lv_at hl 4 rfl) ?_
      refine lv_iload hx hb dX10_isKnownIn_56 (lv_at hl 3 rfl) ?_
      replace h := o_n h; obtain ⟨z58, h⟩ := h
      refine lv_irem hx hb dX10_isKnownIn_58 z58 ?_
      refine lv_istore (lv' := [(5, .int (v5 - v5 / v4 * v4)), (0, .int v0), (2, .int v2), (3, .int v3), (4, .int v4), (6, .int v6)]) hx hb dX10_isKnownIn_59 hl (by decide) rfl (fun ls hl => ?_)
      refine lv_iload_n hx hb dX10_isKnownIn_61 rfl (lv_at hl 1 rfl) ?_
      refine lv_iconst (v := (3 : Int32)) hx hb dX10_isKnownIn_62 (by decide) ?_
      refine lv_icmp_ge (tgt := 83) hx hb dX10_isKnownIn_63 (by decide) (fun c63 => ?_) (fun c63 => ?_)
      · replace h := o_t c63 h
        refine lv_iload hx hb dX10_isKnownIn_83 (lv_at hl 0 rfl) ?_
        refine lv_iconst (v := (4 : Int32)) hx hb dX10_isKnownIn_85 (by decide) ?_
        refine lv_icmp_eq (tgt := 104) hx hb dX10_isKnownIn_86 (by decide) (fun c86 => ?_) (fun c86 => ?_)
        · replace h := o_t c86 h
          refine lv_iconst (v := (1 : Int32)) hx hb dX10_isKnownIn_104 (by decide) ?_
          refine lv_goto (tgt := 109) hx hb dX10_isKnownIn_105 (by decide) ?_
          replace h := Option.some.inj h; subst h
          exact W.zret hx hb hr rfl (fun t ht hW => ⟨rfl, by rw [ht]; exact hM.moved hW.alike, hS.F ht⟩) hS.2.2 dX10_isKnownIn_109
        replace h := o_f c86 h
        refine lv_iload_n hx hb dX10_isKnownIn_89 rfl (lv_at hl 2 rfl) ?_
        refine lv_if_le (tgt := 108) hx hb dX10_isKnownIn_90 (by decide) (fun c90 => ?_) (fun c90 => ?_)
        · replace h := o_t c90 h
          refine lv_iconst (v := (0 : Int32)) hx hb dX10_isKnownIn_108 (by decide) ?_
          replace h := Option.some.inj h; subst h
          exact W.zret hx hb hr rfl (fun t ht hW => ⟨rfl, by rw [ht]; exact hM.moved hW.alike, hS.F ht⟩) hS.2.2 dX10_isKnownIn_109
        replace h := o_f c90 h
        refine lv_iload hx hb dX10_isKnownIn_93 (lv_at hl 0 rfl) ?_
        refine lv_iload_n hx hb dX10_isKnownIn_95 rfl (lv_at hl 2 rfl) ?_
        refine lv_iconst (v := (1 : Int32)) hx hb dX10_isKnownIn_96 (by decide) ?_
        refine lv_isub hx hb dX10_isKnownIn_97 ?_
        replace h := o_b h; obtain ⟨q98, h98, h⟩ := h
        refine m_call (va_runS (As := [.int (v5 - v5 / v4 * v4), .int (v2 - (1 : Int32))]) (rest := []) ⟨hx, hb, hml, hown, hts⟩ (c_X10_isIn l D b0 sz h98) (va_cwS 2 hts gX10_isKnownIn_X10_isIn rfl rfl rfl (by decide +kernel) ⟨Nat.le_of_ble_eq_true rfl, Nat.le_of_ble_eq_true rfl⟩) ⟨PW.blind, (fun U hU hW => ⟨rfl, PW.call hK hM hS hU hW⟩)⟩ rfl rfl hl.1 rfl (lv_room (Nat.le_of_ble_eq_true rfl)) dX10_isKnownIn_98 ⟨(Nat.le_refl _), (Nat.le_refl _)⟩) hS (fun H locs hM hS => ?_)
        refine lv_if_eq (tgt := 108) hx hb dX10_isKnownIn_101 (by decide) (fun c101 => ?_) (fun c101 => ?_)
        · replace h := o_t c101 h
          refine lv_iconst (v := (0 : Int32)) hx hb dX10_isKnownIn_108 (by decide) ?_
          replace h := Option.some.inj h; subst h
          exact W.zret hx hb hr rfl (fun t ht hW => ⟨rfl, by rw [ht]; exact hM.moved hW.alike, hS.F ht⟩) hS.2.2 dX10_isKnownIn_109
        replace h := o_f c101 h
        refine lv_iconst (v := (1 : Int32)) hx hb dX10_isKnownIn_104 (by decide) ?_
        refine lv_goto (tgt := 109) hx hb dX10_isKnownIn_105 (by decide) ?_
        replace h := Option.some.inj h; subst h
        exact W.zret hx hb hr rfl (fun t ht hW => ⟨rfl, by rw [ht]; exact hM.moved hW.alike, hS.F ht⟩) hS.2.2 dX10_isKnownIn_109
      replace h := o_f c63 h
      refine lv_iload_n hx hb dX10_isKnownIn_66 rfl (lv_at hl 2 rfl) ?_
      refine lv_iload hx hb dX10_isKnownIn_67 (lv_at hl 4 rfl) ?_
      refine lv_iconst (v := (1 : Int32)) hx hb dX10_isKnownIn_69 (by decide) ?_
      refine lv_isub hx hb dX10_isKnownIn_70 ?_
      refine lv_iload hx hb dX10_isKnownIn_71 (lv_at hl 0 rfl) ?_
      refine lv_isub hx hb dX10_isKnownIn_73 ?_
      refine lv_icmp_lt (tgt := 81) hx hb dX10_isKnownIn_74 (by decide) (fun c74 => ?_) (fun c74 => ?_)
      · replace h := o_t c74 h
        refine lv_iconst (v := (0 : Int32)) hx hb dX10_isKnownIn_81 (by decide) ?_
        replace h := Option.some.inj h; subst h
        exact W.zret hx hb hr rfl (fun t ht hW => ⟨rfl, by rw [ht]; exact hM.moved hW.alike, hS.F ht⟩) hS.2.2 dX10_isKnownIn_82
      replace h := o_f c74 h
      refine lv_iconst (v := (1 : Int32)) hx hb dX10_isKnownIn_77 (by decide) ?_
      refine lv_goto (tgt := 82) hx hb dX10_isKnownIn_78 (by decide) ?_
      replace h := Option.some.inj h; subst h
      exact W.zret hx hb hr rfl (fun t ht hW => ⟨rfl, by rw [ht]; exact hM.moved hW.alike, hS.F ht⟩) hS.2.2 dX10_isKnownIn_82
    replace h := o_f c38 h
    refine lv_iload hx hb dX10_isKnownIn_41 (lv_at hl 4 rfl) ?_
    refine lv_iload hx hb dX10_isKnownIn_43 (lv_at hl 3 rfl) ?_
    replace h := o_n h; obtain ⟨z45, h⟩ := h
    refine lv_idiv hx hb dX10_isKnownIn_45 z45 ?_
    refine lv_istore (lv' := [(5, .int (v5 / v4)), (0, .int v0), (2, .int v2), (3, .int v3), (4, .int v4), (6, .int v6)]) hx hb dX10_isKnownIn_46 hl (by decide) rfl (fun ls hl => ?_)
    refine lv_iinc (v := (v6 + (1 : Int32))) (lv' := [(6, .int (v6 + (1 : Int32))), (5, .int (v5 / v4)), (0, .int v0), (2, .int v2), (3, .int v3), (4, .int v4)]) hx hb dX10_isKnownIn_48 hl (k := 5) rfl rfl (by decide) rfl (fun ls hl => ?_)
    refine lv_goto (tgt := 35) hx hb dX10_isKnownIn_51 (by decide) ?_
    exact ih _ _ _ _ _ _ h _ _ _ hM hS (lv_sub hl [2, 3, 4, 5, 1, 0] rfl)
set_option maxHeartbeats 4000000 in
set_option maxRecDepth 100000 in
theorem w_X10_isKnownIn_27 (C0 : CX cX10_isKnownIn 7 (some .boolean) wsX10_isKnownIn RX10 p s m args meth c D b0) {res : Int32} : ∀ (v0 : Int32) (v1 : Int32) (v2 : Int32) (v3 : Int32) (t0 : Int32), f_X10_isKnownIn_27 f v0 v1 v2 v3 t0 = some res → ∀ (H : Heap) (locs : List Loc) (ls : Array Slot), MM vwCl D b0 f sz s H → mS b0 s H locs → lv_has ls 7 [(0, .int v0), (1, .int v1), (2, .int v2), (3, .int v3)] → W p l e ({ frames := 1, cells := 0, slots := 0, locals := 21 } : Room) s m args below meth c H locs 0 0 (MQ below (QW D b0 (some (.int res)) f sz) args s 0 0 (fun q => b0 ≤ q)) (F0 m 27 ls [.int t0]) := by
  obtain ⟨hx, hb, hr, hml, hown, hts, hlocks, hK⟩ := id C0
  intro v0 v1 v2 v3 t0 h H locs ls hM hS hl
  unfold f_X10_isKnownIn_27 at h
  refine lv_istore (lv' := [(4, .int t0), (0, .int v0), (1, .int v1), (2, .int v2), (3, .int v3)]) hx hb dX10_isKnownIn_27 hl (by decide) rfl (fun ls hl => ?_)
  refine lv_iload_n hx hb dX10_isKnownIn_29 rfl (lv_at hl 2 rfl) ?_
  refine lv_istore (lv' := [(5, .int v1), (4, .int t0), (0, .int v0), (1, .int v1), (2, .int v2), (3, .int v3)]) hx hb dX10_isKnownIn_30 hl (by decide) rfl (fun ls hl => ?_)
  refine lv_iconst (v := (0 : Int32)) hx hb dX10_isKnownIn_32 (by decide) ?_
  refine lv_istore (lv' := [(6, .int (0 : Int32)), (5, .int v1), (4, .int t0), (0, .int v0), (1, .int v1), (2, .int v2), (3, .int v3)]) hx hb dX10_isKnownIn_33 hl (by decide) rfl (fun ls hl => ?_)
  exact w_X10_isKnownIn_35 C0 FU _ _ _ _ _ _ h _ _ _ hM hS (lv_sub hl [3, 5, 6, 2, 1, 0] rfl)
set_option maxHeartbeats 4000000 in
set_option maxRecDepth 100000 in
theorem w_X10_isKnownIn (C0 : CX cX10_isKnownIn 7 (some .boolean) wsX10_isKnownIn RX10 p s m args meth c D b0) {v0 : Int32} {v1 : Int32} {v2 : Int32} {v3 : Int32} {res : Int32} (h : f_X10_isKnownIn v0 v1 v2 v3 f = some res) : ∀ (H : Heap) (locs : List Loc) (ls : Array Slot), MM vwCl D b0 f sz s H → mS b0 s H locs → lv_has ls 7 [(0, .int v0), (1, .int v1), (2, .int v2), (3, .int v3)] → W p l e ({ frames := 1, cells := 0, slots := 0, locals := 21 } : Room) s m args below meth c H locs 0 0 (MQ below (QW D b0 (some (.int res)) f sz) args s 0 0 (fun q => b0 ≤ q)) (F0 m 0 ls []) := by
  obtain ⟨hx, hb, hr, hml, hown, hts, hlocks, hK⟩ := id C0
  intro H locs ls hM hS hl
  unfold f_X10_isKnownIn at h
  refine lv_iload_n hx hb dX10_isKnownIn_0 rfl (lv_at hl 0 rfl) ?_
  refine lv_if_ne (tgt := 8) hx hb dX10_isKnownIn_1 (by decide) (fun c1 => ?_) (fun c1 => ?_)
  · replace h := o_f c1 h
    refine lv_iload_n hx hb dX10_isKnownIn_8 rfl (lv_at hl 0 rfl) ?_
    refine lv_iconst (v := (1 : Int32)) hx hb dX10_isKnownIn_9 (by decide) ?_
    refine lv_icmp_ne (tgt := 17) hx hb dX10_isKnownIn_10 (by decide) (fun c10 => ?_) (fun c10 => ?_)
    · replace h := o_f c10 h
      refine lv_iload_n hx hb dX10_isKnownIn_17 rfl (lv_at hl 0 rfl) ?_
      refine lv_iconst (v := (2 : Int32)) hx hb dX10_isKnownIn_18 (by decide) ?_
      refine lv_icmp_ne (tgt := 26) hx hb dX10_isKnownIn_19 (by decide) (fun c19 => ?_) (fun c19 => ?_)
      · replace h := o_f c19 h
        refine lv_iconst (v := (5 : Int32)) hx hb dX10_isKnownIn_26 (by decide) ?_
        exact w_X10_isKnownIn_27 C0 _ _ _ _ _ h _ _ _ hM hS (lv_sub hl [0, 1, 2, 3] rfl)
      replace h := o_t c19 h
      refine lv_iconst (v := (4 : Int32)) hx hb dX10_isKnownIn_22 (by decide) ?_
      refine lv_goto (tgt := 27) hx hb dX10_isKnownIn_23 (by decide) ?_
      exact w_X10_isKnownIn_27 C0 _ _ _ _ _ h _ _ _ hM hS (lv_sub hl [0, 1, 2, 3] rfl)
    replace h := o_t c10 h
    refine lv_iconst (v := (3 : Int32)) hx hb dX10_isKnownIn_13 (by decide) ?_
    refine lv_goto (tgt := 27) hx hb dX10_isKnownIn_14 (by decide) ?_
    exact w_X10_isKnownIn_27 C0 _ _ _ _ _ h _ _ _ hM hS (lv_sub hl [0, 1, 2, 3] rfl)
  replace h := o_t c1 h
  refine lv_iconst (v := (2 : Int32)) hx hb dX10_isKnownIn_4 (by decide) ?_
  refine lv_goto (tgt := 27) hx hb dX10_isKnownIn_5 (by decide) ?_
  exact w_X10_isKnownIn_27 C0 _ _ _ _ _ h _ _ _ hM hS (lv_sub hl [0, 1, 2, 3] rfl)
set_option maxHeartbeats 4000000 in
set_option maxRecDepth 100000 in
theorem c_X10_isKnownIn (l : Launch) (D : mmD) (b0 sz : Nat) {v0 : Int32} {v1 : Int32} {v2 : Int32} {v3 : Int32} {f : mmF} {res : Int32} (h : f_X10_isKnownIn v0 v1 v2 v3 f = some res) : Met l yX10_isKnownIn wsX10_isKnownIn ({ frames := 1, cells := 0, slots := 0, locals := 21 } : Room) (va_Pc [.int v0, .int v1, .int v2, .int v3] (PW D b0 f sz)) (QW D b0 (some (.int res)) f sz) 0 0 (fun q => b0 ≤ q) := by
  refine Met.ofW (cc := cX10_isKnownIn) (maxL := 7) (ret := (some .boolean)) (by decide) rfl ?_
  intro p e s m args below meth c s₁ B hml hv
  obtain ⟨rfl, hM, hK⟩ := hv
  have hl := lv_entry ([.int v0, .int v1, .int v2, .int v3]) (n := 7) (Nat.le_of_ble_eq_true rfl)
  rw [lg_entry_eq]
  generalize (lg_sl ([.int v0, .int v1, .int v2, .int v3]) ++ List.replicate (7 - (lg_sl ([.int v0, .int v1, .int v2, .int v3])).length) Slot.unset).toArray = ls at hl ⊢
  have hl : lv_has ls 7 [(0, .int v0), (1, .int v1), (2, .int v2), (3, .int v3)] := hl
  exact w_X10_isKnownIn ⟨B.exec, B.bytes, B.returns, hml, findClass_of_methodNamed B.named, atoms_spec (ws := wsX10_isKnownIn) B.pre, B.notSynchronized, hK⟩ h s.heap [] ls hM va_S.rf hl
end S_X10_isKnownIn
/-! X10_factWord -/
noncomputable def f_X10_factWord_53 (k6 : Int32 → Int32 → Int32 → Int32 → Int32 → Int32 → Option (Int32)) (f : mmF) (v0 : Int32) (v1 : Int32) (v2 : Int32) (v3 : Int32) (v5 : Int32) (t0 : Int32) (t1 : Int32) : Option (Int32) :=
  k6 v0 v1 v2 v3 (t0 ||| t1) (v5 + (1 : Int32))
noncomputable def f_X10_factWord_52 (k6 : Int32 → Int32 → Int32 → Int32 → Int32 → Int32 → Option (Int32)) (f : mmF) (v0 : Int32) (v1 : Int32) (v2 : Int32) (v3 : Int32) (v5 : Int32) (t0 : Int32) : Option (Int32) :=
  f_X10_factWord_53 k6 f v0 v1 v2 v3 v5 t0 (0 : Int32)
noncomputable def f_X10_factWord_6  (f : mmF) : Nat → Int32 → Int32 → Int32 → Int32 → Int32 → Int32 → Option (Int32)
  | 0, _, _, _, _, _, _ => none
  | n + 1, v0, v1, v2, v3, v4, v5 =>
    if (32 : Int32) ≤ v5 then
    (some (v4))
    else
    (f_X10_models v0 f).bind fun q23 =>
    if q23 ≤ (((32 : Int32) * v2) + v5) then
    (f_X10_factWord_52 (fun a0 a1 a2 a3 a4 a5 => f_X10_factWord_6 f n a0 a1 a2 a3 a4 a5) f v0 v1 v2 v3 v5 v4)
    else
    (f_X10_isKnownIn v0 (((32 : Int32) * v2) + v5) v1 v3 f).bind fun q39 =>
    if q39 = 0 then
    (f_X10_factWord_52 (fun a0 a1 a2 a3 a4 a5 => f_X10_factWord_6 f n a0 a1 a2 a3 a4 a5) f v0 v1 v2 v3 v5 v4)
    else
    f_X10_factWord_53 (fun a0 a1 a2 a3 a4 a5 => f_X10_factWord_6 f n a0 a1 a2 a3 a4 a5) f v0 v1 v2 v3 v5 v4 ((1 : Int32) <<< (v5 &&& 31))
noncomputable def f_X10_factWord (v0 : Int32) (v1 : Int32) (v2 : Int32) (v3 : Int32) (f : mmF) : Option (Int32) :=
  f_X10_factWord_6 f FU v0 v1 v2 v3 (0 : Int32) (0 : Int32)
section S_X10_factWord
variable {p : Program} {l : Launch} {e : Env} {s : State} {m : MethodId} {args : Array Value} {below : List Frame} {meth : Method} {c : Code} {D : mmD} {b0 sz : Nat} {f : mmF}
set_option maxHeartbeats 4000000 in
set_option maxRecDepth 100000 in
theorem w_X10_factWord_53 (C0 : CX cX10_factWord 6 (some .int) wsX10_factWord RX10 p s m args meth c D b0) {k6 : Int32 → Int32 → Int32 → Int32 → Int32 → Int32 → Option (Int32)} {res : Int32} (hk6 : ∀ (v0 : Int32) (v1 : Int32) (v2 : Int32) (v3 : Int32) (v4 : Int32) (v5 : Int32), k6 v0 v1 v2 v3 v4 v5 = some res → ∀ (H : Heap) (locs : List Loc) (ls : Array Slot), MM vwCl D b0 f sz s H → mS b0 s H locs → lv_has ls 6 [(0, .int v0), (1, .int v1), (2, .int v2), (3, .int v3), (4, .int v4), (5, .int v5)] → W p l e ({ frames := 2, cells := 0, slots := 0, locals := 47 } : Room) s m args below meth c H locs 0 0 (MQ below (QW D b0 (some (.int res)) f sz) args s 0 0 (fun q => b0 ≤ q)) (F0 m 6 ls [])) : ∀ (v0 : Int32) (v1 : Int32) (v2 : Int32) (v3 : Int32) (v5 : Int32) (t0 : Int32) (t1 : Int32), f_X10_factWord_53 k6 f v0 v1 v2 v3 v5 t0 t1 = some res → ∀ (H : Heap) (locs : List Loc) (ls : Array Slot), MM vwCl D b0 f sz s H → mS b0 s H locs → lv_has ls 6 [(0, .int v0), (1, .int v1), (2, .int v2), (3, .int v3), (5, .int v5)] → W p l e ({ frames := 2, cells := 0, slots := 0, locals := 47 } : Room) s m args below meth c H locs 0 0 (MQ below (QW D b0 (some (.int res)) f sz) args s 0 0 (fun q => b0 ≤ q)) (F0 m 53 ls [.int t1, .int t0]) := by
  obtain ⟨hx, hb, hr, hml, hown, hts, hlocks, hK⟩ := id C0
  intro v0 v1 v2 v3 v5 t0 t1 h H locs ls hM hS hl
  unfold f_X10_factWord_53 at h
  refine lv_ior hx hb dX10_factWord_53 ?_
  refine lv_istore (lv' := [(4, .int (t0 ||| t1)), (0, .int v0), (1, .int v1), (2, .int v2), (3, .int v3), (5, .int v5)]) hx hb dX10_factWord_54 hl (by decide) rfl (fun ls hl => ?_)
  refine lv_iinc (v := (v5 + (1 : Int32))) (lv' := [(5, .int (v5 + (1 : Int32))), (4, .int (t0 ||| t1)), (0, .int v0), (1, .int v1), (2, .int v2), (3, .int v3)]) hx hb dX10_factWord_56 hl (k := 5) rfl rfl (by decide) rfl (fun ls hl => ?_)
  refine lv_goto (tgt := 6) hx hb dX10_factWord_59 (by decide) ?_
  exact hk6 _ _ _ _ _ _ h _ _ _ hM hS (lv_sub hl [2, 3, 4, 5, 1, 0] rfl)
set_option maxHeartbeats 4000000 in
set_option maxRecDepth 100000 in
theorem w_X10_factWord_52 (C0 : CX cX10_factWord 6 (some .int) wsX10_factWord RX10 p s m args meth c D b0) {k6 : Int32 → Int32 → Int32 → Int32 → Int32 → Int32 → Option (Int32)} {res : Int32} (hk6 : ∀ (v0 : Int32) (v1 : Int32) (v2 : Int32) (v3 : Int32) (v4 : Int32) (v5 : Int32), k6 v0 v1 v2 v3 v4 v5 = some res → ∀ (H : Heap) (locs : List Loc) (ls : Array Slot), MM vwCl D b0 f sz s H → mS b0 s H locs → lv_has ls 6 [(0, .int v0), (1, .int v1), (2, .int v2), (3, .int v3), (4, .int v4), (5, .int v5)] → W p l e ({ frames := 2, cells := 0, slots := 0, locals := 47 } : Room) s m args below meth c H locs 0 0 (MQ below (QW D b0 (some (.int res)) f sz) args s 0 0 (fun q => b0 ≤ q)) (F0 m 6 ls [])) : ∀ (v0 : Int32) (v1 : Int32) (v2 : Int32) (v3 : Int32) (v5 : Int32) (t0 : Int32), f_X10_factWord_52 k6 f v0 v1 v2 v3 v5 t0 = some res → ∀ (H : Heap) (locs : List Loc) (ls : Array Slot), MM vwCl D b0 f sz s H → mS b0 s H locs → lv_has ls 6 [(0, .int v0), (1, .int v1), (2, .int v2), (3, .int v3), (5, .int v5)] → W p l e ({ frames := 2, cells := 0, slots := 0, locals := 47 } : Room) s m args below meth c H locs 0 0 (MQ below (QW D b0 (some (.int res)) f sz) args s 0 0 (fun q => b0 ≤ q)) (F0 m 52 ls [.int t0]) := by
  obtain ⟨hx, hb, hr, hml, hown, hts, hlocks, hK⟩ := id C0
  intro v0 v1 v2 v3 v5 t0 h H locs ls hM hS hl
  unfold f_X10_factWord_52 at h
  refine lv_iconst (v := (0 : Int32)) hx hb dX10_factWord_52 (by decide) ?_
  exact w_X10_factWord_53 C0 hk6 _ _ _ _ _ _ _ h _ _ _ hM hS (lv_sub hl [0, 1, 2, 3, 4] rfl)
set_option maxHeartbeats 4000000 in
set_option maxRecDepth 100000 in
theorem w_X10_factWord_6 (C0 : CX cX10_factWord 6 (some .int) wsX10_factWord RX10 p s m args meth c D b0) {res : Int32} : ∀ (n : Nat), ∀ (v0 : Int32) (v1 : Int32) (v2 : Int32) (v3 : Int32) (v4 : Int32) (v5 : Int32), f_X10_factWord_6 f n v0 v1 v2 v3 v4 v5 = some res → ∀ (H : Heap) (locs : List Loc) (ls : Array Slot), MM vwCl D b0 f sz s H → mS b0 s H locs → lv_has ls 6 [(0, .int v0), (1, .int v1), (2, .int v2), (3, .int v3), (4, .int v4), (5, .int v5)] → W p l e ({ frames := 2, cells := 0, slots := 0, locals := 47 } : Room) s m args below meth c H locs 0 0 (MQ below (QW D b0 (some (.int res)) f sz) args s 0 0 (fun q => b0 ≤ q)) (F0 m 6 ls []) := by
  obtain ⟨hx, hb, hr, hml, hown, hts, hlocks, hK⟩ := id C0
  intro n
  induction n with
  | zero =>
    intro v0 v1 v2 v3 v4 v5 h
    have h : (none : Option (Int32)) = some res := h
    cases h
  | succ n ih =>
    intro v0 v1 v2 v3 v4 v5 h H locs ls hM hS hl
    rw [f_X10_factWord_6] at h
    refine lv_iload hx hb dX10_factWord_6 (lv_at hl 5 rfl) ?_
    refine lv_bipush (v := (32 : Int32)) hx hb dX10_factWord_8 (by decide) ?_
    refine lv_icmp_ge (tgt := 62) hx hb dX10_factWord_10 (by decide) (fun c10 => ?_) (fun c10 => ?_)
    · replace h := o_t c10 h
      refine lv_iload hx hb dX10_factWord_62 (lv_at hl 4 rfl) ?_
      replace h := Option.some.inj h; subst h
      exact W.iret hx hb hr (fun t ht hW => ⟨rfl, by rw [ht]; exact hM.moved hW.alike, hS.F ht⟩) hS.2.2 dX10_factWord_64
    replace h := o_f c10 h
    refine lv_iload hx hb dX10_factWord_13 (lv_at hl 4 rfl) ?_
    refine lv_bipush (v := (32 : Int32)) hx hb dX10_factWord_15 (by decide) ?_
    refine lv_iload_n hx hb dX10_factWord_17 rfl (lv_at hl 2 rfl) ?_
    refine lv_imul hx hb dX10_factWord_18 ?_
    refine lv_iload hx hb dX10_factWord_19 (lv_at hl 5 rfl) ?_
    refine lv_iadd hx hb dX10_factWord_21 ?_
    refine lv_iload_n hx hb dX10_factWord_22 rfl (lv_at hl 0 rfl) ?_
    replace h := o_b h; obtain ⟨q23, h23, h⟩ := h
    refine m_call (va_runS (As := [.int v0]) (rest := [.int (((32 : Int32) * v2) + v5), .int v4]) ⟨hx, hb, hml, hown, hts⟩ (c_X10_models l D b0 sz h23) (va_cwS 1 hts gX10_factWord_X10_models rfl rfl rfl (by decide +kernel) ⟨Nat.le_of_ble_eq_true rfl, Nat.le_of_ble_eq_true rfl⟩) ⟨PW.blind, (fun U hU hW => ⟨rfl, PW.call hK hM hS hU hW⟩)⟩ rfl rfl hl.1 rfl (lv_room (Nat.le_of_ble_eq_true rfl)) dX10_factWord_23 ⟨(Nat.le_refl _), (Nat.le_refl _)⟩) hS (fun H locs hM hS => ?_)
    refine lv_icmp_ge (tgt := 52) hx hb dX10_factWord_26 (by decide) (fun c26 => ?_) (fun c26 => ?_)
    · replace h := o_t c26 h
      exact w_X10_factWord_52 C0 ih _ _ _ _ _ _ h _ _ _ hM hS (lv_sub hl [0, 1, 2, 3, 5] rfl)
    replace h := o_f c26 h
    refine lv_iload_n hx hb dX10_factWord_29 rfl (lv_at hl 0 rfl) ?_
    refine lv_bipush (v := (32 : Int32)) hx hb dX10_factWord_30 (by decide) ?_
    refine lv_iload_n hx hb dX10_factWord_32 rfl (lv_at hl 2 rfl) ?_
    refine lv_imul hx hb dX10_factWord_33 ?_
    refine lv_iload hx hb dX10_factWord_34 (lv_at hl 5 rfl) ?_
    refine lv_iadd hx hb dX10_factWord_36 ?_
    refine lv_iload_n hx hb dX10_factWord_37 rfl (lv_at hl 1 rfl) ?_
    refine lv_iload_n hx hb dX10_factWord_38 rfl (lv_at hl 3 rfl) ?_
    replace h := o_b h; obtain ⟨q39, h39, h⟩ := h
    refine m_call (va_runS (As := [.int v0, .int (((32 : Int32) * v2) + v5), .int v1, .int v3]) (rest := [.int v4]) ⟨hx, hb, hml, hown, hts⟩ (c_X10_isKnownIn l D b0 sz h39) (va_cwS 4 hts gX10_factWord_X10_isKnownIn rfl rfl rfl (by decide +kernel) ⟨Nat.le_of_ble_eq_true rfl, Nat.le_of_ble_eq_true rfl⟩) ⟨PW.blind, (fun U hU hW => ⟨rfl, PW.call hK hM hS hU hW⟩)⟩ rfl rfl hl.1 rfl (lv_room (Nat.le_of_ble_eq_true rfl)) dX10_factWord_39 ⟨(Nat.le_refl _), (Nat.le_refl _)⟩) hS (fun H locs hM hS => ?_)
    refine lv_if_eq (tgt := 52) hx hb dX10_factWord_42 (by decide) (fun c42 => ?_) (fun c42 => ?_)
    · replace h := o_t c42 h
      exact w_X10_factWord_52 C0 ih _ _ _ _ _ _ h _ _ _ hM hS (lv_sub hl [0, 1, 2, 3, 5] rfl)
    replace h := o_f c42 h
    refine lv_iconst (v := (1 : Int32)) hx hb dX10_factWord_45 (by decide) ?_
    refine lv_iload hx hb dX10_factWord_46 (lv_at hl 5 rfl) ?_
    refine lv_ishl hx hb dX10_factWord_48 ?_
    refine lv_goto (tgt := 53) hx hb dX10_factWord_49 (by decide) ?_
    exact w_X10_factWord_53 C0 ih _ _ _ _ _ _ _ h _ _ _ hM hS (lv_sub hl [0, 1, 2, 3, 5] rfl)
set_option maxHeartbeats 4000000 in
set_option maxRecDepth 100000 in
theorem w_X10_factWord (C0 : CX cX10_factWord 6 (some .int) wsX10_factWord RX10 p s m args meth c D b0) {v0 : Int32} {v1 : Int32} {v2 : Int32} {v3 : Int32} {res : Int32} (h : f_X10_factWord v0 v1 v2 v3 f = some res) : ∀ (H : Heap) (locs : List Loc) (ls : Array Slot), MM vwCl D b0 f sz s H → mS b0 s H locs → lv_has ls 6 [(0, .int v0), (1, .int v1), (2, .int v2), (3, .int v3)] → W p l e ({ frames := 2, cells := 0, slots := 0, locals := 47 } : Room) s m args below meth c H locs 0 0 (MQ below (QW D b0 (some (.int res)) f sz) args s 0 0 (fun q => b0 ≤ q)) (F0 m 0 ls []) := by
  obtain ⟨hx, hb, hr, hml, hown, hts, hlocks, hK⟩ := id C0
  intro H locs ls hM hS hl
  unfold f_X10_factWord at h
  refine lv_iconst (v := (0 : Int32)) hx hb dX10_factWord_0 (by decide) ?_
  refine lv_istore (lv' := [(4, .int (0 : Int32)), (0, .int v0), (1, .int v1), (2, .int v2), (3, .int v3)]) hx hb dX10_factWord_1 hl (by decide) rfl (fun ls hl => ?_)
  refine lv_iconst (v := (0 : Int32)) hx hb dX10_factWord_3 (by decide) ?_
  refine lv_istore (lv' := [(5, .int (0 : Int32)), (4, .int (0 : Int32)), (0, .int v0), (1, .int v1), (2, .int v2), (3, .int v3)]) hx hb dX10_factWord_4 hl (by decide) rfl (fun ls hl => ?_)
  exact w_X10_factWord_6 C0 FU _ _ _ _ _ _ h _ _ _ hM hS (lv_sub hl [2, 3, 4, 5, 1, 0] rfl)
set_option maxHeartbeats 4000000 in
set_option maxRecDepth 100000 in
theorem c_X10_factWord (l : Launch) (D : mmD) (b0 sz : Nat) {v0 : Int32} {v1 : Int32} {v2 : Int32} {v3 : Int32} {f : mmF} {res : Int32} (h : f_X10_factWord v0 v1 v2 v3 f = some res) : Met l yX10_factWord wsX10_factWord ({ frames := 2, cells := 0, slots := 0, locals := 47 } : Room) (va_Pc [.int v0, .int v1, .int v2, .int v3] (PW D b0 f sz)) (QW D b0 (some (.int res)) f sz) 0 0 (fun q => b0 ≤ q) := by
  refine Met.ofW (cc := cX10_factWord) (maxL := 6) (ret := (some .int)) (by decide) rfl ?_
  intro p e s m args below meth c s₁ B hml hv
  obtain ⟨rfl, hM, hK⟩ := hv
  have hl := lv_entry ([.int v0, .int v1, .int v2, .int v3]) (n := 6) (Nat.le_of_ble_eq_true rfl)
  rw [lg_entry_eq]
  generalize (lg_sl ([.int v0, .int v1, .int v2, .int v3]) ++ List.replicate (6 - (lg_sl ([.int v0, .int v1, .int v2, .int v3])).length) Slot.unset).toArray = ls at hl ⊢
  have hl : lv_has ls 6 [(0, .int v0), (1, .int v1), (2, .int v2), (3, .int v3)] := hl
  exact w_X10_factWord ⟨B.exec, B.bytes, B.returns, hml, findClass_of_methodNamed B.named, atoms_spec (ws := wsX10_factWord) B.pre, B.notSynchronized, hK⟩ h s.heap [] ls hM va_S.rf hl
end S_X10_factWord
/-! X10_madeWord -/
set_option maxRecDepth 20000 in
theorem qi_X10_madeWord_X10 : ∀ w ∈ u_ws RX10 TX10 25, w ∈ wsX10_madeWord := by decide +kernel
set_option maxRecDepth 20000 in
theorem q_X10_madeWord_1 : Cond.fieldLink RX10 48 "StageTruthsModel" "where" "[I" ∈ wsX10_madeWord := by decide +kernel
set_option maxRecDepth 20000 in
theorem q_X10_madeWord_2 : Cond.fieldLink RX10 41 "StageTruthsModel" "left" "[I" ∈ wsX10_madeWord := by decide +kernel
set_option maxRecDepth 20000 in
theorem q_X10_madeWord_3 : Cond.fieldLink RX10 44 "StageTruthsModel" "right" "[I" ∈ wsX10_madeWord := by decide +kernel
set_option maxRecDepth 20000 in
theorem q_X10_madeWord_4 : Cond.fieldLink RX10 38 "StageTruthsModel" "op" "[I" ∈ wsX10_madeWord := by decide +kernel
noncomputable def f_X10_madeWord_167  (f : mmF) (v0 : Nat) (v1 : Int32) (v2 : Int32) (v3 : Int32) (v4 : Int32) (v7 : Int32) (v8 : Int32) : Option (Int32) :=
  if (3 : Int32) ≤ v2 then
  (some (v7))
  else
  if v2 ≤ v3 then
  (some (v7))
  else
  (ldR f v0 10 18).bind fun x180 =>
  (ldA 0 f x180 ((((91 : Int32) * v1) + v4) + v8)).bind fun x193 =>
  some ((v7 &&& x193))
noncomputable def f_X10_madeWord (v0 : Nat) (v1 : Int32) (v2 : Int32) (v3 : Int32) (v4 : Int32) (f : mmF) : Option (Int32) :=
  (ldR f v0 10 18).bind fun x1 =>
  (ldR f v0 10 16).bind fun x7 =>
  (ldA 0 f x7 v1).bind fun x11 =>
  (ldA 0 f x1 (((91 : Int32) * x11) + v4)).bind fun x16 =>
  (ldR f v0 10 18).bind fun x20 =>
  (ldR f v0 10 17).bind fun x26 =>
  (ldA 0 f x26 v1).bind fun x30 =>
  (ldA 0 f x20 (((91 : Int32) * x30) + v4)).bind fun x35 =>
  (ldR f v0 10 15).bind fun x39 =>
  (ldA 0 f x39 v1).bind fun x43 =>
  if x43 = (9 : Int32) then
  ((f_X10_wordsOf v2 f).bind fun q112 =>
  if v2 = (3 : Int32) then
  (if v3 = 0 then
  ((ldR f v0 10 18).bind fun x129 =>
  (ldA 0 f x129 ((((91 : Int32) * v1) + v4) + q112)).bind fun x142 =>
  (ldR f v0 10 18).bind fun x144 =>
  (ldA 0 f x144 ((((91 : Int32) * v1) + v4) + ((2 : Int32) * q112))).bind fun x159 =>
  some ((((x16 ^^^ (-1 : Int32)) ||| x35) &&& (x142 &&& x159))))
  else
  f_X10_madeWord_167 f v0 v1 v2 v3 v4 ((x16 ^^^ (-1 : Int32)) ||| x35) q112)
  else
  f_X10_madeWord_167 f v0 v1 v2 v3 v4 ((x16 ^^^ (-1 : Int32)) ||| x35) q112)
  else
  (ldR f v0 10 15).bind fun x50 =>
  (ldA 0 f x50 v1).bind fun x54 =>
  if x54 = (4 : Int32) then
  (some ((-1 : Int32)))
  else
  (ldR f v0 10 15).bind fun x64 =>
  (ldA 0 f x64 v1).bind fun x68 =>
  if x68 = (5 : Int32) then
  (some ((0 : Int32)))
  else
  (ldR f v0 10 15).bind fun x78 =>
  (ldA 0 f x78 v1).bind fun x82 =>
  if x82 = (7 : Int32) then
  (some ((x16 &&& x35)))
  else
  some ((x16 ||| x35))
section S_X10_madeWord
variable {p : Program} {l : Launch} {e : Env} {s : State} {m : MethodId} {args : Array Value} {below : List Frame} {meth : Method} {c : Code} {D : mmD} {b0 sz : Nat} {f : mmF}
set_option maxHeartbeats 4000000 in
set_option maxRecDepth 100000 in
theorem w_X10_madeWord_167 (C0 : CX cX10_madeWord 9 (some .int) wsX10_madeWord RX10 p s m args meth c D b0) {res : Int32} : ∀ (v0 : Nat) (v1 : Int32) (v2 : Int32) (v3 : Int32) (v4 : Int32) (v7 : Int32) (v8 : Int32), f_X10_madeWord_167 f v0 v1 v2 v3 v4 v7 v8 = some res → ∀ (H : Heap) (locs : List Loc) (ls : Array Slot), MM vwCl D b0 f sz s H → mS b0 s H locs → lv_has ls 9 [(0, .ref v0), (1, .int v1), (2, .int v2), (3, .int v3), (4, .int v4), (7, .int v7), (8, .int v8)] → W p l e ({ frames := 1, cells := 0, slots := 0, locals := 20 } : Room) s m args below meth c H locs 0 0 (MQ below (QW D b0 (some (.int res)) f sz) args s 0 0 (fun q => b0 ≤ q)) (F0 m 167 ls []) := by
  obtain ⟨hx, hb, hr, hml, hown, hts, hlocks, hK⟩ := id C0
  intro v0 v1 v2 v3 v4 v7 v8 h H locs ls hM hS hl
  unfold f_X10_madeWord_167 at h
  refine lv_iload_n hx hb dX10_madeWord_167 rfl (lv_at hl 2 rfl) ?_
  refine lv_iconst (v := (3 : Int32)) hx hb dX10_madeWord_168 (by decide) ?_
  refine lv_icmp_ge (tgt := 197) hx hb dX10_madeWord_169 (by decide) (fun c169 => ?_) (fun c169 => ?_)
  · replace h := o_t c169 h
    refine lv_iload hx hb dX10_madeWord_197 (lv_at hl 5 rfl) ?_
    replace h := Option.some.inj h; subst h
    exact W.iret hx hb hr (fun t ht hW => ⟨rfl, by rw [ht]; exact hM.moved hW.alike, hS.F ht⟩) hS.2.2 dX10_madeWord_199
  replace h := o_f c169 h
  refine lv_iload_n hx hb dX10_madeWord_172 rfl (lv_at hl 3 rfl) ?_
  refine lv_iload_n hx hb dX10_madeWord_173 rfl (lv_at hl 2 rfl) ?_
  refine lv_icmp_ge (tgt := 197) hx hb dX10_madeWord_174 (by decide) (fun c174 => ?_) (fun c174 => ?_)
  · replace h := o_t c174 h
    refine lv_iload hx hb dX10_madeWord_197 (lv_at hl 5 rfl) ?_
    replace h := Option.some.inj h; subst h
    exact W.iret hx hb hr (fun t ht hW => ⟨rfl, by rw [ht]; exact hM.moved hW.alike, hS.F ht⟩) hS.2.2 dX10_madeWord_199
  replace h := o_f c174 h
  refine lv_iload hx hb dX10_madeWord_177 (lv_at hl 5 rfl) ?_
  refine lv_aload_n hx hb dX10_madeWord_179 rfl (lv_at hl 0 rfl) ?_
  replace h := o_b h; obtain ⟨x180, h180, h⟩ := h
  refine m_get (C := RX10) (T := TX10) (N := 25) (ci := 10) hx hb hts qi_X10_madeWord_X10 hown hK.1 hM 18 (ldR_F h180) rfl (by decide) (hts _ q_X10_madeWord_1) (fun _ h9 => h9) dX10_madeWord_180 ?_
  refine lv_bipush (v := (91 : Int32)) hx hb dX10_madeWord_183 (by decide) ?_
  refine lv_iload_n hx hb dX10_madeWord_185 rfl (lv_at hl 1 rfl) ?_
  refine lv_imul hx hb dX10_madeWord_186 ?_
  refine lv_iload hx hb dX10_madeWord_187 (lv_at hl 4 rfl) ?_
  refine lv_iadd hx hb dX10_madeWord_189 ?_
  refine lv_iload hx hb dX10_madeWord_190 (lv_at hl 6 rfl) ?_
  refine lv_iadd hx hb dX10_madeWord_192 ?_
  replace h := o_b h; obtain ⟨x193, h193, h⟩ := h
  refine m_iald hx hb hK.1 hM hS rfl h193 dX10_madeWord_193 ?_
  refine lv_iand hx hb dX10_madeWord_194 ?_
  refine lv_istore (lv' := [(7, .int (v7 &&& x193)), (0, .ref v0), (1, .int v1), (2, .int v2), (3, .int v3), (4, .int v4), (8, .int v8)]) hx hb dX10_madeWord_195 hl (by decide) rfl (fun ls hl => ?_)
  refine lv_iload hx hb dX10_madeWord_197 (lv_at hl 0 rfl) ?_
  replace h := Option.some.inj h; subst h
  exact W.iret hx hb hr (fun t ht hW => ⟨rfl, by rw [ht]; exact hM.moved hW.alike, hS.F ht⟩) hS.2.2 dX10_madeWord_199
set_option maxHeartbeats 4000000 in
set_option maxRecDepth 100000 in
theorem w_X10_madeWord (C0 : CX cX10_madeWord 9 (some .int) wsX10_madeWord RX10 p s m args meth c D b0) {v0 : Nat} {v1 : Int32} {v2 : Int32} {v3 : Int32} {v4 : Int32} {res : Int32} (h : f_X10_madeWord v0 v1 v2 v3 v4 f = some res) : ∀ (H : Heap) (locs : List Loc) (ls : Array Slot), MM vwCl D b0 f sz s H → mS b0 s H locs → lv_has ls 9 [(0, .ref v0), (1, .int v1), (2, .int v2), (3, .int v3), (4, .int v4)] → W p l e ({ frames := 1, cells := 0, slots := 0, locals := 20 } : Room) s m args below meth c H locs 0 0 (MQ below (QW D b0 (some (.int res)) f sz) args s 0 0 (fun q => b0 ≤ q)) (F0 m 0 ls []) := by
  obtain ⟨hx, hb, hr, hml, hown, hts, hlocks, hK⟩ := id C0
  intro H locs ls hM hS hl
  unfold f_X10_madeWord at h
  refine lv_aload_n hx hb dX10_madeWord_0 rfl (lv_at hl 0 rfl) ?_
  replace h := o_b h; obtain ⟨x1, h1, h⟩ := h
  refine m_get (C := RX10) (T := TX10) (N := 25) (ci := 10) hx hb hts qi_X10_madeWord_X10 hown hK.1 hM 18 (ldR_F h1) rfl (by decide) (hts _ q_X10_madeWord_1) (fun _ h9 => h9) dX10_madeWord_1 ?_
  refine lv_bipush (v := (91 : Int32)) hx hb dX10_madeWord_4 (by decide) ?_
  refine lv_aload_n hx hb dX10_madeWord_6 rfl (lv_at hl 0 rfl) ?_
  replace h := o_b h; obtain ⟨x7, h7, h⟩ := h
  refine m_get (C := RX10) (T := TX10) (N := 25) (ci := 10) hx hb hts qi_X10_madeWord_X10 hown hK.1 hM 16 (ldR_F h7) rfl (by decide) (hts _ q_X10_madeWord_2) (fun _ h9 => h9) dX10_madeWord_7 ?_
  refine lv_iload_n hx hb dX10_madeWord_10 rfl (lv_at hl 1 rfl) ?_
  replace h := o_b h; obtain ⟨x11, h11, h⟩ := h
  refine m_iald hx hb hK.1 hM hS rfl h11 dX10_madeWord_11 ?_
  refine lv_imul hx hb dX10_madeWord_12 ?_
  refine lv_iload hx hb dX10_madeWord_13 (lv_at hl 4 rfl) ?_
  refine lv_iadd hx hb dX10_madeWord_15 ?_
  replace h := o_b h; obtain ⟨x16, h16, h⟩ := h
  refine m_iald hx hb hK.1 hM hS rfl h16 dX10_madeWord_16 ?_
  refine lv_istore (lv' := [(5, .int x16), (0, .ref v0), (1, .int v1), (2, .int v2), (3, .int v3), (4, .int v4)]) hx hb dX10_madeWord_17 hl (by decide) rfl (fun ls hl => ?_)
  refine lv_aload_n hx hb dX10_madeWord_19 rfl (lv_at hl 1 rfl) ?_
  replace h := o_b h; obtain ⟨x20, h20, h⟩ := h
  refine m_get (C := RX10) (T := TX10) (N := 25) (ci := 10) hx hb hts qi_X10_madeWord_X10 hown hK.1 hM 18 (ldR_F h20) rfl (by decide) (hts _ q_X10_madeWord_1) (fun _ h9 => h9) dX10_madeWord_20 ?_
  refine lv_bipush (v := (91 : Int32)) hx hb dX10_madeWord_23 (by decide) ?_
  refine lv_aload_n hx hb dX10_madeWord_25 rfl (lv_at hl 1 rfl) ?_
  replace h := o_b h; obtain ⟨x26, h26, h⟩ := h
  refine m_get (C := RX10) (T := TX10) (N := 25) (ci := 10) hx hb hts qi_X10_madeWord_X10 hown hK.1 hM 17 (ldR_F h26) rfl (by decide) (hts _ q_X10_madeWord_3) (fun _ h9 => h9) dX10_madeWord_26 ?_
  refine lv_iload_n hx hb dX10_madeWord_29 rfl (lv_at hl 2 rfl) ?_
  replace h := o_b h; obtain ⟨x30, h30, h⟩ := h
  refine m_iald hx hb hK.1 hM hS rfl h30 dX10_madeWord_30 ?_
  refine lv_imul hx hb dX10_madeWord_31 ?_
  refine lv_iload hx hb dX10_madeWord_32 (lv_at hl 5 rfl) ?_
  refine lv_iadd hx hb dX10_madeWord_34 ?_
  replace h := o_b h; obtain ⟨x35, h35, h⟩ := h
  refine m_iald hx hb hK.1 hM hS rfl h35 dX10_madeWord_35 ?_
  refine lv_istore (lv' := [(6, .int x35), (5, .int x16), (0, .ref v0), (1, .int v1), (2, .int v2), (3, .int v3), (4, .int v4)]) hx hb dX10_madeWord_36 hl (by decide) rfl (fun ls hl => ?_)
  refine lv_aload_n hx hb dX10_madeWord_38 rfl (lv_at hl 2 rfl) ?_
  replace h := o_b h; obtain ⟨x39, h39, h⟩ := h
  refine m_get (C := RX10) (T := TX10) (N := 25) (ci := 10) hx hb hts qi_X10_madeWord_X10 hown hK.1 hM 15 (ldR_F h39) rfl (by decide) (hts _ q_X10_madeWord_4) (fun _ h9 => h9) dX10_madeWord_39 ?_
  refine lv_iload_n hx hb dX10_madeWord_42 rfl (lv_at hl 3 rfl) ?_
  replace h := o_b h; obtain ⟨x43, h43, h⟩ := h
  refine m_iald hx hb hK.1 hM hS rfl h43 dX10_madeWord_43 ?_
  refine lv_bipush (v := (9 : Int32)) hx hb dX10_madeWord_44 (by decide) ?_
  refine lv_icmp_eq (tgt := 102) hx hb dX10_madeWord_46 (by decide) (fun c46 => ?_) (fun c46 => ?_)
  · replace h := o_t c46 h
    refine lv_iload hx hb dX10_madeWord_102 (lv_at hl 1 rfl) ?_
    refine lv_iconst (v := (-1 : Int32)) hx hb dX10_madeWord_104 (by decide) ?_
    refine lv_ixor hx hb dX10_madeWord_105 ?_
    refine lv_iload hx hb dX10_madeWord_106 (lv_at hl 0 rfl) ?_
    refine lv_ior hx hb dX10_madeWord_108 ?_
    refine lv_istore (lv' := [(7, .int ((x16 ^^^ (-1 : Int32)) ||| x35)), (6, .int x35), (5, .int x16), (0, .ref v0), (1, .int v1), (2, .int v2), (3, .int v3), (4, .int v4)]) hx hb dX10_madeWord_109 hl (by decide) rfl (fun ls hl => ?_)
    refine lv_iload_n hx hb dX10_madeWord_111 rfl (lv_at hl 5 rfl) ?_
    replace h := o_b h; obtain ⟨q112, h112, h⟩ := h
    refine m_call (va_runS (As := [.int v2]) (rest := []) ⟨hx, hb, hml, hown, hts⟩ (c_X10_wordsOf l D b0 sz h112) (va_cwS 1 hts gX10_madeWord_X10_wordsOf rfl rfl rfl (by decide +kernel) ⟨Nat.le_of_ble_eq_true rfl, Nat.le_of_ble_eq_true rfl⟩) ⟨PW.blind, (fun U hU hW => ⟨rfl, PW.call hK hM hS hU hW⟩)⟩ rfl rfl hl.1 rfl (lv_room (Nat.le_of_ble_eq_true rfl)) dX10_madeWord_112 ⟨(Nat.le_refl _), (Nat.le_refl _)⟩) hS (fun H locs hM hS => ?_)
    refine lv_istore (lv' := [(8, .int q112), (7, .int ((x16 ^^^ (-1 : Int32)) ||| x35)), (6, .int x35), (5, .int x16), (0, .ref v0), (1, .int v1), (2, .int v2), (3, .int v3), (4, .int v4)]) hx hb dX10_madeWord_115 hl (by decide) rfl (fun ls hl => ?_)
    refine lv_iload_n hx hb dX10_madeWord_117 rfl (lv_at hl 6 rfl) ?_
    refine lv_iconst (v := (3 : Int32)) hx hb dX10_madeWord_118 (by decide) ?_
    refine lv_icmp_ne (tgt := 167) hx hb dX10_madeWord_119 (by decide) (fun c119 => ?_) (fun c119 => ?_)
    · replace h := o_f c119 h
      exact w_X10_madeWord_167 C0 _ _ _ _ _ _ _ h _ _ _ hM hS (lv_sub hl [4, 5, 6, 7, 8, 1, 0] rfl)
    replace h := o_t c119 h
    refine lv_iload_n hx hb dX10_madeWord_122 rfl (lv_at hl 7 rfl) ?_
    refine lv_if_ne (tgt := 167) hx hb dX10_madeWord_123 (by decide) (fun c123 => ?_) (fun c123 => ?_)
    · replace h := o_f c123 h
      exact w_X10_madeWord_167 C0 _ _ _ _ _ _ _ h _ _ _ hM hS (lv_sub hl [4, 5, 6, 7, 8, 1, 0] rfl)
    replace h := o_t c123 h
    refine lv_iload hx hb dX10_madeWord_126 (lv_at hl 1 rfl) ?_
    refine lv_aload_n hx hb dX10_madeWord_128 rfl (lv_at hl 4 rfl) ?_
    replace h := o_b h; obtain ⟨x129, h129, h⟩ := h
    refine m_get (C := RX10) (T := TX10) (N := 25) (ci := 10) hx hb hts qi_X10_madeWord_X10 hown hK.1 hM 18 (ldR_F h129) rfl (by decide) (hts _ q_X10_madeWord_1) (fun _ h9 => h9) dX10_madeWord_129 ?_
    refine lv_bipush (v := (91 : Int32)) hx hb dX10_madeWord_132 (by decide) ?_
    refine lv_iload_n hx hb dX10_madeWord_134 rfl (lv_at hl 5 rfl) ?_
    refine lv_imul hx hb dX10_madeWord_135 ?_
    refine lv_iload hx hb dX10_madeWord_136 (lv_at hl 8 rfl) ?_
    refine lv_iadd hx hb dX10_madeWord_138 ?_
    refine lv_iload hx hb dX10_madeWord_139 (lv_at hl 0 rfl) ?_
    refine lv_iadd hx hb dX10_madeWord_141 ?_
    replace h := o_b h; obtain ⟨x142, h142, h⟩ := h
    refine m_iald hx hb hK.1 hM hS rfl h142 dX10_madeWord_142 ?_
    refine lv_aload_n hx hb dX10_madeWord_143 rfl (lv_at hl 4 rfl) ?_
    replace h := o_b h; obtain ⟨x144, h144, h⟩ := h
    refine m_get (C := RX10) (T := TX10) (N := 25) (ci := 10) hx hb hts qi_X10_madeWord_X10 hown hK.1 hM 18 (ldR_F h144) rfl (by decide) (hts _ q_X10_madeWord_1) (fun _ h9 => h9) dX10_madeWord_144 ?_
    refine lv_bipush (v := (91 : Int32)) hx hb dX10_madeWord_147 (by decide) ?_
    refine lv_iload_n hx hb dX10_madeWord_149 rfl (lv_at hl 5 rfl) ?_
    refine lv_imul hx hb dX10_madeWord_150 ?_
    refine lv_iload hx hb dX10_madeWord_151 (lv_at hl 8 rfl) ?_
    refine lv_iadd hx hb dX10_madeWord_153 ?_
    refine lv_iconst (v := (2 : Int32)) hx hb dX10_madeWord_154 (by decide) ?_
    refine lv_iload hx hb dX10_madeWord_155 (lv_at hl 0 rfl) ?_
    refine lv_imul hx hb dX10_madeWord_157 ?_
    refine lv_iadd hx hb dX10_madeWord_158 ?_
    replace h := o_b h; obtain ⟨x159, h159, h⟩ := h
    refine m_iald hx hb hK.1 hM hS rfl h159 dX10_madeWord_159 ?_
    refine lv_iand hx hb dX10_madeWord_160 ?_
    refine lv_iand hx hb dX10_madeWord_161 ?_
    refine lv_istore (lv' := [(7, .int (((x16 ^^^ (-1 : Int32)) ||| x35) &&& (x142 &&& x159))), (8, .int q112), (6, .int x35), (5, .int x16), (0, .ref v0), (1, .int v1), (2, .int v2), (3, .int v3), (4, .int v4)]) hx hb dX10_madeWord_162 hl (by decide) rfl (fun ls hl => ?_)
    refine lv_goto (tgt := 197) hx hb dX10_madeWord_164 (by decide) ?_
    refine lv_iload hx hb dX10_madeWord_197 (lv_at hl 0 rfl) ?_
    replace h := Option.some.inj h; subst h
    exact W.iret hx hb hr (fun t ht hW => ⟨rfl, by rw [ht]; exact hM.moved hW.alike, hS.F ht⟩) hS.2.2 dX10_madeWord_199
  replace h := o_f c46 h
  refine lv_aload_n hx hb dX10_madeWord_49 rfl (lv_at hl 2 rfl) ?_
  replace h := o_b h; obtain ⟨x50, h50, h⟩ := h
  refine m_get (C := RX10) (T := TX10) (N := 25) (ci := 10) hx hb hts qi_X10_madeWord_X10 hown hK.1 hM 15 (ldR_F h50) rfl (by decide) (hts _ q_X10_madeWord_4) (fun _ h9 => h9) dX10_madeWord_50 ?_
  refine lv_iload_n hx hb dX10_madeWord_53 rfl (lv_at hl 3 rfl) ?_
  replace h := o_b h; obtain ⟨x54, h54, h⟩ := h
  refine m_iald hx hb hK.1 hM hS rfl h54 dX10_madeWord_54 ?_
  refine lv_iconst (v := (4 : Int32)) hx hb dX10_madeWord_55 (by decide) ?_
  refine lv_icmp_ne (tgt := 63) hx hb dX10_madeWord_56 (by decide) (fun c56 => ?_) (fun c56 => ?_)
  · replace h := o_f c56 h
    refine lv_aload_n hx hb dX10_madeWord_63 rfl (lv_at hl 2 rfl) ?_
    replace h := o_b h; obtain ⟨x64, h64, h⟩ := h
    refine m_get (C := RX10) (T := TX10) (N := 25) (ci := 10) hx hb hts qi_X10_madeWord_X10 hown hK.1 hM 15 (ldR_F h64) rfl (by decide) (hts _ q_X10_madeWord_4) (fun _ h9 => h9) dX10_madeWord_64 ?_
    refine lv_iload_n hx hb dX10_madeWord_67 rfl (lv_at hl 3 rfl) ?_
    replace h := o_b h; obtain ⟨x68, h68, h⟩ := h
    refine m_iald hx hb hK.1 hM hS rfl h68 dX10_madeWord_68 ?_
    refine lv_iconst (v := (5 : Int32)) hx hb dX10_madeWord_69 (by decide) ?_
    refine lv_icmp_ne (tgt := 77) hx hb dX10_madeWord_70 (by decide) (fun c70 => ?_) (fun c70 => ?_)
    · replace h := o_f c70 h
      refine lv_aload_n hx hb dX10_madeWord_77 rfl (lv_at hl 2 rfl) ?_
      replace h := o_b h; obtain ⟨x78, h78, h⟩ := h
      refine m_get (C := RX10) (T := TX10) (N := 25) (ci := 10) hx hb hts qi_X10_madeWord_X10 hown hK.1 hM 15 (ldR_F h78) rfl (by decide) (hts _ q_X10_madeWord_4) (fun _ h9 => h9) dX10_madeWord_78 ?_
      refine lv_iload_n hx hb dX10_madeWord_81 rfl (lv_at hl 3 rfl) ?_
      replace h := o_b h; obtain ⟨x82, h82, h⟩ := h
      refine m_iald hx hb hK.1 hM hS rfl h82 dX10_madeWord_82 ?_
      refine lv_bipush (v := (7 : Int32)) hx hb dX10_madeWord_83 (by decide) ?_
      refine lv_icmp_ne (tgt := 96) hx hb dX10_madeWord_85 (by decide) (fun c85 => ?_) (fun c85 => ?_)
      · replace h := o_f c85 h
        refine lv_iload hx hb dX10_madeWord_96 (lv_at hl 1 rfl) ?_
        refine lv_iload hx hb dX10_madeWord_98 (lv_at hl 0 rfl) ?_
        refine lv_ior hx hb dX10_madeWord_100 ?_
        replace h := Option.some.inj h; subst h
        exact W.iret hx hb hr (fun t ht hW => ⟨rfl, by rw [ht]; exact hM.moved hW.alike, hS.F ht⟩) hS.2.2 dX10_madeWord_101
      replace h := o_t c85 h
      refine lv_iload hx hb dX10_madeWord_88 (lv_at hl 1 rfl) ?_
      refine lv_iload hx hb dX10_madeWord_90 (lv_at hl 0 rfl) ?_
      refine lv_iand hx hb dX10_madeWord_92 ?_
      refine lv_goto (tgt := 101) hx hb dX10_madeWord_93 (by decide) ?_
      replace h := Option.some.inj h; subst h
      exact W.iret hx hb hr (fun t ht hW => ⟨rfl, by rw [ht]; exact hM.moved hW.alike, hS.F ht⟩) hS.2.2 dX10_madeWord_101
    replace h := o_t c70 h
    refine lv_iconst (v := (0 : Int32)) hx hb dX10_madeWord_73 (by decide) ?_
    refine lv_goto (tgt := 101) hx hb dX10_madeWord_74 (by decide) ?_
    replace h := Option.some.inj h; subst h
    exact W.iret hx hb hr (fun t ht hW => ⟨rfl, by rw [ht]; exact hM.moved hW.alike, hS.F ht⟩) hS.2.2 dX10_madeWord_101
  replace h := o_t c56 h
  refine lv_iconst (v := (-1 : Int32)) hx hb dX10_madeWord_59 (by decide) ?_
  refine lv_goto (tgt := 101) hx hb dX10_madeWord_60 (by decide) ?_
  replace h := Option.some.inj h; subst h
  exact W.iret hx hb hr (fun t ht hW => ⟨rfl, by rw [ht]; exact hM.moved hW.alike, hS.F ht⟩) hS.2.2 dX10_madeWord_101
set_option maxHeartbeats 4000000 in
set_option maxRecDepth 100000 in
theorem c_X10_madeWord (l : Launch) (D : mmD) (b0 sz : Nat) {v0 : Nat} {v1 : Int32} {v2 : Int32} {v3 : Int32} {v4 : Int32} {f : mmF} {res : Int32} (h : f_X10_madeWord v0 v1 v2 v3 v4 f = some res) : Met l yX10_madeWord wsX10_madeWord ({ frames := 1, cells := 0, slots := 0, locals := 20 } : Room) (va_Pc [.ref v0, .int v1, .int v2, .int v3, .int v4] (PW D b0 f sz)) (QW D b0 (some (.int res)) f sz) 0 0 (fun q => b0 ≤ q) := by
  refine Met.ofW (cc := cX10_madeWord) (maxL := 9) (ret := (some .int)) (by decide) rfl ?_
  intro p e s m args below meth c s₁ B hml hv
  obtain ⟨rfl, hM, hK⟩ := hv
  have hl := lv_entry ([.ref v0, .int v1, .int v2, .int v3, .int v4]) (n := 9) (Nat.le_of_ble_eq_true rfl)
  rw [lg_entry_eq]
  generalize (lg_sl ([.ref v0, .int v1, .int v2, .int v3, .int v4]) ++ List.replicate (9 - (lg_sl ([.ref v0, .int v1, .int v2, .int v3, .int v4])).length) Slot.unset).toArray = ls at hl ⊢
  have hl : lv_has ls 9 [(0, .ref v0), (1, .int v1), (2, .int v2), (3, .int v3), (4, .int v4)] := hl
  exact w_X10_madeWord ⟨B.exec, B.bytes, B.returns, hml, findClass_of_methodNamed B.named, atoms_spec (ws := wsX10_madeWord) B.pre, B.notSynchronized, hK⟩ h s.heap [] ls hM va_S.rf hl
end S_X10_madeWord
/-! X10_looksAt -/
set_option maxRecDepth 20000 in
theorem qi_X10_looksAt_X10 : ∀ w ∈ u_ws RX10 TX10 25, w ∈ wsX10_looksAt := by decide +kernel
set_option maxRecDepth 20000 in
theorem q_X10_looksAt_1 : Cond.fieldLink RX10 48 "StageTruthsModel" "where" "[I" ∈ wsX10_looksAt := by decide +kernel
set_option maxRecDepth 20000 in
theorem q_X10_looksAt_2 : Cond.fieldLink RX10 38 "StageTruthsModel" "op" "[I" ∈ wsX10_looksAt := by decide +kernel
noncomputable def f_X10_looksAt_108 (k2 : Nat → Int32 → Int32 → mmF → Option (mmF)) (k29 : Nat → Int32 → Int32 → Int32 → Int32 → Int32 → mmF → Option (mmF)) (k41 : Nat → Int32 → Int32 → Int32 → Int32 → Int32 → Int32 → mmF → Option (mmF))  (v0 : Nat) (v1 : Int32) (v2 : Int32) (v3 : Int32) (v4 : Int32) (v5 : Int32) (v6 : Int32) (t0 : Nat) (t1 : Int32) (t2 : Int32) (f : mmF) : Option (mmF) :=
  (stA 0 f t0 t1 t2).bind fun f108 =>
  k41 v0 v1 v2 v3 v4 v5 (v6 + (-1 : Int32)) f108
noncomputable def f_X10_looksAt_41 (k2 : Nat → Int32 → Int32 → mmF → Option (mmF)) (k29 : Nat → Int32 → Int32 → Int32 → Int32 → Int32 → mmF → Option (mmF))  : Nat → Nat → Int32 → Int32 → Int32 → Int32 → Int32 → Int32 → mmF → Option (mmF)
  | 0, _, _, _, _, _, _, _, _ => none
  | n + 1, v0, v1, v2, v3, v4, v5, v6, f =>
    if v6 < 0 then
    (k29 v0 v1 v2 v3 v4 (v5 + (1 : Int32)) f)
    else
    (f_X10_begin v2 f).bind fun q47 =>
    (ldR f v0 10 18).bind fun x61 =>
    (ldR f v0 10 15).bind fun x72 =>
    (ldA 0 f x72 v1).bind fun x76 =>
    if (4 : Int32) ≤ x76 then
    ((ckO f v0 10).bind fun _ =>
    (f_X10_madeWord v0 v1 v2 v6 ((q47 + (v3 * v6)) + v5) f).bind fun q105 =>
    f_X10_looksAt_108 k2 k29 (fun a0 a1 a2 a3 a4 a5 a6 a7 => f_X10_looksAt_41 k2 k29 n a0 a1 a2 a3 a4 a5 a6 a7) v0 v1 v2 v3 v4 v5 v6 x61 (((91 : Int32) * v1) + ((q47 + (v3 * v6)) + v5)) q105 f)
    else
    (ldR f v0 10 15).bind fun x87 =>
    (ldA 0 f x87 v1).bind fun x91 =>
    (f_X10_factWord v2 v6 v5 x91 f).bind fun q92 =>
    f_X10_looksAt_108 k2 k29 (fun a0 a1 a2 a3 a4 a5 a6 a7 => f_X10_looksAt_41 k2 k29 n a0 a1 a2 a3 a4 a5 a6 a7) v0 v1 v2 v3 v4 v5 v6 x61 (((91 : Int32) * v1) + ((q47 + (v3 * v6)) + v5)) q92 f
noncomputable def f_X10_looksAt_29 (k2 : Nat → Int32 → Int32 → mmF → Option (mmF))  : Nat → Nat → Int32 → Int32 → Int32 → Int32 → Int32 → mmF → Option (mmF)
  | 0, _, _, _, _, _, _, _ => none
  | n + 1, v0, v1, v2, v3, v4, v5, f =>
    if v3 ≤ v5 then
    (k2 v0 v1 (v2 + (1 : Int32)) f)
    else
    f_X10_looksAt_41 k2 (fun a0 a1 a2 a3 a4 a5 a6 => f_X10_looksAt_29 k2 n a0 a1 a2 a3 a4 a5 a6) FU v0 v1 v2 v3 v4 v5 (v4 - (1 : Int32)) f
noncomputable def f_X10_looksAt_24 (k2 : Nat → Int32 → Int32 → mmF → Option (mmF))  (v0 : Nat) (v1 : Int32) (v2 : Int32) (v3 : Int32) (t0 : Int32) (f : mmF) : Option (mmF) :=
  f_X10_looksAt_29 k2 FU v0 v1 v2 v3 t0 (0 : Int32) f
noncomputable def f_X10_looksAt_2   : Nat → Nat → Int32 → Int32 → mmF → Option (mmF)
  | 0, _, _, _, _ => none
  | n + 1, v0, v1, v2, f =>
    if (4 : Int32) ≤ v2 then
    (some (f))
    else
    (f_X10_wordsOf v2 f).bind fun q8 =>
    if (3 : Int32) ≤ v2 then
    (f_X10_looksAt_24 (fun a0 a1 a2 a3 => f_X10_looksAt_2 n a0 a1 a2 a3) v0 v1 v2 q8 (3 : Int32) f)
    else
    f_X10_looksAt_24 (fun a0 a1 a2 a3 => f_X10_looksAt_2 n a0 a1 a2 a3) v0 v1 v2 q8 (v2 + (1 : Int32)) f
noncomputable def f_X10_looksAt (v0 : Nat) (v1 : Int32) (f : mmF) : Option (mmF) :=
  f_X10_looksAt_2 FU v0 v1 (0 : Int32) f
section S_X10_looksAt
variable {p : Program} {l : Launch} {e : Env} {s : State} {m : MethodId} {args : Array Value} {below : List Frame} {meth : Method} {c : Code} {D : mmD} {b0 sz : Nat} {f : mmF}
set_option maxHeartbeats 4000000 in
set_option maxRecDepth 100000 in
theorem w_X10_looksAt_108 (C0 : CX cX10_looksAt 8 none wsX10_looksAt RX10 p s m args meth c D b0) {k2 : Nat → Int32 → Int32 → mmF → Option (mmF)} {k29 : Nat → Int32 → Int32 → Int32 → Int32 → Int32 → mmF → Option (mmF)} {k41 : Nat → Int32 → Int32 → Int32 → Int32 → Int32 → Int32 → mmF → Option (mmF)} {res : mmF} (hk2 : ∀ (v0 : Nat) (v1 : Int32) (v2 : Int32) (f : mmF), k2 v0 v1 v2 f = some res → ∀ (H : Heap) (locs : List Loc) (ls : Array Slot), MM vwCl D b0 f sz s H → mS b0 s H locs → lv_has ls 8 [(0, .ref v0), (1, .int v1), (2, .int v2)] → W p l e ({ frames := 3, cells := 0, slots := 0, locals := 72 } : Room) s m args below meth c H locs 0 0 (MQ below (QW D b0 none res sz) args s 0 0 (fun q => b0 ≤ q)) (F0 m 2 ls [])) (hk29 : ∀ (v0 : Nat) (v1 : Int32) (v2 : Int32) (v3 : Int32) (v4 : Int32) (v5 : Int32) (f : mmF), k29 v0 v1 v2 v3 v4 v5 f = some res → ∀ (H : Heap) (locs : List Loc) (ls : Array Slot), MM vwCl D b0 f sz s H → mS b0 s H locs → lv_has ls 8 [(0, .ref v0), (1, .int v1), (2, .int v2), (3, .int v3), (4, .int v4), (5, .int v5)] → W p l e ({ frames := 3, cells := 0, slots := 0, locals := 72 } : Room) s m args below meth c H locs 0 0 (MQ below (QW D b0 none res sz) args s 0 0 (fun q => b0 ≤ q)) (F0 m 29 ls [])) (hk41 : ∀ (v0 : Nat) (v1 : Int32) (v2 : Int32) (v3 : Int32) (v4 : Int32) (v5 : Int32) (v6 : Int32) (f : mmF), k41 v0 v1 v2 v3 v4 v5 v6 f = some res → ∀ (H : Heap) (locs : List Loc) (ls : Array Slot), MM vwCl D b0 f sz s H → mS b0 s H locs → lv_has ls 8 [(0, .ref v0), (1, .int v1), (2, .int v2), (3, .int v3), (4, .int v4), (5, .int v5), (6, .int v6)] → W p l e ({ frames := 3, cells := 0, slots := 0, locals := 72 } : Room) s m args below meth c H locs 0 0 (MQ below (QW D b0 none res sz) args s 0 0 (fun q => b0 ≤ q)) (F0 m 41 ls [])) : ∀ (v0 : Nat) (v1 : Int32) (v2 : Int32) (v3 : Int32) (v4 : Int32) (v5 : Int32) (v6 : Int32) (t0 : Nat) (t1 : Int32) (t2 : Int32) (f : mmF), f_X10_looksAt_108 k2 k29 k41 v0 v1 v2 v3 v4 v5 v6 t0 t1 t2 f = some res → ∀ (H : Heap) (locs : List Loc) (ls : Array Slot), MM vwCl D b0 f sz s H → mS b0 s H locs → lv_has ls 8 [(0, .ref v0), (1, .int v1), (2, .int v2), (3, .int v3), (4, .int v4), (5, .int v5), (6, .int v6)] → W p l e ({ frames := 3, cells := 0, slots := 0, locals := 72 } : Room) s m args below meth c H locs 0 0 (MQ below (QW D b0 none res sz) args s 0 0 (fun q => b0 ≤ q)) (F0 m 108 ls [.int t2, .int t1, .ref t0]) := by
  obtain ⟨hx, hb, hr, hml, hown, hts, hlocks, hK⟩ := id C0
  intro v0 v1 v2 v3 v4 v5 v6 t0 t1 t2 f h H locs ls hM hS hl
  unfold f_X10_looksAt_108 at h
  replace h := o_b h; obtain ⟨f108, h108, h⟩ := h
  refine m_iast hx hb hK.1 hM hS rfl h108 dX10_looksAt_108 (fun H locs hM hS => ?_)
  refine lv_iinc (v := (v6 + (-1 : Int32))) (lv' := [(6, .int (v6 + (-1 : Int32))), (0, .ref v0), (1, .int v1), (2, .int v2), (3, .int v3), (4, .int v4), (5, .int v5)]) hx hb dX10_looksAt_109 hl (k := 6) rfl rfl (by decide) rfl (fun ls hl => ?_)
  refine lv_goto (tgt := 41) hx hb dX10_looksAt_112 (by decide) ?_
  exact hk41 _ _ _ _ _ _ _ _ h _ _ _ hM hS (lv_sub hl [1, 2, 3, 4, 5, 6, 0] rfl)
set_option maxHeartbeats 4000000 in
set_option maxRecDepth 100000 in
theorem w_X10_looksAt_41 (C0 : CX cX10_looksAt 8 none wsX10_looksAt RX10 p s m args meth c D b0) {k2 : Nat → Int32 → Int32 → mmF → Option (mmF)} {k29 : Nat → Int32 → Int32 → Int32 → Int32 → Int32 → mmF → Option (mmF)} {res : mmF} (hk2 : ∀ (v0 : Nat) (v1 : Int32) (v2 : Int32) (f : mmF), k2 v0 v1 v2 f = some res → ∀ (H : Heap) (locs : List Loc) (ls : Array Slot), MM vwCl D b0 f sz s H → mS b0 s H locs → lv_has ls 8 [(0, .ref v0), (1, .int v1), (2, .int v2)] → W p l e ({ frames := 3, cells := 0, slots := 0, locals := 72 } : Room) s m args below meth c H locs 0 0 (MQ below (QW D b0 none res sz) args s 0 0 (fun q => b0 ≤ q)) (F0 m 2 ls [])) (hk29 : ∀ (v0 : Nat) (v1 : Int32) (v2 : Int32) (v3 : Int32) (v4 : Int32) (v5 : Int32) (f : mmF), k29 v0 v1 v2 v3 v4 v5 f = some res → ∀ (H : Heap) (locs : List Loc) (ls : Array Slot), MM vwCl D b0 f sz s H → mS b0 s H locs → lv_has ls 8 [(0, .ref v0), (1, .int v1), (2, .int v2), (3, .int v3), (4, .int v4), (5, .int v5)] → W p l e ({ frames := 3, cells := 0, slots := 0, locals := 72 } : Room) s m args below meth c H locs 0 0 (MQ below (QW D b0 none res sz) args s 0 0 (fun q => b0 ≤ q)) (F0 m 29 ls [])) : ∀ (n : Nat), ∀ (v0 : Nat) (v1 : Int32) (v2 : Int32) (v3 : Int32) (v4 : Int32) (v5 : Int32) (v6 : Int32) (f : mmF), f_X10_looksAt_41 k2 k29 n v0 v1 v2 v3 v4 v5 v6 f = some res → ∀ (H : Heap) (locs : List Loc) (ls : Array Slot), MM vwCl D b0 f sz s H → mS b0 s H locs → lv_has ls 8 [(0, .ref v0), (1, .int v1), (2, .int v2), (3, .int v3), (4, .int v4), (5, .int v5), (6, .int v6)] → W p l e ({ frames := 3, cells := 0, slots := 0, locals := 72 } : Room) s m args below meth c H locs 0 0 (MQ below (QW D b0 none res sz) args s 0 0 (fun q => b0 ≤ q)) (F0 m 41 ls []) := by
  obtain ⟨hx, hb, hr, hml, hown, hts, hlocks, hK⟩ := id C0
  intro n
  induction n with
  | zero =>
    intro v0 v1 v2 v3 v4 v5 v6 f h
    have h : (none : Option (mmF)) = some res := h
    cases h
  | succ n ih =>
    intro v0 v1 v2 v3 v4 v5 v6 f h H locs ls hM hS hl
    rw [f_X10_looksAt_41] at h
    refine lv_iload hx hb dX10_looksAt_41 (lv_at hl 6 rfl) ?_
    refine lv_if_lt (tgt := 115) hx hb dX10_looksAt_43 (by decide) (fun c43 => ?_) (fun c43 => ?_)
    · replace h := o_t c43 h
      refine lv_iinc (v := (v5 + (1 : Int32))) (lv' := [(5, .int (v5 + (1 : Int32))), (0, .ref v0), (1, .int v1), (2, .int v2), (3, .int v3), (4, .int v4), (6, .int v6)]) hx hb dX10_looksAt_115 hl (k := 5) rfl rfl (by decide) rfl (fun ls hl => ?_)
      refine lv_goto (tgt := 29) hx hb dX10_looksAt_118 (by decide) ?_
      exact hk29 _ _ _ _ _ _ _ h _ _ _ hM hS (lv_sub hl [1, 2, 3, 4, 5, 0] rfl)
    replace h := o_f c43 h
    refine lv_iload_n hx hb dX10_looksAt_46 rfl (lv_at hl 2 rfl) ?_
    replace h := o_b h; obtain ⟨q47, h47, h⟩ := h
    refine m_call (va_runS (As := [.int v2]) (rest := []) ⟨hx, hb, hml, hown, hts⟩ (c_X10_begin l D b0 sz h47) (va_cwS 1 hts gX10_looksAt_X10_begin rfl rfl rfl (by decide +kernel) ⟨Nat.le_of_ble_eq_true rfl, Nat.le_of_ble_eq_true rfl⟩) ⟨PW.blind, (fun U hU hW => ⟨rfl, PW.call hK hM hS hU hW⟩)⟩ rfl rfl hl.1 rfl (lv_room (Nat.le_of_ble_eq_true rfl)) dX10_looksAt_47 ⟨(Nat.le_refl _), (Nat.le_refl _)⟩) hS (fun H locs hM hS => ?_)
    refine lv_iload_n hx hb dX10_looksAt_50 rfl (lv_at hl 3 rfl) ?_
    refine lv_iload hx hb dX10_looksAt_51 (lv_at hl 6 rfl) ?_
    refine lv_imul hx hb dX10_looksAt_53 ?_
    refine lv_iadd hx hb dX10_looksAt_54 ?_
    refine lv_iload hx hb dX10_looksAt_55 (lv_at hl 5 rfl) ?_
    refine lv_iadd hx hb dX10_looksAt_57 ?_
    refine lv_istore (lv' := [(7, .int ((q47 + (v3 * v6)) + v5)), (0, .ref v0), (1, .int v1), (2, .int v2), (3, .int v3), (4, .int v4), (5, .int v5), (6, .int v6)]) hx hb dX10_looksAt_58 hl (by decide) rfl (fun ls hl => ?_)
    refine lv_aload_n hx hb dX10_looksAt_60 rfl (lv_at hl 1 rfl) ?_
    replace h := o_b h; obtain ⟨x61, h61, h⟩ := h
    refine m_get (C := RX10) (T := TX10) (N := 25) (ci := 10) hx hb hts qi_X10_looksAt_X10 hown hK.1 hM 18 (ldR_F h61) rfl (by decide) (hts _ q_X10_looksAt_1) (fun _ h9 => h9) dX10_looksAt_61 ?_
    refine lv_bipush (v := (91 : Int32)) hx hb dX10_looksAt_64 (by decide) ?_
    refine lv_iload_n hx hb dX10_looksAt_66 rfl (lv_at hl 2 rfl) ?_
    refine lv_imul hx hb dX10_looksAt_67 ?_
    refine lv_iload hx hb dX10_looksAt_68 (lv_at hl 0 rfl) ?_
    refine lv_iadd hx hb dX10_looksAt_70 ?_
    refine lv_aload_n hx hb dX10_looksAt_71 rfl (lv_at hl 1 rfl) ?_
    replace h := o_b h; obtain ⟨x72, h72, h⟩ := h
    refine m_get (C := RX10) (T := TX10) (N := 25) (ci := 10) hx hb hts qi_X10_looksAt_X10 hown hK.1 hM 15 (ldR_F h72) rfl (by decide) (hts _ q_X10_looksAt_2) (fun _ h9 => h9) dX10_looksAt_72 ?_
    refine lv_iload_n hx hb dX10_looksAt_75 rfl (lv_at hl 2 rfl) ?_
    replace h := o_b h; obtain ⟨x76, h76, h⟩ := h
    refine m_iald hx hb hK.1 hM hS rfl h76 dX10_looksAt_76 ?_
    refine lv_iconst (v := (4 : Int32)) hx hb dX10_looksAt_77 (by decide) ?_
    refine lv_icmp_ge (tgt := 98) hx hb dX10_looksAt_78 (by decide) (fun c78 => ?_) (fun c78 => ?_)
    · replace h := o_t c78 h
      refine lv_aload_n hx hb dX10_looksAt_98 rfl (lv_at hl 1 rfl) ?_
      refine lv_iload_n hx hb dX10_looksAt_99 rfl (lv_at hl 2 rfl) ?_
      refine lv_iload_n hx hb dX10_looksAt_100 rfl (lv_at hl 3 rfl) ?_
      refine lv_iload hx hb dX10_looksAt_101 (lv_at hl 7 rfl) ?_
      refine lv_iload hx hb dX10_looksAt_103 (lv_at hl 0 rfl) ?_
      replace h := o_b h; obtain ⟨_, k105, h⟩ := h
      replace h := o_b h; obtain ⟨q105, h105, h⟩ := h
      refine m_call (va_runV (As := [.int v1, .int v2, .int v6, .int ((q47 + (v3 * v6)) + v5)]) (rest := [.int (((91 : Int32) * v1) + ((q47 + (v3 * v6)) + v5)), .ref x61]) ⟨hx, hb, hml, hown, hts⟩ (c_X10_madeWord l D b0 sz h105) (cwV 4 hts gX10_looksAt_X10_madeWord rfl rfl rfl (by decide +kernel) ⟨Nat.le_of_ble_eq_true rfl, Nat.le_of_ble_eq_true rfl⟩) ⟨PW.blind, m_recv (ci := 10) rfl hK hM k105, (fun U hU hW => ⟨rfl, PW.call hK hM hS hU hW⟩)⟩ rfl rfl hl.1 rfl (lv_room (Nat.le_of_ble_eq_true rfl)) dX10_looksAt_105 ⟨(Nat.le_refl _), (Nat.le_refl _)⟩) hS (fun H locs hM hS => ?_)
      exact w_X10_looksAt_108 C0 hk2 hk29 ih _ _ _ _ _ _ _ _ _ _ _ h _ _ _ hM hS (lv_sub hl [1, 2, 3, 4, 5, 6, 7] rfl)
    replace h := o_f c78 h
    refine lv_iload_n hx hb dX10_looksAt_81 rfl (lv_at hl 3 rfl) ?_
    refine lv_iload hx hb dX10_looksAt_82 (lv_at hl 7 rfl) ?_
    refine lv_iload hx hb dX10_looksAt_84 (lv_at hl 6 rfl) ?_
    refine lv_aload_n hx hb dX10_looksAt_86 rfl (lv_at hl 1 rfl) ?_
    replace h := o_b h; obtain ⟨x87, h87, h⟩ := h
    refine m_get (C := RX10) (T := TX10) (N := 25) (ci := 10) hx hb hts qi_X10_looksAt_X10 hown hK.1 hM 15 (ldR_F h87) rfl (by decide) (hts _ q_X10_looksAt_2) (fun _ h9 => h9) dX10_looksAt_87 ?_
    refine lv_iload_n hx hb dX10_looksAt_90 rfl (lv_at hl 2 rfl) ?_
    replace h := o_b h; obtain ⟨x91, h91, h⟩ := h
    refine m_iald hx hb hK.1 hM hS rfl h91 dX10_looksAt_91 ?_
    replace h := o_b h; obtain ⟨q92, h92, h⟩ := h
    refine m_call (va_runS (As := [.int v2, .int v6, .int v5, .int x91]) (rest := [.int (((91 : Int32) * v1) + ((q47 + (v3 * v6)) + v5)), .ref x61]) ⟨hx, hb, hml, hown, hts⟩ (c_X10_factWord l D b0 sz h92) (va_cwS 4 hts gX10_looksAt_X10_factWord rfl rfl rfl (by decide +kernel) ⟨Nat.le_of_ble_eq_true rfl, Nat.le_of_ble_eq_true rfl⟩) ⟨PW.blind, (fun U hU hW => ⟨rfl, PW.call hK hM hS hU hW⟩)⟩ rfl rfl hl.1 rfl (lv_room (Nat.le_of_ble_eq_true rfl)) dX10_looksAt_92 ⟨(Nat.le_refl _), (Nat.le_refl _)⟩) hS (fun H locs hM hS => ?_)
    refine lv_goto (tgt := 108) hx hb dX10_looksAt_95 (by decide) ?_
    exact w_X10_looksAt_108 C0 hk2 hk29 ih _ _ _ _ _ _ _ _ _ _ _ h _ _ _ hM hS (lv_sub hl [1, 2, 3, 4, 5, 6, 7] rfl)
set_option maxHeartbeats 4000000 in
set_option maxRecDepth 100000 in
theorem w_X10_looksAt_29 (C0 : CX cX10_looksAt 8 none wsX10_looksAt RX10 p s m args meth c D b0) {k2 : Nat → Int32 → Int32 → mmF → Option (mmF)} {res : mmF} (hk2 : ∀ (v0 : Nat) (v1 : Int32) (v2 : Int32) (f : mmF), k2 v0 v1 v2 f = some res → ∀ (H : Heap) (locs : List Loc) (ls : Array Slot), MM vwCl D b0 f sz s H → mS b0 s H locs → lv_has ls 8 [(0, .ref v0), (1, .int v1), (2, .int v2)] → W p l e ({ frames := 3, cells := 0, slots := 0, locals := 72 } : Room) s m args below meth c H locs 0 0 (MQ below (QW D b0 none res sz) args s 0 0 (fun q => b0 ≤ q)) (F0 m 2 ls [])) : ∀ (n : Nat), ∀ (v0 : Nat) (v1 : Int32) (v2 : Int32) (v3 : Int32) (v4 : Int32) (v5 : Int32) (f : mmF), f_X10_looksAt_29 k2 n v0 v1 v2 v3 v4 v5 f = some res → ∀ (H : Heap) (locs : List Loc) (ls : Array Slot), MM vwCl D b0 f sz s H → mS b0 s H locs → lv_has ls 8 [(0, .ref v0), (1, .int v1), (2, .int v2), (3, .int v3), (4, .int v4), (5, .int v5)] → W p l e ({ frames := 3, cells := 0, slots := 0, locals := 72 } : Room) s m args below meth c H locs 0 0 (MQ below (QW D b0 none res sz) args s 0 0 (fun q => b0 ≤ q)) (F0 m 29 ls []) := by
  obtain ⟨hx, hb, hr, hml, hown, hts, hlocks, hK⟩ := id C0
  intro n
  induction n with
  | zero =>
    intro v0 v1 v2 v3 v4 v5 f h
    have h : (none : Option (mmF)) = some res := h
    cases h
  | succ n ih =>
    intro v0 v1 v2 v3 v4 v5 f h H locs ls hM hS hl
    rw [f_X10_looksAt_29] at h
    refine lv_iload hx hb dX10_looksAt_29 (lv_at hl 5 rfl) ?_
    refine lv_iload_n hx hb dX10_looksAt_31 rfl (lv_at hl 3 rfl) ?_
    refine lv_icmp_ge (tgt := 121) hx hb dX10_looksAt_32 (by decide) (fun c32 => ?_) (fun c32 => ?_)
    · replace h := o_t c32 h
      refine lv_iinc (v := (v2 + (1 : Int32))) (lv' := [(2, .int (v2 + (1 : Int32))), (0, .ref v0), (1, .int v1), (3, .int v3), (4, .int v4), (5, .int v5)]) hx hb dX10_looksAt_121 hl (k := 2) rfl rfl (by decide) rfl (fun ls hl => ?_)
      refine lv_goto (tgt := 2) hx hb dX10_looksAt_124 (by decide) ?_
      exact hk2 _ _ _ _ h _ _ _ hM hS (lv_sub hl [1, 2, 0] rfl)
    replace h := o_f c32 h
    refine lv_iload hx hb dX10_looksAt_35 (lv_at hl 4 rfl) ?_
    refine lv_iconst (v := (1 : Int32)) hx hb dX10_looksAt_37 (by decide) ?_
    refine lv_isub hx hb dX10_looksAt_38 ?_
    refine lv_istore (lv' := [(6, .int (v4 - (1 : Int32))), (0, .ref v0), (1, .int v1), (2, .int v2), (3, .int v3), (4, .int v4), (5, .int v5)]) hx hb dX10_looksAt_39 hl (by decide) rfl (fun ls hl => ?_)
    exact w_X10_looksAt_41 C0 hk2 ih FU _ _ _ _ _ _ _ _ h _ _ _ hM hS (lv_sub hl [1, 2, 3, 4, 5, 6, 0] rfl)
set_option maxHeartbeats 4000000 in
set_option maxRecDepth 100000 in
theorem w_X10_looksAt_24 (C0 : CX cX10_looksAt 8 none wsX10_looksAt RX10 p s m args meth c D b0) {k2 : Nat → Int32 → Int32 → mmF → Option (mmF)} {res : mmF} (hk2 : ∀ (v0 : Nat) (v1 : Int32) (v2 : Int32) (f : mmF), k2 v0 v1 v2 f = some res → ∀ (H : Heap) (locs : List Loc) (ls : Array Slot), MM vwCl D b0 f sz s H → mS b0 s H locs → lv_has ls 8 [(0, .ref v0), (1, .int v1), (2, .int v2)] → W p l e ({ frames := 3, cells := 0, slots := 0, locals := 72 } : Room) s m args below meth c H locs 0 0 (MQ below (QW D b0 none res sz) args s 0 0 (fun q => b0 ≤ q)) (F0 m 2 ls [])) : ∀ (v0 : Nat) (v1 : Int32) (v2 : Int32) (v3 : Int32) (t0 : Int32) (f : mmF), f_X10_looksAt_24 k2 v0 v1 v2 v3 t0 f = some res → ∀ (H : Heap) (locs : List Loc) (ls : Array Slot), MM vwCl D b0 f sz s H → mS b0 s H locs → lv_has ls 8 [(0, .ref v0), (1, .int v1), (2, .int v2), (3, .int v3)] → W p l e ({ frames := 3, cells := 0, slots := 0, locals := 72 } : Room) s m args below meth c H locs 0 0 (MQ below (QW D b0 none res sz) args s 0 0 (fun q => b0 ≤ q)) (F0 m 24 ls [.int t0]) := by
  obtain ⟨hx, hb, hr, hml, hown, hts, hlocks, hK⟩ := id C0
  intro v0 v1 v2 v3 t0 f h H locs ls hM hS hl
  unfold f_X10_looksAt_24 at h
  refine lv_istore (lv' := [(4, .int t0), (0, .ref v0), (1, .int v1), (2, .int v2), (3, .int v3)]) hx hb dX10_looksAt_24 hl (by decide) rfl (fun ls hl => ?_)
  refine lv_iconst (v := (0 : Int32)) hx hb dX10_looksAt_26 (by decide) ?_
  refine lv_istore (lv' := [(5, .int (0 : Int32)), (4, .int t0), (0, .ref v0), (1, .int v1), (2, .int v2), (3, .int v3)]) hx hb dX10_looksAt_27 hl (by decide) rfl (fun ls hl => ?_)
  exact w_X10_looksAt_29 C0 hk2 FU _ _ _ _ _ _ _ h _ _ _ hM hS (lv_sub hl [2, 3, 4, 5, 1, 0] rfl)
set_option maxHeartbeats 4000000 in
set_option maxRecDepth 100000 in
theorem w_X10_looksAt_2 (C0 : CX cX10_looksAt 8 none wsX10_looksAt RX10 p s m args meth c D b0) {res : mmF} : ∀ (n : Nat), ∀ (v0 : Nat) (v1 : Int32) (v2 : Int32) (f : mmF), f_X10_looksAt_2 n v0 v1 v2 f = some res → ∀ (H : Heap) (locs : List Loc) (ls : Array Slot), MM vwCl D b0 f sz s H → mS b0 s H locs → lv_has ls 8 [(0, .ref v0), (1, .int v1), (2, .int v2)] → W p l e ({ frames := 3, cells := 0, slots := 0, locals := 72 } : Room) s m args below meth c H locs 0 0 (MQ below (QW D b0 none res sz) args s 0 0 (fun q => b0 ≤ q)) (F0 m 2 ls []) := by
  obtain ⟨hx, hb, hr, hml, hown, hts, hlocks, hK⟩ := id C0
  intro n
  induction n with
  | zero =>
    intro v0 v1 v2 f h
    have h : (none : Option (mmF)) = some res := h
    cases h
  | succ n ih =>
    intro v0 v1 v2 f h H locs ls hM hS hl
    rw [f_X10_looksAt_2] at h
    refine lv_iload_n hx hb dX10_looksAt_2 rfl (lv_at hl 2 rfl) ?_
    refine lv_iconst (v := (4 : Int32)) hx hb dX10_looksAt_3 (by decide) ?_
    refine lv_icmp_ge (tgt := 127) hx hb dX10_looksAt_4 (by decide) (fun c4 => ?_) (fun c4 => ?_)
    · replace h := o_t c4 h
      replace h := Option.some.inj h; subst h
      exact W.vret hx hb hr (fun t ht hW => ⟨rfl, by rw [ht]; exact hM.moved hW.alike, hS.F ht⟩) hS.2.2 dX10_looksAt_127
    replace h := o_f c4 h
    refine lv_iload_n hx hb dX10_looksAt_7 rfl (lv_at hl 2 rfl) ?_
    replace h := o_b h; obtain ⟨q8, h8, h⟩ := h
    refine m_call (va_runS (As := [.int v2]) (rest := []) ⟨hx, hb, hml, hown, hts⟩ (c_X10_wordsOf l D b0 sz h8) (va_cwS 1 hts gX10_looksAt_X10_wordsOf rfl rfl rfl (by decide +kernel) ⟨Nat.le_of_ble_eq_true rfl, Nat.le_of_ble_eq_true rfl⟩) ⟨PW.blind, (fun U hU hW => ⟨rfl, PW.call hK hM hS hU hW⟩)⟩ rfl rfl hl.1 rfl (lv_room (Nat.le_of_ble_eq_true rfl)) dX10_looksAt_8 ⟨(Nat.le_refl _), (Nat.le_refl _)⟩) hS (fun H locs hM hS => ?_)
    refine lv_istore_n (lv' := [(3, .int q8), (0, .ref v0), (1, .int v1), (2, .int v2)]) hx hb dX10_looksAt_11 rfl hl (by decide) rfl (fun ls hl => ?_)
    refine lv_iload_n hx hb dX10_looksAt_12 rfl (lv_at hl 3 rfl) ?_
    refine lv_iconst (v := (3 : Int32)) hx hb dX10_looksAt_13 (by decide) ?_
    refine lv_icmp_ge (tgt := 23) hx hb dX10_looksAt_14 (by decide) (fun c14 => ?_) (fun c14 => ?_)
    · replace h := o_t c14 h
      refine lv_iconst (v := (3 : Int32)) hx hb dX10_looksAt_23 (by decide) ?_
      exact w_X10_looksAt_24 C0 ih _ _ _ _ _ _ h _ _ _ hM hS (lv_sub hl [1, 2, 3, 0] rfl)
    replace h := o_f c14 h
    refine lv_iload_n hx hb dX10_looksAt_17 rfl (lv_at hl 3 rfl) ?_
    refine lv_iconst (v := (1 : Int32)) hx hb dX10_looksAt_18 (by decide) ?_
    refine lv_iadd hx hb dX10_looksAt_19 ?_
    refine lv_goto (tgt := 24) hx hb dX10_looksAt_20 (by decide) ?_
    exact w_X10_looksAt_24 C0 ih _ _ _ _ _ _ h _ _ _ hM hS (lv_sub hl [1, 2, 3, 0] rfl)
set_option maxHeartbeats 4000000 in
set_option maxRecDepth 100000 in
theorem w_X10_looksAt (C0 : CX cX10_looksAt 8 none wsX10_looksAt RX10 p s m args meth c D b0) {v0 : Nat} {v1 : Int32} {res : mmF} (h : f_X10_looksAt v0 v1 f = some res) : ∀ (H : Heap) (locs : List Loc) (ls : Array Slot), MM vwCl D b0 f sz s H → mS b0 s H locs → lv_has ls 8 [(0, .ref v0), (1, .int v1)] → W p l e ({ frames := 3, cells := 0, slots := 0, locals := 72 } : Room) s m args below meth c H locs 0 0 (MQ below (QW D b0 none res sz) args s 0 0 (fun q => b0 ≤ q)) (F0 m 0 ls []) := by
  obtain ⟨hx, hb, hr, hml, hown, hts, hlocks, hK⟩ := id C0
  intro H locs ls hM hS hl
  unfold f_X10_looksAt at h
  refine lv_iconst (v := (0 : Int32)) hx hb dX10_looksAt_0 (by decide) ?_
  refine lv_istore_n (lv' := [(2, .int (0 : Int32)), (0, .ref v0), (1, .int v1)]) hx hb dX10_looksAt_1 rfl hl (by decide) rfl (fun ls hl => ?_)
  exact w_X10_looksAt_2 C0 FU _ _ _ _ h _ _ _ hM hS (lv_sub hl [1, 2, 0] rfl)
set_option maxHeartbeats 4000000 in
set_option maxRecDepth 100000 in
theorem c_X10_looksAt (l : Launch) (D : mmD) (b0 sz : Nat) {v0 : Nat} {v1 : Int32} {f : mmF} {res : mmF} (h : f_X10_looksAt v0 v1 f = some res) : Met l yX10_looksAt wsX10_looksAt ({ frames := 3, cells := 0, slots := 0, locals := 72 } : Room) (va_Pc [.ref v0, .int v1] (PW D b0 f sz)) (QW D b0 none res sz) 0 0 (fun q => b0 ≤ q) := by
  refine Met.ofW (cc := cX10_looksAt) (maxL := 8) (ret := none) (by decide) rfl ?_
  intro p e s m args below meth c s₁ B hml hv
  obtain ⟨rfl, hM, hK⟩ := hv
  have hl := lv_entry ([.ref v0, .int v1]) (n := 8) (Nat.le_of_ble_eq_true rfl)
  rw [lg_entry_eq]
  generalize (lg_sl ([.ref v0, .int v1]) ++ List.replicate (8 - (lg_sl ([.ref v0, .int v1])).length) Slot.unset).toArray = ls at hl ⊢
  have hl : lv_has ls 8 [(0, .ref v0), (1, .int v1)] := hl
  exact w_X10_looksAt ⟨B.exec, B.bytes, B.returns, hml, findClass_of_methodNamed B.named, atoms_spec (ws := wsX10_looksAt) B.pre, B.notSynchronized, hK⟩ h s.heap [] ls hM va_S.rf hl
end S_X10_looksAt
/-! X10_part -/
set_option maxRecDepth 20000 in
theorem qi_X10_part_X10 : ∀ w ∈ u_ws RX10 TX10 25, w ∈ wsX10_part := by decide +kernel
set_option maxRecDepth 20000 in
theorem q_X10_part_1 : Cond.fieldLink RX10 172 "StageTruthsModel" "parts" "I" ∈ wsX10_part := by decide +kernel
set_option maxRecDepth 20000 in
theorem q_X10_part_2 : Cond.fieldLink RX10 38 "StageTruthsModel" "op" "[I" ∈ wsX10_part := by decide +kernel
set_option maxRecDepth 20000 in
theorem q_X10_part_3 : Cond.fieldLink RX10 41 "StageTruthsModel" "left" "[I" ∈ wsX10_part := by decide +kernel
set_option maxRecDepth 20000 in
theorem q_X10_part_4 : Cond.fieldLink RX10 44 "StageTruthsModel" "right" "[I" ∈ wsX10_part := by decide +kernel
noncomputable def f_X10_part_48 (k3 : Nat → Int32 → Int32 → Int32 → Int32 → mmF → Option (Int32 × mmF))  (v0 : Nat) (v1 : Int32) (v2 : Int32) (v3 : Int32) (v4 : Int32) (f : mmF) : Option (Int32 × mmF) :=
  k3 v0 v1 v2 v3 (v4 + (1 : Int32)) f
noncomputable def f_X10_part_3   : Nat → Nat → Int32 → Int32 → Int32 → Int32 → mmF → Option (Int32 × mmF)
  | 0, _, _, _, _, _, _ => none
  | n + 1, v0, v1, v2, v3, v4, f =>
    (ldI f v0 10 19).bind fun x6 =>
    if x6 ≤ v4 then
    ((ldR f v0 10 15).bind fun x55 =>
    (ldI f v0 10 19).bind fun x59 =>
    (stA 0 f x55 x59 v1).bind fun f63 =>
    (ldR f63 v0 10 16).bind fun x65 =>
    (ldI f63 v0 10 19).bind fun x69 =>
    (stA 0 f63 x65 x69 v2).bind fun f73 =>
    (ldR f73 v0 10 17).bind fun x75 =>
    (ldI f73 v0 10 19).bind fun x79 =>
    (stA 0 f73 x75 x79 v3).bind fun f83 =>
    (ldI f83 v0 10 19).bind fun x86 =>
    (ckO f83 v0 10).bind fun _ =>
    (f_X10_looksAt v0 x86 f83).bind fun q89 =>
    (ldI q89 v0 10 19).bind fun x94 =>
    (stF q89 v0 10 19 (.int (x94 + (1 : Int32)))).bind fun f99 =>
    (ldI f99 v0 10 19).bind fun x103 =>
    some ((x103 - (1 : Int32)), f99))
    else
    (ldR f v0 10 15).bind fun x13 =>
    (ldA 0 f x13 v4).bind fun x18 =>
    if x18 = v1 then
    ((ldR f v0 10 16).bind fun x24 =>
    (ldA 0 f x24 v4).bind fun x29 =>
    if x29 = v2 then
    ((ldR f v0 10 17).bind fun x35 =>
    (ldA 0 f x35 v4).bind fun x40 =>
    if x40 = v3 then
    (some (v4, f))
    else
    f_X10_part_48 (fun a0 a1 a2 a3 a4 a5 => f_X10_part_3 n a0 a1 a2 a3 a4 a5) v0 v1 v2 v3 v4 f)
    else
    f_X10_part_48 (fun a0 a1 a2 a3 a4 a5 => f_X10_part_3 n a0 a1 a2 a3 a4 a5) v0 v1 v2 v3 v4 f)
    else
    f_X10_part_48 (fun a0 a1 a2 a3 a4 a5 => f_X10_part_3 n a0 a1 a2 a3 a4 a5) v0 v1 v2 v3 v4 f
noncomputable def f_X10_part (v0 : Nat) (v1 : Int32) (v2 : Int32) (v3 : Int32) (f : mmF) : Option (Int32 × mmF) :=
  f_X10_part_3 FU v0 v1 v2 v3 (0 : Int32) f
section S_X10_part
variable {p : Program} {l : Launch} {e : Env} {s : State} {m : MethodId} {args : Array Value} {below : List Frame} {meth : Method} {c : Code} {D : mmD} {b0 sz : Nat} {f : mmF}
set_option maxHeartbeats 4000000 in
set_option maxRecDepth 100000 in
theorem w_X10_part_48 (C0 : CX cX10_part 5 (some .int) wsX10_part RX10 p s m args meth c D b0) {k3 : Nat → Int32 → Int32 → Int32 → Int32 → mmF → Option (Int32 × mmF)} {res : Int32 × mmF} (hk3 : ∀ (v0 : Nat) (v1 : Int32) (v2 : Int32) (v3 : Int32) (v4 : Int32) (f : mmF), k3 v0 v1 v2 v3 v4 f = some res → ∀ (H : Heap) (locs : List Loc) (ls : Array Slot), MM vwCl D b0 f sz s H → mS b0 s H locs → lv_has ls 5 [(0, .ref v0), (1, .int v1), (2, .int v2), (3, .int v3), (4, .int v4)] → W p l e ({ frames := 4, cells := 0, slots := 0, locals := 99 } : Room) s m args below meth c H locs 0 0 (MQ below (QW D b0 (some (.int res.1)) res.2 sz) args s 0 0 (fun q => b0 ≤ q)) (F0 m 3 ls [])) : ∀ (v0 : Nat) (v1 : Int32) (v2 : Int32) (v3 : Int32) (v4 : Int32) (f : mmF), f_X10_part_48 k3 v0 v1 v2 v3 v4 f = some res → ∀ (H : Heap) (locs : List Loc) (ls : Array Slot), MM vwCl D b0 f sz s H → mS b0 s H locs → lv_has ls 5 [(0, .ref v0), (1, .int v1), (2, .int v2), (3, .int v3), (4, .int v4)] → W p l e ({ frames := 4, cells := 0, slots := 0, locals := 99 } : Room) s m args below meth c H locs 0 0 (MQ below (QW D b0 (some (.int res.1)) res.2 sz) args s 0 0 (fun q => b0 ≤ q)) (F0 m 48 ls []) := by
  obtain ⟨hx, hb, hr, hml, hown, hts, hlocks, hK⟩ := id C0
  intro v0 v1 v2 v3 v4 f h H locs ls hM hS hl
  unfold f_X10_part_48 at h
  refine lv_iinc (v := (v4 + (1 : Int32))) (lv' := [(4, .int (v4 + (1 : Int32))), (0, .ref v0), (1, .int v1), (2, .int v2), (3, .int v3)]) hx hb dX10_part_48 hl (k := 4) rfl rfl (by decide) rfl (fun ls hl => ?_)
  refine lv_goto (tgt := 3) hx hb dX10_part_51 (by decide) ?_
  exact hk3 _ _ _ _ _ _ h _ _ _ hM hS (lv_sub hl [1, 2, 3, 4, 0] rfl)
set_option maxHeartbeats 4000000 in
set_option maxRecDepth 100000 in
theorem w_X10_part_3 (C0 : CX cX10_part 5 (some .int) wsX10_part RX10 p s m args meth c D b0) {res : Int32 × mmF} : ∀ (n : Nat), ∀ (v0 : Nat) (v1 : Int32) (v2 : Int32) (v3 : Int32) (v4 : Int32) (f : mmF), f_X10_part_3 n v0 v1 v2 v3 v4 f = some res → ∀ (H : Heap) (locs : List Loc) (ls : Array Slot), MM vwCl D b0 f sz s H → mS b0 s H locs → lv_has ls 5 [(0, .ref v0), (1, .int v1), (2, .int v2), (3, .int v3), (4, .int v4)] → W p l e ({ frames := 4, cells := 0, slots := 0, locals := 99 } : Room) s m args below meth c H locs 0 0 (MQ below (QW D b0 (some (.int res.1)) res.2 sz) args s 0 0 (fun q => b0 ≤ q)) (F0 m 3 ls []) := by
  obtain ⟨hx, hb, hr, hml, hown, hts, hlocks, hK⟩ := id C0
  intro n
  induction n with
  | zero =>
    intro v0 v1 v2 v3 v4 f h
    have h : (none : Option (Int32 × mmF)) = some res := h
    cases h
  | succ n ih =>
    intro v0 v1 v2 v3 v4 f h H locs ls hM hS hl
    rw [f_X10_part_3] at h
    refine lv_iload hx hb dX10_part_3 (lv_at hl 4 rfl) ?_
    refine lv_aload_n hx hb dX10_part_5 rfl (lv_at hl 0 rfl) ?_
    replace h := o_b h; obtain ⟨x6, h6, h⟩ := h
    refine m_get (C := RX10) (T := TX10) (N := 25) (ci := 10) hx hb hts qi_X10_part_X10 hown hK.1 hM 19 (ldI_F h6) rfl (by decide) (hts _ q_X10_part_1) (fun _ h9 => h9) dX10_part_6 ?_
    refine lv_icmp_ge (tgt := 54) hx hb dX10_part_9 (by decide) (fun c9 => ?_) (fun c9 => ?_)
    · replace h := o_t c9 h
      refine lv_aload_n hx hb dX10_part_54 rfl (lv_at hl 0 rfl) ?_
      replace h := o_b h; obtain ⟨x55, h55, h⟩ := h
      refine m_get (C := RX10) (T := TX10) (N := 25) (ci := 10) hx hb hts qi_X10_part_X10 hown hK.1 hM 15 (ldR_F h55) rfl (by decide) (hts _ q_X10_part_2) (fun _ h9 => h9) dX10_part_55 ?_
      refine lv_aload_n hx hb dX10_part_58 rfl (lv_at hl 0 rfl) ?_
      replace h := o_b h; obtain ⟨x59, h59, h⟩ := h
      refine m_get (C := RX10) (T := TX10) (N := 25) (ci := 10) hx hb hts qi_X10_part_X10 hown hK.1 hM 19 (ldI_F h59) rfl (by decide) (hts _ q_X10_part_1) (fun _ h9 => h9) dX10_part_59 ?_
      refine lv_iload_n hx hb dX10_part_62 rfl (lv_at hl 1 rfl) ?_
      replace h := o_b h; obtain ⟨f63, h63, h⟩ := h
      refine m_iast hx hb hK.1 hM hS rfl h63 dX10_part_63 (fun H locs hM hS => ?_)
      refine lv_aload_n hx hb dX10_part_64 rfl (lv_at hl 0 rfl) ?_
      replace h := o_b h; obtain ⟨x65, h65, h⟩ := h
      refine m_get (C := RX10) (T := TX10) (N := 25) (ci := 10) hx hb hts qi_X10_part_X10 hown hK.1 hM 16 (ldR_F h65) rfl (by decide) (hts _ q_X10_part_3) (fun _ h9 => h9) dX10_part_65 ?_
      refine lv_aload_n hx hb dX10_part_68 rfl (lv_at hl 0 rfl) ?_
      replace h := o_b h; obtain ⟨x69, h69, h⟩ := h
      refine m_get (C := RX10) (T := TX10) (N := 25) (ci := 10) hx hb hts qi_X10_part_X10 hown hK.1 hM 19 (ldI_F h69) rfl (by decide) (hts _ q_X10_part_1) (fun _ h9 => h9) dX10_part_69 ?_
      refine lv_iload_n hx hb dX10_part_72 rfl (lv_at hl 2 rfl) ?_
      replace h := o_b h; obtain ⟨f73, h73, h⟩ := h
      refine m_iast hx hb hK.1 hM hS rfl h73 dX10_part_73 (fun H locs hM hS => ?_)
      refine lv_aload_n hx hb dX10_part_74 rfl (lv_at hl 0 rfl) ?_
      replace h := o_b h; obtain ⟨x75, h75, h⟩ := h
      refine m_get (C := RX10) (T := TX10) (N := 25) (ci := 10) hx hb hts qi_X10_part_X10 hown hK.1 hM 17 (ldR_F h75) rfl (by decide) (hts _ q_X10_part_4) (fun _ h9 => h9) dX10_part_75 ?_
      refine lv_aload_n hx hb dX10_part_78 rfl (lv_at hl 0 rfl) ?_
      replace h := o_b h; obtain ⟨x79, h79, h⟩ := h
      refine m_get (C := RX10) (T := TX10) (N := 25) (ci := 10) hx hb hts qi_X10_part_X10 hown hK.1 hM 19 (ldI_F h79) rfl (by decide) (hts _ q_X10_part_1) (fun _ h9 => h9) dX10_part_79 ?_
      refine lv_iload_n hx hb dX10_part_82 rfl (lv_at hl 3 rfl) ?_
      replace h := o_b h; obtain ⟨f83, h83, h⟩ := h
      refine m_iast hx hb hK.1 hM hS rfl h83 dX10_part_83 (fun H locs hM hS => ?_)
      refine lv_aload_n hx hb dX10_part_84 rfl (lv_at hl 0 rfl) ?_
      refine lv_aload_n hx hb dX10_part_85 rfl (lv_at hl 0 rfl) ?_
      replace h := o_b h; obtain ⟨x86, h86, h⟩ := h
      refine m_get (C := RX10) (T := TX10) (N := 25) (ci := 10) hx hb hts qi_X10_part_X10 hown hK.1 hM 19 (ldI_F h86) rfl (by decide) (hts _ q_X10_part_1) (fun _ h9 => h9) dX10_part_86 ?_
      replace h := o_b h; obtain ⟨_, k89, h⟩ := h
      replace h := o_b h; obtain ⟨q89, h89, h⟩ := h
      refine m_call (va_runV (As := [.int x86]) (rest := []) ⟨hx, hb, hml, hown, hts⟩ (c_X10_looksAt l D b0 sz h89) (cwV 1 hts gX10_part_X10_looksAt rfl rfl rfl (by decide +kernel) ⟨Nat.le_of_ble_eq_true rfl, Nat.le_of_ble_eq_true rfl⟩) ⟨PW.blind, m_recv (ci := 10) rfl hK hM k89, (fun U hU hW => ⟨rfl, PW.call hK hM hS hU hW⟩)⟩ rfl rfl hl.1 rfl (lv_room (Nat.le_of_ble_eq_true rfl)) dX10_part_89 ⟨(Nat.le_refl _), (Nat.le_refl _)⟩) hS (fun H locs hM hS => ?_)
      refine lv_aload_n hx hb dX10_part_92 rfl (lv_at hl 0 rfl) ?_
      refine lv_dup hx hb dX10_part_93 rfl ?_
      replace h := o_b h; obtain ⟨x94, h94, h⟩ := h
      refine m_get (C := RX10) (T := TX10) (N := 25) (ci := 10) hx hb hts qi_X10_part_X10 hown hK.1 hM 19 (ldI_F h94) rfl (by decide) (hts _ q_X10_part_1) (fun _ h9 => h9) dX10_part_94 ?_
      refine lv_iconst (v := (1 : Int32)) hx hb dX10_part_97 (by decide) ?_
      refine lv_iadd hx hb dX10_part_98 ?_
      replace h := o_b h; obtain ⟨f99, h99, h⟩ := h
      refine m_put (ty := .int) (C := RX10) (T := TX10) (N := 25) (ci := 10) hx hb hts qi_X10_part_X10 tyX10 tyX10_ok nmX10 hown hK.1 hM hS 19 h99 rfl (by decide) (hts _ q_X10_part_1) (fun _ h9 => h9) rfl (by decide +kernel) rfl rfl dX10_part_99 (fun H locs hM hS => ?_)
      refine lv_aload_n hx hb dX10_part_102 rfl (lv_at hl 0 rfl) ?_
      replace h := o_b h; obtain ⟨x103, h103, h⟩ := h
      refine m_get (C := RX10) (T := TX10) (N := 25) (ci := 10) hx hb hts qi_X10_part_X10 hown hK.1 hM 19 (ldI_F h103) rfl (by decide) (hts _ q_X10_part_1) (fun _ h9 => h9) dX10_part_103 ?_
      refine lv_iconst (v := (1 : Int32)) hx hb dX10_part_106 (by decide) ?_
      refine lv_isub hx hb dX10_part_107 ?_
      replace h := Option.some.inj h; subst h
      exact W.iret hx hb hr (fun t ht hW => ⟨rfl, by rw [ht]; exact hM.moved hW.alike, hS.F ht⟩) hS.2.2 dX10_part_108
    replace h := o_f c9 h
    refine lv_aload_n hx hb dX10_part_12 rfl (lv_at hl 0 rfl) ?_
    replace h := o_b h; obtain ⟨x13, h13, h⟩ := h
    refine m_get (C := RX10) (T := TX10) (N := 25) (ci := 10) hx hb hts qi_X10_part_X10 hown hK.1 hM 15 (ldR_F h13) rfl (by decide) (hts _ q_X10_part_2) (fun _ h9 => h9) dX10_part_13 ?_
    refine lv_iload hx hb dX10_part_16 (lv_at hl 4 rfl) ?_
    replace h := o_b h; obtain ⟨x18, h18, h⟩ := h
    refine m_iald hx hb hK.1 hM hS rfl h18 dX10_part_18 ?_
    refine lv_iload_n hx hb dX10_part_19 rfl (lv_at hl 1 rfl) ?_
    refine lv_icmp_ne (tgt := 48) hx hb dX10_part_20 (by decide) (fun c20 => ?_) (fun c20 => ?_)
    · replace h := o_f c20 h
      exact w_X10_part_48 C0 ih _ _ _ _ _ _ h _ _ _ hM hS (lv_sub hl [0, 1, 2, 3, 4] rfl)
    replace h := o_t c20 h
    refine lv_aload_n hx hb dX10_part_23 rfl (lv_at hl 0 rfl) ?_
    replace h := o_b h; obtain ⟨x24, h24, h⟩ := h
    refine m_get (C := RX10) (T := TX10) (N := 25) (ci := 10) hx hb hts qi_X10_part_X10 hown hK.1 hM 16 (ldR_F h24) rfl (by decide) (hts _ q_X10_part_3) (fun _ h9 => h9) dX10_part_24 ?_
    refine lv_iload hx hb dX10_part_27 (lv_at hl 4 rfl) ?_
    replace h := o_b h; obtain ⟨x29, h29, h⟩ := h
    refine m_iald hx hb hK.1 hM hS rfl h29 dX10_part_29 ?_
    refine lv_iload_n hx hb dX10_part_30 rfl (lv_at hl 2 rfl) ?_
    refine lv_icmp_ne (tgt := 48) hx hb dX10_part_31 (by decide) (fun c31 => ?_) (fun c31 => ?_)
    · replace h := o_f c31 h
      exact w_X10_part_48 C0 ih _ _ _ _ _ _ h _ _ _ hM hS (lv_sub hl [0, 1, 2, 3, 4] rfl)
    replace h := o_t c31 h
    refine lv_aload_n hx hb dX10_part_34 rfl (lv_at hl 0 rfl) ?_
    replace h := o_b h; obtain ⟨x35, h35, h⟩ := h
    refine m_get (C := RX10) (T := TX10) (N := 25) (ci := 10) hx hb hts qi_X10_part_X10 hown hK.1 hM 17 (ldR_F h35) rfl (by decide) (hts _ q_X10_part_4) (fun _ h9 => h9) dX10_part_35 ?_
    refine lv_iload hx hb dX10_part_38 (lv_at hl 4 rfl) ?_
    replace h := o_b h; obtain ⟨x40, h40, h⟩ := h
    refine m_iald hx hb hK.1 hM hS rfl h40 dX10_part_40 ?_
    refine lv_iload_n hx hb dX10_part_41 rfl (lv_at hl 3 rfl) ?_
    refine lv_icmp_ne (tgt := 48) hx hb dX10_part_42 (by decide) (fun c42 => ?_) (fun c42 => ?_)
    · replace h := o_f c42 h
      exact w_X10_part_48 C0 ih _ _ _ _ _ _ h _ _ _ hM hS (lv_sub hl [0, 1, 2, 3, 4] rfl)
    replace h := o_t c42 h
    refine lv_iload hx hb dX10_part_45 (lv_at hl 4 rfl) ?_
    replace h := Option.some.inj h; subst h
    exact W.iret hx hb hr (fun t ht hW => ⟨rfl, by rw [ht]; exact hM.moved hW.alike, hS.F ht⟩) hS.2.2 dX10_part_47
set_option maxHeartbeats 4000000 in
set_option maxRecDepth 100000 in
theorem w_X10_part (C0 : CX cX10_part 5 (some .int) wsX10_part RX10 p s m args meth c D b0) {v0 : Nat} {v1 : Int32} {v2 : Int32} {v3 : Int32} {res : Int32 × mmF} (h : f_X10_part v0 v1 v2 v3 f = some res) : ∀ (H : Heap) (locs : List Loc) (ls : Array Slot), MM vwCl D b0 f sz s H → mS b0 s H locs → lv_has ls 5 [(0, .ref v0), (1, .int v1), (2, .int v2), (3, .int v3)] → W p l e ({ frames := 4, cells := 0, slots := 0, locals := 99 } : Room) s m args below meth c H locs 0 0 (MQ below (QW D b0 (some (.int res.1)) res.2 sz) args s 0 0 (fun q => b0 ≤ q)) (F0 m 0 ls []) := by
  obtain ⟨hx, hb, hr, hml, hown, hts, hlocks, hK⟩ := id C0
  intro H locs ls hM hS hl
  unfold f_X10_part at h
  refine lv_iconst (v := (0 : Int32)) hx hb dX10_part_0 (by decide) ?_
  refine lv_istore (lv' := [(4, .int (0 : Int32)), (0, .ref v0), (1, .int v1), (2, .int v2), (3, .int v3)]) hx hb dX10_part_1 hl (by decide) rfl (fun ls hl => ?_)
  exact w_X10_part_3 C0 FU _ _ _ _ _ _ h _ _ _ hM hS (lv_sub hl [1, 2, 3, 4, 0] rfl)
set_option maxHeartbeats 4000000 in
set_option maxRecDepth 100000 in
theorem c_X10_part (l : Launch) (D : mmD) (b0 sz : Nat) {v0 : Nat} {v1 : Int32} {v2 : Int32} {v3 : Int32} {f : mmF} {res : Int32 × mmF} (h : f_X10_part v0 v1 v2 v3 f = some res) : Met l yX10_part wsX10_part ({ frames := 4, cells := 0, slots := 0, locals := 99 } : Room) (va_Pc [.ref v0, .int v1, .int v2, .int v3] (PW D b0 f sz)) (QW D b0 (some (.int res.1)) res.2 sz) 0 0 (fun q => b0 ≤ q) := by
  refine Met.ofW (cc := cX10_part) (maxL := 5) (ret := (some .int)) (by decide) rfl ?_
  intro p e s m args below meth c s₁ B hml hv
  obtain ⟨rfl, hM, hK⟩ := hv
  have hl := lv_entry ([.ref v0, .int v1, .int v2, .int v3]) (n := 5) (Nat.le_of_ble_eq_true rfl)
  rw [lg_entry_eq]
  generalize (lg_sl ([.ref v0, .int v1, .int v2, .int v3]) ++ List.replicate (5 - (lg_sl ([.ref v0, .int v1, .int v2, .int v3])).length) Slot.unset).toArray = ls at hl ⊢
  have hl : lv_has ls 5 [(0, .ref v0), (1, .int v1), (2, .int v2), (3, .int v3)] := hl
  exact w_X10_part ⟨B.exec, B.bytes, B.returns, hml, findClass_of_methodNamed B.named, atoms_spec (ws := wsX10_part) B.pre, B.notSynchronized, hK⟩ h s.heap [] ls hM va_S.rf hl
end S_X10_part
/-! X10_clears -/
set_option maxRecDepth 20000 in
theorem qi_X10_clears_X10 : ∀ w ∈ u_ws RX10 TX10 25, w ∈ wsX10_clears := by decide +kernel
set_option maxRecDepth 20000 in
theorem q_X10_clears_1 : Cond.fieldLink RX10 172 "StageTruthsModel" "parts" "I" ∈ wsX10_clears := by decide +kernel
noncomputable def f_X10_clears (v0 : Nat) (f : mmF) : Option (mmF) :=
  (stF f v0 10 19 (.int (0 : Int32))).bind fun f2 =>
  (ckO f2 v0 10).bind fun _ =>
  (f_X10_part v0 (4 : Int32) (0 : Int32) (0 : Int32) f2).bind fun q9 =>
  (ckO q9.2 v0 10).bind fun _ =>
  (f_X10_part v0 (5 : Int32) (0 : Int32) (0 : Int32) q9.2).bind fun q17 =>
  some (q17.2)
section S_X10_clears
variable {p : Program} {l : Launch} {e : Env} {s : State} {m : MethodId} {args : Array Value} {below : List Frame} {meth : Method} {c : Code} {D : mmD} {b0 sz : Nat} {f : mmF}
set_option maxHeartbeats 4000000 in
set_option maxRecDepth 100000 in
theorem w_X10_clears (C0 : CX cX10_clears 1 none wsX10_clears RX10 p s m args meth c D b0) {v0 : Nat} {res : mmF} (h : f_X10_clears v0 f = some res) : ∀ (H : Heap) (locs : List Loc) (ls : Array Slot), MM vwCl D b0 f sz s H → mS b0 s H locs → lv_has ls 1 [(0, .ref v0)] → W p l e ({ frames := 5, cells := 0, slots := 0, locals := 123 } : Room) s m args below meth c H locs 0 0 (MQ below (QW D b0 none res sz) args s 0 0 (fun q => b0 ≤ q)) (F0 m 0 ls []) := by
  obtain ⟨hx, hb, hr, hml, hown, hts, hlocks, hK⟩ := id C0
  intro H locs ls hM hS hl
  unfold f_X10_clears at h
  refine lv_aload_n hx hb dX10_clears_0 rfl (lv_at hl 0 rfl) ?_
  refine lv_iconst (v := (0 : Int32)) hx hb dX10_clears_1 (by decide) ?_
  replace h := o_b h; obtain ⟨f2, h2, h⟩ := h
  refine m_put (ty := .int) (C := RX10) (T := TX10) (N := 25) (ci := 10) hx hb hts qi_X10_clears_X10 tyX10 tyX10_ok nmX10 hown hK.1 hM hS 19 h2 rfl (by decide) (hts _ q_X10_clears_1) (fun _ h9 => h9) rfl (by decide +kernel) rfl rfl dX10_clears_2 (fun H locs hM hS => ?_)
  refine lv_aload_n hx hb dX10_clears_5 rfl (lv_at hl 0 rfl) ?_
  refine lv_iconst (v := (4 : Int32)) hx hb dX10_clears_6 (by decide) ?_
  refine lv_iconst (v := (0 : Int32)) hx hb dX10_clears_7 (by decide) ?_
  refine lv_iconst (v := (0 : Int32)) hx hb dX10_clears_8 (by decide) ?_
  replace h := o_b h; obtain ⟨_, k9, h⟩ := h
  replace h := o_b h; obtain ⟨q9, h9, h⟩ := h
  refine m_call (va_runV (As := [.int (4 : Int32), .int (0 : Int32), .int (0 : Int32)]) (rest := []) ⟨hx, hb, hml, hown, hts⟩ (c_X10_part l D b0 sz h9) (cwV 3 hts gX10_clears_X10_part rfl rfl rfl (by decide +kernel) ⟨Nat.le_of_ble_eq_true rfl, Nat.le_of_ble_eq_true rfl⟩) ⟨PW.blind, m_recv (ci := 10) rfl hK hM k9, (fun U hU hW => ⟨rfl, PW.call hK hM hS hU hW⟩)⟩ rfl rfl hl.1 rfl (lv_room (Nat.le_of_ble_eq_true rfl)) dX10_clears_9 ⟨(Nat.le_refl _), (Nat.le_refl _)⟩) hS (fun H locs hM hS => ?_)
  refine lv_pop hx hb dX10_clears_12 rfl ?_
  refine lv_aload_n hx hb dX10_clears_13 rfl (lv_at hl 0 rfl) ?_
  refine lv_iconst (v := (5 : Int32)) hx hb dX10_clears_14 (by decide) ?_
  refine lv_iconst (v := (0 : Int32)) hx hb dX10_clears_15 (by decide) ?_
  refine lv_iconst (v := (0 : Int32)) hx hb dX10_clears_16 (by decide) ?_
  replace h := o_b h; obtain ⟨_, k17, h⟩ := h
  replace h := o_b h; obtain ⟨q17, h17, h⟩ := h
  refine m_call (va_runV (As := [.int (5 : Int32), .int (0 : Int32), .int (0 : Int32)]) (rest := []) ⟨hx, hb, hml, hown, hts⟩ (c_X10_part l D b0 sz h17) (cwV 3 hts gX10_clears_X10_part rfl rfl rfl (by decide +kernel) ⟨Nat.le_of_ble_eq_true rfl, Nat.le_of_ble_eq_true rfl⟩) ⟨PW.blind, m_recv (ci := 10) rfl hK hM k17, (fun U hU hW => ⟨rfl, PW.call hK hM hS hU hW⟩)⟩ rfl rfl hl.1 rfl (lv_room (Nat.le_of_ble_eq_true rfl)) dX10_clears_17 ⟨(Nat.le_refl _), (Nat.le_refl _)⟩) hS (fun H locs hM hS => ?_)
  refine lv_pop hx hb dX10_clears_20 rfl ?_
  replace h := Option.some.inj h; subst h
  exact W.vret hx hb hr (fun t ht hW => ⟨rfl, by rw [ht]; exact hM.moved hW.alike, hS.F ht⟩) hS.2.2 dX10_clears_21
set_option maxHeartbeats 4000000 in
set_option maxRecDepth 100000 in
theorem c_X10_clears (l : Launch) (D : mmD) (b0 sz : Nat) {v0 : Nat} {f : mmF} {res : mmF} (h : f_X10_clears v0 f = some res) : Met l yX10_clears wsX10_clears ({ frames := 5, cells := 0, slots := 0, locals := 123 } : Room) (va_Pc [.ref v0] (PW D b0 f sz)) (QW D b0 none res sz) 0 0 (fun q => b0 ≤ q) := by
  refine Met.ofW (cc := cX10_clears) (maxL := 1) (ret := none) (by decide) rfl ?_
  intro p e s m args below meth c s₁ B hml hv
  obtain ⟨rfl, hM, hK⟩ := hv
  have hl := lv_entry ([.ref v0]) (n := 1) (Nat.le_of_ble_eq_true rfl)
  rw [lg_entry_eq]
  generalize (lg_sl ([.ref v0]) ++ List.replicate (1 - (lg_sl ([.ref v0])).length) Slot.unset).toArray = ls at hl ⊢
  have hl : lv_has ls 1 [(0, .ref v0)] := hl
  exact w_X10_clears ⟨B.exec, B.bytes, B.returns, hml, findClass_of_methodNamed B.named, atoms_spec (ws := wsX10_clears) B.pre, B.notSynchronized, hK⟩ h s.heap [] ls hM va_S.rf hl
end S_X10_clears
/-! X10_both -/
noncomputable def f_X10_both (v0 : Nat) (v1 : Int32) (v2 : Int32) (f : mmF) : Option (Int32 × mmF) :=
  if v1 = 0 then
  (some (v2, f))
  else
  if v1 = v2 then
  (some (v2, f))
  else
  if v2 = 0 then
  (some (v1, f))
  else
  if v1 = (1 : Int32) then
  (some ((1 : Int32), f))
  else
  if v2 = (1 : Int32) then
  (some ((1 : Int32), f))
  else
  (ckO f v0 10).bind fun _ =>
  (f_X10_part v0 (7 : Int32) v1 v2 f).bind fun q40 =>
  some (q40.1, q40.2)
section S_X10_both
variable {p : Program} {l : Launch} {e : Env} {s : State} {m : MethodId} {args : Array Value} {below : List Frame} {meth : Method} {c : Code} {D : mmD} {b0 sz : Nat} {f : mmF}
set_option maxHeartbeats 4000000 in
set_option maxRecDepth 100000 in
theorem w_X10_both (C0 : CX cX10_both 3 (some .int) wsX10_both RX10 p s m args meth c D b0) {v0 : Nat} {v1 : Int32} {v2 : Int32} {res : Int32 × mmF} (h : f_X10_both v0 v1 v2 f = some res) : ∀ (H : Heap) (locs : List Loc) (ls : Array Slot), MM vwCl D b0 f sz s H → mS b0 s H locs → lv_has ls 3 [(0, .ref v0), (1, .int v1), (2, .int v2)] → W p l e ({ frames := 5, cells := 0, slots := 0, locals := 123 } : Room) s m args below meth c H locs 0 0 (MQ below (QW D b0 (some (.int res.1)) res.2 sz) args s 0 0 (fun q => b0 ≤ q)) (F0 m 0 ls []) := by
  obtain ⟨hx, hb, hr, hml, hown, hts, hlocks, hK⟩ := id C0
  intro H locs ls hM hS hl
  unfold f_X10_both at h
  refine lv_iload_n hx hb dX10_both_0 rfl (lv_at hl 1 rfl) ?_
  refine lv_if_eq (tgt := 9) hx hb dX10_both_1 (by decide) (fun c1 => ?_) (fun c1 => ?_)
  · replace h := o_t c1 h
    refine lv_iload_n hx hb dX10_both_9 rfl (lv_at hl 2 rfl) ?_
    refine lv_goto (tgt := 43) hx hb dX10_both_10 (by decide) ?_
    replace h := Option.some.inj h; subst h
    exact W.iret hx hb hr (fun t ht hW => ⟨rfl, by rw [ht]; exact hM.moved hW.alike, hS.F ht⟩) hS.2.2 dX10_both_43
  replace h := o_f c1 h
  refine lv_iload_n hx hb dX10_both_4 rfl (lv_at hl 1 rfl) ?_
  refine lv_iload_n hx hb dX10_both_5 rfl (lv_at hl 2 rfl) ?_
  refine lv_icmp_ne (tgt := 13) hx hb dX10_both_6 (by decide) (fun c6 => ?_) (fun c6 => ?_)
  · replace h := o_f c6 h
    refine lv_iload_n hx hb dX10_both_13 rfl (lv_at hl 2 rfl) ?_
    refine lv_if_ne (tgt := 21) hx hb dX10_both_14 (by decide) (fun c14 => ?_) (fun c14 => ?_)
    · replace h := o_f c14 h
      refine lv_iload_n hx hb dX10_both_21 rfl (lv_at hl 1 rfl) ?_
      refine lv_iconst (v := (1 : Int32)) hx hb dX10_both_22 (by decide) ?_
      refine lv_icmp_eq (tgt := 31) hx hb dX10_both_23 (by decide) (fun c23 => ?_) (fun c23 => ?_)
      · replace h := o_t c23 h
        refine lv_iconst (v := (1 : Int32)) hx hb dX10_both_31 (by decide) ?_
        refine lv_goto (tgt := 43) hx hb dX10_both_32 (by decide) ?_
        replace h := Option.some.inj h; subst h
        exact W.iret hx hb hr (fun t ht hW => ⟨rfl, by rw [ht]; exact hM.moved hW.alike, hS.F ht⟩) hS.2.2 dX10_both_43
      replace h := o_f c23 h
      refine lv_iload_n hx hb dX10_both_26 rfl (lv_at hl 2 rfl) ?_
      refine lv_iconst (v := (1 : Int32)) hx hb dX10_both_27 (by decide) ?_
      refine lv_icmp_ne (tgt := 35) hx hb dX10_both_28 (by decide) (fun c28 => ?_) (fun c28 => ?_)
      · replace h := o_f c28 h
        refine lv_aload_n hx hb dX10_both_35 rfl (lv_at hl 0 rfl) ?_
        refine lv_bipush (v := (7 : Int32)) hx hb dX10_both_36 (by decide) ?_
        refine lv_iload_n hx hb dX10_both_38 rfl (lv_at hl 1 rfl) ?_
        refine lv_iload_n hx hb dX10_both_39 rfl (lv_at hl 2 rfl) ?_
        replace h := o_b h; obtain ⟨_, k40, h⟩ := h
        replace h := o_b h; obtain ⟨q40, h40, h⟩ := h
        refine m_call (va_runV (As := [.int (7 : Int32), .int v1, .int v2]) (rest := []) ⟨hx, hb, hml, hown, hts⟩ (c_X10_part l D b0 sz h40) (cwV 3 hts gX10_both_X10_part rfl rfl rfl (by decide +kernel) ⟨Nat.le_of_ble_eq_true rfl, Nat.le_of_ble_eq_true rfl⟩) ⟨PW.blind, m_recv (ci := 10) rfl hK hM k40, (fun U hU hW => ⟨rfl, PW.call hK hM hS hU hW⟩)⟩ rfl rfl hl.1 rfl (lv_room (Nat.le_of_ble_eq_true rfl)) dX10_both_40 ⟨(Nat.le_refl _), (Nat.le_refl _)⟩) hS (fun H locs hM hS => ?_)
        replace h := Option.some.inj h; subst h
        exact W.iret hx hb hr (fun t ht hW => ⟨rfl, by rw [ht]; exact hM.moved hW.alike, hS.F ht⟩) hS.2.2 dX10_both_43
      replace h := o_t c28 h
      refine lv_iconst (v := (1 : Int32)) hx hb dX10_both_31 (by decide) ?_
      refine lv_goto (tgt := 43) hx hb dX10_both_32 (by decide) ?_
      replace h := Option.some.inj h; subst h
      exact W.iret hx hb hr (fun t ht hW => ⟨rfl, by rw [ht]; exact hM.moved hW.alike, hS.F ht⟩) hS.2.2 dX10_both_43
    replace h := o_t c14 h
    refine lv_iload_n hx hb dX10_both_17 rfl (lv_at hl 1 rfl) ?_
    refine lv_goto (tgt := 43) hx hb dX10_both_18 (by decide) ?_
    replace h := Option.some.inj h; subst h
    exact W.iret hx hb hr (fun t ht hW => ⟨rfl, by rw [ht]; exact hM.moved hW.alike, hS.F ht⟩) hS.2.2 dX10_both_43
  replace h := o_t c6 h
  refine lv_iload_n hx hb dX10_both_9 rfl (lv_at hl 2 rfl) ?_
  refine lv_goto (tgt := 43) hx hb dX10_both_10 (by decide) ?_
  replace h := Option.some.inj h; subst h
  exact W.iret hx hb hr (fun t ht hW => ⟨rfl, by rw [ht]; exact hM.moved hW.alike, hS.F ht⟩) hS.2.2 dX10_both_43
set_option maxHeartbeats 4000000 in
set_option maxRecDepth 100000 in
theorem c_X10_both (l : Launch) (D : mmD) (b0 sz : Nat) {v0 : Nat} {v1 : Int32} {v2 : Int32} {f : mmF} {res : Int32 × mmF} (h : f_X10_both v0 v1 v2 f = some res) : Met l yX10_both wsX10_both ({ frames := 5, cells := 0, slots := 0, locals := 123 } : Room) (va_Pc [.ref v0, .int v1, .int v2] (PW D b0 f sz)) (QW D b0 (some (.int res.1)) res.2 sz) 0 0 (fun q => b0 ≤ q) := by
  refine Met.ofW (cc := cX10_both) (maxL := 3) (ret := (some .int)) (by decide) rfl ?_
  intro p e s m args below meth c s₁ B hml hv
  obtain ⟨rfl, hM, hK⟩ := hv
  have hl := lv_entry ([.ref v0, .int v1, .int v2]) (n := 3) (Nat.le_of_ble_eq_true rfl)
  rw [lg_entry_eq]
  generalize (lg_sl ([.ref v0, .int v1, .int v2]) ++ List.replicate (3 - (lg_sl ([.ref v0, .int v1, .int v2])).length) Slot.unset).toArray = ls at hl ⊢
  have hl : lv_has ls 3 [(0, .ref v0), (1, .int v1), (2, .int v2)] := hl
  exact w_X10_both ⟨B.exec, B.bytes, B.returns, hml, findClass_of_methodNamed B.named, atoms_spec (ws := wsX10_both) B.pre, B.notSynchronized, hK⟩ h s.heap [] ls hM va_S.rf hl
end S_X10_both
