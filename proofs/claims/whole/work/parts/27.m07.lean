/-! X7_firstStages -/
set_option maxRecDepth 20000 in
theorem qi_X7_firstStages_X7 : ∀ w ∈ u_ws RX7 TX7 7, w ∈ wsX7_firstStages := by decide +kernel
set_option maxRecDepth 20000 in
theorem q_X7_firstStages_1 : Cond.fieldLink RX7 9 "StageTruths$State" "stages" "I" ∈ wsX7_firstStages := by decide +kernel
noncomputable def f_X7_firstStages_31 (k4 : Nat → Int32 → Int32 → Option (Int32)) (f : mmF) (v0 : Nat) (v2 : Int32) (t0 : Int32) (t1 : Int32) : Option (Int32) :=
  k4 v0 (t0 ||| t1) (v2 + (1 : Int32))
noncomputable def f_X7_firstStages_4  (f : mmF) : Nat → Nat → Int32 → Int32 → Option (Int32)
  | 0, _, _, _ => none
  | n + 1, v0, v1, v2 =>
    (ldI f v0 7 0).bind fun x6 =>
    if x6 ≤ v2 then
    (some (v1))
    else
    (ckO f v0 7).bind fun _ =>
    (f_X7_earlier v0 v2 f).bind fun q15 =>
    if q15 = ((1 : Int32) <<< (v2 &&& 31)) then
    (f_X7_firstStages_31 (fun a0 a1 a2 => f_X7_firstStages_4 f n a0 a1 a2) f v0 v2 v1 ((1 : Int32) <<< (v2 &&& 31)))
    else
    f_X7_firstStages_31 (fun a0 a1 a2 => f_X7_firstStages_4 f n a0 a1 a2) f v0 v2 v1 (0 : Int32)
noncomputable def f_X7_firstStages (v0 : Nat) (f : mmF) : Option (Int32) :=
  f_X7_firstStages_4 f FU v0 (0 : Int32) (0 : Int32)
section S_X7_firstStages
variable {p : Program} {l : Launch} {e : Env} {s : State} {m : MethodId} {args : Array Value} {below : List Frame} {meth : Method} {c : Code} {D : mmD} {b0 sz : Nat} {f : mmF}
set_option maxHeartbeats 4000000 in
set_option maxRecDepth 100000 in
theorem w_X7_firstStages_31 (C0 : CX cX7_firstStages 3 (some .int) wsX7_firstStages RX7 p s m args meth c D b0) {k4 : Nat → Int32 → Int32 → Option (Int32)} {res : Int32} (hk4 : ∀ (v0 : Nat) (v1 : Int32) (v2 : Int32), k4 v0 v1 v2 = some res → ∀ (H : Heap) (locs : List Loc) (ls : Array Slot), MM vwCl D b0 f sz s H → mS b0 s H locs → lv_has ls 3 [(0, .ref v0), (1, .int v1), (2, .int v2)] → W p l e ({ frames := 1, cells := 0, slots := 0, locals := 23 } : Room) s m args below meth c H locs 0 0 (MQ below (QW D b0 (some (.int res)) f sz) args s 0 0 (fun q => b0 ≤ q)) (F0 m 4 ls [])) : ∀ (v0 : Nat) (v2 : Int32) (t0 : Int32) (t1 : Int32), f_X7_firstStages_31 k4 f v0 v2 t0 t1 = some res → ∀ (H : Heap) (locs : List Loc) (ls : Array Slot), MM vwCl D b0 f sz s H → mS b0 s H locs → lv_has ls 3 [(0, .ref v0), (2, .int v2)] → W p l e ({ frames := 1, cells := 0, slots := 0, locals := 23 } : Room) s m args below meth c H locs 0 0 (MQ below (QW D b0 (some (.int res)) f sz) args s 0 0 (fun q => b0 ≤ q)) (F0 m 31 ls [.int t1, .int t0]) := by
  obtain ⟨hx, hb, hr, hml, hown, hts, hlocks, hK⟩ := id C0
  intro v0 v2 t0 t1 h H locs ls hM hS hl
  unfold f_X7_firstStages_31 at h
  refine lv_ior hx hb dX7_firstStages_31 ?_
  refine lv_istore_n (lv' := [(1, .int (t0 ||| t1)), (0, .ref v0), (2, .int v2)]) hx hb dX7_firstStages_32 rfl hl (by decide) rfl (fun ls hl => ?_)
  refine lv_iinc (v := (v2 + (1 : Int32))) (lv' := [(2, .int (v2 + (1 : Int32))), (1, .int (t0 ||| t1)), (0, .ref v0)]) hx hb dX7_firstStages_33 hl (k := 2) rfl rfl (by decide) rfl (fun ls hl => ?_)
  refine lv_goto (tgt := 4) hx hb dX7_firstStages_36 (by decide) ?_
  exact hk4 _ _ _ h _ _ _ hM hS (lv_sub hl [2, 1, 0] rfl)
set_option maxHeartbeats 4000000 in
set_option maxRecDepth 100000 in
theorem w_X7_firstStages_4 (C0 : CX cX7_firstStages 3 (some .int) wsX7_firstStages RX7 p s m args meth c D b0) {res : Int32} : ∀ (n : Nat), ∀ (v0 : Nat) (v1 : Int32) (v2 : Int32), f_X7_firstStages_4 f n v0 v1 v2 = some res → ∀ (H : Heap) (locs : List Loc) (ls : Array Slot), MM vwCl D b0 f sz s H → mS b0 s H locs → lv_has ls 3 [(0, .ref v0), (1, .int v1), (2, .int v2)] → W p l e ({ frames := 1, cells := 0, slots := 0, locals := 23 } : Room) s m args below meth c H locs 0 0 (MQ below (QW D b0 (some (.int res)) f sz) args s 0 0 (fun q => b0 ≤ q)) (F0 m 4 ls []) := by
  obtain ⟨hx, hb, hr, hml, hown, hts, hlocks, hK⟩ := id C0
  intro n
  induction n with
  | zero =>
    intro v0 v1 v2 h
    have h : (none : Option (Int32)) = some res := h
    cases h
  | succ n ih =>
    intro v0 v1 v2 h H locs ls hM hS hl
    rw [f_X7_firstStages_4] at h
    refine lv_iload_n hx hb dX7_firstStages_4 rfl (lv_at hl 2 rfl) ?_
    refine lv_aload_n hx hb dX7_firstStages_5 rfl (lv_at hl 0 rfl) ?_
    replace h := o_b h; obtain ⟨x6, h6, h⟩ := h
    refine m_get (C := RX7) (T := TX7) (N := 7) (ci := 7) hx hb hts qi_X7_firstStages_X7 hown hK.1 hM 0 (ldI_F h6) rfl (by decide) (hts _ q_X7_firstStages_1) (fun _ h9 => h9) dX7_firstStages_6 ?_
    refine lv_icmp_ge (tgt := 39) hx hb dX7_firstStages_9 (by decide) (fun c9 => ?_) (fun c9 => ?_)
    · replace h := o_t c9 h
      refine lv_iload_n hx hb dX7_firstStages_39 rfl (lv_at hl 1 rfl) ?_
      replace h := Option.some.inj h; subst h
      exact W.iret hx hb hr (fun t ht hW => ⟨rfl, by rw [ht]; exact hM.moved hW.alike, hS.F ht⟩) hS.2.2 dX7_firstStages_40
    replace h := o_f c9 h
    refine lv_iload_n hx hb dX7_firstStages_12 rfl (lv_at hl 1 rfl) ?_
    refine lv_aload_n hx hb dX7_firstStages_13 rfl (lv_at hl 0 rfl) ?_
    refine lv_iload_n hx hb dX7_firstStages_14 rfl (lv_at hl 2 rfl) ?_
    replace h := o_b h; obtain ⟨_, k15, h⟩ := h
    replace h := o_b h; obtain ⟨q15, h15, h⟩ := h
    refine m_call (va_runV (As := [.int v2]) (rest := [.int v1]) ⟨hx, hb, hml, hown, hts⟩ (c_X7_earlier l D b0 sz h15) (cwV 1 hts gX7_firstStages_X7_earlier rfl rfl rfl (by decide +kernel) ⟨Nat.le_of_ble_eq_true rfl, Nat.le_of_ble_eq_true rfl⟩) ⟨PW.blind, m_recv (ci := 7) rfl hK hM k15, (fun U hU hW => ⟨rfl, PW.call hK hM hS hU hW⟩)⟩ rfl rfl hl.1 rfl (lv_room (Nat.le_of_ble_eq_true rfl)) dX7_firstStages_15 ⟨(Nat.le_refl _), (Nat.le_refl _)⟩) hS (fun H locs hM hS => ?_)
    refine lv_iconst (v := (1 : Int32)) hx hb dX7_firstStages_18 (by decide) ?_
    refine lv_iload_n hx hb dX7_firstStages_19 rfl (lv_at hl 2 rfl) ?_
    refine lv_ishl hx hb dX7_firstStages_20 ?_
    refine lv_icmp_ne (tgt := 30) hx hb dX7_firstStages_21 (by decide) (fun c21 => ?_) (fun c21 => ?_)
    · replace h := o_f c21 h
      refine lv_iconst (v := (0 : Int32)) hx hb dX7_firstStages_30 (by decide) ?_
      exact w_X7_firstStages_31 C0 ih _ _ _ _ h _ _ _ hM hS (lv_sub hl [0, 2] rfl)
    replace h := o_t c21 h
    refine lv_iconst (v := (1 : Int32)) hx hb dX7_firstStages_24 (by decide) ?_
    refine lv_iload_n hx hb dX7_firstStages_25 rfl (lv_at hl 2 rfl) ?_
    refine lv_ishl hx hb dX7_firstStages_26 ?_
    refine lv_goto (tgt := 31) hx hb dX7_firstStages_27 (by decide) ?_
    exact w_X7_firstStages_31 C0 ih _ _ _ _ h _ _ _ hM hS (lv_sub hl [0, 2] rfl)
set_option maxHeartbeats 4000000 in
set_option maxRecDepth 100000 in
theorem w_X7_firstStages (C0 : CX cX7_firstStages 3 (some .int) wsX7_firstStages RX7 p s m args meth c D b0) {v0 : Nat} {res : Int32} (h : f_X7_firstStages v0 f = some res) : ∀ (H : Heap) (locs : List Loc) (ls : Array Slot), MM vwCl D b0 f sz s H → mS b0 s H locs → lv_has ls 3 [(0, .ref v0)] → W p l e ({ frames := 1, cells := 0, slots := 0, locals := 23 } : Room) s m args below meth c H locs 0 0 (MQ below (QW D b0 (some (.int res)) f sz) args s 0 0 (fun q => b0 ≤ q)) (F0 m 0 ls []) := by
  obtain ⟨hx, hb, hr, hml, hown, hts, hlocks, hK⟩ := id C0
  intro H locs ls hM hS hl
  unfold f_X7_firstStages at h
  refine lv_iconst (v := (0 : Int32)) hx hb dX7_firstStages_0 (by decide) ?_
  refine lv_istore_n (lv' := [(1, .int (0 : Int32)), (0, .ref v0)]) hx hb dX7_firstStages_1 rfl hl (by decide) rfl (fun ls hl => ?_)
  refine lv_iconst (v := (0 : Int32)) hx hb dX7_firstStages_2 (by decide) ?_
  refine lv_istore_n (lv' := [(2, .int (0 : Int32)), (1, .int (0 : Int32)), (0, .ref v0)]) hx hb dX7_firstStages_3 rfl hl (by decide) rfl (fun ls hl => ?_)
  exact w_X7_firstStages_4 C0 FU _ _ _ h _ _ _ hM hS (lv_sub hl [2, 1, 0] rfl)
set_option maxHeartbeats 4000000 in
set_option maxRecDepth 100000 in
theorem c_X7_firstStages (l : Launch) (D : mmD) (b0 sz : Nat) {v0 : Nat} {f : mmF} {res : Int32} (h : f_X7_firstStages v0 f = some res) : Met l yX7_firstStages wsX7_firstStages ({ frames := 1, cells := 0, slots := 0, locals := 23 } : Room) (va_Pc [.ref v0] (PW D b0 f sz)) (QW D b0 (some (.int res)) f sz) 0 0 (fun q => b0 ≤ q) := by
  refine Met.ofW (cc := cX7_firstStages) (maxL := 3) (ret := (some .int)) (by decide) rfl ?_
  intro p e s m args below meth c s₁ B hml hv
  obtain ⟨rfl, hM, hK⟩ := hv
  have hl := lv_entry ([.ref v0]) (n := 3) (Nat.le_of_ble_eq_true rfl)
  rw [lg_entry_eq]
  generalize (lg_sl ([.ref v0]) ++ List.replicate (3 - (lg_sl ([.ref v0])).length) Slot.unset).toArray = ls at hl ⊢
  have hl : lv_has ls 3 [(0, .ref v0)] := hl
  exact w_X7_firstStages ⟨B.exec, B.bytes, B.returns, hml, findClass_of_methodNamed B.named, atoms_spec (ws := wsX7_firstStages) B.pre, B.notSynchronized, hK⟩ h s.heap [] ls hM va_S.rf hl
end S_X7_firstStages
/-! X7_commonFacts -/
set_option maxRecDepth 20000 in
theorem qi_X7_commonFacts_X7 : ∀ w ∈ u_ws RX7 TX7 7, w ∈ wsX7_commonFacts := by decide +kernel
set_option maxRecDepth 20000 in
theorem q_X7_commonFacts_1 : Cond.fieldLink RX7 9 "StageTruths$State" "stages" "I" ∈ wsX7_commonFacts := by decide +kernel
set_option maxRecDepth 20000 in
theorem q_X7_commonFacts_2 : Cond.fieldLink RX7 19 "StageTruths$State" "facts" "[I" ∈ wsX7_commonFacts := by decide +kernel
noncomputable def f_X7_commonFacts_5  (f : mmF) : Nat → Nat → Int32 → Int32 → Option (Int32)
  | 0, _, _, _ => none
  | n + 1, v0, v1, v2 =>
    (ldI f v0 7 0).bind fun x7 =>
    if x7 ≤ v2 then
    (some (v1))
    else
    (ldR f v0 7 2).bind fun x15 =>
    (ldA 0 f x15 v2).bind fun x19 =>
    f_X7_commonFacts_5 f n v0 (v1 &&& x19) (v2 + (1 : Int32))
noncomputable def f_X7_commonFacts (v0 : Nat) (f : mmF) : Option (Int32) :=
  f_X7_commonFacts_5 f FU v0 (15 : Int32) (0 : Int32)
section S_X7_commonFacts
variable {p : Program} {l : Launch} {e : Env} {s : State} {m : MethodId} {args : Array Value} {below : List Frame} {meth : Method} {c : Code} {D : mmD} {b0 sz : Nat} {f : mmF}
set_option maxHeartbeats 4000000 in
set_option maxRecDepth 100000 in
theorem w_X7_commonFacts_5 (C0 : CX cX7_commonFacts 3 (some .int) wsX7_commonFacts RX7 p s m args meth c D b0) {res : Int32} : ∀ (n : Nat), ∀ (v0 : Nat) (v1 : Int32) (v2 : Int32), f_X7_commonFacts_5 f n v0 v1 v2 = some res → ∀ (H : Heap) (locs : List Loc) (ls : Array Slot), MM vwCl D b0 f sz s H → mS b0 s H locs → lv_has ls 3 [(0, .ref v0), (1, .int v1), (2, .int v2)] → W p l e ({ frames := 0, cells := 0, slots := 0, locals := 0 } : Room) s m args below meth c H locs 0 0 (MQ below (QW D b0 (some (.int res)) f sz) args s 0 0 (fun q => b0 ≤ q)) (F0 m 5 ls []) := by
  obtain ⟨hx, hb, hr, hml, hown, hts, hlocks, hK⟩ := id C0
  intro n
  induction n with
  | zero =>
    intro v0 v1 v2 h
    have h : (none : Option (Int32)) = some res := h
    cases h
  | succ n ih =>
    intro v0 v1 v2 h H locs ls hM hS hl
    rw [f_X7_commonFacts_5] at h
    refine lv_iload_n hx hb dX7_commonFacts_5 rfl (lv_at hl 2 rfl) ?_
    refine lv_aload_n hx hb dX7_commonFacts_6 rfl (lv_at hl 0 rfl) ?_
    replace h := o_b h; obtain ⟨x7, h7, h⟩ := h
    refine m_get (C := RX7) (T := TX7) (N := 7) (ci := 7) hx hb hts qi_X7_commonFacts_X7 hown hK.1 hM 0 (ldI_F h7) rfl (by decide) (hts _ q_X7_commonFacts_1) (fun _ h9 => h9) dX7_commonFacts_7 ?_
    refine lv_icmp_ge (tgt := 28) hx hb dX7_commonFacts_10 (by decide) (fun c10 => ?_) (fun c10 => ?_)
    · replace h := o_t c10 h
      refine lv_iload_n hx hb dX7_commonFacts_28 rfl (lv_at hl 1 rfl) ?_
      replace h := Option.some.inj h; subst h
      exact W.iret hx hb hr (fun t ht hW => ⟨rfl, by rw [ht]; exact hM.moved hW.alike, hS.F ht⟩) hS.2.2 dX7_commonFacts_29
    replace h := o_f c10 h
    refine lv_iload_n hx hb dX7_commonFacts_13 rfl (lv_at hl 1 rfl) ?_
    refine lv_aload_n hx hb dX7_commonFacts_14 rfl (lv_at hl 0 rfl) ?_
    replace h := o_b h; obtain ⟨x15, h15, h⟩ := h
    refine m_get (C := RX7) (T := TX7) (N := 7) (ci := 7) hx hb hts qi_X7_commonFacts_X7 hown hK.1 hM 2 (ldR_F h15) rfl (by decide) (hts _ q_X7_commonFacts_2) (fun _ h9 => h9) dX7_commonFacts_15 ?_
    refine lv_iload_n hx hb dX7_commonFacts_18 rfl (lv_at hl 2 rfl) ?_
    replace h := o_b h; obtain ⟨x19, h19, h⟩ := h
    refine m_iald hx hb hK.1 hM hS rfl h19 dX7_commonFacts_19 ?_
    refine lv_iand hx hb dX7_commonFacts_20 ?_
    refine lv_istore_n (lv' := [(1, .int (v1 &&& x19)), (0, .ref v0), (2, .int v2)]) hx hb dX7_commonFacts_21 rfl hl (by decide) rfl (fun ls hl => ?_)
    refine lv_iinc (v := (v2 + (1 : Int32))) (lv' := [(2, .int (v2 + (1 : Int32))), (1, .int (v1 &&& x19)), (0, .ref v0)]) hx hb dX7_commonFacts_22 hl (k := 2) rfl rfl (by decide) rfl (fun ls hl => ?_)
    refine lv_goto (tgt := 5) hx hb dX7_commonFacts_25 (by decide) ?_
    exact ih _ _ _ h _ _ _ hM hS (lv_sub hl [2, 1, 0] rfl)
set_option maxHeartbeats 4000000 in
set_option maxRecDepth 100000 in
theorem w_X7_commonFacts (C0 : CX cX7_commonFacts 3 (some .int) wsX7_commonFacts RX7 p s m args meth c D b0) {v0 : Nat} {res : Int32} (h : f_X7_commonFacts v0 f = some res) : ∀ (H : Heap) (locs : List Loc) (ls : Array Slot), MM vwCl D b0 f sz s H → mS b0 s H locs → lv_has ls 3 [(0, .ref v0)] → W p l e ({ frames := 0, cells := 0, slots := 0, locals := 0 } : Room) s m args below meth c H locs 0 0 (MQ below (QW D b0 (some (.int res)) f sz) args s 0 0 (fun q => b0 ≤ q)) (F0 m 0 ls []) := by
  obtain ⟨hx, hb, hr, hml, hown, hts, hlocks, hK⟩ := id C0
  intro H locs ls hM hS hl
  unfold f_X7_commonFacts at h
  refine lv_bipush (v := (15 : Int32)) hx hb dX7_commonFacts_0 (by decide) ?_
  refine lv_istore_n (lv' := [(1, .int (15 : Int32)), (0, .ref v0)]) hx hb dX7_commonFacts_2 rfl hl (by decide) rfl (fun ls hl => ?_)
  refine lv_iconst (v := (0 : Int32)) hx hb dX7_commonFacts_3 (by decide) ?_
  refine lv_istore_n (lv' := [(2, .int (0 : Int32)), (1, .int (15 : Int32)), (0, .ref v0)]) hx hb dX7_commonFacts_4 rfl hl (by decide) rfl (fun ls hl => ?_)
  exact w_X7_commonFacts_5 C0 FU _ _ _ h _ _ _ hM hS (lv_sub hl [2, 1, 0] rfl)
set_option maxHeartbeats 4000000 in
set_option maxRecDepth 100000 in
theorem c_X7_commonFacts (l : Launch) (D : mmD) (b0 sz : Nat) {v0 : Nat} {f : mmF} {res : Int32} (h : f_X7_commonFacts v0 f = some res) : Met l yX7_commonFacts wsX7_commonFacts ({ frames := 0, cells := 0, slots := 0, locals := 0 } : Room) (va_Pc [.ref v0] (PW D b0 f sz)) (QW D b0 (some (.int res)) f sz) 0 0 (fun q => b0 ≤ q) := by
  refine Met.ofW (cc := cX7_commonFacts) (maxL := 3) (ret := (some .int)) (by decide) rfl ?_
  intro p e s m args below meth c s₁ B hml hv
  obtain ⟨rfl, hM, hK⟩ := hv
  have hl := lv_entry ([.ref v0]) (n := 3) (Nat.le_of_ble_eq_true rfl)
  rw [lg_entry_eq]
  generalize (lg_sl ([.ref v0]) ++ List.replicate (3 - (lg_sl ([.ref v0])).length) Slot.unset).toArray = ls at hl ⊢
  have hl : lv_has ls 3 [(0, .ref v0)] := hl
  exact w_X7_commonFacts ⟨B.exec, B.bytes, B.returns, hml, findClass_of_methodNamed B.named, atoms_spec (ws := wsX7_commonFacts) B.pre, B.notSynchronized, hK⟩ h s.heap [] ls hM va_S.rf hl
end S_X7_commonFacts
/-! X7_grow -/
set_option maxRecDepth 20000 in
theorem qi_X7_grow_X7 : ∀ w ∈ u_ws RX7 TX7 7, w ∈ wsX7_grow := by decide +kernel
set_option maxRecDepth 20000 in
theorem q_X7_grow_1 : Cond.fieldLink RX7 15 "StageTruths$State" "later" "[I" ∈ wsX7_grow := by decide +kernel
set_option maxRecDepth 20000 in
theorem q_X7_grow_2 : Cond.fieldLink RX7 19 "StageTruths$State" "facts" "[I" ∈ wsX7_grow := by decide +kernel
set_option maxRecDepth 20000 in
theorem q_X7_grow_3 : Cond.fieldLink RX7 9 "StageTruths$State" "stages" "I" ∈ wsX7_grow := by decide +kernel
set_option maxRecDepth 20000 in
theorem q_X7_grow_4 : Cond.initialized RX9 ∈ wsX7_grow := by decide +kernel
set_option maxRecDepth 20000 in
theorem q_X7_grow_5 : Cond.static yX9_has ∈ wsX7_grow := by decide +kernel
noncomputable def f_X7_grow_44 (k14 : Nat → Int32 → Int32 → Int32 → Int32 → mmF → Option (Int32 × mmF))  (v0 : Nat) (v1 : Int32) (v2 : Int32) (v3 : Int32) (v4 : Int32) (t0 : Nat) (t1 : Int32) (t2 : Int32) (t3 : Int32) (f : mmF) : Option (Int32 × mmF) :=
  (stA 0 f t0 t1 (t2 ||| t3)).bind fun f45 =>
  k14 v0 v1 v2 v3 (v4 + (1 : Int32)) f45
noncomputable def f_X7_grow_14   : Nat → Nat → Int32 → Int32 → Int32 → Int32 → mmF → Option (Int32 × mmF)
  | 0, _, _, _, _, _, _ => none
  | n + 1, v0, v1, v2, v3, v4, f =>
    if v2 ≤ v4 then
    ((ldR f v0 7 1).bind fun x53 =>
    (stA 0 f x53 v2 ((1 : Int32) <<< (v2 &&& 31))).bind fun f60 =>
    (ldR f60 v0 7 2).bind fun x62 =>
    (ldR f60 v0 7 2).bind fun x67 =>
    (ldA 0 f60 x67 v1).bind fun x71 =>
    (stA 0 f60 x62 v2 x71).bind fun f72 =>
    (ldI f72 v0 7 0).bind fun x75 =>
    (stF f72 v0 7 0 (.int (x75 + (1 : Int32)))).bind fun f80 =>
    some (v2, f80))
    else
    (ldR f v0 7 1).bind fun x21 =>
    (ldA 0 f x21 v4).bind fun x27 =>
    (f_X9_has v3 v4 f).bind fun q31 =>
    if q31 = 0 then
    (f_X7_grow_44 (fun a0 a1 a2 a3 a4 a5 => f_X7_grow_14 n a0 a1 a2 a3 a4 a5) v0 v1 v2 v3 v4 x21 v4 x27 (0 : Int32) f)
    else
    f_X7_grow_44 (fun a0 a1 a2 a3 a4 a5 => f_X7_grow_14 n a0 a1 a2 a3 a4 a5) v0 v1 v2 v3 v4 x21 v4 x27 ((1 : Int32) <<< (v2 &&& 31)) f
noncomputable def f_X7_grow (v0 : Nat) (v1 : Int32) (f : mmF) : Option (Int32 × mmF) :=
  (ldI f v0 7 0).bind fun x1 =>
  (ckO f v0 7).bind fun _ =>
  (f_X7_earlier v0 v1 f).bind fun q7 =>
  f_X7_grow_14 FU v0 v1 x1 q7 (0 : Int32) f
section S_X7_grow
variable {p : Program} {l : Launch} {e : Env} {s : State} {m : MethodId} {args : Array Value} {below : List Frame} {meth : Method} {c : Code} {D : mmD} {b0 sz : Nat} {f : mmF}
set_option maxHeartbeats 4000000 in
set_option maxRecDepth 100000 in
theorem w_X7_grow_44 (C0 : CX cX7_grow 5 (some .int) wsX7_grow RX7 p s m args meth c D b0) {k14 : Nat → Int32 → Int32 → Int32 → Int32 → mmF → Option (Int32 × mmF)} {res : Int32 × mmF} (hk14 : ∀ (v0 : Nat) (v1 : Int32) (v2 : Int32) (v3 : Int32) (v4 : Int32) (f : mmF), k14 v0 v1 v2 v3 v4 f = some res → ∀ (H : Heap) (locs : List Loc) (ls : Array Slot), MM vwCl D b0 f sz s H → mS b0 s H locs → lv_has ls 5 [(0, .ref v0), (1, .int v1), (2, .int v2), (3, .int v3), (4, .int v4)] → W p l e ({ frames := 1, cells := 0, slots := 0, locals := 23 } : Room) s m args below meth c H locs 0 0 (MQ below (QW D b0 (some (.int res.1)) res.2 sz) args s 0 0 (fun q => b0 ≤ q)) (F0 m 14 ls [])) : ∀ (v0 : Nat) (v1 : Int32) (v2 : Int32) (v3 : Int32) (v4 : Int32) (t0 : Nat) (t1 : Int32) (t2 : Int32) (t3 : Int32) (f : mmF), f_X7_grow_44 k14 v0 v1 v2 v3 v4 t0 t1 t2 t3 f = some res → ∀ (H : Heap) (locs : List Loc) (ls : Array Slot), MM vwCl D b0 f sz s H → mS b0 s H locs → lv_has ls 5 [(0, .ref v0), (1, .int v1), (2, .int v2), (3, .int v3), (4, .int v4)] → W p l e ({ frames := 1, cells := 0, slots := 0, locals := 23 } : Room) s m args below meth c H locs 0 0 (MQ below (QW D b0 (some (.int res.1)) res.2 sz) args s 0 0 (fun q => b0 ≤ q)) (F0 m 44 ls [.int t3, .int t2, .int t1, .ref t0]) := by
  obtain ⟨hx, hb, hr, hml, hown, hts, hlocks, hK⟩ := id C0
  intro v0 v1 v2 v3 v4 t0 t1 t2 t3 f h H locs ls hM hS hl
  unfold f_X7_grow_44 at h
  refine lv_ior hx hb dX7_grow_44 ?_
  replace h := o_b h; obtain ⟨f45, h45, h⟩ := h
  refine m_iast hx hb hK.1 hM hS rfl h45 dX7_grow_45 (fun H locs hM hS => ?_)
  refine lv_iinc (v := (v4 + (1 : Int32))) (lv' := [(4, .int (v4 + (1 : Int32))), (0, .ref v0), (1, .int v1), (2, .int v2), (3, .int v3)]) hx hb dX7_grow_46 hl (k := 4) rfl rfl (by decide) rfl (fun ls hl => ?_)
  refine lv_goto (tgt := 14) hx hb dX7_grow_49 (by decide) ?_
  exact hk14 _ _ _ _ _ _ h _ _ _ hM hS (lv_sub hl [1, 2, 3, 4, 0] rfl)
set_option maxHeartbeats 4000000 in
set_option maxRecDepth 100000 in
theorem w_X7_grow_14 (C0 : CX cX7_grow 5 (some .int) wsX7_grow RX7 p s m args meth c D b0) {res : Int32 × mmF} : ∀ (n : Nat), ∀ (v0 : Nat) (v1 : Int32) (v2 : Int32) (v3 : Int32) (v4 : Int32) (f : mmF), f_X7_grow_14 n v0 v1 v2 v3 v4 f = some res → ∀ (H : Heap) (locs : List Loc) (ls : Array Slot), MM vwCl D b0 f sz s H → mS b0 s H locs → lv_has ls 5 [(0, .ref v0), (1, .int v1), (2, .int v2), (3, .int v3), (4, .int v4)] → W p l e ({ frames := 1, cells := 0, slots := 0, locals := 23 } : Room) s m args below meth c H locs 0 0 (MQ below (QW D b0 (some (.int res.1)) res.2 sz) args s 0 0 (fun q => b0 ≤ q)) (F0 m 14 ls []) := by
  obtain ⟨hx, hb, hr, hml, hown, hts, hlocks, hK⟩ := id C0
  intro n
  induction n with
  | zero =>
    intro v0 v1 v2 v3 v4 f h
    have h : (none : Option (Int32 × mmF)) = some res := h
    cases h
  | succ n ih =>
    intro v0 v1 v2 v3 v4 f h H locs ls hM hS hl
    rw [f_X7_grow_14] at h
    refine lv_iload hx hb dX7_grow_14 (lv_at hl 4 rfl) ?_
    refine lv_iload_n hx hb dX7_grow_16 rfl (lv_at hl 2 rfl) ?_
    refine lv_icmp_ge (tgt := 52) hx hb dX7_grow_17 (by decide) (fun c17 => ?_) (fun c17 => ?_)
    · replace h := o_t c17 h
      refine lv_aload_n hx hb dX7_grow_52 rfl (lv_at hl 0 rfl) ?_
      replace h := o_b h; obtain ⟨x53, h53, h⟩ := h
      refine m_get (C := RX7) (T := TX7) (N := 7) (ci := 7) hx hb hts qi_X7_grow_X7 hown hK.1 hM 1 (ldR_F h53) rfl (by decide) (hts _ q_X7_grow_1) (fun _ h9 => h9) dX7_grow_53 ?_
      refine lv_iload_n hx hb dX7_grow_56 rfl (lv_at hl 2 rfl) ?_
      refine lv_iconst (v := (1 : Int32)) hx hb dX7_grow_57 (by decide) ?_
      refine lv_iload_n hx hb dX7_grow_58 rfl (lv_at hl 2 rfl) ?_
      refine lv_ishl hx hb dX7_grow_59 ?_
      replace h := o_b h; obtain ⟨f60, h60, h⟩ := h
      refine m_iast hx hb hK.1 hM hS rfl h60 dX7_grow_60 (fun H locs hM hS => ?_)
      refine lv_aload_n hx hb dX7_grow_61 rfl (lv_at hl 0 rfl) ?_
      replace h := o_b h; obtain ⟨x62, h62, h⟩ := h
      refine m_get (C := RX7) (T := TX7) (N := 7) (ci := 7) hx hb hts qi_X7_grow_X7 hown hK.1 hM 2 (ldR_F h62) rfl (by decide) (hts _ q_X7_grow_2) (fun _ h9 => h9) dX7_grow_62 ?_
      refine lv_iload_n hx hb dX7_grow_65 rfl (lv_at hl 2 rfl) ?_
      refine lv_aload_n hx hb dX7_grow_66 rfl (lv_at hl 0 rfl) ?_
      replace h := o_b h; obtain ⟨x67, h67, h⟩ := h
      refine m_get (C := RX7) (T := TX7) (N := 7) (ci := 7) hx hb hts qi_X7_grow_X7 hown hK.1 hM 2 (ldR_F h67) rfl (by decide) (hts _ q_X7_grow_2) (fun _ h9 => h9) dX7_grow_67 ?_
      refine lv_iload_n hx hb dX7_grow_70 rfl (lv_at hl 1 rfl) ?_
      replace h := o_b h; obtain ⟨x71, h71, h⟩ := h
      refine m_iald hx hb hK.1 hM hS rfl h71 dX7_grow_71 ?_
      replace h := o_b h; obtain ⟨f72, h72, h⟩ := h
      refine m_iast hx hb hK.1 hM hS rfl h72 dX7_grow_72 (fun H locs hM hS => ?_)
      refine lv_aload_n hx hb dX7_grow_73 rfl (lv_at hl 0 rfl) ?_
      refine lv_dup hx hb dX7_grow_74 rfl ?_
      replace h := o_b h; obtain ⟨x75, h75, h⟩ := h
      refine m_get (C := RX7) (T := TX7) (N := 7) (ci := 7) hx hb hts qi_X7_grow_X7 hown hK.1 hM 0 (ldI_F h75) rfl (by decide) (hts _ q_X7_grow_3) (fun _ h9 => h9) dX7_grow_75 ?_
      refine lv_iconst (v := (1 : Int32)) hx hb dX7_grow_78 (by decide) ?_
      refine lv_iadd hx hb dX7_grow_79 ?_
      replace h := o_b h; obtain ⟨f80, h80, h⟩ := h
      refine m_put (ty := .int) (C := RX7) (T := TX7) (N := 7) (ci := 7) hx hb hts qi_X7_grow_X7 tyX7 tyX7_ok nmX7 hown hK.1 hM hS 0 h80 rfl (by decide) (hts _ q_X7_grow_3) (fun _ h9 => h9) rfl (by decide +kernel) rfl rfl dX7_grow_80 (fun H locs hM hS => ?_)
      refine lv_iload_n hx hb dX7_grow_83 rfl (lv_at hl 2 rfl) ?_
      replace h := Option.some.inj h; subst h
      exact W.iret hx hb hr (fun t ht hW => ⟨rfl, by rw [ht]; exact hM.moved hW.alike, hS.F ht⟩) hS.2.2 dX7_grow_84
    replace h := o_f c17 h
    refine lv_aload_n hx hb dX7_grow_20 rfl (lv_at hl 0 rfl) ?_
    replace h := o_b h; obtain ⟨x21, h21, h⟩ := h
    refine m_get (C := RX7) (T := TX7) (N := 7) (ci := 7) hx hb hts qi_X7_grow_X7 hown hK.1 hM 1 (ldR_F h21) rfl (by decide) (hts _ q_X7_grow_1) (fun _ h9 => h9) dX7_grow_21 ?_
    refine lv_iload hx hb dX7_grow_24 (lv_at hl 4 rfl) ?_
    refine lv_dup2_11 hx hb dX7_grow_26 rfl rfl ?_
    replace h := o_b h; obtain ⟨x27, h27, h⟩ := h
    refine m_iald hx hb hK.1 hM hS rfl h27 dX7_grow_27 ?_
    refine lv_iload_n hx hb dX7_grow_28 rfl (lv_at hl 3 rfl) ?_
    refine lv_iload hx hb dX7_grow_29 (lv_at hl 4 rfl) ?_
    replace h := o_b h; obtain ⟨q31, h31, h⟩ := h
    refine m_call (va_runSN (As := [.int v3, .int v4]) (rest := [.int x27, .int v4, .ref x21]) ⟨hx, hb, hml, hown, hts⟩ (c_X9_has l D b0 sz h31) ⟨(va_cnB 2 hts gX7_grow_X9_has_n48 rfl rfl rfl (hK.2.1 (RX7, 48, yX9_has, "StageTruths") (by decide)) (hts _ q_X7_grow_4) (by decide +kernel) ⟨Nat.le_of_ble_eq_true rfl, Nat.le_of_ble_eq_true rfl⟩), (hts _ q_X7_grow_5), trivial⟩ ⟨PW.blind, (fun U hU hW => ⟨rfl, PW.call hK hM hS hU hW⟩)⟩ rfl rfl hl.1 rfl (lv_room (Nat.le_of_ble_eq_true rfl)) dX7_grow_31 ⟨(Nat.le_refl _), (Nat.le_refl _)⟩) hS (fun H locs hM hS => ?_)
    refine lv_if_eq (tgt := 43) hx hb dX7_grow_34 (by decide) (fun c34 => ?_) (fun c34 => ?_)
    · replace h := o_t c34 h
      refine lv_iconst (v := (0 : Int32)) hx hb dX7_grow_43 (by decide) ?_
      exact w_X7_grow_44 C0 ih _ _ _ _ _ _ _ _ _ _ h _ _ _ hM hS (lv_sub hl [0, 1, 2, 3, 4] rfl)
    replace h := o_f c34 h
    refine lv_iconst (v := (1 : Int32)) hx hb dX7_grow_37 (by decide) ?_
    refine lv_iload_n hx hb dX7_grow_38 rfl (lv_at hl 2 rfl) ?_
    refine lv_ishl hx hb dX7_grow_39 ?_
    refine lv_goto (tgt := 44) hx hb dX7_grow_40 (by decide) ?_
    exact w_X7_grow_44 C0 ih _ _ _ _ _ _ _ _ _ _ h _ _ _ hM hS (lv_sub hl [0, 1, 2, 3, 4] rfl)
set_option maxHeartbeats 4000000 in
set_option maxRecDepth 100000 in
theorem w_X7_grow (C0 : CX cX7_grow 5 (some .int) wsX7_grow RX7 p s m args meth c D b0) {v0 : Nat} {v1 : Int32} {res : Int32 × mmF} (h : f_X7_grow v0 v1 f = some res) : ∀ (H : Heap) (locs : List Loc) (ls : Array Slot), MM vwCl D b0 f sz s H → mS b0 s H locs → lv_has ls 5 [(0, .ref v0), (1, .int v1)] → W p l e ({ frames := 1, cells := 0, slots := 0, locals := 23 } : Room) s m args below meth c H locs 0 0 (MQ below (QW D b0 (some (.int res.1)) res.2 sz) args s 0 0 (fun q => b0 ≤ q)) (F0 m 0 ls []) := by
  obtain ⟨hx, hb, hr, hml, hown, hts, hlocks, hK⟩ := id C0
  intro H locs ls hM hS hl
  unfold f_X7_grow at h
  refine lv_aload_n hx hb dX7_grow_0 rfl (lv_at hl 0 rfl) ?_
  replace h := o_b h; obtain ⟨x1, h1, h⟩ := h
  refine m_get (C := RX7) (T := TX7) (N := 7) (ci := 7) hx hb hts qi_X7_grow_X7 hown hK.1 hM 0 (ldI_F h1) rfl (by decide) (hts _ q_X7_grow_3) (fun _ h9 => h9) dX7_grow_1 ?_
  refine lv_istore_n (lv' := [(2, .int x1), (0, .ref v0), (1, .int v1)]) hx hb dX7_grow_4 rfl hl (by decide) rfl (fun ls hl => ?_)
  refine lv_aload_n hx hb dX7_grow_5 rfl (lv_at hl 1 rfl) ?_
  refine lv_iload_n hx hb dX7_grow_6 rfl (lv_at hl 2 rfl) ?_
  replace h := o_b h; obtain ⟨_, k7, h⟩ := h
  replace h := o_b h; obtain ⟨q7, h7, h⟩ := h
  refine m_call (va_runV (As := [.int v1]) (rest := []) ⟨hx, hb, hml, hown, hts⟩ (c_X7_earlier l D b0 sz h7) (cwV 1 hts gX7_grow_X7_earlier rfl rfl rfl (by decide +kernel) ⟨Nat.le_of_ble_eq_true rfl, Nat.le_of_ble_eq_true rfl⟩) ⟨PW.blind, m_recv (ci := 7) rfl hK hM k7, (fun U hU hW => ⟨rfl, PW.call hK hM hS hU hW⟩)⟩ rfl rfl hl.1 rfl (lv_room (Nat.le_of_ble_eq_true rfl)) dX7_grow_7 ⟨(Nat.le_refl _), (Nat.le_refl _)⟩) hS (fun H locs hM hS => ?_)
  refine lv_istore_n (lv' := [(3, .int q7), (2, .int x1), (0, .ref v0), (1, .int v1)]) hx hb dX7_grow_10 rfl hl (by decide) rfl (fun ls hl => ?_)
  refine lv_iconst (v := (0 : Int32)) hx hb dX7_grow_11 (by decide) ?_
  refine lv_istore (lv' := [(4, .int (0 : Int32)), (3, .int q7), (2, .int x1), (0, .ref v0), (1, .int v1)]) hx hb dX7_grow_12 hl (by decide) rfl (fun ls hl => ?_)
  exact w_X7_grow_14 C0 FU _ _ _ _ _ _ h _ _ _ hM hS (lv_sub hl [3, 4, 2, 1, 0] rfl)
set_option maxHeartbeats 4000000 in
set_option maxRecDepth 100000 in
theorem c_X7_grow (l : Launch) (D : mmD) (b0 sz : Nat) {v0 : Nat} {v1 : Int32} {f : mmF} {res : Int32 × mmF} (h : f_X7_grow v0 v1 f = some res) : Met l yX7_grow wsX7_grow ({ frames := 1, cells := 0, slots := 0, locals := 23 } : Room) (va_Pc [.ref v0, .int v1] (PW D b0 f sz)) (QW D b0 (some (.int res.1)) res.2 sz) 0 0 (fun q => b0 ≤ q) := by
  refine Met.ofW (cc := cX7_grow) (maxL := 5) (ret := (some .int)) (by decide) rfl ?_
  intro p e s m args below meth c s₁ B hml hv
  obtain ⟨rfl, hM, hK⟩ := hv
  have hl := lv_entry ([.ref v0, .int v1]) (n := 5) (Nat.le_of_ble_eq_true rfl)
  rw [lg_entry_eq]
  generalize (lg_sl ([.ref v0, .int v1]) ++ List.replicate (5 - (lg_sl ([.ref v0, .int v1])).length) Slot.unset).toArray = ls at hl ⊢
  have hl : lv_has ls 5 [(0, .ref v0), (1, .int v1)] := hl
  exact w_X7_grow ⟨B.exec, B.bytes, B.returns, hml, findClass_of_methodNamed B.named, atoms_spec (ws := wsX7_grow) B.pre, B.notSynchronized, hK⟩ h s.heap [] ls hM va_S.rf hl
end S_X7_grow
/-! X7_teach -/
set_option maxRecDepth 20000 in
theorem qi_X7_teach_X7 : ∀ w ∈ u_ws RX7 TX7 7, w ∈ wsX7_teach := by decide +kernel
set_option maxRecDepth 20000 in
theorem q_X7_teach_1 : Cond.fieldLink RX7 9 "StageTruths$State" "stages" "I" ∈ wsX7_teach := by decide +kernel
set_option maxRecDepth 20000 in
theorem q_X7_teach_2 : Cond.fieldLink RX7 19 "StageTruths$State" "facts" "[I" ∈ wsX7_teach := by decide +kernel
set_option maxRecDepth 20000 in
theorem q_X7_teach_3 : Cond.initialized RX9 ∈ wsX7_teach := by decide +kernel
set_option maxRecDepth 20000 in
theorem q_X7_teach_4 : Cond.static yX9_has ∈ wsX7_teach := by decide +kernel
noncomputable def f_X7_teach_30 (k2 : Nat → Int32 → Int32 → Int32 → mmF → Option (mmF))  (v0 : Nat) (v1 : Int32) (v2 : Int32) (v3 : Int32) (t0 : Nat) (t1 : Int32) (t2 : Int32) (t3 : Int32) (f : mmF) : Option (mmF) :=
  (stA 0 f t0 t1 (t2 ||| t3)).bind fun f31 =>
  k2 v0 v1 v2 (v3 + (1 : Int32)) f31
noncomputable def f_X7_teach_2   : Nat → Nat → Int32 → Int32 → Int32 → mmF → Option (mmF)
  | 0, _, _, _, _, _ => none
  | n + 1, v0, v1, v2, v3, f =>
    (ldI f v0 7 0).bind fun x4 =>
    if x4 ≤ v3 then
    (some (f))
    else
    (ldR f v0 7 2).bind fun x11 =>
    (ldA 0 f x11 v3).bind fun x16 =>
    (f_X9_has v1 v3 f).bind fun q19 =>
    if q19 = 0 then
    (f_X7_teach_30 (fun a0 a1 a2 a3 a4 => f_X7_teach_2 n a0 a1 a2 a3 a4) v0 v1 v2 v3 x11 v3 x16 (0 : Int32) f)
    else
    f_X7_teach_30 (fun a0 a1 a2 a3 a4 => f_X7_teach_2 n a0 a1 a2 a3 a4) v0 v1 v2 v3 x11 v3 x16 v2 f
noncomputable def f_X7_teach (v0 : Nat) (v1 : Int32) (v2 : Int32) (f : mmF) : Option (mmF) :=
  f_X7_teach_2 FU v0 v1 v2 (0 : Int32) f
section S_X7_teach
variable {p : Program} {l : Launch} {e : Env} {s : State} {m : MethodId} {args : Array Value} {below : List Frame} {meth : Method} {c : Code} {D : mmD} {b0 sz : Nat} {f : mmF}
set_option maxHeartbeats 4000000 in
set_option maxRecDepth 100000 in
theorem w_X7_teach_30 (C0 : CX cX7_teach 4 none wsX7_teach RX7 p s m args meth c D b0) {k2 : Nat → Int32 → Int32 → Int32 → mmF → Option (mmF)} {res : mmF} (hk2 : ∀ (v0 : Nat) (v1 : Int32) (v2 : Int32) (v3 : Int32) (f : mmF), k2 v0 v1 v2 v3 f = some res → ∀ (H : Heap) (locs : List Loc) (ls : Array Slot), MM vwCl D b0 f sz s H → mS b0 s H locs → lv_has ls 4 [(0, .ref v0), (1, .int v1), (2, .int v2), (3, .int v3)] → W p l e ({ frames := 1, cells := 0, slots := 0, locals := 21 } : Room) s m args below meth c H locs 0 0 (MQ below (QW D b0 none res sz) args s 0 0 (fun q => b0 ≤ q)) (F0 m 2 ls [])) : ∀ (v0 : Nat) (v1 : Int32) (v2 : Int32) (v3 : Int32) (t0 : Nat) (t1 : Int32) (t2 : Int32) (t3 : Int32) (f : mmF), f_X7_teach_30 k2 v0 v1 v2 v3 t0 t1 t2 t3 f = some res → ∀ (H : Heap) (locs : List Loc) (ls : Array Slot), MM vwCl D b0 f sz s H → mS b0 s H locs → lv_has ls 4 [(0, .ref v0), (1, .int v1), (2, .int v2), (3, .int v3)] → W p l e ({ frames := 1, cells := 0, slots := 0, locals := 21 } : Room) s m args below meth c H locs 0 0 (MQ below (QW D b0 none res sz) args s 0 0 (fun q => b0 ≤ q)) (F0 m 30 ls [.int t3, .int t2, .int t1, .ref t0]) := by
  obtain ⟨hx, hb, hr, hml, hown, hts, hlocks, hK⟩ := id C0
  intro v0 v1 v2 v3 t0 t1 t2 t3 f h H locs ls hM hS hl
  unfold f_X7_teach_30 at h
  refine lv_ior hx hb dX7_teach_30 ?_
  replace h := o_b h; obtain ⟨f31, h31, h⟩ := h
  refine m_iast hx hb hK.1 hM hS rfl h31 dX7_teach_31 (fun H locs hM hS => ?_)
  refine lv_iinc (v := (v3 + (1 : Int32))) (lv' := [(3, .int (v3 + (1 : Int32))), (0, .ref v0), (1, .int v1), (2, .int v2)]) hx hb dX7_teach_32 hl (k := 3) rfl rfl (by decide) rfl (fun ls hl => ?_)
  refine lv_goto (tgt := 2) hx hb dX7_teach_35 (by decide) ?_
  exact hk2 _ _ _ _ _ h _ _ _ hM hS (lv_sub hl [1, 2, 3, 0] rfl)
set_option maxHeartbeats 4000000 in
set_option maxRecDepth 100000 in
theorem w_X7_teach_2 (C0 : CX cX7_teach 4 none wsX7_teach RX7 p s m args meth c D b0) {res : mmF} : ∀ (n : Nat), ∀ (v0 : Nat) (v1 : Int32) (v2 : Int32) (v3 : Int32) (f : mmF), f_X7_teach_2 n v0 v1 v2 v3 f = some res → ∀ (H : Heap) (locs : List Loc) (ls : Array Slot), MM vwCl D b0 f sz s H → mS b0 s H locs → lv_has ls 4 [(0, .ref v0), (1, .int v1), (2, .int v2), (3, .int v3)] → W p l e ({ frames := 1, cells := 0, slots := 0, locals := 21 } : Room) s m args below meth c H locs 0 0 (MQ below (QW D b0 none res sz) args s 0 0 (fun q => b0 ≤ q)) (F0 m 2 ls []) := by
  obtain ⟨hx, hb, hr, hml, hown, hts, hlocks, hK⟩ := id C0
  intro n
  induction n with
  | zero =>
    intro v0 v1 v2 v3 f h
    have h : (none : Option (mmF)) = some res := h
    cases h
  | succ n ih =>
    intro v0 v1 v2 v3 f h H locs ls hM hS hl
    rw [f_X7_teach_2] at h
    refine lv_iload_n hx hb dX7_teach_2 rfl (lv_at hl 3 rfl) ?_
    refine lv_aload_n hx hb dX7_teach_3 rfl (lv_at hl 0 rfl) ?_
    replace h := o_b h; obtain ⟨x4, h4, h⟩ := h
    refine m_get (C := RX7) (T := TX7) (N := 7) (ci := 7) hx hb hts qi_X7_teach_X7 hown hK.1 hM 0 (ldI_F h4) rfl (by decide) (hts _ q_X7_teach_1) (fun _ h9 => h9) dX7_teach_4 ?_
    refine lv_icmp_ge (tgt := 38) hx hb dX7_teach_7 (by decide) (fun c7 => ?_) (fun c7 => ?_)
    · replace h := o_t c7 h
      replace h := Option.some.inj h; subst h
      exact W.vret hx hb hr (fun t ht hW => ⟨rfl, by rw [ht]; exact hM.moved hW.alike, hS.F ht⟩) hS.2.2 dX7_teach_38
    replace h := o_f c7 h
    refine lv_aload_n hx hb dX7_teach_10 rfl (lv_at hl 0 rfl) ?_
    replace h := o_b h; obtain ⟨x11, h11, h⟩ := h
    refine m_get (C := RX7) (T := TX7) (N := 7) (ci := 7) hx hb hts qi_X7_teach_X7 hown hK.1 hM 2 (ldR_F h11) rfl (by decide) (hts _ q_X7_teach_2) (fun _ h9 => h9) dX7_teach_11 ?_
    refine lv_iload_n hx hb dX7_teach_14 rfl (lv_at hl 3 rfl) ?_
    refine lv_dup2_11 hx hb dX7_teach_15 rfl rfl ?_
    replace h := o_b h; obtain ⟨x16, h16, h⟩ := h
    refine m_iald hx hb hK.1 hM hS rfl h16 dX7_teach_16 ?_
    refine lv_iload_n hx hb dX7_teach_17 rfl (lv_at hl 1 rfl) ?_
    refine lv_iload_n hx hb dX7_teach_18 rfl (lv_at hl 3 rfl) ?_
    replace h := o_b h; obtain ⟨q19, h19, h⟩ := h
    refine m_call (va_runSN (As := [.int v1, .int v3]) (rest := [.int x16, .int v3, .ref x11]) ⟨hx, hb, hml, hown, hts⟩ (c_X9_has l D b0 sz h19) ⟨(va_cnB 2 hts gX7_teach_X9_has_n48 rfl rfl rfl (hK.2.1 (RX7, 48, yX9_has, "StageTruths") (by decide)) (hts _ q_X7_teach_3) (by decide +kernel) ⟨Nat.le_of_ble_eq_true rfl, Nat.le_of_ble_eq_true rfl⟩), (hts _ q_X7_teach_4), trivial⟩ ⟨PW.blind, (fun U hU hW => ⟨rfl, PW.call hK hM hS hU hW⟩)⟩ rfl rfl hl.1 rfl (lv_room (Nat.le_of_ble_eq_true rfl)) dX7_teach_19 ⟨(Nat.le_refl _), (Nat.le_refl _)⟩) hS (fun H locs hM hS => ?_)
    refine lv_if_eq (tgt := 29) hx hb dX7_teach_22 (by decide) (fun c22 => ?_) (fun c22 => ?_)
    · replace h := o_t c22 h
      refine lv_iconst (v := (0 : Int32)) hx hb dX7_teach_29 (by decide) ?_
      exact w_X7_teach_30 C0 ih _ _ _ _ _ _ _ _ _ h _ _ _ hM hS (lv_sub hl [0, 1, 2, 3] rfl)
    replace h := o_f c22 h
    refine lv_iload_n hx hb dX7_teach_25 rfl (lv_at hl 2 rfl) ?_
    refine lv_goto (tgt := 30) hx hb dX7_teach_26 (by decide) ?_
    exact w_X7_teach_30 C0 ih _ _ _ _ _ _ _ _ _ h _ _ _ hM hS (lv_sub hl [0, 1, 2, 3] rfl)
set_option maxHeartbeats 4000000 in
set_option maxRecDepth 100000 in
theorem w_X7_teach (C0 : CX cX7_teach 4 none wsX7_teach RX7 p s m args meth c D b0) {v0 : Nat} {v1 : Int32} {v2 : Int32} {res : mmF} (h : f_X7_teach v0 v1 v2 f = some res) : ∀ (H : Heap) (locs : List Loc) (ls : Array Slot), MM vwCl D b0 f sz s H → mS b0 s H locs → lv_has ls 4 [(0, .ref v0), (1, .int v1), (2, .int v2)] → W p l e ({ frames := 1, cells := 0, slots := 0, locals := 21 } : Room) s m args below meth c H locs 0 0 (MQ below (QW D b0 none res sz) args s 0 0 (fun q => b0 ≤ q)) (F0 m 0 ls []) := by
  obtain ⟨hx, hb, hr, hml, hown, hts, hlocks, hK⟩ := id C0
  intro H locs ls hM hS hl
  unfold f_X7_teach at h
  refine lv_iconst (v := (0 : Int32)) hx hb dX7_teach_0 (by decide) ?_
  refine lv_istore_n (lv' := [(3, .int (0 : Int32)), (0, .ref v0), (1, .int v1), (2, .int v2)]) hx hb dX7_teach_1 rfl hl (by decide) rfl (fun ls hl => ?_)
  exact w_X7_teach_2 C0 FU _ _ _ _ _ h _ _ _ hM hS (lv_sub hl [1, 2, 3, 0] rfl)
set_option maxHeartbeats 4000000 in
set_option maxRecDepth 100000 in
theorem c_X7_teach (l : Launch) (D : mmD) (b0 sz : Nat) {v0 : Nat} {v1 : Int32} {v2 : Int32} {f : mmF} {res : mmF} (h : f_X7_teach v0 v1 v2 f = some res) : Met l yX7_teach wsX7_teach ({ frames := 1, cells := 0, slots := 0, locals := 21 } : Room) (va_Pc [.ref v0, .int v1, .int v2] (PW D b0 f sz)) (QW D b0 none res sz) 0 0 (fun q => b0 ≤ q) := by
  refine Met.ofW (cc := cX7_teach) (maxL := 4) (ret := none) (by decide) rfl ?_
  intro p e s m args below meth c s₁ B hml hv
  obtain ⟨rfl, hM, hK⟩ := hv
  have hl := lv_entry ([.ref v0, .int v1, .int v2]) (n := 4) (Nat.le_of_ble_eq_true rfl)
  rw [lg_entry_eq]
  generalize (lg_sl ([.ref v0, .int v1, .int v2]) ++ List.replicate (4 - (lg_sl ([.ref v0, .int v1, .int v2])).length) Slot.unset).toArray = ls at hl ⊢
  have hl : lv_has ls 4 [(0, .ref v0), (1, .int v1), (2, .int v2)] := hl
  exact w_X7_teach ⟨B.exec, B.bytes, B.returns, hml, findClass_of_methodNamed B.named, atoms_spec (ws := wsX7_teach) B.pre, B.notSynchronized, hK⟩ h s.heap [] ls hM va_S.rf hl
end S_X7_teach
/-! X7_connect -/
set_option maxRecDepth 20000 in
theorem qi_X7_connect_X7 : ∀ w ∈ u_ws RX7 TX7 7, w ∈ wsX7_connect := by decide +kernel
set_option maxRecDepth 20000 in
theorem q_X7_connect_1 : Cond.fieldLink RX7 9 "StageTruths$State" "stages" "I" ∈ wsX7_connect := by decide +kernel
set_option maxRecDepth 20000 in
theorem q_X7_connect_2 : Cond.fieldLink RX7 15 "StageTruths$State" "later" "[I" ∈ wsX7_connect := by decide +kernel
set_option maxRecDepth 20000 in
theorem q_X7_connect_3 : Cond.fieldLink RX7 19 "StageTruths$State" "facts" "[I" ∈ wsX7_connect := by decide +kernel
set_option maxRecDepth 20000 in
theorem q_X7_connect_4 : Cond.initialized RX9 ∈ wsX7_connect := by decide +kernel
set_option maxRecDepth 20000 in
theorem q_X7_connect_5 : Cond.static yX9_has ∈ wsX7_connect := by decide +kernel
noncomputable def f_X7_connect_45 (k9 : Nat → Int32 → Int32 → Int32 → Int32 → mmF → Option (mmF))  (v0 : Nat) (v1 : Int32) (v2 : Int32) (v3 : Int32) (v4 : Int32) (t0 : Nat) (t1 : Int32) (t2 : Int32) (t3 : Int32) (f : mmF) : Option (mmF) :=
  (stA 0 f t0 t1 (t2 ||| t3)).bind fun f46 =>
  k9 v0 v1 v2 v3 (v4 + (1 : Int32)) f46
noncomputable def f_X7_connect_9   : Nat → Nat → Int32 → Int32 → Int32 → Int32 → mmF → Option (mmF)
  | 0, _, _, _, _, _, _ => none
  | n + 1, v0, v1, v2, v3, v4, f =>
    (ldI f v0 7 0).bind fun x12 =>
    if x12 ≤ v4 then
    ((ldR f v0 7 1).bind fun x55 =>
    (ldA 0 f x55 v2).bind fun x59 =>
    (ldR f v0 7 2).bind fun x61 =>
    (ldA 0 f x61 v1).bind fun x65 =>
    (ckO f v0 7).bind fun _ =>
    (f_X7_teach v0 x59 x65 f).bind fun q66 =>
    some (q66))
    else
    (ldR f v0 7 1).bind fun x19 =>
    (ldA 0 f x19 v4).bind fun x25 =>
    (f_X9_has v3 v4 f).bind fun q29 =>
    if q29 = 0 then
    (f_X7_connect_45 (fun a0 a1 a2 a3 a4 a5 => f_X7_connect_9 n a0 a1 a2 a3 a4 a5) v0 v1 v2 v3 v4 x19 v4 x25 (0 : Int32) f)
    else
    (ldR f v0 7 1).bind fun x36 =>
    (ldA 0 f x36 v2).bind fun x40 =>
    f_X7_connect_45 (fun a0 a1 a2 a3 a4 a5 => f_X7_connect_9 n a0 a1 a2 a3 a4 a5) v0 v1 v2 v3 v4 x19 v4 x25 x40 f
noncomputable def f_X7_connect (v0 : Nat) (v1 : Int32) (v2 : Int32) (f : mmF) : Option (mmF) :=
  (ckO f v0 7).bind fun _ =>
  (f_X7_earlier v0 v1 f).bind fun q2 =>
  f_X7_connect_9 FU v0 v1 v2 q2 (0 : Int32) f
section S_X7_connect
variable {p : Program} {l : Launch} {e : Env} {s : State} {m : MethodId} {args : Array Value} {below : List Frame} {meth : Method} {c : Code} {D : mmD} {b0 sz : Nat} {f : mmF}
set_option maxHeartbeats 4000000 in
set_option maxRecDepth 100000 in
theorem w_X7_connect_45 (C0 : CX cX7_connect 5 none wsX7_connect RX7 p s m args meth c D b0) {k9 : Nat → Int32 → Int32 → Int32 → Int32 → mmF → Option (mmF)} {res : mmF} (hk9 : ∀ (v0 : Nat) (v1 : Int32) (v2 : Int32) (v3 : Int32) (v4 : Int32) (f : mmF), k9 v0 v1 v2 v3 v4 f = some res → ∀ (H : Heap) (locs : List Loc) (ls : Array Slot), MM vwCl D b0 f sz s H → mS b0 s H locs → lv_has ls 5 [(0, .ref v0), (1, .int v1), (2, .int v2), (3, .int v3), (4, .int v4)] → W p l e ({ frames := 2, cells := 0, slots := 0, locals := 44 } : Room) s m args below meth c H locs 0 0 (MQ below (QW D b0 none res sz) args s 0 0 (fun q => b0 ≤ q)) (F0 m 9 ls [])) : ∀ (v0 : Nat) (v1 : Int32) (v2 : Int32) (v3 : Int32) (v4 : Int32) (t0 : Nat) (t1 : Int32) (t2 : Int32) (t3 : Int32) (f : mmF), f_X7_connect_45 k9 v0 v1 v2 v3 v4 t0 t1 t2 t3 f = some res → ∀ (H : Heap) (locs : List Loc) (ls : Array Slot), MM vwCl D b0 f sz s H → mS b0 s H locs → lv_has ls 5 [(0, .ref v0), (1, .int v1), (2, .int v2), (3, .int v3), (4, .int v4)] → W p l e ({ frames := 2, cells := 0, slots := 0, locals := 44 } : Room) s m args below meth c H locs 0 0 (MQ below (QW D b0 none res sz) args s 0 0 (fun q => b0 ≤ q)) (F0 m 45 ls [.int t3, .int t2, .int t1, .ref t0]) := by
  obtain ⟨hx, hb, hr, hml, hown, hts, hlocks, hK⟩ := id C0
  intro v0 v1 v2 v3 v4 t0 t1 t2 t3 f h H locs ls hM hS hl
  unfold f_X7_connect_45 at h
  refine lv_ior hx hb dX7_connect_45 ?_
  replace h := o_b h; obtain ⟨f46, h46, h⟩ := h
  refine m_iast hx hb hK.1 hM hS rfl h46 dX7_connect_46 (fun H locs hM hS => ?_)
  refine lv_iinc (v := (v4 + (1 : Int32))) (lv' := [(4, .int (v4 + (1 : Int32))), (0, .ref v0), (1, .int v1), (2, .int v2), (3, .int v3)]) hx hb dX7_connect_47 hl (k := 4) rfl rfl (by decide) rfl (fun ls hl => ?_)
  refine lv_goto (tgt := 9) hx hb dX7_connect_50 (by decide) ?_
  exact hk9 _ _ _ _ _ _ h _ _ _ hM hS (lv_sub hl [1, 2, 3, 4, 0] rfl)
set_option maxHeartbeats 4000000 in
set_option maxRecDepth 100000 in
theorem w_X7_connect_9 (C0 : CX cX7_connect 5 none wsX7_connect RX7 p s m args meth c D b0) {res : mmF} : ∀ (n : Nat), ∀ (v0 : Nat) (v1 : Int32) (v2 : Int32) (v3 : Int32) (v4 : Int32) (f : mmF), f_X7_connect_9 n v0 v1 v2 v3 v4 f = some res → ∀ (H : Heap) (locs : List Loc) (ls : Array Slot), MM vwCl D b0 f sz s H → mS b0 s H locs → lv_has ls 5 [(0, .ref v0), (1, .int v1), (2, .int v2), (3, .int v3), (4, .int v4)] → W p l e ({ frames := 2, cells := 0, slots := 0, locals := 44 } : Room) s m args below meth c H locs 0 0 (MQ below (QW D b0 none res sz) args s 0 0 (fun q => b0 ≤ q)) (F0 m 9 ls []) := by
  obtain ⟨hx, hb, hr, hml, hown, hts, hlocks, hK⟩ := id C0
  intro n
  induction n with
  | zero =>
    intro v0 v1 v2 v3 v4 f h
    have h : (none : Option (mmF)) = some res := h
    cases h
  | succ n ih =>
    intro v0 v1 v2 v3 v4 f h H locs ls hM hS hl
    rw [f_X7_connect_9] at h
    refine lv_iload hx hb dX7_connect_9 (lv_at hl 4 rfl) ?_
    refine lv_aload_n hx hb dX7_connect_11 rfl (lv_at hl 0 rfl) ?_
    replace h := o_b h; obtain ⟨x12, h12, h⟩ := h
    refine m_get (C := RX7) (T := TX7) (N := 7) (ci := 7) hx hb hts qi_X7_connect_X7 hown hK.1 hM 0 (ldI_F h12) rfl (by decide) (hts _ q_X7_connect_1) (fun _ h9 => h9) dX7_connect_12 ?_
    refine lv_icmp_ge (tgt := 53) hx hb dX7_connect_15 (by decide) (fun c15 => ?_) (fun c15 => ?_)
    · replace h := o_t c15 h
      refine lv_aload_n hx hb dX7_connect_53 rfl (lv_at hl 0 rfl) ?_
      refine lv_aload_n hx hb dX7_connect_54 rfl (lv_at hl 0 rfl) ?_
      replace h := o_b h; obtain ⟨x55, h55, h⟩ := h
      refine m_get (C := RX7) (T := TX7) (N := 7) (ci := 7) hx hb hts qi_X7_connect_X7 hown hK.1 hM 1 (ldR_F h55) rfl (by decide) (hts _ q_X7_connect_2) (fun _ h9 => h9) dX7_connect_55 ?_
      refine lv_iload_n hx hb dX7_connect_58 rfl (lv_at hl 2 rfl) ?_
      replace h := o_b h; obtain ⟨x59, h59, h⟩ := h
      refine m_iald hx hb hK.1 hM hS rfl h59 dX7_connect_59 ?_
      refine lv_aload_n hx hb dX7_connect_60 rfl (lv_at hl 0 rfl) ?_
      replace h := o_b h; obtain ⟨x61, h61, h⟩ := h
      refine m_get (C := RX7) (T := TX7) (N := 7) (ci := 7) hx hb hts qi_X7_connect_X7 hown hK.1 hM 2 (ldR_F h61) rfl (by decide) (hts _ q_X7_connect_3) (fun _ h9 => h9) dX7_connect_61 ?_
      refine lv_iload_n hx hb dX7_connect_64 rfl (lv_at hl 1 rfl) ?_
      replace h := o_b h; obtain ⟨x65, h65, h⟩ := h
      refine m_iald hx hb hK.1 hM hS rfl h65 dX7_connect_65 ?_
      replace h := o_b h; obtain ⟨_, k66, h⟩ := h
      replace h := o_b h; obtain ⟨q66, h66, h⟩ := h
      refine m_call (va_runV (As := [.int x59, .int x65]) (rest := []) ⟨hx, hb, hml, hown, hts⟩ (c_X7_teach l D b0 sz h66) (cwV 2 hts gX7_connect_X7_teach rfl rfl rfl (by decide +kernel) ⟨Nat.le_of_ble_eq_true rfl, Nat.le_of_ble_eq_true rfl⟩) ⟨PW.blind, m_recv (ci := 7) rfl hK hM k66, (fun U hU hW => ⟨rfl, PW.call hK hM hS hU hW⟩)⟩ rfl rfl hl.1 rfl (lv_room (Nat.le_of_ble_eq_true rfl)) dX7_connect_66 ⟨(Nat.le_refl _), (Nat.le_refl _)⟩) hS (fun H locs hM hS => ?_)
      replace h := Option.some.inj h; subst h
      exact W.vret hx hb hr (fun t ht hW => ⟨rfl, by rw [ht]; exact hM.moved hW.alike, hS.F ht⟩) hS.2.2 dX7_connect_69
    replace h := o_f c15 h
    refine lv_aload_n hx hb dX7_connect_18 rfl (lv_at hl 0 rfl) ?_
    replace h := o_b h; obtain ⟨x19, h19, h⟩ := h
    refine m_get (C := RX7) (T := TX7) (N := 7) (ci := 7) hx hb hts qi_X7_connect_X7 hown hK.1 hM 1 (ldR_F h19) rfl (by decide) (hts _ q_X7_connect_2) (fun _ h9 => h9) dX7_connect_19 ?_
    refine lv_iload hx hb dX7_connect_22 (lv_at hl 4 rfl) ?_
    refine lv_dup2_11 hx hb dX7_connect_24 rfl rfl ?_
    replace h := o_b h; obtain ⟨x25, h25, h⟩ := h
    refine m_iald hx hb hK.1 hM hS rfl h25 dX7_connect_25 ?_
    refine lv_iload_n hx hb dX7_connect_26 rfl (lv_at hl 3 rfl) ?_
    refine lv_iload hx hb dX7_connect_27 (lv_at hl 4 rfl) ?_
    replace h := o_b h; obtain ⟨q29, h29, h⟩ := h
    refine m_call (va_runSN (As := [.int v3, .int v4]) (rest := [.int x25, .int v4, .ref x19]) ⟨hx, hb, hml, hown, hts⟩ (c_X9_has l D b0 sz h29) ⟨(va_cnB 2 hts gX7_connect_X9_has_n48 rfl rfl rfl (hK.2.1 (RX7, 48, yX9_has, "StageTruths") (by decide)) (hts _ q_X7_connect_4) (by decide +kernel) ⟨Nat.le_of_ble_eq_true rfl, Nat.le_of_ble_eq_true rfl⟩), (hts _ q_X7_connect_5), trivial⟩ ⟨PW.blind, (fun U hU hW => ⟨rfl, PW.call hK hM hS hU hW⟩)⟩ rfl rfl hl.1 rfl (lv_room (Nat.le_of_ble_eq_true rfl)) dX7_connect_29 ⟨(Nat.le_refl _), (Nat.le_refl _)⟩) hS (fun H locs hM hS => ?_)
    refine lv_if_eq (tgt := 44) hx hb dX7_connect_32 (by decide) (fun c32 => ?_) (fun c32 => ?_)
    · replace h := o_t c32 h
      refine lv_iconst (v := (0 : Int32)) hx hb dX7_connect_44 (by decide) ?_
      exact w_X7_connect_45 C0 ih _ _ _ _ _ _ _ _ _ _ h _ _ _ hM hS (lv_sub hl [0, 1, 2, 3, 4] rfl)
    replace h := o_f c32 h
    refine lv_aload_n hx hb dX7_connect_35 rfl (lv_at hl 0 rfl) ?_
    replace h := o_b h; obtain ⟨x36, h36, h⟩ := h
    refine m_get (C := RX7) (T := TX7) (N := 7) (ci := 7) hx hb hts qi_X7_connect_X7 hown hK.1 hM 1 (ldR_F h36) rfl (by decide) (hts _ q_X7_connect_2) (fun _ h9 => h9) dX7_connect_36 ?_
    refine lv_iload_n hx hb dX7_connect_39 rfl (lv_at hl 2 rfl) ?_
    replace h := o_b h; obtain ⟨x40, h40, h⟩ := h
    refine m_iald hx hb hK.1 hM hS rfl h40 dX7_connect_40 ?_
    refine lv_goto (tgt := 45) hx hb dX7_connect_41 (by decide) ?_
    exact w_X7_connect_45 C0 ih _ _ _ _ _ _ _ _ _ _ h _ _ _ hM hS (lv_sub hl [0, 1, 2, 3, 4] rfl)
set_option maxHeartbeats 4000000 in
set_option maxRecDepth 100000 in
theorem w_X7_connect (C0 : CX cX7_connect 5 none wsX7_connect RX7 p s m args meth c D b0) {v0 : Nat} {v1 : Int32} {v2 : Int32} {res : mmF} (h : f_X7_connect v0 v1 v2 f = some res) : ∀ (H : Heap) (locs : List Loc) (ls : Array Slot), MM vwCl D b0 f sz s H → mS b0 s H locs → lv_has ls 5 [(0, .ref v0), (1, .int v1), (2, .int v2)] → W p l e ({ frames := 2, cells := 0, slots := 0, locals := 44 } : Room) s m args below meth c H locs 0 0 (MQ below (QW D b0 none res sz) args s 0 0 (fun q => b0 ≤ q)) (F0 m 0 ls []) := by
  obtain ⟨hx, hb, hr, hml, hown, hts, hlocks, hK⟩ := id C0
  intro H locs ls hM hS hl
  unfold f_X7_connect at h
  refine lv_aload_n hx hb dX7_connect_0 rfl (lv_at hl 0 rfl) ?_
  refine lv_iload_n hx hb dX7_connect_1 rfl (lv_at hl 1 rfl) ?_
  replace h := o_b h; obtain ⟨_, k2, h⟩ := h
  replace h := o_b h; obtain ⟨q2, h2, h⟩ := h
  refine m_call (va_runV (As := [.int v1]) (rest := []) ⟨hx, hb, hml, hown, hts⟩ (c_X7_earlier l D b0 sz h2) (cwV 1 hts gX7_connect_X7_earlier rfl rfl rfl (by decide +kernel) ⟨Nat.le_of_ble_eq_true rfl, Nat.le_of_ble_eq_true rfl⟩) ⟨PW.blind, m_recv (ci := 7) rfl hK hM k2, (fun U hU hW => ⟨rfl, PW.call hK hM hS hU hW⟩)⟩ rfl rfl hl.1 rfl (lv_room (Nat.le_of_ble_eq_true rfl)) dX7_connect_2 ⟨(Nat.le_refl _), (Nat.le_refl _)⟩) hS (fun H locs hM hS => ?_)
  refine lv_istore_n (lv' := [(3, .int q2), (0, .ref v0), (1, .int v1), (2, .int v2)]) hx hb dX7_connect_5 rfl hl (by decide) rfl (fun ls hl => ?_)
  refine lv_iconst (v := (0 : Int32)) hx hb dX7_connect_6 (by decide) ?_
  refine lv_istore (lv' := [(4, .int (0 : Int32)), (3, .int q2), (0, .ref v0), (1, .int v1), (2, .int v2)]) hx hb dX7_connect_7 hl (by decide) rfl (fun ls hl => ?_)
  exact w_X7_connect_9 C0 FU _ _ _ _ _ _ h _ _ _ hM hS (lv_sub hl [2, 3, 4, 1, 0] rfl)
set_option maxHeartbeats 4000000 in
set_option maxRecDepth 100000 in
theorem c_X7_connect (l : Launch) (D : mmD) (b0 sz : Nat) {v0 : Nat} {v1 : Int32} {v2 : Int32} {f : mmF} {res : mmF} (h : f_X7_connect v0 v1 v2 f = some res) : Met l yX7_connect wsX7_connect ({ frames := 2, cells := 0, slots := 0, locals := 44 } : Room) (va_Pc [.ref v0, .int v1, .int v2] (PW D b0 f sz)) (QW D b0 none res sz) 0 0 (fun q => b0 ≤ q) := by
  refine Met.ofW (cc := cX7_connect) (maxL := 5) (ret := none) (by decide) rfl ?_
  intro p e s m args below meth c s₁ B hml hv
  obtain ⟨rfl, hM, hK⟩ := hv
  have hl := lv_entry ([.ref v0, .int v1, .int v2]) (n := 5) (Nat.le_of_ble_eq_true rfl)
  rw [lg_entry_eq]
  generalize (lg_sl ([.ref v0, .int v1, .int v2]) ++ List.replicate (5 - (lg_sl ([.ref v0, .int v1, .int v2])).length) Slot.unset).toArray = ls at hl ⊢
  have hl : lv_has ls 5 [(0, .ref v0), (1, .int v1), (2, .int v2)] := hl
  exact w_X7_connect ⟨B.exec, B.bytes, B.returns, hml, findClass_of_methodNamed B.named, atoms_spec (ws := wsX7_connect) B.pre, B.notSynchronized, hK⟩ h s.heap [] ls hM va_S.rf hl
end S_X7_connect
/-! X7_unteach -/
set_option maxRecDepth 20000 in
theorem qi_X7_unteach_X7 : ∀ w ∈ u_ws RX7 TX7 7, w ∈ wsX7_unteach := by decide +kernel
set_option maxRecDepth 20000 in
theorem q_X7_unteach_1 : Cond.fieldLink RX7 9 "StageTruths$State" "stages" "I" ∈ wsX7_unteach := by decide +kernel
set_option maxRecDepth 20000 in
theorem q_X7_unteach_2 : Cond.fieldLink RX7 19 "StageTruths$State" "facts" "[I" ∈ wsX7_unteach := by decide +kernel
set_option maxRecDepth 20000 in
theorem q_X7_unteach_3 : Cond.initialized RX9 ∈ wsX7_unteach := by decide +kernel
set_option maxRecDepth 20000 in
theorem q_X7_unteach_4 : Cond.static yX9_has ∈ wsX7_unteach := by decide +kernel
noncomputable def f_X7_unteach_32 (k2 : Nat → Int32 → Int32 → Int32 → mmF → Option (mmF))  (v0 : Nat) (v1 : Int32) (v2 : Int32) (v3 : Int32) (t0 : Nat) (t1 : Int32) (t2 : Int32) (t3 : Int32) (f : mmF) : Option (mmF) :=
  (stA 0 f t0 t1 (t2 &&& t3)).bind fun f33 =>
  k2 v0 v1 v2 (v3 + (1 : Int32)) f33
noncomputable def f_X7_unteach_2   : Nat → Nat → Int32 → Int32 → Int32 → mmF → Option (mmF)
  | 0, _, _, _, _, _ => none
  | n + 1, v0, v1, v2, v3, f =>
    (ldI f v0 7 0).bind fun x4 =>
    if x4 ≤ v3 then
    (some (f))
    else
    (ldR f v0 7 2).bind fun x11 =>
    (ldA 0 f x11 v3).bind fun x16 =>
    (f_X9_has v1 v3 f).bind fun q19 =>
    if q19 = 0 then
    (f_X7_unteach_32 (fun a0 a1 a2 a3 a4 => f_X7_unteach_2 n a0 a1 a2 a3 a4) v0 v1 v2 v3 x11 v3 x16 (-1 : Int32) f)
    else
    f_X7_unteach_32 (fun a0 a1 a2 a3 a4 => f_X7_unteach_2 n a0 a1 a2 a3 a4) v0 v1 v2 v3 x11 v3 x16 (v2 ^^^ (-1 : Int32)) f
noncomputable def f_X7_unteach (v0 : Nat) (v1 : Int32) (v2 : Int32) (f : mmF) : Option (mmF) :=
  f_X7_unteach_2 FU v0 v1 v2 (0 : Int32) f
section S_X7_unteach
variable {p : Program} {l : Launch} {e : Env} {s : State} {m : MethodId} {args : Array Value} {below : List Frame} {meth : Method} {c : Code} {D : mmD} {b0 sz : Nat} {f : mmF}
set_option maxHeartbeats 4000000 in
set_option maxRecDepth 100000 in
theorem w_X7_unteach_32 (C0 : CX cX7_unteach 4 none wsX7_unteach RX7 p s m args meth c D b0) {k2 : Nat → Int32 → Int32 → Int32 → mmF → Option (mmF)} {res : mmF} (hk2 : ∀ (v0 : Nat) (v1 : Int32) (v2 : Int32) (v3 : Int32) (f : mmF), k2 v0 v1 v2 v3 f = some res → ∀ (H : Heap) (locs : List Loc) (ls : Array Slot), MM vwCl D b0 f sz s H → mS b0 s H locs → lv_has ls 4 [(0, .ref v0), (1, .int v1), (2, .int v2), (3, .int v3)] → W p l e ({ frames := 1, cells := 0, slots := 0, locals := 21 } : Room) s m args below meth c H locs 0 0 (MQ below (QW D b0 none res sz) args s 0 0 (fun q => b0 ≤ q)) (F0 m 2 ls [])) : ∀ (v0 : Nat) (v1 : Int32) (v2 : Int32) (v3 : Int32) (t0 : Nat) (t1 : Int32) (t2 : Int32) (t3 : Int32) (f : mmF), f_X7_unteach_32 k2 v0 v1 v2 v3 t0 t1 t2 t3 f = some res → ∀ (H : Heap) (locs : List Loc) (ls : Array Slot), MM vwCl D b0 f sz s H → mS b0 s H locs → lv_has ls 4 [(0, .ref v0), (1, .int v1), (2, .int v2), (3, .int v3)] → W p l e ({ frames := 1, cells := 0, slots := 0, locals := 21 } : Room) s m args below meth c H locs 0 0 (MQ below (QW D b0 none res sz) args s 0 0 (fun q => b0 ≤ q)) (F0 m 32 ls [.int t3, .int t2, .int t1, .ref t0]) := by
  obtain ⟨hx, hb, hr, hml, hown, hts, hlocks, hK⟩ := id C0
  intro v0 v1 v2 v3 t0 t1 t2 t3 f h H locs ls hM hS hl
  unfold f_X7_unteach_32 at h
  refine lv_iand hx hb dX7_unteach_32 ?_
  replace h := o_b h; obtain ⟨f33, h33, h⟩ := h
  refine m_iast hx hb hK.1 hM hS rfl h33 dX7_unteach_33 (fun H locs hM hS => ?_)
  refine lv_iinc (v := (v3 + (1 : Int32))) (lv' := [(3, .int (v3 + (1 : Int32))), (0, .ref v0), (1, .int v1), (2, .int v2)]) hx hb dX7_unteach_34 hl (k := 3) rfl rfl (by decide) rfl (fun ls hl => ?_)
  refine lv_goto (tgt := 2) hx hb dX7_unteach_37 (by decide) ?_
  exact hk2 _ _ _ _ _ h _ _ _ hM hS (lv_sub hl [1, 2, 3, 0] rfl)
set_option maxHeartbeats 4000000 in
set_option maxRecDepth 100000 in
theorem w_X7_unteach_2 (C0 : CX cX7_unteach 4 none wsX7_unteach RX7 p s m args meth c D b0) {res : mmF} : ∀ (n : Nat), ∀ (v0 : Nat) (v1 : Int32) (v2 : Int32) (v3 : Int32) (f : mmF), f_X7_unteach_2 n v0 v1 v2 v3 f = some res → ∀ (H : Heap) (locs : List Loc) (ls : Array Slot), MM vwCl D b0 f sz s H → mS b0 s H locs → lv_has ls 4 [(0, .ref v0), (1, .int v1), (2, .int v2), (3, .int v3)] → W p l e ({ frames := 1, cells := 0, slots := 0, locals := 21 } : Room) s m args below meth c H locs 0 0 (MQ below (QW D b0 none res sz) args s 0 0 (fun q => b0 ≤ q)) (F0 m 2 ls []) := by
  obtain ⟨hx, hb, hr, hml, hown, hts, hlocks, hK⟩ := id C0
  intro n
  induction n with
  | zero =>
    intro v0 v1 v2 v3 f h
    have h : (none : Option (mmF)) = some res := h
    cases h
  | succ n ih =>
    intro v0 v1 v2 v3 f h H locs ls hM hS hl
    rw [f_X7_unteach_2] at h
    refine lv_iload_n hx hb dX7_unteach_2 rfl (lv_at hl 3 rfl) ?_
    refine lv_aload_n hx hb dX7_unteach_3 rfl (lv_at hl 0 rfl) ?_
    replace h := o_b h; obtain ⟨x4, h4, h⟩ := h
    refine m_get (C := RX7) (T := TX7) (N := 7) (ci := 7) hx hb hts qi_X7_unteach_X7 hown hK.1 hM 0 (ldI_F h4) rfl (by decide) (hts _ q_X7_unteach_1) (fun _ h9 => h9) dX7_unteach_4 ?_
    refine lv_icmp_ge (tgt := 40) hx hb dX7_unteach_7 (by decide) (fun c7 => ?_) (fun c7 => ?_)
    · replace h := o_t c7 h
      replace h := Option.some.inj h; subst h
      exact W.vret hx hb hr (fun t ht hW => ⟨rfl, by rw [ht]; exact hM.moved hW.alike, hS.F ht⟩) hS.2.2 dX7_unteach_40
    replace h := o_f c7 h
    refine lv_aload_n hx hb dX7_unteach_10 rfl (lv_at hl 0 rfl) ?_
    replace h := o_b h; obtain ⟨x11, h11, h⟩ := h
    refine m_get (C := RX7) (T := TX7) (N := 7) (ci := 7) hx hb hts qi_X7_unteach_X7 hown hK.1 hM 2 (ldR_F h11) rfl (by decide) (hts _ q_X7_unteach_2) (fun _ h9 => h9) dX7_unteach_11 ?_
    refine lv_iload_n hx hb dX7_unteach_14 rfl (lv_at hl 3 rfl) ?_
    refine lv_dup2_11 hx hb dX7_unteach_15 rfl rfl ?_
    replace h := o_b h; obtain ⟨x16, h16, h⟩ := h
    refine m_iald hx hb hK.1 hM hS rfl h16 dX7_unteach_16 ?_
    refine lv_iload_n hx hb dX7_unteach_17 rfl (lv_at hl 1 rfl) ?_
    refine lv_iload_n hx hb dX7_unteach_18 rfl (lv_at hl 3 rfl) ?_
    replace h := o_b h; obtain ⟨q19, h19, h⟩ := h
    refine m_call (va_runSN (As := [.int v1, .int v3]) (rest := [.int x16, .int v3, .ref x11]) ⟨hx, hb, hml, hown, hts⟩ (c_X9_has l D b0 sz h19) ⟨(va_cnB 2 hts gX7_unteach_X9_has_n48 rfl rfl rfl (hK.2.1 (RX7, 48, yX9_has, "StageTruths") (by decide)) (hts _ q_X7_unteach_3) (by decide +kernel) ⟨Nat.le_of_ble_eq_true rfl, Nat.le_of_ble_eq_true rfl⟩), (hts _ q_X7_unteach_4), trivial⟩ ⟨PW.blind, (fun U hU hW => ⟨rfl, PW.call hK hM hS hU hW⟩)⟩ rfl rfl hl.1 rfl (lv_room (Nat.le_of_ble_eq_true rfl)) dX7_unteach_19 ⟨(Nat.le_refl _), (Nat.le_refl _)⟩) hS (fun H locs hM hS => ?_)
    refine lv_if_eq (tgt := 31) hx hb dX7_unteach_22 (by decide) (fun c22 => ?_) (fun c22 => ?_)
    · replace h := o_t c22 h
      refine lv_iconst (v := (-1 : Int32)) hx hb dX7_unteach_31 (by decide) ?_
      exact w_X7_unteach_32 C0 ih _ _ _ _ _ _ _ _ _ h _ _ _ hM hS (lv_sub hl [0, 1, 2, 3] rfl)
    replace h := o_f c22 h
    refine lv_iload_n hx hb dX7_unteach_25 rfl (lv_at hl 2 rfl) ?_
    refine lv_iconst (v := (-1 : Int32)) hx hb dX7_unteach_26 (by decide) ?_
    refine lv_ixor hx hb dX7_unteach_27 ?_
    refine lv_goto (tgt := 32) hx hb dX7_unteach_28 (by decide) ?_
    exact w_X7_unteach_32 C0 ih _ _ _ _ _ _ _ _ _ h _ _ _ hM hS (lv_sub hl [0, 1, 2, 3] rfl)
set_option maxHeartbeats 4000000 in
set_option maxRecDepth 100000 in
theorem w_X7_unteach (C0 : CX cX7_unteach 4 none wsX7_unteach RX7 p s m args meth c D b0) {v0 : Nat} {v1 : Int32} {v2 : Int32} {res : mmF} (h : f_X7_unteach v0 v1 v2 f = some res) : ∀ (H : Heap) (locs : List Loc) (ls : Array Slot), MM vwCl D b0 f sz s H → mS b0 s H locs → lv_has ls 4 [(0, .ref v0), (1, .int v1), (2, .int v2)] → W p l e ({ frames := 1, cells := 0, slots := 0, locals := 21 } : Room) s m args below meth c H locs 0 0 (MQ below (QW D b0 none res sz) args s 0 0 (fun q => b0 ≤ q)) (F0 m 0 ls []) := by
  obtain ⟨hx, hb, hr, hml, hown, hts, hlocks, hK⟩ := id C0
  intro H locs ls hM hS hl
  unfold f_X7_unteach at h
  refine lv_iconst (v := (0 : Int32)) hx hb dX7_unteach_0 (by decide) ?_
  refine lv_istore_n (lv' := [(3, .int (0 : Int32)), (0, .ref v0), (1, .int v1), (2, .int v2)]) hx hb dX7_unteach_1 rfl hl (by decide) rfl (fun ls hl => ?_)
  exact w_X7_unteach_2 C0 FU _ _ _ _ _ h _ _ _ hM hS (lv_sub hl [1, 2, 3, 0] rfl)
set_option maxHeartbeats 4000000 in
set_option maxRecDepth 100000 in
theorem c_X7_unteach (l : Launch) (D : mmD) (b0 sz : Nat) {v0 : Nat} {v1 : Int32} {v2 : Int32} {f : mmF} {res : mmF} (h : f_X7_unteach v0 v1 v2 f = some res) : Met l yX7_unteach wsX7_unteach ({ frames := 1, cells := 0, slots := 0, locals := 21 } : Room) (va_Pc [.ref v0, .int v1, .int v2] (PW D b0 f sz)) (QW D b0 none res sz) 0 0 (fun q => b0 ≤ q) := by
  refine Met.ofW (cc := cX7_unteach) (maxL := 4) (ret := none) (by decide) rfl ?_
  intro p e s m args below meth c s₁ B hml hv
  obtain ⟨rfl, hM, hK⟩ := hv
  have hl := lv_entry ([.ref v0, .int v1, .int v2]) (n := 4) (Nat.le_of_ble_eq_true rfl)
  rw [lg_entry_eq]
  generalize (lg_sl ([.ref v0, .int v1, .int v2]) ++ List.replicate (4 - (lg_sl ([.ref v0, .int v1, .int v2])).length) Slot.unset).toArray = ls at hl ⊢
  have hl : lv_has ls 4 [(0, .ref v0), (1, .int v1), (2, .int v2)] := hl
  exact w_X7_unteach ⟨B.exec, B.bytes, B.returns, hml, findClass_of_methodNamed B.named, atoms_spec (ws := wsX7_unteach) B.pre, B.notSynchronized, hK⟩ h s.heap [] ls hM va_S.rf hl
end S_X7_unteach
/-! X7_takeOut -/
set_option maxRecDepth 20000 in
theorem qi_X7_takeOut_X7 : ∀ w ∈ u_ws RX7 TX7 7, w ∈ wsX7_takeOut := by decide +kernel
set_option maxRecDepth 20000 in
theorem q_X7_takeOut_1 : Cond.fieldLink RX7 9 "StageTruths$State" "stages" "I" ∈ wsX7_takeOut := by decide +kernel
set_option maxRecDepth 20000 in
theorem q_X7_takeOut_2 : Cond.fieldLink RX7 15 "StageTruths$State" "later" "[I" ∈ wsX7_takeOut := by decide +kernel
set_option maxRecDepth 20000 in
theorem q_X7_takeOut_3 : Cond.fieldLink RX7 19 "StageTruths$State" "facts" "[I" ∈ wsX7_takeOut := by decide +kernel
noncomputable def f_X7_takeOut_64   : Nat → Nat → Int32 → Int32 → mmF → Option (mmF)
  | 0, _, _, _, _ => none
  | n + 1, v0, v2, v3, f =>
    (ldI f v0 7 0).bind fun x66 =>
    if x66 ≤ v3 then
    (some (f))
    else
    (ldR f v0 7 1).bind fun x73 =>
    (ldR f v0 7 1).bind fun x78 =>
    (ldA 0 f x78 v3).bind fun x82 =>
    (ldR f v0 7 1).bind fun x86 =>
    (ldA 0 f x86 v3).bind fun x90 =>
    (stA 0 f x73 v3 ((x82 &&& v2) ||| ((x90 >>> ((1 : Int32) &&& 31)) &&& (v2 ^^^ (-1 : Int32))))).bind fun f98 =>
    f_X7_takeOut_64 n v0 v2 (v3 + (1 : Int32)) f98
noncomputable def f_X7_takeOut_2   : Nat → Nat → Int32 → Int32 → mmF → Option (mmF)
  | 0, _, _, _, _ => none
  | n + 1, v0, v1, v2, f =>
    (ldI f v0 7 0).bind fun x6 =>
    if x6 ≤ (v2 + (1 : Int32)) then
    ((ldI f v0 7 0).bind fun x48 =>
    (stF f v0 7 0 (.int (x48 - (1 : Int32)))).bind fun f53 =>
    f_X7_takeOut_64 FU v0 (((1 : Int32) <<< (v1 &&& 31)) - (1 : Int32)) (0 : Int32) f53)
    else
    (ldR f v0 7 1).bind fun x13 =>
    (ldR f v0 7 1).bind fun x18 =>
    (ldA 0 f x18 (v2 + (1 : Int32))).bind fun x24 =>
    (stA 0 f x13 v2 x24).bind fun f25 =>
    (ldR f25 v0 7 2).bind fun x27 =>
    (ldR f25 v0 7 2).bind fun x32 =>
    (ldA 0 f25 x32 (v2 + (1 : Int32))).bind fun x38 =>
    (stA 0 f25 x27 v2 x38).bind fun f39 =>
    f_X7_takeOut_2 n v0 v1 (v2 + (1 : Int32)) f39
noncomputable def f_X7_takeOut (v0 : Nat) (v1 : Int32) (f : mmF) : Option (mmF) :=
  f_X7_takeOut_2 FU v0 v1 v1 f
section S_X7_takeOut
variable {p : Program} {l : Launch} {e : Env} {s : State} {m : MethodId} {args : Array Value} {below : List Frame} {meth : Method} {c : Code} {D : mmD} {b0 sz : Nat} {f : mmF}
set_option maxHeartbeats 4000000 in
set_option maxRecDepth 100000 in
theorem w_X7_takeOut_64 (C0 : CX cX7_takeOut 4 none wsX7_takeOut RX7 p s m args meth c D b0) {res : mmF} : ∀ (n : Nat), ∀ (v0 : Nat) (v2 : Int32) (v3 : Int32) (f : mmF), f_X7_takeOut_64 n v0 v2 v3 f = some res → ∀ (H : Heap) (locs : List Loc) (ls : Array Slot), MM vwCl D b0 f sz s H → mS b0 s H locs → lv_has ls 4 [(0, .ref v0), (2, .int v2), (3, .int v3)] → W p l e ({ frames := 0, cells := 0, slots := 0, locals := 0 } : Room) s m args below meth c H locs 0 0 (MQ below (QW D b0 none res sz) args s 0 0 (fun q => b0 ≤ q)) (F0 m 64 ls []) := by
  obtain ⟨hx, hb, hr, hml, hown, hts, hlocks, hK⟩ := id C0
  intro n
  induction n with
  | zero =>
    intro v0 v2 v3 f h
    have h : (none : Option (mmF)) = some res := h
    cases h
  | succ n ih =>
    intro v0 v2 v3 f h H locs ls hM hS hl
    rw [f_X7_takeOut_64] at h
    refine lv_iload_n hx hb dX7_takeOut_64 rfl (lv_at hl 2 rfl) ?_
    refine lv_aload_n hx hb dX7_takeOut_65 rfl (lv_at hl 0 rfl) ?_
    replace h := o_b h; obtain ⟨x66, h66, h⟩ := h
    refine m_get (C := RX7) (T := TX7) (N := 7) (ci := 7) hx hb hts qi_X7_takeOut_X7 hown hK.1 hM 0 (ldI_F h66) rfl (by decide) (hts _ q_X7_takeOut_1) (fun _ h9 => h9) dX7_takeOut_66 ?_
    refine lv_icmp_ge (tgt := 105) hx hb dX7_takeOut_69 (by decide) (fun c69 => ?_) (fun c69 => ?_)
    · replace h := o_t c69 h
      replace h := Option.some.inj h; subst h
      exact W.vret hx hb hr (fun t ht hW => ⟨rfl, by rw [ht]; exact hM.moved hW.alike, hS.F ht⟩) hS.2.2 dX7_takeOut_105
    replace h := o_f c69 h
    refine lv_aload_n hx hb dX7_takeOut_72 rfl (lv_at hl 0 rfl) ?_
    replace h := o_b h; obtain ⟨x73, h73, h⟩ := h
    refine m_get (C := RX7) (T := TX7) (N := 7) (ci := 7) hx hb hts qi_X7_takeOut_X7 hown hK.1 hM 1 (ldR_F h73) rfl (by decide) (hts _ q_X7_takeOut_2) (fun _ h9 => h9) dX7_takeOut_73 ?_
    refine lv_iload_n hx hb dX7_takeOut_76 rfl (lv_at hl 2 rfl) ?_
    refine lv_aload_n hx hb dX7_takeOut_77 rfl (lv_at hl 0 rfl) ?_
    replace h := o_b h; obtain ⟨x78, h78, h⟩ := h
    refine m_get (C := RX7) (T := TX7) (N := 7) (ci := 7) hx hb hts qi_X7_takeOut_X7 hown hK.1 hM 1 (ldR_F h78) rfl (by decide) (hts _ q_X7_takeOut_2) (fun _ h9 => h9) dX7_takeOut_78 ?_
    refine lv_iload_n hx hb dX7_takeOut_81 rfl (lv_at hl 2 rfl) ?_
    replace h := o_b h; obtain ⟨x82, h82, h⟩ := h
    refine m_iald hx hb hK.1 hM hS rfl h82 dX7_takeOut_82 ?_
    refine lv_iload_n hx hb dX7_takeOut_83 rfl (lv_at hl 1 rfl) ?_
    refine lv_iand hx hb dX7_takeOut_84 ?_
    refine lv_aload_n hx hb dX7_takeOut_85 rfl (lv_at hl 0 rfl) ?_
    replace h := o_b h; obtain ⟨x86, h86, h⟩ := h
    refine m_get (C := RX7) (T := TX7) (N := 7) (ci := 7) hx hb hts qi_X7_takeOut_X7 hown hK.1 hM 1 (ldR_F h86) rfl (by decide) (hts _ q_X7_takeOut_2) (fun _ h9 => h9) dX7_takeOut_86 ?_
    refine lv_iload_n hx hb dX7_takeOut_89 rfl (lv_at hl 2 rfl) ?_
    replace h := o_b h; obtain ⟨x90, h90, h⟩ := h
    refine m_iald hx hb hK.1 hM hS rfl h90 dX7_takeOut_90 ?_
    refine lv_iconst (v := (1 : Int32)) hx hb dX7_takeOut_91 (by decide) ?_
    refine lv_ishr hx hb dX7_takeOut_92 ?_
    refine lv_iload_n hx hb dX7_takeOut_93 rfl (lv_at hl 1 rfl) ?_
    refine lv_iconst (v := (-1 : Int32)) hx hb dX7_takeOut_94 (by decide) ?_
    refine lv_ixor hx hb dX7_takeOut_95 ?_
    refine lv_iand hx hb dX7_takeOut_96 ?_
    refine lv_ior hx hb dX7_takeOut_97 ?_
    replace h := o_b h; obtain ⟨f98, h98, h⟩ := h
    refine m_iast hx hb hK.1 hM hS rfl h98 dX7_takeOut_98 (fun H locs hM hS => ?_)
    refine lv_iinc (v := (v3 + (1 : Int32))) (lv' := [(3, .int (v3 + (1 : Int32))), (0, .ref v0), (2, .int v2)]) hx hb dX7_takeOut_99 hl (k := 2) rfl rfl (by decide) rfl (fun ls hl => ?_)
    refine lv_goto (tgt := 64) hx hb dX7_takeOut_102 (by decide) ?_
    exact ih _ _ _ _ h _ _ _ hM hS (lv_sub hl [1, 2, 0] rfl)
set_option maxHeartbeats 4000000 in
set_option maxRecDepth 100000 in
theorem w_X7_takeOut_2 (C0 : CX cX7_takeOut 4 none wsX7_takeOut RX7 p s m args meth c D b0) {res : mmF} : ∀ (n : Nat), ∀ (v0 : Nat) (v1 : Int32) (v2 : Int32) (f : mmF), f_X7_takeOut_2 n v0 v1 v2 f = some res → ∀ (H : Heap) (locs : List Loc) (ls : Array Slot), MM vwCl D b0 f sz s H → mS b0 s H locs → lv_has ls 4 [(0, .ref v0), (1, .int v1), (2, .int v2)] → W p l e ({ frames := 0, cells := 0, slots := 0, locals := 0 } : Room) s m args below meth c H locs 0 0 (MQ below (QW D b0 none res sz) args s 0 0 (fun q => b0 ≤ q)) (F0 m 2 ls []) := by
  obtain ⟨hx, hb, hr, hml, hown, hts, hlocks, hK⟩ := id C0
  intro n
  induction n with
  | zero =>
    intro v0 v1 v2 f h
    have h : (none : Option (mmF)) = some res := h
    cases h
  | succ n ih =>
    intro v0 v1 v2 f h H locs ls hM hS hl
    rw [f_X7_takeOut_2] at h
    refine lv_iload_n hx hb dX7_takeOut_2 rfl (lv_at hl 2 rfl) ?_
    refine lv_iconst (v := (1 : Int32)) hx hb dX7_takeOut_3 (by decide) ?_
    refine lv_iadd hx hb dX7_takeOut_4 ?_
    refine lv_aload_n hx hb dX7_takeOut_5 rfl (lv_at hl 0 rfl) ?_
    replace h := o_b h; obtain ⟨x6, h6, h⟩ := h
    refine m_get (C := RX7) (T := TX7) (N := 7) (ci := 7) hx hb hts qi_X7_takeOut_X7 hown hK.1 hM 0 (ldI_F h6) rfl (by decide) (hts _ q_X7_takeOut_1) (fun _ h9 => h9) dX7_takeOut_6 ?_
    refine lv_icmp_ge (tgt := 46) hx hb dX7_takeOut_9 (by decide) (fun c9 => ?_) (fun c9 => ?_)
    · replace h := o_t c9 h
      refine lv_aload_n hx hb dX7_takeOut_46 rfl (lv_at hl 0 rfl) ?_
      refine lv_dup hx hb dX7_takeOut_47 rfl ?_
      replace h := o_b h; obtain ⟨x48, h48, h⟩ := h
      refine m_get (C := RX7) (T := TX7) (N := 7) (ci := 7) hx hb hts qi_X7_takeOut_X7 hown hK.1 hM 0 (ldI_F h48) rfl (by decide) (hts _ q_X7_takeOut_1) (fun _ h9 => h9) dX7_takeOut_48 ?_
      refine lv_iconst (v := (1 : Int32)) hx hb dX7_takeOut_51 (by decide) ?_
      refine lv_isub hx hb dX7_takeOut_52 ?_
      replace h := o_b h; obtain ⟨f53, h53, h⟩ := h
      refine m_put (ty := .int) (C := RX7) (T := TX7) (N := 7) (ci := 7) hx hb hts qi_X7_takeOut_X7 tyX7 tyX7_ok nmX7 hown hK.1 hM hS 0 h53 rfl (by decide) (hts _ q_X7_takeOut_1) (fun _ h9 => h9) rfl (by decide +kernel) rfl rfl dX7_takeOut_53 (fun H locs hM hS => ?_)
      refine lv_iconst (v := (1 : Int32)) hx hb dX7_takeOut_56 (by decide) ?_
      refine lv_iload_n hx hb dX7_takeOut_57 rfl (lv_at hl 1 rfl) ?_
      refine lv_ishl hx hb dX7_takeOut_58 ?_
      refine lv_iconst (v := (1 : Int32)) hx hb dX7_takeOut_59 (by decide) ?_
      refine lv_isub hx hb dX7_takeOut_60 ?_
      refine lv_istore_n (lv' := [(2, .int (((1 : Int32) <<< (v1 &&& 31)) - (1 : Int32))), (0, .ref v0), (1, .int v1)]) hx hb dX7_takeOut_61 rfl hl (by decide) rfl (fun ls hl => ?_)
      refine lv_iconst (v := (0 : Int32)) hx hb dX7_takeOut_62 (by decide) ?_
      refine lv_istore_n (lv' := [(3, .int (0 : Int32)), (2, .int (((1 : Int32) <<< (v1 &&& 31)) - (1 : Int32))), (0, .ref v0), (1, .int v1)]) hx hb dX7_takeOut_63 rfl hl (by decide) rfl (fun ls hl => ?_)
      exact w_X7_takeOut_64 C0 FU _ _ _ _ h _ _ _ hM hS (lv_sub hl [2, 1, 0] rfl)
    replace h := o_f c9 h
    refine lv_aload_n hx hb dX7_takeOut_12 rfl (lv_at hl 0 rfl) ?_
    replace h := o_b h; obtain ⟨x13, h13, h⟩ := h
    refine m_get (C := RX7) (T := TX7) (N := 7) (ci := 7) hx hb hts qi_X7_takeOut_X7 hown hK.1 hM 1 (ldR_F h13) rfl (by decide) (hts _ q_X7_takeOut_2) (fun _ h9 => h9) dX7_takeOut_13 ?_
    refine lv_iload_n hx hb dX7_takeOut_16 rfl (lv_at hl 2 rfl) ?_
    refine lv_aload_n hx hb dX7_takeOut_17 rfl (lv_at hl 0 rfl) ?_
    replace h := o_b h; obtain ⟨x18, h18, h⟩ := h
    refine m_get (C := RX7) (T := TX7) (N := 7) (ci := 7) hx hb hts qi_X7_takeOut_X7 hown hK.1 hM 1 (ldR_F h18) rfl (by decide) (hts _ q_X7_takeOut_2) (fun _ h9 => h9) dX7_takeOut_18 ?_
    refine lv_iload_n hx hb dX7_takeOut_21 rfl (lv_at hl 2 rfl) ?_
    refine lv_iconst (v := (1 : Int32)) hx hb dX7_takeOut_22 (by decide) ?_
    refine lv_iadd hx hb dX7_takeOut_23 ?_
    replace h := o_b h; obtain ⟨x24, h24, h⟩ := h
    refine m_iald hx hb hK.1 hM hS rfl h24 dX7_takeOut_24 ?_
    replace h := o_b h; obtain ⟨f25, h25, h⟩ := h
    refine m_iast hx hb hK.1 hM hS rfl h25 dX7_takeOut_25 (fun H locs hM hS => ?_)
    refine lv_aload_n hx hb dX7_takeOut_26 rfl (lv_at hl 0 rfl) ?_
    replace h := o_b h; obtain ⟨x27, h27, h⟩ := h
    refine m_get (C := RX7) (T := TX7) (N := 7) (ci := 7) hx hb hts qi_X7_takeOut_X7 hown hK.1 hM 2 (ldR_F h27) rfl (by decide) (hts _ q_X7_takeOut_3) (fun _ h9 => h9) dX7_takeOut_27 ?_
    refine lv_iload_n hx hb dX7_takeOut_30 rfl (lv_at hl 2 rfl) ?_
    refine lv_aload_n hx hb dX7_takeOut_31 rfl (lv_at hl 0 rfl) ?_
    replace h := o_b h; obtain ⟨x32, h32, h⟩ := h
    refine m_get (C := RX7) (T := TX7) (N := 7) (ci := 7) hx hb hts qi_X7_takeOut_X7 hown hK.1 hM 2 (ldR_F h32) rfl (by decide) (hts _ q_X7_takeOut_3) (fun _ h9 => h9) dX7_takeOut_32 ?_
    refine lv_iload_n hx hb dX7_takeOut_35 rfl (lv_at hl 2 rfl) ?_
    refine lv_iconst (v := (1 : Int32)) hx hb dX7_takeOut_36 (by decide) ?_
    refine lv_iadd hx hb dX7_takeOut_37 ?_
    replace h := o_b h; obtain ⟨x38, h38, h⟩ := h
    refine m_iald hx hb hK.1 hM hS rfl h38 dX7_takeOut_38 ?_
    replace h := o_b h; obtain ⟨f39, h39, h⟩ := h
    refine m_iast hx hb hK.1 hM hS rfl h39 dX7_takeOut_39 (fun H locs hM hS => ?_)
    refine lv_iinc (v := (v2 + (1 : Int32))) (lv' := [(2, .int (v2 + (1 : Int32))), (0, .ref v0), (1, .int v1)]) hx hb dX7_takeOut_40 hl (k := 2) rfl rfl (by decide) rfl (fun ls hl => ?_)
    refine lv_goto (tgt := 2) hx hb dX7_takeOut_43 (by decide) ?_
    exact ih _ _ _ _ h _ _ _ hM hS (lv_sub hl [1, 2, 0] rfl)
set_option maxHeartbeats 4000000 in
set_option maxRecDepth 100000 in
theorem w_X7_takeOut (C0 : CX cX7_takeOut 4 none wsX7_takeOut RX7 p s m args meth c D b0) {v0 : Nat} {v1 : Int32} {res : mmF} (h : f_X7_takeOut v0 v1 f = some res) : ∀ (H : Heap) (locs : List Loc) (ls : Array Slot), MM vwCl D b0 f sz s H → mS b0 s H locs → lv_has ls 4 [(0, .ref v0), (1, .int v1)] → W p l e ({ frames := 0, cells := 0, slots := 0, locals := 0 } : Room) s m args below meth c H locs 0 0 (MQ below (QW D b0 none res sz) args s 0 0 (fun q => b0 ≤ q)) (F0 m 0 ls []) := by
  obtain ⟨hx, hb, hr, hml, hown, hts, hlocks, hK⟩ := id C0
  intro H locs ls hM hS hl
  unfold f_X7_takeOut at h
  refine lv_iload_n hx hb dX7_takeOut_0 rfl (lv_at hl 1 rfl) ?_
  refine lv_istore_n (lv' := [(2, .int v1), (0, .ref v0), (1, .int v1)]) hx hb dX7_takeOut_1 rfl hl (by decide) rfl (fun ls hl => ?_)
  exact w_X7_takeOut_2 C0 FU _ _ _ _ h _ _ _ hM hS (lv_sub hl [1, 2, 0] rfl)
set_option maxHeartbeats 4000000 in
set_option maxRecDepth 100000 in
theorem c_X7_takeOut (l : Launch) (D : mmD) (b0 sz : Nat) {v0 : Nat} {v1 : Int32} {f : mmF} {res : mmF} (h : f_X7_takeOut v0 v1 f = some res) : Met l yX7_takeOut wsX7_takeOut ({ frames := 0, cells := 0, slots := 0, locals := 0 } : Room) (va_Pc [.ref v0, .int v1] (PW D b0 f sz)) (QW D b0 none res sz) 0 0 (fun q => b0 ≤ q) := by
  refine Met.ofW (cc := cX7_takeOut) (maxL := 4) (ret := none) (by decide) rfl ?_
  intro p e s m args below meth c s₁ B hml hv
  obtain ⟨rfl, hM, hK⟩ := hv
  have hl := lv_entry ([.ref v0, .int v1]) (n := 4) (Nat.le_of_ble_eq_true rfl)
  rw [lg_entry_eq]
  generalize (lg_sl ([.ref v0, .int v1]) ++ List.replicate (4 - (lg_sl ([.ref v0, .int v1])).length) Slot.unset).toArray = ls at hl ⊢
  have hl : lv_has ls 4 [(0, .ref v0), (1, .int v1)] := hl
  exact w_X7_takeOut ⟨B.exec, B.bytes, B.returns, hml, findClass_of_methodNamed B.named, atoms_spec (ws := wsX7_takeOut) B.pre, B.notSynchronized, hK⟩ h s.heap [] ls hM va_S.rf hl
end S_X7_takeOut
/-! X7_lowestSeenLike -/
set_option maxRecDepth 20000 in
theorem qi_X7_lowestSeenLike_X7 : ∀ w ∈ u_ws RX7 TX7 7, w ∈ wsX7_lowestSeenLike := by decide +kernel
set_option maxRecDepth 20000 in
theorem q_X7_lowestSeenLike_1 : Cond.fieldLink RX7 28 "StageTruths$State" "like" "[I" ∈ wsX7_lowestSeenLike := by decide +kernel
set_option maxRecDepth 20000 in
theorem q_X7_lowestSeenLike_2 : Cond.fieldLink RX7 31 "StageTruths$State" "seen" "[I" ∈ wsX7_lowestSeenLike := by decide +kernel
noncomputable def f_X7_lowestSeenLike_39 (k2 : Nat → Int32 → Int32 → Option (Int32)) (f : mmF) (v0 : Nat) (v1 : Int32) (v2 : Int32) : Option (Int32) :=
  k2 v0 v1 (v2 + (1 : Int32))
noncomputable def f_X7_lowestSeenLike_2  (f : mmF) : Nat → Nat → Int32 → Int32 → Option (Int32)
  | 0, _, _, _ => none
  | n + 1, v0, v1, v2 =>
    if v1 ≤ v2 then
    (some (v1))
    else
    (ldR f v0 7 4).bind fun x8 =>
    (ldA 0 f x8 v2).bind fun x12 =>
    (ldR f v0 7 4).bind fun x14 =>
    (ldA 0 f x14 v1).bind fun x18 =>
    if x12 = x18 then
    ((ldR f v0 7 5).bind fun x23 =>
    (ldA 0 f x23 v2).bind fun x27 =>
    (ldR f v0 7 5).bind fun x29 =>
    (ldA 0 f x29 v1).bind fun x33 =>
    if x27 = x33 then
    (some (v2))
    else
    f_X7_lowestSeenLike_39 (fun a0 a1 a2 => f_X7_lowestSeenLike_2 f n a0 a1 a2) f v0 v1 v2)
    else
    f_X7_lowestSeenLike_39 (fun a0 a1 a2 => f_X7_lowestSeenLike_2 f n a0 a1 a2) f v0 v1 v2
noncomputable def f_X7_lowestSeenLike (v0 : Nat) (v1 : Int32) (f : mmF) : Option (Int32) :=
  f_X7_lowestSeenLike_2 f FU v0 v1 (0 : Int32)
section S_X7_lowestSeenLike
variable {p : Program} {l : Launch} {e : Env} {s : State} {m : MethodId} {args : Array Value} {below : List Frame} {meth : Method} {c : Code} {D : mmD} {b0 sz : Nat} {f : mmF}
set_option maxHeartbeats 4000000 in
set_option maxRecDepth 100000 in
theorem w_X7_lowestSeenLike_39 (C0 : CX cX7_lowestSeenLike 3 (some .int) wsX7_lowestSeenLike RX7 p s m args meth c D b0) {k2 : Nat → Int32 → Int32 → Option (Int32)} {res : Int32} (hk2 : ∀ (v0 : Nat) (v1 : Int32) (v2 : Int32), k2 v0 v1 v2 = some res → ∀ (H : Heap) (locs : List Loc) (ls : Array Slot), MM vwCl D b0 f sz s H → mS b0 s H locs → lv_has ls 3 [(0, .ref v0), (1, .int v1), (2, .int v2)] → W p l e ({ frames := 0, cells := 0, slots := 0, locals := 0 } : Room) s m args below meth c H locs 0 0 (MQ below (QW D b0 (some (.int res)) f sz) args s 0 0 (fun q => b0 ≤ q)) (F0 m 2 ls [])) : ∀ (v0 : Nat) (v1 : Int32) (v2 : Int32), f_X7_lowestSeenLike_39 k2 f v0 v1 v2 = some res → ∀ (H : Heap) (locs : List Loc) (ls : Array Slot), MM vwCl D b0 f sz s H → mS b0 s H locs → lv_has ls 3 [(0, .ref v0), (1, .int v1), (2, .int v2)] → W p l e ({ frames := 0, cells := 0, slots := 0, locals := 0 } : Room) s m args below meth c H locs 0 0 (MQ below (QW D b0 (some (.int res)) f sz) args s 0 0 (fun q => b0 ≤ q)) (F0 m 39 ls []) := by
  obtain ⟨hx, hb, hr, hml, hown, hts, hlocks, hK⟩ := id C0
  intro v0 v1 v2 h H locs ls hM hS hl
  unfold f_X7_lowestSeenLike_39 at h
  refine lv_iinc (v := (v2 + (1 : Int32))) (lv' := [(2, .int (v2 + (1 : Int32))), (0, .ref v0), (1, .int v1)]) hx hb dX7_lowestSeenLike_39 hl (k := 2) rfl rfl (by decide) rfl (fun ls hl => ?_)
  refine lv_goto (tgt := 2) hx hb dX7_lowestSeenLike_42 (by decide) ?_
  exact hk2 _ _ _ h _ _ _ hM hS (lv_sub hl [1, 2, 0] rfl)
set_option maxHeartbeats 4000000 in
set_option maxRecDepth 100000 in
theorem w_X7_lowestSeenLike_2 (C0 : CX cX7_lowestSeenLike 3 (some .int) wsX7_lowestSeenLike RX7 p s m args meth c D b0) {res : Int32} : ∀ (n : Nat), ∀ (v0 : Nat) (v1 : Int32) (v2 : Int32), f_X7_lowestSeenLike_2 f n v0 v1 v2 = some res → ∀ (H : Heap) (locs : List Loc) (ls : Array Slot), MM vwCl D b0 f sz s H → mS b0 s H locs → lv_has ls 3 [(0, .ref v0), (1, .int v1), (2, .int v2)] → W p l e ({ frames := 0, cells := 0, slots := 0, locals := 0 } : Room) s m args below meth c H locs 0 0 (MQ below (QW D b0 (some (.int res)) f sz) args s 0 0 (fun q => b0 ≤ q)) (F0 m 2 ls []) := by
  obtain ⟨hx, hb, hr, hml, hown, hts, hlocks, hK⟩ := id C0
  intro n
  induction n with
  | zero =>
    intro v0 v1 v2 h
    have h : (none : Option (Int32)) = some res := h
    cases h
  | succ n ih =>
    intro v0 v1 v2 h H locs ls hM hS hl
    rw [f_X7_lowestSeenLike_2] at h
    refine lv_iload_n hx hb dX7_lowestSeenLike_2 rfl (lv_at hl 2 rfl) ?_
    refine lv_iload_n hx hb dX7_lowestSeenLike_3 rfl (lv_at hl 1 rfl) ?_
    refine lv_icmp_ge (tgt := 45) hx hb dX7_lowestSeenLike_4 (by decide) (fun c4 => ?_) (fun c4 => ?_)
    · replace h := o_t c4 h
      refine lv_iload_n hx hb dX7_lowestSeenLike_45 rfl (lv_at hl 1 rfl) ?_
      replace h := Option.some.inj h; subst h
      exact W.iret hx hb hr (fun t ht hW => ⟨rfl, by rw [ht]; exact hM.moved hW.alike, hS.F ht⟩) hS.2.2 dX7_lowestSeenLike_46
    replace h := o_f c4 h
    refine lv_aload_n hx hb dX7_lowestSeenLike_7 rfl (lv_at hl 0 rfl) ?_
    replace h := o_b h; obtain ⟨x8, h8, h⟩ := h
    refine m_get (C := RX7) (T := TX7) (N := 7) (ci := 7) hx hb hts qi_X7_lowestSeenLike_X7 hown hK.1 hM 4 (ldR_F h8) rfl (by decide) (hts _ q_X7_lowestSeenLike_1) (fun _ h9 => h9) dX7_lowestSeenLike_8 ?_
    refine lv_iload_n hx hb dX7_lowestSeenLike_11 rfl (lv_at hl 2 rfl) ?_
    replace h := o_b h; obtain ⟨x12, h12, h⟩ := h
    refine m_iald hx hb hK.1 hM hS rfl h12 dX7_lowestSeenLike_12 ?_
    refine lv_aload_n hx hb dX7_lowestSeenLike_13 rfl (lv_at hl 0 rfl) ?_
    replace h := o_b h; obtain ⟨x14, h14, h⟩ := h
    refine m_get (C := RX7) (T := TX7) (N := 7) (ci := 7) hx hb hts qi_X7_lowestSeenLike_X7 hown hK.1 hM 4 (ldR_F h14) rfl (by decide) (hts _ q_X7_lowestSeenLike_1) (fun _ h9 => h9) dX7_lowestSeenLike_14 ?_
    refine lv_iload_n hx hb dX7_lowestSeenLike_17 rfl (lv_at hl 1 rfl) ?_
    replace h := o_b h; obtain ⟨x18, h18, h⟩ := h
    refine m_iald hx hb hK.1 hM hS rfl h18 dX7_lowestSeenLike_18 ?_
    refine lv_icmp_ne (tgt := 39) hx hb dX7_lowestSeenLike_19 (by decide) (fun c19 => ?_) (fun c19 => ?_)
    · replace h := o_f c19 h
      exact w_X7_lowestSeenLike_39 C0 ih _ _ _ h _ _ _ hM hS (lv_sub hl [0, 1, 2] rfl)
    replace h := o_t c19 h
    refine lv_aload_n hx hb dX7_lowestSeenLike_22 rfl (lv_at hl 0 rfl) ?_
    replace h := o_b h; obtain ⟨x23, h23, h⟩ := h
    refine m_get (C := RX7) (T := TX7) (N := 7) (ci := 7) hx hb hts qi_X7_lowestSeenLike_X7 hown hK.1 hM 5 (ldR_F h23) rfl (by decide) (hts _ q_X7_lowestSeenLike_2) (fun _ h9 => h9) dX7_lowestSeenLike_23 ?_
    refine lv_iload_n hx hb dX7_lowestSeenLike_26 rfl (lv_at hl 2 rfl) ?_
    replace h := o_b h; obtain ⟨x27, h27, h⟩ := h
    refine m_iald hx hb hK.1 hM hS rfl h27 dX7_lowestSeenLike_27 ?_
    refine lv_aload_n hx hb dX7_lowestSeenLike_28 rfl (lv_at hl 0 rfl) ?_
    replace h := o_b h; obtain ⟨x29, h29, h⟩ := h
    refine m_get (C := RX7) (T := TX7) (N := 7) (ci := 7) hx hb hts qi_X7_lowestSeenLike_X7 hown hK.1 hM 5 (ldR_F h29) rfl (by decide) (hts _ q_X7_lowestSeenLike_2) (fun _ h9 => h9) dX7_lowestSeenLike_29 ?_
    refine lv_iload_n hx hb dX7_lowestSeenLike_32 rfl (lv_at hl 1 rfl) ?_
    replace h := o_b h; obtain ⟨x33, h33, h⟩ := h
    refine m_iald hx hb hK.1 hM hS rfl h33 dX7_lowestSeenLike_33 ?_
    refine lv_icmp_ne (tgt := 39) hx hb dX7_lowestSeenLike_34 (by decide) (fun c34 => ?_) (fun c34 => ?_)
    · replace h := o_f c34 h
      exact w_X7_lowestSeenLike_39 C0 ih _ _ _ h _ _ _ hM hS (lv_sub hl [0, 1, 2] rfl)
    replace h := o_t c34 h
    refine lv_iload_n hx hb dX7_lowestSeenLike_37 rfl (lv_at hl 2 rfl) ?_
    replace h := Option.some.inj h; subst h
    exact W.iret hx hb hr (fun t ht hW => ⟨rfl, by rw [ht]; exact hM.moved hW.alike, hS.F ht⟩) hS.2.2 dX7_lowestSeenLike_38
set_option maxHeartbeats 4000000 in
set_option maxRecDepth 100000 in
theorem w_X7_lowestSeenLike (C0 : CX cX7_lowestSeenLike 3 (some .int) wsX7_lowestSeenLike RX7 p s m args meth c D b0) {v0 : Nat} {v1 : Int32} {res : Int32} (h : f_X7_lowestSeenLike v0 v1 f = some res) : ∀ (H : Heap) (locs : List Loc) (ls : Array Slot), MM vwCl D b0 f sz s H → mS b0 s H locs → lv_has ls 3 [(0, .ref v0), (1, .int v1)] → W p l e ({ frames := 0, cells := 0, slots := 0, locals := 0 } : Room) s m args below meth c H locs 0 0 (MQ below (QW D b0 (some (.int res)) f sz) args s 0 0 (fun q => b0 ≤ q)) (F0 m 0 ls []) := by
  obtain ⟨hx, hb, hr, hml, hown, hts, hlocks, hK⟩ := id C0
  intro H locs ls hM hS hl
  unfold f_X7_lowestSeenLike at h
  refine lv_iconst (v := (0 : Int32)) hx hb dX7_lowestSeenLike_0 (by decide) ?_
  refine lv_istore_n (lv' := [(2, .int (0 : Int32)), (0, .ref v0), (1, .int v1)]) hx hb dX7_lowestSeenLike_1 rfl hl (by decide) rfl (fun ls hl => ?_)
  exact w_X7_lowestSeenLike_2 C0 FU _ _ _ h _ _ _ hM hS (lv_sub hl [1, 2, 0] rfl)
set_option maxHeartbeats 4000000 in
set_option maxRecDepth 100000 in
theorem c_X7_lowestSeenLike (l : Launch) (D : mmD) (b0 sz : Nat) {v0 : Nat} {v1 : Int32} {f : mmF} {res : Int32} (h : f_X7_lowestSeenLike v0 v1 f = some res) : Met l yX7_lowestSeenLike wsX7_lowestSeenLike ({ frames := 0, cells := 0, slots := 0, locals := 0 } : Room) (va_Pc [.ref v0, .int v1] (PW D b0 f sz)) (QW D b0 (some (.int res)) f sz) 0 0 (fun q => b0 ≤ q) := by
  refine Met.ofW (cc := cX7_lowestSeenLike) (maxL := 3) (ret := (some .int)) (by decide) rfl ?_
  intro p e s m args below meth c s₁ B hml hv
  obtain ⟨rfl, hM, hK⟩ := hv
  have hl := lv_entry ([.ref v0, .int v1]) (n := 3) (Nat.le_of_ble_eq_true rfl)
  rw [lg_entry_eq]
  generalize (lg_sl ([.ref v0, .int v1]) ++ List.replicate (3 - (lg_sl ([.ref v0, .int v1])).length) Slot.unset).toArray = ls at hl ⊢
  have hl : lv_has ls 3 [(0, .ref v0), (1, .int v1)] := hl
  exact w_X7_lowestSeenLike ⟨B.exec, B.bytes, B.returns, hml, findClass_of_methodNamed B.named, atoms_spec (ws := wsX7_lowestSeenLike) B.pre, B.notSynchronized, hK⟩ h s.heap [] ls hM va_S.rf hl
end S_X7_lowestSeenLike
/-! X7_likesOf -/
set_option maxRecDepth 20000 in
theorem qi_X7_likesOf_X7 : ∀ w ∈ u_ws RX7 TX7 7, w ∈ wsX7_likesOf := by decide +kernel
set_option maxRecDepth 20000 in
theorem q_X7_likesOf_1 : Cond.fieldLink RX7 9 "StageTruths$State" "stages" "I" ∈ wsX7_likesOf := by decide +kernel
set_option maxRecDepth 20000 in
theorem q_X7_likesOf_2 : Cond.initialized RX9 ∈ wsX7_likesOf := by decide +kernel
set_option maxRecDepth 20000 in
theorem q_X7_likesOf_3 : Cond.static yX9_has ∈ wsX7_likesOf := by decide +kernel
set_option maxRecDepth 20000 in
theorem q_X7_likesOf_4 : Cond.fieldLink RX7 28 "StageTruths$State" "like" "[I" ∈ wsX7_likesOf := by decide +kernel
noncomputable def f_X7_likesOf_33 (k4 : Nat → Int32 → Int32 → Int32 → Option (Int32)) (f : mmF) (v0 : Nat) (v1 : Int32) (v3 : Int32) (t0 : Int32) (t1 : Int32) : Option (Int32) :=
  k4 v0 v1 (t0 ||| t1) (v3 + (1 : Int32))
noncomputable def f_X7_likesOf_4  (f : mmF) : Nat → Nat → Int32 → Int32 → Int32 → Option (Int32)
  | 0, _, _, _, _ => none
  | n + 1, v0, v1, v2, v3 =>
    (ldI f v0 7 0).bind fun x6 =>
    if x6 ≤ v3 then
    (some (v2))
    else
    (f_X9_has v1 v3 f).bind fun q15 =>
    if q15 = 0 then
    (f_X7_likesOf_33 (fun a0 a1 a2 a3 => f_X7_likesOf_4 f n a0 a1 a2 a3) f v0 v1 v3 v2 (0 : Int32))
    else
    (ldR f v0 7 4).bind fun x23 =>
    (ldA 0 f x23 v3).bind fun x27 =>
    f_X7_likesOf_33 (fun a0 a1 a2 a3 => f_X7_likesOf_4 f n a0 a1 a2 a3) f v0 v1 v3 v2 ((1 : Int32) <<< (x27 &&& 31))
noncomputable def f_X7_likesOf (v0 : Nat) (v1 : Int32) (f : mmF) : Option (Int32) :=
  f_X7_likesOf_4 f FU v0 v1 (0 : Int32) (0 : Int32)
section S_X7_likesOf
variable {p : Program} {l : Launch} {e : Env} {s : State} {m : MethodId} {args : Array Value} {below : List Frame} {meth : Method} {c : Code} {D : mmD} {b0 sz : Nat} {f : mmF}
set_option maxHeartbeats 4000000 in
set_option maxRecDepth 100000 in
theorem w_X7_likesOf_33 (C0 : CX cX7_likesOf 4 (some .int) wsX7_likesOf RX7 p s m args meth c D b0) {k4 : Nat → Int32 → Int32 → Int32 → Option (Int32)} {res : Int32} (hk4 : ∀ (v0 : Nat) (v1 : Int32) (v2 : Int32) (v3 : Int32), k4 v0 v1 v2 v3 = some res → ∀ (H : Heap) (locs : List Loc) (ls : Array Slot), MM vwCl D b0 f sz s H → mS b0 s H locs → lv_has ls 4 [(0, .ref v0), (1, .int v1), (2, .int v2), (3, .int v3)] → W p l e ({ frames := 1, cells := 0, slots := 0, locals := 21 } : Room) s m args below meth c H locs 0 0 (MQ below (QW D b0 (some (.int res)) f sz) args s 0 0 (fun q => b0 ≤ q)) (F0 m 4 ls [])) : ∀ (v0 : Nat) (v1 : Int32) (v3 : Int32) (t0 : Int32) (t1 : Int32), f_X7_likesOf_33 k4 f v0 v1 v3 t0 t1 = some res → ∀ (H : Heap) (locs : List Loc) (ls : Array Slot), MM vwCl D b0 f sz s H → mS b0 s H locs → lv_has ls 4 [(0, .ref v0), (1, .int v1), (3, .int v3)] → W p l e ({ frames := 1, cells := 0, slots := 0, locals := 21 } : Room) s m args below meth c H locs 0 0 (MQ below (QW D b0 (some (.int res)) f sz) args s 0 0 (fun q => b0 ≤ q)) (F0 m 33 ls [.int t1, .int t0]) := by
  obtain ⟨hx, hb, hr, hml, hown, hts, hlocks, hK⟩ := id C0
  intro v0 v1 v3 t0 t1 h H locs ls hM hS hl
  unfold f_X7_likesOf_33 at h
  refine lv_ior hx hb dX7_likesOf_33 ?_
  refine lv_istore_n (lv' := [(2, .int (t0 ||| t1)), (0, .ref v0), (1, .int v1), (3, .int v3)]) hx hb dX7_likesOf_34 rfl hl (by decide) rfl (fun ls hl => ?_)
  refine lv_iinc (v := (v3 + (1 : Int32))) (lv' := [(3, .int (v3 + (1 : Int32))), (2, .int (t0 ||| t1)), (0, .ref v0), (1, .int v1)]) hx hb dX7_likesOf_35 hl (k := 3) rfl rfl (by decide) rfl (fun ls hl => ?_)
  refine lv_goto (tgt := 4) hx hb dX7_likesOf_38 (by decide) ?_
  exact hk4 _ _ _ _ h _ _ _ hM hS (lv_sub hl [2, 3, 1, 0] rfl)
set_option maxHeartbeats 4000000 in
set_option maxRecDepth 100000 in
theorem w_X7_likesOf_4 (C0 : CX cX7_likesOf 4 (some .int) wsX7_likesOf RX7 p s m args meth c D b0) {res : Int32} : ∀ (n : Nat), ∀ (v0 : Nat) (v1 : Int32) (v2 : Int32) (v3 : Int32), f_X7_likesOf_4 f n v0 v1 v2 v3 = some res → ∀ (H : Heap) (locs : List Loc) (ls : Array Slot), MM vwCl D b0 f sz s H → mS b0 s H locs → lv_has ls 4 [(0, .ref v0), (1, .int v1), (2, .int v2), (3, .int v3)] → W p l e ({ frames := 1, cells := 0, slots := 0, locals := 21 } : Room) s m args below meth c H locs 0 0 (MQ below (QW D b0 (some (.int res)) f sz) args s 0 0 (fun q => b0 ≤ q)) (F0 m 4 ls []) := by
  obtain ⟨hx, hb, hr, hml, hown, hts, hlocks, hK⟩ := id C0
  intro n
  induction n with
  | zero =>
    intro v0 v1 v2 v3 h
    have h : (none : Option (Int32)) = some res := h
    cases h
  | succ n ih =>
    intro v0 v1 v2 v3 h H locs ls hM hS hl
    rw [f_X7_likesOf_4] at h
    refine lv_iload_n hx hb dX7_likesOf_4 rfl (lv_at hl 3 rfl) ?_
    refine lv_aload_n hx hb dX7_likesOf_5 rfl (lv_at hl 0 rfl) ?_
    replace h := o_b h; obtain ⟨x6, h6, h⟩ := h
    refine m_get (C := RX7) (T := TX7) (N := 7) (ci := 7) hx hb hts qi_X7_likesOf_X7 hown hK.1 hM 0 (ldI_F h6) rfl (by decide) (hts _ q_X7_likesOf_1) (fun _ h9 => h9) dX7_likesOf_6 ?_
    refine lv_icmp_ge (tgt := 41) hx hb dX7_likesOf_9 (by decide) (fun c9 => ?_) (fun c9 => ?_)
    · replace h := o_t c9 h
      refine lv_iload_n hx hb dX7_likesOf_41 rfl (lv_at hl 2 rfl) ?_
      replace h := Option.some.inj h; subst h
      exact W.iret hx hb hr (fun t ht hW => ⟨rfl, by rw [ht]; exact hM.moved hW.alike, hS.F ht⟩) hS.2.2 dX7_likesOf_42
    replace h := o_f c9 h
    refine lv_iload_n hx hb dX7_likesOf_12 rfl (lv_at hl 2 rfl) ?_
    refine lv_iload_n hx hb dX7_likesOf_13 rfl (lv_at hl 1 rfl) ?_
    refine lv_iload_n hx hb dX7_likesOf_14 rfl (lv_at hl 3 rfl) ?_
    replace h := o_b h; obtain ⟨q15, h15, h⟩ := h
    refine m_call (va_runSN (As := [.int v1, .int v3]) (rest := [.int v2]) ⟨hx, hb, hml, hown, hts⟩ (c_X9_has l D b0 sz h15) ⟨(va_cnB 2 hts gX7_likesOf_X9_has_n48 rfl rfl rfl (hK.2.1 (RX7, 48, yX9_has, "StageTruths") (by decide)) (hts _ q_X7_likesOf_2) (by decide +kernel) ⟨Nat.le_of_ble_eq_true rfl, Nat.le_of_ble_eq_true rfl⟩), (hts _ q_X7_likesOf_3), trivial⟩ ⟨PW.blind, (fun U hU hW => ⟨rfl, PW.call hK hM hS hU hW⟩)⟩ rfl rfl hl.1 rfl (lv_room (Nat.le_of_ble_eq_true rfl)) dX7_likesOf_15 ⟨(Nat.le_refl _), (Nat.le_refl _)⟩) hS (fun H locs hM hS => ?_)
    refine lv_if_eq (tgt := 32) hx hb dX7_likesOf_18 (by decide) (fun c18 => ?_) (fun c18 => ?_)
    · replace h := o_t c18 h
      refine lv_iconst (v := (0 : Int32)) hx hb dX7_likesOf_32 (by decide) ?_
      exact w_X7_likesOf_33 C0 ih _ _ _ _ _ h _ _ _ hM hS (lv_sub hl [0, 1, 3] rfl)
    replace h := o_f c18 h
    refine lv_iconst (v := (1 : Int32)) hx hb dX7_likesOf_21 (by decide) ?_
    refine lv_aload_n hx hb dX7_likesOf_22 rfl (lv_at hl 0 rfl) ?_
    replace h := o_b h; obtain ⟨x23, h23, h⟩ := h
    refine m_get (C := RX7) (T := TX7) (N := 7) (ci := 7) hx hb hts qi_X7_likesOf_X7 hown hK.1 hM 4 (ldR_F h23) rfl (by decide) (hts _ q_X7_likesOf_4) (fun _ h9 => h9) dX7_likesOf_23 ?_
    refine lv_iload_n hx hb dX7_likesOf_26 rfl (lv_at hl 3 rfl) ?_
    replace h := o_b h; obtain ⟨x27, h27, h⟩ := h
    refine m_iald hx hb hK.1 hM hS rfl h27 dX7_likesOf_27 ?_
    refine lv_ishl hx hb dX7_likesOf_28 ?_
    refine lv_goto (tgt := 33) hx hb dX7_likesOf_29 (by decide) ?_
    exact w_X7_likesOf_33 C0 ih _ _ _ _ _ h _ _ _ hM hS (lv_sub hl [0, 1, 3] rfl)
set_option maxHeartbeats 4000000 in
set_option maxRecDepth 100000 in
theorem w_X7_likesOf (C0 : CX cX7_likesOf 4 (some .int) wsX7_likesOf RX7 p s m args meth c D b0) {v0 : Nat} {v1 : Int32} {res : Int32} (h : f_X7_likesOf v0 v1 f = some res) : ∀ (H : Heap) (locs : List Loc) (ls : Array Slot), MM vwCl D b0 f sz s H → mS b0 s H locs → lv_has ls 4 [(0, .ref v0), (1, .int v1)] → W p l e ({ frames := 1, cells := 0, slots := 0, locals := 21 } : Room) s m args below meth c H locs 0 0 (MQ below (QW D b0 (some (.int res)) f sz) args s 0 0 (fun q => b0 ≤ q)) (F0 m 0 ls []) := by
  obtain ⟨hx, hb, hr, hml, hown, hts, hlocks, hK⟩ := id C0
  intro H locs ls hM hS hl
  unfold f_X7_likesOf at h
  refine lv_iconst (v := (0 : Int32)) hx hb dX7_likesOf_0 (by decide) ?_
  refine lv_istore_n (lv' := [(2, .int (0 : Int32)), (0, .ref v0), (1, .int v1)]) hx hb dX7_likesOf_1 rfl hl (by decide) rfl (fun ls hl => ?_)
  refine lv_iconst (v := (0 : Int32)) hx hb dX7_likesOf_2 (by decide) ?_
  refine lv_istore_n (lv' := [(3, .int (0 : Int32)), (2, .int (0 : Int32)), (0, .ref v0), (1, .int v1)]) hx hb dX7_likesOf_3 rfl hl (by decide) rfl (fun ls hl => ?_)
  exact w_X7_likesOf_4 C0 FU _ _ _ _ h _ _ _ hM hS (lv_sub hl [2, 3, 1, 0] rfl)
set_option maxHeartbeats 4000000 in
set_option maxRecDepth 100000 in
theorem c_X7_likesOf (l : Launch) (D : mmD) (b0 sz : Nat) {v0 : Nat} {v1 : Int32} {f : mmF} {res : Int32} (h : f_X7_likesOf v0 v1 f = some res) : Met l yX7_likesOf wsX7_likesOf ({ frames := 1, cells := 0, slots := 0, locals := 21 } : Room) (va_Pc [.ref v0, .int v1] (PW D b0 f sz)) (QW D b0 (some (.int res)) f sz) 0 0 (fun q => b0 ≤ q) := by
  refine Met.ofW (cc := cX7_likesOf) (maxL := 4) (ret := (some .int)) (by decide) rfl ?_
  intro p e s m args below meth c s₁ B hml hv
  obtain ⟨rfl, hM, hK⟩ := hv
  have hl := lv_entry ([.ref v0, .int v1]) (n := 4) (Nat.le_of_ble_eq_true rfl)
  rw [lg_entry_eq]
  generalize (lg_sl ([.ref v0, .int v1]) ++ List.replicate (4 - (lg_sl ([.ref v0, .int v1])).length) Slot.unset).toArray = ls at hl ⊢
  have hl : lv_has ls 4 [(0, .ref v0), (1, .int v1)] := hl
  exact w_X7_likesOf ⟨B.exec, B.bytes, B.returns, hml, findClass_of_methodNamed B.named, atoms_spec (ws := wsX7_likesOf) B.pre, B.notSynchronized, hK⟩ h s.heap [] ls hM va_S.rf hl
end S_X7_likesOf
/-! X7_findLikes -/
set_option maxRecDepth 20000 in
theorem qi_X7_findLikes_X7 : ∀ w ∈ u_ws RX7 TX7 7, w ∈ wsX7_findLikes := by decide +kernel
set_option maxRecDepth 20000 in
theorem q_X7_findLikes_1 : Cond.fieldLink RX7 9 "StageTruths$State" "stages" "I" ∈ wsX7_findLikes := by decide +kernel
set_option maxRecDepth 20000 in
theorem q_X7_findLikes_2 : Cond.fieldLink RX7 31 "StageTruths$State" "seen" "[I" ∈ wsX7_findLikes := by decide +kernel
set_option maxRecDepth 20000 in
theorem q_X7_findLikes_3 : Cond.fieldLink RX7 15 "StageTruths$State" "later" "[I" ∈ wsX7_findLikes := by decide +kernel
set_option maxRecDepth 20000 in
theorem q_X7_findLikes_4 : Cond.fieldLink RX7 28 "StageTruths$State" "like" "[I" ∈ wsX7_findLikes := by decide +kernel
set_option maxRecDepth 20000 in
theorem q_X7_findLikes_5 : Cond.fieldLink RX7 19 "StageTruths$State" "facts" "[I" ∈ wsX7_findLikes := by decide +kernel
noncomputable def f_X7_findLikes_75 (k37 : Nat → Int32 → mmF → Option (mmF))  : Nat → Nat → Int32 → Int32 → mmF → Option (mmF)
  | 0, _, _, _, _ => none
  | n + 1, v0, v1, v2, f =>
    (ldI f v0 7 0).bind fun x77 =>
    if x77 ≤ v2 then
    (k37 v0 (v1 + (1 : Int32)) f)
    else
    (ldR f v0 7 5).bind fun x84 =>
    (ldR f v0 7 1).bind fun x90 =>
    (ldA 0 f x90 v2).bind fun x94 =>
    (ckO f v0 7).bind fun _ =>
    (f_X7_likesOf v0 x94 f).bind fun q95 =>
    (stA 0 f x84 v2 q95).bind fun f98 =>
    f_X7_findLikes_75 k37 n v0 v1 (v2 + (1 : Int32)) f98
noncomputable def f_X7_findLikes_52 (k37 : Nat → Int32 → mmF → Option (mmF))  : Nat → Nat → Int32 → Int32 → mmF → Option (mmF)
  | 0, _, _, _, _ => none
  | n + 1, v0, v1, v2, f =>
    if v2 < 0 then
    (f_X7_findLikes_75 k37 FU v0 v1 (0 : Int32) f)
    else
    (ldR f v0 7 4).bind fun x57 =>
    (ckO f v0 7).bind fun _ =>
    (f_X7_lowestSeenLike v0 v2 f).bind fun q63 =>
    (stA 0 f x57 v2 q63).bind fun f66 =>
    f_X7_findLikes_52 k37 n v0 v1 (v2 + (-1 : Int32)) f66
noncomputable def f_X7_findLikes_37   : Nat → Nat → Int32 → mmF → Option (mmF)
  | 0, _, _, _ => none
  | n + 1, v0, v1, f =>
    (ldI f v0 7 0).bind fun x39 =>
    if x39 ≤ v1 then
    (some (f))
    else
    (ldI f v0 7 0).bind fun x46 =>
    f_X7_findLikes_52 (fun a0 a1 a2 => f_X7_findLikes_37 n a0 a1 a2) FU v0 v1 (x46 - (1 : Int32)) f
noncomputable def f_X7_findLikes_2   : Nat → Nat → Int32 → mmF → Option (mmF)
  | 0, _, _, _ => none
  | n + 1, v0, v1, f =>
    (ldI f v0 7 0).bind fun x4 =>
    if x4 ≤ v1 then
    (f_X7_findLikes_37 FU v0 (0 : Int32) f)
    else
    (ldR f v0 7 4).bind fun x11 =>
    (stA 0 f x11 v1 (0 : Int32)).bind fun f16 =>
    (ldR f16 v0 7 5).bind fun x18 =>
    (ldR f16 v0 7 2).bind fun x23 =>
    (ldA 0 f16 x23 v1).bind fun x27 =>
    (stA 0 f16 x18 v1 x27).bind fun f28 =>
    f_X7_findLikes_2 n v0 (v1 + (1 : Int32)) f28
noncomputable def f_X7_findLikes (v0 : Nat) (f : mmF) : Option (mmF) :=
  f_X7_findLikes_2 FU v0 (0 : Int32) f
section S_X7_findLikes
variable {p : Program} {l : Launch} {e : Env} {s : State} {m : MethodId} {args : Array Value} {below : List Frame} {meth : Method} {c : Code} {D : mmD} {b0 sz : Nat} {f : mmF}
set_option maxHeartbeats 4000000 in
set_option maxRecDepth 100000 in
theorem w_X7_findLikes_75 (C0 : CX cX7_findLikes 3 none wsX7_findLikes RX7 p s m args meth c D b0) {k37 : Nat → Int32 → mmF → Option (mmF)} {res : mmF} (hk37 : ∀ (v0 : Nat) (v1 : Int32) (f : mmF), k37 v0 v1 f = some res → ∀ (H : Heap) (locs : List Loc) (ls : Array Slot), MM vwCl D b0 f sz s H → mS b0 s H locs → lv_has ls 3 [(0, .ref v0), (1, .int v1)] → W p l e ({ frames := 2, cells := 0, slots := 0, locals := 44 } : Room) s m args below meth c H locs 0 0 (MQ below (QW D b0 none res sz) args s 0 0 (fun q => b0 ≤ q)) (F0 m 37 ls [])) : ∀ (n : Nat), ∀ (v0 : Nat) (v1 : Int32) (v2 : Int32) (f : mmF), f_X7_findLikes_75 k37 n v0 v1 v2 f = some res → ∀ (H : Heap) (locs : List Loc) (ls : Array Slot), MM vwCl D b0 f sz s H → mS b0 s H locs → lv_has ls 3 [(0, .ref v0), (1, .int v1), (2, .int v2)] → W p l e ({ frames := 2, cells := 0, slots := 0, locals := 44 } : Room) s m args below meth c H locs 0 0 (MQ below (QW D b0 none res sz) args s 0 0 (fun q => b0 ≤ q)) (F0 m 75 ls []) := by
  obtain ⟨hx, hb, hr, hml, hown, hts, hlocks, hK⟩ := id C0
  intro n
  induction n with
  | zero =>
    intro v0 v1 v2 f h
    have h : (none : Option (mmF)) = some res := h
    cases h
  | succ n ih =>
    intro v0 v1 v2 f h H locs ls hM hS hl
    rw [f_X7_findLikes_75] at h
    refine lv_iload_n hx hb dX7_findLikes_75 rfl (lv_at hl 2 rfl) ?_
    refine lv_aload_n hx hb dX7_findLikes_76 rfl (lv_at hl 0 rfl) ?_
    replace h := o_b h; obtain ⟨x77, h77, h⟩ := h
    refine m_get (C := RX7) (T := TX7) (N := 7) (ci := 7) hx hb hts qi_X7_findLikes_X7 hown hK.1 hM 0 (ldI_F h77) rfl (by decide) (hts _ q_X7_findLikes_1) (fun _ h9 => h9) dX7_findLikes_77 ?_
    refine lv_icmp_ge (tgt := 105) hx hb dX7_findLikes_80 (by decide) (fun c80 => ?_) (fun c80 => ?_)
    · replace h := o_t c80 h
      refine lv_iinc (v := (v1 + (1 : Int32))) (lv' := [(1, .int (v1 + (1 : Int32))), (0, .ref v0), (2, .int v2)]) hx hb dX7_findLikes_105 hl (k := 1) rfl rfl (by decide) rfl (fun ls hl => ?_)
      refine lv_goto (tgt := 37) hx hb dX7_findLikes_108 (by decide) ?_
      exact hk37 _ _ _ h _ _ _ hM hS (lv_sub hl [1, 0] rfl)
    replace h := o_f c80 h
    refine lv_aload_n hx hb dX7_findLikes_83 rfl (lv_at hl 0 rfl) ?_
    replace h := o_b h; obtain ⟨x84, h84, h⟩ := h
    refine m_get (C := RX7) (T := TX7) (N := 7) (ci := 7) hx hb hts qi_X7_findLikes_X7 hown hK.1 hM 5 (ldR_F h84) rfl (by decide) (hts _ q_X7_findLikes_2) (fun _ h9 => h9) dX7_findLikes_84 ?_
    refine lv_iload_n hx hb dX7_findLikes_87 rfl (lv_at hl 2 rfl) ?_
    refine lv_aload_n hx hb dX7_findLikes_88 rfl (lv_at hl 0 rfl) ?_
    refine lv_aload_n hx hb dX7_findLikes_89 rfl (lv_at hl 0 rfl) ?_
    replace h := o_b h; obtain ⟨x90, h90, h⟩ := h
    refine m_get (C := RX7) (T := TX7) (N := 7) (ci := 7) hx hb hts qi_X7_findLikes_X7 hown hK.1 hM 1 (ldR_F h90) rfl (by decide) (hts _ q_X7_findLikes_3) (fun _ h9 => h9) dX7_findLikes_90 ?_
    refine lv_iload_n hx hb dX7_findLikes_93 rfl (lv_at hl 2 rfl) ?_
    replace h := o_b h; obtain ⟨x94, h94, h⟩ := h
    refine m_iald hx hb hK.1 hM hS rfl h94 dX7_findLikes_94 ?_
    replace h := o_b h; obtain ⟨_, k95, h⟩ := h
    replace h := o_b h; obtain ⟨q95, h95, h⟩ := h
    refine m_call (va_runV (As := [.int x94]) (rest := [.int v2, .ref x84]) ⟨hx, hb, hml, hown, hts⟩ (c_X7_likesOf l D b0 sz h95) (cwV 1 hts gX7_findLikes_X7_likesOf rfl rfl rfl (by decide +kernel) ⟨Nat.le_of_ble_eq_true rfl, Nat.le_of_ble_eq_true rfl⟩) ⟨PW.blind, m_recv (ci := 7) rfl hK hM k95, (fun U hU hW => ⟨rfl, PW.call hK hM hS hU hW⟩)⟩ rfl rfl hl.1 rfl (lv_room (Nat.le_of_ble_eq_true rfl)) dX7_findLikes_95 ⟨(Nat.le_refl _), (Nat.le_refl _)⟩) hS (fun H locs hM hS => ?_)
    replace h := o_b h; obtain ⟨f98, h98, h⟩ := h
    refine m_iast hx hb hK.1 hM hS rfl h98 dX7_findLikes_98 (fun H locs hM hS => ?_)
    refine lv_iinc (v := (v2 + (1 : Int32))) (lv' := [(2, .int (v2 + (1 : Int32))), (0, .ref v0), (1, .int v1)]) hx hb dX7_findLikes_99 hl (k := 2) rfl rfl (by decide) rfl (fun ls hl => ?_)
    refine lv_goto (tgt := 75) hx hb dX7_findLikes_102 (by decide) ?_
    exact ih _ _ _ _ h _ _ _ hM hS (lv_sub hl [1, 2, 0] rfl)
set_option maxHeartbeats 4000000 in
set_option maxRecDepth 100000 in
theorem w_X7_findLikes_52 (C0 : CX cX7_findLikes 3 none wsX7_findLikes RX7 p s m args meth c D b0) {k37 : Nat → Int32 → mmF → Option (mmF)} {res : mmF} (hk37 : ∀ (v0 : Nat) (v1 : Int32) (f : mmF), k37 v0 v1 f = some res → ∀ (H : Heap) (locs : List Loc) (ls : Array Slot), MM vwCl D b0 f sz s H → mS b0 s H locs → lv_has ls 3 [(0, .ref v0), (1, .int v1)] → W p l e ({ frames := 2, cells := 0, slots := 0, locals := 44 } : Room) s m args below meth c H locs 0 0 (MQ below (QW D b0 none res sz) args s 0 0 (fun q => b0 ≤ q)) (F0 m 37 ls [])) : ∀ (n : Nat), ∀ (v0 : Nat) (v1 : Int32) (v2 : Int32) (f : mmF), f_X7_findLikes_52 k37 n v0 v1 v2 f = some res → ∀ (H : Heap) (locs : List Loc) (ls : Array Slot), MM vwCl D b0 f sz s H → mS b0 s H locs → lv_has ls 3 [(0, .ref v0), (1, .int v1), (2, .int v2)] → W p l e ({ frames := 2, cells := 0, slots := 0, locals := 44 } : Room) s m args below meth c H locs 0 0 (MQ below (QW D b0 none res sz) args s 0 0 (fun q => b0 ≤ q)) (F0 m 52 ls []) := by
  obtain ⟨hx, hb, hr, hml, hown, hts, hlocks, hK⟩ := id C0
  intro n
  induction n with
  | zero =>
    intro v0 v1 v2 f h
    have h : (none : Option (mmF)) = some res := h
    cases h
  | succ n ih =>
    intro v0 v1 v2 f h H locs ls hM hS hl
    rw [f_X7_findLikes_52] at h
    refine lv_iload_n hx hb dX7_findLikes_52 rfl (lv_at hl 2 rfl) ?_
    refine lv_if_lt (tgt := 73) hx hb dX7_findLikes_53 (by decide) (fun c53 => ?_) (fun c53 => ?_)
    · replace h := o_t c53 h
      refine lv_iconst (v := (0 : Int32)) hx hb dX7_findLikes_73 (by decide) ?_
      refine lv_istore_n (lv' := [(2, .int (0 : Int32)), (0, .ref v0), (1, .int v1)]) hx hb dX7_findLikes_74 rfl hl (by decide) rfl (fun ls hl => ?_)
      exact w_X7_findLikes_75 C0 hk37 FU _ _ _ _ h _ _ _ hM hS (lv_sub hl [1, 2, 0] rfl)
    replace h := o_f c53 h
    refine lv_aload_n hx hb dX7_findLikes_56 rfl (lv_at hl 0 rfl) ?_
    replace h := o_b h; obtain ⟨x57, h57, h⟩ := h
    refine m_get (C := RX7) (T := TX7) (N := 7) (ci := 7) hx hb hts qi_X7_findLikes_X7 hown hK.1 hM 4 (ldR_F h57) rfl (by decide) (hts _ q_X7_findLikes_4) (fun _ h9 => h9) dX7_findLikes_57 ?_
    refine lv_iload_n hx hb dX7_findLikes_60 rfl (lv_at hl 2 rfl) ?_
    refine lv_aload_n hx hb dX7_findLikes_61 rfl (lv_at hl 0 rfl) ?_
    refine lv_iload_n hx hb dX7_findLikes_62 rfl (lv_at hl 2 rfl) ?_
    replace h := o_b h; obtain ⟨_, k63, h⟩ := h
    replace h := o_b h; obtain ⟨q63, h63, h⟩ := h
    refine m_call (va_runV (As := [.int v2]) (rest := [.int v2, .ref x57]) ⟨hx, hb, hml, hown, hts⟩ (c_X7_lowestSeenLike l D b0 sz h63) (cwV 1 hts gX7_findLikes_X7_lowestSeenLike rfl rfl rfl (by decide +kernel) ⟨Nat.le_of_ble_eq_true rfl, Nat.le_of_ble_eq_true rfl⟩) ⟨PW.blind, m_recv (ci := 7) rfl hK hM k63, (fun U hU hW => ⟨rfl, PW.call hK hM hS hU hW⟩)⟩ rfl rfl hl.1 rfl (lv_room (Nat.le_of_ble_eq_true rfl)) dX7_findLikes_63 ⟨(Nat.le_refl _), (Nat.le_refl _)⟩) hS (fun H locs hM hS => ?_)
    replace h := o_b h; obtain ⟨f66, h66, h⟩ := h
    refine m_iast hx hb hK.1 hM hS rfl h66 dX7_findLikes_66 (fun H locs hM hS => ?_)
    refine lv_iinc (v := (v2 + (-1 : Int32))) (lv' := [(2, .int (v2 + (-1 : Int32))), (0, .ref v0), (1, .int v1)]) hx hb dX7_findLikes_67 hl (k := 2) rfl rfl (by decide) rfl (fun ls hl => ?_)
    refine lv_goto (tgt := 52) hx hb dX7_findLikes_70 (by decide) ?_
    exact ih _ _ _ _ h _ _ _ hM hS (lv_sub hl [1, 2, 0] rfl)
set_option maxHeartbeats 4000000 in
set_option maxRecDepth 100000 in
theorem w_X7_findLikes_37 (C0 : CX cX7_findLikes 3 none wsX7_findLikes RX7 p s m args meth c D b0) {res : mmF} : ∀ (n : Nat), ∀ (v0 : Nat) (v1 : Int32) (f : mmF), f_X7_findLikes_37 n v0 v1 f = some res → ∀ (H : Heap) (locs : List Loc) (ls : Array Slot), MM vwCl D b0 f sz s H → mS b0 s H locs → lv_has ls 3 [(0, .ref v0), (1, .int v1)] → W p l e ({ frames := 2, cells := 0, slots := 0, locals := 44 } : Room) s m args below meth c H locs 0 0 (MQ below (QW D b0 none res sz) args s 0 0 (fun q => b0 ≤ q)) (F0 m 37 ls []) := by
  obtain ⟨hx, hb, hr, hml, hown, hts, hlocks, hK⟩ := id C0
  intro n
  induction n with
  | zero =>
    intro v0 v1 f h
    have h : (none : Option (mmF)) = some res := h
    cases h
  | succ n ih =>
    intro v0 v1 f h H locs ls hM hS hl
    rw [f_X7_findLikes_37] at h
    refine lv_iload_n hx hb dX7_findLikes_37 rfl (lv_at hl 1 rfl) ?_
    refine lv_aload_n hx hb dX7_findLikes_38 rfl (lv_at hl 0 rfl) ?_
    replace h := o_b h; obtain ⟨x39, h39, h⟩ := h
    refine m_get (C := RX7) (T := TX7) (N := 7) (ci := 7) hx hb hts qi_X7_findLikes_X7 hown hK.1 hM 0 (ldI_F h39) rfl (by decide) (hts _ q_X7_findLikes_1) (fun _ h9 => h9) dX7_findLikes_39 ?_
    refine lv_icmp_ge (tgt := 111) hx hb dX7_findLikes_42 (by decide) (fun c42 => ?_) (fun c42 => ?_)
    · replace h := o_t c42 h
      replace h := Option.some.inj h; subst h
      exact W.vret hx hb hr (fun t ht hW => ⟨rfl, by rw [ht]; exact hM.moved hW.alike, hS.F ht⟩) hS.2.2 dX7_findLikes_111
    replace h := o_f c42 h
    refine lv_aload_n hx hb dX7_findLikes_45 rfl (lv_at hl 0 rfl) ?_
    replace h := o_b h; obtain ⟨x46, h46, h⟩ := h
    refine m_get (C := RX7) (T := TX7) (N := 7) (ci := 7) hx hb hts qi_X7_findLikes_X7 hown hK.1 hM 0 (ldI_F h46) rfl (by decide) (hts _ q_X7_findLikes_1) (fun _ h9 => h9) dX7_findLikes_46 ?_
    refine lv_iconst (v := (1 : Int32)) hx hb dX7_findLikes_49 (by decide) ?_
    refine lv_isub hx hb dX7_findLikes_50 ?_
    refine lv_istore_n (lv' := [(2, .int (x46 - (1 : Int32))), (0, .ref v0), (1, .int v1)]) hx hb dX7_findLikes_51 rfl hl (by decide) rfl (fun ls hl => ?_)
    exact w_X7_findLikes_52 C0 ih FU _ _ _ _ h _ _ _ hM hS (lv_sub hl [1, 2, 0] rfl)
set_option maxHeartbeats 4000000 in
set_option maxRecDepth 100000 in
theorem w_X7_findLikes_2 (C0 : CX cX7_findLikes 3 none wsX7_findLikes RX7 p s m args meth c D b0) {res : mmF} : ∀ (n : Nat), ∀ (v0 : Nat) (v1 : Int32) (f : mmF), f_X7_findLikes_2 n v0 v1 f = some res → ∀ (H : Heap) (locs : List Loc) (ls : Array Slot), MM vwCl D b0 f sz s H → mS b0 s H locs → lv_has ls 3 [(0, .ref v0), (1, .int v1)] → W p l e ({ frames := 2, cells := 0, slots := 0, locals := 44 } : Room) s m args below meth c H locs 0 0 (MQ below (QW D b0 none res sz) args s 0 0 (fun q => b0 ≤ q)) (F0 m 2 ls []) := by
  obtain ⟨hx, hb, hr, hml, hown, hts, hlocks, hK⟩ := id C0
  intro n
  induction n with
  | zero =>
    intro v0 v1 f h
    have h : (none : Option (mmF)) = some res := h
    cases h
  | succ n ih =>
    intro v0 v1 f h H locs ls hM hS hl
    rw [f_X7_findLikes_2] at h
    refine lv_iload_n hx hb dX7_findLikes_2 rfl (lv_at hl 1 rfl) ?_
    refine lv_aload_n hx hb dX7_findLikes_3 rfl (lv_at hl 0 rfl) ?_
    replace h := o_b h; obtain ⟨x4, h4, h⟩ := h
    refine m_get (C := RX7) (T := TX7) (N := 7) (ci := 7) hx hb hts qi_X7_findLikes_X7 hown hK.1 hM 0 (ldI_F h4) rfl (by decide) (hts _ q_X7_findLikes_1) (fun _ h9 => h9) dX7_findLikes_4 ?_
    refine lv_icmp_ge (tgt := 35) hx hb dX7_findLikes_7 (by decide) (fun c7 => ?_) (fun c7 => ?_)
    · replace h := o_t c7 h
      refine lv_iconst (v := (0 : Int32)) hx hb dX7_findLikes_35 (by decide) ?_
      refine lv_istore_n (lv' := [(1, .int (0 : Int32)), (0, .ref v0)]) hx hb dX7_findLikes_36 rfl hl (by decide) rfl (fun ls hl => ?_)
      exact w_X7_findLikes_37 C0 FU _ _ _ h _ _ _ hM hS (lv_sub hl [1, 0] rfl)
    replace h := o_f c7 h
    refine lv_aload_n hx hb dX7_findLikes_10 rfl (lv_at hl 0 rfl) ?_
    replace h := o_b h; obtain ⟨x11, h11, h⟩ := h
    refine m_get (C := RX7) (T := TX7) (N := 7) (ci := 7) hx hb hts qi_X7_findLikes_X7 hown hK.1 hM 4 (ldR_F h11) rfl (by decide) (hts _ q_X7_findLikes_4) (fun _ h9 => h9) dX7_findLikes_11 ?_
    refine lv_iload_n hx hb dX7_findLikes_14 rfl (lv_at hl 1 rfl) ?_
    refine lv_iconst (v := (0 : Int32)) hx hb dX7_findLikes_15 (by decide) ?_
    replace h := o_b h; obtain ⟨f16, h16, h⟩ := h
    refine m_iast hx hb hK.1 hM hS rfl h16 dX7_findLikes_16 (fun H locs hM hS => ?_)
    refine lv_aload_n hx hb dX7_findLikes_17 rfl (lv_at hl 0 rfl) ?_
    replace h := o_b h; obtain ⟨x18, h18, h⟩ := h
    refine m_get (C := RX7) (T := TX7) (N := 7) (ci := 7) hx hb hts qi_X7_findLikes_X7 hown hK.1 hM 5 (ldR_F h18) rfl (by decide) (hts _ q_X7_findLikes_2) (fun _ h9 => h9) dX7_findLikes_18 ?_
    refine lv_iload_n hx hb dX7_findLikes_21 rfl (lv_at hl 1 rfl) ?_
    refine lv_aload_n hx hb dX7_findLikes_22 rfl (lv_at hl 0 rfl) ?_
    replace h := o_b h; obtain ⟨x23, h23, h⟩ := h
    refine m_get (C := RX7) (T := TX7) (N := 7) (ci := 7) hx hb hts qi_X7_findLikes_X7 hown hK.1 hM 2 (ldR_F h23) rfl (by decide) (hts _ q_X7_findLikes_5) (fun _ h9 => h9) dX7_findLikes_23 ?_
    refine lv_iload_n hx hb dX7_findLikes_26 rfl (lv_at hl 1 rfl) ?_
    replace h := o_b h; obtain ⟨x27, h27, h⟩ := h
    refine m_iald hx hb hK.1 hM hS rfl h27 dX7_findLikes_27 ?_
    replace h := o_b h; obtain ⟨f28, h28, h⟩ := h
    refine m_iast hx hb hK.1 hM hS rfl h28 dX7_findLikes_28 (fun H locs hM hS => ?_)
    refine lv_iinc (v := (v1 + (1 : Int32))) (lv' := [(1, .int (v1 + (1 : Int32))), (0, .ref v0)]) hx hb dX7_findLikes_29 hl (k := 1) rfl rfl (by decide) rfl (fun ls hl => ?_)
    refine lv_goto (tgt := 2) hx hb dX7_findLikes_32 (by decide) ?_
    exact ih _ _ _ h _ _ _ hM hS (lv_sub hl [1, 0] rfl)
set_option maxHeartbeats 4000000 in
set_option maxRecDepth 100000 in
theorem w_X7_findLikes (C0 : CX cX7_findLikes 3 none wsX7_findLikes RX7 p s m args meth c D b0) {v0 : Nat} {res : mmF} (h : f_X7_findLikes v0 f = some res) : ∀ (H : Heap) (locs : List Loc) (ls : Array Slot), MM vwCl D b0 f sz s H → mS b0 s H locs → lv_has ls 3 [(0, .ref v0)] → W p l e ({ frames := 2, cells := 0, slots := 0, locals := 44 } : Room) s m args below meth c H locs 0 0 (MQ below (QW D b0 none res sz) args s 0 0 (fun q => b0 ≤ q)) (F0 m 0 ls []) := by
  obtain ⟨hx, hb, hr, hml, hown, hts, hlocks, hK⟩ := id C0
  intro H locs ls hM hS hl
  unfold f_X7_findLikes at h
  refine lv_iconst (v := (0 : Int32)) hx hb dX7_findLikes_0 (by decide) ?_
  refine lv_istore_n (lv' := [(1, .int (0 : Int32)), (0, .ref v0)]) hx hb dX7_findLikes_1 rfl hl (by decide) rfl (fun ls hl => ?_)
  exact w_X7_findLikes_2 C0 FU _ _ _ h _ _ _ hM hS (lv_sub hl [1, 0] rfl)
set_option maxHeartbeats 4000000 in
set_option maxRecDepth 100000 in
theorem c_X7_findLikes (l : Launch) (D : mmD) (b0 sz : Nat) {v0 : Nat} {f : mmF} {res : mmF} (h : f_X7_findLikes v0 f = some res) : Met l yX7_findLikes wsX7_findLikes ({ frames := 2, cells := 0, slots := 0, locals := 44 } : Room) (va_Pc [.ref v0] (PW D b0 f sz)) (QW D b0 none res sz) 0 0 (fun q => b0 ≤ q) := by
  refine Met.ofW (cc := cX7_findLikes) (maxL := 3) (ret := none) (by decide) rfl ?_
  intro p e s m args below meth c s₁ B hml hv
  obtain ⟨rfl, hM, hK⟩ := hv
  have hl := lv_entry ([.ref v0]) (n := 3) (Nat.le_of_ble_eq_true rfl)
  rw [lg_entry_eq]
  generalize (lg_sl ([.ref v0]) ++ List.replicate (3 - (lg_sl ([.ref v0])).length) Slot.unset).toArray = ls at hl ⊢
  have hl : lv_has ls 3 [(0, .ref v0)] := hl
  exact w_X7_findLikes ⟨B.exec, B.bytes, B.returns, hml, findClass_of_methodNamed B.named, atoms_spec (ws := wsX7_findLikes) B.pre, B.notSynchronized, hK⟩ h s.heap [] ls hM va_S.rf hl
end S_X7_findLikes
/-! X9_truth -/
noncomputable def f_X9_truth (v0 : Int32) (f : mmF) : Option (Int32) :=
  if v0 = 0 then
  (some ((0 : Int32)))
  else
  some ((1 : Int32))
section S_X9_truth
variable {p : Program} {l : Launch} {e : Env} {s : State} {m : MethodId} {args : Array Value} {below : List Frame} {meth : Method} {c : Code} {D : mmD} {b0 sz : Nat} {f : mmF}
set_option maxHeartbeats 4000000 in
set_option maxRecDepth 100000 in
theorem w_X9_truth (C0 : CX cX9_truth 1 (some .int) wsX9_truth RX9 p s m args meth c D b0) {v0 : Int32} {res : Int32} (h : f_X9_truth v0 f = some res) : ∀ (H : Heap) (locs : List Loc) (ls : Array Slot), MM vwCl D b0 f sz s H → mS b0 s H locs → lv_has ls 1 [(0, .int v0)] → W p l e ({ frames := 0, cells := 0, slots := 0, locals := 0 } : Room) s m args below meth c H locs 0 0 (MQ below (QW D b0 (some (.int res)) f sz) args s 0 0 (fun q => b0 ≤ q)) (F0 m 0 ls []) := by
  obtain ⟨hx, hb, hr, hml, hown, hts, hlocks, hK⟩ := id C0
  intro H locs ls hM hS hl
  unfold f_X9_truth at h
  refine lv_iload_n hx hb dX9_truth_0 rfl (lv_at hl 0 rfl) ?_
  refine lv_if_eq (tgt := 8) hx hb dX9_truth_1 (by decide) (fun c1 => ?_) (fun c1 => ?_)
  · replace h := o_t c1 h
    refine lv_iconst (v := (0 : Int32)) hx hb dX9_truth_8 (by decide) ?_
    replace h := Option.some.inj h; subst h
    exact W.iret hx hb hr (fun t ht hW => ⟨rfl, by rw [ht]; exact hM.moved hW.alike, hS.F ht⟩) hS.2.2 dX9_truth_9
  replace h := o_f c1 h
  refine lv_iconst (v := (1 : Int32)) hx hb dX9_truth_4 (by decide) ?_
  refine lv_goto (tgt := 9) hx hb dX9_truth_5 (by decide) ?_
  replace h := Option.some.inj h; subst h
  exact W.iret hx hb hr (fun t ht hW => ⟨rfl, by rw [ht]; exact hM.moved hW.alike, hS.F ht⟩) hS.2.2 dX9_truth_9
set_option maxHeartbeats 4000000 in
set_option maxRecDepth 100000 in
theorem c_X9_truth (l : Launch) (D : mmD) (b0 sz : Nat) {v0 : Int32} {f : mmF} {res : Int32} (h : f_X9_truth v0 f = some res) : Met l yX9_truth wsX9_truth ({ frames := 0, cells := 0, slots := 0, locals := 0 } : Room) (va_Pc [.int v0] (PW D b0 f sz)) (QW D b0 (some (.int res)) f sz) 0 0 (fun q => b0 ≤ q) := by
  refine Met.ofW (cc := cX9_truth) (maxL := 1) (ret := (some .int)) (by decide) rfl ?_
  intro p e s m args below meth c s₁ B hml hv
  obtain ⟨rfl, hM, hK⟩ := hv
  have hl := lv_entry ([.int v0]) (n := 1) (Nat.le_of_ble_eq_true rfl)
  rw [lg_entry_eq]
  generalize (lg_sl ([.int v0]) ++ List.replicate (1 - (lg_sl ([.int v0])).length) Slot.unset).toArray = ls at hl ⊢
  have hl : lv_has ls 1 [(0, .int v0)] := hl
  exact w_X9_truth ⟨B.exec, B.bytes, B.returns, hml, findClass_of_methodNamed B.named, atoms_spec (ws := wsX9_truth) B.pre, B.notSynchronized, hK⟩ h s.heap [] ls hM va_S.rf hl
end S_X9_truth
/-! X7_unlike -/
set_option maxRecDepth 20000 in
theorem q_X7_unlike_0 : Cond.initialized RX9 ∈ wsX7_unlike := by decide +kernel
set_option maxRecDepth 20000 in
theorem q_X7_unlike_1 : Cond.static yX9_truth ∈ wsX7_unlike := by decide +kernel
set_option maxRecDepth 20000 in
theorem qi_X7_unlike_X7 : ∀ w ∈ u_ws RX7 TX7 7, w ∈ wsX7_unlike := by decide +kernel
set_option maxRecDepth 20000 in
theorem q_X7_unlike_3 : Cond.fieldLink RX7 9 "StageTruths$State" "stages" "I" ∈ wsX7_unlike := by decide +kernel
set_option maxRecDepth 20000 in
theorem q_X7_unlike_4 : Cond.fieldLink RX7 28 "StageTruths$State" "like" "[I" ∈ wsX7_unlike := by decide +kernel
noncomputable def f_X7_unlike_28 (k4 : Nat → Int32 → Int32 → Option (Int32)) (f : mmF) (v0 : Nat) (v2 : Int32) (t0 : Int32) (t1 : Int32) : Option (Int32) :=
  (f_X9_truth t1 f).bind fun q28 =>
  k4 v0 (t0 + q28) (v2 + (1 : Int32))
noncomputable def f_X7_unlike_4  (f : mmF) : Nat → Nat → Int32 → Int32 → Option (Int32)
  | 0, _, _, _ => none
  | n + 1, v0, v1, v2 =>
    (ldI f v0 7 0).bind fun x6 =>
    if x6 ≤ v2 then
    (some (v1))
    else
    (ldR f v0 7 4).bind fun x14 =>
    (ldA 0 f x14 v2).bind fun x18 =>
    if x18 = v2 then
    (f_X7_unlike_28 (fun a0 a1 a2 => f_X7_unlike_4 f n a0 a1 a2) f v0 v2 v1 (1 : Int32))
    else
    f_X7_unlike_28 (fun a0 a1 a2 => f_X7_unlike_4 f n a0 a1 a2) f v0 v2 v1 (0 : Int32)
noncomputable def f_X7_unlike (v0 : Nat) (f : mmF) : Option (Int32) :=
  f_X7_unlike_4 f FU v0 (0 : Int32) (0 : Int32)
section S_X7_unlike
variable {p : Program} {l : Launch} {e : Env} {s : State} {m : MethodId} {args : Array Value} {below : List Frame} {meth : Method} {c : Code} {D : mmD} {b0 sz : Nat} {f : mmF}
set_option maxHeartbeats 4000000 in
set_option maxRecDepth 100000 in
theorem w_X7_unlike_28 (C0 : CX cX7_unlike 3 (some .int) wsX7_unlike RX7 p s m args meth c D b0) {k4 : Nat → Int32 → Int32 → Option (Int32)} {res : Int32} (hk4 : ∀ (v0 : Nat) (v1 : Int32) (v2 : Int32), k4 v0 v1 v2 = some res → ∀ (H : Heap) (locs : List Loc) (ls : Array Slot), MM vwCl D b0 f sz s H → mS b0 s H locs → lv_has ls 3 [(0, .ref v0), (1, .int v1), (2, .int v2)] → W p l e ({ frames := 1, cells := 0, slots := 0, locals := 20 } : Room) s m args below meth c H locs 0 0 (MQ below (QW D b0 (some (.int res)) f sz) args s 0 0 (fun q => b0 ≤ q)) (F0 m 4 ls [])) : ∀ (v0 : Nat) (v2 : Int32) (t0 : Int32) (t1 : Int32), f_X7_unlike_28 k4 f v0 v2 t0 t1 = some res → ∀ (H : Heap) (locs : List Loc) (ls : Array Slot), MM vwCl D b0 f sz s H → mS b0 s H locs → lv_has ls 3 [(0, .ref v0), (2, .int v2)] → W p l e ({ frames := 1, cells := 0, slots := 0, locals := 20 } : Room) s m args below meth c H locs 0 0 (MQ below (QW D b0 (some (.int res)) f sz) args s 0 0 (fun q => b0 ≤ q)) (F0 m 28 ls [.int t1, .int t0]) := by
  obtain ⟨hx, hb, hr, hml, hown, hts, hlocks, hK⟩ := id C0
  intro v0 v2 t0 t1 h H locs ls hM hS hl
  unfold f_X7_unlike_28 at h
  replace h := o_b h; obtain ⟨q28, h28, h⟩ := h
  refine m_call (va_runSN (As := [.int t1]) (rest := [.int t0]) ⟨hx, hb, hml, hown, hts⟩ (c_X9_truth l D b0 sz h28) ⟨(va_cnB 1 hts gX7_unlike_X9_truth_n62 rfl rfl rfl (hK.2.1 (RX7, 62, yX9_truth, "StageTruths") (by decide)) (hts _ q_X7_unlike_0) (by decide +kernel) ⟨Nat.le_of_ble_eq_true rfl, Nat.le_of_ble_eq_true rfl⟩), (hts _ q_X7_unlike_1), trivial⟩ ⟨PW.blind, (fun U hU hW => ⟨rfl, PW.call hK hM hS hU hW⟩)⟩ rfl rfl hl.1 rfl (lv_room (Nat.le_of_ble_eq_true rfl)) dX7_unlike_28 ⟨(Nat.le_refl _), (Nat.le_refl _)⟩) hS (fun H locs hM hS => ?_)
  refine lv_iadd hx hb dX7_unlike_31 ?_
  refine lv_istore_n (lv' := [(1, .int (t0 + q28)), (0, .ref v0), (2, .int v2)]) hx hb dX7_unlike_32 rfl hl (by decide) rfl (fun ls hl => ?_)
  refine lv_iinc (v := (v2 + (1 : Int32))) (lv' := [(2, .int (v2 + (1 : Int32))), (1, .int (t0 + q28)), (0, .ref v0)]) hx hb dX7_unlike_33 hl (k := 2) rfl rfl (by decide) rfl (fun ls hl => ?_)
  refine lv_goto (tgt := 4) hx hb dX7_unlike_36 (by decide) ?_
  exact hk4 _ _ _ h _ _ _ hM hS (lv_sub hl [2, 1, 0] rfl)
set_option maxHeartbeats 4000000 in
set_option maxRecDepth 100000 in
theorem w_X7_unlike_4 (C0 : CX cX7_unlike 3 (some .int) wsX7_unlike RX7 p s m args meth c D b0) {res : Int32} : ∀ (n : Nat), ∀ (v0 : Nat) (v1 : Int32) (v2 : Int32), f_X7_unlike_4 f n v0 v1 v2 = some res → ∀ (H : Heap) (locs : List Loc) (ls : Array Slot), MM vwCl D b0 f sz s H → mS b0 s H locs → lv_has ls 3 [(0, .ref v0), (1, .int v1), (2, .int v2)] → W p l e ({ frames := 1, cells := 0, slots := 0, locals := 20 } : Room) s m args below meth c H locs 0 0 (MQ below (QW D b0 (some (.int res)) f sz) args s 0 0 (fun q => b0 ≤ q)) (F0 m 4 ls []) := by
  obtain ⟨hx, hb, hr, hml, hown, hts, hlocks, hK⟩ := id C0
  intro n
  induction n with
  | zero =>
    intro v0 v1 v2 h
    have h : (none : Option (Int32)) = some res := h
    cases h
  | succ n ih =>
    intro v0 v1 v2 h H locs ls hM hS hl
    rw [f_X7_unlike_4] at h
    refine lv_iload_n hx hb dX7_unlike_4 rfl (lv_at hl 2 rfl) ?_
    refine lv_aload_n hx hb dX7_unlike_5 rfl (lv_at hl 0 rfl) ?_
    replace h := o_b h; obtain ⟨x6, h6, h⟩ := h
    refine m_get (C := RX7) (T := TX7) (N := 7) (ci := 7) hx hb hts qi_X7_unlike_X7 hown hK.1 hM 0 (ldI_F h6) rfl (by decide) (hts _ q_X7_unlike_3) (fun _ h9 => h9) dX7_unlike_6 ?_
    refine lv_icmp_ge (tgt := 39) hx hb dX7_unlike_9 (by decide) (fun c9 => ?_) (fun c9 => ?_)
    · replace h := o_t c9 h
      refine lv_iload_n hx hb dX7_unlike_39 rfl (lv_at hl 1 rfl) ?_
      replace h := Option.some.inj h; subst h
      exact W.iret hx hb hr (fun t ht hW => ⟨rfl, by rw [ht]; exact hM.moved hW.alike, hS.F ht⟩) hS.2.2 dX7_unlike_40
    replace h := o_f c9 h
    refine lv_iload_n hx hb dX7_unlike_12 rfl (lv_at hl 1 rfl) ?_
    refine lv_aload_n hx hb dX7_unlike_13 rfl (lv_at hl 0 rfl) ?_
    replace h := o_b h; obtain ⟨x14, h14, h⟩ := h
    refine m_get (C := RX7) (T := TX7) (N := 7) (ci := 7) hx hb hts qi_X7_unlike_X7 hown hK.1 hM 4 (ldR_F h14) rfl (by decide) (hts _ q_X7_unlike_4) (fun _ h9 => h9) dX7_unlike_14 ?_
    refine lv_iload_n hx hb dX7_unlike_17 rfl (lv_at hl 2 rfl) ?_
    replace h := o_b h; obtain ⟨x18, h18, h⟩ := h
    refine m_iald hx hb hK.1 hM hS rfl h18 dX7_unlike_18 ?_
    refine lv_iload_n hx hb dX7_unlike_19 rfl (lv_at hl 2 rfl) ?_
    refine lv_icmp_ne (tgt := 27) hx hb dX7_unlike_20 (by decide) (fun c20 => ?_) (fun c20 => ?_)
    · replace h := o_f c20 h
      refine lv_iconst (v := (0 : Int32)) hx hb dX7_unlike_27 (by decide) ?_
      exact w_X7_unlike_28 C0 ih _ _ _ _ h _ _ _ hM hS (lv_sub hl [0, 2] rfl)
    replace h := o_t c20 h
    refine lv_iconst (v := (1 : Int32)) hx hb dX7_unlike_23 (by decide) ?_
    refine lv_goto (tgt := 28) hx hb dX7_unlike_24 (by decide) ?_
    exact w_X7_unlike_28 C0 ih _ _ _ _ h _ _ _ hM hS (lv_sub hl [0, 2] rfl)
set_option maxHeartbeats 4000000 in
set_option maxRecDepth 100000 in
theorem w_X7_unlike (C0 : CX cX7_unlike 3 (some .int) wsX7_unlike RX7 p s m args meth c D b0) {v0 : Nat} {res : Int32} (h : f_X7_unlike v0 f = some res) : ∀ (H : Heap) (locs : List Loc) (ls : Array Slot), MM vwCl D b0 f sz s H → mS b0 s H locs → lv_has ls 3 [(0, .ref v0)] → W p l e ({ frames := 1, cells := 0, slots := 0, locals := 20 } : Room) s m args below meth c H locs 0 0 (MQ below (QW D b0 (some (.int res)) f sz) args s 0 0 (fun q => b0 ≤ q)) (F0 m 0 ls []) := by
  obtain ⟨hx, hb, hr, hml, hown, hts, hlocks, hK⟩ := id C0
  intro H locs ls hM hS hl
  unfold f_X7_unlike at h
  refine lv_iconst (v := (0 : Int32)) hx hb dX7_unlike_0 (by decide) ?_
  refine lv_istore_n (lv' := [(1, .int (0 : Int32)), (0, .ref v0)]) hx hb dX7_unlike_1 rfl hl (by decide) rfl (fun ls hl => ?_)
  refine lv_iconst (v := (0 : Int32)) hx hb dX7_unlike_2 (by decide) ?_
  refine lv_istore_n (lv' := [(2, .int (0 : Int32)), (1, .int (0 : Int32)), (0, .ref v0)]) hx hb dX7_unlike_3 rfl hl (by decide) rfl (fun ls hl => ?_)
  exact w_X7_unlike_4 C0 FU _ _ _ h _ _ _ hM hS (lv_sub hl [2, 1, 0] rfl)
set_option maxHeartbeats 4000000 in
set_option maxRecDepth 100000 in
theorem c_X7_unlike (l : Launch) (D : mmD) (b0 sz : Nat) {v0 : Nat} {f : mmF} {res : Int32} (h : f_X7_unlike v0 f = some res) : Met l yX7_unlike wsX7_unlike ({ frames := 1, cells := 0, slots := 0, locals := 20 } : Room) (va_Pc [.ref v0] (PW D b0 f sz)) (QW D b0 (some (.int res)) f sz) 0 0 (fun q => b0 ≤ q) := by
  refine Met.ofW (cc := cX7_unlike) (maxL := 3) (ret := (some .int)) (by decide) rfl ?_
  intro p e s m args below meth c s₁ B hml hv
  obtain ⟨rfl, hM, hK⟩ := hv
  have hl := lv_entry ([.ref v0]) (n := 3) (Nat.le_of_ble_eq_true rfl)
  rw [lg_entry_eq]
  generalize (lg_sl ([.ref v0]) ++ List.replicate (3 - (lg_sl ([.ref v0])).length) Slot.unset).toArray = ls at hl ⊢
  have hl : lv_has ls 3 [(0, .ref v0)] := hl
  exact w_X7_unlike ⟨B.exec, B.bytes, B.returns, hml, findClass_of_methodNamed B.named, atoms_spec (ws := wsX7_unlike) B.pre, B.notSynchronized, hK⟩ h s.heap [] ls hM va_S.rf hl
end S_X7_unlike
