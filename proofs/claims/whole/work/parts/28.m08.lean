/-! X7_mergeLeadsBack -/
set_option maxRecDepth 20000 in
theorem qi_X7_mergeLeadsBack_X7 : ∀ w ∈ u_ws RX7 TX7 7, w ∈ wsX7_mergeLeadsBack := by decide +kernel
set_option maxRecDepth 20000 in
theorem q_X7_mergeLeadsBack_1 : Cond.fieldLink RX7 9 "StageTruths$State" "stages" "I" ∈ wsX7_mergeLeadsBack := by decide +kernel
set_option maxRecDepth 20000 in
theorem q_X7_mergeLeadsBack_2 : Cond.fieldLink RX7 28 "StageTruths$State" "like" "[I" ∈ wsX7_mergeLeadsBack := by decide +kernel
set_option maxRecDepth 20000 in
theorem q_X7_mergeLeadsBack_3 : Cond.fieldLink RX7 15 "StageTruths$State" "later" "[I" ∈ wsX7_mergeLeadsBack := by decide +kernel
noncomputable def f_X7_mergeLeadsBack_41 (k2 : Nat → Int32 → Option (Int32)) (f : mmF) (v0 : Nat) (v1 : Int32) : Option (Int32) :=
  k2 v0 (v1 + (1 : Int32))
noncomputable def f_X7_mergeLeadsBack_2  (f : mmF) : Nat → Nat → Int32 → Option (Int32)
  | 0, _, _ => none
  | n + 1, v0, v1 =>
    (ldI f v0 7 0).bind fun x4 =>
    if x4 ≤ v1 then
    (some ((0 : Int32)))
    else
    (ldR f v0 7 4).bind fun x11 =>
    (ldA 0 f x11 v1).bind fun x15 =>
    if x15 = v1 then
    ((ldR f v0 7 1).bind fun x22 =>
    (ldA 0 f x22 v1).bind fun x26 =>
    (ckO f v0 7).bind fun _ =>
    (f_X7_likesOf v0 x26 f).bind fun q27 =>
    if (q27 &&& (((1 : Int32) <<< (v1 &&& 31)) - (1 : Int32))) = 0 then
    (f_X7_mergeLeadsBack_41 (fun a0 a1 => f_X7_mergeLeadsBack_2 f n a0 a1) f v0 v1)
    else
    some ((1 : Int32)))
    else
    f_X7_mergeLeadsBack_41 (fun a0 a1 => f_X7_mergeLeadsBack_2 f n a0 a1) f v0 v1
noncomputable def f_X7_mergeLeadsBack (v0 : Nat) (f : mmF) : Option (Int32) :=
  f_X7_mergeLeadsBack_2 f FU v0 (0 : Int32)
section S_X7_mergeLeadsBack
variable {p : Program} {l : Launch} {e : Env} {s : State} {m : MethodId} {args : Array Value} {below : List Frame} {meth : Method} {c : Code} {D : mmD} {b0 sz : Nat} {f : mmF}
set_option maxHeartbeats 4000000 in
set_option maxRecDepth 100000 in
theorem w_X7_mergeLeadsBack_41 (C0 : CX cX7_mergeLeadsBack 2 (some .boolean) wsX7_mergeLeadsBack RX7 p s m args meth c D b0) {k2 : Nat → Int32 → Option (Int32)} {res : Int32} (hk2 : ∀ (v0 : Nat) (v1 : Int32), k2 v0 v1 = some res → ∀ (H : Heap) (locs : List Loc) (ls : Array Slot), MM vwCl D b0 f sz s H → mS b0 s H locs → lv_has ls 2 [(0, .ref v0), (1, .int v1)] → W p l e ({ frames := 2, cells := 0, slots := 0, locals := 44 } : Room) s m args below meth c H locs 0 0 (MQ below (QW D b0 (some (.int res)) f sz) args s 0 0 (fun q => b0 ≤ q)) (F0 m 2 ls [])) : ∀ (v0 : Nat) (v1 : Int32), f_X7_mergeLeadsBack_41 k2 f v0 v1 = some res → ∀ (H : Heap) (locs : List Loc) (ls : Array Slot), MM vwCl D b0 f sz s H → mS b0 s H locs → lv_has ls 2 [(0, .ref v0), (1, .int v1)] → W p l e ({ frames := 2, cells := 0, slots := 0, locals := 44 } : Room) s m args below meth c H locs 0 0 (MQ below (QW D b0 (some (.int res)) f sz) args s 0 0 (fun q => b0 ≤ q)) (F0 m 41 ls []) := by
  obtain ⟨hx, hb, hr, hml, hown, hts, hlocks, hK⟩ := id C0
  intro v0 v1 h H locs ls hM hS hl
  unfold f_X7_mergeLeadsBack_41 at h
  refine lv_iinc (v := (v1 + (1 : Int32))) (lv' := [(1, .int (v1 + (1 : Int32))), (0, .ref v0)]) hx hb dX7_mergeLeadsBack_41 hl (k := 1) rfl rfl (by decide) rfl (fun ls hl => ?_)
  refine lv_goto (tgt := 2) hx hb dX7_mergeLeadsBack_44 (by decide) ?_
  exact hk2 _ _ h _ _ _ hM hS (lv_sub hl [1, 0] rfl)
set_option maxHeartbeats 4000000 in
set_option maxRecDepth 100000 in
theorem w_X7_mergeLeadsBack_2 (C0 : CX cX7_mergeLeadsBack 2 (some .boolean) wsX7_mergeLeadsBack RX7 p s m args meth c D b0) {res : Int32} : ∀ (n : Nat), ∀ (v0 : Nat) (v1 : Int32), f_X7_mergeLeadsBack_2 f n v0 v1 = some res → ∀ (H : Heap) (locs : List Loc) (ls : Array Slot), MM vwCl D b0 f sz s H → mS b0 s H locs → lv_has ls 2 [(0, .ref v0), (1, .int v1)] → W p l e ({ frames := 2, cells := 0, slots := 0, locals := 44 } : Room) s m args below meth c H locs 0 0 (MQ below (QW D b0 (some (.int res)) f sz) args s 0 0 (fun q => b0 ≤ q)) (F0 m 2 ls []) := by
  obtain ⟨hx, hb, hr, hml, hown, hts, hlocks, hK⟩ := id C0
  intro n
  induction n with
  | zero =>
    intro v0 v1 h
    have h : (none : Option (Int32)) = some res := h
    cases h
  | succ n ih =>
    intro v0 v1 h H locs ls hM hS hl
    rw [f_X7_mergeLeadsBack_2] at h
    refine lv_iload_n hx hb dX7_mergeLeadsBack_2 rfl (lv_at hl 1 rfl) ?_
    refine lv_aload_n hx hb dX7_mergeLeadsBack_3 rfl (lv_at hl 0 rfl) ?_
    replace h := o_b h; obtain ⟨x4, h4, h⟩ := h
    refine m_get (C := RX7) (T := TX7) (N := 7) (ci := 7) hx hb hts qi_X7_mergeLeadsBack_X7 hown hK.1 hM 0 (ldI_F h4) rfl (by decide) (hts _ q_X7_mergeLeadsBack_1) (fun _ h9 => h9) dX7_mergeLeadsBack_4 ?_
    refine lv_icmp_ge (tgt := 47) hx hb dX7_mergeLeadsBack_7 (by decide) (fun c7 => ?_) (fun c7 => ?_)
    · replace h := o_t c7 h
      refine lv_iconst (v := (0 : Int32)) hx hb dX7_mergeLeadsBack_47 (by decide) ?_
      replace h := Option.some.inj h; subst h
      exact W.zret hx hb hr rfl (fun t ht hW => ⟨rfl, by rw [ht]; exact hM.moved hW.alike, hS.F ht⟩) hS.2.2 dX7_mergeLeadsBack_48
    replace h := o_f c7 h
    refine lv_aload_n hx hb dX7_mergeLeadsBack_10 rfl (lv_at hl 0 rfl) ?_
    replace h := o_b h; obtain ⟨x11, h11, h⟩ := h
    refine m_get (C := RX7) (T := TX7) (N := 7) (ci := 7) hx hb hts qi_X7_mergeLeadsBack_X7 hown hK.1 hM 4 (ldR_F h11) rfl (by decide) (hts _ q_X7_mergeLeadsBack_2) (fun _ h9 => h9) dX7_mergeLeadsBack_11 ?_
    refine lv_iload_n hx hb dX7_mergeLeadsBack_14 rfl (lv_at hl 1 rfl) ?_
    replace h := o_b h; obtain ⟨x15, h15, h⟩ := h
    refine m_iald hx hb hK.1 hM hS rfl h15 dX7_mergeLeadsBack_15 ?_
    refine lv_iload_n hx hb dX7_mergeLeadsBack_16 rfl (lv_at hl 1 rfl) ?_
    refine lv_icmp_ne (tgt := 41) hx hb dX7_mergeLeadsBack_17 (by decide) (fun c17 => ?_) (fun c17 => ?_)
    · replace h := o_f c17 h
      exact w_X7_mergeLeadsBack_41 C0 ih _ _ h _ _ _ hM hS (lv_sub hl [0, 1] rfl)
    replace h := o_t c17 h
    refine lv_aload_n hx hb dX7_mergeLeadsBack_20 rfl (lv_at hl 0 rfl) ?_
    refine lv_aload_n hx hb dX7_mergeLeadsBack_21 rfl (lv_at hl 0 rfl) ?_
    replace h := o_b h; obtain ⟨x22, h22, h⟩ := h
    refine m_get (C := RX7) (T := TX7) (N := 7) (ci := 7) hx hb hts qi_X7_mergeLeadsBack_X7 hown hK.1 hM 1 (ldR_F h22) rfl (by decide) (hts _ q_X7_mergeLeadsBack_3) (fun _ h9 => h9) dX7_mergeLeadsBack_22 ?_
    refine lv_iload_n hx hb dX7_mergeLeadsBack_25 rfl (lv_at hl 1 rfl) ?_
    replace h := o_b h; obtain ⟨x26, h26, h⟩ := h
    refine m_iald hx hb hK.1 hM hS rfl h26 dX7_mergeLeadsBack_26 ?_
    replace h := o_b h; obtain ⟨_, k27, h⟩ := h
    replace h := o_b h; obtain ⟨q27, h27, h⟩ := h
    refine m_call (va_runV (As := [.int x26]) (rest := []) ⟨hx, hb, hml, hown, hts⟩ (c_X7_likesOf l D b0 sz h27) (cwV 1 hts gX7_mergeLeadsBack_X7_likesOf rfl rfl rfl (by decide +kernel) ⟨Nat.le_of_ble_eq_true rfl, Nat.le_of_ble_eq_true rfl⟩) ⟨PW.blind, m_recv (ci := 7) rfl hK hM k27, (fun U hU hW => ⟨rfl, PW.call hK hM hS hU hW⟩)⟩ rfl rfl hl.1 rfl (lv_room (Nat.le_of_ble_eq_true rfl)) dX7_mergeLeadsBack_27 ⟨(Nat.le_refl _), (Nat.le_refl _)⟩) hS (fun H locs hM hS => ?_)
    refine lv_iconst (v := (1 : Int32)) hx hb dX7_mergeLeadsBack_30 (by decide) ?_
    refine lv_iload_n hx hb dX7_mergeLeadsBack_31 rfl (lv_at hl 1 rfl) ?_
    refine lv_ishl hx hb dX7_mergeLeadsBack_32 ?_
    refine lv_iconst (v := (1 : Int32)) hx hb dX7_mergeLeadsBack_33 (by decide) ?_
    refine lv_isub hx hb dX7_mergeLeadsBack_34 ?_
    refine lv_iand hx hb dX7_mergeLeadsBack_35 ?_
    refine lv_if_eq (tgt := 41) hx hb dX7_mergeLeadsBack_36 (by decide) (fun c36 => ?_) (fun c36 => ?_)
    · replace h := o_t c36 h
      exact w_X7_mergeLeadsBack_41 C0 ih _ _ h _ _ _ hM hS (lv_sub hl [0, 1] rfl)
    replace h := o_f c36 h
    refine lv_iconst (v := (1 : Int32)) hx hb dX7_mergeLeadsBack_39 (by decide) ?_
    replace h := Option.some.inj h; subst h
    exact W.zret hx hb hr rfl (fun t ht hW => ⟨rfl, by rw [ht]; exact hM.moved hW.alike, hS.F ht⟩) hS.2.2 dX7_mergeLeadsBack_40
set_option maxHeartbeats 4000000 in
set_option maxRecDepth 100000 in
theorem w_X7_mergeLeadsBack (C0 : CX cX7_mergeLeadsBack 2 (some .boolean) wsX7_mergeLeadsBack RX7 p s m args meth c D b0) {v0 : Nat} {res : Int32} (h : f_X7_mergeLeadsBack v0 f = some res) : ∀ (H : Heap) (locs : List Loc) (ls : Array Slot), MM vwCl D b0 f sz s H → mS b0 s H locs → lv_has ls 2 [(0, .ref v0)] → W p l e ({ frames := 2, cells := 0, slots := 0, locals := 44 } : Room) s m args below meth c H locs 0 0 (MQ below (QW D b0 (some (.int res)) f sz) args s 0 0 (fun q => b0 ≤ q)) (F0 m 0 ls []) := by
  obtain ⟨hx, hb, hr, hml, hown, hts, hlocks, hK⟩ := id C0
  intro H locs ls hM hS hl
  unfold f_X7_mergeLeadsBack at h
  refine lv_iconst (v := (0 : Int32)) hx hb dX7_mergeLeadsBack_0 (by decide) ?_
  refine lv_istore_n (lv' := [(1, .int (0 : Int32)), (0, .ref v0)]) hx hb dX7_mergeLeadsBack_1 rfl hl (by decide) rfl (fun ls hl => ?_)
  exact w_X7_mergeLeadsBack_2 C0 FU _ _ h _ _ _ hM hS (lv_sub hl [1, 0] rfl)
set_option maxHeartbeats 4000000 in
set_option maxRecDepth 100000 in
theorem c_X7_mergeLeadsBack (l : Launch) (D : mmD) (b0 sz : Nat) {v0 : Nat} {f : mmF} {res : Int32} (h : f_X7_mergeLeadsBack v0 f = some res) : Met l yX7_mergeLeadsBack wsX7_mergeLeadsBack ({ frames := 2, cells := 0, slots := 0, locals := 44 } : Room) (va_Pc [.ref v0] (PW D b0 f sz)) (QW D b0 (some (.int res)) f sz) 0 0 (fun q => b0 ≤ q) := by
  refine Met.ofW (cc := cX7_mergeLeadsBack) (maxL := 2) (ret := (some .boolean)) (by decide) rfl ?_
  intro p e s m args below meth c s₁ B hml hv
  obtain ⟨rfl, hM, hK⟩ := hv
  have hl := lv_entry ([.ref v0]) (n := 2) (Nat.le_of_ble_eq_true rfl)
  rw [lg_entry_eq]
  generalize (lg_sl ([.ref v0]) ++ List.replicate (2 - (lg_sl ([.ref v0])).length) Slot.unset).toArray = ls at hl ⊢
  have hl : lv_has ls 2 [(0, .ref v0)] := hl
  exact w_X7_mergeLeadsBack ⟨B.exec, B.bytes, B.returns, hml, findClass_of_methodNamed B.named, atoms_spec (ws := wsX7_mergeLeadsBack) B.pre, B.notSynchronized, hK⟩ h s.heap [] ls hM va_S.rf hl
end S_X7_mergeLeadsBack
/-! X7_merge -/
set_option maxRecDepth 20000 in
theorem qi_X7_merge_X7 : ∀ w ∈ u_ws RX7 TX7 7, w ∈ wsX7_merge := by decide +kernel
set_option maxRecDepth 20000 in
theorem q_X7_merge_1 : Cond.fieldLink RX7 28 "StageTruths$State" "like" "[I" ∈ wsX7_merge := by decide +kernel
set_option maxRecDepth 20000 in
theorem q_X7_merge_2 : Cond.fieldLink RX7 9 "StageTruths$State" "stages" "I" ∈ wsX7_merge := by decide +kernel
set_option maxRecDepth 20000 in
theorem q_X7_merge_3 : Cond.fieldLink RX7 15 "StageTruths$State" "later" "[I" ∈ wsX7_merge := by decide +kernel
noncomputable def f_X7_merge_58 (k39 : Nat → Int32 → mmF → Option (mmF))  (v0 : Nat) (v1 : Int32) (f : mmF) : Option (mmF) :=
  k39 v0 (v1 + (-1 : Int32)) f
noncomputable def f_X7_merge_39   : Nat → Nat → Int32 → mmF → Option (mmF)
  | 0, _, _, _ => none
  | n + 1, v0, v1, f =>
    if v1 < 0 then
    (some (f))
    else
    (ldR f v0 7 4).bind fun x44 =>
    (ldA 0 f x44 v1).bind fun x48 =>
    if x48 = v1 then
    (f_X7_merge_58 (fun a0 a1 a2 => f_X7_merge_39 n a0 a1 a2) v0 v1 f)
    else
    (ckO f v0 7).bind fun _ =>
    (f_X7_takeOut v0 v1 f).bind fun q55 =>
    f_X7_merge_58 (fun a0 a1 a2 => f_X7_merge_39 n a0 a1 a2) v0 v1 q55
noncomputable def f_X7_merge_2   : Nat → Nat → Int32 → mmF → Option (mmF)
  | 0, _, _, _ => none
  | n + 1, v0, v1, f =>
    (ldI f v0 7 0).bind fun x4 =>
    if x4 ≤ v1 then
    ((ldI f v0 7 0).bind fun x33 =>
    f_X7_merge_39 FU v0 (x33 - (1 : Int32)) f)
    else
    (ldR f v0 7 1).bind fun x11 =>
    (ldR f v0 7 1).bind fun x17 =>
    (ldA 0 f x17 v1).bind fun x21 =>
    (ckO f v0 7).bind fun _ =>
    (f_X7_likesOf v0 x21 f).bind fun q22 =>
    (stA 0 f x11 v1 q22).bind fun f25 =>
    f_X7_merge_2 n v0 (v1 + (1 : Int32)) f25
noncomputable def f_X7_merge (v0 : Nat) (f : mmF) : Option (mmF) :=
  f_X7_merge_2 FU v0 (0 : Int32) f
section S_X7_merge
variable {p : Program} {l : Launch} {e : Env} {s : State} {m : MethodId} {args : Array Value} {below : List Frame} {meth : Method} {c : Code} {D : mmD} {b0 sz : Nat} {f : mmF}
set_option maxHeartbeats 4000000 in
set_option maxRecDepth 100000 in
theorem w_X7_merge_58 (C0 : CX cX7_merge 2 none wsX7_merge RX7 p s m args meth c D b0) {k39 : Nat → Int32 → mmF → Option (mmF)} {res : mmF} (hk39 : ∀ (v0 : Nat) (v1 : Int32) (f : mmF), k39 v0 v1 f = some res → ∀ (H : Heap) (locs : List Loc) (ls : Array Slot), MM vwCl D b0 f sz s H → mS b0 s H locs → lv_has ls 2 [(0, .ref v0), (1, .int v1)] → W p l e ({ frames := 2, cells := 0, slots := 0, locals := 44 } : Room) s m args below meth c H locs 0 0 (MQ below (QW D b0 none res sz) args s 0 0 (fun q => b0 ≤ q)) (F0 m 39 ls [])) : ∀ (v0 : Nat) (v1 : Int32) (f : mmF), f_X7_merge_58 k39 v0 v1 f = some res → ∀ (H : Heap) (locs : List Loc) (ls : Array Slot), MM vwCl D b0 f sz s H → mS b0 s H locs → lv_has ls 2 [(0, .ref v0), (1, .int v1)] → W p l e ({ frames := 2, cells := 0, slots := 0, locals := 44 } : Room) s m args below meth c H locs 0 0 (MQ below (QW D b0 none res sz) args s 0 0 (fun q => b0 ≤ q)) (F0 m 58 ls []) := by
  obtain ⟨hx, hb, hr, hml, hown, hts, hlocks, hK⟩ := id C0
  intro v0 v1 f h H locs ls hM hS hl
  unfold f_X7_merge_58 at h
  refine lv_iinc (v := (v1 + (-1 : Int32))) (lv' := [(1, .int (v1 + (-1 : Int32))), (0, .ref v0)]) hx hb dX7_merge_58 hl (k := 1) rfl rfl (by decide) rfl (fun ls hl => ?_)
  refine lv_goto (tgt := 39) hx hb dX7_merge_61 (by decide) ?_
  exact hk39 _ _ _ h _ _ _ hM hS (lv_sub hl [1, 0] rfl)
set_option maxHeartbeats 4000000 in
set_option maxRecDepth 100000 in
theorem w_X7_merge_39 (C0 : CX cX7_merge 2 none wsX7_merge RX7 p s m args meth c D b0) {res : mmF} : ∀ (n : Nat), ∀ (v0 : Nat) (v1 : Int32) (f : mmF), f_X7_merge_39 n v0 v1 f = some res → ∀ (H : Heap) (locs : List Loc) (ls : Array Slot), MM vwCl D b0 f sz s H → mS b0 s H locs → lv_has ls 2 [(0, .ref v0), (1, .int v1)] → W p l e ({ frames := 2, cells := 0, slots := 0, locals := 44 } : Room) s m args below meth c H locs 0 0 (MQ below (QW D b0 none res sz) args s 0 0 (fun q => b0 ≤ q)) (F0 m 39 ls []) := by
  obtain ⟨hx, hb, hr, hml, hown, hts, hlocks, hK⟩ := id C0
  intro n
  induction n with
  | zero =>
    intro v0 v1 f h
    have h : (none : Option (mmF)) = some res := h
    cases h
  | succ n ih =>
    intro v0 v1 f h H locs ls hM hS hl
    rw [f_X7_merge_39] at h
    refine lv_iload_n hx hb dX7_merge_39 rfl (lv_at hl 1 rfl) ?_
    refine lv_if_lt (tgt := 64) hx hb dX7_merge_40 (by decide) (fun c40 => ?_) (fun c40 => ?_)
    · replace h := o_t c40 h
      replace h := Option.some.inj h; subst h
      exact W.vret hx hb hr (fun t ht hW => ⟨rfl, by rw [ht]; exact hM.moved hW.alike, hS.F ht⟩) hS.2.2 dX7_merge_64
    replace h := o_f c40 h
    refine lv_aload_n hx hb dX7_merge_43 rfl (lv_at hl 0 rfl) ?_
    replace h := o_b h; obtain ⟨x44, h44, h⟩ := h
    refine m_get (C := RX7) (T := TX7) (N := 7) (ci := 7) hx hb hts qi_X7_merge_X7 hown hK.1 hM 4 (ldR_F h44) rfl (by decide) (hts _ q_X7_merge_1) (fun _ h9 => h9) dX7_merge_44 ?_
    refine lv_iload_n hx hb dX7_merge_47 rfl (lv_at hl 1 rfl) ?_
    replace h := o_b h; obtain ⟨x48, h48, h⟩ := h
    refine m_iald hx hb hK.1 hM hS rfl h48 dX7_merge_48 ?_
    refine lv_iload_n hx hb dX7_merge_49 rfl (lv_at hl 1 rfl) ?_
    refine lv_icmp_eq (tgt := 58) hx hb dX7_merge_50 (by decide) (fun c50 => ?_) (fun c50 => ?_)
    · replace h := o_t c50 h
      exact w_X7_merge_58 C0 ih _ _ _ h _ _ _ hM hS (lv_sub hl [0, 1] rfl)
    replace h := o_f c50 h
    refine lv_aload_n hx hb dX7_merge_53 rfl (lv_at hl 0 rfl) ?_
    refine lv_iload_n hx hb dX7_merge_54 rfl (lv_at hl 1 rfl) ?_
    replace h := o_b h; obtain ⟨_, k55, h⟩ := h
    replace h := o_b h; obtain ⟨q55, h55, h⟩ := h
    refine m_call (va_runV (As := [.int v1]) (rest := []) ⟨hx, hb, hml, hown, hts⟩ (c_X7_takeOut l D b0 sz h55) (cwV 1 hts gX7_merge_X7_takeOut rfl rfl rfl (by decide +kernel) ⟨Nat.le_of_ble_eq_true rfl, Nat.le_of_ble_eq_true rfl⟩) ⟨PW.blind, m_recv (ci := 7) rfl hK hM k55, (fun U hU hW => ⟨rfl, PW.call hK hM hS hU hW⟩)⟩ rfl rfl hl.1 rfl (lv_room (Nat.le_of_ble_eq_true rfl)) dX7_merge_55 ⟨(Nat.le_refl _), (Nat.le_refl _)⟩) hS (fun H locs hM hS => ?_)
    exact w_X7_merge_58 C0 ih _ _ _ h _ _ _ hM hS (lv_sub hl [0, 1] rfl)
set_option maxHeartbeats 4000000 in
set_option maxRecDepth 100000 in
theorem w_X7_merge_2 (C0 : CX cX7_merge 2 none wsX7_merge RX7 p s m args meth c D b0) {res : mmF} : ∀ (n : Nat), ∀ (v0 : Nat) (v1 : Int32) (f : mmF), f_X7_merge_2 n v0 v1 f = some res → ∀ (H : Heap) (locs : List Loc) (ls : Array Slot), MM vwCl D b0 f sz s H → mS b0 s H locs → lv_has ls 2 [(0, .ref v0), (1, .int v1)] → W p l e ({ frames := 2, cells := 0, slots := 0, locals := 44 } : Room) s m args below meth c H locs 0 0 (MQ below (QW D b0 none res sz) args s 0 0 (fun q => b0 ≤ q)) (F0 m 2 ls []) := by
  obtain ⟨hx, hb, hr, hml, hown, hts, hlocks, hK⟩ := id C0
  intro n
  induction n with
  | zero =>
    intro v0 v1 f h
    have h : (none : Option (mmF)) = some res := h
    cases h
  | succ n ih =>
    intro v0 v1 f h H locs ls hM hS hl
    rw [f_X7_merge_2] at h
    refine lv_iload_n hx hb dX7_merge_2 rfl (lv_at hl 1 rfl) ?_
    refine lv_aload_n hx hb dX7_merge_3 rfl (lv_at hl 0 rfl) ?_
    replace h := o_b h; obtain ⟨x4, h4, h⟩ := h
    refine m_get (C := RX7) (T := TX7) (N := 7) (ci := 7) hx hb hts qi_X7_merge_X7 hown hK.1 hM 0 (ldI_F h4) rfl (by decide) (hts _ q_X7_merge_2) (fun _ h9 => h9) dX7_merge_4 ?_
    refine lv_icmp_ge (tgt := 32) hx hb dX7_merge_7 (by decide) (fun c7 => ?_) (fun c7 => ?_)
    · replace h := o_t c7 h
      refine lv_aload_n hx hb dX7_merge_32 rfl (lv_at hl 0 rfl) ?_
      replace h := o_b h; obtain ⟨x33, h33, h⟩ := h
      refine m_get (C := RX7) (T := TX7) (N := 7) (ci := 7) hx hb hts qi_X7_merge_X7 hown hK.1 hM 0 (ldI_F h33) rfl (by decide) (hts _ q_X7_merge_2) (fun _ h9 => h9) dX7_merge_33 ?_
      refine lv_iconst (v := (1 : Int32)) hx hb dX7_merge_36 (by decide) ?_
      refine lv_isub hx hb dX7_merge_37 ?_
      refine lv_istore_n (lv' := [(1, .int (x33 - (1 : Int32))), (0, .ref v0)]) hx hb dX7_merge_38 rfl hl (by decide) rfl (fun ls hl => ?_)
      exact w_X7_merge_39 C0 FU _ _ _ h _ _ _ hM hS (lv_sub hl [1, 0] rfl)
    replace h := o_f c7 h
    refine lv_aload_n hx hb dX7_merge_10 rfl (lv_at hl 0 rfl) ?_
    replace h := o_b h; obtain ⟨x11, h11, h⟩ := h
    refine m_get (C := RX7) (T := TX7) (N := 7) (ci := 7) hx hb hts qi_X7_merge_X7 hown hK.1 hM 1 (ldR_F h11) rfl (by decide) (hts _ q_X7_merge_3) (fun _ h9 => h9) dX7_merge_11 ?_
    refine lv_iload_n hx hb dX7_merge_14 rfl (lv_at hl 1 rfl) ?_
    refine lv_aload_n hx hb dX7_merge_15 rfl (lv_at hl 0 rfl) ?_
    refine lv_aload_n hx hb dX7_merge_16 rfl (lv_at hl 0 rfl) ?_
    replace h := o_b h; obtain ⟨x17, h17, h⟩ := h
    refine m_get (C := RX7) (T := TX7) (N := 7) (ci := 7) hx hb hts qi_X7_merge_X7 hown hK.1 hM 1 (ldR_F h17) rfl (by decide) (hts _ q_X7_merge_3) (fun _ h9 => h9) dX7_merge_17 ?_
    refine lv_iload_n hx hb dX7_merge_20 rfl (lv_at hl 1 rfl) ?_
    replace h := o_b h; obtain ⟨x21, h21, h⟩ := h
    refine m_iald hx hb hK.1 hM hS rfl h21 dX7_merge_21 ?_
    replace h := o_b h; obtain ⟨_, k22, h⟩ := h
    replace h := o_b h; obtain ⟨q22, h22, h⟩ := h
    refine m_call (va_runV (As := [.int x21]) (rest := [.int v1, .ref x11]) ⟨hx, hb, hml, hown, hts⟩ (c_X7_likesOf l D b0 sz h22) (cwV 1 hts gX7_merge_X7_likesOf rfl rfl rfl (by decide +kernel) ⟨Nat.le_of_ble_eq_true rfl, Nat.le_of_ble_eq_true rfl⟩) ⟨PW.blind, m_recv (ci := 7) rfl hK hM k22, (fun U hU hW => ⟨rfl, PW.call hK hM hS hU hW⟩)⟩ rfl rfl hl.1 rfl (lv_room (Nat.le_of_ble_eq_true rfl)) dX7_merge_22 ⟨(Nat.le_refl _), (Nat.le_refl _)⟩) hS (fun H locs hM hS => ?_)
    replace h := o_b h; obtain ⟨f25, h25, h⟩ := h
    refine m_iast hx hb hK.1 hM hS rfl h25 dX7_merge_25 (fun H locs hM hS => ?_)
    refine lv_iinc (v := (v1 + (1 : Int32))) (lv' := [(1, .int (v1 + (1 : Int32))), (0, .ref v0)]) hx hb dX7_merge_26 hl (k := 1) rfl rfl (by decide) rfl (fun ls hl => ?_)
    refine lv_goto (tgt := 2) hx hb dX7_merge_29 (by decide) ?_
    exact ih _ _ _ h _ _ _ hM hS (lv_sub hl [1, 0] rfl)
set_option maxHeartbeats 4000000 in
set_option maxRecDepth 100000 in
theorem w_X7_merge (C0 : CX cX7_merge 2 none wsX7_merge RX7 p s m args meth c D b0) {v0 : Nat} {res : mmF} (h : f_X7_merge v0 f = some res) : ∀ (H : Heap) (locs : List Loc) (ls : Array Slot), MM vwCl D b0 f sz s H → mS b0 s H locs → lv_has ls 2 [(0, .ref v0)] → W p l e ({ frames := 2, cells := 0, slots := 0, locals := 44 } : Room) s m args below meth c H locs 0 0 (MQ below (QW D b0 none res sz) args s 0 0 (fun q => b0 ≤ q)) (F0 m 0 ls []) := by
  obtain ⟨hx, hb, hr, hml, hown, hts, hlocks, hK⟩ := id C0
  intro H locs ls hM hS hl
  unfold f_X7_merge at h
  refine lv_iconst (v := (0 : Int32)) hx hb dX7_merge_0 (by decide) ?_
  refine lv_istore_n (lv' := [(1, .int (0 : Int32)), (0, .ref v0)]) hx hb dX7_merge_1 rfl hl (by decide) rfl (fun ls hl => ?_)
  exact w_X7_merge_2 C0 FU _ _ _ h _ _ _ hM hS (lv_sub hl [1, 0] rfl)
set_option maxHeartbeats 4000000 in
set_option maxRecDepth 100000 in
theorem c_X7_merge (l : Launch) (D : mmD) (b0 sz : Nat) {v0 : Nat} {f : mmF} {res : mmF} (h : f_X7_merge v0 f = some res) : Met l yX7_merge wsX7_merge ({ frames := 2, cells := 0, slots := 0, locals := 44 } : Room) (va_Pc [.ref v0] (PW D b0 f sz)) (QW D b0 none res sz) 0 0 (fun q => b0 ≤ q) := by
  refine Met.ofW (cc := cX7_merge) (maxL := 2) (ret := none) (by decide) rfl ?_
  intro p e s m args below meth c s₁ B hml hv
  obtain ⟨rfl, hM, hK⟩ := hv
  have hl := lv_entry ([.ref v0]) (n := 2) (Nat.le_of_ble_eq_true rfl)
  rw [lg_entry_eq]
  generalize (lg_sl ([.ref v0]) ++ List.replicate (2 - (lg_sl ([.ref v0])).length) Slot.unset).toArray = ls at hl ⊢
  have hl : lv_has ls 2 [(0, .ref v0)] := hl
  exact w_X7_merge ⟨B.exec, B.bytes, B.returns, hml, findClass_of_methodNamed B.named, atoms_spec (ws := wsX7_merge) B.pre, B.notSynchronized, hK⟩ h s.heap [] ls hM va_S.rf hl
end S_X7_merge
/-! X7_lowestOutside -/
set_option maxRecDepth 20000 in
theorem qi_X7_lowestOutside_X7 : ∀ w ∈ u_ws RX7 TX7 7, w ∈ wsX7_lowestOutside := by decide +kernel
set_option maxRecDepth 20000 in
theorem q_X7_lowestOutside_1 : Cond.fieldLink RX7 9 "StageTruths$State" "stages" "I" ∈ wsX7_lowestOutside := by decide +kernel
set_option maxRecDepth 20000 in
theorem q_X7_lowestOutside_2 : Cond.initialized RX9 ∈ wsX7_lowestOutside := by decide +kernel
set_option maxRecDepth 20000 in
theorem q_X7_lowestOutside_3 : Cond.static yX9_has ∈ wsX7_lowestOutside := by decide +kernel
noncomputable def f_X7_lowestOutside_2  (f : mmF) : Nat → Nat → Int32 → Int32 → Option (Int32)
  | 0, _, _, _ => none
  | n + 1, v0, v1, v2 =>
    (ldI f v0 7 0).bind fun x4 =>
    if x4 ≤ v2 then
    (some ((-5 : Int32)))
    else
    (f_X9_has v1 v2 f).bind fun q12 =>
    if q12 = 0 then
    (some (v2))
    else
    f_X7_lowestOutside_2 f n v0 v1 (v2 + (1 : Int32))
noncomputable def f_X7_lowestOutside (v0 : Nat) (v1 : Int32) (f : mmF) : Option (Int32) :=
  f_X7_lowestOutside_2 f FU v0 v1 (0 : Int32)
section S_X7_lowestOutside
variable {p : Program} {l : Launch} {e : Env} {s : State} {m : MethodId} {args : Array Value} {below : List Frame} {meth : Method} {c : Code} {D : mmD} {b0 sz : Nat} {f : mmF}
set_option maxHeartbeats 4000000 in
set_option maxRecDepth 100000 in
theorem w_X7_lowestOutside_2 (C0 : CX cX7_lowestOutside 3 (some .int) wsX7_lowestOutside RX7 p s m args meth c D b0) {res : Int32} : ∀ (n : Nat), ∀ (v0 : Nat) (v1 : Int32) (v2 : Int32), f_X7_lowestOutside_2 f n v0 v1 v2 = some res → ∀ (H : Heap) (locs : List Loc) (ls : Array Slot), MM vwCl D b0 f sz s H → mS b0 s H locs → lv_has ls 3 [(0, .ref v0), (1, .int v1), (2, .int v2)] → W p l e ({ frames := 1, cells := 0, slots := 0, locals := 21 } : Room) s m args below meth c H locs 0 0 (MQ below (QW D b0 (some (.int res)) f sz) args s 0 0 (fun q => b0 ≤ q)) (F0 m 2 ls []) := by
  obtain ⟨hx, hb, hr, hml, hown, hts, hlocks, hK⟩ := id C0
  intro n
  induction n with
  | zero =>
    intro v0 v1 v2 h
    have h : (none : Option (Int32)) = some res := h
    cases h
  | succ n ih =>
    intro v0 v1 v2 h H locs ls hM hS hl
    rw [f_X7_lowestOutside_2] at h
    refine lv_iload_n hx hb dX7_lowestOutside_2 rfl (lv_at hl 2 rfl) ?_
    refine lv_aload_n hx hb dX7_lowestOutside_3 rfl (lv_at hl 0 rfl) ?_
    replace h := o_b h; obtain ⟨x4, h4, h⟩ := h
    refine m_get (C := RX7) (T := TX7) (N := 7) (ci := 7) hx hb hts qi_X7_lowestOutside_X7 hown hK.1 hM 0 (ldI_F h4) rfl (by decide) (hts _ q_X7_lowestOutside_1) (fun _ h9 => h9) dX7_lowestOutside_4 ?_
    refine lv_icmp_ge (tgt := 26) hx hb dX7_lowestOutside_7 (by decide) (fun c7 => ?_) (fun c7 => ?_)
    · replace h := o_t c7 h
      refine lv_bipush (v := (-5 : Int32)) hx hb dX7_lowestOutside_26 (by decide) ?_
      replace h := Option.some.inj h; subst h
      exact W.iret hx hb hr (fun t ht hW => ⟨rfl, by rw [ht]; exact hM.moved hW.alike, hS.F ht⟩) hS.2.2 dX7_lowestOutside_28
    replace h := o_f c7 h
    refine lv_iload_n hx hb dX7_lowestOutside_10 rfl (lv_at hl 1 rfl) ?_
    refine lv_iload_n hx hb dX7_lowestOutside_11 rfl (lv_at hl 2 rfl) ?_
    replace h := o_b h; obtain ⟨q12, h12, h⟩ := h
    refine m_call (va_runSN (As := [.int v1, .int v2]) (rest := []) ⟨hx, hb, hml, hown, hts⟩ (c_X9_has l D b0 sz h12) ⟨(va_cnB 2 hts gX7_lowestOutside_X9_has_n48 rfl rfl rfl (hK.2.1 (RX7, 48, yX9_has, "StageTruths") (by decide)) (hts _ q_X7_lowestOutside_2) (by decide +kernel) ⟨Nat.le_of_ble_eq_true rfl, Nat.le_of_ble_eq_true rfl⟩), (hts _ q_X7_lowestOutside_3), trivial⟩ ⟨PW.blind, (fun U hU hW => ⟨rfl, PW.call hK hM hS hU hW⟩)⟩ rfl rfl hl.1 rfl (lv_room (Nat.le_of_ble_eq_true rfl)) dX7_lowestOutside_12 ⟨(Nat.le_refl _), (Nat.le_refl _)⟩) hS (fun H locs hM hS => ?_)
    refine lv_if_ne (tgt := 20) hx hb dX7_lowestOutside_15 (by decide) (fun c15 => ?_) (fun c15 => ?_)
    · replace h := o_f c15 h
      refine lv_iinc (v := (v2 + (1 : Int32))) (lv' := [(2, .int (v2 + (1 : Int32))), (0, .ref v0), (1, .int v1)]) hx hb dX7_lowestOutside_20 hl (k := 2) rfl rfl (by decide) rfl (fun ls hl => ?_)
      refine lv_goto (tgt := 2) hx hb dX7_lowestOutside_23 (by decide) ?_
      exact ih _ _ _ h _ _ _ hM hS (lv_sub hl [1, 2, 0] rfl)
    replace h := o_t c15 h
    refine lv_iload_n hx hb dX7_lowestOutside_18 rfl (lv_at hl 2 rfl) ?_
    replace h := Option.some.inj h; subst h
    exact W.iret hx hb hr (fun t ht hW => ⟨rfl, by rw [ht]; exact hM.moved hW.alike, hS.F ht⟩) hS.2.2 dX7_lowestOutside_19
set_option maxHeartbeats 4000000 in
set_option maxRecDepth 100000 in
theorem w_X7_lowestOutside (C0 : CX cX7_lowestOutside 3 (some .int) wsX7_lowestOutside RX7 p s m args meth c D b0) {v0 : Nat} {v1 : Int32} {res : Int32} (h : f_X7_lowestOutside v0 v1 f = some res) : ∀ (H : Heap) (locs : List Loc) (ls : Array Slot), MM vwCl D b0 f sz s H → mS b0 s H locs → lv_has ls 3 [(0, .ref v0), (1, .int v1)] → W p l e ({ frames := 1, cells := 0, slots := 0, locals := 21 } : Room) s m args below meth c H locs 0 0 (MQ below (QW D b0 (some (.int res)) f sz) args s 0 0 (fun q => b0 ≤ q)) (F0 m 0 ls []) := by
  obtain ⟨hx, hb, hr, hml, hown, hts, hlocks, hK⟩ := id C0
  intro H locs ls hM hS hl
  unfold f_X7_lowestOutside at h
  refine lv_iconst (v := (0 : Int32)) hx hb dX7_lowestOutside_0 (by decide) ?_
  refine lv_istore_n (lv' := [(2, .int (0 : Int32)), (0, .ref v0), (1, .int v1)]) hx hb dX7_lowestOutside_1 rfl hl (by decide) rfl (fun ls hl => ?_)
  exact w_X7_lowestOutside_2 C0 FU _ _ _ h _ _ _ hM hS (lv_sub hl [1, 2, 0] rfl)
set_option maxHeartbeats 4000000 in
set_option maxRecDepth 100000 in
theorem c_X7_lowestOutside (l : Launch) (D : mmD) (b0 sz : Nat) {v0 : Nat} {v1 : Int32} {f : mmF} {res : Int32} (h : f_X7_lowestOutside v0 v1 f = some res) : Met l yX7_lowestOutside wsX7_lowestOutside ({ frames := 1, cells := 0, slots := 0, locals := 21 } : Room) (va_Pc [.ref v0, .int v1] (PW D b0 f sz)) (QW D b0 (some (.int res)) f sz) 0 0 (fun q => b0 ≤ q) := by
  refine Met.ofW (cc := cX7_lowestOutside) (maxL := 3) (ret := (some .int)) (by decide) rfl ?_
  intro p e s m args below meth c s₁ B hml hv
  obtain ⟨rfl, hM, hK⟩ := hv
  have hl := lv_entry ([.ref v0, .int v1]) (n := 3) (Nat.le_of_ble_eq_true rfl)
  rw [lg_entry_eq]
  generalize (lg_sl ([.ref v0, .int v1]) ++ List.replicate (3 - (lg_sl ([.ref v0, .int v1])).length) Slot.unset).toArray = ls at hl ⊢
  have hl : lv_has ls 3 [(0, .ref v0), (1, .int v1)] := hl
  exact w_X7_lowestOutside ⟨B.exec, B.bytes, B.returns, hml, findClass_of_methodNamed B.named, atoms_spec (ws := wsX7_lowestOutside) B.pre, B.notSynchronized, hK⟩ h s.heap [] ls hM va_S.rf hl
end S_X7_lowestOutside
/-! X7_stagesAlwaysOutside -/
set_option maxRecDepth 20000 in
theorem qi_X7_stagesAlwaysOutside_X7 : ∀ w ∈ u_ws RX7 TX7 7, w ∈ wsX7_stagesAlwaysOutside := by decide +kernel
set_option maxRecDepth 20000 in
theorem q_X7_stagesAlwaysOutside_1 : Cond.fieldLink RX7 9 "StageTruths$State" "stages" "I" ∈ wsX7_stagesAlwaysOutside := by decide +kernel
set_option maxRecDepth 20000 in
theorem q_X7_stagesAlwaysOutside_2 : Cond.fieldLink RX7 15 "StageTruths$State" "later" "[I" ∈ wsX7_stagesAlwaysOutside := by decide +kernel
noncomputable def f_X7_stagesAlwaysOutside_31 (k4 : Nat → Int32 → Int32 → Int32 → Option (Int32)) (f : mmF) (v0 : Nat) (v1 : Int32) (v3 : Int32) (t0 : Int32) (t1 : Int32) : Option (Int32) :=
  k4 v0 v1 (t0 ||| t1) (v3 + (1 : Int32))
noncomputable def f_X7_stagesAlwaysOutside_4  (f : mmF) : Nat → Nat → Int32 → Int32 → Int32 → Option (Int32)
  | 0, _, _, _, _ => none
  | n + 1, v0, v1, v2, v3 =>
    (ldI f v0 7 0).bind fun x6 =>
    if x6 ≤ v3 then
    (some (v2))
    else
    (ldR f v0 7 1).bind fun x14 =>
    (ldA 0 f x14 v3).bind fun x18 =>
    if (x18 &&& v1) = 0 then
    (f_X7_stagesAlwaysOutside_31 (fun a0 a1 a2 a3 => f_X7_stagesAlwaysOutside_4 f n a0 a1 a2 a3) f v0 v1 v3 v2 ((1 : Int32) <<< (v3 &&& 31)))
    else
    f_X7_stagesAlwaysOutside_31 (fun a0 a1 a2 a3 => f_X7_stagesAlwaysOutside_4 f n a0 a1 a2 a3) f v0 v1 v3 v2 (0 : Int32)
noncomputable def f_X7_stagesAlwaysOutside (v0 : Nat) (v1 : Int32) (f : mmF) : Option (Int32) :=
  f_X7_stagesAlwaysOutside_4 f FU v0 v1 (0 : Int32) (0 : Int32)
section S_X7_stagesAlwaysOutside
variable {p : Program} {l : Launch} {e : Env} {s : State} {m : MethodId} {args : Array Value} {below : List Frame} {meth : Method} {c : Code} {D : mmD} {b0 sz : Nat} {f : mmF}
set_option maxHeartbeats 4000000 in
set_option maxRecDepth 100000 in
theorem w_X7_stagesAlwaysOutside_31 (C0 : CX cX7_stagesAlwaysOutside 4 (some .int) wsX7_stagesAlwaysOutside RX7 p s m args meth c D b0) {k4 : Nat → Int32 → Int32 → Int32 → Option (Int32)} {res : Int32} (hk4 : ∀ (v0 : Nat) (v1 : Int32) (v2 : Int32) (v3 : Int32), k4 v0 v1 v2 v3 = some res → ∀ (H : Heap) (locs : List Loc) (ls : Array Slot), MM vwCl D b0 f sz s H → mS b0 s H locs → lv_has ls 4 [(0, .ref v0), (1, .int v1), (2, .int v2), (3, .int v3)] → W p l e ({ frames := 0, cells := 0, slots := 0, locals := 0 } : Room) s m args below meth c H locs 0 0 (MQ below (QW D b0 (some (.int res)) f sz) args s 0 0 (fun q => b0 ≤ q)) (F0 m 4 ls [])) : ∀ (v0 : Nat) (v1 : Int32) (v3 : Int32) (t0 : Int32) (t1 : Int32), f_X7_stagesAlwaysOutside_31 k4 f v0 v1 v3 t0 t1 = some res → ∀ (H : Heap) (locs : List Loc) (ls : Array Slot), MM vwCl D b0 f sz s H → mS b0 s H locs → lv_has ls 4 [(0, .ref v0), (1, .int v1), (3, .int v3)] → W p l e ({ frames := 0, cells := 0, slots := 0, locals := 0 } : Room) s m args below meth c H locs 0 0 (MQ below (QW D b0 (some (.int res)) f sz) args s 0 0 (fun q => b0 ≤ q)) (F0 m 31 ls [.int t1, .int t0]) := by
  obtain ⟨hx, hb, hr, hml, hown, hts, hlocks, hK⟩ := id C0
  intro v0 v1 v3 t0 t1 h H locs ls hM hS hl
  unfold f_X7_stagesAlwaysOutside_31 at h
  refine lv_ior hx hb dX7_stagesAlwaysOutside_31 ?_
  refine lv_istore_n (lv' := [(2, .int (t0 ||| t1)), (0, .ref v0), (1, .int v1), (3, .int v3)]) hx hb dX7_stagesAlwaysOutside_32 rfl hl (by decide) rfl (fun ls hl => ?_)
  refine lv_iinc (v := (v3 + (1 : Int32))) (lv' := [(3, .int (v3 + (1 : Int32))), (2, .int (t0 ||| t1)), (0, .ref v0), (1, .int v1)]) hx hb dX7_stagesAlwaysOutside_33 hl (k := 3) rfl rfl (by decide) rfl (fun ls hl => ?_)
  refine lv_goto (tgt := 4) hx hb dX7_stagesAlwaysOutside_36 (by decide) ?_
  exact hk4 _ _ _ _ h _ _ _ hM hS (lv_sub hl [2, 3, 1, 0] rfl)
set_option maxHeartbeats 4000000 in
set_option maxRecDepth 100000 in
theorem w_X7_stagesAlwaysOutside_4 (C0 : CX cX7_stagesAlwaysOutside 4 (some .int) wsX7_stagesAlwaysOutside RX7 p s m args meth c D b0) {res : Int32} : ∀ (n : Nat), ∀ (v0 : Nat) (v1 : Int32) (v2 : Int32) (v3 : Int32), f_X7_stagesAlwaysOutside_4 f n v0 v1 v2 v3 = some res → ∀ (H : Heap) (locs : List Loc) (ls : Array Slot), MM vwCl D b0 f sz s H → mS b0 s H locs → lv_has ls 4 [(0, .ref v0), (1, .int v1), (2, .int v2), (3, .int v3)] → W p l e ({ frames := 0, cells := 0, slots := 0, locals := 0 } : Room) s m args below meth c H locs 0 0 (MQ below (QW D b0 (some (.int res)) f sz) args s 0 0 (fun q => b0 ≤ q)) (F0 m 4 ls []) := by
  obtain ⟨hx, hb, hr, hml, hown, hts, hlocks, hK⟩ := id C0
  intro n
  induction n with
  | zero =>
    intro v0 v1 v2 v3 h
    have h : (none : Option (Int32)) = some res := h
    cases h
  | succ n ih =>
    intro v0 v1 v2 v3 h H locs ls hM hS hl
    rw [f_X7_stagesAlwaysOutside_4] at h
    refine lv_iload_n hx hb dX7_stagesAlwaysOutside_4 rfl (lv_at hl 3 rfl) ?_
    refine lv_aload_n hx hb dX7_stagesAlwaysOutside_5 rfl (lv_at hl 0 rfl) ?_
    replace h := o_b h; obtain ⟨x6, h6, h⟩ := h
    refine m_get (C := RX7) (T := TX7) (N := 7) (ci := 7) hx hb hts qi_X7_stagesAlwaysOutside_X7 hown hK.1 hM 0 (ldI_F h6) rfl (by decide) (hts _ q_X7_stagesAlwaysOutside_1) (fun _ h9 => h9) dX7_stagesAlwaysOutside_6 ?_
    refine lv_icmp_ge (tgt := 39) hx hb dX7_stagesAlwaysOutside_9 (by decide) (fun c9 => ?_) (fun c9 => ?_)
    · replace h := o_t c9 h
      refine lv_iload_n hx hb dX7_stagesAlwaysOutside_39 rfl (lv_at hl 2 rfl) ?_
      replace h := Option.some.inj h; subst h
      exact W.iret hx hb hr (fun t ht hW => ⟨rfl, by rw [ht]; exact hM.moved hW.alike, hS.F ht⟩) hS.2.2 dX7_stagesAlwaysOutside_40
    replace h := o_f c9 h
    refine lv_iload_n hx hb dX7_stagesAlwaysOutside_12 rfl (lv_at hl 2 rfl) ?_
    refine lv_aload_n hx hb dX7_stagesAlwaysOutside_13 rfl (lv_at hl 0 rfl) ?_
    replace h := o_b h; obtain ⟨x14, h14, h⟩ := h
    refine m_get (C := RX7) (T := TX7) (N := 7) (ci := 7) hx hb hts qi_X7_stagesAlwaysOutside_X7 hown hK.1 hM 1 (ldR_F h14) rfl (by decide) (hts _ q_X7_stagesAlwaysOutside_2) (fun _ h9 => h9) dX7_stagesAlwaysOutside_14 ?_
    refine lv_iload_n hx hb dX7_stagesAlwaysOutside_17 rfl (lv_at hl 3 rfl) ?_
    replace h := o_b h; obtain ⟨x18, h18, h⟩ := h
    refine m_iald hx hb hK.1 hM hS rfl h18 dX7_stagesAlwaysOutside_18 ?_
    refine lv_iload_n hx hb dX7_stagesAlwaysOutside_19 rfl (lv_at hl 1 rfl) ?_
    refine lv_iand hx hb dX7_stagesAlwaysOutside_20 ?_
    refine lv_if_ne (tgt := 30) hx hb dX7_stagesAlwaysOutside_21 (by decide) (fun c21 => ?_) (fun c21 => ?_)
    · replace h := o_f c21 h
      refine lv_iconst (v := (0 : Int32)) hx hb dX7_stagesAlwaysOutside_30 (by decide) ?_
      exact w_X7_stagesAlwaysOutside_31 C0 ih _ _ _ _ _ h _ _ _ hM hS (lv_sub hl [0, 1, 3] rfl)
    replace h := o_t c21 h
    refine lv_iconst (v := (1 : Int32)) hx hb dX7_stagesAlwaysOutside_24 (by decide) ?_
    refine lv_iload_n hx hb dX7_stagesAlwaysOutside_25 rfl (lv_at hl 3 rfl) ?_
    refine lv_ishl hx hb dX7_stagesAlwaysOutside_26 ?_
    refine lv_goto (tgt := 31) hx hb dX7_stagesAlwaysOutside_27 (by decide) ?_
    exact w_X7_stagesAlwaysOutside_31 C0 ih _ _ _ _ _ h _ _ _ hM hS (lv_sub hl [0, 1, 3] rfl)
set_option maxHeartbeats 4000000 in
set_option maxRecDepth 100000 in
theorem w_X7_stagesAlwaysOutside (C0 : CX cX7_stagesAlwaysOutside 4 (some .int) wsX7_stagesAlwaysOutside RX7 p s m args meth c D b0) {v0 : Nat} {v1 : Int32} {res : Int32} (h : f_X7_stagesAlwaysOutside v0 v1 f = some res) : ∀ (H : Heap) (locs : List Loc) (ls : Array Slot), MM vwCl D b0 f sz s H → mS b0 s H locs → lv_has ls 4 [(0, .ref v0), (1, .int v1)] → W p l e ({ frames := 0, cells := 0, slots := 0, locals := 0 } : Room) s m args below meth c H locs 0 0 (MQ below (QW D b0 (some (.int res)) f sz) args s 0 0 (fun q => b0 ≤ q)) (F0 m 0 ls []) := by
  obtain ⟨hx, hb, hr, hml, hown, hts, hlocks, hK⟩ := id C0
  intro H locs ls hM hS hl
  unfold f_X7_stagesAlwaysOutside at h
  refine lv_iconst (v := (0 : Int32)) hx hb dX7_stagesAlwaysOutside_0 (by decide) ?_
  refine lv_istore_n (lv' := [(2, .int (0 : Int32)), (0, .ref v0), (1, .int v1)]) hx hb dX7_stagesAlwaysOutside_1 rfl hl (by decide) rfl (fun ls hl => ?_)
  refine lv_iconst (v := (0 : Int32)) hx hb dX7_stagesAlwaysOutside_2 (by decide) ?_
  refine lv_istore_n (lv' := [(3, .int (0 : Int32)), (2, .int (0 : Int32)), (0, .ref v0), (1, .int v1)]) hx hb dX7_stagesAlwaysOutside_3 rfl hl (by decide) rfl (fun ls hl => ?_)
  exact w_X7_stagesAlwaysOutside_4 C0 FU _ _ _ _ h _ _ _ hM hS (lv_sub hl [2, 3, 1, 0] rfl)
set_option maxHeartbeats 4000000 in
set_option maxRecDepth 100000 in
theorem c_X7_stagesAlwaysOutside (l : Launch) (D : mmD) (b0 sz : Nat) {v0 : Nat} {v1 : Int32} {f : mmF} {res : Int32} (h : f_X7_stagesAlwaysOutside v0 v1 f = some res) : Met l yX7_stagesAlwaysOutside wsX7_stagesAlwaysOutside ({ frames := 0, cells := 0, slots := 0, locals := 0 } : Room) (va_Pc [.ref v0, .int v1] (PW D b0 f sz)) (QW D b0 (some (.int res)) f sz) 0 0 (fun q => b0 ≤ q) := by
  refine Met.ofW (cc := cX7_stagesAlwaysOutside) (maxL := 4) (ret := (some .int)) (by decide) rfl ?_
  intro p e s m args below meth c s₁ B hml hv
  obtain ⟨rfl, hM, hK⟩ := hv
  have hl := lv_entry ([.ref v0, .int v1]) (n := 4) (Nat.le_of_ble_eq_true rfl)
  rw [lg_entry_eq]
  generalize (lg_sl ([.ref v0, .int v1]) ++ List.replicate (4 - (lg_sl ([.ref v0, .int v1])).length) Slot.unset).toArray = ls at hl ⊢
  have hl : lv_has ls 4 [(0, .ref v0), (1, .int v1)] := hl
  exact w_X7_stagesAlwaysOutside ⟨B.exec, B.bytes, B.returns, hml, findClass_of_methodNamed B.named, atoms_spec (ws := wsX7_stagesAlwaysOutside) B.pre, B.notSynchronized, hK⟩ h s.heap [] ls hM va_S.rf hl
end S_X7_stagesAlwaysOutside
/-! X7_stagesWith -/
set_option maxRecDepth 20000 in
theorem qi_X7_stagesWith_X4 : ∀ w ∈ u_ws RX4 TX4 8, w ∈ wsX7_stagesWith := by decide +kernel
set_option maxRecDepth 20000 in
theorem q_X7_stagesWith_1 : Cond.fieldLink RX7 70 "StageTruths$Parts" "size" "I" ∈ wsX7_stagesWith := by decide +kernel
set_option maxRecDepth 20000 in
theorem qi_X7_stagesWith_X7 : ∀ w ∈ u_ws RX7 TX7 7, w ∈ wsX7_stagesWith := by decide +kernel
set_option maxRecDepth 20000 in
theorem q_X7_stagesWith_3 : Cond.fieldLink RX7 36 "StageTruths$State" "values" "[I" ∈ wsX7_stagesWith := by decide +kernel
set_option maxRecDepth 20000 in
theorem q_X7_stagesWith_4 : Cond.initialized RX9 ∈ wsX7_stagesWith := by decide +kernel
set_option maxRecDepth 20000 in
theorem q_X7_stagesWith_5 : Cond.static yX9_at ∈ wsX7_stagesWith := by decide +kernel
set_option maxRecDepth 20000 in
theorem q_X7_stagesWith_6 : Cond.fieldLink RX7 73 "StageTruths$Parts" "left" "[I" ∈ wsX7_stagesWith := by decide +kernel
set_option maxRecDepth 20000 in
theorem q_X7_stagesWith_7 : Cond.fieldLink RX7 80 "StageTruths$Parts" "right" "[I" ∈ wsX7_stagesWith := by decide +kernel
set_option maxRecDepth 20000 in
theorem q_X7_stagesWith_8 : Cond.fieldLink RX7 83 "StageTruths$Parts" "kinds" "[I" ∈ wsX7_stagesWith := by decide +kernel
noncomputable def f_X7_stagesWith_132 (k2 : Nat → Nat → Int32 → Int32 → mmF → Option (Int32 × mmF))  (v0 : Nat) (v1 : Nat) (v2 : Int32) (v3 : Int32) (t0 : Nat) (t1 : Int32) (t2 : Int32) (f : mmF) : Option (Int32 × mmF) :=
  (stA 0 f t0 t1 t2).bind fun f132 =>
  k2 v0 v1 v2 (v3 + (1 : Int32)) f132
noncomputable def f_X7_stagesWith_2   : Nat → Nat → Nat → Int32 → Int32 → mmF → Option (Int32 × mmF)
  | 0, _, _, _, _, _ => none
  | n + 1, v0, v1, v2, v3, f =>
    (ldI f v1 4 0).bind fun x4 =>
    if x4 ≤ v3 then
    ((ldR f v0 7 6).bind fun x140 =>
    (f_X9_at x140 v2 f).bind fun q144 =>
    some (q144, f))
    else
    (ldR f v0 7 6).bind fun x11 =>
    (ldR f v1 4 2).bind fun x15 =>
    (ldA 0 f x15 v3).bind fun x19 =>
    (f_X9_at x11 x19 f).bind fun q20 =>
    (ldR f v0 7 6).bind fun x26 =>
    (ldR f v1 4 3).bind fun x30 =>
    (ldA 0 f x30 v3).bind fun x34 =>
    (f_X9_at x26 x34 f).bind fun q35 =>
    (ldR f v1 4 1).bind fun x41 =>
    (ldA 0 f x41 v3).bind fun x45 =>
    (ldR f v0 7 6).bind fun x49 =>
    if (4 : Int32) ≤ x45 then
    (if x45 = (4 : Int32) then
    ((ckO f v0 7).bind fun _ =>
    (f_X7_all v0 f).bind fun q75 =>
    f_X7_stagesWith_132 (fun a0 a1 a2 a3 a4 => f_X7_stagesWith_2 n a0 a1 a2 a3 a4) v0 v1 v2 v3 x49 v3 q75 f)
    else
    if x45 = (5 : Int32) then
    (f_X7_stagesWith_132 (fun a0 a1 a2 a3 a4 => f_X7_stagesWith_2 n a0 a1 a2 a3 a4) v0 v1 v2 v3 x49 v3 (0 : Int32) f)
    else
    if x45 = (7 : Int32) then
    (f_X7_stagesWith_132 (fun a0 a1 a2 a3 a4 => f_X7_stagesWith_2 n a0 a1 a2 a3 a4) v0 v1 v2 v3 x49 v3 (q20 &&& q35) f)
    else
    if x45 = (8 : Int32) then
    (f_X7_stagesWith_132 (fun a0 a1 a2 a3 a4 => f_X7_stagesWith_2 n a0 a1 a2 a3 a4) v0 v1 v2 v3 x49 v3 (q20 ||| q35) f)
    else
    (ckO f v0 7).bind fun _ =>
    (f_X7_stagesAlwaysOutside v0 (q20 &&& (q35 ^^^ (-1 : Int32))) f).bind fun q129 =>
    f_X7_stagesWith_132 (fun a0 a1 a2 a3 a4 => f_X7_stagesWith_2 n a0 a1 a2 a3 a4) v0 v1 v2 v3 x49 v3 q129 f)
    else
    (ckO f v0 7).bind fun _ =>
    (f_X7_knowing v0 x45 f).bind fun q62 =>
    f_X7_stagesWith_132 (fun a0 a1 a2 a3 a4 => f_X7_stagesWith_2 n a0 a1 a2 a3 a4) v0 v1 v2 v3 x49 v3 q62 f
noncomputable def f_X7_stagesWith (v0 : Nat) (v1 : Nat) (v2 : Int32) (f : mmF) : Option (Int32 × mmF) :=
  f_X7_stagesWith_2 FU v0 v1 v2 (0 : Int32) f
section S_X7_stagesWith
variable {p : Program} {l : Launch} {e : Env} {s : State} {m : MethodId} {args : Array Value} {below : List Frame} {meth : Method} {c : Code} {D : mmD} {b0 sz : Nat} {f : mmF}
set_option maxHeartbeats 4000000 in
set_option maxRecDepth 100000 in
theorem w_X7_stagesWith_132 (C0 : CX cX7_stagesWith 7 (some .int) wsX7_stagesWith RX7 p s m args meth c D b0) {k2 : Nat → Nat → Int32 → Int32 → mmF → Option (Int32 × mmF)} {res : Int32 × mmF} (hk2 : ∀ (v0 : Nat) (v1 : Nat) (v2 : Int32) (v3 : Int32) (f : mmF), k2 v0 v1 v2 v3 f = some res → ∀ (H : Heap) (locs : List Loc) (ls : Array Slot), MM vwCl D b0 f sz s H → mS b0 s H locs → lv_has ls 7 [(0, .ref v0), (1, .ref v1), (2, .int v2), (3, .int v3)] → W p l e ({ frames := 1, cells := 0, slots := 0, locals := 23 } : Room) s m args below meth c H locs 0 0 (MQ below (QW D b0 (some (.int res.1)) res.2 sz) args s 0 0 (fun q => b0 ≤ q)) (F0 m 2 ls [])) : ∀ (v0 : Nat) (v1 : Nat) (v2 : Int32) (v3 : Int32) (t0 : Nat) (t1 : Int32) (t2 : Int32) (f : mmF), f_X7_stagesWith_132 k2 v0 v1 v2 v3 t0 t1 t2 f = some res → ∀ (H : Heap) (locs : List Loc) (ls : Array Slot), MM vwCl D b0 f sz s H → mS b0 s H locs → lv_has ls 7 [(0, .ref v0), (1, .ref v1), (2, .int v2), (3, .int v3)] → W p l e ({ frames := 1, cells := 0, slots := 0, locals := 23 } : Room) s m args below meth c H locs 0 0 (MQ below (QW D b0 (some (.int res.1)) res.2 sz) args s 0 0 (fun q => b0 ≤ q)) (F0 m 132 ls [.int t2, .int t1, .ref t0]) := by
  obtain ⟨hx, hb, hr, hml, hown, hts, hlocks, hK⟩ := id C0
  intro v0 v1 v2 v3 t0 t1 t2 f h H locs ls hM hS hl
  unfold f_X7_stagesWith_132 at h
  replace h := o_b h; obtain ⟨f132, h132, h⟩ := h
  refine m_iast hx hb hK.1 hM hS rfl h132 dX7_stagesWith_132 (fun H locs hM hS => ?_)
  refine lv_iinc (v := (v3 + (1 : Int32))) (lv' := [(3, .int (v3 + (1 : Int32))), (0, .ref v0), (1, .ref v1), (2, .int v2)]) hx hb dX7_stagesWith_133 hl (k := 3) rfl rfl (by decide) rfl (fun ls hl => ?_)
  refine lv_goto (tgt := 2) hx hb dX7_stagesWith_136 (by decide) ?_
  exact hk2 _ _ _ _ _ h _ _ _ hM hS (lv_sub hl [1, 2, 3, 0] rfl)
set_option maxHeartbeats 4000000 in
set_option maxRecDepth 100000 in
theorem w_X7_stagesWith_2 (C0 : CX cX7_stagesWith 7 (some .int) wsX7_stagesWith RX7 p s m args meth c D b0) {res : Int32 × mmF} : ∀ (n : Nat), ∀ (v0 : Nat) (v1 : Nat) (v2 : Int32) (v3 : Int32) (f : mmF), f_X7_stagesWith_2 n v0 v1 v2 v3 f = some res → ∀ (H : Heap) (locs : List Loc) (ls : Array Slot), MM vwCl D b0 f sz s H → mS b0 s H locs → lv_has ls 7 [(0, .ref v0), (1, .ref v1), (2, .int v2), (3, .int v3)] → W p l e ({ frames := 1, cells := 0, slots := 0, locals := 23 } : Room) s m args below meth c H locs 0 0 (MQ below (QW D b0 (some (.int res.1)) res.2 sz) args s 0 0 (fun q => b0 ≤ q)) (F0 m 2 ls []) := by
  obtain ⟨hx, hb, hr, hml, hown, hts, hlocks, hK⟩ := id C0
  intro n
  induction n with
  | zero =>
    intro v0 v1 v2 v3 f h
    have h : (none : Option (Int32 × mmF)) = some res := h
    cases h
  | succ n ih =>
    intro v0 v1 v2 v3 f h H locs ls hM hS hl
    rw [f_X7_stagesWith_2] at h
    refine lv_iload_n hx hb dX7_stagesWith_2 rfl (lv_at hl 3 rfl) ?_
    refine lv_aload_n hx hb dX7_stagesWith_3 rfl (lv_at hl 1 rfl) ?_
    replace h := o_b h; obtain ⟨x4, h4, h⟩ := h
    refine m_get (C := RX4) (T := TX4) (N := 8) (ci := 4) hx hb hts qi_X7_stagesWith_X4 hown hK.1 hM 0 (ldI_F h4) rfl (by decide) (hts _ q_X7_stagesWith_1) (fun _ h9 => h9) dX7_stagesWith_4 ?_
    refine lv_icmp_ge (tgt := 139) hx hb dX7_stagesWith_7 (by decide) (fun c7 => ?_) (fun c7 => ?_)
    · replace h := o_t c7 h
      refine lv_aload_n hx hb dX7_stagesWith_139 rfl (lv_at hl 0 rfl) ?_
      replace h := o_b h; obtain ⟨x140, h140, h⟩ := h
      refine m_get (C := RX7) (T := TX7) (N := 7) (ci := 7) hx hb hts qi_X7_stagesWith_X7 hown hK.1 hM 6 (ldR_F h140) rfl (by decide) (hts _ q_X7_stagesWith_3) (fun _ h9 => h9) dX7_stagesWith_140 ?_
      refine lv_iload_n hx hb dX7_stagesWith_143 rfl (lv_at hl 2 rfl) ?_
      replace h := o_b h; obtain ⟨q144, h144, h⟩ := h
      refine m_call (va_runSN (As := [.ref x140, .int v2]) (rest := []) ⟨hx, hb, hml, hown, hts⟩ (c_X9_at l D b0 sz h144) ⟨(va_cnB 2 hts gX7_stagesWith_X9_at_n76 rfl rfl rfl (hK.2.1 (RX7, 76, yX9_at, "StageTruths") (by decide)) (hts _ q_X7_stagesWith_4) (by decide +kernel) ⟨Nat.le_of_ble_eq_true rfl, Nat.le_of_ble_eq_true rfl⟩), (hts _ q_X7_stagesWith_5), trivial⟩ ⟨PW.blind, (fun U hU hW => ⟨rfl, PW.call hK hM hS hU hW⟩)⟩ rfl rfl hl.1 rfl (lv_room (Nat.le_of_ble_eq_true rfl)) dX7_stagesWith_144 ⟨(Nat.le_refl _), (Nat.le_refl _)⟩) hS (fun H locs hM hS => ?_)
      replace h := Option.some.inj h; subst h
      exact W.iret hx hb hr (fun t ht hW => ⟨rfl, by rw [ht]; exact hM.moved hW.alike, hS.F ht⟩) hS.2.2 dX7_stagesWith_147
    replace h := o_f c7 h
    refine lv_aload_n hx hb dX7_stagesWith_10 rfl (lv_at hl 0 rfl) ?_
    replace h := o_b h; obtain ⟨x11, h11, h⟩ := h
    refine m_get (C := RX7) (T := TX7) (N := 7) (ci := 7) hx hb hts qi_X7_stagesWith_X7 hown hK.1 hM 6 (ldR_F h11) rfl (by decide) (hts _ q_X7_stagesWith_3) (fun _ h9 => h9) dX7_stagesWith_11 ?_
    refine lv_aload_n hx hb dX7_stagesWith_14 rfl (lv_at hl 1 rfl) ?_
    replace h := o_b h; obtain ⟨x15, h15, h⟩ := h
    refine m_get (C := RX4) (T := TX4) (N := 8) (ci := 4) hx hb hts qi_X7_stagesWith_X4 hown hK.1 hM 2 (ldR_F h15) rfl (by decide) (hts _ q_X7_stagesWith_6) (fun _ h9 => h9) dX7_stagesWith_15 ?_
    refine lv_iload_n hx hb dX7_stagesWith_18 rfl (lv_at hl 3 rfl) ?_
    replace h := o_b h; obtain ⟨x19, h19, h⟩ := h
    refine m_iald hx hb hK.1 hM hS rfl h19 dX7_stagesWith_19 ?_
    replace h := o_b h; obtain ⟨q20, h20, h⟩ := h
    refine m_call (va_runSN (As := [.ref x11, .int x19]) (rest := []) ⟨hx, hb, hml, hown, hts⟩ (c_X9_at l D b0 sz h20) ⟨(va_cnB 2 hts gX7_stagesWith_X9_at_n76 rfl rfl rfl (hK.2.1 (RX7, 76, yX9_at, "StageTruths") (by decide)) (hts _ q_X7_stagesWith_4) (by decide +kernel) ⟨Nat.le_of_ble_eq_true rfl, Nat.le_of_ble_eq_true rfl⟩), (hts _ q_X7_stagesWith_5), trivial⟩ ⟨PW.blind, (fun U hU hW => ⟨rfl, PW.call hK hM hS hU hW⟩)⟩ rfl rfl hl.1 rfl (lv_room (Nat.le_of_ble_eq_true rfl)) dX7_stagesWith_20 ⟨(Nat.le_refl _), (Nat.le_refl _)⟩) hS (fun H locs hM hS => ?_)
    refine lv_istore (lv' := [(4, .int q20), (0, .ref v0), (1, .ref v1), (2, .int v2), (3, .int v3)]) hx hb dX7_stagesWith_23 hl (by decide) rfl (fun ls hl => ?_)
    refine lv_aload_n hx hb dX7_stagesWith_25 rfl (lv_at hl 1 rfl) ?_
    replace h := o_b h; obtain ⟨x26, h26, h⟩ := h
    refine m_get (C := RX7) (T := TX7) (N := 7) (ci := 7) hx hb hts qi_X7_stagesWith_X7 hown hK.1 hM 6 (ldR_F h26) rfl (by decide) (hts _ q_X7_stagesWith_3) (fun _ h9 => h9) dX7_stagesWith_26 ?_
    refine lv_aload_n hx hb dX7_stagesWith_29 rfl (lv_at hl 2 rfl) ?_
    replace h := o_b h; obtain ⟨x30, h30, h⟩ := h
    refine m_get (C := RX4) (T := TX4) (N := 8) (ci := 4) hx hb hts qi_X7_stagesWith_X4 hown hK.1 hM 3 (ldR_F h30) rfl (by decide) (hts _ q_X7_stagesWith_7) (fun _ h9 => h9) dX7_stagesWith_30 ?_
    refine lv_iload_n hx hb dX7_stagesWith_33 rfl (lv_at hl 4 rfl) ?_
    replace h := o_b h; obtain ⟨x34, h34, h⟩ := h
    refine m_iald hx hb hK.1 hM hS rfl h34 dX7_stagesWith_34 ?_
    replace h := o_b h; obtain ⟨q35, h35, h⟩ := h
    refine m_call (va_runSN (As := [.ref x26, .int x34]) (rest := []) ⟨hx, hb, hml, hown, hts⟩ (c_X9_at l D b0 sz h35) ⟨(va_cnB 2 hts gX7_stagesWith_X9_at_n76 rfl rfl rfl (hK.2.1 (RX7, 76, yX9_at, "StageTruths") (by decide)) (hts _ q_X7_stagesWith_4) (by decide +kernel) ⟨Nat.le_of_ble_eq_true rfl, Nat.le_of_ble_eq_true rfl⟩), (hts _ q_X7_stagesWith_5), trivial⟩ ⟨PW.blind, (fun U hU hW => ⟨rfl, PW.call hK hM hS hU hW⟩)⟩ rfl rfl hl.1 rfl (lv_room (Nat.le_of_ble_eq_true rfl)) dX7_stagesWith_35 ⟨(Nat.le_refl _), (Nat.le_refl _)⟩) hS (fun H locs hM hS => ?_)
    refine lv_istore (lv' := [(5, .int q35), (4, .int q20), (0, .ref v0), (1, .ref v1), (2, .int v2), (3, .int v3)]) hx hb dX7_stagesWith_38 hl (by decide) rfl (fun ls hl => ?_)
    refine lv_aload_n hx hb dX7_stagesWith_40 rfl (lv_at hl 3 rfl) ?_
    replace h := o_b h; obtain ⟨x41, h41, h⟩ := h
    refine m_get (C := RX4) (T := TX4) (N := 8) (ci := 4) hx hb hts qi_X7_stagesWith_X4 hown hK.1 hM 1 (ldR_F h41) rfl (by decide) (hts _ q_X7_stagesWith_8) (fun _ h9 => h9) dX7_stagesWith_41 ?_
    refine lv_iload_n hx hb dX7_stagesWith_44 rfl (lv_at hl 5 rfl) ?_
    replace h := o_b h; obtain ⟨x45, h45, h⟩ := h
    refine m_iald hx hb hK.1 hM hS rfl h45 dX7_stagesWith_45 ?_
    refine lv_istore (lv' := [(6, .int x45), (5, .int q35), (4, .int q20), (0, .ref v0), (1, .ref v1), (2, .int v2), (3, .int v3)]) hx hb dX7_stagesWith_46 hl (by decide) rfl (fun ls hl => ?_)
    refine lv_aload_n hx hb dX7_stagesWith_48 rfl (lv_at hl 3 rfl) ?_
    replace h := o_b h; obtain ⟨x49, h49, h⟩ := h
    refine m_get (C := RX7) (T := TX7) (N := 7) (ci := 7) hx hb hts qi_X7_stagesWith_X7 hown hK.1 hM 6 (ldR_F h49) rfl (by decide) (hts _ q_X7_stagesWith_3) (fun _ h9 => h9) dX7_stagesWith_49 ?_
    refine lv_iload_n hx hb dX7_stagesWith_52 rfl (lv_at hl 6 rfl) ?_
    refine lv_iload hx hb dX7_stagesWith_53 (lv_at hl 0 rfl) ?_
    refine lv_iconst (v := (4 : Int32)) hx hb dX7_stagesWith_55 (by decide) ?_
    refine lv_icmp_ge (tgt := 68) hx hb dX7_stagesWith_56 (by decide) (fun c56 => ?_) (fun c56 => ?_)
    · replace h := o_t c56 h
      refine lv_iload hx hb dX7_stagesWith_68 (lv_at hl 0 rfl) ?_
      refine lv_iconst (v := (4 : Int32)) hx hb dX7_stagesWith_70 (by decide) ?_
      refine lv_icmp_ne (tgt := 81) hx hb dX7_stagesWith_71 (by decide) (fun c71 => ?_) (fun c71 => ?_)
      · replace h := o_f c71 h
        refine lv_iload hx hb dX7_stagesWith_81 (lv_at hl 0 rfl) ?_
        refine lv_iconst (v := (5 : Int32)) hx hb dX7_stagesWith_83 (by decide) ?_
        refine lv_icmp_ne (tgt := 91) hx hb dX7_stagesWith_84 (by decide) (fun c84 => ?_) (fun c84 => ?_)
        · replace h := o_f c84 h
          refine lv_iload hx hb dX7_stagesWith_91 (lv_at hl 0 rfl) ?_
          refine lv_bipush (v := (7 : Int32)) hx hb dX7_stagesWith_93 (by decide) ?_
          refine lv_icmp_ne (tgt := 106) hx hb dX7_stagesWith_95 (by decide) (fun c95 => ?_) (fun c95 => ?_)
          · replace h := o_f c95 h
            refine lv_iload hx hb dX7_stagesWith_106 (lv_at hl 0 rfl) ?_
            refine lv_bipush (v := (8 : Int32)) hx hb dX7_stagesWith_108 (by decide) ?_
            refine lv_icmp_ne (tgt := 121) hx hb dX7_stagesWith_110 (by decide) (fun c110 => ?_) (fun c110 => ?_)
            · replace h := o_f c110 h
              refine lv_aload_n hx hb dX7_stagesWith_121 rfl (lv_at hl 3 rfl) ?_
              refine lv_iload hx hb dX7_stagesWith_122 (lv_at hl 2 rfl) ?_
              refine lv_iload hx hb dX7_stagesWith_124 (lv_at hl 1 rfl) ?_
              refine lv_iconst (v := (-1 : Int32)) hx hb dX7_stagesWith_126 (by decide) ?_
              refine lv_ixor hx hb dX7_stagesWith_127 ?_
              refine lv_iand hx hb dX7_stagesWith_128 ?_
              replace h := o_b h; obtain ⟨_, k129, h⟩ := h
              replace h := o_b h; obtain ⟨q129, h129, h⟩ := h
              refine m_call (va_runV (As := [.int (q20 &&& (q35 ^^^ (-1 : Int32)))]) (rest := [.int v3, .ref x49]) ⟨hx, hb, hml, hown, hts⟩ (c_X7_stagesAlwaysOutside l D b0 sz h129) (cwV 1 hts gX7_stagesWith_X7_stagesAlwaysOutside rfl rfl rfl (by decide +kernel) ⟨Nat.le_of_ble_eq_true rfl, Nat.le_of_ble_eq_true rfl⟩) ⟨PW.blind, m_recv (ci := 7) rfl hK hM k129, (fun U hU hW => ⟨rfl, PW.call hK hM hS hU hW⟩)⟩ rfl rfl hl.1 rfl (lv_room (Nat.le_of_ble_eq_true rfl)) dX7_stagesWith_129 ⟨(Nat.le_refl _), (Nat.le_refl _)⟩) hS (fun H locs hM hS => ?_)
              exact w_X7_stagesWith_132 C0 ih _ _ _ _ _ _ _ _ h _ _ _ hM hS (lv_sub hl [3, 4, 5, 6] rfl)
            replace h := o_t c110 h
            refine lv_iload hx hb dX7_stagesWith_113 (lv_at hl 2 rfl) ?_
            refine lv_iload hx hb dX7_stagesWith_115 (lv_at hl 1 rfl) ?_
            refine lv_ior hx hb dX7_stagesWith_117 ?_
            refine lv_goto (tgt := 132) hx hb dX7_stagesWith_118 (by decide) ?_
            exact w_X7_stagesWith_132 C0 ih _ _ _ _ _ _ _ _ h _ _ _ hM hS (lv_sub hl [3, 4, 5, 6] rfl)
          replace h := o_t c95 h
          refine lv_iload hx hb dX7_stagesWith_98 (lv_at hl 2 rfl) ?_
          refine lv_iload hx hb dX7_stagesWith_100 (lv_at hl 1 rfl) ?_
          refine lv_iand hx hb dX7_stagesWith_102 ?_
          refine lv_goto (tgt := 132) hx hb dX7_stagesWith_103 (by decide) ?_
          exact w_X7_stagesWith_132 C0 ih _ _ _ _ _ _ _ _ h _ _ _ hM hS (lv_sub hl [3, 4, 5, 6] rfl)
        replace h := o_t c84 h
        refine lv_iconst (v := (0 : Int32)) hx hb dX7_stagesWith_87 (by decide) ?_
        refine lv_goto (tgt := 132) hx hb dX7_stagesWith_88 (by decide) ?_
        exact w_X7_stagesWith_132 C0 ih _ _ _ _ _ _ _ _ h _ _ _ hM hS (lv_sub hl [3, 4, 5, 6] rfl)
      replace h := o_t c71 h
      refine lv_aload_n hx hb dX7_stagesWith_74 rfl (lv_at hl 3 rfl) ?_
      replace h := o_b h; obtain ⟨_, k75, h⟩ := h
      replace h := o_b h; obtain ⟨q75, h75, h⟩ := h
      refine m_call (va_runV (As := []) (rest := [.int v3, .ref x49]) ⟨hx, hb, hml, hown, hts⟩ (c_X7_all l D b0 sz h75) (cwV 0 hts gX7_stagesWith_X7_all rfl rfl rfl (by decide +kernel) ⟨Nat.le_of_ble_eq_true rfl, Nat.le_of_ble_eq_true rfl⟩) ⟨PW.blind, m_recv (ci := 7) rfl hK hM k75, (fun U hU hW => ⟨rfl, PW.call hK hM hS hU hW⟩)⟩ rfl rfl hl.1 rfl (lv_room (Nat.le_of_ble_eq_true rfl)) dX7_stagesWith_75 ⟨(Nat.le_refl _), (Nat.le_refl _)⟩) hS (fun H locs hM hS => ?_)
      refine lv_goto (tgt := 132) hx hb dX7_stagesWith_78 (by decide) ?_
      exact w_X7_stagesWith_132 C0 ih _ _ _ _ _ _ _ _ h _ _ _ hM hS (lv_sub hl [3, 4, 5, 6] rfl)
    replace h := o_f c56 h
    refine lv_aload_n hx hb dX7_stagesWith_59 rfl (lv_at hl 3 rfl) ?_
    refine lv_iload hx hb dX7_stagesWith_60 (lv_at hl 0 rfl) ?_
    replace h := o_b h; obtain ⟨_, k62, h⟩ := h
    replace h := o_b h; obtain ⟨q62, h62, h⟩ := h
    refine m_call (va_runV (As := [.int x45]) (rest := [.int v3, .ref x49]) ⟨hx, hb, hml, hown, hts⟩ (c_X7_knowing l D b0 sz h62) (cwV 1 hts gX7_stagesWith_X7_knowing rfl rfl rfl (by decide +kernel) ⟨Nat.le_of_ble_eq_true rfl, Nat.le_of_ble_eq_true rfl⟩) ⟨PW.blind, m_recv (ci := 7) rfl hK hM k62, (fun U hU hW => ⟨rfl, PW.call hK hM hS hU hW⟩)⟩ rfl rfl hl.1 rfl (lv_room (Nat.le_of_ble_eq_true rfl)) dX7_stagesWith_62 ⟨(Nat.le_refl _), (Nat.le_refl _)⟩) hS (fun H locs hM hS => ?_)
    refine lv_goto (tgt := 132) hx hb dX7_stagesWith_65 (by decide) ?_
    exact w_X7_stagesWith_132 C0 ih _ _ _ _ _ _ _ _ h _ _ _ hM hS (lv_sub hl [3, 4, 5, 6] rfl)
set_option maxHeartbeats 4000000 in
set_option maxRecDepth 100000 in
theorem w_X7_stagesWith (C0 : CX cX7_stagesWith 7 (some .int) wsX7_stagesWith RX7 p s m args meth c D b0) {v0 : Nat} {v1 : Nat} {v2 : Int32} {res : Int32 × mmF} (h : f_X7_stagesWith v0 v1 v2 f = some res) : ∀ (H : Heap) (locs : List Loc) (ls : Array Slot), MM vwCl D b0 f sz s H → mS b0 s H locs → lv_has ls 7 [(0, .ref v0), (1, .ref v1), (2, .int v2)] → W p l e ({ frames := 1, cells := 0, slots := 0, locals := 23 } : Room) s m args below meth c H locs 0 0 (MQ below (QW D b0 (some (.int res.1)) res.2 sz) args s 0 0 (fun q => b0 ≤ q)) (F0 m 0 ls []) := by
  obtain ⟨hx, hb, hr, hml, hown, hts, hlocks, hK⟩ := id C0
  intro H locs ls hM hS hl
  unfold f_X7_stagesWith at h
  refine lv_iconst (v := (0 : Int32)) hx hb dX7_stagesWith_0 (by decide) ?_
  refine lv_istore_n (lv' := [(3, .int (0 : Int32)), (0, .ref v0), (1, .ref v1), (2, .int v2)]) hx hb dX7_stagesWith_1 rfl hl (by decide) rfl (fun ls hl => ?_)
  exact w_X7_stagesWith_2 C0 FU _ _ _ _ _ h _ _ _ hM hS (lv_sub hl [1, 2, 3, 0] rfl)
set_option maxHeartbeats 4000000 in
set_option maxRecDepth 100000 in
theorem c_X7_stagesWith (l : Launch) (D : mmD) (b0 sz : Nat) {v0 : Nat} {v1 : Nat} {v2 : Int32} {f : mmF} {res : Int32 × mmF} (h : f_X7_stagesWith v0 v1 v2 f = some res) : Met l yX7_stagesWith wsX7_stagesWith ({ frames := 1, cells := 0, slots := 0, locals := 23 } : Room) (va_Pc [.ref v0, .ref v1, .int v2] (PW D b0 f sz)) (QW D b0 (some (.int res.1)) res.2 sz) 0 0 (fun q => b0 ≤ q) := by
  refine Met.ofW (cc := cX7_stagesWith) (maxL := 7) (ret := (some .int)) (by decide) rfl ?_
  intro p e s m args below meth c s₁ B hml hv
  obtain ⟨rfl, hM, hK⟩ := hv
  have hl := lv_entry ([.ref v0, .ref v1, .int v2]) (n := 7) (Nat.le_of_ble_eq_true rfl)
  rw [lg_entry_eq]
  generalize (lg_sl ([.ref v0, .ref v1, .int v2]) ++ List.replicate (7 - (lg_sl ([.ref v0, .ref v1, .int v2])).length) Slot.unset).toArray = ls at hl ⊢
  have hl : lv_has ls 7 [(0, .ref v0), (1, .ref v1), (2, .int v2)] := hl
  exact w_X7_stagesWith ⟨B.exec, B.bytes, B.returns, hml, findClass_of_methodNamed B.named, atoms_spec (ws := wsX7_stagesWith) B.pre, B.notSynchronized, hK⟩ h s.heap [] ls hM va_S.rf hl
end S_X7_stagesWith
/-! X8_init -/
set_option maxRecDepth 20000 in
theorem q_X8_init_0 : Cond.methodLink RX8 3 objectInit ∈ wsX8_init := by decide +kernel
set_option maxRecDepth 20000 in
theorem q_X8_init_1 : Cond.instanceMethod objectInit ∈ wsX8_init := by decide +kernel
set_option maxRecDepth 20000 in
theorem q_X8_init_2 : Cond.code objectInit ⟨#[0xb1]⟩ 1 none ∈ wsX8_init := by decide +kernel
set_option maxRecDepth 20000 in
theorem qi_X8_init_X8 : ∀ w ∈ u_ws RX8 TX8 7, w ∈ wsX8_init := by decide +kernel
set_option maxRecDepth 20000 in
theorem q_X8_init_4 : Cond.fieldLink RX8 9 "StageTruths$Text" "length" "I" ∈ wsX8_init := by decide +kernel
set_option maxRecDepth 20000 in
theorem q_X8_init_5 : Cond.arrayClass .int ∈ wsX8_init := by decide +kernel
set_option maxRecDepth 20000 in
theorem q_X8_init_6 : Cond.fieldLink RX8 15 "StageTruths$Text" "signs" "[I" ∈ wsX8_init := by decide +kernel
set_option maxRecDepth 20000 in
theorem q_X8_init_7 : Cond.fieldLink RX8 19 "StageTruths$Text" "read" "[I" ∈ wsX8_init := by decide +kernel
set_option maxRecDepth 20000 in
theorem q_X8_init_8 : Cond.fieldLink RX8 22 "StageTruths$Text" "readLength" "I" ∈ wsX8_init := by decide +kernel
set_option maxRecDepth 20000 in
theorem q_X8_init_9 : Cond.fieldLink RX8 25 "StageTruths$Text" "waiting" "[I" ∈ wsX8_init := by decide +kernel
set_option maxRecDepth 20000 in
theorem q_X8_init_10 : Cond.fieldLink RX8 28 "StageTruths$Text" "waitingLength" "I" ∈ wsX8_init := by decide +kernel
set_option maxRecDepth 20000 in
theorem q_X8_init_11 : Cond.fieldLink RX8 31 "StageTruths$Text" "open" "I" ∈ wsX8_init := by decide +kernel
noncomputable def f_X8_init (v0 : Nat) (f : mmF) (sz : Nat) : Option (mmF × Nat) :=
  (stF f v0 8 0 (.int (0 : Int32))).bind fun f6 =>
  (some (va_up f6 sz (some (.inl (0, 30, .inl (fun _ => 0)))))).bind fun f12 =>
  (stF f12 v0 8 1 (.ref sz)).bind fun f14 =>
  (some (va_up f14 (sz + 1) (some (.inl (0, 30, .inl (fun _ => 0)))))).bind fun f20 =>
  (stF f20 v0 8 2 (.ref (sz + 1))).bind fun f22 =>
  (stF f22 v0 8 3 (.int (0 : Int32))).bind fun f27 =>
  (some (va_up f27 ((sz + 1) + 1) (some (.inl (0, 30, .inl (fun _ => 0)))))).bind fun f33 =>
  (stF f33 v0 8 4 (.ref ((sz + 1) + 1))).bind fun f35 =>
  (stF f35 v0 8 5 (.int (0 : Int32))).bind fun f40 =>
  (stF f40 v0 8 6 (.int (0 : Int32))).bind fun f45 =>
  some (f45, (((sz + 1) + 1) + 1))
section S_X8_init
variable {p : Program} {l : Launch} {e : Env} {s : State} {m : MethodId} {args : Array Value} {below : List Frame} {meth : Method} {c : Code} {D : mmD} {b0 sz : Nat} {f : mmF}
set_option maxHeartbeats 4000000 in
set_option maxRecDepth 100000 in
theorem w_X8_init (C0 : CX cX8_init 1 none wsX8_init RX8 p s m args meth c D b0) (hin : meth.name = "<init>") {v0 : Nat} {res : mmF × Nat} (h : f_X8_init v0 f sz = some res) : ∀ (H : Heap) (locs : List Loc) (ls : Array Slot), MM vwCl D b0 f sz s H → mS b0 s H locs → lv_has ls 1 [(0, .ref v0)] → W p l e ({ frames := 1, cells := 3, slots := 90, locals := 24 } : Room) s m args below meth c H locs 0 0 (MQ below (QW D b0 none res.1 res.2) args s 3 90 (fun q => b0 ≤ q)) (F0 m 0 ls []) := by
  obtain ⟨hx, hb, hr, hml, hown, hts, hlocks, hK⟩ := id C0
  intro H locs ls hM hS hl
  unfold f_X8_init at h
  refine lv_aload_n hx hb dX8_init_0 rfl (lv_at hl 0 rfl) ?_
  refine W.objInit hx hb hown (hts _ q_X8_init_0) (hts _ q_X8_init_1) (hts _ q_X8_init_2) rfl (by rw [hml]; exact hl.1) rfl dX8_init_1 (Nat.le_of_ble_eq_true rfl) (Nat.le_of_ble_eq_true rfl) ?_
  refine lv_aload_n hx hb dX8_init_4 rfl (lv_at hl 0 rfl) ?_
  refine lv_iconst (v := (0 : Int32)) hx hb dX8_init_5 (by decide) ?_
  replace h := o_b h; obtain ⟨f6, h6, h⟩ := h
  refine m_put (ty := .int) (C := RX8) (T := TX8) (N := 7) (ci := 8) hx hb hts qi_X8_init_X8 tyX8 tyX8_ok nmX8 hown hK.1 hM hS 0 h6 rfl (by decide) (hts _ q_X8_init_4) (fun _ h9 => h9) rfl (by decide +kernel) rfl rfl dX8_init_6 (fun H locs hM hS => ?_)
  refine lv_aload_n hx hb dX8_init_9 rfl (lv_at hl 0 rfl) ?_
  refine lv_bipush (v := (30 : Int32)) hx hb dX8_init_10 (by decide) ?_
  refine m_newa 0 (by decide) hx hb (atype := .int) (N' := 30) (hts _ q_X8_init_5) rfl rfl hK.1 hM hS (y := .inl (fun _ => 0)) (fun _ => rfl) (fun _ => Iff.rfl) (by decide) (by decide) (Nat.le_of_ble_eq_true rfl) (Nat.le_of_ble_eq_true rfl) (Nat.le_of_ble_eq_true rfl) dX8_init_12 (fun H hM hS => ?_)
  replace h := o_b h; obtain ⟨f12, h12, h⟩ := h
  replace h12 := Option.some.inj h12
  subst h12
  replace h := o_b h; obtain ⟨f14, h14, h⟩ := h
  refine m_putF (ty := (.array .int)) (C := RX8) (T := TX8) (N := 7) (ci := 8) hx hb hts qi_X8_init_X8 tyX8 tyX8_ok nmX8 hown hK.1 hM hS 1 h14 rfl (by decide) (hts _ q_X8_init_6) (fun _ h9 => h9) rfl hin rfl (by decide +kernel) rfl rfl dX8_init_14 (fun H locs hM hS => ?_)
  refine lv_aload_n hx hb dX8_init_17 rfl (lv_at hl 0 rfl) ?_
  refine lv_bipush (v := (30 : Int32)) hx hb dX8_init_18 (by decide) ?_
  refine m_newa 0 (by decide) hx hb (atype := .int) (N' := 30) (hts _ q_X8_init_5) rfl rfl hK.1 hM hS (y := .inl (fun _ => 0)) (fun _ => rfl) (fun _ => Iff.rfl) (by decide) (by decide) (Nat.le_of_ble_eq_true rfl) (Nat.le_of_ble_eq_true rfl) (Nat.le_of_ble_eq_true rfl) dX8_init_20 (fun H hM hS => ?_)
  replace h := o_b h; obtain ⟨f20, h20, h⟩ := h
  replace h20 := Option.some.inj h20
  subst h20
  replace h := o_b h; obtain ⟨f22, h22, h⟩ := h
  refine m_putF (ty := (.array .int)) (C := RX8) (T := TX8) (N := 7) (ci := 8) hx hb hts qi_X8_init_X8 tyX8 tyX8_ok nmX8 hown hK.1 hM hS 2 h22 rfl (by decide) (hts _ q_X8_init_7) (fun _ h9 => h9) rfl hin rfl (by decide +kernel) rfl rfl dX8_init_22 (fun H locs hM hS => ?_)
  refine lv_aload_n hx hb dX8_init_25 rfl (lv_at hl 0 rfl) ?_
  refine lv_iconst (v := (0 : Int32)) hx hb dX8_init_26 (by decide) ?_
  replace h := o_b h; obtain ⟨f27, h27, h⟩ := h
  refine m_put (ty := .int) (C := RX8) (T := TX8) (N := 7) (ci := 8) hx hb hts qi_X8_init_X8 tyX8 tyX8_ok nmX8 hown hK.1 hM hS 3 h27 rfl (by decide) (hts _ q_X8_init_8) (fun _ h9 => h9) rfl (by decide +kernel) rfl rfl dX8_init_27 (fun H locs hM hS => ?_)
  refine lv_aload_n hx hb dX8_init_30 rfl (lv_at hl 0 rfl) ?_
  refine lv_bipush (v := (30 : Int32)) hx hb dX8_init_31 (by decide) ?_
  refine m_newa 0 (by decide) hx hb (atype := .int) (N' := 30) (hts _ q_X8_init_5) rfl rfl hK.1 hM hS (y := .inl (fun _ => 0)) (fun _ => rfl) (fun _ => Iff.rfl) (by decide) (by decide) (Nat.le_of_ble_eq_true rfl) (Nat.le_of_ble_eq_true rfl) (Nat.le_of_ble_eq_true rfl) dX8_init_33 (fun H hM hS => ?_)
  replace h := o_b h; obtain ⟨f33, h33, h⟩ := h
  replace h33 := Option.some.inj h33
  subst h33
  replace h := o_b h; obtain ⟨f35, h35, h⟩ := h
  refine m_putF (ty := (.array .int)) (C := RX8) (T := TX8) (N := 7) (ci := 8) hx hb hts qi_X8_init_X8 tyX8 tyX8_ok nmX8 hown hK.1 hM hS 4 h35 rfl (by decide) (hts _ q_X8_init_9) (fun _ h9 => h9) rfl hin rfl (by decide +kernel) rfl rfl dX8_init_35 (fun H locs hM hS => ?_)
  refine lv_aload_n hx hb dX8_init_38 rfl (lv_at hl 0 rfl) ?_
  refine lv_iconst (v := (0 : Int32)) hx hb dX8_init_39 (by decide) ?_
  replace h := o_b h; obtain ⟨f40, h40, h⟩ := h
  refine m_put (ty := .int) (C := RX8) (T := TX8) (N := 7) (ci := 8) hx hb hts qi_X8_init_X8 tyX8 tyX8_ok nmX8 hown hK.1 hM hS 5 h40 rfl (by decide) (hts _ q_X8_init_10) (fun _ h9 => h9) rfl (by decide +kernel) rfl rfl dX8_init_40 (fun H locs hM hS => ?_)
  refine lv_aload_n hx hb dX8_init_43 rfl (lv_at hl 0 rfl) ?_
  refine lv_iconst (v := (0 : Int32)) hx hb dX8_init_44 (by decide) ?_
  replace h := o_b h; obtain ⟨f45, h45, h⟩ := h
  refine m_put (ty := .int) (C := RX8) (T := TX8) (N := 7) (ci := 8) hx hb hts qi_X8_init_X8 tyX8 tyX8_ok nmX8 hown hK.1 hM hS 6 h45 rfl (by decide) (hts _ q_X8_init_11) (fun _ h9 => h9) rfl (by decide +kernel) rfl rfl dX8_init_45 (fun H locs hM hS => ?_)
  refine W.widen (k := 3) (n := 90) (Nat.le_of_ble_eq_true rfl) (Nat.le_of_ble_eq_true rfl) ?_
  replace h := Option.some.inj h; subst h
  exact W.vret hx hb hr (fun t ht hW => ⟨rfl, by rw [ht]; exact hM.moved hW.alike, hS.F ht⟩) hS.2.2 dX8_init_48
set_option maxHeartbeats 4000000 in
set_option maxRecDepth 100000 in
theorem c_X8_init (l : Launch) (D : mmD) (b0 sz : Nat) {v0 : Nat} {f : mmF} {res : mmF × Nat} (h : f_X8_init v0 f sz = some res) : Met l yX8_init wsX8_init ({ frames := 1, cells := 3, slots := 90, locals := 24 } : Room) (va_Pc [.ref v0] (PW D b0 f sz)) (QW D b0 none res.1 res.2) 3 90 (fun q => b0 ≤ q) := by
  refine Met.ofW (cc := cX8_init) (maxL := 1) (ret := none) (by decide) rfl ?_
  intro p e s m args below meth c s₁ B hml hv
  obtain ⟨rfl, hM, hK⟩ := hv
  have hl := lv_entry ([.ref v0]) (n := 1) (Nat.le_of_ble_eq_true rfl)
  rw [lg_entry_eq]
  generalize (lg_sl ([.ref v0]) ++ List.replicate (1 - (lg_sl ([.ref v0])).length) Slot.unset).toArray = ls at hl ⊢
  have hl : lv_has ls 1 [(0, .ref v0)] := hl
  exact w_X8_init ⟨B.exec, B.bytes, B.returns, hml, findClass_of_methodNamed B.named, atoms_spec (ws := wsX8_init) B.pre, B.notSynchronized, hK⟩ (name_of_methodNamed B.named B.method).1 h s.heap [] ls hM va_S.rf hl
end S_X8_init
/-! X8_signOf -/
noncomputable def f_X8_signOf (v0 : Int32) (f : mmF) : Option (Int32) :=
  if v0 = (38 : Int32) then
  (some ((7 : Int32)))
  else
  if v0 = (40 : Int32) then
  (some ((10 : Int32)))
  else
  if v0 = (41 : Int32) then
  (some ((11 : Int32)))
  else
  if v0 = (62 : Int32) then
  (some ((9 : Int32)))
  else
  if v0 = (70 : Int32) then
  (some ((5 : Int32)))
  else
  if v0 = (84 : Int32) then
  (some ((4 : Int32)))
  else
  if v0 = (97 : Int32) then
  (some ((v0 - (97 : Int32))))
  else
  if v0 = (98 : Int32) then
  (some ((v0 - (97 : Int32))))
  else
  if v0 = (99 : Int32) then
  (some ((v0 - (97 : Int32))))
  else
  if v0 = (100 : Int32) then
  (some ((v0 - (97 : Int32))))
  else
  if v0 = (124 : Int32) then
  (some ((8 : Int32)))
  else
  if v0 = (126 : Int32) then
  (some ((6 : Int32)))
  else
  some ((12 : Int32))
section S_X8_signOf
variable {p : Program} {l : Launch} {e : Env} {s : State} {m : MethodId} {args : Array Value} {below : List Frame} {meth : Method} {c : Code} {D : mmD} {b0 sz : Nat} {f : mmF}
set_option maxHeartbeats 4000000 in
set_option maxRecDepth 100000 in
theorem w_X8_signOf (C0 : CX cX8_signOf 1 (some .int) wsX8_signOf RX8 p s m args meth c D b0) {v0 : Int32} {res : Int32} (h : f_X8_signOf v0 f = some res) : ∀ (H : Heap) (locs : List Loc) (ls : Array Slot), MM vwCl D b0 f sz s H → mS b0 s H locs → lv_has ls 1 [(0, .int v0)] → W p l e ({ frames := 0, cells := 0, slots := 0, locals := 0 } : Room) s m args below meth c H locs 0 0 (MQ below (QW D b0 (some (.int res)) f sz) args s 0 0 (fun q => b0 ≤ q)) (F0 m 0 ls []) := by
  obtain ⟨hx, hb, hr, hml, hown, hts, hlocks, hK⟩ := id C0
  intro H locs ls hM hS hl
  unfold f_X8_signOf at h
  refine lv_iload_n hx hb dX8_signOf_0 rfl (lv_at hl 0 rfl) ?_
  by_cases c1_0 : v0 = (38 : Int32)
  · replace h := o_t c1_0 h
    refine lv_lookup (off := 119) (tgt := 120) hx hb dX8_signOf_1 (by decide) (by rw [c1_0] <;> rfl) (by decide) ?_
    refine lv_bipush (v := (7 : Int32)) hx hb dX8_signOf_120 (by decide) ?_
    replace h := Option.some.inj h; subst h
    exact W.iret hx hb hr (fun t ht hW => ⟨rfl, by rw [ht]; exact hM.moved hW.alike, hS.F ht⟩) hS.2.2 dX8_signOf_122
  replace h := o_f c1_0 h
  by_cases c1_1 : v0 = (40 : Int32)
  · replace h := o_t c1_1 h
    refine lv_lookup (off := 128) (tgt := 129) hx hb dX8_signOf_1 (by decide) (by rw [c1_1] <;> rfl) (by decide) ?_
    refine lv_bipush (v := (10 : Int32)) hx hb dX8_signOf_129 (by decide) ?_
    replace h := Option.some.inj h; subst h
    exact W.iret hx hb hr (fun t ht hW => ⟨rfl, by rw [ht]; exact hM.moved hW.alike, hS.F ht⟩) hS.2.2 dX8_signOf_131
  replace h := o_f c1_1 h
  by_cases c1_2 : v0 = (41 : Int32)
  · replace h := o_t c1_2 h
    refine lv_lookup (off := 131) (tgt := 132) hx hb dX8_signOf_1 (by decide) (by rw [c1_2] <;> rfl) (by decide) ?_
    refine lv_bipush (v := (11 : Int32)) hx hb dX8_signOf_132 (by decide) ?_
    replace h := Option.some.inj h; subst h
    exact W.iret hx hb hr (fun t ht hW => ⟨rfl, by rw [ht]; exact hM.moved hW.alike, hS.F ht⟩) hS.2.2 dX8_signOf_134
  replace h := o_f c1_2 h
  by_cases c1_3 : v0 = (62 : Int32)
  · replace h := o_t c1_3 h
    refine lv_lookup (off := 125) (tgt := 126) hx hb dX8_signOf_1 (by decide) (by rw [c1_3] <;> rfl) (by decide) ?_
    refine lv_bipush (v := (9 : Int32)) hx hb dX8_signOf_126 (by decide) ?_
    replace h := Option.some.inj h; subst h
    exact W.iret hx hb hr (fun t ht hW => ⟨rfl, by rw [ht]; exact hM.moved hW.alike, hS.F ht⟩) hS.2.2 dX8_signOf_128
  replace h := o_f c1_3 h
  by_cases c1_4 : v0 = (70 : Int32)
  · replace h := o_t c1_4 h
    refine lv_lookup (off := 114) (tgt := 115) hx hb dX8_signOf_1 (by decide) (by rw [c1_4] <;> rfl) (by decide) ?_
    refine lv_iconst (v := (5 : Int32)) hx hb dX8_signOf_115 (by decide) ?_
    replace h := Option.some.inj h; subst h
    exact W.iret hx hb hr (fun t ht hW => ⟨rfl, by rw [ht]; exact hM.moved hW.alike, hS.F ht⟩) hS.2.2 dX8_signOf_116
  replace h := o_f c1_4 h
  by_cases c1_5 : v0 = (84 : Int32)
  · replace h := o_t c1_5 h
    refine lv_lookup (off := 112) (tgt := 113) hx hb dX8_signOf_1 (by decide) (by rw [c1_5] <;> rfl) (by decide) ?_
    refine lv_iconst (v := (4 : Int32)) hx hb dX8_signOf_113 (by decide) ?_
    replace h := Option.some.inj h; subst h
    exact W.iret hx hb hr (fun t ht hW => ⟨rfl, by rw [ht]; exact hM.moved hW.alike, hS.F ht⟩) hS.2.2 dX8_signOf_114
  replace h := o_f c1_5 h
  by_cases c1_6 : v0 = (97 : Int32)
  · replace h := o_t c1_6 h
    refine lv_lookup (off := 107) (tgt := 108) hx hb dX8_signOf_1 (by decide) (by rw [c1_6] <;> rfl) (by decide) ?_
    refine lv_iload_n hx hb dX8_signOf_108 rfl (lv_at hl 0 rfl) ?_
    refine lv_bipush (v := (97 : Int32)) hx hb dX8_signOf_109 (by decide) ?_
    refine lv_isub hx hb dX8_signOf_111 ?_
    replace h := Option.some.inj h; subst h
    exact W.iret hx hb hr (fun t ht hW => ⟨rfl, by rw [ht]; exact hM.moved hW.alike, hS.F ht⟩) hS.2.2 dX8_signOf_112
  replace h := o_f c1_6 h
  by_cases c1_7 : v0 = (98 : Int32)
  · replace h := o_t c1_7 h
    refine lv_lookup (off := 107) (tgt := 108) hx hb dX8_signOf_1 (by decide) (by rw [c1_7] <;> rfl) (by decide) ?_
    refine lv_iload_n hx hb dX8_signOf_108 rfl (lv_at hl 0 rfl) ?_
    refine lv_bipush (v := (97 : Int32)) hx hb dX8_signOf_109 (by decide) ?_
    refine lv_isub hx hb dX8_signOf_111 ?_
    replace h := Option.some.inj h; subst h
    exact W.iret hx hb hr (fun t ht hW => ⟨rfl, by rw [ht]; exact hM.moved hW.alike, hS.F ht⟩) hS.2.2 dX8_signOf_112
  replace h := o_f c1_7 h
  by_cases c1_8 : v0 = (99 : Int32)
  · replace h := o_t c1_8 h
    refine lv_lookup (off := 107) (tgt := 108) hx hb dX8_signOf_1 (by decide) (by rw [c1_8] <;> rfl) (by decide) ?_
    refine lv_iload_n hx hb dX8_signOf_108 rfl (lv_at hl 0 rfl) ?_
    refine lv_bipush (v := (97 : Int32)) hx hb dX8_signOf_109 (by decide) ?_
    refine lv_isub hx hb dX8_signOf_111 ?_
    replace h := Option.some.inj h; subst h
    exact W.iret hx hb hr (fun t ht hW => ⟨rfl, by rw [ht]; exact hM.moved hW.alike, hS.F ht⟩) hS.2.2 dX8_signOf_112
  replace h := o_f c1_8 h
  by_cases c1_9 : v0 = (100 : Int32)
  · replace h := o_t c1_9 h
    refine lv_lookup (off := 107) (tgt := 108) hx hb dX8_signOf_1 (by decide) (by rw [c1_9] <;> rfl) (by decide) ?_
    refine lv_iload_n hx hb dX8_signOf_108 rfl (lv_at hl 0 rfl) ?_
    refine lv_bipush (v := (97 : Int32)) hx hb dX8_signOf_109 (by decide) ?_
    refine lv_isub hx hb dX8_signOf_111 ?_
    replace h := Option.some.inj h; subst h
    exact W.iret hx hb hr (fun t ht hW => ⟨rfl, by rw [ht]; exact hM.moved hW.alike, hS.F ht⟩) hS.2.2 dX8_signOf_112
  replace h := o_f c1_9 h
  by_cases c1_10 : v0 = (124 : Int32)
  · replace h := o_t c1_10 h
    refine lv_lookup (off := 122) (tgt := 123) hx hb dX8_signOf_1 (by decide) (by rw [c1_10] <;> rfl) (by decide) ?_
    refine lv_bipush (v := (8 : Int32)) hx hb dX8_signOf_123 (by decide) ?_
    replace h := Option.some.inj h; subst h
    exact W.iret hx hb hr (fun t ht hW => ⟨rfl, by rw [ht]; exact hM.moved hW.alike, hS.F ht⟩) hS.2.2 dX8_signOf_125
  replace h := o_f c1_10 h
  by_cases c1_11 : v0 = (126 : Int32)
  · replace h := o_t c1_11 h
    refine lv_lookup (off := 116) (tgt := 117) hx hb dX8_signOf_1 (by decide) (by rw [c1_11] <;> rfl) (by decide) ?_
    refine lv_bipush (v := (6 : Int32)) hx hb dX8_signOf_117 (by decide) ?_
    replace h := Option.some.inj h; subst h
    exact W.iret hx hb hr (fun t ht hW => ⟨rfl, by rw [ht]; exact hM.moved hW.alike, hS.F ht⟩) hS.2.2 dX8_signOf_119
  replace h := o_f c1_11 h
  refine lv_lookup (off := 134) (tgt := 135) hx hb dX8_signOf_1 (by decide) (by show Op.lookupswitch.offset [(38, 119), (40, 128), (41, 131), (62, 125), (70, 114), (84, 112), (97, 107), (98, 107), (99, 107), (100, 107), (124, 122), (126, 116)] _ _ = _; rw [lv_osw c1_0 (a := 38) (by decide), lv_osw c1_1 (a := 40) (by decide), lv_osw c1_2 (a := 41) (by decide), lv_osw c1_3 (a := 62) (by decide), lv_osw c1_4 (a := 70) (by decide), lv_osw c1_5 (a := 84) (by decide), lv_osw c1_6 (a := 97) (by decide), lv_osw c1_7 (a := 98) (by decide), lv_osw c1_8 (a := 99) (by decide), lv_osw c1_9 (a := 100) (by decide), lv_osw c1_10 (a := 124) (by decide), lv_osw c1_11 (a := 126) (by decide)] <;> rfl) (by decide) ?_
  refine lv_bipush (v := (12 : Int32)) hx hb dX8_signOf_135 (by decide) ?_
  replace h := Option.some.inj h; subst h
  exact W.iret hx hb hr (fun t ht hW => ⟨rfl, by rw [ht]; exact hM.moved hW.alike, hS.F ht⟩) hS.2.2 dX8_signOf_137
set_option maxHeartbeats 4000000 in
set_option maxRecDepth 100000 in
theorem c_X8_signOf (l : Launch) (D : mmD) (b0 sz : Nat) {v0 : Int32} {f : mmF} {res : Int32} (h : f_X8_signOf v0 f = some res) : Met l yX8_signOf wsX8_signOf ({ frames := 0, cells := 0, slots := 0, locals := 0 } : Room) (va_Pc [.int v0] (PW D b0 f sz)) (QW D b0 (some (.int res)) f sz) 0 0 (fun q => b0 ≤ q) := by
  refine Met.ofW (cc := cX8_signOf) (maxL := 1) (ret := (some .int)) (by decide) rfl ?_
  intro p e s m args below meth c s₁ B hml hv
  obtain ⟨rfl, hM, hK⟩ := hv
  have hl := lv_entry ([.int v0]) (n := 1) (Nat.le_of_ble_eq_true rfl)
  rw [lg_entry_eq]
  generalize (lg_sl ([.int v0]) ++ List.replicate (1 - (lg_sl ([.int v0])).length) Slot.unset).toArray = ls at hl ⊢
  have hl : lv_has ls 1 [(0, .int v0)] := hl
  exact w_X8_signOf ⟨B.exec, B.bytes, B.returns, hml, findClass_of_methodNamed B.named, atoms_spec (ws := wsX8_signOf) B.pre, B.notSynchronized, hK⟩ h s.heap [] ls hM va_S.rf hl
end S_X8_signOf
/-! X8_append -/
set_option maxRecDepth 20000 in
theorem qi_X8_append_X8 : ∀ w ∈ u_ws RX8 TX8 7, w ∈ wsX8_append := by decide +kernel
set_option maxRecDepth 20000 in
theorem q_X8_append_1 : Cond.fieldLink RX8 9 "StageTruths$Text" "length" "I" ∈ wsX8_append := by decide +kernel
set_option maxRecDepth 20000 in
theorem q_X8_append_2 : Cond.fieldLink RX8 15 "StageTruths$Text" "signs" "[I" ∈ wsX8_append := by decide +kernel
noncomputable def f_X8_append (v0 : Nat) (v1 : Int32) (f : mmF) : Option (mmF) :=
  (ldI f v0 8 0).bind fun x1 =>
  if (30 : Int32) ≤ x1 then
  (some (f))
  else
  (ldR f v0 8 1).bind fun x10 =>
  (ldI f v0 8 0).bind fun x14 =>
  (f_X8_signOf v1 f).bind fun q18 =>
  (stA 0 f x10 x14 q18).bind fun f21 =>
  (ldI f21 v0 8 0).bind fun x24 =>
  (stF f21 v0 8 0 (.int (x24 + (1 : Int32)))).bind fun f29 =>
  some (f29)
section S_X8_append
variable {p : Program} {l : Launch} {e : Env} {s : State} {m : MethodId} {args : Array Value} {below : List Frame} {meth : Method} {c : Code} {D : mmD} {b0 sz : Nat} {f : mmF}
set_option maxHeartbeats 4000000 in
set_option maxRecDepth 100000 in
theorem w_X8_append (C0 : CX cX8_append 2 none wsX8_append RX8 p s m args meth c D b0) {v0 : Nat} {v1 : Int32} {res : mmF} (h : f_X8_append v0 v1 f = some res) : ∀ (H : Heap) (locs : List Loc) (ls : Array Slot), MM vwCl D b0 f sz s H → mS b0 s H locs → lv_has ls 2 [(0, .ref v0), (1, .int v1)] → W p l e ({ frames := 1, cells := 0, slots := 0, locals := 20 } : Room) s m args below meth c H locs 0 0 (MQ below (QW D b0 none res sz) args s 0 0 (fun q => b0 ≤ q)) (F0 m 0 ls []) := by
  obtain ⟨hx, hb, hr, hml, hown, hts, hlocks, hK⟩ := id C0
  intro H locs ls hM hS hl
  unfold f_X8_append at h
  refine lv_aload_n hx hb dX8_append_0 rfl (lv_at hl 0 rfl) ?_
  replace h := o_b h; obtain ⟨x1, h1, h⟩ := h
  refine m_get (C := RX8) (T := TX8) (N := 7) (ci := 8) hx hb hts qi_X8_append_X8 hown hK.1 hM 0 (ldI_F h1) rfl (by decide) (hts _ q_X8_append_1) (fun _ h9 => h9) dX8_append_1 ?_
  refine lv_bipush (v := (30 : Int32)) hx hb dX8_append_4 (by decide) ?_
  refine lv_icmp_ge (tgt := 32) hx hb dX8_append_6 (by decide) (fun c6 => ?_) (fun c6 => ?_)
  · replace h := o_t c6 h
    replace h := Option.some.inj h; subst h
    exact W.vret hx hb hr (fun t ht hW => ⟨rfl, by rw [ht]; exact hM.moved hW.alike, hS.F ht⟩) hS.2.2 dX8_append_32
  replace h := o_f c6 h
  refine lv_aload_n hx hb dX8_append_9 rfl (lv_at hl 0 rfl) ?_
  replace h := o_b h; obtain ⟨x10, h10, h⟩ := h
  refine m_get (C := RX8) (T := TX8) (N := 7) (ci := 8) hx hb hts qi_X8_append_X8 hown hK.1 hM 1 (ldR_F h10) rfl (by decide) (hts _ q_X8_append_2) (fun _ h9 => h9) dX8_append_10 ?_
  refine lv_aload_n hx hb dX8_append_13 rfl (lv_at hl 0 rfl) ?_
  replace h := o_b h; obtain ⟨x14, h14, h⟩ := h
  refine m_get (C := RX8) (T := TX8) (N := 7) (ci := 8) hx hb hts qi_X8_append_X8 hown hK.1 hM 0 (ldI_F h14) rfl (by decide) (hts _ q_X8_append_1) (fun _ h9 => h9) dX8_append_14 ?_
  refine lv_iload_n hx hb dX8_append_17 rfl (lv_at hl 1 rfl) ?_
  replace h := o_b h; obtain ⟨q18, h18, h⟩ := h
  refine m_call (va_runS (As := [.int v1]) (rest := [.int x14, .ref x10]) ⟨hx, hb, hml, hown, hts⟩ (c_X8_signOf l D b0 sz h18) (va_cwS 1 hts gX8_append_X8_signOf rfl rfl rfl (by decide +kernel) ⟨Nat.le_of_ble_eq_true rfl, Nat.le_of_ble_eq_true rfl⟩) ⟨PW.blind, (fun U hU hW => ⟨rfl, PW.call hK hM hS hU hW⟩)⟩ rfl rfl hl.1 rfl (lv_room (Nat.le_of_ble_eq_true rfl)) dX8_append_18 ⟨(Nat.le_refl _), (Nat.le_refl _)⟩) hS (fun H locs hM hS => ?_)
  replace h := o_b h; obtain ⟨f21, h21, h⟩ := h
  refine m_iast hx hb hK.1 hM hS rfl h21 dX8_append_21 (fun H locs hM hS => ?_)
  refine lv_aload_n hx hb dX8_append_22 rfl (lv_at hl 0 rfl) ?_
  refine lv_dup hx hb dX8_append_23 rfl ?_
  replace h := o_b h; obtain ⟨x24, h24, h⟩ := h
  refine m_get (C := RX8) (T := TX8) (N := 7) (ci := 8) hx hb hts qi_X8_append_X8 hown hK.1 hM 0 (ldI_F h24) rfl (by decide) (hts _ q_X8_append_1) (fun _ h9 => h9) dX8_append_24 ?_
  refine lv_iconst (v := (1 : Int32)) hx hb dX8_append_27 (by decide) ?_
  refine lv_iadd hx hb dX8_append_28 ?_
  replace h := o_b h; obtain ⟨f29, h29, h⟩ := h
  refine m_put (ty := .int) (C := RX8) (T := TX8) (N := 7) (ci := 8) hx hb hts qi_X8_append_X8 tyX8 tyX8_ok nmX8 hown hK.1 hM hS 0 h29 rfl (by decide) (hts _ q_X8_append_1) (fun _ h9 => h9) rfl (by decide +kernel) rfl rfl dX8_append_29 (fun H locs hM hS => ?_)
  replace h := Option.some.inj h; subst h
  exact W.vret hx hb hr (fun t ht hW => ⟨rfl, by rw [ht]; exact hM.moved hW.alike, hS.F ht⟩) hS.2.2 dX8_append_32
set_option maxHeartbeats 4000000 in
set_option maxRecDepth 100000 in
theorem c_X8_append (l : Launch) (D : mmD) (b0 sz : Nat) {v0 : Nat} {v1 : Int32} {f : mmF} {res : mmF} (h : f_X8_append v0 v1 f = some res) : Met l yX8_append wsX8_append ({ frames := 1, cells := 0, slots := 0, locals := 20 } : Room) (va_Pc [.ref v0, .int v1] (PW D b0 f sz)) (QW D b0 none res sz) 0 0 (fun q => b0 ≤ q) := by
  refine Met.ofW (cc := cX8_append) (maxL := 2) (ret := none) (by decide) rfl ?_
  intro p e s m args below meth c s₁ B hml hv
  obtain ⟨rfl, hM, hK⟩ := hv
  have hl := lv_entry ([.ref v0, .int v1]) (n := 2) (Nat.le_of_ble_eq_true rfl)
  rw [lg_entry_eq]
  generalize (lg_sl ([.ref v0, .int v1]) ++ List.replicate (2 - (lg_sl ([.ref v0, .int v1])).length) Slot.unset).toArray = ls at hl ⊢
  have hl : lv_has ls 2 [(0, .ref v0), (1, .int v1)] := hl
  exact w_X8_append ⟨B.exec, B.bytes, B.returns, hml, findClass_of_methodNamed B.named, atoms_spec (ws := wsX8_append) B.pre, B.notSynchronized, hK⟩ h s.heap [] ls hM va_S.rf hl
end S_X8_append
/-! X8_finish -/
set_option maxRecDepth 20000 in
theorem qi_X8_finish_X8 : ∀ w ∈ u_ws RX8 TX8 7, w ∈ wsX8_finish := by decide +kernel
set_option maxRecDepth 20000 in
theorem q_X8_finish_1 : Cond.fieldLink RX8 22 "StageTruths$Text" "readLength" "I" ∈ wsX8_finish := by decide +kernel
set_option maxRecDepth 20000 in
theorem q_X8_finish_2 : Cond.fieldLink RX8 19 "StageTruths$Text" "read" "[I" ∈ wsX8_finish := by decide +kernel
noncomputable def f_X8_finish (v0 : Nat) (v1 : Int32) (f : mmF) : Option (mmF) :=
  (ldI f v0 8 3).bind fun x1 =>
  if (30 : Int32) ≤ x1 then
  (some (f))
  else
  (ldR f v0 8 2).bind fun x10 =>
  (ldI f v0 8 3).bind fun x14 =>
  (stA 0 f x10 x14 v1).bind fun f18 =>
  (ldI f18 v0 8 3).bind fun x21 =>
  (stF f18 v0 8 3 (.int (x21 + (1 : Int32)))).bind fun f26 =>
  some (f26)
section S_X8_finish
variable {p : Program} {l : Launch} {e : Env} {s : State} {m : MethodId} {args : Array Value} {below : List Frame} {meth : Method} {c : Code} {D : mmD} {b0 sz : Nat} {f : mmF}
set_option maxHeartbeats 4000000 in
set_option maxRecDepth 100000 in
theorem w_X8_finish (C0 : CX cX8_finish 2 none wsX8_finish RX8 p s m args meth c D b0) {v0 : Nat} {v1 : Int32} {res : mmF} (h : f_X8_finish v0 v1 f = some res) : ∀ (H : Heap) (locs : List Loc) (ls : Array Slot), MM vwCl D b0 f sz s H → mS b0 s H locs → lv_has ls 2 [(0, .ref v0), (1, .int v1)] → W p l e ({ frames := 0, cells := 0, slots := 0, locals := 0 } : Room) s m args below meth c H locs 0 0 (MQ below (QW D b0 none res sz) args s 0 0 (fun q => b0 ≤ q)) (F0 m 0 ls []) := by
  obtain ⟨hx, hb, hr, hml, hown, hts, hlocks, hK⟩ := id C0
  intro H locs ls hM hS hl
  unfold f_X8_finish at h
  refine lv_aload_n hx hb dX8_finish_0 rfl (lv_at hl 0 rfl) ?_
  replace h := o_b h; obtain ⟨x1, h1, h⟩ := h
  refine m_get (C := RX8) (T := TX8) (N := 7) (ci := 8) hx hb hts qi_X8_finish_X8 hown hK.1 hM 3 (ldI_F h1) rfl (by decide) (hts _ q_X8_finish_1) (fun _ h9 => h9) dX8_finish_1 ?_
  refine lv_bipush (v := (30 : Int32)) hx hb dX8_finish_4 (by decide) ?_
  refine lv_icmp_ge (tgt := 29) hx hb dX8_finish_6 (by decide) (fun c6 => ?_) (fun c6 => ?_)
  · replace h := o_t c6 h
    replace h := Option.some.inj h; subst h
    exact W.vret hx hb hr (fun t ht hW => ⟨rfl, by rw [ht]; exact hM.moved hW.alike, hS.F ht⟩) hS.2.2 dX8_finish_29
  replace h := o_f c6 h
  refine lv_aload_n hx hb dX8_finish_9 rfl (lv_at hl 0 rfl) ?_
  replace h := o_b h; obtain ⟨x10, h10, h⟩ := h
  refine m_get (C := RX8) (T := TX8) (N := 7) (ci := 8) hx hb hts qi_X8_finish_X8 hown hK.1 hM 2 (ldR_F h10) rfl (by decide) (hts _ q_X8_finish_2) (fun _ h9 => h9) dX8_finish_10 ?_
  refine lv_aload_n hx hb dX8_finish_13 rfl (lv_at hl 0 rfl) ?_
  replace h := o_b h; obtain ⟨x14, h14, h⟩ := h
  refine m_get (C := RX8) (T := TX8) (N := 7) (ci := 8) hx hb hts qi_X8_finish_X8 hown hK.1 hM 3 (ldI_F h14) rfl (by decide) (hts _ q_X8_finish_1) (fun _ h9 => h9) dX8_finish_14 ?_
  refine lv_iload_n hx hb dX8_finish_17 rfl (lv_at hl 1 rfl) ?_
  replace h := o_b h; obtain ⟨f18, h18, h⟩ := h
  refine m_iast hx hb hK.1 hM hS rfl h18 dX8_finish_18 (fun H locs hM hS => ?_)
  refine lv_aload_n hx hb dX8_finish_19 rfl (lv_at hl 0 rfl) ?_
  refine lv_dup hx hb dX8_finish_20 rfl ?_
  replace h := o_b h; obtain ⟨x21, h21, h⟩ := h
  refine m_get (C := RX8) (T := TX8) (N := 7) (ci := 8) hx hb hts qi_X8_finish_X8 hown hK.1 hM 3 (ldI_F h21) rfl (by decide) (hts _ q_X8_finish_1) (fun _ h9 => h9) dX8_finish_21 ?_
  refine lv_iconst (v := (1 : Int32)) hx hb dX8_finish_24 (by decide) ?_
  refine lv_iadd hx hb dX8_finish_25 ?_
  replace h := o_b h; obtain ⟨f26, h26, h⟩ := h
  refine m_put (ty := .int) (C := RX8) (T := TX8) (N := 7) (ci := 8) hx hb hts qi_X8_finish_X8 tyX8 tyX8_ok nmX8 hown hK.1 hM hS 3 h26 rfl (by decide) (hts _ q_X8_finish_1) (fun _ h9 => h9) rfl (by decide +kernel) rfl rfl dX8_finish_26 (fun H locs hM hS => ?_)
  replace h := Option.some.inj h; subst h
  exact W.vret hx hb hr (fun t ht hW => ⟨rfl, by rw [ht]; exact hM.moved hW.alike, hS.F ht⟩) hS.2.2 dX8_finish_29
set_option maxHeartbeats 4000000 in
set_option maxRecDepth 100000 in
theorem c_X8_finish (l : Launch) (D : mmD) (b0 sz : Nat) {v0 : Nat} {v1 : Int32} {f : mmF} {res : mmF} (h : f_X8_finish v0 v1 f = some res) : Met l yX8_finish wsX8_finish ({ frames := 0, cells := 0, slots := 0, locals := 0 } : Room) (va_Pc [.ref v0, .int v1] (PW D b0 f sz)) (QW D b0 none res sz) 0 0 (fun q => b0 ≤ q) := by
  refine Met.ofW (cc := cX8_finish) (maxL := 2) (ret := none) (by decide) rfl ?_
  intro p e s m args below meth c s₁ B hml hv
  obtain ⟨rfl, hM, hK⟩ := hv
  have hl := lv_entry ([.ref v0, .int v1]) (n := 2) (Nat.le_of_ble_eq_true rfl)
  rw [lg_entry_eq]
  generalize (lg_sl ([.ref v0, .int v1]) ++ List.replicate (2 - (lg_sl ([.ref v0, .int v1])).length) Slot.unset).toArray = ls at hl ⊢
  have hl : lv_has ls 2 [(0, .ref v0), (1, .int v1)] := hl
  exact w_X8_finish ⟨B.exec, B.bytes, B.returns, hml, findClass_of_methodNamed B.named, atoms_spec (ws := wsX8_finish) B.pre, B.notSynchronized, hK⟩ h s.heap [] ls hM va_S.rf hl
end S_X8_finish
/-! X8_await -/
set_option maxRecDepth 20000 in
theorem qi_X8_await_X8 : ∀ w ∈ u_ws RX8 TX8 7, w ∈ wsX8_await := by decide +kernel
set_option maxRecDepth 20000 in
theorem q_X8_await_1 : Cond.fieldLink RX8 28 "StageTruths$Text" "waitingLength" "I" ∈ wsX8_await := by decide +kernel
set_option maxRecDepth 20000 in
theorem q_X8_await_2 : Cond.fieldLink RX8 25 "StageTruths$Text" "waiting" "[I" ∈ wsX8_await := by decide +kernel
noncomputable def f_X8_await (v0 : Nat) (v1 : Int32) (f : mmF) : Option (mmF) :=
  (ldI f v0 8 5).bind fun x1 =>
  if (30 : Int32) ≤ x1 then
  (some (f))
  else
  (ldR f v0 8 4).bind fun x10 =>
  (ldI f v0 8 5).bind fun x14 =>
  (stA 0 f x10 x14 v1).bind fun f18 =>
  (ldI f18 v0 8 5).bind fun x21 =>
  (stF f18 v0 8 5 (.int (x21 + (1 : Int32)))).bind fun f26 =>
  some (f26)
section S_X8_await
variable {p : Program} {l : Launch} {e : Env} {s : State} {m : MethodId} {args : Array Value} {below : List Frame} {meth : Method} {c : Code} {D : mmD} {b0 sz : Nat} {f : mmF}
set_option maxHeartbeats 4000000 in
set_option maxRecDepth 100000 in
theorem w_X8_await (C0 : CX cX8_await 2 none wsX8_await RX8 p s m args meth c D b0) {v0 : Nat} {v1 : Int32} {res : mmF} (h : f_X8_await v0 v1 f = some res) : ∀ (H : Heap) (locs : List Loc) (ls : Array Slot), MM vwCl D b0 f sz s H → mS b0 s H locs → lv_has ls 2 [(0, .ref v0), (1, .int v1)] → W p l e ({ frames := 0, cells := 0, slots := 0, locals := 0 } : Room) s m args below meth c H locs 0 0 (MQ below (QW D b0 none res sz) args s 0 0 (fun q => b0 ≤ q)) (F0 m 0 ls []) := by
  obtain ⟨hx, hb, hr, hml, hown, hts, hlocks, hK⟩ := id C0
  intro H locs ls hM hS hl
  unfold f_X8_await at h
  refine lv_aload_n hx hb dX8_await_0 rfl (lv_at hl 0 rfl) ?_
  replace h := o_b h; obtain ⟨x1, h1, h⟩ := h
  refine m_get (C := RX8) (T := TX8) (N := 7) (ci := 8) hx hb hts qi_X8_await_X8 hown hK.1 hM 5 (ldI_F h1) rfl (by decide) (hts _ q_X8_await_1) (fun _ h9 => h9) dX8_await_1 ?_
  refine lv_bipush (v := (30 : Int32)) hx hb dX8_await_4 (by decide) ?_
  refine lv_icmp_ge (tgt := 29) hx hb dX8_await_6 (by decide) (fun c6 => ?_) (fun c6 => ?_)
  · replace h := o_t c6 h
    replace h := Option.some.inj h; subst h
    exact W.vret hx hb hr (fun t ht hW => ⟨rfl, by rw [ht]; exact hM.moved hW.alike, hS.F ht⟩) hS.2.2 dX8_await_29
  replace h := o_f c6 h
  refine lv_aload_n hx hb dX8_await_9 rfl (lv_at hl 0 rfl) ?_
  replace h := o_b h; obtain ⟨x10, h10, h⟩ := h
  refine m_get (C := RX8) (T := TX8) (N := 7) (ci := 8) hx hb hts qi_X8_await_X8 hown hK.1 hM 4 (ldR_F h10) rfl (by decide) (hts _ q_X8_await_2) (fun _ h9 => h9) dX8_await_10 ?_
  refine lv_aload_n hx hb dX8_await_13 rfl (lv_at hl 0 rfl) ?_
  replace h := o_b h; obtain ⟨x14, h14, h⟩ := h
  refine m_get (C := RX8) (T := TX8) (N := 7) (ci := 8) hx hb hts qi_X8_await_X8 hown hK.1 hM 5 (ldI_F h14) rfl (by decide) (hts _ q_X8_await_1) (fun _ h9 => h9) dX8_await_14 ?_
  refine lv_iload_n hx hb dX8_await_17 rfl (lv_at hl 1 rfl) ?_
  replace h := o_b h; obtain ⟨f18, h18, h⟩ := h
  refine m_iast hx hb hK.1 hM hS rfl h18 dX8_await_18 (fun H locs hM hS => ?_)
  refine lv_aload_n hx hb dX8_await_19 rfl (lv_at hl 0 rfl) ?_
  refine lv_dup hx hb dX8_await_20 rfl ?_
  replace h := o_b h; obtain ⟨x21, h21, h⟩ := h
  refine m_get (C := RX8) (T := TX8) (N := 7) (ci := 8) hx hb hts qi_X8_await_X8 hown hK.1 hM 5 (ldI_F h21) rfl (by decide) (hts _ q_X8_await_1) (fun _ h9 => h9) dX8_await_21 ?_
  refine lv_iconst (v := (1 : Int32)) hx hb dX8_await_24 (by decide) ?_
  refine lv_iadd hx hb dX8_await_25 ?_
  replace h := o_b h; obtain ⟨f26, h26, h⟩ := h
  refine m_put (ty := .int) (C := RX8) (T := TX8) (N := 7) (ci := 8) hx hb hts qi_X8_await_X8 tyX8 tyX8_ok nmX8 hown hK.1 hM hS 5 h26 rfl (by decide) (hts _ q_X8_await_1) (fun _ h9 => h9) rfl (by decide +kernel) rfl rfl dX8_await_26 (fun H locs hM hS => ?_)
  replace h := Option.some.inj h; subst h
  exact W.vret hx hb hr (fun t ht hW => ⟨rfl, by rw [ht]; exact hM.moved hW.alike, hS.F ht⟩) hS.2.2 dX8_await_29
set_option maxHeartbeats 4000000 in
set_option maxRecDepth 100000 in
theorem c_X8_await (l : Launch) (D : mmD) (b0 sz : Nat) {v0 : Nat} {v1 : Int32} {f : mmF} {res : mmF} (h : f_X8_await v0 v1 f = some res) : Met l yX8_await wsX8_await ({ frames := 0, cells := 0, slots := 0, locals := 0 } : Room) (va_Pc [.ref v0, .int v1] (PW D b0 f sz)) (QW D b0 none res sz) 0 0 (fun q => b0 ≤ q) := by
  refine Met.ofW (cc := cX8_await) (maxL := 2) (ret := none) (by decide) rfl ?_
  intro p e s m args below meth c s₁ B hml hv
  obtain ⟨rfl, hM, hK⟩ := hv
  have hl := lv_entry ([.ref v0, .int v1]) (n := 2) (Nat.le_of_ble_eq_true rfl)
  rw [lg_entry_eq]
  generalize (lg_sl ([.ref v0, .int v1]) ++ List.replicate (2 - (lg_sl ([.ref v0, .int v1])).length) Slot.unset).toArray = ls at hl ⊢
  have hl : lv_has ls 2 [(0, .ref v0), (1, .int v1)] := hl
  exact w_X8_await ⟨B.exec, B.bytes, B.returns, hml, findClass_of_methodNamed B.named, atoms_spec (ws := wsX8_await) B.pre, B.notSynchronized, hK⟩ h s.heap [] ls hM va_S.rf hl
end S_X8_await
/-! X8_beginsPart -/
set_option maxRecDepth 20000 in
theorem qi_X8_beginsPart_X8 : ∀ w ∈ u_ws RX8 TX8 7, w ∈ wsX8_beginsPart := by decide +kernel
set_option maxRecDepth 20000 in
theorem q_X8_beginsPart_1 : Cond.fieldLink RX8 31 "StageTruths$Text" "open" "I" ∈ wsX8_beginsPart := by decide +kernel
noncomputable def f_X8_beginsPart_44   (v0 : Nat) (v1 : Int32) (f : mmF) : Option (Int32 × mmF) :=
  if v1 = (6 : Int32) then
  ((ckO f v0 8).bind fun _ =>
  (f_X8_await v0 v1 f).bind fun q52 =>
  some ((1 : Int32), q52))
  else
  some ((0 : Int32), f)
noncomputable def f_X8_beginsPart (v0 : Nat) (v1 : Int32) (f : mmF) : Option (Int32 × mmF) :=
  if (5 : Int32) < v1 then
  (if v1 = (10 : Int32) then
  ((ldI f v0 8 6).bind fun x19 =>
  if (6 : Int32) ≤ x19 then
  (f_X8_beginsPart_44 v0 v1 f)
  else
  (ldI f v0 8 6).bind fun x29 =>
  (stF f v0 8 6 (.int (x29 + (1 : Int32)))).bind fun f34 =>
  (ckO f34 v0 8).bind fun _ =>
  (f_X8_await v0 v1 f34).bind fun q39 =>
  some ((1 : Int32), q39))
  else
  f_X8_beginsPart_44 v0 v1 f)
  else
  (ckO f v0 8).bind fun _ =>
  (f_X8_finish v0 v1 f).bind fun q7 =>
  some ((1 : Int32), q7)
section S_X8_beginsPart
variable {p : Program} {l : Launch} {e : Env} {s : State} {m : MethodId} {args : Array Value} {below : List Frame} {meth : Method} {c : Code} {D : mmD} {b0 sz : Nat} {f : mmF}
set_option maxHeartbeats 4000000 in
set_option maxRecDepth 100000 in
theorem w_X8_beginsPart_44 (C0 : CX cX8_beginsPart 2 (some .boolean) wsX8_beginsPart RX8 p s m args meth c D b0) {res : Int32 × mmF} : ∀ (v0 : Nat) (v1 : Int32) (f : mmF), f_X8_beginsPart_44 v0 v1 f = some res → ∀ (H : Heap) (locs : List Loc) (ls : Array Slot), MM vwCl D b0 f sz s H → mS b0 s H locs → lv_has ls 2 [(0, .ref v0), (1, .int v1)] → W p l e ({ frames := 1, cells := 0, slots := 0, locals := 21 } : Room) s m args below meth c H locs 0 0 (MQ below (QW D b0 (some (.int res.1)) res.2 sz) args s 0 0 (fun q => b0 ≤ q)) (F0 m 44 ls []) := by
  obtain ⟨hx, hb, hr, hml, hown, hts, hlocks, hK⟩ := id C0
  intro v0 v1 f h H locs ls hM hS hl
  unfold f_X8_beginsPart_44 at h
  refine lv_iload_n hx hb dX8_beginsPart_44 rfl (lv_at hl 1 rfl) ?_
  refine lv_bipush (v := (6 : Int32)) hx hb dX8_beginsPart_45 (by decide) ?_
  refine lv_icmp_ne (tgt := 57) hx hb dX8_beginsPart_47 (by decide) (fun c47 => ?_) (fun c47 => ?_)
  · replace h := o_f c47 h
    refine lv_iconst (v := (0 : Int32)) hx hb dX8_beginsPart_57 (by decide) ?_
    replace h := Option.some.inj h; subst h
    exact W.zret hx hb hr rfl (fun t ht hW => ⟨rfl, by rw [ht]; exact hM.moved hW.alike, hS.F ht⟩) hS.2.2 dX8_beginsPart_58
  replace h := o_t c47 h
  refine lv_aload_n hx hb dX8_beginsPart_50 rfl (lv_at hl 0 rfl) ?_
  refine lv_iload_n hx hb dX8_beginsPart_51 rfl (lv_at hl 1 rfl) ?_
  replace h := o_b h; obtain ⟨_, k52, h⟩ := h
  replace h := o_b h; obtain ⟨q52, h52, h⟩ := h
  refine m_call (va_runV (As := [.int v1]) (rest := []) ⟨hx, hb, hml, hown, hts⟩ (c_X8_await l D b0 sz h52) (cwV 1 hts gX8_beginsPart_X8_await rfl rfl rfl (by decide +kernel) ⟨Nat.le_of_ble_eq_true rfl, Nat.le_of_ble_eq_true rfl⟩) ⟨PW.blind, m_recv (ci := 8) rfl hK hM k52, (fun U hU hW => ⟨rfl, PW.call hK hM hS hU hW⟩)⟩ rfl rfl hl.1 rfl (lv_room (Nat.le_of_ble_eq_true rfl)) dX8_beginsPart_52 ⟨(Nat.le_refl _), (Nat.le_refl _)⟩) hS (fun H locs hM hS => ?_)
  refine lv_iconst (v := (1 : Int32)) hx hb dX8_beginsPart_55 (by decide) ?_
  replace h := Option.some.inj h; subst h
  exact W.zret hx hb hr rfl (fun t ht hW => ⟨rfl, by rw [ht]; exact hM.moved hW.alike, hS.F ht⟩) hS.2.2 dX8_beginsPart_56
set_option maxHeartbeats 4000000 in
set_option maxRecDepth 100000 in
theorem w_X8_beginsPart (C0 : CX cX8_beginsPart 2 (some .boolean) wsX8_beginsPart RX8 p s m args meth c D b0) {v0 : Nat} {v1 : Int32} {res : Int32 × mmF} (h : f_X8_beginsPart v0 v1 f = some res) : ∀ (H : Heap) (locs : List Loc) (ls : Array Slot), MM vwCl D b0 f sz s H → mS b0 s H locs → lv_has ls 2 [(0, .ref v0), (1, .int v1)] → W p l e ({ frames := 1, cells := 0, slots := 0, locals := 21 } : Room) s m args below meth c H locs 0 0 (MQ below (QW D b0 (some (.int res.1)) res.2 sz) args s 0 0 (fun q => b0 ≤ q)) (F0 m 0 ls []) := by
  obtain ⟨hx, hb, hr, hml, hown, hts, hlocks, hK⟩ := id C0
  intro H locs ls hM hS hl
  unfold f_X8_beginsPart at h
  refine lv_iload_n hx hb dX8_beginsPart_0 rfl (lv_at hl 1 rfl) ?_
  refine lv_iconst (v := (5 : Int32)) hx hb dX8_beginsPart_1 (by decide) ?_
  refine lv_icmp_gt (tgt := 12) hx hb dX8_beginsPart_2 (by decide) (fun c2 => ?_) (fun c2 => ?_)
  · replace h := o_t c2 h
    refine lv_iload_n hx hb dX8_beginsPart_12 rfl (lv_at hl 1 rfl) ?_
    refine lv_bipush (v := (10 : Int32)) hx hb dX8_beginsPart_13 (by decide) ?_
    refine lv_icmp_ne (tgt := 44) hx hb dX8_beginsPart_15 (by decide) (fun c15 => ?_) (fun c15 => ?_)
    · replace h := o_f c15 h
      exact w_X8_beginsPart_44 C0 _ _ _ h _ _ _ hM hS (lv_sub hl [0, 1] rfl)
    replace h := o_t c15 h
    refine lv_aload_n hx hb dX8_beginsPart_18 rfl (lv_at hl 0 rfl) ?_
    replace h := o_b h; obtain ⟨x19, h19, h⟩ := h
    refine m_get (C := RX8) (T := TX8) (N := 7) (ci := 8) hx hb hts qi_X8_beginsPart_X8 hown hK.1 hM 6 (ldI_F h19) rfl (by decide) (hts _ q_X8_beginsPart_1) (fun _ h9 => h9) dX8_beginsPart_19 ?_
    refine lv_bipush (v := (6 : Int32)) hx hb dX8_beginsPart_22 (by decide) ?_
    refine lv_icmp_ge (tgt := 44) hx hb dX8_beginsPart_24 (by decide) (fun c24 => ?_) (fun c24 => ?_)
    · replace h := o_t c24 h
      exact w_X8_beginsPart_44 C0 _ _ _ h _ _ _ hM hS (lv_sub hl [0, 1] rfl)
    replace h := o_f c24 h
    refine lv_aload_n hx hb dX8_beginsPart_27 rfl (lv_at hl 0 rfl) ?_
    refine lv_dup hx hb dX8_beginsPart_28 rfl ?_
    replace h := o_b h; obtain ⟨x29, h29, h⟩ := h
    refine m_get (C := RX8) (T := TX8) (N := 7) (ci := 8) hx hb hts qi_X8_beginsPart_X8 hown hK.1 hM 6 (ldI_F h29) rfl (by decide) (hts _ q_X8_beginsPart_1) (fun _ h9 => h9) dX8_beginsPart_29 ?_
    refine lv_iconst (v := (1 : Int32)) hx hb dX8_beginsPart_32 (by decide) ?_
    refine lv_iadd hx hb dX8_beginsPart_33 ?_
    replace h := o_b h; obtain ⟨f34, h34, h⟩ := h
    refine m_put (ty := .int) (C := RX8) (T := TX8) (N := 7) (ci := 8) hx hb hts qi_X8_beginsPart_X8 tyX8 tyX8_ok nmX8 hown hK.1 hM hS 6 h34 rfl (by decide) (hts _ q_X8_beginsPart_1) (fun _ h9 => h9) rfl (by decide +kernel) rfl rfl dX8_beginsPart_34 (fun H locs hM hS => ?_)
    refine lv_aload_n hx hb dX8_beginsPart_37 rfl (lv_at hl 0 rfl) ?_
    refine lv_iload_n hx hb dX8_beginsPart_38 rfl (lv_at hl 1 rfl) ?_
    replace h := o_b h; obtain ⟨_, k39, h⟩ := h
    replace h := o_b h; obtain ⟨q39, h39, h⟩ := h
    refine m_call (va_runV (As := [.int v1]) (rest := []) ⟨hx, hb, hml, hown, hts⟩ (c_X8_await l D b0 sz h39) (cwV 1 hts gX8_beginsPart_X8_await rfl rfl rfl (by decide +kernel) ⟨Nat.le_of_ble_eq_true rfl, Nat.le_of_ble_eq_true rfl⟩) ⟨PW.blind, m_recv (ci := 8) rfl hK hM k39, (fun U hU hW => ⟨rfl, PW.call hK hM hS hU hW⟩)⟩ rfl rfl hl.1 rfl (lv_room (Nat.le_of_ble_eq_true rfl)) dX8_beginsPart_39 ⟨(Nat.le_refl _), (Nat.le_refl _)⟩) hS (fun H locs hM hS => ?_)
    refine lv_iconst (v := (1 : Int32)) hx hb dX8_beginsPart_42 (by decide) ?_
    replace h := Option.some.inj h; subst h
    exact W.zret hx hb hr rfl (fun t ht hW => ⟨rfl, by rw [ht]; exact hM.moved hW.alike, hS.F ht⟩) hS.2.2 dX8_beginsPart_43
  replace h := o_f c2 h
  refine lv_aload_n hx hb dX8_beginsPart_5 rfl (lv_at hl 0 rfl) ?_
  refine lv_iload_n hx hb dX8_beginsPart_6 rfl (lv_at hl 1 rfl) ?_
  replace h := o_b h; obtain ⟨_, k7, h⟩ := h
  replace h := o_b h; obtain ⟨q7, h7, h⟩ := h
  refine m_call (va_runV (As := [.int v1]) (rest := []) ⟨hx, hb, hml, hown, hts⟩ (c_X8_finish l D b0 sz h7) (cwV 1 hts gX8_beginsPart_X8_finish rfl rfl rfl (by decide +kernel) ⟨Nat.le_of_ble_eq_true rfl, Nat.le_of_ble_eq_true rfl⟩) ⟨PW.blind, m_recv (ci := 8) rfl hK hM k7, (fun U hU hW => ⟨rfl, PW.call hK hM hS hU hW⟩)⟩ rfl rfl hl.1 rfl (lv_room (Nat.le_of_ble_eq_true rfl)) dX8_beginsPart_7 ⟨(Nat.le_refl _), (Nat.le_refl _)⟩) hS (fun H locs hM hS => ?_)
  refine lv_iconst (v := (1 : Int32)) hx hb dX8_beginsPart_10 (by decide) ?_
  replace h := Option.some.inj h; subst h
  exact W.zret hx hb hr rfl (fun t ht hW => ⟨rfl, by rw [ht]; exact hM.moved hW.alike, hS.F ht⟩) hS.2.2 dX8_beginsPart_11
set_option maxHeartbeats 4000000 in
set_option maxRecDepth 100000 in
theorem c_X8_beginsPart (l : Launch) (D : mmD) (b0 sz : Nat) {v0 : Nat} {v1 : Int32} {f : mmF} {res : Int32 × mmF} (h : f_X8_beginsPart v0 v1 f = some res) : Met l yX8_beginsPart wsX8_beginsPart ({ frames := 1, cells := 0, slots := 0, locals := 21 } : Room) (va_Pc [.ref v0, .int v1] (PW D b0 f sz)) (QW D b0 (some (.int res.1)) res.2 sz) 0 0 (fun q => b0 ≤ q) := by
  refine Met.ofW (cc := cX8_beginsPart) (maxL := 2) (ret := (some .boolean)) (by decide) rfl ?_
  intro p e s m args below meth c s₁ B hml hv
  obtain ⟨rfl, hM, hK⟩ := hv
  have hl := lv_entry ([.ref v0, .int v1]) (n := 2) (Nat.le_of_ble_eq_true rfl)
  rw [lg_entry_eq]
  generalize (lg_sl ([.ref v0, .int v1]) ++ List.replicate (2 - (lg_sl ([.ref v0, .int v1])).length) Slot.unset).toArray = ls at hl ⊢
  have hl : lv_has ls 2 [(0, .ref v0), (1, .int v1)] := hl
  exact w_X8_beginsPart ⟨B.exec, B.bytes, B.returns, hml, findClass_of_methodNamed B.named, atoms_spec (ws := wsX8_beginsPart) B.pre, B.notSynchronized, hK⟩ h s.heap [] ls hM va_S.rf hl
end S_X8_beginsPart
/-! X8_tightness -/
noncomputable def f_X8_tightness (v0 : Int32) (f : mmF) : Option (Int32) :=
  if v0 = (6 : Int32) then
  (some ((4 : Int32)))
  else
  if v0 = (7 : Int32) then
  (some ((3 : Int32)))
  else
  if v0 = (8 : Int32) then
  (some ((2 : Int32)))
  else
  if v0 = (9 : Int32) then
  (some ((1 : Int32)))
  else
  some ((0 : Int32))
section S_X8_tightness
variable {p : Program} {l : Launch} {e : Env} {s : State} {m : MethodId} {args : Array Value} {below : List Frame} {meth : Method} {c : Code} {D : mmD} {b0 sz : Nat} {f : mmF}
set_option maxHeartbeats 4000000 in
set_option maxRecDepth 100000 in
theorem w_X8_tightness (C0 : CX cX8_tightness 1 (some .int) wsX8_tightness RX8 p s m args meth c D b0) {v0 : Int32} {res : Int32} (h : f_X8_tightness v0 f = some res) : ∀ (H : Heap) (locs : List Loc) (ls : Array Slot), MM vwCl D b0 f sz s H → mS b0 s H locs → lv_has ls 1 [(0, .int v0)] → W p l e ({ frames := 0, cells := 0, slots := 0, locals := 0 } : Room) s m args below meth c H locs 0 0 (MQ below (QW D b0 (some (.int res)) f sz) args s 0 0 (fun q => b0 ≤ q)) (F0 m 0 ls []) := by
  obtain ⟨hx, hb, hr, hml, hown, hts, hlocks, hK⟩ := id C0
  intro H locs ls hM hS hl
  unfold f_X8_tightness at h
  refine lv_iload_n hx hb dX8_tightness_0 rfl (lv_at hl 0 rfl) ?_
  refine lv_bipush (v := (6 : Int32)) hx hb dX8_tightness_1 (by decide) ?_
  refine lv_icmp_ne (tgt := 10) hx hb dX8_tightness_3 (by decide) (fun c3 => ?_) (fun c3 => ?_)
  · replace h := o_f c3 h
    refine lv_iload_n hx hb dX8_tightness_10 rfl (lv_at hl 0 rfl) ?_
    refine lv_bipush (v := (7 : Int32)) hx hb dX8_tightness_11 (by decide) ?_
    refine lv_icmp_ne (tgt := 20) hx hb dX8_tightness_13 (by decide) (fun c13 => ?_) (fun c13 => ?_)
    · replace h := o_f c13 h
      refine lv_iload_n hx hb dX8_tightness_20 rfl (lv_at hl 0 rfl) ?_
      refine lv_bipush (v := (8 : Int32)) hx hb dX8_tightness_21 (by decide) ?_
      refine lv_icmp_ne (tgt := 30) hx hb dX8_tightness_23 (by decide) (fun c23 => ?_) (fun c23 => ?_)
      · replace h := o_f c23 h
        refine lv_iload_n hx hb dX8_tightness_30 rfl (lv_at hl 0 rfl) ?_
        refine lv_bipush (v := (9 : Int32)) hx hb dX8_tightness_31 (by decide) ?_
        refine lv_icmp_ne (tgt := 40) hx hb dX8_tightness_33 (by decide) (fun c33 => ?_) (fun c33 => ?_)
        · replace h := o_f c33 h
          refine lv_iconst (v := (0 : Int32)) hx hb dX8_tightness_40 (by decide) ?_
          replace h := Option.some.inj h; subst h
          exact W.iret hx hb hr (fun t ht hW => ⟨rfl, by rw [ht]; exact hM.moved hW.alike, hS.F ht⟩) hS.2.2 dX8_tightness_41
        replace h := o_t c33 h
        refine lv_iconst (v := (1 : Int32)) hx hb dX8_tightness_36 (by decide) ?_
        refine lv_goto (tgt := 41) hx hb dX8_tightness_37 (by decide) ?_
        replace h := Option.some.inj h; subst h
        exact W.iret hx hb hr (fun t ht hW => ⟨rfl, by rw [ht]; exact hM.moved hW.alike, hS.F ht⟩) hS.2.2 dX8_tightness_41
      replace h := o_t c23 h
      refine lv_iconst (v := (2 : Int32)) hx hb dX8_tightness_26 (by decide) ?_
      refine lv_goto (tgt := 41) hx hb dX8_tightness_27 (by decide) ?_
      replace h := Option.some.inj h; subst h
      exact W.iret hx hb hr (fun t ht hW => ⟨rfl, by rw [ht]; exact hM.moved hW.alike, hS.F ht⟩) hS.2.2 dX8_tightness_41
    replace h := o_t c13 h
    refine lv_iconst (v := (3 : Int32)) hx hb dX8_tightness_16 (by decide) ?_
    refine lv_goto (tgt := 41) hx hb dX8_tightness_17 (by decide) ?_
    replace h := Option.some.inj h; subst h
    exact W.iret hx hb hr (fun t ht hW => ⟨rfl, by rw [ht]; exact hM.moved hW.alike, hS.F ht⟩) hS.2.2 dX8_tightness_41
  replace h := o_t c3 h
  refine lv_iconst (v := (4 : Int32)) hx hb dX8_tightness_6 (by decide) ?_
  refine lv_goto (tgt := 41) hx hb dX8_tightness_7 (by decide) ?_
  replace h := Option.some.inj h; subst h
  exact W.iret hx hb hr (fun t ht hW => ⟨rfl, by rw [ht]; exact hM.moved hW.alike, hS.F ht⟩) hS.2.2 dX8_tightness_41
set_option maxHeartbeats 4000000 in
set_option maxRecDepth 100000 in
theorem c_X8_tightness (l : Launch) (D : mmD) (b0 sz : Nat) {v0 : Int32} {f : mmF} {res : Int32} (h : f_X8_tightness v0 f = some res) : Met l yX8_tightness wsX8_tightness ({ frames := 0, cells := 0, slots := 0, locals := 0 } : Room) (va_Pc [.int v0] (PW D b0 f sz)) (QW D b0 (some (.int res)) f sz) 0 0 (fun q => b0 ≤ q) := by
  refine Met.ofW (cc := cX8_tightness) (maxL := 1) (ret := (some .int)) (by decide) rfl ?_
  intro p e s m args below meth c s₁ B hml hv
  obtain ⟨rfl, hM, hK⟩ := hv
  have hl := lv_entry ([.int v0]) (n := 1) (Nat.le_of_ble_eq_true rfl)
  rw [lg_entry_eq]
  generalize (lg_sl ([.int v0]) ++ List.replicate (1 - (lg_sl ([.int v0])).length) Slot.unset).toArray = ls at hl ⊢
  have hl : lv_has ls 1 [(0, .int v0)] := hl
  exact w_X8_tightness ⟨B.exec, B.bytes, B.returns, hml, findClass_of_methodNamed B.named, atoms_spec (ws := wsX8_tightness) B.pre, B.notSynchronized, hK⟩ h s.heap [] ls hM va_S.rf hl
end S_X8_tightness
/-! X8_settle -/
set_option maxRecDepth 20000 in
theorem qi_X8_settle_X8 : ∀ w ∈ u_ws RX8 TX8 7, w ∈ wsX8_settle := by decide +kernel
set_option maxRecDepth 20000 in
theorem q_X8_settle_1 : Cond.fieldLink RX8 25 "StageTruths$Text" "waiting" "[I" ∈ wsX8_settle := by decide +kernel
set_option maxRecDepth 20000 in
theorem q_X8_settle_2 : Cond.fieldLink RX8 28 "StageTruths$Text" "waitingLength" "I" ∈ wsX8_settle := by decide +kernel
noncomputable def f_X8_settle_7   : Nat → Nat → Int32 → Int32 → mmF → Option (mmF)
  | 0, _, _, _, _ => none
  | n + 1, v0, v1, v2, f =>
    if v2 < 0 then
    (some (f))
    else
    (ldR f v0 8 4).bind fun x12 =>
    (ldA 0 f x12 v2).bind fun x16 =>
    (f_X8_tightness x16 f).bind fun q17 =>
    if q17 < v1 then
    (some (f))
    else
    (ldR f v0 8 4).bind fun x26 =>
    (ldA 0 f x26 v2).bind fun x30 =>
    (ckO f v0 8).bind fun _ =>
    (f_X8_finish v0 x30 f).bind fun q31 =>
    (stF q31 v0 8 5 (.int v2)).bind fun f36 =>
    f_X8_settle_7 n v0 v1 (v2 + (-1 : Int32)) f36
noncomputable def f_X8_settle (v0 : Nat) (v1 : Int32) (f : mmF) : Option (mmF) :=
  (ldI f v0 8 5).bind fun x1 =>
  f_X8_settle_7 FU v0 v1 (x1 - (1 : Int32)) f
section S_X8_settle
variable {p : Program} {l : Launch} {e : Env} {s : State} {m : MethodId} {args : Array Value} {below : List Frame} {meth : Method} {c : Code} {D : mmD} {b0 sz : Nat} {f : mmF}
set_option maxHeartbeats 4000000 in
set_option maxRecDepth 100000 in
theorem w_X8_settle_7 (C0 : CX cX8_settle 3 none wsX8_settle RX8 p s m args meth c D b0) {res : mmF} : ∀ (n : Nat), ∀ (v0 : Nat) (v1 : Int32) (v2 : Int32) (f : mmF), f_X8_settle_7 n v0 v1 v2 f = some res → ∀ (H : Heap) (locs : List Loc) (ls : Array Slot), MM vwCl D b0 f sz s H → mS b0 s H locs → lv_has ls 3 [(0, .ref v0), (1, .int v1), (2, .int v2)] → W p l e ({ frames := 1, cells := 0, slots := 0, locals := 21 } : Room) s m args below meth c H locs 0 0 (MQ below (QW D b0 none res sz) args s 0 0 (fun q => b0 ≤ q)) (F0 m 7 ls []) := by
  obtain ⟨hx, hb, hr, hml, hown, hts, hlocks, hK⟩ := id C0
  intro n
  induction n with
  | zero =>
    intro v0 v1 v2 f h
    have h : (none : Option (mmF)) = some res := h
    cases h
  | succ n ih =>
    intro v0 v1 v2 f h H locs ls hM hS hl
    rw [f_X8_settle_7] at h
    refine lv_iload_n hx hb dX8_settle_7 rfl (lv_at hl 2 rfl) ?_
    refine lv_if_lt (tgt := 45) hx hb dX8_settle_8 (by decide) (fun c8 => ?_) (fun c8 => ?_)
    · replace h := o_t c8 h
      replace h := Option.some.inj h; subst h
      exact W.vret hx hb hr (fun t ht hW => ⟨rfl, by rw [ht]; exact hM.moved hW.alike, hS.F ht⟩) hS.2.2 dX8_settle_45
    replace h := o_f c8 h
    refine lv_aload_n hx hb dX8_settle_11 rfl (lv_at hl 0 rfl) ?_
    replace h := o_b h; obtain ⟨x12, h12, h⟩ := h
    refine m_get (C := RX8) (T := TX8) (N := 7) (ci := 8) hx hb hts qi_X8_settle_X8 hown hK.1 hM 4 (ldR_F h12) rfl (by decide) (hts _ q_X8_settle_1) (fun _ h9 => h9) dX8_settle_12 ?_
    refine lv_iload_n hx hb dX8_settle_15 rfl (lv_at hl 2 rfl) ?_
    replace h := o_b h; obtain ⟨x16, h16, h⟩ := h
    refine m_iald hx hb hK.1 hM hS rfl h16 dX8_settle_16 ?_
    replace h := o_b h; obtain ⟨q17, h17, h⟩ := h
    refine m_call (va_runS (As := [.int x16]) (rest := []) ⟨hx, hb, hml, hown, hts⟩ (c_X8_tightness l D b0 sz h17) (va_cwS 1 hts gX8_settle_X8_tightness rfl rfl rfl (by decide +kernel) ⟨Nat.le_of_ble_eq_true rfl, Nat.le_of_ble_eq_true rfl⟩) ⟨PW.blind, (fun U hU hW => ⟨rfl, PW.call hK hM hS hU hW⟩)⟩ rfl rfl hl.1 rfl (lv_room (Nat.le_of_ble_eq_true rfl)) dX8_settle_17 ⟨(Nat.le_refl _), (Nat.le_refl _)⟩) hS (fun H locs hM hS => ?_)
    refine lv_iload_n hx hb dX8_settle_20 rfl (lv_at hl 1 rfl) ?_
    refine lv_icmp_lt (tgt := 45) hx hb dX8_settle_21 (by decide) (fun c21 => ?_) (fun c21 => ?_)
    · replace h := o_t c21 h
      replace h := Option.some.inj h; subst h
      exact W.vret hx hb hr (fun t ht hW => ⟨rfl, by rw [ht]; exact hM.moved hW.alike, hS.F ht⟩) hS.2.2 dX8_settle_45
    replace h := o_f c21 h
    refine lv_aload_n hx hb dX8_settle_24 rfl (lv_at hl 0 rfl) ?_
    refine lv_aload_n hx hb dX8_settle_25 rfl (lv_at hl 0 rfl) ?_
    replace h := o_b h; obtain ⟨x26, h26, h⟩ := h
    refine m_get (C := RX8) (T := TX8) (N := 7) (ci := 8) hx hb hts qi_X8_settle_X8 hown hK.1 hM 4 (ldR_F h26) rfl (by decide) (hts _ q_X8_settle_1) (fun _ h9 => h9) dX8_settle_26 ?_
    refine lv_iload_n hx hb dX8_settle_29 rfl (lv_at hl 2 rfl) ?_
    replace h := o_b h; obtain ⟨x30, h30, h⟩ := h
    refine m_iald hx hb hK.1 hM hS rfl h30 dX8_settle_30 ?_
    replace h := o_b h; obtain ⟨_, k31, h⟩ := h
    replace h := o_b h; obtain ⟨q31, h31, h⟩ := h
    refine m_call (va_runV (As := [.int x30]) (rest := []) ⟨hx, hb, hml, hown, hts⟩ (c_X8_finish l D b0 sz h31) (cwV 1 hts gX8_settle_X8_finish rfl rfl rfl (by decide +kernel) ⟨Nat.le_of_ble_eq_true rfl, Nat.le_of_ble_eq_true rfl⟩) ⟨PW.blind, m_recv (ci := 8) rfl hK hM k31, (fun U hU hW => ⟨rfl, PW.call hK hM hS hU hW⟩)⟩ rfl rfl hl.1 rfl (lv_room (Nat.le_of_ble_eq_true rfl)) dX8_settle_31 ⟨(Nat.le_refl _), (Nat.le_refl _)⟩) hS (fun H locs hM hS => ?_)
    refine lv_aload_n hx hb dX8_settle_34 rfl (lv_at hl 0 rfl) ?_
    refine lv_iload_n hx hb dX8_settle_35 rfl (lv_at hl 2 rfl) ?_
    replace h := o_b h; obtain ⟨f36, h36, h⟩ := h
    refine m_put (ty := .int) (C := RX8) (T := TX8) (N := 7) (ci := 8) hx hb hts qi_X8_settle_X8 tyX8 tyX8_ok nmX8 hown hK.1 hM hS 5 h36 rfl (by decide) (hts _ q_X8_settle_2) (fun _ h9 => h9) rfl (by decide +kernel) rfl rfl dX8_settle_36 (fun H locs hM hS => ?_)
    refine lv_iinc (v := (v2 + (-1 : Int32))) (lv' := [(2, .int (v2 + (-1 : Int32))), (0, .ref v0), (1, .int v1)]) hx hb dX8_settle_39 hl (k := 2) rfl rfl (by decide) rfl (fun ls hl => ?_)
    refine lv_goto (tgt := 7) hx hb dX8_settle_42 (by decide) ?_
    exact ih _ _ _ _ h _ _ _ hM hS (lv_sub hl [1, 2, 0] rfl)
set_option maxHeartbeats 4000000 in
set_option maxRecDepth 100000 in
theorem w_X8_settle (C0 : CX cX8_settle 3 none wsX8_settle RX8 p s m args meth c D b0) {v0 : Nat} {v1 : Int32} {res : mmF} (h : f_X8_settle v0 v1 f = some res) : ∀ (H : Heap) (locs : List Loc) (ls : Array Slot), MM vwCl D b0 f sz s H → mS b0 s H locs → lv_has ls 3 [(0, .ref v0), (1, .int v1)] → W p l e ({ frames := 1, cells := 0, slots := 0, locals := 21 } : Room) s m args below meth c H locs 0 0 (MQ below (QW D b0 none res sz) args s 0 0 (fun q => b0 ≤ q)) (F0 m 0 ls []) := by
  obtain ⟨hx, hb, hr, hml, hown, hts, hlocks, hK⟩ := id C0
  intro H locs ls hM hS hl
  unfold f_X8_settle at h
  refine lv_aload_n hx hb dX8_settle_0 rfl (lv_at hl 0 rfl) ?_
  replace h := o_b h; obtain ⟨x1, h1, h⟩ := h
  refine m_get (C := RX8) (T := TX8) (N := 7) (ci := 8) hx hb hts qi_X8_settle_X8 hown hK.1 hM 5 (ldI_F h1) rfl (by decide) (hts _ q_X8_settle_2) (fun _ h9 => h9) dX8_settle_1 ?_
  refine lv_iconst (v := (1 : Int32)) hx hb dX8_settle_4 (by decide) ?_
  refine lv_isub hx hb dX8_settle_5 ?_
  refine lv_istore_n (lv' := [(2, .int (x1 - (1 : Int32))), (0, .ref v0), (1, .int v1)]) hx hb dX8_settle_6 rfl hl (by decide) rfl (fun ls hl => ?_)
  exact w_X8_settle_7 C0 FU _ _ _ _ h _ _ _ hM hS (lv_sub hl [1, 2, 0] rfl)
set_option maxHeartbeats 4000000 in
set_option maxRecDepth 100000 in
theorem c_X8_settle (l : Launch) (D : mmD) (b0 sz : Nat) {v0 : Nat} {v1 : Int32} {f : mmF} {res : mmF} (h : f_X8_settle v0 v1 f = some res) : Met l yX8_settle wsX8_settle ({ frames := 1, cells := 0, slots := 0, locals := 21 } : Room) (va_Pc [.ref v0, .int v1] (PW D b0 f sz)) (QW D b0 none res sz) 0 0 (fun q => b0 ≤ q) := by
  refine Met.ofW (cc := cX8_settle) (maxL := 3) (ret := none) (by decide) rfl ?_
  intro p e s m args below meth c s₁ B hml hv
  obtain ⟨rfl, hM, hK⟩ := hv
  have hl := lv_entry ([.ref v0, .int v1]) (n := 3) (Nat.le_of_ble_eq_true rfl)
  rw [lg_entry_eq]
  generalize (lg_sl ([.ref v0, .int v1]) ++ List.replicate (3 - (lg_sl ([.ref v0, .int v1])).length) Slot.unset).toArray = ls at hl ⊢
  have hl : lv_has ls 3 [(0, .ref v0), (1, .int v1)] := hl
  exact w_X8_settle ⟨B.exec, B.bytes, B.returns, hml, findClass_of_methodNamed B.named, atoms_spec (ws := wsX8_settle) B.pre, B.notSynchronized, hK⟩ h s.heap [] ls hM va_S.rf hl
end S_X8_settle
