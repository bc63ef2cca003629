/-! X4_init -/
set_option maxRecDepth 20000 in
theorem qi_X4_init_X4 : ∀ w ∈ u_ws RX4 TX4 8, w ∈ wsX4_init := by decide +kernel
set_option maxRecDepth 20000 in
theorem q_X4_init_1 : Cond.fieldLink RX4 15 "StageTruths$Parts" "kinds" "[I" ∈ wsX4_init := by decide +kernel
set_option maxRecDepth 20000 in
theorem q_X4_init_2 : Cond.methodLink RX4 5 objectInit ∈ wsX4_init := by decide +kernel
set_option maxRecDepth 20000 in
theorem q_X4_init_3 : Cond.instanceMethod objectInit ∈ wsX4_init := by decide +kernel
set_option maxRecDepth 20000 in
theorem q_X4_init_4 : Cond.code objectInit ⟨#[0xb1]⟩ 1 none ∈ wsX4_init := by decide +kernel
set_option maxRecDepth 20000 in
theorem q_X4_init_5 : Cond.fieldLink RX4 11 "StageTruths$Parts" "size" "I" ∈ wsX4_init := by decide +kernel
set_option maxRecDepth 20000 in
theorem q_X4_init_6 : Cond.arrayClass .int ∈ wsX4_init := by decide +kernel
set_option maxRecDepth 20000 in
theorem q_X4_init_7 : Cond.fieldLink RX4 19 "StageTruths$Parts" "left" "[I" ∈ wsX4_init := by decide +kernel
set_option maxRecDepth 20000 in
theorem q_X4_init_8 : Cond.fieldLink RX4 22 "StageTruths$Parts" "right" "[I" ∈ wsX4_init := by decide +kernel
set_option maxRecDepth 20000 in
theorem q_X4_init_9 : Cond.fieldLink RX4 25 "StageTruths$Parts" "wholes" "[I" ∈ wsX4_init := by decide +kernel
set_option maxRecDepth 20000 in
theorem q_X4_init_10 : Cond.fieldLink RX4 28 "StageTruths$Parts" "usedLeaves" "I" ∈ wsX4_init := by decide +kernel
set_option maxRecDepth 20000 in
theorem q_X4_init_11 : Cond.fieldLink RX4 31 "StageTruths$Parts" "open" "[I" ∈ wsX4_init := by decide +kernel
set_option maxRecDepth 20000 in
theorem q_X4_init_12 : Cond.fieldLink RX4 34 "StageTruths$Parts" "depths" "[I" ∈ wsX4_init := by decide +kernel
noncomputable def f_X4_init_68   : Nat → Nat → Int32 → mmF → Nat → Option (mmF × Nat)
  | 0, _, _, _, _ => none
  | n + 1, v0, v1, f, sz =>
    if (6 : Int32) ≤ v1 then
    (some (f, sz))
    else
    (ldR f v0 4 1).bind fun x75 =>
    (stA 0 f x75 v1 v1).bind fun f80 =>
    f_X4_init_68 n v0 (v1 + (1 : Int32)) f80 sz
noncomputable def f_X4_init (v0 : Nat) (f : mmF) (sz : Nat) : Option (mmF × Nat) :=
  (stF f v0 4 0 (.int (6 : Int32))).bind fun f7 =>
  (some (va_up f7 sz (some (.inl (0, 151, .inl (fun _ => 0)))))).bind fun f14 =>
  (stF f14 v0 4 1 (.ref sz)).bind fun f16 =>
  (some (va_up f16 (sz + 1) (some (.inl (0, 151, .inl (fun _ => 0)))))).bind fun f23 =>
  (stF f23 v0 4 2 (.ref (sz + 1))).bind fun f25 =>
  (some (va_up f25 ((sz + 1) + 1) (some (.inl (0, 151, .inl (fun _ => 0)))))).bind fun f32 =>
  (stF f32 v0 4 3 (.ref ((sz + 1) + 1))).bind fun f34 =>
  (some (va_up f34 (((sz + 1) + 1) + 1) (some (.inl (0, 5, .inl (fun _ => 0)))))).bind fun f39 =>
  (stF f39 v0 4 4 (.ref (((sz + 1) + 1) + 1))).bind fun f41 =>
  (stF f41 v0 4 5 (.int (0 : Int32))).bind fun f46 =>
  (some (va_up f46 ((((sz + 1) + 1) + 1) + 1) (some (.inl (0, 30, .inl (fun _ => 0)))))).bind fun f52 =>
  (stF f52 v0 4 6 (.ref ((((sz + 1) + 1) + 1) + 1))).bind fun f54 =>
  (some (va_up f54 (((((sz + 1) + 1) + 1) + 1) + 1) (some (.inl (0, 151, .inl (fun _ => 0)))))).bind fun f61 =>
  (stF f61 v0 4 7 (.ref (((((sz + 1) + 1) + 1) + 1) + 1))).bind fun f63 =>
  f_X4_init_68 FU v0 (0 : Int32) f63 ((((((sz + 1) + 1) + 1) + 1) + 1) + 1)
section S_X4_init
variable {p : Program} {l : Launch} {e : Env} {s : State} {m : MethodId} {args : Array Value} {below : List Frame} {meth : Method} {c : Code} {D : mmD} {b0 sz : Nat} {f : mmF}
set_option maxHeartbeats 4000000 in
set_option maxRecDepth 100000 in
theorem w_X4_init_68 (C0 : CX cX4_init 2 none wsX4_init RX4 p s m args meth c D b0) (hin : meth.name = "<init>") {res : mmF × Nat} : ∀ (n : Nat), ∀ (v0 : Nat) (v1 : Int32) (f : mmF) (sz : Nat), f_X4_init_68 n v0 v1 f sz = some res → ∀ (H : Heap) (locs : List Loc) (ls : Array Slot), MM vwCl D b0 f sz s H → mS b0 s H locs → lv_has ls 2 [(0, .ref v0), (1, .int v1)] → W p l e ({ frames := 1, cells := 6, slots := 639, locals := 24 } : Room) s m args below meth c H locs 6 639 (MQ below (QW D b0 none res.1 res.2) args s 6 639 (fun q => b0 ≤ q)) (F0 m 68 ls []) := by
  obtain ⟨hx, hb, hr, hml, hown, hts, hlocks, hK⟩ := id C0
  intro n
  induction n with
  | zero =>
    intro v0 v1 f sz h
    have h : (none : Option (mmF × Nat)) = some res := h
    cases h
  | succ n ih =>
    intro v0 v1 f sz h H locs ls hM hS hl
    rw [f_X4_init_68] at h
    refine lv_iload_n hx hb dX4_init_68 rfl (lv_at hl 1 rfl) ?_
    refine lv_bipush (v := (6 : Int32)) hx hb dX4_init_69 (by decide) ?_
    refine lv_icmp_ge (tgt := 87) hx hb dX4_init_71 (by decide) (fun c71 => ?_) (fun c71 => ?_)
    · replace h := o_t c71 h
      refine W.widen (k := 6) (n := 639) (Nat.le_of_ble_eq_true rfl) (Nat.le_of_ble_eq_true rfl) ?_
      replace h := Option.some.inj h; subst h
      exact W.vret hx hb hr (fun t ht hW => ⟨rfl, by rw [ht]; exact hM.moved hW.alike, hS.F ht⟩) hS.2.2 dX4_init_87
    replace h := o_f c71 h
    refine lv_aload_n hx hb dX4_init_74 rfl (lv_at hl 0 rfl) ?_
    replace h := o_b h; obtain ⟨x75, h75, h⟩ := h
    refine m_get (C := RX4) (T := TX4) (N := 8) (ci := 4) hx hb hts qi_X4_init_X4 hown hK.1 hM 1 (ldR_F h75) rfl (by decide) (hts _ q_X4_init_1) (fun _ h9 => h9) dX4_init_75 ?_
    refine lv_iload_n hx hb dX4_init_78 rfl (lv_at hl 1 rfl) ?_
    refine lv_iload_n hx hb dX4_init_79 rfl (lv_at hl 1 rfl) ?_
    replace h := o_b h; obtain ⟨f80, h80, h⟩ := h
    refine m_iast hx hb hK.1 hM hS rfl h80 dX4_init_80 (fun H locs hM hS => ?_)
    refine lv_iinc (v := (v1 + (1 : Int32))) (lv' := [(1, .int (v1 + (1 : Int32))), (0, .ref v0)]) hx hb dX4_init_81 hl (k := 1) rfl rfl (by decide) rfl (fun ls hl => ?_)
    refine lv_goto (tgt := 68) hx hb dX4_init_84 (by decide) ?_
    exact ih _ _ _ _ h _ _ _ hM hS (lv_sub hl [1, 0] rfl)
set_option maxHeartbeats 4000000 in
set_option maxRecDepth 100000 in
theorem w_X4_init (C0 : CX cX4_init 2 none wsX4_init RX4 p s m args meth c D b0) (hin : meth.name = "<init>") {v0 : Nat} {res : mmF × Nat} (h : f_X4_init v0 f sz = some res) : ∀ (H : Heap) (locs : List Loc) (ls : Array Slot), MM vwCl D b0 f sz s H → mS b0 s H locs → lv_has ls 2 [(0, .ref v0)] → W p l e ({ frames := 1, cells := 6, slots := 639, locals := 24 } : Room) s m args below meth c H locs 0 0 (MQ below (QW D b0 none res.1 res.2) args s 6 639 (fun q => b0 ≤ q)) (F0 m 0 ls []) := by
  obtain ⟨hx, hb, hr, hml, hown, hts, hlocks, hK⟩ := id C0
  intro H locs ls hM hS hl
  unfold f_X4_init at h
  refine lv_aload_n hx hb dX4_init_0 rfl (lv_at hl 0 rfl) ?_
  refine W.objInit hx hb hown (hts _ q_X4_init_2) (hts _ q_X4_init_3) (hts _ q_X4_init_4) rfl (by rw [hml]; exact hl.1) rfl dX4_init_1 (Nat.le_of_ble_eq_true rfl) (Nat.le_of_ble_eq_true rfl) ?_
  refine lv_aload_n hx hb dX4_init_4 rfl (lv_at hl 0 rfl) ?_
  refine lv_bipush (v := (6 : Int32)) hx hb dX4_init_5 (by decide) ?_
  replace h := o_b h; obtain ⟨f7, h7, h⟩ := h
  refine m_put (ty := .int) (C := RX4) (T := TX4) (N := 8) (ci := 4) hx hb hts qi_X4_init_X4 tyX4 tyX4_ok nmX4 hown hK.1 hM hS 0 h7 rfl (by decide) (hts _ q_X4_init_5) (fun _ h9 => h9) rfl (by decide +kernel) rfl rfl dX4_init_7 (fun H locs hM hS => ?_)
  refine lv_aload_n hx hb dX4_init_10 rfl (lv_at hl 0 rfl) ?_
  refine lv_sipush (v := (151 : Int32)) hx hb dX4_init_11 (by decide) ?_
  refine m_newa 0 (by decide) hx hb (atype := .int) (N' := 151) (hts _ q_X4_init_6) rfl rfl hK.1 hM hS (y := .inl (fun _ => 0)) (fun _ => rfl) (fun _ => Iff.rfl) (by decide) (by decide) (Nat.le_of_ble_eq_true rfl) (Nat.le_of_ble_eq_true rfl) (Nat.le_of_ble_eq_true rfl) dX4_init_14 (fun H hM hS => ?_)
  replace h := o_b h; obtain ⟨f14, h14, h⟩ := h
  replace h14 := Option.some.inj h14
  subst h14
  replace h := o_b h; obtain ⟨f16, h16, h⟩ := h
  refine m_putF (ty := (.array .int)) (C := RX4) (T := TX4) (N := 8) (ci := 4) hx hb hts qi_X4_init_X4 tyX4 tyX4_ok nmX4 hown hK.1 hM hS 1 h16 rfl (by decide) (hts _ q_X4_init_1) (fun _ h9 => h9) rfl hin rfl (by decide +kernel) rfl rfl dX4_init_16 (fun H locs hM hS => ?_)
  refine lv_aload_n hx hb dX4_init_19 rfl (lv_at hl 0 rfl) ?_
  refine lv_sipush (v := (151 : Int32)) hx hb dX4_init_20 (by decide) ?_
  refine m_newa 0 (by decide) hx hb (atype := .int) (N' := 151) (hts _ q_X4_init_6) rfl rfl hK.1 hM hS (y := .inl (fun _ => 0)) (fun _ => rfl) (fun _ => Iff.rfl) (by decide) (by decide) (Nat.le_of_ble_eq_true rfl) (Nat.le_of_ble_eq_true rfl) (Nat.le_of_ble_eq_true rfl) dX4_init_23 (fun H hM hS => ?_)
  replace h := o_b h; obtain ⟨f23, h23, h⟩ := h
  replace h23 := Option.some.inj h23
  subst h23
  replace h := o_b h; obtain ⟨f25, h25, h⟩ := h
  refine m_putF (ty := (.array .int)) (C := RX4) (T := TX4) (N := 8) (ci := 4) hx hb hts qi_X4_init_X4 tyX4 tyX4_ok nmX4 hown hK.1 hM hS 2 h25 rfl (by decide) (hts _ q_X4_init_7) (fun _ h9 => h9) rfl hin rfl (by decide +kernel) rfl rfl dX4_init_25 (fun H locs hM hS => ?_)
  refine lv_aload_n hx hb dX4_init_28 rfl (lv_at hl 0 rfl) ?_
  refine lv_sipush (v := (151 : Int32)) hx hb dX4_init_29 (by decide) ?_
  refine m_newa 0 (by decide) hx hb (atype := .int) (N' := 151) (hts _ q_X4_init_6) rfl rfl hK.1 hM hS (y := .inl (fun _ => 0)) (fun _ => rfl) (fun _ => Iff.rfl) (by decide) (by decide) (Nat.le_of_ble_eq_true rfl) (Nat.le_of_ble_eq_true rfl) (Nat.le_of_ble_eq_true rfl) dX4_init_32 (fun H hM hS => ?_)
  replace h := o_b h; obtain ⟨f32, h32, h⟩ := h
  replace h32 := Option.some.inj h32
  subst h32
  replace h := o_b h; obtain ⟨f34, h34, h⟩ := h
  refine m_putF (ty := (.array .int)) (C := RX4) (T := TX4) (N := 8) (ci := 4) hx hb hts qi_X4_init_X4 tyX4 tyX4_ok nmX4 hown hK.1 hM hS 3 h34 rfl (by decide) (hts _ q_X4_init_8) (fun _ h9 => h9) rfl hin rfl (by decide +kernel) rfl rfl dX4_init_34 (fun H locs hM hS => ?_)
  refine lv_aload_n hx hb dX4_init_37 rfl (lv_at hl 0 rfl) ?_
  refine lv_iconst (v := (5 : Int32)) hx hb dX4_init_38 (by decide) ?_
  refine m_newa 0 (by decide) hx hb (atype := .int) (N' := 5) (hts _ q_X4_init_6) rfl rfl hK.1 hM hS (y := .inl (fun _ => 0)) (fun _ => rfl) (fun _ => Iff.rfl) (by decide) (by decide) (Nat.le_of_ble_eq_true rfl) (Nat.le_of_ble_eq_true rfl) (Nat.le_of_ble_eq_true rfl) dX4_init_39 (fun H hM hS => ?_)
  replace h := o_b h; obtain ⟨f39, h39, h⟩ := h
  replace h39 := Option.some.inj h39
  subst h39
  replace h := o_b h; obtain ⟨f41, h41, h⟩ := h
  refine m_putF (ty := (.array .int)) (C := RX4) (T := TX4) (N := 8) (ci := 4) hx hb hts qi_X4_init_X4 tyX4 tyX4_ok nmX4 hown hK.1 hM hS 4 h41 rfl (by decide) (hts _ q_X4_init_9) (fun _ h9 => h9) rfl hin rfl (by decide +kernel) rfl rfl dX4_init_41 (fun H locs hM hS => ?_)
  refine lv_aload_n hx hb dX4_init_44 rfl (lv_at hl 0 rfl) ?_
  refine lv_iconst (v := (0 : Int32)) hx hb dX4_init_45 (by decide) ?_
  replace h := o_b h; obtain ⟨f46, h46, h⟩ := h
  refine m_put (ty := .int) (C := RX4) (T := TX4) (N := 8) (ci := 4) hx hb hts qi_X4_init_X4 tyX4 tyX4_ok nmX4 hown hK.1 hM hS 5 h46 rfl (by decide) (hts _ q_X4_init_10) (fun _ h9 => h9) rfl (by decide +kernel) rfl rfl dX4_init_46 (fun H locs hM hS => ?_)
  refine lv_aload_n hx hb dX4_init_49 rfl (lv_at hl 0 rfl) ?_
  refine lv_bipush (v := (30 : Int32)) hx hb dX4_init_50 (by decide) ?_
  refine m_newa 0 (by decide) hx hb (atype := .int) (N' := 30) (hts _ q_X4_init_6) rfl rfl hK.1 hM hS (y := .inl (fun _ => 0)) (fun _ => rfl) (fun _ => Iff.rfl) (by decide) (by decide) (Nat.le_of_ble_eq_true rfl) (Nat.le_of_ble_eq_true rfl) (Nat.le_of_ble_eq_true rfl) dX4_init_52 (fun H hM hS => ?_)
  replace h := o_b h; obtain ⟨f52, h52, h⟩ := h
  replace h52 := Option.some.inj h52
  subst h52
  replace h := o_b h; obtain ⟨f54, h54, h⟩ := h
  refine m_putF (ty := (.array .int)) (C := RX4) (T := TX4) (N := 8) (ci := 4) hx hb hts qi_X4_init_X4 tyX4 tyX4_ok nmX4 hown hK.1 hM hS 6 h54 rfl (by decide) (hts _ q_X4_init_11) (fun _ h9 => h9) rfl hin rfl (by decide +kernel) rfl rfl dX4_init_54 (fun H locs hM hS => ?_)
  refine lv_aload_n hx hb dX4_init_57 rfl (lv_at hl 0 rfl) ?_
  refine lv_sipush (v := (151 : Int32)) hx hb dX4_init_58 (by decide) ?_
  refine m_newa 0 (by decide) hx hb (atype := .int) (N' := 151) (hts _ q_X4_init_6) rfl rfl hK.1 hM hS (y := .inl (fun _ => 0)) (fun _ => rfl) (fun _ => Iff.rfl) (by decide) (by decide) (Nat.le_of_ble_eq_true rfl) (Nat.le_of_ble_eq_true rfl) (Nat.le_of_ble_eq_true rfl) dX4_init_61 (fun H hM hS => ?_)
  replace h := o_b h; obtain ⟨f61, h61, h⟩ := h
  replace h61 := Option.some.inj h61
  subst h61
  replace h := o_b h; obtain ⟨f63, h63, h⟩ := h
  refine m_putF (ty := (.array .int)) (C := RX4) (T := TX4) (N := 8) (ci := 4) hx hb hts qi_X4_init_X4 tyX4 tyX4_ok nmX4 hown hK.1 hM hS 7 h63 rfl (by decide) (hts _ q_X4_init_12) (fun _ h9 => h9) rfl hin rfl (by decide +kernel) rfl rfl dX4_init_63 (fun H locs hM hS => ?_)
  refine lv_iconst (v := (0 : Int32)) hx hb dX4_init_66 (by decide) ?_
  refine lv_istore_n (lv' := [(1, .int (0 : Int32)), (0, .ref v0)]) hx hb dX4_init_67 rfl hl (by decide) rfl (fun ls hl => ?_)
  exact w_X4_init_68 C0 hin FU _ _ _ _ h _ _ _ hM hS (lv_sub hl [1, 0] rfl)
set_option maxHeartbeats 4000000 in
set_option maxRecDepth 100000 in
theorem c_X4_init (l : Launch) (D : mmD) (b0 sz : Nat) {v0 : Nat} {f : mmF} {res : mmF × Nat} (h : f_X4_init v0 f sz = some res) : Met l yX4_init wsX4_init ({ frames := 1, cells := 6, slots := 639, locals := 24 } : Room) (va_Pc [.ref v0] (PW D b0 f sz)) (QW D b0 none res.1 res.2) 6 639 (fun q => b0 ≤ q) := by
  refine Met.ofW (cc := cX4_init) (maxL := 2) (ret := none) (by decide) rfl ?_
  intro p e s m args below meth c s₁ B hml hv
  obtain ⟨rfl, hM, hK⟩ := hv
  have hl := lv_entry ([.ref v0]) (n := 2) (Nat.le_of_ble_eq_true rfl)
  rw [lg_entry_eq]
  generalize (lg_sl ([.ref v0]) ++ List.replicate (2 - (lg_sl ([.ref v0])).length) Slot.unset).toArray = ls at hl ⊢
  have hl : lv_has ls 2 [(0, .ref v0)] := hl
  exact w_X4_init ⟨B.exec, B.bytes, B.returns, hml, findClass_of_methodNamed B.named, atoms_spec (ws := wsX4_init) B.pre, B.notSynchronized, hK⟩ (name_of_methodNamed B.named B.method).1 h s.heap [] ls hM va_S.rf hl
end S_X4_init
/-! X9_has -/
noncomputable def f_X9_has (v0 : Int32) (v1 : Int32) (f : mmF) : Option (Int32) :=
  if ((v0 >>> (v1 &&& 31)) &&& (1 : Int32)) = 0 then
  (some ((0 : Int32)))
  else
  some ((1 : Int32))
section S_X9_has
variable {p : Program} {l : Launch} {e : Env} {s : State} {m : MethodId} {args : Array Value} {below : List Frame} {meth : Method} {c : Code} {D : mmD} {b0 sz : Nat} {f : mmF}
set_option maxHeartbeats 4000000 in
set_option maxRecDepth 100000 in
theorem w_X9_has (C0 : CX cX9_has 2 (some .boolean) wsX9_has RX9 p s m args meth c D b0) {v0 : Int32} {v1 : Int32} {res : Int32} (h : f_X9_has v0 v1 f = some res) : ∀ (H : Heap) (locs : List Loc) (ls : Array Slot), MM vwCl D b0 f sz s H → mS b0 s H locs → lv_has ls 2 [(0, .int v0), (1, .int v1)] → W p l e ({ frames := 0, cells := 0, slots := 0, locals := 0 } : Room) s m args below meth c H locs 0 0 (MQ below (QW D b0 (some (.int res)) f sz) args s 0 0 (fun q => b0 ≤ q)) (F0 m 0 ls []) := by
  obtain ⟨hx, hb, hr, hml, hown, hts, hlocks, hK⟩ := id C0
  intro H locs ls hM hS hl
  unfold f_X9_has at h
  refine lv_iload_n hx hb dX9_has_0 rfl (lv_at hl 0 rfl) ?_
  refine lv_iload_n hx hb dX9_has_1 rfl (lv_at hl 1 rfl) ?_
  refine lv_ishr hx hb dX9_has_2 ?_
  refine lv_iconst (v := (1 : Int32)) hx hb dX9_has_3 (by decide) ?_
  refine lv_iand hx hb dX9_has_4 ?_
  refine lv_if_eq (tgt := 12) hx hb dX9_has_5 (by decide) (fun c5 => ?_) (fun c5 => ?_)
  · replace h := o_t c5 h
    refine lv_iconst (v := (0 : Int32)) hx hb dX9_has_12 (by decide) ?_
    replace h := Option.some.inj h; subst h
    exact W.zret hx hb hr rfl (fun t ht hW => ⟨rfl, by rw [ht]; exact hM.moved hW.alike, hS.F ht⟩) hS.2.2 dX9_has_13
  replace h := o_f c5 h
  refine lv_iconst (v := (1 : Int32)) hx hb dX9_has_8 (by decide) ?_
  refine lv_goto (tgt := 13) hx hb dX9_has_9 (by decide) ?_
  replace h := Option.some.inj h; subst h
  exact W.zret hx hb hr rfl (fun t ht hW => ⟨rfl, by rw [ht]; exact hM.moved hW.alike, hS.F ht⟩) hS.2.2 dX9_has_13
set_option maxHeartbeats 4000000 in
set_option maxRecDepth 100000 in
theorem c_X9_has (l : Launch) (D : mmD) (b0 sz : Nat) {v0 : Int32} {v1 : Int32} {f : mmF} {res : Int32} (h : f_X9_has v0 v1 f = some res) : Met l yX9_has wsX9_has ({ frames := 0, cells := 0, slots := 0, locals := 0 } : Room) (va_Pc [.int v0, .int v1] (PW D b0 f sz)) (QW D b0 (some (.int res)) f sz) 0 0 (fun q => b0 ≤ q) := by
  refine Met.ofW (cc := cX9_has) (maxL := 2) (ret := (some .boolean)) (by decide) rfl ?_
  intro p e s m args below meth c s₁ B hml hv
  obtain ⟨rfl, hM, hK⟩ := hv
  have hl := lv_entry ([.int v0, .int v1]) (n := 2) (Nat.le_of_ble_eq_true rfl)
  rw [lg_entry_eq]
  generalize (lg_sl ([.int v0, .int v1]) ++ List.replicate (2 - (lg_sl ([.int v0, .int v1])).length) Slot.unset).toArray = ls at hl ⊢
  have hl : lv_has ls 2 [(0, .int v0), (1, .int v1)] := hl
  exact w_X9_has ⟨B.exec, B.bytes, B.returns, hml, findClass_of_methodNamed B.named, atoms_spec (ws := wsX9_has) B.pre, B.notSynchronized, hK⟩ h s.heap [] ls hM va_S.rf hl
end S_X9_has
/-! X4_find -/
set_option maxRecDepth 20000 in
theorem qi_X4_find_X4 : ∀ w ∈ u_ws RX4 TX4 8, w ∈ wsX4_find := by decide +kernel
set_option maxRecDepth 20000 in
theorem q_X4_find_1 : Cond.fieldLink RX4 11 "StageTruths$Parts" "size" "I" ∈ wsX4_find := by decide +kernel
set_option maxRecDepth 20000 in
theorem q_X4_find_2 : Cond.fieldLink RX4 15 "StageTruths$Parts" "kinds" "[I" ∈ wsX4_find := by decide +kernel
set_option maxRecDepth 20000 in
theorem q_X4_find_3 : Cond.fieldLink RX4 19 "StageTruths$Parts" "left" "[I" ∈ wsX4_find := by decide +kernel
set_option maxRecDepth 20000 in
theorem q_X4_find_4 : Cond.fieldLink RX4 22 "StageTruths$Parts" "right" "[I" ∈ wsX4_find := by decide +kernel
noncomputable def f_X4_find_49 (k4 : Nat → Int32 → Int32 → Int32 → Int32 → mmF → Option (Int32 × mmF))  (v0 : Nat) (v1 : Int32) (v2 : Int32) (v3 : Int32) (v4 : Int32) (f : mmF) : Option (Int32 × mmF) :=
  k4 v0 v1 v2 v3 (v4 + (1 : Int32)) f
noncomputable def f_X4_find_4   : Nat → Nat → Int32 → Int32 → Int32 → Int32 → mmF → Option (Int32 × mmF)
  | 0, _, _, _, _, _, _ => none
  | n + 1, v0, v1, v2, v3, v4, f =>
    (ldI f v0 4 0).bind fun x7 =>
    if x7 ≤ v4 then
    ((ldI f v0 4 0).bind fun x56 =>
    if x56 < (151 : Int32) then
    ((ldR f v0 4 1).bind fun x68 =>
    (ldI f v0 4 0).bind fun x72 =>
    (stA 0 f x68 x72 v1).bind fun f76 =>
    (ldR f76 v0 4 2).bind fun x78 =>
    (ldI f76 v0 4 0).bind fun x82 =>
    (stA 0 f76 x78 x82 v2).bind fun f86 =>
    (ldR f86 v0 4 3).bind fun x88 =>
    (ldI f86 v0 4 0).bind fun x92 =>
    (stA 0 f86 x88 x92 v3).bind fun f96 =>
    (ldI f96 v0 4 0).bind fun x99 =>
    (stF f96 v0 4 0 (.int (x99 + (1 : Int32)))).bind fun f104 =>
    (ldI f104 v0 4 0).bind fun x108 =>
    some ((x108 - (1 : Int32)), f104))
    else
    some ((5 : Int32), f))
    else
    (ldR f v0 4 2).bind fun x14 =>
    (ldA 0 f x14 v4).bind fun x19 =>
    if x19 = v2 then
    ((ldR f v0 4 3).bind fun x25 =>
    (ldA 0 f x25 v4).bind fun x30 =>
    if x30 = v3 then
    ((ldR f v0 4 1).bind fun x36 =>
    (ldA 0 f x36 v4).bind fun x41 =>
    if x41 = v1 then
    (some (v4, f))
    else
    f_X4_find_49 (fun a0 a1 a2 a3 a4 a5 => f_X4_find_4 n a0 a1 a2 a3 a4 a5) v0 v1 v2 v3 v4 f)
    else
    f_X4_find_49 (fun a0 a1 a2 a3 a4 a5 => f_X4_find_4 n a0 a1 a2 a3 a4 a5) v0 v1 v2 v3 v4 f)
    else
    f_X4_find_49 (fun a0 a1 a2 a3 a4 a5 => f_X4_find_4 n a0 a1 a2 a3 a4 a5) v0 v1 v2 v3 v4 f
noncomputable def f_X4_find (v0 : Nat) (v1 : Int32) (v2 : Int32) (v3 : Int32) (f : mmF) : Option (Int32 × mmF) :=
  f_X4_find_4 FU v0 v1 v2 v3 (6 : Int32) f
section S_X4_find
variable {p : Program} {l : Launch} {e : Env} {s : State} {m : MethodId} {args : Array Value} {below : List Frame} {meth : Method} {c : Code} {D : mmD} {b0 sz : Nat} {f : mmF}
set_option maxHeartbeats 4000000 in
set_option maxRecDepth 100000 in
theorem w_X4_find_49 (C0 : CX cX4_find 5 (some .int) wsX4_find RX4 p s m args meth c D b0) {k4 : Nat → Int32 → Int32 → Int32 → Int32 → mmF → Option (Int32 × mmF)} {res : Int32 × mmF} (hk4 : ∀ (v0 : Nat) (v1 : Int32) (v2 : Int32) (v3 : Int32) (v4 : Int32) (f : mmF), k4 v0 v1 v2 v3 v4 f = some res → ∀ (H : Heap) (locs : List Loc) (ls : Array Slot), MM vwCl D b0 f sz s H → mS b0 s H locs → lv_has ls 5 [(0, .ref v0), (1, .int v1), (2, .int v2), (3, .int v3), (4, .int v4)] → W p l e ({ frames := 0, cells := 0, slots := 0, locals := 0 } : Room) s m args below meth c H locs 0 0 (MQ below (QW D b0 (some (.int res.1)) res.2 sz) args s 0 0 (fun q => b0 ≤ q)) (F0 m 4 ls [])) : ∀ (v0 : Nat) (v1 : Int32) (v2 : Int32) (v3 : Int32) (v4 : Int32) (f : mmF), f_X4_find_49 k4 v0 v1 v2 v3 v4 f = some res → ∀ (H : Heap) (locs : List Loc) (ls : Array Slot), MM vwCl D b0 f sz s H → mS b0 s H locs → lv_has ls 5 [(0, .ref v0), (1, .int v1), (2, .int v2), (3, .int v3), (4, .int v4)] → W p l e ({ frames := 0, cells := 0, slots := 0, locals := 0 } : Room) s m args below meth c H locs 0 0 (MQ below (QW D b0 (some (.int res.1)) res.2 sz) args s 0 0 (fun q => b0 ≤ q)) (F0 m 49 ls []) := by
  obtain ⟨hx, hb, hr, hml, hown, hts, hlocks, hK⟩ := id C0
  intro v0 v1 v2 v3 v4 f h H locs ls hM hS hl
  unfold f_X4_find_49 at h
  refine lv_iinc (v := (v4 + (1 : Int32))) (lv' := [(4, .int (v4 + (1 : Int32))), (0, .ref v0), (1, .int v1), (2, .int v2), (3, .int v3)]) hx hb dX4_find_49 hl (k := 4) rfl rfl (by decide) rfl (fun ls hl => ?_)
  refine lv_goto (tgt := 4) hx hb dX4_find_52 (by decide) ?_
  exact hk4 _ _ _ _ _ _ h _ _ _ hM hS (lv_sub hl [1, 2, 3, 4, 0] rfl)
set_option maxHeartbeats 4000000 in
set_option maxRecDepth 100000 in
theorem w_X4_find_4 (C0 : CX cX4_find 5 (some .int) wsX4_find RX4 p s m args meth c D b0) {res : Int32 × mmF} : ∀ (n : Nat), ∀ (v0 : Nat) (v1 : Int32) (v2 : Int32) (v3 : Int32) (v4 : Int32) (f : mmF), f_X4_find_4 n v0 v1 v2 v3 v4 f = some res → ∀ (H : Heap) (locs : List Loc) (ls : Array Slot), MM vwCl D b0 f sz s H → mS b0 s H locs → lv_has ls 5 [(0, .ref v0), (1, .int v1), (2, .int v2), (3, .int v3), (4, .int v4)] → W p l e ({ frames := 0, cells := 0, slots := 0, locals := 0 } : Room) s m args below meth c H locs 0 0 (MQ below (QW D b0 (some (.int res.1)) res.2 sz) args s 0 0 (fun q => b0 ≤ q)) (F0 m 4 ls []) := by
  obtain ⟨hx, hb, hr, hml, hown, hts, hlocks, hK⟩ := id C0
  intro n
  induction n with
  | zero =>
    intro v0 v1 v2 v3 v4 f h
    have h : (none : Option (Int32 × mmF)) = some res := h
    cases h
  | succ n ih =>
    intro v0 v1 v2 v3 v4 f h H locs ls hM hS hl
    rw [f_X4_find_4] at h
    refine lv_iload hx hb dX4_find_4 (lv_at hl 4 rfl) ?_
    refine lv_aload_n hx hb dX4_find_6 rfl (lv_at hl 0 rfl) ?_
    replace h := o_b h; obtain ⟨x7, h7, h⟩ := h
    refine m_get (C := RX4) (T := TX4) (N := 8) (ci := 4) hx hb hts qi_X4_find_X4 hown hK.1 hM 0 (ldI_F h7) rfl (by decide) (hts _ q_X4_find_1) (fun _ h9 => h9) dX4_find_7 ?_
    refine lv_icmp_ge (tgt := 55) hx hb dX4_find_10 (by decide) (fun c10 => ?_) (fun c10 => ?_)
    · replace h := o_t c10 h
      refine lv_aload_n hx hb dX4_find_55 rfl (lv_at hl 0 rfl) ?_
      replace h := o_b h; obtain ⟨x56, h56, h⟩ := h
      refine m_get (C := RX4) (T := TX4) (N := 8) (ci := 4) hx hb hts qi_X4_find_X4 hown hK.1 hM 0 (ldI_F h56) rfl (by decide) (hts _ q_X4_find_1) (fun _ h9 => h9) dX4_find_56 ?_
      refine lv_sipush (v := (151 : Int32)) hx hb dX4_find_59 (by decide) ?_
      refine lv_icmp_lt (tgt := 67) hx hb dX4_find_62 (by decide) (fun c62 => ?_) (fun c62 => ?_)
      · replace h := o_t c62 h
        refine lv_aload_n hx hb dX4_find_67 rfl (lv_at hl 0 rfl) ?_
        replace h := o_b h; obtain ⟨x68, h68, h⟩ := h
        refine m_get (C := RX4) (T := TX4) (N := 8) (ci := 4) hx hb hts qi_X4_find_X4 hown hK.1 hM 1 (ldR_F h68) rfl (by decide) (hts _ q_X4_find_2) (fun _ h9 => h9) dX4_find_68 ?_
        refine lv_aload_n hx hb dX4_find_71 rfl (lv_at hl 0 rfl) ?_
        replace h := o_b h; obtain ⟨x72, h72, h⟩ := h
        refine m_get (C := RX4) (T := TX4) (N := 8) (ci := 4) hx hb hts qi_X4_find_X4 hown hK.1 hM 0 (ldI_F h72) rfl (by decide) (hts _ q_X4_find_1) (fun _ h9 => h9) dX4_find_72 ?_
        refine lv_iload_n hx hb dX4_find_75 rfl (lv_at hl 1 rfl) ?_
        replace h := o_b h; obtain ⟨f76, h76, h⟩ := h
        refine m_iast hx hb hK.1 hM hS rfl h76 dX4_find_76 (fun H locs hM hS => ?_)
        refine lv_aload_n hx hb dX4_find_77 rfl (lv_at hl 0 rfl) ?_
        replace h := o_b h; obtain ⟨x78, h78, h⟩ := h
        refine m_get (C := RX4) (T := TX4) (N := 8) (ci := 4) hx hb hts qi_X4_find_X4 hown hK.1 hM 2 (ldR_F h78) rfl (by decide) (hts _ q_X4_find_3) (fun _ h9 => h9) dX4_find_78 ?_
        refine lv_aload_n hx hb dX4_find_81 rfl (lv_at hl 0 rfl) ?_
        replace h := o_b h; obtain ⟨x82, h82, h⟩ := h
        refine m_get (C := RX4) (T := TX4) (N := 8) (ci := 4) hx hb hts qi_X4_find_X4 hown hK.1 hM 0 (ldI_F h82) rfl (by decide) (hts _ q_X4_find_1) (fun _ h9 => h9) dX4_find_82 ?_
        refine lv_iload_n hx hb dX4_find_85 rfl (lv_at hl 2 rfl) ?_
        replace h := o_b h; obtain ⟨f86, h86, h⟩ := h
        refine m_iast hx hb hK.1 hM hS rfl h86 dX4_find_86 (fun H locs hM hS => ?_)
        refine lv_aload_n hx hb dX4_find_87 rfl (lv_at hl 0 rfl) ?_
        replace h := o_b h; obtain ⟨x88, h88, h⟩ := h
        refine m_get (C := RX4) (T := TX4) (N := 8) (ci := 4) hx hb hts qi_X4_find_X4 hown hK.1 hM 3 (ldR_F h88) rfl (by decide) (hts _ q_X4_find_4) (fun _ h9 => h9) dX4_find_88 ?_
        refine lv_aload_n hx hb dX4_find_91 rfl (lv_at hl 0 rfl) ?_
        replace h := o_b h; obtain ⟨x92, h92, h⟩ := h
        refine m_get (C := RX4) (T := TX4) (N := 8) (ci := 4) hx hb hts qi_X4_find_X4 hown hK.1 hM 0 (ldI_F h92) rfl (by decide) (hts _ q_X4_find_1) (fun _ h9 => h9) dX4_find_92 ?_
        refine lv_iload_n hx hb dX4_find_95 rfl (lv_at hl 3 rfl) ?_
        replace h := o_b h; obtain ⟨f96, h96, h⟩ := h
        refine m_iast hx hb hK.1 hM hS rfl h96 dX4_find_96 (fun H locs hM hS => ?_)
        refine lv_aload_n hx hb dX4_find_97 rfl (lv_at hl 0 rfl) ?_
        refine lv_dup hx hb dX4_find_98 rfl ?_
        replace h := o_b h; obtain ⟨x99, h99, h⟩ := h
        refine m_get (C := RX4) (T := TX4) (N := 8) (ci := 4) hx hb hts qi_X4_find_X4 hown hK.1 hM 0 (ldI_F h99) rfl (by decide) (hts _ q_X4_find_1) (fun _ h9 => h9) dX4_find_99 ?_
        refine lv_iconst (v := (1 : Int32)) hx hb dX4_find_102 (by decide) ?_
        refine lv_iadd hx hb dX4_find_103 ?_
        replace h := o_b h; obtain ⟨f104, h104, h⟩ := h
        refine m_put (ty := .int) (C := RX4) (T := TX4) (N := 8) (ci := 4) hx hb hts qi_X4_find_X4 tyX4 tyX4_ok nmX4 hown hK.1 hM hS 0 h104 rfl (by decide) (hts _ q_X4_find_1) (fun _ h9 => h9) rfl (by decide +kernel) rfl rfl dX4_find_104 (fun H locs hM hS => ?_)
        refine lv_aload_n hx hb dX4_find_107 rfl (lv_at hl 0 rfl) ?_
        replace h := o_b h; obtain ⟨x108, h108, h⟩ := h
        refine m_get (C := RX4) (T := TX4) (N := 8) (ci := 4) hx hb hts qi_X4_find_X4 hown hK.1 hM 0 (ldI_F h108) rfl (by decide) (hts _ q_X4_find_1) (fun _ h9 => h9) dX4_find_108 ?_
        refine lv_iconst (v := (1 : Int32)) hx hb dX4_find_111 (by decide) ?_
        refine lv_isub hx hb dX4_find_112 ?_
        replace h := Option.some.inj h; subst h
        exact W.iret hx hb hr (fun t ht hW => ⟨rfl, by rw [ht]; exact hM.moved hW.alike, hS.F ht⟩) hS.2.2 dX4_find_113
      replace h := o_f c62 h
      refine lv_iconst (v := (5 : Int32)) hx hb dX4_find_65 (by decide) ?_
      replace h := Option.some.inj h; subst h
      exact W.iret hx hb hr (fun t ht hW => ⟨rfl, by rw [ht]; exact hM.moved hW.alike, hS.F ht⟩) hS.2.2 dX4_find_66
    replace h := o_f c10 h
    refine lv_aload_n hx hb dX4_find_13 rfl (lv_at hl 0 rfl) ?_
    replace h := o_b h; obtain ⟨x14, h14, h⟩ := h
    refine m_get (C := RX4) (T := TX4) (N := 8) (ci := 4) hx hb hts qi_X4_find_X4 hown hK.1 hM 2 (ldR_F h14) rfl (by decide) (hts _ q_X4_find_3) (fun _ h9 => h9) dX4_find_14 ?_
    refine lv_iload hx hb dX4_find_17 (lv_at hl 4 rfl) ?_
    replace h := o_b h; obtain ⟨x19, h19, h⟩ := h
    refine m_iald hx hb hK.1 hM hS rfl h19 dX4_find_19 ?_
    refine lv_iload_n hx hb dX4_find_20 rfl (lv_at hl 2 rfl) ?_
    refine lv_icmp_ne (tgt := 49) hx hb dX4_find_21 (by decide) (fun c21 => ?_) (fun c21 => ?_)
    · replace h := o_f c21 h
      exact w_X4_find_49 C0 ih _ _ _ _ _ _ h _ _ _ hM hS (lv_sub hl [0, 1, 2, 3, 4] rfl)
    replace h := o_t c21 h
    refine lv_aload_n hx hb dX4_find_24 rfl (lv_at hl 0 rfl) ?_
    replace h := o_b h; obtain ⟨x25, h25, h⟩ := h
    refine m_get (C := RX4) (T := TX4) (N := 8) (ci := 4) hx hb hts qi_X4_find_X4 hown hK.1 hM 3 (ldR_F h25) rfl (by decide) (hts _ q_X4_find_4) (fun _ h9 => h9) dX4_find_25 ?_
    refine lv_iload hx hb dX4_find_28 (lv_at hl 4 rfl) ?_
    replace h := o_b h; obtain ⟨x30, h30, h⟩ := h
    refine m_iald hx hb hK.1 hM hS rfl h30 dX4_find_30 ?_
    refine lv_iload_n hx hb dX4_find_31 rfl (lv_at hl 3 rfl) ?_
    refine lv_icmp_ne (tgt := 49) hx hb dX4_find_32 (by decide) (fun c32 => ?_) (fun c32 => ?_)
    · replace h := o_f c32 h
      exact w_X4_find_49 C0 ih _ _ _ _ _ _ h _ _ _ hM hS (lv_sub hl [0, 1, 2, 3, 4] rfl)
    replace h := o_t c32 h
    refine lv_aload_n hx hb dX4_find_35 rfl (lv_at hl 0 rfl) ?_
    replace h := o_b h; obtain ⟨x36, h36, h⟩ := h
    refine m_get (C := RX4) (T := TX4) (N := 8) (ci := 4) hx hb hts qi_X4_find_X4 hown hK.1 hM 1 (ldR_F h36) rfl (by decide) (hts _ q_X4_find_2) (fun _ h9 => h9) dX4_find_36 ?_
    refine lv_iload hx hb dX4_find_39 (lv_at hl 4 rfl) ?_
    replace h := o_b h; obtain ⟨x41, h41, h⟩ := h
    refine m_iald hx hb hK.1 hM hS rfl h41 dX4_find_41 ?_
    refine lv_iload_n hx hb dX4_find_42 rfl (lv_at hl 1 rfl) ?_
    refine lv_icmp_ne (tgt := 49) hx hb dX4_find_43 (by decide) (fun c43 => ?_) (fun c43 => ?_)
    · replace h := o_f c43 h
      exact w_X4_find_49 C0 ih _ _ _ _ _ _ h _ _ _ hM hS (lv_sub hl [0, 1, 2, 3, 4] rfl)
    replace h := o_t c43 h
    refine lv_iload hx hb dX4_find_46 (lv_at hl 4 rfl) ?_
    replace h := Option.some.inj h; subst h
    exact W.iret hx hb hr (fun t ht hW => ⟨rfl, by rw [ht]; exact hM.moved hW.alike, hS.F ht⟩) hS.2.2 dX4_find_48
set_option maxHeartbeats 4000000 in
set_option maxRecDepth 100000 in
theorem w_X4_find (C0 : CX cX4_find 5 (some .int) wsX4_find RX4 p s m args meth c D b0) {v0 : Nat} {v1 : Int32} {v2 : Int32} {v3 : Int32} {res : Int32 × mmF} (h : f_X4_find v0 v1 v2 v3 f = some res) : ∀ (H : Heap) (locs : List Loc) (ls : Array Slot), MM vwCl D b0 f sz s H → mS b0 s H locs → lv_has ls 5 [(0, .ref v0), (1, .int v1), (2, .int v2), (3, .int v3)] → W p l e ({ frames := 0, cells := 0, slots := 0, locals := 0 } : Room) s m args below meth c H locs 0 0 (MQ below (QW D b0 (some (.int res.1)) res.2 sz) args s 0 0 (fun q => b0 ≤ q)) (F0 m 0 ls []) := by
  obtain ⟨hx, hb, hr, hml, hown, hts, hlocks, hK⟩ := id C0
  intro H locs ls hM hS hl
  unfold f_X4_find at h
  refine lv_bipush (v := (6 : Int32)) hx hb dX4_find_0 (by decide) ?_
  refine lv_istore (lv' := [(4, .int (6 : Int32)), (0, .ref v0), (1, .int v1), (2, .int v2), (3, .int v3)]) hx hb dX4_find_2 hl (by decide) rfl (fun ls hl => ?_)
  exact w_X4_find_4 C0 FU _ _ _ _ _ _ h _ _ _ hM hS (lv_sub hl [1, 2, 3, 4, 0] rfl)
set_option maxHeartbeats 4000000 in
set_option maxRecDepth 100000 in
theorem c_X4_find (l : Launch) (D : mmD) (b0 sz : Nat) {v0 : Nat} {v1 : Int32} {v2 : Int32} {v3 : Int32} {f : mmF} {res : Int32 × mmF} (h : f_X4_find v0 v1 v2 v3 f = some res) : Met l yX4_find wsX4_find ({ frames := 0, cells := 0, slots := 0, locals := 0 } : Room) (va_Pc [.ref v0, .int v1, .int v2, .int v3] (PW D b0 f sz)) (QW D b0 (some (.int res.1)) res.2 sz) 0 0 (fun q => b0 ≤ q) := by
  refine Met.ofW (cc := cX4_find) (maxL := 5) (ret := (some .int)) (by decide) rfl ?_
  intro p e s m args below meth c s₁ B hml hv
  obtain ⟨rfl, hM, hK⟩ := hv
  have hl := lv_entry ([.ref v0, .int v1, .int v2, .int v3]) (n := 5) (Nat.le_of_ble_eq_true rfl)
  rw [lg_entry_eq]
  generalize (lg_sl ([.ref v0, .int v1, .int v2, .int v3]) ++ List.replicate (5 - (lg_sl ([.ref v0, .int v1, .int v2, .int v3])).length) Slot.unset).toArray = ls at hl ⊢
  have hl : lv_has ls 5 [(0, .ref v0), (1, .int v1), (2, .int v2), (3, .int v3)] := hl
  exact w_X4_find ⟨B.exec, B.bytes, B.returns, hml, findClass_of_methodNamed B.named, atoms_spec (ws := wsX4_find) B.pre, B.notSynchronized, hK⟩ h s.heap [] ls hM va_S.rf hl
end S_X4_find
/-! X4_add -/
set_option maxRecDepth 20000 in
theorem qi_X4_add_X4 : ∀ w ∈ u_ws RX4 TX4 8, w ∈ wsX4_add := by decide +kernel
set_option maxRecDepth 20000 in
theorem q_X4_add_1 : Cond.fieldLink RX4 31 "StageTruths$Parts" "open" "[I" ∈ wsX4_add := by decide +kernel
set_option maxRecDepth 20000 in
theorem qi_X4_add_X0 : ∀ w ∈ u_ws RX0 TX0 2, w ∈ wsX4_add := by decide +kernel
set_option maxRecDepth 20000 in
theorem q_X4_add_3 : Cond.fieldLink RX4 49 "StageTruths$Claim" "size" "I" ∈ wsX4_add := by decide +kernel
set_option maxRecDepth 20000 in
theorem q_X4_add_4 : Cond.fieldLink RX4 52 "StageTruths$Claim" "signs" "[I" ∈ wsX4_add := by decide +kernel
set_option maxRecDepth 20000 in
theorem q_X4_add_5 : Cond.methodLink RX4 55 Lib.Math.max.name ∈ wsX4_add := by decide +kernel
set_option maxRecDepth 20000 in
theorem q_X4_add_6 : Cond.static Lib.Math.max.name ∈ wsX4_add := by decide +kernel
set_option maxRecDepth 20000 in
theorem q_X4_add_7 : Cond.initialized "java/lang/Math" ∈ wsX4_add := by decide +kernel
set_option maxRecDepth 20000 in
theorem q_X4_add_8 : Cond.code Lib.Math.max.name Lib.Math.max.code 2 (some .int) ∈ wsX4_add := by decide +kernel
set_option maxRecDepth 20000 in
theorem q_X4_add_9 : Cond.initialized RX9 ∈ wsX4_add := by decide +kernel
set_option maxRecDepth 20000 in
theorem q_X4_add_10 : Cond.static yX9_at ∈ wsX4_add := by decide +kernel
set_option maxRecDepth 20000 in
theorem q_X4_add_11 : Cond.fieldLink RX4 28 "StageTruths$Parts" "usedLeaves" "I" ∈ wsX4_add := by decide +kernel
noncomputable def f_X4_add_135 (k4 : Nat → Nat → Int32 → Int32 → mmF → Option (Int32 × mmF))  (v0 : Nat) (v1 : Nat) (v2 : Int32) (v3 : Int32) (f : mmF) : Option (Int32 × mmF) :=
  k4 v0 v1 v2 (v3 + (1 : Int32)) f
noncomputable def f_X4_add_115 (k4 : Nat → Nat → Int32 → Int32 → mmF → Option (Int32 × mmF))  (v0 : Nat) (v1 : Nat) (v2 : Int32) (v3 : Int32) (v5 : Int32) (f : mmF) : Option (Int32 × mmF) :=
  (ldR f v0 4 6).bind fun x117 =>
  (lenA f x117).bind fun x120 =>
  if x120 ≤ v2 then
  (f_X4_add_135 k4 v0 v1 v2 v3 f)
  else
  (ldR f v0 4 6).bind fun x125 =>
  (stA 0 f x125 v2 v5).bind fun f131 =>
  f_X4_add_135 k4 v0 v1 (v2 + (1 : Int32)) v3 f131
noncomputable def f_X4_add_4   : Nat → Nat → Nat → Int32 → Int32 → mmF → Option (Int32 × mmF)
  | 0, _, _, _, _, _ => none
  | n + 1, v0, v1, v2, v3, f =>
    (ldI f v1 0 0).bind fun x6 =>
    if x6 ≤ v3 then
    ((ldR f v0 4 6).bind fun x142 =>
    (ldA 0 f x142 (0 : Int32)).bind fun x146 =>
    some (x146, f))
    else
    (ldR f v1 0 1).bind fun x13 =>
    (ldA 0 f x13 v3).bind fun x17 =>
    if (5 : Int32) < x17 then
    (if x17 = (6 : Int32) then
    ((ldR f v0 4 6).bind fun x65 =>
    (f_X9_at x65 (if (0 : Int32) < (v2 - (1 : Int32)) then (v2 - (1 : Int32)) else (0 : Int32)) f).bind fun q69 =>
    (ckO f v0 4).bind fun _ =>
    (f_X4_find v0 (6 : Int32) q69 (5 : Int32) f).bind fun q73 =>
    f_X4_add_115 (fun a0 a1 a2 a3 a4 => f_X4_add_4 n a0 a1 a2 a3 a4) v0 v1 (if (0 : Int32) < (v2 - (1 : Int32)) then (v2 - (1 : Int32)) else (0 : Int32)) v3 q73.1 q73.2)
    else
    (ldR f v0 4 6).bind fun x93 =>
    (f_X9_at x93 (if (0 : Int32) < (v2 - (2 : Int32)) then (v2 - (2 : Int32)) else (0 : Int32)) f).bind fun q97 =>
    (ldR f v0 4 6).bind fun x101 =>
    (f_X9_at x101 ((if (0 : Int32) < (v2 - (2 : Int32)) then (v2 - (2 : Int32)) else (0 : Int32)) + (1 : Int32)) f).bind fun q107 =>
    (ckO f v0 4).bind fun _ =>
    (f_X4_find v0 x17 q97 q107 f).bind fun q110 =>
    f_X4_add_115 (fun a0 a1 a2 a3 a4 => f_X4_add_4 n a0 a1 a2 a3 a4) v0 v1 (if (0 : Int32) < (v2 - (2 : Int32)) then (v2 - (2 : Int32)) else (0 : Int32)) v3 q110.1 q110.2)
    else
    (ldI f v0 4 5).bind fun x32 =>
    (stF f v0 4 5 (.int (x32 ||| ((1 : Int32) <<< (x17 &&& 31))))).bind fun f40 =>
    f_X4_add_115 (fun a0 a1 a2 a3 a4 => f_X4_add_4 n a0 a1 a2 a3 a4) v0 v1 v2 v3 x17 f40
noncomputable def f_X4_add (v0 : Nat) (v1 : Nat) (f : mmF) : Option (Int32 × mmF) :=
  f_X4_add_4 FU v0 v1 (0 : Int32) (0 : Int32) f
section S_X4_add
variable {p : Program} {l : Launch} {e : Env} {s : State} {m : MethodId} {args : Array Value} {below : List Frame} {meth : Method} {c : Code} {D : mmD} {b0 sz : Nat} {f : mmF}
set_option maxHeartbeats 4000000 in
set_option maxRecDepth 100000 in
theorem w_X4_add_135 (C0 : CX cX4_add 6 (some .int) wsX4_add RX4 p s m args meth c D b0) {k4 : Nat → Nat → Int32 → Int32 → mmF → Option (Int32 × mmF)} {res : Int32 × mmF} (hk4 : ∀ (v0 : Nat) (v1 : Nat) (v2 : Int32) (v3 : Int32) (f : mmF), k4 v0 v1 v2 v3 f = some res → ∀ (H : Heap) (locs : List Loc) (ls : Array Slot), MM vwCl D b0 f sz s H → mS b0 s H locs → lv_has ls 6 [(0, .ref v0), (1, .ref v1), (2, .int v2), (3, .int v3)] → W p l e ({ frames := 1, cells := 0, slots := 0, locals := 24 } : Room) s m args below meth c H locs 0 0 (MQ below (QW D b0 (some (.int res.1)) res.2 sz) args s 0 0 (fun q => b0 ≤ q)) (F0 m 4 ls [])) : ∀ (v0 : Nat) (v1 : Nat) (v2 : Int32) (v3 : Int32) (f : mmF), f_X4_add_135 k4 v0 v1 v2 v3 f = some res → ∀ (H : Heap) (locs : List Loc) (ls : Array Slot), MM vwCl D b0 f sz s H → mS b0 s H locs → lv_has ls 6 [(0, .ref v0), (1, .ref v1), (2, .int v2), (3, .int v3)] → W p l e ({ frames := 1, cells := 0, slots := 0, locals := 24 } : Room) s m args below meth c H locs 0 0 (MQ below (QW D b0 (some (.int res.1)) res.2 sz) args s 0 0 (fun q => b0 ≤ q)) (F0 m 135 ls []) := by
  obtain ⟨hx, hb, hr, hml, hown, hts, hlocks, hK⟩ := id C0
  intro v0 v1 v2 v3 f h H locs ls hM hS hl
  unfold f_X4_add_135 at h
  refine lv_iinc (v := (v3 + (1 : Int32))) (lv' := [(3, .int (v3 + (1 : Int32))), (0, .ref v0), (1, .ref v1), (2, .int v2)]) hx hb dX4_add_135 hl (k := 3) rfl rfl (by decide) rfl (fun ls hl => ?_)
  refine lv_goto (tgt := 4) hx hb dX4_add_138 (by decide) ?_
  exact hk4 _ _ _ _ _ h _ _ _ hM hS (lv_sub hl [1, 2, 3, 0] rfl)
set_option maxHeartbeats 4000000 in
set_option maxRecDepth 100000 in
theorem w_X4_add_115 (C0 : CX cX4_add 6 (some .int) wsX4_add RX4 p s m args meth c D b0) {k4 : Nat → Nat → Int32 → Int32 → mmF → Option (Int32 × mmF)} {res : Int32 × mmF} (hk4 : ∀ (v0 : Nat) (v1 : Nat) (v2 : Int32) (v3 : Int32) (f : mmF), k4 v0 v1 v2 v3 f = some res → ∀ (H : Heap) (locs : List Loc) (ls : Array Slot), MM vwCl D b0 f sz s H → mS b0 s H locs → lv_has ls 6 [(0, .ref v0), (1, .ref v1), (2, .int v2), (3, .int v3)] → W p l e ({ frames := 1, cells := 0, slots := 0, locals := 24 } : Room) s m args below meth c H locs 0 0 (MQ below (QW D b0 (some (.int res.1)) res.2 sz) args s 0 0 (fun q => b0 ≤ q)) (F0 m 4 ls [])) : ∀ (v0 : Nat) (v1 : Nat) (v2 : Int32) (v3 : Int32) (v5 : Int32) (f : mmF), f_X4_add_115 k4 v0 v1 v2 v3 v5 f = some res → ∀ (H : Heap) (locs : List Loc) (ls : Array Slot), MM vwCl D b0 f sz s H → mS b0 s H locs → lv_has ls 6 [(0, .ref v0), (1, .ref v1), (2, .int v2), (3, .int v3), (5, .int v5)] → W p l e ({ frames := 1, cells := 0, slots := 0, locals := 24 } : Room) s m args below meth c H locs 0 0 (MQ below (QW D b0 (some (.int res.1)) res.2 sz) args s 0 0 (fun q => b0 ≤ q)) (F0 m 115 ls []) := by
  obtain ⟨hx, hb, hr, hml, hown, hts, hlocks, hK⟩ := id C0
  intro v0 v1 v2 v3 v5 f h H locs ls hM hS hl
  unfold f_X4_add_115 at h
  refine lv_iload_n hx hb dX4_add_115 rfl (lv_at hl 2 rfl) ?_
  refine lv_aload_n hx hb dX4_add_116 rfl (lv_at hl 0 rfl) ?_
  replace h := o_b h; obtain ⟨x117, h117, h⟩ := h
  refine m_get (C := RX4) (T := TX4) (N := 8) (ci := 4) hx hb hts qi_X4_add_X4 hown hK.1 hM 6 (ldR_F h117) rfl (by decide) (hts _ q_X4_add_1) (fun _ h9 => h9) dX4_add_117 ?_
  replace h := o_b h; obtain ⟨x120, h120, h⟩ := h
  refine m_alen hx hb hK.1 hM h120 dX4_add_120 ?_
  refine lv_icmp_ge (tgt := 135) hx hb dX4_add_121 (by decide) (fun c121 => ?_) (fun c121 => ?_)
  · replace h := o_t c121 h
    exact w_X4_add_135 C0 hk4 _ _ _ _ _ h _ _ _ hM hS (lv_sub hl [0, 1, 2, 3] rfl)
  replace h := o_f c121 h
  refine lv_aload_n hx hb dX4_add_124 rfl (lv_at hl 0 rfl) ?_
  replace h := o_b h; obtain ⟨x125, h125, h⟩ := h
  refine m_get (C := RX4) (T := TX4) (N := 8) (ci := 4) hx hb hts qi_X4_add_X4 hown hK.1 hM 6 (ldR_F h125) rfl (by decide) (hts _ q_X4_add_1) (fun _ h9 => h9) dX4_add_125 ?_
  refine lv_iload_n hx hb dX4_add_128 rfl (lv_at hl 2 rfl) ?_
  refine lv_iload hx hb dX4_add_129 (lv_at hl 4 rfl) ?_
  replace h := o_b h; obtain ⟨f131, h131, h⟩ := h
  refine m_iast hx hb hK.1 hM hS rfl h131 dX4_add_131 (fun H locs hM hS => ?_)
  refine lv_iinc (v := (v2 + (1 : Int32))) (lv' := [(2, .int (v2 + (1 : Int32))), (0, .ref v0), (1, .ref v1), (3, .int v3), (5, .int v5)]) hx hb dX4_add_132 hl (k := 2) rfl rfl (by decide) rfl (fun ls hl => ?_)
  exact w_X4_add_135 C0 hk4 _ _ _ _ _ h _ _ _ hM hS (lv_sub hl [1, 2, 0, 3] rfl)
set_option maxHeartbeats 4000000 in
set_option maxRecDepth 100000 in
theorem w_X4_add_4 (C0 : CX cX4_add 6 (some .int) wsX4_add RX4 p s m args meth c D b0) {res : Int32 × mmF} : ∀ (n : Nat), ∀ (v0 : Nat) (v1 : Nat) (v2 : Int32) (v3 : Int32) (f : mmF), f_X4_add_4 n v0 v1 v2 v3 f = some res → ∀ (H : Heap) (locs : List Loc) (ls : Array Slot), MM vwCl D b0 f sz s H → mS b0 s H locs → lv_has ls 6 [(0, .ref v0), (1, .ref v1), (2, .int v2), (3, .int v3)] → W p l e ({ frames := 1, cells := 0, slots := 0, locals := 24 } : Room) s m args below meth c H locs 0 0 (MQ below (QW D b0 (some (.int res.1)) res.2 sz) args s 0 0 (fun q => b0 ≤ q)) (F0 m 4 ls []) := by
  obtain ⟨hx, hb, hr, hml, hown, hts, hlocks, hK⟩ := id C0
  intro n
  induction n with
  | zero =>
    intro v0 v1 v2 v3 f h
    have h : (none : Option (Int32 × mmF)) = some res := h
    cases h
  | succ n ih =>
    intro v0 v1 v2 v3 f h H locs ls hM hS hl
    rw [f_X4_add_4] at h
    refine lv_iload_n hx hb dX4_add_4 rfl (lv_at hl 3 rfl) ?_
    refine lv_aload_n hx hb dX4_add_5 rfl (lv_at hl 1 rfl) ?_
    replace h := o_b h; obtain ⟨x6, h6, h⟩ := h
    refine m_get (C := RX0) (T := TX0) (N := 2) (ci := 0) hx hb hts qi_X4_add_X0 hown hK.1 hM 0 (ldI_F h6) rfl (by decide) (hts _ q_X4_add_3) (fun _ h9 => h9) dX4_add_6 ?_
    refine lv_icmp_ge (tgt := 141) hx hb dX4_add_9 (by decide) (fun c9 => ?_) (fun c9 => ?_)
    · replace h := o_t c9 h
      refine lv_aload_n hx hb dX4_add_141 rfl (lv_at hl 0 rfl) ?_
      replace h := o_b h; obtain ⟨x142, h142, h⟩ := h
      refine m_get (C := RX4) (T := TX4) (N := 8) (ci := 4) hx hb hts qi_X4_add_X4 hown hK.1 hM 6 (ldR_F h142) rfl (by decide) (hts _ q_X4_add_1) (fun _ h9 => h9) dX4_add_142 ?_
      refine lv_iconst (v := (0 : Int32)) hx hb dX4_add_145 (by decide) ?_
      replace h := o_b h; obtain ⟨x146, h146, h⟩ := h
      refine m_iald hx hb hK.1 hM hS rfl h146 dX4_add_146 ?_
      replace h := Option.some.inj h; subst h
      exact W.iret hx hb hr (fun t ht hW => ⟨rfl, by rw [ht]; exact hM.moved hW.alike, hS.F ht⟩) hS.2.2 dX4_add_147
    replace h := o_f c9 h
    refine lv_aload_n hx hb dX4_add_12 rfl (lv_at hl 1 rfl) ?_
    replace h := o_b h; obtain ⟨x13, h13, h⟩ := h
    refine m_get (C := RX0) (T := TX0) (N := 2) (ci := 0) hx hb hts qi_X4_add_X0 hown hK.1 hM 1 (ldR_F h13) rfl (by decide) (hts _ q_X4_add_4) (fun _ h9 => h9) dX4_add_13 ?_
    refine lv_iload_n hx hb dX4_add_16 rfl (lv_at hl 3 rfl) ?_
    replace h := o_b h; obtain ⟨x17, h17, h⟩ := h
    refine m_iald hx hb hK.1 hM hS rfl h17 dX4_add_17 ?_
    refine lv_istore (lv' := [(4, .int x17), (0, .ref v0), (1, .ref v1), (2, .int v2), (3, .int v3)]) hx hb dX4_add_18 hl (by decide) rfl (fun ls hl => ?_)
    refine lv_iload hx hb dX4_add_20 (lv_at hl 0 rfl) ?_
    refine lv_istore (lv' := [(5, .int x17), (4, .int x17), (0, .ref v0), (1, .ref v1), (2, .int v2), (3, .int v3)]) hx hb dX4_add_22 hl (by decide) rfl (fun ls hl => ?_)
    refine lv_iload hx hb dX4_add_24 (lv_at hl 1 rfl) ?_
    refine lv_iconst (v := (5 : Int32)) hx hb dX4_add_26 (by decide) ?_
    refine lv_icmp_gt (tgt := 46) hx hb dX4_add_27 (by decide) (fun c27 => ?_) (fun c27 => ?_)
    · replace h := o_t c27 h
      refine lv_iload hx hb dX4_add_46 (lv_at hl 1 rfl) ?_
      refine lv_bipush (v := (6 : Int32)) hx hb dX4_add_48 (by decide) ?_
      refine lv_icmp_ne (tgt := 81) hx hb dX4_add_50 (by decide) (fun c50 => ?_) (fun c50 => ?_)
      · replace h := o_f c50 h
        refine lv_iconst (v := (0 : Int32)) hx hb dX4_add_81 (by decide) ?_
        refine lv_iload_n hx hb dX4_add_82 rfl (lv_at hl 4 rfl) ?_
        refine lv_iconst (v := (2 : Int32)) hx hb dX4_add_83 (by decide) ?_
        refine lv_isub hx hb dX4_add_84 ?_
        refine va_mmax hx hb (hml.trans hl.1.symm) hown (hts _ q_X4_add_5) (hts _ q_X4_add_6) (hts _ q_X4_add_7) (hts _ q_X4_add_8) (Nat.le_of_ble_eq_true rfl) (Nat.le_of_ble_eq_true rfl) (Nat.zero_le _) (Nat.zero_le _) dX4_add_85 ?_
        refine lv_istore_n (lv' := [(2, .int (if (0 : Int32) < (v2 - (2 : Int32)) then (v2 - (2 : Int32)) else (0 : Int32))), (5, .int x17), (4, .int x17), (0, .ref v0), (1, .ref v1), (3, .int v3)]) hx hb dX4_add_88 rfl hl (by decide) rfl (fun ls hl => ?_)
        refine lv_aload_n hx hb dX4_add_89 rfl (lv_at hl 3 rfl) ?_
        refine lv_iload hx hb dX4_add_90 (lv_at hl 2 rfl) ?_
        refine lv_aload_n hx hb dX4_add_92 rfl (lv_at hl 3 rfl) ?_
        replace h := o_b h; obtain ⟨x93, h93, h⟩ := h
        refine m_get (C := RX4) (T := TX4) (N := 8) (ci := 4) hx hb hts qi_X4_add_X4 hown hK.1 hM 6 (ldR_F h93) rfl (by decide) (hts _ q_X4_add_1) (fun _ h9 => h9) dX4_add_93 ?_
        refine lv_iload_n hx hb dX4_add_96 rfl (lv_at hl 0 rfl) ?_
        replace h := o_b h; obtain ⟨q97, h97, h⟩ := h
        refine m_call (va_runSN (As := [.ref x93, .int (if (0 : Int32) < (v2 - (2 : Int32)) then (v2 - (2 : Int32)) else (0 : Int32))]) (rest := [.int x17, .ref v0]) ⟨hx, hb, hml, hown, hts⟩ (c_X9_at l D b0 sz h97) ⟨(va_cnB 2 hts gX4_add_X9_at_n45 rfl rfl rfl (hK.2.1 (RX4, 45, yX9_at, "StageTruths") (by decide)) (hts _ q_X4_add_9) (by decide +kernel) ⟨Nat.le_of_ble_eq_true rfl, Nat.le_of_ble_eq_true rfl⟩), (hts _ q_X4_add_10), trivial⟩ ⟨PW.blind, (fun U hU hW => ⟨rfl, PW.call hK hM hS hU hW⟩)⟩ rfl rfl hl.1 rfl (lv_room (Nat.le_of_ble_eq_true rfl)) dX4_add_97 ⟨(Nat.le_refl _), (Nat.le_refl _)⟩) hS (fun H locs hM hS => ?_)
        refine lv_aload_n hx hb dX4_add_100 rfl (lv_at hl 3 rfl) ?_
        replace h := o_b h; obtain ⟨x101, h101, h⟩ := h
        refine m_get (C := RX4) (T := TX4) (N := 8) (ci := 4) hx hb hts qi_X4_add_X4 hown hK.1 hM 6 (ldR_F h101) rfl (by decide) (hts _ q_X4_add_1) (fun _ h9 => h9) dX4_add_101 ?_
        refine lv_iload_n hx hb dX4_add_104 rfl (lv_at hl 0 rfl) ?_
        refine lv_iconst (v := (1 : Int32)) hx hb dX4_add_105 (by decide) ?_
        refine lv_iadd hx hb dX4_add_106 ?_
        replace h := o_b h; obtain ⟨q107, h107, h⟩ := h
        refine m_call (va_runSN (As := [.ref x101, .int ((if (0 : Int32) < (v2 - (2 : Int32)) then (v2 - (2 : Int32)) else (0 : Int32)) + (1 : Int32))]) (rest := [.int q97, .int x17, .ref v0]) ⟨hx, hb, hml, hown, hts⟩ (c_X9_at l D b0 sz h107) ⟨(va_cnB 2 hts gX4_add_X9_at_n45 rfl rfl rfl (hK.2.1 (RX4, 45, yX9_at, "StageTruths") (by decide)) (hts _ q_X4_add_9) (by decide +kernel) ⟨Nat.le_of_ble_eq_true rfl, Nat.le_of_ble_eq_true rfl⟩), (hts _ q_X4_add_10), trivial⟩ ⟨PW.blind, (fun U hU hW => ⟨rfl, PW.call hK hM hS hU hW⟩)⟩ rfl rfl hl.1 rfl (lv_room (Nat.le_of_ble_eq_true rfl)) dX4_add_107 ⟨(Nat.le_refl _), (Nat.le_refl _)⟩) hS (fun H locs hM hS => ?_)
        replace h := o_b h; obtain ⟨_, k110, h⟩ := h
        replace h := o_b h; obtain ⟨q110, h110, h⟩ := h
        refine m_call (va_runV (As := [.int x17, .int q97, .int q107]) (rest := []) ⟨hx, hb, hml, hown, hts⟩ (c_X4_find l D b0 sz h110) (cwV 3 hts gX4_add_X4_find rfl rfl rfl (by decide +kernel) ⟨Nat.le_of_ble_eq_true rfl, Nat.le_of_ble_eq_true rfl⟩) ⟨PW.blind, m_recv (ci := 4) rfl hK hM k110, (fun U hU hW => ⟨rfl, PW.call hK hM hS hU hW⟩)⟩ rfl rfl hl.1 rfl (lv_room (Nat.le_of_ble_eq_true rfl)) dX4_add_110 ⟨(Nat.le_refl _), (Nat.le_refl _)⟩) hS (fun H locs hM hS => ?_)
        refine lv_istore (lv' := [(5, .int q110.1), (2, .int (if (0 : Int32) < (v2 - (2 : Int32)) then (v2 - (2 : Int32)) else (0 : Int32))), (4, .int x17), (0, .ref v0), (1, .ref v1), (3, .int v3)]) hx hb dX4_add_113 hl (by decide) rfl (fun ls hl => ?_)
        exact w_X4_add_115 C0 ih _ _ _ _ _ _ h _ _ _ hM hS (lv_sub hl [3, 4, 1, 5, 0] rfl)
      replace h := o_t c50 h
      refine lv_iconst (v := (0 : Int32)) hx hb dX4_add_53 (by decide) ?_
      refine lv_iload_n hx hb dX4_add_54 rfl (lv_at hl 4 rfl) ?_
      refine lv_iconst (v := (1 : Int32)) hx hb dX4_add_55 (by decide) ?_
      refine lv_isub hx hb dX4_add_56 ?_
      refine va_mmax hx hb (hml.trans hl.1.symm) hown (hts _ q_X4_add_5) (hts _ q_X4_add_6) (hts _ q_X4_add_7) (hts _ q_X4_add_8) (Nat.le_of_ble_eq_true rfl) (Nat.le_of_ble_eq_true rfl) (Nat.zero_le _) (Nat.zero_le _) dX4_add_57 ?_
      refine lv_istore_n (lv' := [(2, .int (if (0 : Int32) < (v2 - (1 : Int32)) then (v2 - (1 : Int32)) else (0 : Int32))), (5, .int x17), (4, .int x17), (0, .ref v0), (1, .ref v1), (3, .int v3)]) hx hb dX4_add_60 rfl hl (by decide) rfl (fun ls hl => ?_)
      refine lv_aload_n hx hb dX4_add_61 rfl (lv_at hl 3 rfl) ?_
      refine lv_bipush (v := (6 : Int32)) hx hb dX4_add_62 (by decide) ?_
      refine lv_aload_n hx hb dX4_add_64 rfl (lv_at hl 3 rfl) ?_
      replace h := o_b h; obtain ⟨x65, h65, h⟩ := h
      refine m_get (C := RX4) (T := TX4) (N := 8) (ci := 4) hx hb hts qi_X4_add_X4 hown hK.1 hM 6 (ldR_F h65) rfl (by decide) (hts _ q_X4_add_1) (fun _ h9 => h9) dX4_add_65 ?_
      refine lv_iload_n hx hb dX4_add_68 rfl (lv_at hl 0 rfl) ?_
      replace h := o_b h; obtain ⟨q69, h69, h⟩ := h
      refine m_call (va_runSN (As := [.ref x65, .int (if (0 : Int32) < (v2 - (1 : Int32)) then (v2 - (1 : Int32)) else (0 : Int32))]) (rest := [.int (6 : Int32), .ref v0]) ⟨hx, hb, hml, hown, hts⟩ (c_X9_at l D b0 sz h69) ⟨(va_cnB 2 hts gX4_add_X9_at_n45 rfl rfl rfl (hK.2.1 (RX4, 45, yX9_at, "StageTruths") (by decide)) (hts _ q_X4_add_9) (by decide +kernel) ⟨Nat.le_of_ble_eq_true rfl, Nat.le_of_ble_eq_true rfl⟩), (hts _ q_X4_add_10), trivial⟩ ⟨PW.blind, (fun U hU hW => ⟨rfl, PW.call hK hM hS hU hW⟩)⟩ rfl rfl hl.1 rfl (lv_room (Nat.le_of_ble_eq_true rfl)) dX4_add_69 ⟨(Nat.le_refl _), (Nat.le_refl _)⟩) hS (fun H locs hM hS => ?_)
      refine lv_iconst (v := (5 : Int32)) hx hb dX4_add_72 (by decide) ?_
      replace h := o_b h; obtain ⟨_, k73, h⟩ := h
      replace h := o_b h; obtain ⟨q73, h73, h⟩ := h
      refine m_call (va_runV (As := [.int (6 : Int32), .int q69, .int (5 : Int32)]) (rest := []) ⟨hx, hb, hml, hown, hts⟩ (c_X4_find l D b0 sz h73) (cwV 3 hts gX4_add_X4_find rfl rfl rfl (by decide +kernel) ⟨Nat.le_of_ble_eq_true rfl, Nat.le_of_ble_eq_true rfl⟩) ⟨PW.blind, m_recv (ci := 4) rfl hK hM k73, (fun U hU hW => ⟨rfl, PW.call hK hM hS hU hW⟩)⟩ rfl rfl hl.1 rfl (lv_room (Nat.le_of_ble_eq_true rfl)) dX4_add_73 ⟨(Nat.le_refl _), (Nat.le_refl _)⟩) hS (fun H locs hM hS => ?_)
      refine lv_istore (lv' := [(5, .int q73.1), (2, .int (if (0 : Int32) < (v2 - (1 : Int32)) then (v2 - (1 : Int32)) else (0 : Int32))), (4, .int x17), (0, .ref v0), (1, .ref v1), (3, .int v3)]) hx hb dX4_add_76 hl (by decide) rfl (fun ls hl => ?_)
      refine lv_goto (tgt := 115) hx hb dX4_add_78 (by decide) ?_
      exact w_X4_add_115 C0 ih _ _ _ _ _ _ h _ _ _ hM hS (lv_sub hl [3, 4, 1, 5, 0] rfl)
    replace h := o_f c27 h
    refine lv_aload_n hx hb dX4_add_30 rfl (lv_at hl 2 rfl) ?_
    refine lv_dup hx hb dX4_add_31 rfl ?_
    replace h := o_b h; obtain ⟨x32, h32, h⟩ := h
    refine m_get (C := RX4) (T := TX4) (N := 8) (ci := 4) hx hb hts qi_X4_add_X4 hown hK.1 hM 5 (ldI_F h32) rfl (by decide) (hts _ q_X4_add_11) (fun _ h9 => h9) dX4_add_32 ?_
    refine lv_iconst (v := (1 : Int32)) hx hb dX4_add_35 (by decide) ?_
    refine lv_iload hx hb dX4_add_36 (lv_at hl 1 rfl) ?_
    refine lv_ishl hx hb dX4_add_38 ?_
    refine lv_ior hx hb dX4_add_39 ?_
    replace h := o_b h; obtain ⟨f40, h40, h⟩ := h
    refine m_put (ty := .int) (C := RX4) (T := TX4) (N := 8) (ci := 4) hx hb hts qi_X4_add_X4 tyX4 tyX4_ok nmX4 hown hK.1 hM hS 5 h40 rfl (by decide) (hts _ q_X4_add_11) (fun _ h9 => h9) rfl (by decide +kernel) rfl rfl dX4_add_40 (fun H locs hM hS => ?_)
    refine lv_goto (tgt := 115) hx hb dX4_add_43 (by decide) ?_
    exact w_X4_add_115 C0 ih _ _ _ _ _ _ h _ _ _ hM hS (lv_sub hl [2, 3, 4, 5, 0] rfl)
set_option maxHeartbeats 4000000 in
set_option maxRecDepth 100000 in
theorem w_X4_add (C0 : CX cX4_add 6 (some .int) wsX4_add RX4 p s m args meth c D b0) {v0 : Nat} {v1 : Nat} {res : Int32 × mmF} (h : f_X4_add v0 v1 f = some res) : ∀ (H : Heap) (locs : List Loc) (ls : Array Slot), MM vwCl D b0 f sz s H → mS b0 s H locs → lv_has ls 6 [(0, .ref v0), (1, .ref v1)] → W p l e ({ frames := 1, cells := 0, slots := 0, locals := 24 } : Room) s m args below meth c H locs 0 0 (MQ below (QW D b0 (some (.int res.1)) res.2 sz) args s 0 0 (fun q => b0 ≤ q)) (F0 m 0 ls []) := by
  obtain ⟨hx, hb, hr, hml, hown, hts, hlocks, hK⟩ := id C0
  intro H locs ls hM hS hl
  unfold f_X4_add at h
  refine lv_iconst (v := (0 : Int32)) hx hb dX4_add_0 (by decide) ?_
  refine lv_istore_n (lv' := [(2, .int (0 : Int32)), (0, .ref v0), (1, .ref v1)]) hx hb dX4_add_1 rfl hl (by decide) rfl (fun ls hl => ?_)
  refine lv_iconst (v := (0 : Int32)) hx hb dX4_add_2 (by decide) ?_
  refine lv_istore_n (lv' := [(3, .int (0 : Int32)), (2, .int (0 : Int32)), (0, .ref v0), (1, .ref v1)]) hx hb dX4_add_3 rfl hl (by decide) rfl (fun ls hl => ?_)
  exact w_X4_add_4 C0 FU _ _ _ _ _ h _ _ _ hM hS (lv_sub hl [2, 3, 1, 0] rfl)
set_option maxHeartbeats 4000000 in
set_option maxRecDepth 100000 in
theorem c_X4_add (l : Launch) (D : mmD) (b0 sz : Nat) {v0 : Nat} {v1 : Nat} {f : mmF} {res : Int32 × mmF} (h : f_X4_add v0 v1 f = some res) : Met l yX4_add wsX4_add ({ frames := 1, cells := 0, slots := 0, locals := 24 } : Room) (va_Pc [.ref v0, .ref v1] (PW D b0 f sz)) (QW D b0 (some (.int res.1)) res.2 sz) 0 0 (fun q => b0 ≤ q) := by
  refine Met.ofW (cc := cX4_add) (maxL := 6) (ret := (some .int)) (by decide) rfl ?_
  intro p e s m args below meth c s₁ B hml hv
  obtain ⟨rfl, hM, hK⟩ := hv
  have hl := lv_entry ([.ref v0, .ref v1]) (n := 6) (Nat.le_of_ble_eq_true rfl)
  rw [lg_entry_eq]
  generalize (lg_sl ([.ref v0, .ref v1]) ++ List.replicate (6 - (lg_sl ([.ref v0, .ref v1])).length) Slot.unset).toArray = ls at hl ⊢
  have hl : lv_has ls 6 [(0, .ref v0), (1, .ref v1)] := hl
  exact w_X4_add ⟨B.exec, B.bytes, B.returns, hml, findClass_of_methodNamed B.named, atoms_spec (ws := wsX4_add) B.pre, B.notSynchronized, hK⟩ h s.heap [] ls hM va_S.rf hl
end S_X4_add
/-! X4_take -/
set_option maxRecDepth 20000 in
theorem qi_X4_take_X4 : ∀ w ∈ u_ws RX4 TX4 8, w ∈ wsX4_take := by decide +kernel
set_option maxRecDepth 20000 in
theorem q_X4_take_1 : Cond.fieldLink RX4 25 "StageTruths$Parts" "wholes" "[I" ∈ wsX4_take := by decide +kernel
set_option maxRecDepth 20000 in
theorem q_X4_take_2 : Cond.initialized RX9 ∈ wsX4_take := by decide +kernel
set_option maxRecDepth 20000 in
theorem q_X4_take_3 : Cond.static yX9_has ∈ wsX4_take := by decide +kernel
set_option maxRecDepth 20000 in
theorem q_X4_take_4 : Cond.fieldLink RX4 11 "StageTruths$Parts" "size" "I" ∈ wsX4_take := by decide +kernel
set_option maxRecDepth 20000 in
theorem q_X4_take_5 : Cond.fieldLink RX4 28 "StageTruths$Parts" "usedLeaves" "I" ∈ wsX4_take := by decide +kernel
noncomputable def f_X4_take_57 (k13 : Nat → Nat → Int32 → Int32 → mmF → Option (mmF))  (v0 : Nat) (v1 : Nat) (v2 : Int32) (v3 : Int32) (t0 : Nat) (t1 : Int32) (t2 : Int32) (f : mmF) : Option (mmF) :=
  (stA 0 f t0 t1 t2).bind fun f57 =>
  k13 v0 v1 v2 (v3 + (1 : Int32)) f57
noncomputable def f_X4_take_56 (k13 : Nat → Nat → Int32 → Int32 → mmF → Option (mmF))  (v0 : Nat) (v1 : Nat) (v2 : Int32) (v3 : Int32) (t0 : Nat) (t1 : Int32) (f : mmF) : Option (mmF) :=
  f_X4_take_57 k13 v0 v1 v2 v3 t0 t1 (4 : Int32) f
noncomputable def f_X4_take_13   : Nat → Nat → Nat → Int32 → Int32 → mmF → Option (mmF)
  | 0, _, _, _, _, _ => none
  | n + 1, v0, v1, v2, v3, f =>
    if (5 : Int32) ≤ v3 then
    (some (f))
    else
    (lenA f v1).bind fun x20 =>
    if x20 ≤ v3 then
    (some (f))
    else
    (ldQ 3 f v1 v3).bind fun x26 =>
    (ldR f v0 4 4).bind fun x30 =>
    qc x26 (f_X4_take_56 (fun a0 a1 a2 a3 a4 => f_X4_take_13 n a0 a1 a2 a3 a4) v0 v1 v2 v3 x30 v3 f) (fun r36 =>
    (f_X9_has v2 v3 f).bind fun q41 =>
    if q41 = 0 then
    (f_X4_take_56 (fun a0 a1 a2 a3 a4 => f_X4_take_13 n a0 a1 a2 a3 a4) v0 v1 v2 v3 x30 v3 f)
    else
    (ckO f v0 4).bind fun _ =>
    (f_X4_add v0 r36 f).bind fun q50 =>
    f_X4_take_57 (fun a0 a1 a2 a3 a4 => f_X4_take_13 n a0 a1 a2 a3 a4) v0 v1 v2 v3 x30 v3 q50.1 q50.2)
noncomputable def f_X4_take (v0 : Nat) (v1 : Nat) (v2 : Int32) (f : mmF) : Option (mmF) :=
  (stF f v0 4 0 (.int (6 : Int32))).bind fun f3 =>
  (stF f3 v0 4 5 (.int (0 : Int32))).bind fun f8 =>
  f_X4_take_13 FU v0 v1 v2 (0 : Int32) f8
section S_X4_take
variable {p : Program} {l : Launch} {e : Env} {s : State} {m : MethodId} {args : Array Value} {below : List Frame} {meth : Method} {c : Code} {D : mmD} {b0 sz : Nat} {f : mmF}
set_option maxHeartbeats 4000000 in
set_option maxRecDepth 100000 in
theorem w_X4_take_57 (C0 : CX cX4_take 5 none wsX4_take RX4 p s m args meth c D b0) {k13 : Nat → Nat → Int32 → Int32 → mmF → Option (mmF)} {res : mmF} (hk13 : ∀ (v0 : Nat) (v1 : Nat) (v2 : Int32) (v3 : Int32) (f : mmF), k13 v0 v1 v2 v3 f = some res → ∀ (H : Heap) (locs : List Loc) (ls : Array Slot), MM vwCl D b0 f sz s H → mS b0 s H locs → lv_has ls 5 [(0, .ref v0), (1, .ref v1), (2, .int v2), (3, .int v3)] → W p l e ({ frames := 2, cells := 0, slots := 0, locals := 49 } : Room) s m args below meth c H locs 0 0 (MQ below (QW D b0 none res sz) args s 0 0 (fun q => b0 ≤ q)) (F0 m 13 ls [])) : ∀ (v0 : Nat) (v1 : Nat) (v2 : Int32) (v3 : Int32) (t0 : Nat) (t1 : Int32) (t2 : Int32) (f : mmF), f_X4_take_57 k13 v0 v1 v2 v3 t0 t1 t2 f = some res → ∀ (H : Heap) (locs : List Loc) (ls : Array Slot), MM vwCl D b0 f sz s H → mS b0 s H locs → lv_has ls 5 [(0, .ref v0), (1, .ref v1), (2, .int v2), (3, .int v3)] → W p l e ({ frames := 2, cells := 0, slots := 0, locals := 49 } : Room) s m args below meth c H locs 0 0 (MQ below (QW D b0 none res sz) args s 0 0 (fun q => b0 ≤ q)) (F0 m 57 ls [.int t2, .int t1, .ref t0]) := by
  obtain ⟨hx, hb, hr, hml, hown, hts, hlocks, hK⟩ := id C0
  intro v0 v1 v2 v3 t0 t1 t2 f h H locs ls hM hS hl
  unfold f_X4_take_57 at h
  replace h := o_b h; obtain ⟨f57, h57, h⟩ := h
  refine m_iast hx hb hK.1 hM hS rfl h57 dX4_take_57 (fun H locs hM hS => ?_)
  refine lv_iinc (v := (v3 + (1 : Int32))) (lv' := [(3, .int (v3 + (1 : Int32))), (0, .ref v0), (1, .ref v1), (2, .int v2)]) hx hb dX4_take_58 hl (k := 3) rfl rfl (by decide) rfl (fun ls hl => ?_)
  refine lv_goto (tgt := 13) hx hb dX4_take_61 (by decide) ?_
  exact hk13 _ _ _ _ _ h _ _ _ hM hS (lv_sub hl [1, 2, 3, 0] rfl)
set_option maxHeartbeats 4000000 in
set_option maxRecDepth 100000 in
theorem w_X4_take_56 (C0 : CX cX4_take 5 none wsX4_take RX4 p s m args meth c D b0) {k13 : Nat → Nat → Int32 → Int32 → mmF → Option (mmF)} {res : mmF} (hk13 : ∀ (v0 : Nat) (v1 : Nat) (v2 : Int32) (v3 : Int32) (f : mmF), k13 v0 v1 v2 v3 f = some res → ∀ (H : Heap) (locs : List Loc) (ls : Array Slot), MM vwCl D b0 f sz s H → mS b0 s H locs → lv_has ls 5 [(0, .ref v0), (1, .ref v1), (2, .int v2), (3, .int v3)] → W p l e ({ frames := 2, cells := 0, slots := 0, locals := 49 } : Room) s m args below meth c H locs 0 0 (MQ below (QW D b0 none res sz) args s 0 0 (fun q => b0 ≤ q)) (F0 m 13 ls [])) : ∀ (v0 : Nat) (v1 : Nat) (v2 : Int32) (v3 : Int32) (t0 : Nat) (t1 : Int32) (f : mmF), f_X4_take_56 k13 v0 v1 v2 v3 t0 t1 f = some res → ∀ (H : Heap) (locs : List Loc) (ls : Array Slot), MM vwCl D b0 f sz s H → mS b0 s H locs → lv_has ls 5 [(0, .ref v0), (1, .ref v1), (2, .int v2), (3, .int v3)] → W p l e ({ frames := 2, cells := 0, slots := 0, locals := 49 } : Room) s m args below meth c H locs 0 0 (MQ below (QW D b0 none res sz) args s 0 0 (fun q => b0 ≤ q)) (F0 m 56 ls [.int t1, .ref t0]) := by
  obtain ⟨hx, hb, hr, hml, hown, hts, hlocks, hK⟩ := id C0
  intro v0 v1 v2 v3 t0 t1 f h H locs ls hM hS hl
  unfold f_X4_take_56 at h
  refine lv_iconst (v := (4 : Int32)) hx hb dX4_take_56 (by decide) ?_
  exact w_X4_take_57 C0 hk13 _ _ _ _ _ _ _ _ h _ _ _ hM hS (lv_sub hl [0, 1, 2, 3] rfl)
set_option maxHeartbeats 4000000 in
set_option maxRecDepth 100000 in
theorem w_X4_take_13 (C0 : CX cX4_take 5 none wsX4_take RX4 p s m args meth c D b0) {res : mmF} : ∀ (n : Nat), ∀ (v0 : Nat) (v1 : Nat) (v2 : Int32) (v3 : Int32) (f : mmF), f_X4_take_13 n v0 v1 v2 v3 f = some res → ∀ (H : Heap) (locs : List Loc) (ls : Array Slot), MM vwCl D b0 f sz s H → mS b0 s H locs → lv_has ls 5 [(0, .ref v0), (1, .ref v1), (2, .int v2), (3, .int v3)] → W p l e ({ frames := 2, cells := 0, slots := 0, locals := 49 } : Room) s m args below meth c H locs 0 0 (MQ below (QW D b0 none res sz) args s 0 0 (fun q => b0 ≤ q)) (F0 m 13 ls []) := by
  obtain ⟨hx, hb, hr, hml, hown, hts, hlocks, hK⟩ := id C0
  intro n
  induction n with
  | zero =>
    intro v0 v1 v2 v3 f h
    have h : (none : Option (mmF)) = some res := h
    cases h
  | succ n ih =>
    intro v0 v1 v2 v3 f h H locs ls hM hS hl
    rw [f_X4_take_13] at h
    refine lv_iload_n hx hb dX4_take_13 rfl (lv_at hl 3 rfl) ?_
    refine lv_iconst (v := (5 : Int32)) hx hb dX4_take_14 (by decide) ?_
    refine lv_icmp_ge (tgt := 64) hx hb dX4_take_15 (by decide) (fun c15 => ?_) (fun c15 => ?_)
    · replace h := o_t c15 h
      replace h := Option.some.inj h; subst h
      exact W.vret hx hb hr (fun t ht hW => ⟨rfl, by rw [ht]; exact hM.moved hW.alike, hS.F ht⟩) hS.2.2 dX4_take_64
    replace h := o_f c15 h
    refine lv_iload_n hx hb dX4_take_18 rfl (lv_at hl 3 rfl) ?_
    refine lv_aload_n hx hb dX4_take_19 rfl (lv_at hl 1 rfl) ?_
    replace h := o_b h; obtain ⟨x20, h20, h⟩ := h
    refine m_alen hx hb hK.1 hM h20 dX4_take_20 ?_
    refine lv_icmp_ge (tgt := 64) hx hb dX4_take_21 (by decide) (fun c21 => ?_) (fun c21 => ?_)
    · replace h := o_t c21 h
      replace h := Option.some.inj h; subst h
      exact W.vret hx hb hr (fun t ht hW => ⟨rfl, by rw [ht]; exact hM.moved hW.alike, hS.F ht⟩) hS.2.2 dX4_take_64
    replace h := o_f c21 h
    refine lv_aload_n hx hb dX4_take_24 rfl (lv_at hl 1 rfl) ?_
    refine lv_iload_n hx hb dX4_take_25 rfl (lv_at hl 3 rfl) ?_
    replace h := o_b h; obtain ⟨x26, h26, h⟩ := h
    refine m_aldq 3 (by decide) rfl hx hb hK.1 hM h26 dX4_take_26 ?_
    refine m_astore (lv' := [(4, va_rf x26), (0, .ref v0), (1, .ref v1), (2, .int v2), (3, .int v3)]) hx hb dX4_take_27 hl (by decide) rfl (fun ls hl => ?_)
    refine lv_aload_n hx hb dX4_take_29 rfl (lv_at hl 1 rfl) ?_
    replace h := o_b h; obtain ⟨x30, h30, h⟩ := h
    refine m_get (C := RX4) (T := TX4) (N := 8) (ci := 4) hx hb hts qi_X4_take_X4 hown hK.1 hM 4 (ldR_F h30) rfl (by decide) (hts _ q_X4_take_1) (fun _ h9 => h9) dX4_take_30 ?_
    refine lv_iload_n hx hb dX4_take_33 rfl (lv_at hl 4 rfl) ?_
    refine m_aload hx hb dX4_take_34 (lv_at hl 0 rfl) ?_
    rcases x26 with _ | r36
    · replace h := qc_n h
      refine lv_ifnullN (tgt := 56) hx hb dX4_take_36 (by decide) ?_
      exact w_X4_take_56 C0 ih _ _ _ _ _ _ _ h _ _ _ hM hS (lv_sub hl [1, 2, 3, 4] rfl)
    replace h := qc_s h
    refine lv_ifnull hx hb dX4_take_36 ?_
    refine lv_iload_n hx hb dX4_take_39 rfl (lv_at hl 3 rfl) ?_
    refine lv_iload_n hx hb dX4_take_40 rfl (lv_at hl 4 rfl) ?_
    replace h := o_b h; obtain ⟨q41, h41, h⟩ := h
    refine m_call (va_runSN (As := [.int v2, .int v3]) (rest := [.int v3, .ref x30]) ⟨hx, hb, hml, hown, hts⟩ (c_X9_has l D b0 sz h41) ⟨(va_cnB 2 hts gX4_take_X9_has_n37 rfl rfl rfl (hK.2.1 (RX4, 37, yX9_has, "StageTruths") (by decide)) (hts _ q_X4_take_2) (by decide +kernel) ⟨Nat.le_of_ble_eq_true rfl, Nat.le_of_ble_eq_true rfl⟩), (hts _ q_X4_take_3), trivial⟩ ⟨PW.blind, (fun U hU hW => ⟨rfl, PW.call hK hM hS hU hW⟩)⟩ rfl rfl hl.1 rfl (lv_room (Nat.le_of_ble_eq_true rfl)) dX4_take_41 ⟨(Nat.le_refl _), (Nat.le_refl _)⟩) hS (fun H locs hM hS => ?_)
    refine lv_if_eq (tgt := 56) hx hb dX4_take_44 (by decide) (fun c44 => ?_) (fun c44 => ?_)
    · replace h := o_t c44 h
      exact w_X4_take_56 C0 ih _ _ _ _ _ _ _ h _ _ _ hM hS (lv_sub hl [1, 2, 3, 4] rfl)
    replace h := o_f c44 h
    refine lv_aload_n hx hb dX4_take_47 rfl (lv_at hl 1 rfl) ?_
    refine lv_aload hx hb dX4_take_48 (lv_at hl 0 rfl) ?_
    replace h := o_b h; obtain ⟨_, k50, h⟩ := h
    replace h := o_b h; obtain ⟨q50, h50, h⟩ := h
    refine m_call (va_runV (As := [.ref r36]) (rest := [.int v3, .ref x30]) ⟨hx, hb, hml, hown, hts⟩ (c_X4_add l D b0 sz h50) (cwV 1 hts gX4_take_X4_add rfl rfl rfl (by decide +kernel) ⟨Nat.le_of_ble_eq_true rfl, Nat.le_of_ble_eq_true rfl⟩) ⟨PW.blind, m_recv (ci := 4) rfl hK hM k50, (fun U hU hW => ⟨rfl, PW.call hK hM hS hU hW⟩)⟩ rfl rfl hl.1 rfl (lv_room (Nat.le_of_ble_eq_true rfl)) dX4_take_50 ⟨(Nat.le_refl _), (Nat.le_refl _)⟩) hS (fun H locs hM hS => ?_)
    refine lv_goto (tgt := 57) hx hb dX4_take_53 (by decide) ?_
    exact w_X4_take_57 C0 ih _ _ _ _ _ _ _ _ h _ _ _ hM hS (lv_sub hl [1, 2, 3, 4] rfl)
set_option maxHeartbeats 4000000 in
set_option maxRecDepth 100000 in
theorem w_X4_take (C0 : CX cX4_take 5 none wsX4_take RX4 p s m args meth c D b0) {v0 : Nat} {v1 : Nat} {v2 : Int32} {res : mmF} (h : f_X4_take v0 v1 v2 f = some res) : ∀ (H : Heap) (locs : List Loc) (ls : Array Slot), MM vwCl D b0 f sz s H → mS b0 s H locs → lv_has ls 5 [(0, .ref v0), (1, .ref v1), (2, .int v2)] → W p l e ({ frames := 2, cells := 0, slots := 0, locals := 49 } : Room) s m args below meth c H locs 0 0 (MQ below (QW D b0 none res sz) args s 0 0 (fun q => b0 ≤ q)) (F0 m 0 ls []) := by
  obtain ⟨hx, hb, hr, hml, hown, hts, hlocks, hK⟩ := id C0
  intro H locs ls hM hS hl
  unfold f_X4_take at h
  refine lv_aload_n hx hb dX4_take_0 rfl (lv_at hl 0 rfl) ?_
  refine lv_bipush (v := (6 : Int32)) hx hb dX4_take_1 (by decide) ?_
  replace h := o_b h; obtain ⟨f3, h3, h⟩ := h
  refine m_put (ty := .int) (C := RX4) (T := TX4) (N := 8) (ci := 4) hx hb hts qi_X4_take_X4 tyX4 tyX4_ok nmX4 hown hK.1 hM hS 0 h3 rfl (by decide) (hts _ q_X4_take_4) (fun _ h9 => h9) rfl (by decide +kernel) rfl rfl dX4_take_3 (fun H locs hM hS => ?_)
  refine lv_aload_n hx hb dX4_take_6 rfl (lv_at hl 0 rfl) ?_
  refine lv_iconst (v := (0 : Int32)) hx hb dX4_take_7 (by decide) ?_
  replace h := o_b h; obtain ⟨f8, h8, h⟩ := h
  refine m_put (ty := .int) (C := RX4) (T := TX4) (N := 8) (ci := 4) hx hb hts qi_X4_take_X4 tyX4 tyX4_ok nmX4 hown hK.1 hM hS 5 h8 rfl (by decide) (hts _ q_X4_take_5) (fun _ h9 => h9) rfl (by decide +kernel) rfl rfl dX4_take_8 (fun H locs hM hS => ?_)
  refine lv_iconst (v := (0 : Int32)) hx hb dX4_take_11 (by decide) ?_
  refine lv_istore_n (lv' := [(3, .int (0 : Int32)), (0, .ref v0), (1, .ref v1), (2, .int v2)]) hx hb dX4_take_12 rfl hl (by decide) rfl (fun ls hl => ?_)
  exact w_X4_take_13 C0 FU _ _ _ _ _ h _ _ _ hM hS (lv_sub hl [1, 2, 3, 0] rfl)
set_option maxHeartbeats 4000000 in
set_option maxRecDepth 100000 in
theorem c_X4_take (l : Launch) (D : mmD) (b0 sz : Nat) {v0 : Nat} {v1 : Nat} {v2 : Int32} {f : mmF} {res : mmF} (h : f_X4_take v0 v1 v2 f = some res) : Met l yX4_take wsX4_take ({ frames := 2, cells := 0, slots := 0, locals := 49 } : Room) (va_Pc [.ref v0, .ref v1, .int v2] (PW D b0 f sz)) (QW D b0 none res sz) 0 0 (fun q => b0 ≤ q) := by
  refine Met.ofW (cc := cX4_take) (maxL := 5) (ret := none) (by decide) rfl ?_
  intro p e s m args below meth c s₁ B hml hv
  obtain ⟨rfl, hM, hK⟩ := hv
  have hl := lv_entry ([.ref v0, .ref v1, .int v2]) (n := 5) (Nat.le_of_ble_eq_true rfl)
  rw [lg_entry_eq]
  generalize (lg_sl ([.ref v0, .ref v1, .int v2]) ++ List.replicate (5 - (lg_sl ([.ref v0, .ref v1, .int v2])).length) Slot.unset).toArray = ls at hl ⊢
  have hl : lv_has ls 5 [(0, .ref v0), (1, .ref v1), (2, .int v2)] := hl
  exact w_X4_take ⟨B.exec, B.bytes, B.returns, hml, findClass_of_methodNamed B.named, atoms_spec (ws := wsX4_take) B.pre, B.notSynchronized, hK⟩ h s.heap [] ls hM va_S.rf hl
end S_X4_take
/-! X4_whole -/
set_option maxRecDepth 20000 in
theorem qi_X4_whole_X4 : ∀ w ∈ u_ws RX4 TX4 8, w ∈ wsX4_whole := by decide +kernel
set_option maxRecDepth 20000 in
theorem q_X4_whole_1 : Cond.fieldLink RX4 25 "StageTruths$Parts" "wholes" "[I" ∈ wsX4_whole := by decide +kernel
set_option maxRecDepth 20000 in
theorem q_X4_whole_2 : Cond.initialized RX9 ∈ wsX4_whole := by decide +kernel
set_option maxRecDepth 20000 in
theorem q_X4_whole_3 : Cond.static yX9_at ∈ wsX4_whole := by decide +kernel
noncomputable def f_X4_whole (v0 : Nat) (v1 : Int32) (f : mmF) : Option (Int32) :=
  (ldR f v0 4 4).bind fun x1 =>
  (f_X9_at x1 v1 f).bind fun q5 =>
  some (q5)
section S_X4_whole
variable {p : Program} {l : Launch} {e : Env} {s : State} {m : MethodId} {args : Array Value} {below : List Frame} {meth : Method} {c : Code} {D : mmD} {b0 sz : Nat} {f : mmF}
set_option maxHeartbeats 4000000 in
set_option maxRecDepth 100000 in
theorem w_X4_whole (C0 : CX cX4_whole 2 (some .int) wsX4_whole RX4 p s m args meth c D b0) {v0 : Nat} {v1 : Int32} {res : Int32} (h : f_X4_whole v0 v1 f = some res) : ∀ (H : Heap) (locs : List Loc) (ls : Array Slot), MM vwCl D b0 f sz s H → mS b0 s H locs → lv_has ls 2 [(0, .ref v0), (1, .int v1)] → W p l e ({ frames := 1, cells := 0, slots := 0, locals := 21 } : Room) s m args below meth c H locs 0 0 (MQ below (QW D b0 (some (.int res)) f sz) args s 0 0 (fun q => b0 ≤ q)) (F0 m 0 ls []) := by
  obtain ⟨hx, hb, hr, hml, hown, hts, hlocks, hK⟩ := id C0
  intro H locs ls hM hS hl
  unfold f_X4_whole at h
  refine lv_aload_n hx hb dX4_whole_0 rfl (lv_at hl 0 rfl) ?_
  replace h := o_b h; obtain ⟨x1, h1, h⟩ := h
  refine m_get (C := RX4) (T := TX4) (N := 8) (ci := 4) hx hb hts qi_X4_whole_X4 hown hK.1 hM 4 (ldR_F h1) rfl (by decide) (hts _ q_X4_whole_1) (fun _ h9 => h9) dX4_whole_1 ?_
  refine lv_iload_n hx hb dX4_whole_4 rfl (lv_at hl 1 rfl) ?_
  replace h := o_b h; obtain ⟨q5, h5, h⟩ := h
  refine m_call (va_runSN (As := [.ref x1, .int v1]) (rest := []) ⟨hx, hb, hml, hown, hts⟩ (c_X9_at l D b0 sz h5) ⟨(va_cnB 2 hts gX4_whole_X9_at_n45 rfl rfl rfl (hK.2.1 (RX4, 45, yX9_at, "StageTruths") (by decide)) (hts _ q_X4_whole_2) (by decide +kernel) ⟨Nat.le_of_ble_eq_true rfl, Nat.le_of_ble_eq_true rfl⟩), (hts _ q_X4_whole_3), trivial⟩ ⟨PW.blind, (fun U hU hW => ⟨rfl, PW.call hK hM hS hU hW⟩)⟩ rfl rfl hl.1 rfl (lv_room (Nat.le_of_ble_eq_true rfl)) dX4_whole_5 ⟨(Nat.le_refl _), (Nat.le_refl _)⟩) hS (fun H locs hM hS => ?_)
  replace h := Option.some.inj h; subst h
  exact W.iret hx hb hr (fun t ht hW => ⟨rfl, by rw [ht]; exact hM.moved hW.alike, hS.F ht⟩) hS.2.2 dX4_whole_8
set_option maxHeartbeats 4000000 in
set_option maxRecDepth 100000 in
theorem c_X4_whole (l : Launch) (D : mmD) (b0 sz : Nat) {v0 : Nat} {v1 : Int32} {f : mmF} {res : Int32} (h : f_X4_whole v0 v1 f = some res) : Met l yX4_whole wsX4_whole ({ frames := 1, cells := 0, slots := 0, locals := 21 } : Room) (va_Pc [.ref v0, .int v1] (PW D b0 f sz)) (QW D b0 (some (.int res)) f sz) 0 0 (fun q => b0 ≤ q) := by
  refine Met.ofW (cc := cX4_whole) (maxL := 2) (ret := (some .int)) (by decide) rfl ?_
  intro p e s m args below meth c s₁ B hml hv
  obtain ⟨rfl, hM, hK⟩ := hv
  have hl := lv_entry ([.ref v0, .int v1]) (n := 2) (Nat.le_of_ble_eq_true rfl)
  rw [lg_entry_eq]
  generalize (lg_sl ([.ref v0, .int v1]) ++ List.replicate (2 - (lg_sl ([.ref v0, .int v1])).length) Slot.unset).toArray = ls at hl ⊢
  have hl : lv_has ls 2 [(0, .ref v0), (1, .int v1)] := hl
  exact w_X4_whole ⟨B.exec, B.bytes, B.returns, hml, findClass_of_methodNamed B.named, atoms_spec (ws := wsX4_whole) B.pre, B.notSynchronized, hK⟩ h s.heap [] ls hM va_S.rf hl
end S_X4_whole
/-! J6_bitCount_0f7a4 -/
set_option maxRecDepth 20000 in
theorem q_J6_bitCount_0f7a4_0 : Cond.constant RJ6 265 (1431655765) ∈ wsJ6_bitCount_0f7a4 := by decide +kernel
set_option maxRecDepth 20000 in
theorem q_J6_bitCount_0f7a4_1 : Cond.constant RJ6 266 (858993459) ∈ wsJ6_bitCount_0f7a4 := by decide +kernel
set_option maxRecDepth 20000 in
theorem q_J6_bitCount_0f7a4_2 : Cond.constant RJ6 267 (252645135) ∈ wsJ6_bitCount_0f7a4 := by decide +kernel
noncomputable def f_J6_bitCount_0f7a4 (v0 : Int32) (f : mmF) : Option (Int32) :=
  some (((((((((v0 - ((mm_ushr v0 (1 : Int32)) &&& (1431655765 : Int32))) &&& (858993459 : Int32)) + ((mm_ushr (v0 - ((mm_ushr v0 (1 : Int32)) &&& (1431655765 : Int32))) (2 : Int32)) &&& (858993459 : Int32))) + (mm_ushr (((v0 - ((mm_ushr v0 (1 : Int32)) &&& (1431655765 : Int32))) &&& (858993459 : Int32)) + ((mm_ushr (v0 - ((mm_ushr v0 (1 : Int32)) &&& (1431655765 : Int32))) (2 : Int32)) &&& (858993459 : Int32))) (4 : Int32))) &&& (252645135 : Int32)) + (mm_ushr (((((v0 - ((mm_ushr v0 (1 : Int32)) &&& (1431655765 : Int32))) &&& (858993459 : Int32)) + ((mm_ushr (v0 - ((mm_ushr v0 (1 : Int32)) &&& (1431655765 : Int32))) (2 : Int32)) &&& (858993459 : Int32))) + (mm_ushr (((v0 - ((mm_ushr v0 (1 : Int32)) &&& (1431655765 : Int32))) &&& (858993459 : Int32)) + ((mm_ushr (v0 - ((mm_ushr v0 (1 : Int32)) &&& (1431655765 : Int32))) (2 : Int32)) &&& (858993459 : Int32))) (4 : Int32))) &&& (252645135 : Int32)) (8 : Int32))) + (mm_ushr ((((((v0 - ((mm_ushr v0 (1 : Int32)) &&& (1431655765 : Int32))) &&& (858993459 : Int32)) + ((mm_ushr (v0 - ((mm_ushr v0 (1 : Int32)) &&& (1431655765 : Int32))) (2 : Int32)) &&& (858993459 : Int32))) + (mm_ushr (((v0 - ((mm_ushr v0 (1 : Int32)) &&& (1431655765 : Int32))) &&& (858993459 : Int32)) + ((mm_ushr (v0 - ((mm_ushr v0 (1 : Int32)) &&& (1431655765 : Int32))) (2 : Int32)) &&& (858993459 : Int32))) (4 : Int32))) &&& (252645135 : Int32)) + (mm_ushr (((((v0 - ((mm_ushr v0 (1 : Int32)) &&& (1431655765 : Int32))) &&& (858993459 : Int32)) + ((mm_ushr (v0 - ((mm_ushr v0 (1 : Int32)) &&& (1431655765 : Int32))) (2 : Int32)) &&& (858993459 : Int32))) + (mm_ushr (((v0 - ((mm_ushr v0 (1 : Int32)) &&& (1431655765 : Int32))) &&& (858993459 : Int32)) + ((mm_ushr (v0 - ((mm_ushr v0 (1 : Int32)) &&& (1431655765 : Int32))) (2 : Int32)) &&& (858993459 : Int32))) (4 : Int32))) &&& (252645135 : Int32)) (8 : Int32))) (16 : Int32))) &&& (63 : Int32)))
section S_J6_bitCount_0f7a4
variable {p : Program} {l : Launch} {e : Env} {s : State} {m : MethodId} {args : Array Value} {below : List Frame} {meth : Method} {c : Code} {D : mmD} {b0 sz : Nat} {f : mmF}
set_option maxHeartbeats 4000000 in
set_option maxRecDepth 100000 in
theorem w_J6_bitCount_0f7a4 (C0 : CX cJ6_bitCount_0f7a4 1 (some .int) wsJ6_bitCount_0f7a4 RJ6 p s m args meth c D b0) {v0 : Int32} {res : Int32} (h : f_J6_bitCount_0f7a4 v0 f = some res) : ∀ (H : Heap) (locs : List Loc) (ls : Array Slot), MM vwCl D b0 f sz s H → mS b0 s H locs → lv_has ls 1 [(0, .int v0)] → W p l e ({ frames := 0, cells := 0, slots := 0, locals := 0 } : Room) s m args below meth c H locs 0 0 (MQ below (QW D b0 (some (.int res)) f sz) args s 0 0 (fun q => b0 ≤ q)) (F0 m 0 ls []) := by
  obtain ⟨hx, hb, hr, hml, hown, hts, hlocks, hK⟩ := id C0
  intro H locs ls hM hS hl
  unfold f_J6_bitCount_0f7a4 at h
  refine lv_iload_n hx hb dJ6_bitCount_0f7a4_0 rfl (lv_at hl 0 rfl) ?_
  refine lv_iload_n hx hb dJ6_bitCount_0f7a4_1 rfl (lv_at hl 0 rfl) ?_
  refine lv_iconst (v := (1 : Int32)) hx hb dJ6_bitCount_0f7a4_2 (by decide) ?_
  refine lv_iushr (v := (mm_ushr v0 (1 : Int32))) hx hb dJ6_bitCount_0f7a4_3 rfl ?_
  refine lv_ldcw (v := (1431655765 : Int32)) hx hb hown (hts _ q_J6_bitCount_0f7a4_0) dJ6_bitCount_0f7a4_4 ?_
  refine lv_iand hx hb dJ6_bitCount_0f7a4_7 ?_
  refine lv_isub hx hb dJ6_bitCount_0f7a4_8 ?_
  refine lv_istore_n (lv' := [(0, .int (v0 - ((mm_ushr v0 (1 : Int32)) &&& (1431655765 : Int32))))]) hx hb dJ6_bitCount_0f7a4_9 rfl hl (by decide) rfl (fun ls hl => ?_)
  refine lv_iload_n hx hb dJ6_bitCount_0f7a4_10 rfl (lv_at hl 0 rfl) ?_
  refine lv_ldcw (v := (858993459 : Int32)) hx hb hown (hts _ q_J6_bitCount_0f7a4_1) dJ6_bitCount_0f7a4_11 ?_
  refine lv_iand hx hb dJ6_bitCount_0f7a4_14 ?_
  refine lv_iload_n hx hb dJ6_bitCount_0f7a4_15 rfl (lv_at hl 0 rfl) ?_
  refine lv_iconst (v := (2 : Int32)) hx hb dJ6_bitCount_0f7a4_16 (by decide) ?_
  refine lv_iushr (v := (mm_ushr (v0 - ((mm_ushr v0 (1 : Int32)) &&& (1431655765 : Int32))) (2 : Int32))) hx hb dJ6_bitCount_0f7a4_17 rfl ?_
  refine lv_ldcw (v := (858993459 : Int32)) hx hb hown (hts _ q_J6_bitCount_0f7a4_1) dJ6_bitCount_0f7a4_18 ?_
  refine lv_iand hx hb dJ6_bitCount_0f7a4_21 ?_
  refine lv_iadd hx hb dJ6_bitCount_0f7a4_22 ?_
  refine lv_istore_n (lv' := [(0, .int (((v0 - ((mm_ushr v0 (1 : Int32)) &&& (1431655765 : Int32))) &&& (858993459 : Int32)) + ((mm_ushr (v0 - ((mm_ushr v0 (1 : Int32)) &&& (1431655765 : Int32))) (2 : Int32)) &&& (858993459 : Int32))))]) hx hb dJ6_bitCount_0f7a4_23 rfl hl (by decide) rfl (fun ls hl => ?_)
  refine lv_iload_n hx hb dJ6_bitCount_0f7a4_24 rfl (lv_at hl 0 rfl) ?_
  refine lv_iload_n hx hb dJ6_bitCount_0f7a4_25 rfl (lv_at hl 0 rfl) ?_
  refine lv_iconst (v := (4 : Int32)) hx hb dJ6_bitCount_0f7a4_26 (by decide) ?_
  refine lv_iushr (v := (mm_ushr (((v0 - ((mm_ushr v0 (1 : Int32)) &&& (1431655765 : Int32))) &&& (858993459 : Int32)) + ((mm_ushr (v0 - ((mm_ushr v0 (1 : Int32)) &&& (1431655765 : Int32))) (2 : Int32)) &&& (858993459 : Int32))) (4 : Int32))) hx hb dJ6_bitCount_0f7a4_27 rfl ?_
  refine lv_iadd hx hb dJ6_bitCount_0f7a4_28 ?_
  refine lv_ldcw (v := (252645135 : Int32)) hx hb hown (hts _ q_J6_bitCount_0f7a4_2) dJ6_bitCount_0f7a4_29 ?_
  refine lv_iand hx hb dJ6_bitCount_0f7a4_32 ?_
  refine lv_istore_n (lv' := [(0, .int (((((v0 - ((mm_ushr v0 (1 : Int32)) &&& (1431655765 : Int32))) &&& (858993459 : Int32)) + ((mm_ushr (v0 - ((mm_ushr v0 (1 : Int32)) &&& (1431655765 : Int32))) (2 : Int32)) &&& (858993459 : Int32))) + (mm_ushr (((v0 - ((mm_ushr v0 (1 : Int32)) &&& (1431655765 : Int32))) &&& (858993459 : Int32)) + ((mm_ushr (v0 - ((mm_ushr v0 (1 : Int32)) &&& (1431655765 : Int32))) (2 : Int32)) &&& (858993459 : Int32))) (4 : Int32))) &&& (252645135 : Int32)))]) hx hb dJ6_bitCount_0f7a4_33 rfl hl (by decide) rfl (fun ls hl => ?_)
  refine lv_iload_n hx hb dJ6_bitCount_0f7a4_34 rfl (lv_at hl 0 rfl) ?_
  refine lv_iload_n hx hb dJ6_bitCount_0f7a4_35 rfl (lv_at hl 0 rfl) ?_
  refine lv_bipush (v := (8 : Int32)) hx hb dJ6_bitCount_0f7a4_36 (by decide) ?_
  refine lv_iushr (v := (mm_ushr (((((v0 - ((mm_ushr v0 (1 : Int32)) &&& (1431655765 : Int32))) &&& (858993459 : Int32)) + ((mm_ushr (v0 - ((mm_ushr v0 (1 : Int32)) &&& (1431655765 : Int32))) (2 : Int32)) &&& (858993459 : Int32))) + (mm_ushr (((v0 - ((mm_ushr v0 (1 : Int32)) &&& (1431655765 : Int32))) &&& (858993459 : Int32)) + ((mm_ushr (v0 - ((mm_ushr v0 (1 : Int32)) &&& (1431655765 : Int32))) (2 : Int32)) &&& (858993459 : Int32))) (4 : Int32))) &&& (252645135 : Int32)) (8 : Int32))) hx hb dJ6_bitCount_0f7a4_38 rfl ?_
  refine lv_iadd hx hb dJ6_bitCount_0f7a4_39 ?_
  refine lv_istore_n (lv' := [(0, .int ((((((v0 - ((mm_ushr v0 (1 : Int32)) &&& (1431655765 : Int32))) &&& (858993459 : Int32)) + ((mm_ushr (v0 - ((mm_ushr v0 (1 : Int32)) &&& (1431655765 : Int32))) (2 : Int32)) &&& (858993459 : Int32))) + (mm_ushr (((v0 - ((mm_ushr v0 (1 : Int32)) &&& (1431655765 : Int32))) &&& (858993459 : Int32)) + ((mm_ushr (v0 - ((mm_ushr v0 (1 : Int32)) &&& (1431655765 : Int32))) (2 : Int32)) &&& (858993459 : Int32))) (4 : Int32))) &&& (252645135 : Int32)) + (mm_ushr (((((v0 - ((mm_ushr v0 (1 : Int32)) &&& (1431655765 : Int32))) &&& (858993459 : Int32)) + ((mm_ushr (v0 - ((mm_ushr v0 (1 : Int32)) &&& (1431655765 : Int32))) (2 : Int32)) &&& (858993459 : Int32))) + (mm_ushr (((v0 - ((mm_ushr v0 (1 : Int32)) &&& (1431655765 : Int32))) &&& (858993459 : Int32)) + ((mm_ushr (v0 - ((mm_ushr v0 (1 : Int32)) &&& (1431655765 : Int32))) (2 : Int32)) &&& (858993459 : Int32))) (4 : Int32))) &&& (252645135 : Int32)) (8 : Int32))))]) hx hb dJ6_bitCount_0f7a4_40 rfl hl (by decide) rfl (fun ls hl => ?_)
  refine lv_iload_n hx hb dJ6_bitCount_0f7a4_41 rfl (lv_at hl 0 rfl) ?_
  refine lv_iload_n hx hb dJ6_bitCount_0f7a4_42 rfl (lv_at hl 0 rfl) ?_
  refine lv_bipush (v := (16 : Int32)) hx hb dJ6_bitCount_0f7a4_43 (by decide) ?_
  refine lv_iushr (v := (mm_ushr ((((((v0 - ((mm_ushr v0 (1 : Int32)) &&& (1431655765 : Int32))) &&& (858993459 : Int32)) + ((mm_ushr (v0 - ((mm_ushr v0 (1 : Int32)) &&& (1431655765 : Int32))) (2 : Int32)) &&& (858993459 : Int32))) + (mm_ushr (((v0 - ((mm_ushr v0 (1 : Int32)) &&& (1431655765 : Int32))) &&& (858993459 : Int32)) + ((mm_ushr (v0 - ((mm_ushr v0 (1 : Int32)) &&& (1431655765 : Int32))) (2 : Int32)) &&& (858993459 : Int32))) (4 : Int32))) &&& (252645135 : Int32)) + (mm_ushr (((((v0 - ((mm_ushr v0 (1 : Int32)) &&& (1431655765 : Int32))) &&& (858993459 : Int32)) + ((mm_ushr (v0 - ((mm_ushr v0 (1 : Int32)) &&& (1431655765 : Int32))) (2 : Int32)) &&& (858993459 : Int32))) + (mm_ushr (((v0 - ((mm_ushr v0 (1 : Int32)) &&& (1431655765 : Int32))) &&& (858993459 : Int32)) + ((mm_ushr (v0 - ((mm_ushr v0 (1 : Int32)) &&& (1431655765 : Int32))) (2 : Int32)) &&& (858993459 : Int32))) (4 : Int32))) &&& (252645135 : Int32)) (8 : Int32))) (16 : Int32))) hx hb dJ6_bitCount_0f7a4_45 rfl ?_
  refine lv_iadd hx hb dJ6_bitCount_0f7a4_46 ?_
  refine lv_istore_n (lv' := [(0, .int (((((((v0 - ((mm_ushr v0 (1 : Int32)) &&& (1431655765 : Int32))) &&& (858993459 : Int32)) + ((mm_ushr (v0 - ((mm_ushr v0 (1 : Int32)) &&& (1431655765 : Int32))) (2 : Int32)) &&& (858993459 : Int32))) + (mm_ushr (((v0 - ((mm_ushr v0 (1 : Int32)) &&& (1431655765 : Int32))) &&& (858993459 : Int32)) + ((mm_ushr (v0 - ((mm_ushr v0 (1 : Int32)) &&& (1431655765 : Int32))) (2 : Int32)) &&& (858993459 : Int32))) (4 : Int32))) &&& (252645135 : Int32)) + (mm_ushr (((((v0 - ((mm_ushr v0 (1 : Int32)) &&& (1431655765 : Int32))) &&& (858993459 : Int32)) + ((mm_ushr (v0 - ((mm_ushr v0 (1 : Int32)) &&& (1431655765 : Int32))) (2 : Int32)) &&& (858993459 : Int32))) + (mm_ushr (((v0 - ((mm_ushr v0 (1 : Int32)) &&& (1431655765 : Int32))) &&& (858993459 : Int32)) + ((mm_ushr (v0 - ((mm_ushr v0 (1 : Int32)) &&& (1431655765 : Int32))) (2 : Int32)) &&& (858993459 : Int32))) (4 : Int32))) &&& (252645135 : Int32)) (8 : Int32))) + (mm_ushr ((((((v0 - ((mm_ushr v0 (1 : Int32)) &&& (1431655765 : Int32))) &&& (858993459 : Int32)) + ((mm_ushr (v0 - ((mm_ushr v0 (1 : Int32)) &&& (1431655765 : Int32))) (2 : Int32)) &&& (858993459 : Int32))) + (mm_ushr (((v0 - ((mm_ushr v0 (1 : Int32)) &&& (1431655765 : Int32))) &&& (858993459 : Int32)) + ((mm_ushr (v0 - ((mm_ushr v0 (1 : Int32)) &&& (1431655765 : Int32))) (2 : Int32)) &&& (858993459 : Int32))) (4 : Int32))) &&& (252645135 : Int32)) + (mm_ushr (((((v0 - ((mm_ushr v0 (1 : Int32)) &&& (1431655765 : Int32))) &&& (858993459 : Int32)) + ((mm_ushr (v0 - ((mm_ushr v0 (1 : Int32)) &&& (1431655765 : Int32))) (2 : Int32)) &&& (858993459 : Int32))) + (mm_ushr (((v0 - ((mm_ushr v0 (1 : Int32)) &&& (1431655765 : Int32))) &&& (858993459 : Int32)) + ((mm_ushr (v0 - ((mm_ushr v0 (1 : Int32)) &&& (1431655765 : Int32))) (2 : Int32)) &&& (858993459 : Int32))) (4 : Int32))) &&& (252645135 : Int32)) (8 : Int32))) (16 : Int32))))]) hx hb dJ6_bitCount_0f7a4_47 rfl hl (by decide) rfl (fun ls hl => ?_)
  refine lv_iload_n hx hb dJ6_bitCount_0f7a4_48 rfl (lv_at hl 0 rfl) ?_
  refine lv_bipush (v := (63 : Int32)) hx hb dJ6_bitCount_0f7a4_49 (by decide) ?_
  refine lv_iand hx hb dJ6_bitCount_0f7a4_51 ?_
  replace h := Option.some.inj h; subst h
  exact W.iret hx hb hr (fun t ht hW => ⟨rfl, by rw [ht]; exact hM.moved hW.alike, hS.F ht⟩) hS.2.2 dJ6_bitCount_0f7a4_52
set_option maxHeartbeats 4000000 in
set_option maxRecDepth 100000 in
theorem c_J6_bitCount_0f7a4 (l : Launch) (D : mmD) (b0 sz : Nat) {v0 : Int32} {f : mmF} {res : Int32} (h : f_J6_bitCount_0f7a4 v0 f = some res) : Met l yJ6_bitCount_0f7a4 wsJ6_bitCount_0f7a4 ({ frames := 0, cells := 0, slots := 0, locals := 0 } : Room) (va_Pc [.int v0] (PW D b0 f sz)) (QW D b0 (some (.int res)) f sz) 0 0 (fun q => b0 ≤ q) := by
  refine Met.ofW (cc := cJ6_bitCount_0f7a4) (maxL := 1) (ret := (some .int)) (by decide) rfl ?_
  intro p e s m args below meth c s₁ B hml hv
  obtain ⟨rfl, hM, hK⟩ := hv
  have hl := lv_entry ([.int v0]) (n := 1) (Nat.le_of_ble_eq_true rfl)
  rw [lg_entry_eq]
  generalize (lg_sl ([.int v0]) ++ List.replicate (1 - (lg_sl ([.int v0])).length) Slot.unset).toArray = ls at hl ⊢
  have hl : lv_has ls 1 [(0, .int v0)] := hl
  exact w_J6_bitCount_0f7a4 ⟨B.exec, B.bytes, B.returns, hml, findClass_of_methodNamed B.named, atoms_spec (ws := wsJ6_bitCount_0f7a4) B.pre, B.notSynchronized, hK⟩ h s.heap [] ls hM va_S.rf hl
end S_J6_bitCount_0f7a4
/-! X4_different -/
set_option maxRecDepth 20000 in
theorem qi_X4_different_X4 : ∀ w ∈ u_ws RX4 TX4 8, w ∈ wsX4_different := by decide +kernel
set_option maxRecDepth 20000 in
theorem q_X4_different_1 : Cond.fieldLink RX4 11 "StageTruths$Parts" "size" "I" ∈ wsX4_different := by decide +kernel
set_option maxRecDepth 20000 in
theorem q_X4_different_2 : Cond.fieldLink RX4 28 "StageTruths$Parts" "usedLeaves" "I" ∈ wsX4_different := by decide +kernel
noncomputable def f_X4_different (v0 : Nat) (f : mmF) : Option (Int32) :=
  (ldI f v0 4 0).bind fun x1 =>
  (ldI f v0 4 5).bind fun x8 =>
  (f_J6_bitCount_0f7a4 x8 f).bind fun q11 =>
  some (((x1 - (6 : Int32)) + q11))
section S_X4_different
variable {p : Program} {l : Launch} {e : Env} {s : State} {m : MethodId} {args : Array Value} {below : List Frame} {meth : Method} {c : Code} {D : mmD} {b0 sz : Nat} {f : mmF}
set_option maxHeartbeats 4000000 in
set_option maxRecDepth 100000 in
theorem w_X4_different (C0 : CX cX4_different 1 (some .int) wsX4_different RX4 p s m args meth c D b0) {v0 : Nat} {res : Int32} (h : f_X4_different v0 f = some res) : ∀ (H : Heap) (locs : List Loc) (ls : Array Slot), MM vwCl D b0 f sz s H → mS b0 s H locs → lv_has ls 1 [(0, .ref v0)] → W p l e ({ frames := 1, cells := 0, slots := 0, locals := 20 } : Room) s m args below meth c H locs 0 0 (MQ below (QW D b0 (some (.int res)) f sz) args s 0 0 (fun q => b0 ≤ q)) (F0 m 0 ls []) := by
  obtain ⟨hx, hb, hr, hml, hown, hts, hlocks, hK⟩ := id C0
  intro H locs ls hM hS hl
  unfold f_X4_different at h
  refine lv_aload_n hx hb dX4_different_0 rfl (lv_at hl 0 rfl) ?_
  replace h := o_b h; obtain ⟨x1, h1, h⟩ := h
  refine m_get (C := RX4) (T := TX4) (N := 8) (ci := 4) hx hb hts qi_X4_different_X4 hown hK.1 hM 0 (ldI_F h1) rfl (by decide) (hts _ q_X4_different_1) (fun _ h9 => h9) dX4_different_1 ?_
  refine lv_bipush (v := (6 : Int32)) hx hb dX4_different_4 (by decide) ?_
  refine lv_isub hx hb dX4_different_6 ?_
  refine lv_aload_n hx hb dX4_different_7 rfl (lv_at hl 0 rfl) ?_
  replace h := o_b h; obtain ⟨x8, h8, h⟩ := h
  refine m_get (C := RX4) (T := TX4) (N := 8) (ci := 4) hx hb hts qi_X4_different_X4 hown hK.1 hM 5 (ldI_F h8) rfl (by decide) (hts _ q_X4_different_2) (fun _ h9 => h9) dX4_different_8 ?_
  replace h := o_b h; obtain ⟨q11, h11, h⟩ := h
  refine m_call (va_runS (As := [.int x8]) (rest := [.int (x1 - (6 : Int32))]) ⟨hx, hb, hml, hown, hts⟩ (c_J6_bitCount_0f7a4 l D b0 sz h11) (va_cwS 1 hts gX4_different_J6_bitCount_0f7a4 rfl rfl rfl (by decide +kernel) ⟨Nat.le_of_ble_eq_true rfl, Nat.le_of_ble_eq_true rfl⟩) ⟨PW.blind, (fun U hU hW => ⟨rfl, PW.call hK hM hS hU hW⟩)⟩ rfl rfl hl.1 rfl (lv_room (Nat.le_of_ble_eq_true rfl)) dX4_different_11 ⟨(Nat.le_refl _), (Nat.le_refl _)⟩) hS (fun H locs hM hS => ?_)
  refine lv_iadd hx hb dX4_different_14 ?_
  replace h := Option.some.inj h; subst h
  exact W.iret hx hb hr (fun t ht hW => ⟨rfl, by rw [ht]; exact hM.moved hW.alike, hS.F ht⟩) hS.2.2 dX4_different_15
set_option maxHeartbeats 4000000 in
set_option maxRecDepth 100000 in
theorem c_X4_different (l : Launch) (D : mmD) (b0 sz : Nat) {v0 : Nat} {f : mmF} {res : Int32} (h : f_X4_different v0 f = some res) : Met l yX4_different wsX4_different ({ frames := 1, cells := 0, slots := 0, locals := 20 } : Room) (va_Pc [.ref v0] (PW D b0 f sz)) (QW D b0 (some (.int res)) f sz) 0 0 (fun q => b0 ≤ q) := by
  refine Met.ofW (cc := cX4_different) (maxL := 1) (ret := (some .int)) (by decide) rfl ?_
  intro p e s m args below meth c s₁ B hml hv
  obtain ⟨rfl, hM, hK⟩ := hv
  have hl := lv_entry ([.ref v0]) (n := 1) (Nat.le_of_ble_eq_true rfl)
  rw [lg_entry_eq]
  generalize (lg_sl ([.ref v0]) ++ List.replicate (1 - (lg_sl ([.ref v0])).length) Slot.unset).toArray = ls at hl ⊢
  have hl : lv_has ls 1 [(0, .ref v0)] := hl
  exact w_X4_different ⟨B.exec, B.bytes, B.returns, hml, findClass_of_methodNamed B.named, atoms_spec (ws := wsX4_different) B.pre, B.notSynchronized, hK⟩ h s.heap [] ls hM va_S.rf hl
end S_X4_different
/-! X4_usedFacts -/
set_option maxRecDepth 20000 in
theorem qi_X4_usedFacts_X4 : ∀ w ∈ u_ws RX4 TX4 8, w ∈ wsX4_usedFacts := by decide +kernel
set_option maxRecDepth 20000 in
theorem q_X4_usedFacts_1 : Cond.fieldLink RX4 28 "StageTruths$Parts" "usedLeaves" "I" ∈ wsX4_usedFacts := by decide +kernel
noncomputable def f_X4_usedFacts (v0 : Nat) (f : mmF) : Option (Int32) :=
  (ldI f v0 4 5).bind fun x1 =>
  some ((x1 &&& (15 : Int32)))
section S_X4_usedFacts
variable {p : Program} {l : Launch} {e : Env} {s : State} {m : MethodId} {args : Array Value} {below : List Frame} {meth : Method} {c : Code} {D : mmD} {b0 sz : Nat} {f : mmF}
set_option maxHeartbeats 4000000 in
set_option maxRecDepth 100000 in
theorem w_X4_usedFacts (C0 : CX cX4_usedFacts 1 (some .int) wsX4_usedFacts RX4 p s m args meth c D b0) {v0 : Nat} {res : Int32} (h : f_X4_usedFacts v0 f = some res) : ∀ (H : Heap) (locs : List Loc) (ls : Array Slot), MM vwCl D b0 f sz s H → mS b0 s H locs → lv_has ls 1 [(0, .ref v0)] → W p l e ({ frames := 0, cells := 0, slots := 0, locals := 0 } : Room) s m args below meth c H locs 0 0 (MQ below (QW D b0 (some (.int res)) f sz) args s 0 0 (fun q => b0 ≤ q)) (F0 m 0 ls []) := by
  obtain ⟨hx, hb, hr, hml, hown, hts, hlocks, hK⟩ := id C0
  intro H locs ls hM hS hl
  unfold f_X4_usedFacts at h
  refine lv_aload_n hx hb dX4_usedFacts_0 rfl (lv_at hl 0 rfl) ?_
  replace h := o_b h; obtain ⟨x1, h1, h⟩ := h
  refine m_get (C := RX4) (T := TX4) (N := 8) (ci := 4) hx hb hts qi_X4_usedFacts_X4 hown hK.1 hM 5 (ldI_F h1) rfl (by decide) (hts _ q_X4_usedFacts_1) (fun _ h9 => h9) dX4_usedFacts_1 ?_
  refine lv_bipush (v := (15 : Int32)) hx hb dX4_usedFacts_4 (by decide) ?_
  refine lv_iand hx hb dX4_usedFacts_6 ?_
  replace h := Option.some.inj h; subst h
  exact W.iret hx hb hr (fun t ht hW => ⟨rfl, by rw [ht]; exact hM.moved hW.alike, hS.F ht⟩) hS.2.2 dX4_usedFacts_7
set_option maxHeartbeats 4000000 in
set_option maxRecDepth 100000 in
theorem c_X4_usedFacts (l : Launch) (D : mmD) (b0 sz : Nat) {v0 : Nat} {f : mmF} {res : Int32} (h : f_X4_usedFacts v0 f = some res) : Met l yX4_usedFacts wsX4_usedFacts ({ frames := 0, cells := 0, slots := 0, locals := 0 } : Room) (va_Pc [.ref v0] (PW D b0 f sz)) (QW D b0 (some (.int res)) f sz) 0 0 (fun q => b0 ≤ q) := by
  refine Met.ofW (cc := cX4_usedFacts) (maxL := 1) (ret := (some .int)) (by decide) rfl ?_
  intro p e s m args below meth c s₁ B hml hv
  obtain ⟨rfl, hM, hK⟩ := hv
  have hl := lv_entry ([.ref v0]) (n := 1) (Nat.le_of_ble_eq_true rfl)
  rw [lg_entry_eq]
  generalize (lg_sl ([.ref v0]) ++ List.replicate (1 - (lg_sl ([.ref v0])).length) Slot.unset).toArray = ls at hl ⊢
  have hl : lv_has ls 1 [(0, .ref v0)] := hl
  exact w_X4_usedFacts ⟨B.exec, B.bytes, B.returns, hml, findClass_of_methodNamed B.named, atoms_spec (ws := wsX4_usedFacts) B.pre, B.notSynchronized, hK⟩ h s.heap [] ls hM va_S.rf hl
end S_X4_usedFacts
/-! X4_depth -/
set_option maxRecDepth 20000 in
theorem qi_X4_depth_X4 : ∀ w ∈ u_ws RX4 TX4 8, w ∈ wsX4_depth := by decide +kernel
set_option maxRecDepth 20000 in
theorem q_X4_depth_1 : Cond.fieldLink RX4 11 "StageTruths$Parts" "size" "I" ∈ wsX4_depth := by decide +kernel
set_option maxRecDepth 20000 in
theorem q_X4_depth_2 : Cond.fieldLink RX4 34 "StageTruths$Parts" "depths" "[I" ∈ wsX4_depth := by decide +kernel
set_option maxRecDepth 20000 in
theorem q_X4_depth_3 : Cond.initialized RX9 ∈ wsX4_depth := by decide +kernel
set_option maxRecDepth 20000 in
theorem q_X4_depth_4 : Cond.static yX9_at ∈ wsX4_depth := by decide +kernel
set_option maxRecDepth 20000 in
theorem q_X4_depth_5 : Cond.fieldLink RX4 19 "StageTruths$Parts" "left" "[I" ∈ wsX4_depth := by decide +kernel
set_option maxRecDepth 20000 in
theorem q_X4_depth_6 : Cond.fieldLink RX4 22 "StageTruths$Parts" "right" "[I" ∈ wsX4_depth := by decide +kernel
set_option maxRecDepth 20000 in
theorem q_X4_depth_7 : Cond.methodLink RX4 55 Lib.Math.max.name ∈ wsX4_depth := by decide +kernel
set_option maxRecDepth 20000 in
theorem q_X4_depth_8 : Cond.static Lib.Math.max.name ∈ wsX4_depth := by decide +kernel
set_option maxRecDepth 20000 in
theorem q_X4_depth_9 : Cond.initialized "java/lang/Math" ∈ wsX4_depth := by decide +kernel
set_option maxRecDepth 20000 in
theorem q_X4_depth_10 : Cond.code Lib.Math.max.name Lib.Math.max.code 2 (some .int) ∈ wsX4_depth := by decide +kernel
noncomputable def f_X4_depth_58 (k2 : Nat → Int32 → Int32 → mmF → Option (Int32 × mmF))  (v0 : Nat) (v1 : Int32) (v2 : Int32) (t0 : Nat) (t1 : Int32) (t2 : Int32) (f : mmF) : Option (Int32 × mmF) :=
  (stA 0 f t0 t1 t2).bind fun f58 =>
  k2 v0 v1 (v2 + (1 : Int32)) f58
noncomputable def f_X4_depth_2   : Nat → Nat → Int32 → Int32 → mmF → Option (Int32 × mmF)
  | 0, _, _, _, _ => none
  | n + 1, v0, v1, v2, f =>
    (ldI f v0 4 0).bind fun x4 =>
    if x4 ≤ v2 then
    ((ldR f v0 4 7).bind fun x66 =>
    (ckO f v0 4).bind fun _ =>
    (f_X4_whole v0 v1 f).bind fun q71 =>
    (f_X9_at x66 q71 f).bind fun q74 =>
    some (q74, f))
    else
    (ldR f v0 4 7).bind fun x11 =>
    (ldR f v0 4 2).bind fun x15 =>
    (ldA 0 f x15 v2).bind fun x19 =>
    (f_X9_at x11 x19 f).bind fun q20 =>
    (ldR f v0 4 7).bind fun x24 =>
    (ldR f v0 4 3).bind fun x28 =>
    (ldA 0 f x28 v2).bind fun x32 =>
    (f_X9_at x24 x32 f).bind fun q33 =>
    (ldR f v0 4 7).bind fun x41 =>
    if (6 : Int32) ≤ v2 then
    (f_X4_depth_58 (fun a0 a1 a2 a3 => f_X4_depth_2 n a0 a1 a2 a3) v0 v1 v2 x41 v2 ((1 : Int32) + (if q20 < q33 then q33 else q20)) f)
    else
    f_X4_depth_58 (fun a0 a1 a2 a3 => f_X4_depth_2 n a0 a1 a2 a3) v0 v1 v2 x41 v2 (1 : Int32) f
noncomputable def f_X4_depth (v0 : Nat) (v1 : Int32) (f : mmF) : Option (Int32 × mmF) :=
  f_X4_depth_2 FU v0 v1 (0 : Int32) f
section S_X4_depth
variable {p : Program} {l : Launch} {e : Env} {s : State} {m : MethodId} {args : Array Value} {below : List Frame} {meth : Method} {c : Code} {D : mmD} {b0 sz : Nat} {f : mmF}
set_option maxHeartbeats 4000000 in
set_option maxRecDepth 100000 in
theorem w_X4_depth_58 (C0 : CX cX4_depth 4 (some .int) wsX4_depth RX4 p s m args meth c D b0) {k2 : Nat → Int32 → Int32 → mmF → Option (Int32 × mmF)} {res : Int32 × mmF} (hk2 : ∀ (v0 : Nat) (v1 : Int32) (v2 : Int32) (f : mmF), k2 v0 v1 v2 f = some res → ∀ (H : Heap) (locs : List Loc) (ls : Array Slot), MM vwCl D b0 f sz s H → mS b0 s H locs → lv_has ls 4 [(0, .ref v0), (1, .int v1), (2, .int v2)] → W p l e ({ frames := 2, cells := 0, slots := 0, locals := 42 } : Room) s m args below meth c H locs 0 0 (MQ below (QW D b0 (some (.int res.1)) res.2 sz) args s 0 0 (fun q => b0 ≤ q)) (F0 m 2 ls [])) : ∀ (v0 : Nat) (v1 : Int32) (v2 : Int32) (t0 : Nat) (t1 : Int32) (t2 : Int32) (f : mmF), f_X4_depth_58 k2 v0 v1 v2 t0 t1 t2 f = some res → ∀ (H : Heap) (locs : List Loc) (ls : Array Slot), MM vwCl D b0 f sz s H → mS b0 s H locs → lv_has ls 4 [(0, .ref v0), (1, .int v1), (2, .int v2)] → W p l e ({ frames := 2, cells := 0, slots := 0, locals := 42 } : Room) s m args below meth c H locs 0 0 (MQ below (QW D b0 (some (.int res.1)) res.2 sz) args s 0 0 (fun q => b0 ≤ q)) (F0 m 58 ls [.int t2, .int t1, .ref t0]) := by
  obtain ⟨hx, hb, hr, hml, hown, hts, hlocks, hK⟩ := id C0
  intro v0 v1 v2 t0 t1 t2 f h H locs ls hM hS hl
  unfold f_X4_depth_58 at h
  replace h := o_b h; obtain ⟨f58, h58, h⟩ := h
  refine m_iast hx hb hK.1 hM hS rfl h58 dX4_depth_58 (fun H locs hM hS => ?_)
  refine lv_iinc (v := (v2 + (1 : Int32))) (lv' := [(2, .int (v2 + (1 : Int32))), (0, .ref v0), (1, .int v1)]) hx hb dX4_depth_59 hl (k := 2) rfl rfl (by decide) rfl (fun ls hl => ?_)
  refine lv_goto (tgt := 2) hx hb dX4_depth_62 (by decide) ?_
  exact hk2 _ _ _ _ h _ _ _ hM hS (lv_sub hl [1, 2, 0] rfl)
set_option maxHeartbeats 4000000 in
set_option maxRecDepth 100000 in
theorem w_X4_depth_2 (C0 : CX cX4_depth 4 (some .int) wsX4_depth RX4 p s m args meth c D b0) {res : Int32 × mmF} : ∀ (n : Nat), ∀ (v0 : Nat) (v1 : Int32) (v2 : Int32) (f : mmF), f_X4_depth_2 n v0 v1 v2 f = some res → ∀ (H : Heap) (locs : List Loc) (ls : Array Slot), MM vwCl D b0 f sz s H → mS b0 s H locs → lv_has ls 4 [(0, .ref v0), (1, .int v1), (2, .int v2)] → W p l e ({ frames := 2, cells := 0, slots := 0, locals := 42 } : Room) s m args below meth c H locs 0 0 (MQ below (QW D b0 (some (.int res.1)) res.2 sz) args s 0 0 (fun q => b0 ≤ q)) (F0 m 2 ls []) := by
  obtain ⟨hx, hb, hr, hml, hown, hts, hlocks, hK⟩ := id C0
  intro n
  induction n with
  | zero =>
    intro v0 v1 v2 f h
    have h : (none : Option (Int32 × mmF)) = some res := h
    cases h
  | succ n ih =>
    intro v0 v1 v2 f h H locs ls hM hS hl
    rw [f_X4_depth_2] at h
    refine lv_iload_n hx hb dX4_depth_2 rfl (lv_at hl 2 rfl) ?_
    refine lv_aload_n hx hb dX4_depth_3 rfl (lv_at hl 0 rfl) ?_
    replace h := o_b h; obtain ⟨x4, h4, h⟩ := h
    refine m_get (C := RX4) (T := TX4) (N := 8) (ci := 4) hx hb hts qi_X4_depth_X4 hown hK.1 hM 0 (ldI_F h4) rfl (by decide) (hts _ q_X4_depth_1) (fun _ h9 => h9) dX4_depth_4 ?_
    refine lv_icmp_ge (tgt := 65) hx hb dX4_depth_7 (by decide) (fun c7 => ?_) (fun c7 => ?_)
    · replace h := o_t c7 h
      refine lv_aload_n hx hb dX4_depth_65 rfl (lv_at hl 0 rfl) ?_
      replace h := o_b h; obtain ⟨x66, h66, h⟩ := h
      refine m_get (C := RX4) (T := TX4) (N := 8) (ci := 4) hx hb hts qi_X4_depth_X4 hown hK.1 hM 7 (ldR_F h66) rfl (by decide) (hts _ q_X4_depth_2) (fun _ h9 => h9) dX4_depth_66 ?_
      refine lv_aload_n hx hb dX4_depth_69 rfl (lv_at hl 0 rfl) ?_
      refine lv_iload_n hx hb dX4_depth_70 rfl (lv_at hl 1 rfl) ?_
      replace h := o_b h; obtain ⟨_, k71, h⟩ := h
      replace h := o_b h; obtain ⟨q71, h71, h⟩ := h
      refine m_call (va_runV (As := [.int v1]) (rest := [.ref x66]) ⟨hx, hb, hml, hown, hts⟩ (c_X4_whole l D b0 sz h71) (cwV 1 hts gX4_depth_X4_whole rfl rfl rfl (by decide +kernel) ⟨Nat.le_of_ble_eq_true rfl, Nat.le_of_ble_eq_true rfl⟩) ⟨PW.blind, m_recv (ci := 4) rfl hK hM k71, (fun U hU hW => ⟨rfl, PW.call hK hM hS hU hW⟩)⟩ rfl rfl hl.1 rfl (lv_room (Nat.le_of_ble_eq_true rfl)) dX4_depth_71 ⟨(Nat.le_refl _), (Nat.le_refl _)⟩) hS (fun H locs hM hS => ?_)
      replace h := o_b h; obtain ⟨q74, h74, h⟩ := h
      refine m_call (va_runSN (As := [.ref x66, .int q71]) (rest := []) ⟨hx, hb, hml, hown, hts⟩ (c_X9_at l D b0 sz h74) ⟨(va_cnB 2 hts gX4_depth_X9_at_n45 rfl rfl rfl (hK.2.1 (RX4, 45, yX9_at, "StageTruths") (by decide)) (hts _ q_X4_depth_3) (by decide +kernel) ⟨Nat.le_of_ble_eq_true rfl, Nat.le_of_ble_eq_true rfl⟩), (hts _ q_X4_depth_4), trivial⟩ ⟨PW.blind, (fun U hU hW => ⟨rfl, PW.call hK hM hS hU hW⟩)⟩ rfl rfl hl.1 rfl (lv_room (Nat.le_of_ble_eq_true rfl)) dX4_depth_74 ⟨(Nat.le_refl _), (Nat.le_refl _)⟩) hS (fun H locs hM hS => ?_)
      replace h := Option.some.inj h; subst h
      exact W.iret hx hb hr (fun t ht hW => ⟨rfl, by rw [ht]; exact hM.moved hW.alike, hS.F ht⟩) hS.2.2 dX4_depth_77
    replace h := o_f c7 h
    refine lv_aload_n hx hb dX4_depth_10 rfl (lv_at hl 0 rfl) ?_
    replace h := o_b h; obtain ⟨x11, h11, h⟩ := h
    refine m_get (C := RX4) (T := TX4) (N := 8) (ci := 4) hx hb hts qi_X4_depth_X4 hown hK.1 hM 7 (ldR_F h11) rfl (by decide) (hts _ q_X4_depth_2) (fun _ h9 => h9) dX4_depth_11 ?_
    refine lv_aload_n hx hb dX4_depth_14 rfl (lv_at hl 0 rfl) ?_
    replace h := o_b h; obtain ⟨x15, h15, h⟩ := h
    refine m_get (C := RX4) (T := TX4) (N := 8) (ci := 4) hx hb hts qi_X4_depth_X4 hown hK.1 hM 2 (ldR_F h15) rfl (by decide) (hts _ q_X4_depth_5) (fun _ h9 => h9) dX4_depth_15 ?_
    refine lv_iload_n hx hb dX4_depth_18 rfl (lv_at hl 2 rfl) ?_
    replace h := o_b h; obtain ⟨x19, h19, h⟩ := h
    refine m_iald hx hb hK.1 hM hS rfl h19 dX4_depth_19 ?_
    replace h := o_b h; obtain ⟨q20, h20, h⟩ := h
    refine m_call (va_runSN (As := [.ref x11, .int x19]) (rest := []) ⟨hx, hb, hml, hown, hts⟩ (c_X9_at l D b0 sz h20) ⟨(va_cnB 2 hts gX4_depth_X9_at_n45 rfl rfl rfl (hK.2.1 (RX4, 45, yX9_at, "StageTruths") (by decide)) (hts _ q_X4_depth_3) (by decide +kernel) ⟨Nat.le_of_ble_eq_true rfl, Nat.le_of_ble_eq_true rfl⟩), (hts _ q_X4_depth_4), trivial⟩ ⟨PW.blind, (fun U hU hW => ⟨rfl, PW.call hK hM hS hU hW⟩)⟩ rfl rfl hl.1 rfl (lv_room (Nat.le_of_ble_eq_true rfl)) dX4_depth_20 ⟨(Nat.le_refl _), (Nat.le_refl _)⟩) hS (fun H locs hM hS => ?_)
    refine lv_aload_n hx hb dX4_depth_23 rfl (lv_at hl 0 rfl) ?_
    replace h := o_b h; obtain ⟨x24, h24, h⟩ := h
    refine m_get (C := RX4) (T := TX4) (N := 8) (ci := 4) hx hb hts qi_X4_depth_X4 hown hK.1 hM 7 (ldR_F h24) rfl (by decide) (hts _ q_X4_depth_2) (fun _ h9 => h9) dX4_depth_24 ?_
    refine lv_aload_n hx hb dX4_depth_27 rfl (lv_at hl 0 rfl) ?_
    replace h := o_b h; obtain ⟨x28, h28, h⟩ := h
    refine m_get (C := RX4) (T := TX4) (N := 8) (ci := 4) hx hb hts qi_X4_depth_X4 hown hK.1 hM 3 (ldR_F h28) rfl (by decide) (hts _ q_X4_depth_6) (fun _ h9 => h9) dX4_depth_28 ?_
    refine lv_iload_n hx hb dX4_depth_31 rfl (lv_at hl 2 rfl) ?_
    replace h := o_b h; obtain ⟨x32, h32, h⟩ := h
    refine m_iald hx hb hK.1 hM hS rfl h32 dX4_depth_32 ?_
    replace h := o_b h; obtain ⟨q33, h33, h⟩ := h
    refine m_call (va_runSN (As := [.ref x24, .int x32]) (rest := [.int q20]) ⟨hx, hb, hml, hown, hts⟩ (c_X9_at l D b0 sz h33) ⟨(va_cnB 2 hts gX4_depth_X9_at_n45 rfl rfl rfl (hK.2.1 (RX4, 45, yX9_at, "StageTruths") (by decide)) (hts _ q_X4_depth_3) (by decide +kernel) ⟨Nat.le_of_ble_eq_true rfl, Nat.le_of_ble_eq_true rfl⟩), (hts _ q_X4_depth_4), trivial⟩ ⟨PW.blind, (fun U hU hW => ⟨rfl, PW.call hK hM hS hU hW⟩)⟩ rfl rfl hl.1 rfl (lv_room (Nat.le_of_ble_eq_true rfl)) dX4_depth_33 ⟨(Nat.le_refl _), (Nat.le_refl _)⟩) hS (fun H locs hM hS => ?_)
    refine va_mmax hx hb (hml.trans hl.1.symm) hown (hts _ q_X4_depth_7) (hts _ q_X4_depth_8) (hts _ q_X4_depth_9) (hts _ q_X4_depth_10) (Nat.le_of_ble_eq_true rfl) (Nat.le_of_ble_eq_true rfl) (Nat.zero_le _) (Nat.zero_le _) dX4_depth_36 ?_
    refine lv_istore_n (lv' := [(3, .int (if q20 < q33 then q33 else q20)), (0, .ref v0), (1, .int v1), (2, .int v2)]) hx hb dX4_depth_39 rfl hl (by decide) rfl (fun ls hl => ?_)
    refine lv_aload_n hx hb dX4_depth_40 rfl (lv_at hl 1 rfl) ?_
    replace h := o_b h; obtain ⟨x41, h41, h⟩ := h
    refine m_get (C := RX4) (T := TX4) (N := 8) (ci := 4) hx hb hts qi_X4_depth_X4 hown hK.1 hM 7 (ldR_F h41) rfl (by decide) (hts _ q_X4_depth_2) (fun _ h9 => h9) dX4_depth_41 ?_
    refine lv_iload_n hx hb dX4_depth_44 rfl (lv_at hl 3 rfl) ?_
    refine lv_iload_n hx hb dX4_depth_45 rfl (lv_at hl 3 rfl) ?_
    refine lv_bipush (v := (6 : Int32)) hx hb dX4_depth_46 (by decide) ?_
    refine lv_icmp_ge (tgt := 55) hx hb dX4_depth_48 (by decide) (fun c48 => ?_) (fun c48 => ?_)
    · replace h := o_t c48 h
      refine lv_iconst (v := (1 : Int32)) hx hb dX4_depth_55 (by decide) ?_
      refine lv_iload_n hx hb dX4_depth_56 rfl (lv_at hl 0 rfl) ?_
      refine lv_iadd hx hb dX4_depth_57 ?_
      exact w_X4_depth_58 C0 ih _ _ _ _ _ _ _ h _ _ _ hM hS (lv_sub hl [1, 2, 3] rfl)
    replace h := o_f c48 h
    refine lv_iconst (v := (1 : Int32)) hx hb dX4_depth_51 (by decide) ?_
    refine lv_goto (tgt := 58) hx hb dX4_depth_52 (by decide) ?_
    exact w_X4_depth_58 C0 ih _ _ _ _ _ _ _ h _ _ _ hM hS (lv_sub hl [1, 2, 3] rfl)
set_option maxHeartbeats 4000000 in
set_option maxRecDepth 100000 in
theorem w_X4_depth (C0 : CX cX4_depth 4 (some .int) wsX4_depth RX4 p s m args meth c D b0) {v0 : Nat} {v1 : Int32} {res : Int32 × mmF} (h : f_X4_depth v0 v1 f = some res) : ∀ (H : Heap) (locs : List Loc) (ls : Array Slot), MM vwCl D b0 f sz s H → mS b0 s H locs → lv_has ls 4 [(0, .ref v0), (1, .int v1)] → W p l e ({ frames := 2, cells := 0, slots := 0, locals := 42 } : Room) s m args below meth c H locs 0 0 (MQ below (QW D b0 (some (.int res.1)) res.2 sz) args s 0 0 (fun q => b0 ≤ q)) (F0 m 0 ls []) := by
  obtain ⟨hx, hb, hr, hml, hown, hts, hlocks, hK⟩ := id C0
  intro H locs ls hM hS hl
  unfold f_X4_depth at h
  refine lv_iconst (v := (0 : Int32)) hx hb dX4_depth_0 (by decide) ?_
  refine lv_istore_n (lv' := [(2, .int (0 : Int32)), (0, .ref v0), (1, .int v1)]) hx hb dX4_depth_1 rfl hl (by decide) rfl (fun ls hl => ?_)
  exact w_X4_depth_2 C0 FU _ _ _ _ h _ _ _ hM hS (lv_sub hl [1, 2, 0] rfl)
set_option maxHeartbeats 4000000 in
set_option maxRecDepth 100000 in
theorem c_X4_depth (l : Launch) (D : mmD) (b0 sz : Nat) {v0 : Nat} {v1 : Int32} {f : mmF} {res : Int32 × mmF} (h : f_X4_depth v0 v1 f = some res) : Met l yX4_depth wsX4_depth ({ frames := 2, cells := 0, slots := 0, locals := 42 } : Room) (va_Pc [.ref v0, .int v1] (PW D b0 f sz)) (QW D b0 (some (.int res.1)) res.2 sz) 0 0 (fun q => b0 ≤ q) := by
  refine Met.ofW (cc := cX4_depth) (maxL := 4) (ret := (some .int)) (by decide) rfl ?_
  intro p e s m args below meth c s₁ B hml hv
  obtain ⟨rfl, hM, hK⟩ := hv
  have hl := lv_entry ([.ref v0, .int v1]) (n := 4) (Nat.le_of_ble_eq_true rfl)
  rw [lg_entry_eq]
  generalize (lg_sl ([.ref v0, .int v1]) ++ List.replicate (4 - (lg_sl ([.ref v0, .int v1])).length) Slot.unset).toArray = ls at hl ⊢
  have hl : lv_has ls 4 [(0, .ref v0), (1, .int v1)] := hl
  exact w_X4_depth ⟨B.exec, B.bytes, B.returns, hml, findClass_of_methodNamed B.named, atoms_spec (ws := wsX4_depth) B.pre, B.notSynchronized, hK⟩ h s.heap [] ls hM va_S.rf hl
end S_X4_depth
/-! X6_init -/
set_option maxRecDepth 20000 in
theorem qi_X6_init_X6 : ∀ w ∈ u_ws RX6 TX6 5, w ∈ wsX6_init := by decide +kernel
set_option maxRecDepth 20000 in
theorem q_X6_init_1 : Cond.fieldLink RX6 18 "StageTruths$SmallModels" "nothing" "[I" ∈ wsX6_init := by decide +kernel
set_option maxRecDepth 20000 in
theorem q_X6_init_2 : Cond.constant RX6 31 (65535) ∈ wsX6_init := by decide +kernel
set_option maxRecDepth 20000 in
theorem q_X6_init_3 : Cond.methodLink RX6 3 objectInit ∈ wsX6_init := by decide +kernel
set_option maxRecDepth 20000 in
theorem q_X6_init_4 : Cond.instanceMethod objectInit ∈ wsX6_init := by decide +kernel
set_option maxRecDepth 20000 in
theorem q_X6_init_5 : Cond.code objectInit ⟨#[0xb1]⟩ 1 none ∈ wsX6_init := by decide +kernel
set_option maxRecDepth 20000 in
theorem qi_X6_init_X4 : ∀ w ∈ u_ws RX4 TX4 8, w ∈ wsX6_init := by decide +kernel
set_option maxRecDepth 20000 in
theorem q_X6_init_7 : Cond.classLink RX6 9 RX4 ∈ wsX6_init := by decide +kernel
set_option maxRecDepth 20000 in
theorem q_X6_init_8 : Cond.instantiable RX4 8 ∈ wsX6_init := by decide +kernel
set_option maxRecDepth 20000 in
theorem q_X6_init_9 : Cond.initialized RX4 ∈ wsX6_init := by decide +kernel
set_option maxRecDepth 20000 in
theorem q_X6_init_10 : Cond.methodLink RX6 11 yX4_init ∈ wsX6_init := by decide +kernel
set_option maxRecDepth 20000 in
theorem q_X6_init_11 : Cond.instanceMethod yX4_init ∈ wsX6_init := by decide +kernel
set_option maxRecDepth 20000 in
theorem q_X6_init_12 : Cond.fieldLink RX6 12 "StageTruths$SmallModels" "parts" "LStageTruths$Parts;" ∈ wsX6_init := by decide +kernel
set_option maxRecDepth 20000 in
theorem q_X6_init_13 : Cond.arrayClass .int ∈ wsX6_init := by decide +kernel
set_option maxRecDepth 20000 in
theorem q_X6_init_14 : Cond.fieldLink RX6 22 "StageTruths$SmallModels" "single" "[I" ∈ wsX6_init := by decide +kernel
set_option maxRecDepth 20000 in
theorem q_X6_init_15 : Cond.fieldLink RX6 25 "StageTruths$SmallModels" "second" "[I" ∈ wsX6_init := by decide +kernel
set_option maxRecDepth 20000 in
theorem q_X6_init_16 : Cond.fieldLink RX6 28 "StageTruths$SmallModels" "third" "[I" ∈ wsX6_init := by decide +kernel
noncomputable def f_X6_init_53   : Nat → Nat → Int32 → mmF → Nat → Option (mmF × Nat)
  | 0, _, _, _, _ => none
  | n + 1, v0, v1, f, sz =>
    (ldR f v0 6 1).bind fun x55 =>
    (lenA f x55).bind fun x58 =>
    if x58 ≤ v1 then
    (some (f, sz))
    else
    (ldR f v0 6 1).bind fun x63 =>
    (stA 0 f x63 v1 (65535 : Int32)).bind fun f69 =>
    f_X6_init_53 n v0 (v1 + (1 : Int32)) f69 sz
noncomputable def f_X6_init (v0 : Nat) (f : mmF) (sz : Nat) : Option (mmF × Nat) :=
  (some (va_up f sz (some (.inr (4, [.int 0, .null, .null, .null, .null, .int 0, .null, .null]))))).bind fun f5 =>
  (f_X4_init sz f5 (sz + 1)).bind fun q9 =>
  (stF q9.1 v0 6 0 (.ref sz)).bind fun f12 =>
  (some (va_up f12 q9.2 (some (.inl (0, 151, .inl (fun _ => 0)))))).bind fun f19 =>
  (stF f19 v0 6 1 (.ref q9.2)).bind fun f21 =>
  (some (va_up f21 (q9.2 + 1) (some (.inl (0, 151, .inl (fun _ => 0)))))).bind fun f28 =>
  (stF f28 v0 6 2 (.ref (q9.2 + 1))).bind fun f30 =>
  (some (va_up f30 ((q9.2 + 1) + 1) (some (.inl (0, 151, .inl (fun _ => 0)))))).bind fun f37 =>
  (stF f37 v0 6 3 (.ref ((q9.2 + 1) + 1))).bind fun f39 =>
  (some (va_up f39 (((q9.2 + 1) + 1) + 1) (some (.inl (0, 151, .inl (fun _ => 0)))))).bind fun f46 =>
  (stF f46 v0 6 4 (.ref (((q9.2 + 1) + 1) + 1))).bind fun f48 =>
  f_X6_init_53 FU v0 (0 : Int32) f48 ((((q9.2 + 1) + 1) + 1) + 1)
section S_X6_init
variable {p : Program} {l : Launch} {e : Env} {s : State} {m : MethodId} {args : Array Value} {below : List Frame} {meth : Method} {c : Code} {D : mmD} {b0 sz : Nat} {f : mmF}
set_option maxHeartbeats 4000000 in
set_option maxRecDepth 100000 in
theorem w_X6_init_53 (C0 : CX cX6_init 2 none wsX6_init RX6 p s m args meth c D b0) (hin : meth.name = "<init>") {res : mmF × Nat} : ∀ (n : Nat), ∀ (v0 : Nat) (v1 : Int32) (f : mmF) (sz : Nat), f_X6_init_53 n v0 v1 f sz = some res → ∀ (H : Heap) (locs : List Loc) (ls : Array Slot), MM vwCl D b0 f sz s H → mS b0 s H locs → lv_has ls 2 [(0, .ref v0), (1, .int v1)] → W p l e ({ frames := 2, cells := 11, slots := 1251, locals := 45 } : Room) s m args below meth c H locs 11 1251 (MQ below (QW D b0 none res.1 res.2) args s 11 1251 (fun q => b0 ≤ q)) (F0 m 53 ls []) := by
  obtain ⟨hx, hb, hr, hml, hown, hts, hlocks, hK⟩ := id C0
  intro n
  induction n with
  | zero =>
    intro v0 v1 f sz h
    have h : (none : Option (mmF × Nat)) = some res := h
    cases h
  | succ n ih =>
    intro v0 v1 f sz h H locs ls hM hS hl
    rw [f_X6_init_53] at h
    refine lv_iload_n hx hb dX6_init_53 rfl (lv_at hl 1 rfl) ?_
    refine lv_aload_n hx hb dX6_init_54 rfl (lv_at hl 0 rfl) ?_
    replace h := o_b h; obtain ⟨x55, h55, h⟩ := h
    refine m_get (C := RX6) (T := TX6) (N := 5) (ci := 6) hx hb hts qi_X6_init_X6 hown hK.1 hM 1 (ldR_F h55) rfl (by decide) (hts _ q_X6_init_1) (fun _ h9 => h9) dX6_init_55 ?_
    replace h := o_b h; obtain ⟨x58, h58, h⟩ := h
    refine m_alen hx hb hK.1 hM h58 dX6_init_58 ?_
    refine lv_icmp_ge (tgt := 76) hx hb dX6_init_59 (by decide) (fun c59 => ?_) (fun c59 => ?_)
    · replace h := o_t c59 h
      refine W.widen (k := 11) (n := 1251) (Nat.le_of_ble_eq_true rfl) (Nat.le_of_ble_eq_true rfl) ?_
      replace h := Option.some.inj h; subst h
      exact W.vret hx hb hr (fun t ht hW => ⟨rfl, by rw [ht]; exact hM.moved hW.alike, hS.F ht⟩) hS.2.2 dX6_init_76
    replace h := o_f c59 h
    refine lv_aload_n hx hb dX6_init_62 rfl (lv_at hl 0 rfl) ?_
    replace h := o_b h; obtain ⟨x63, h63, h⟩ := h
    refine m_get (C := RX6) (T := TX6) (N := 5) (ci := 6) hx hb hts qi_X6_init_X6 hown hK.1 hM 1 (ldR_F h63) rfl (by decide) (hts _ q_X6_init_1) (fun _ h9 => h9) dX6_init_63 ?_
    refine lv_iload_n hx hb dX6_init_66 rfl (lv_at hl 1 rfl) ?_
    refine lv_ldc (v := (65535 : Int32)) hx hb hown (hts _ q_X6_init_2) dX6_init_67 ?_
    replace h := o_b h; obtain ⟨f69, h69, h⟩ := h
    refine m_iast hx hb hK.1 hM hS rfl h69 dX6_init_69 (fun H locs hM hS => ?_)
    refine lv_iinc (v := (v1 + (1 : Int32))) (lv' := [(1, .int (v1 + (1 : Int32))), (0, .ref v0)]) hx hb dX6_init_70 hl (k := 1) rfl rfl (by decide) rfl (fun ls hl => ?_)
    refine lv_goto (tgt := 53) hx hb dX6_init_73 (by decide) ?_
    exact ih _ _ _ _ h _ _ _ hM hS (lv_sub hl [1, 0] rfl)
set_option maxHeartbeats 4000000 in
set_option maxRecDepth 100000 in
theorem w_X6_init (C0 : CX cX6_init 2 none wsX6_init RX6 p s m args meth c D b0) (hin : meth.name = "<init>") {v0 : Nat} {res : mmF × Nat} (h : f_X6_init v0 f sz = some res) : ∀ (H : Heap) (locs : List Loc) (ls : Array Slot), MM vwCl D b0 f sz s H → mS b0 s H locs → lv_has ls 2 [(0, .ref v0)] → W p l e ({ frames := 2, cells := 11, slots := 1251, locals := 45 } : Room) s m args below meth c H locs 0 0 (MQ below (QW D b0 none res.1 res.2) args s 11 1251 (fun q => b0 ≤ q)) (F0 m 0 ls []) := by
  obtain ⟨hx, hb, hr, hml, hown, hts, hlocks, hK⟩ := id C0
  intro H locs ls hM hS hl
  unfold f_X6_init at h
  refine lv_aload_n hx hb dX6_init_0 rfl (lv_at hl 0 rfl) ?_
  refine W.objInit hx hb hown (hts _ q_X6_init_3) (hts _ q_X6_init_4) (hts _ q_X6_init_5) rfl (by rw [hml]; exact hl.1) rfl dX6_init_1 (Nat.le_of_ble_eq_true rfl) (Nat.le_of_ble_eq_true rfl) ?_
  refine lv_aload_n hx hb dX6_init_4 rfl (lv_at hl 0 rfl) ?_
  refine m_new (ci := 4) (fs := [.int 0, .null, .null, .null, .null, .int 0, .null, .null]) (C := RX4) (T := TX4) (N := 8) hx hb hts qi_X6_init_X4 tyX4 tyX4_ok hown (hts _ q_X6_init_7) (hts _ q_X6_init_8) (hts _ q_X6_init_9) hK.1 hM hS rfl (fun j hj => by match j, hj with | 0, _ => rfl | 1, _ => rfl | 2, _ => rfl | 3, _ => rfl | 4, _ => rfl | 5, _ => rfl | 6, _ => rfl | 7, _ => rfl | j + 8, hj => exact absurd hj (by omega)) (Nat.le_of_ble_eq_true rfl) (Nat.le_of_ble_eq_true rfl) dX6_init_5 (fun H hM hS => ?_)
  replace h := o_b h; obtain ⟨f5, h5, h⟩ := h
  replace h5 := Option.some.inj h5
  subst h5
  refine lv_dup hx hb dX6_init_8 rfl ?_
  replace h := o_b h; obtain ⟨q9, h9, h⟩ := h
  refine m_call (va_runI (As := []) (rest := [.ref sz, .ref v0]) ⟨hx, hb, hml, hown, hts⟩ (c_X4_init l D b0 (sz + 1) h9) (cwI 0 hts gX6_init_X4_init rfl rfl rfl (hts _ q_X6_init_9) (hts _ q_X6_init_10) (hts _ q_X6_init_11) rfl (by decide +kernel) ⟨Nat.le_of_ble_eq_true rfl, Nat.le_of_ble_eq_true rfl⟩) ⟨PW.blind, (fun U hU hW => ⟨rfl, PW.call hK hM hS hU hW⟩)⟩ rfl rfl hl.1 rfl (lv_room (Nat.le_of_ble_eq_true rfl)) dX6_init_9 ⟨(Nat.le_of_ble_eq_true rfl), (Nat.le_of_ble_eq_true rfl)⟩) hS (fun H locs hM hS => ?_)
  replace h := o_b h; obtain ⟨f12, h12, h⟩ := h
  refine m_putF (ty := (.object "StageTruths$Parts")) (C := RX6) (T := TX6) (N := 5) (ci := 6) hx hb hts qi_X6_init_X6 tyX6 tyX6_ok nmX6 hown hK.1 hM hS 0 h12 rfl (by decide) (hts _ q_X6_init_12) (fun _ h9 => h9) rfl hin rfl (by decide +kernel) rfl rfl dX6_init_12 (fun H locs hM hS => ?_)
  refine lv_aload_n hx hb dX6_init_15 rfl (lv_at hl 0 rfl) ?_
  refine lv_sipush (v := (151 : Int32)) hx hb dX6_init_16 (by decide) ?_
  refine m_newa 0 (by decide) hx hb (atype := .int) (N' := 151) (hts _ q_X6_init_13) rfl rfl hK.1 hM hS (y := .inl (fun _ => 0)) (fun _ => rfl) (fun _ => Iff.rfl) (by decide) (by decide) (Nat.le_of_ble_eq_true rfl) (Nat.le_of_ble_eq_true rfl) (Nat.le_of_ble_eq_true rfl) dX6_init_19 (fun H hM hS => ?_)
  replace h := o_b h; obtain ⟨f19, h19, h⟩ := h
  replace h19 := Option.some.inj h19
  subst h19
  replace h := o_b h; obtain ⟨f21, h21, h⟩ := h
  refine m_putF (ty := (.array .int)) (C := RX6) (T := TX6) (N := 5) (ci := 6) hx hb hts qi_X6_init_X6 tyX6 tyX6_ok nmX6 hown hK.1 hM hS 1 h21 rfl (by decide) (hts _ q_X6_init_1) (fun _ h9 => h9) rfl hin rfl (by decide +kernel) rfl rfl dX6_init_21 (fun H locs hM hS => ?_)
  refine lv_aload_n hx hb dX6_init_24 rfl (lv_at hl 0 rfl) ?_
  refine lv_sipush (v := (151 : Int32)) hx hb dX6_init_25 (by decide) ?_
  refine m_newa 0 (by decide) hx hb (atype := .int) (N' := 151) (hts _ q_X6_init_13) rfl rfl hK.1 hM hS (y := .inl (fun _ => 0)) (fun _ => rfl) (fun _ => Iff.rfl) (by decide) (by decide) (Nat.le_of_ble_eq_true rfl) (Nat.le_of_ble_eq_true rfl) (Nat.le_of_ble_eq_true rfl) dX6_init_28 (fun H hM hS => ?_)
  replace h := o_b h; obtain ⟨f28, h28, h⟩ := h
  replace h28 := Option.some.inj h28
  subst h28
  replace h := o_b h; obtain ⟨f30, h30, h⟩ := h
  refine m_putF (ty := (.array .int)) (C := RX6) (T := TX6) (N := 5) (ci := 6) hx hb hts qi_X6_init_X6 tyX6 tyX6_ok nmX6 hown hK.1 hM hS 2 h30 rfl (by decide) (hts _ q_X6_init_14) (fun _ h9 => h9) rfl hin rfl (by decide +kernel) rfl rfl dX6_init_30 (fun H locs hM hS => ?_)
  refine lv_aload_n hx hb dX6_init_33 rfl (lv_at hl 0 rfl) ?_
  refine lv_sipush (v := (151 : Int32)) hx hb dX6_init_34 (by decide) ?_
  refine m_newa 0 (by decide) hx hb (atype := .int) (N' := 151) (hts _ q_X6_init_13) rfl rfl hK.1 hM hS (y := .inl (fun _ => 0)) (fun _ => rfl) (fun _ => Iff.rfl) (by decide) (by decide) (Nat.le_of_ble_eq_true rfl) (Nat.le_of_ble_eq_true rfl) (Nat.le_of_ble_eq_true rfl) dX6_init_37 (fun H hM hS => ?_)
  replace h := o_b h; obtain ⟨f37, h37, h⟩ := h
  replace h37 := Option.some.inj h37
  subst h37
  replace h := o_b h; obtain ⟨f39, h39, h⟩ := h
  refine m_putF (ty := (.array .int)) (C := RX6) (T := TX6) (N := 5) (ci := 6) hx hb hts qi_X6_init_X6 tyX6 tyX6_ok nmX6 hown hK.1 hM hS 3 h39 rfl (by decide) (hts _ q_X6_init_15) (fun _ h9 => h9) rfl hin rfl (by decide +kernel) rfl rfl dX6_init_39 (fun H locs hM hS => ?_)
  refine lv_aload_n hx hb dX6_init_42 rfl (lv_at hl 0 rfl) ?_
  refine lv_sipush (v := (151 : Int32)) hx hb dX6_init_43 (by decide) ?_
  refine m_newa 0 (by decide) hx hb (atype := .int) (N' := 151) (hts _ q_X6_init_13) rfl rfl hK.1 hM hS (y := .inl (fun _ => 0)) (fun _ => rfl) (fun _ => Iff.rfl) (by decide) (by decide) (Nat.le_of_ble_eq_true rfl) (Nat.le_of_ble_eq_true rfl) (Nat.le_of_ble_eq_true rfl) dX6_init_46 (fun H hM hS => ?_)
  replace h := o_b h; obtain ⟨f46, h46, h⟩ := h
  replace h46 := Option.some.inj h46
  subst h46
  replace h := o_b h; obtain ⟨f48, h48, h⟩ := h
  refine m_putF (ty := (.array .int)) (C := RX6) (T := TX6) (N := 5) (ci := 6) hx hb hts qi_X6_init_X6 tyX6 tyX6_ok nmX6 hown hK.1 hM hS 4 h48 rfl (by decide) (hts _ q_X6_init_16) (fun _ h9 => h9) rfl hin rfl (by decide +kernel) rfl rfl dX6_init_48 (fun H locs hM hS => ?_)
  refine lv_iconst (v := (0 : Int32)) hx hb dX6_init_51 (by decide) ?_
  refine lv_istore_n (lv' := [(1, .int (0 : Int32)), (0, .ref v0)]) hx hb dX6_init_52 rfl hl (by decide) rfl (fun ls hl => ?_)
  exact w_X6_init_53 C0 hin FU _ _ _ _ h _ _ _ hM hS (lv_sub hl [1, 0] rfl)
set_option maxHeartbeats 4000000 in
set_option maxRecDepth 100000 in
theorem c_X6_init (l : Launch) (D : mmD) (b0 sz : Nat) {v0 : Nat} {f : mmF} {res : mmF × Nat} (h : f_X6_init v0 f sz = some res) : Met l yX6_init wsX6_init ({ frames := 2, cells := 11, slots := 1251, locals := 45 } : Room) (va_Pc [.ref v0] (PW D b0 f sz)) (QW D b0 none res.1 res.2) 11 1251 (fun q => b0 ≤ q) := by
  refine Met.ofW (cc := cX6_init) (maxL := 2) (ret := none) (by decide) rfl ?_
  intro p e s m args below meth c s₁ B hml hv
  obtain ⟨rfl, hM, hK⟩ := hv
  have hl := lv_entry ([.ref v0]) (n := 2) (Nat.le_of_ble_eq_true rfl)
  rw [lg_entry_eq]
  generalize (lg_sl ([.ref v0]) ++ List.replicate (2 - (lg_sl ([.ref v0])).length) Slot.unset).toArray = ls at hl ⊢
  have hl : lv_has ls 2 [(0, .ref v0)] := hl
  exact w_X6_init ⟨B.exec, B.bytes, B.returns, hml, findClass_of_methodNamed B.named, atoms_spec (ws := wsX6_init) B.pre, B.notSynchronized, hK⟩ (name_of_methodNamed B.named B.method).1 h s.heap [] ls hM va_S.rf hl
end S_X6_init
