/-! X0_init -/
set_option maxRecDepth 20000 in
theorem qi_X0_init_X0 : ∀ w ∈ u_ws RX0 TX0 2, w ∈ wsX0_init := by decide +kernel
set_option maxRecDepth 20000 in
theorem q_X0_init_1 : Cond.fieldLink RX0 16 "StageTruths$Claim" "size" "I" ∈ wsX0_init := by decide +kernel
set_option maxRecDepth 20000 in
theorem q_X0_init_2 : Cond.fieldLink RX0 22 "StageTruths$Claim" "signs" "[I" ∈ wsX0_init := by decide +kernel
set_option maxRecDepth 20000 in
theorem q_X0_init_3 : Cond.methodLink RX0 1 objectInit ∈ wsX0_init := by decide +kernel
set_option maxRecDepth 20000 in
theorem q_X0_init_4 : Cond.instanceMethod objectInit ∈ wsX0_init := by decide +kernel
set_option maxRecDepth 20000 in
theorem q_X0_init_5 : Cond.code objectInit ⟨#[0xb1]⟩ 1 none ∈ wsX0_init := by decide +kernel
set_option maxRecDepth 20000 in
theorem q_X0_init_6 : Cond.methodLink RX0 7 Lib.Math.min.name ∈ wsX0_init := by decide +kernel
set_option maxRecDepth 20000 in
theorem q_X0_init_7 : Cond.static Lib.Math.min.name ∈ wsX0_init := by decide +kernel
set_option maxRecDepth 20000 in
theorem q_X0_init_8 : Cond.initialized "java/lang/Math" ∈ wsX0_init := by decide +kernel
set_option maxRecDepth 20000 in
theorem q_X0_init_9 : Cond.code Lib.Math.min.name Lib.Math.min.code 2 (some .int) ∈ wsX0_init := by decide +kernel
set_option maxRecDepth 20000 in
theorem q_X0_init_10 : Cond.methodLink RX0 13 Lib.Math.max.name ∈ wsX0_init := by decide +kernel
set_option maxRecDepth 20000 in
theorem q_X0_init_11 : Cond.static Lib.Math.max.name ∈ wsX0_init := by decide +kernel
set_option maxRecDepth 20000 in
theorem q_X0_init_12 : Cond.code Lib.Math.max.name Lib.Math.max.code 2 (some .int) ∈ wsX0_init := by decide +kernel
set_option maxRecDepth 20000 in
theorem q_X0_init_13 : Cond.arrayClass .int ∈ wsX0_init := by decide +kernel
noncomputable def f_X0_init_30   : Nat → Nat → Nat → Int32 → mmF → Nat → Option (mmF × Nat)
  | 0, _, _, _, _, _ => none
  | n + 1, v0, v1, v3, f, sz =>
    (ldI f v0 0 0).bind fun x32 =>
    if x32 ≤ v3 then
    (some (f, sz))
    else
    (ldR f v0 0 1).bind fun x39 =>
    (ldA 0 f v1 v3).bind fun x45 =>
    (stA 0 f x39 v3 x45).bind fun f46 =>
    f_X0_init_30 n v0 v1 (v3 + (1 : Int32)) f46 sz
noncomputable def f_X0_init (v0 : Nat) (v1 : Nat) (v2 : Int32) (f : mmF) (sz : Nat) : Option (mmF × Nat) :=
  (lenA f v1).bind fun x8 =>
  (stF f v0 0 0 (.int (if (0 : Int32) < (if x8 < v2 then x8 else v2) then (if x8 < v2 then x8 else v2) else (0 : Int32)))).bind fun f15 =>
  (ldI f15 v0 0 0).bind fun x20 =>
  if x20 < 0 ∨ 64 < x20.toNatClampNeg then none else
  (some (va_up f15 sz (some (.inl (0, x20.toNatClampNeg, .inl (fun _ => 0)))))).bind fun f23 =>
  (stF f23 v0 0 1 (.ref sz)).bind fun f25 =>
  f_X0_init_30 FU v0 v1 (0 : Int32) f25 (sz + 1)
section S_X0_init
variable {p : Program} {l : Launch} {e : Env} {s : State} {m : MethodId} {args : Array Value} {below : List Frame} {meth : Method} {c : Code} {D : mmD} {b0 sz : Nat} {f : mmF}
set_option maxHeartbeats 4000000 in
set_option maxRecDepth 100000 in
theorem w_X0_init_30 (C0 : CX cX0_init 4 none wsX0_init RX0 p s m args meth c D b0) (hin : meth.name = "<init>") {res : mmF × Nat} : ∀ (n : Nat), ∀ (v0 : Nat) (v1 : Nat) (v3 : Int32) (f : mmF) (sz : Nat), f_X0_init_30 n v0 v1 v3 f sz = some res → ∀ (H : Heap) (locs : List Loc) (ls : Array Slot), MM vwCl D b0 f sz s H → mS b0 s H locs → lv_has ls 4 [(0, .ref v0), (1, .ref v1), (3, .int v3)] → W p l e ({ frames := 1, cells := 1, slots := 64, locals := 24 } : Room) s m args below meth c H locs 1 64 (MQ below (QW D b0 none res.1 res.2) args s 1 64 (fun q => b0 ≤ q)) (F0 m 30 ls []) := by
  obtain ⟨hx, hb, hr, hml, hown, hts, hlocks, hK⟩ := id C0
  intro n
  induction n with
  | zero =>
    intro v0 v1 v3 f sz h
    have h : (none : Option (mmF × Nat)) = some res := h
    cases h
  | succ n ih =>
    intro v0 v1 v3 f sz h H locs ls hM hS hl
    rw [f_X0_init_30] at h
    refine lv_iload_n hx hb dX0_init_30 rfl (lv_at hl 2 rfl) ?_
    refine lv_aload_n hx hb dX0_init_31 rfl (lv_at hl 0 rfl) ?_
    replace h := o_b h; obtain ⟨x32, h32, h⟩ := h
    refine m_get (C := RX0) (T := TX0) (N := 2) (ci := 0) hx hb hts qi_X0_init_X0 hown hK.1 hM 0 (ldI_F h32) rfl (by decide) (hts _ q_X0_init_1) (fun _ h9 => h9) dX0_init_32 ?_
    refine lv_icmp_ge (tgt := 53) hx hb dX0_init_35 (by decide) (fun c35 => ?_) (fun c35 => ?_)
    · replace h := o_t c35 h
      refine W.widen (k := 1) (n := 64) (Nat.le_of_ble_eq_true rfl) (Nat.le_of_ble_eq_true rfl) ?_
      replace h := Option.some.inj h; subst h
      exact W.vret hx hb hr (fun t ht hW => ⟨rfl, by rw [ht]; exact hM.moved hW.alike, hS.F ht⟩) hS.2.2 dX0_init_53
    replace h := o_f c35 h
    refine lv_aload_n hx hb dX0_init_38 rfl (lv_at hl 0 rfl) ?_
    replace h := o_b h; obtain ⟨x39, h39, h⟩ := h
    refine m_get (C := RX0) (T := TX0) (N := 2) (ci := 0) hx hb hts qi_X0_init_X0 hown hK.1 hM 1 (ldR_F h39) rfl (by decide) (hts _ q_X0_init_2) (fun _ h9 => h9) dX0_init_39 ?_
    refine lv_iload_n hx hb dX0_init_42 rfl (lv_at hl 2 rfl) ?_
    refine lv_aload_n hx hb dX0_init_43 rfl (lv_at hl 1 rfl) ?_
    refine lv_iload_n hx hb dX0_init_44 rfl (lv_at hl 2 rfl) ?_
    replace h := o_b h; obtain ⟨x45, h45, h⟩ := h
    refine m_iald hx hb hK.1 hM hS rfl h45 dX0_init_45 ?_
    replace h := o_b h; obtain ⟨f46, h46, h⟩ := h
    refine m_iast hx hb hK.1 hM hS rfl h46 dX0_init_46 (fun H locs hM hS => ?_)
    refine lv_iinc (v := (v3 + (1 : Int32))) (lv' := [(3, .int (v3 + (1 : Int32))), (0, .ref v0), (1, .ref v1)]) hx hb dX0_init_47 hl (k := 2) rfl rfl (by decide) rfl (fun ls hl => ?_)
    refine lv_goto (tgt := 30) hx hb dX0_init_50 (by decide) ?_
    exact ih _ _ _ _ _ h _ _ _ hM hS (lv_sub hl [1, 2, 0] rfl)
set_option maxHeartbeats 4000000 in
set_option maxRecDepth 100000 in
theorem w_X0_init (C0 : CX cX0_init 4 none wsX0_init RX0 p s m args meth c D b0) (hin : meth.name = "<init>") {v0 : Nat} {v1 : Nat} {v2 : Int32} {res : mmF × Nat} (h : f_X0_init v0 v1 v2 f sz = some res) : ∀ (H : Heap) (locs : List Loc) (ls : Array Slot), MM vwCl D b0 f sz s H → mS b0 s H locs → lv_has ls 4 [(0, .ref v0), (1, .ref v1), (2, .int v2)] → W p l e ({ frames := 1, cells := 1, slots := 64, locals := 24 } : Room) s m args below meth c H locs 0 0 (MQ below (QW D b0 none res.1 res.2) args s 1 64 (fun q => b0 ≤ q)) (F0 m 0 ls []) := by
  obtain ⟨hx, hb, hr, hml, hown, hts, hlocks, hK⟩ := id C0
  intro H locs ls hM hS hl
  unfold f_X0_init at h
  refine lv_aload_n hx hb dX0_init_0 rfl (lv_at hl 0 rfl) ?_
  refine W.objInit hx hb hown (hts _ q_X0_init_3) (hts _ q_X0_init_4) (hts _ q_X0_init_5) rfl (by rw [hml]; exact hl.1) rfl dX0_init_1 (Nat.le_of_ble_eq_true rfl) (Nat.le_of_ble_eq_true rfl) ?_
  refine lv_aload_n hx hb dX0_init_4 rfl (lv_at hl 0 rfl) ?_
  refine lv_iconst (v := (0 : Int32)) hx hb dX0_init_5 (by decide) ?_
  refine lv_iload_n hx hb dX0_init_6 rfl (lv_at hl 2 rfl) ?_
  refine lv_aload_n hx hb dX0_init_7 rfl (lv_at hl 1 rfl) ?_
  replace h := o_b h; obtain ⟨x8, h8, h⟩ := h
  refine m_alen hx hb hK.1 hM h8 dX0_init_8 ?_
  refine va_mmin hx hb (hml.trans hl.1.symm) hown (hts _ q_X0_init_6) (hts _ q_X0_init_7) (hts _ q_X0_init_8) (hts _ q_X0_init_9) (Nat.le_of_ble_eq_true rfl) (Nat.le_of_ble_eq_true rfl) (Nat.zero_le _) (Nat.zero_le _) dX0_init_9 ?_
  refine va_mmax hx hb (hml.trans hl.1.symm) hown (hts _ q_X0_init_10) (hts _ q_X0_init_11) (hts _ q_X0_init_8) (hts _ q_X0_init_12) (Nat.le_of_ble_eq_true rfl) (Nat.le_of_ble_eq_true rfl) (Nat.zero_le _) (Nat.zero_le _) dX0_init_12 ?_
  replace h := o_b h; obtain ⟨f15, h15, h⟩ := h
  refine m_putF (ty := .int) (C := RX0) (T := TX0) (N := 2) (ci := 0) hx hb hts qi_X0_init_X0 tyX0 tyX0_ok nmX0 hown hK.1 hM hS 0 h15 rfl (by decide) (hts _ q_X0_init_1) (fun _ h9 => h9) rfl hin rfl (by decide +kernel) rfl rfl dX0_init_15 (fun H locs hM hS => ?_)
  refine lv_aload_n hx hb dX0_init_18 rfl (lv_at hl 0 rfl) ?_
  refine lv_aload_n hx hb dX0_init_19 rfl (lv_at hl 0 rfl) ?_
  replace h := o_b h; obtain ⟨x20, h20, h⟩ := h
  refine m_get (C := RX0) (T := TX0) (N := 2) (ci := 0) hx hb hts qi_X0_init_X0 hown hK.1 hM 0 (ldI_F h20) rfl (by decide) (hts _ q_X0_init_1) (fun _ h9 => h9) dX0_init_20 ?_
  replace h := o_n h; obtain ⟨z23, h⟩ := h
  refine m_newa 0 (by decide) hx hb (atype := .int) (N' := x20.toNatClampNeg) (hts _ q_X0_init_13) rfl rfl hK.1 hM hS (y := .inl (fun _ => 0)) (fun _ => rfl) (fun _ => Iff.rfl) (fun q9 => z23 (Or.inl q9)) rfl (Nat.le_trans (Nat.mul_le_mul_right _ (Nat.not_lt.mp fun q9 => z23 (Or.inr q9))) (Nat.le_of_ble_eq_true rfl)) (Nat.le_of_ble_eq_true rfl) (Nat.le_trans (Nat.add_le_add_left (Nat.not_lt.mp fun q9 => z23 (Or.inr q9)) 0) (Nat.le_of_ble_eq_true rfl)) dX0_init_23 (fun H hM hS => ?_)
  refine W.widen (k := 1) (n := 64) (Nat.le_of_ble_eq_true rfl) (Nat.add_le_add_left (Nat.not_lt.mp fun q9 => z23 (Or.inr q9)) 0) ?_
  replace h := o_b h; obtain ⟨f23, h23, h⟩ := h
  replace h23 := Option.some.inj h23
  subst h23
  replace h := o_b h; obtain ⟨f25, h25, h⟩ := h
  refine m_putF (ty := (.array .int)) (C := RX0) (T := TX0) (N := 2) (ci := 0) hx hb hts qi_X0_init_X0 tyX0 tyX0_ok nmX0 hown hK.1 hM hS 1 h25 rfl (by decide) (hts _ q_X0_init_2) (fun _ h9 => h9) rfl hin rfl (by decide +kernel) rfl rfl dX0_init_25 (fun H locs hM hS => ?_)
  refine lv_iconst (v := (0 : Int32)) hx hb dX0_init_28 (by decide) ?_
  refine lv_istore_n (lv' := [(3, .int (0 : Int32)), (0, .ref v0), (1, .ref v1), (2, .int v2)]) hx hb dX0_init_29 rfl hl (by decide) rfl (fun ls hl => ?_)
  exact w_X0_init_30 C0 hin FU _ _ _ _ _ h _ _ _ hM hS (lv_sub hl [1, 2, 0] rfl)
set_option maxHeartbeats 4000000 in
set_option maxRecDepth 100000 in
theorem c_X0_init (l : Launch) (D : mmD) (b0 sz : Nat) {v0 : Nat} {v1 : Nat} {v2 : Int32} {f : mmF} {res : mmF × Nat} (h : f_X0_init v0 v1 v2 f sz = some res) : Met l yX0_init wsX0_init ({ frames := 1, cells := 1, slots := 64, locals := 24 } : Room) (va_Pc [.ref v0, .ref v1, .int v2] (PW D b0 f sz)) (QW D b0 none res.1 res.2) 1 64 (fun q => b0 ≤ q) := by
  refine Met.ofW (cc := cX0_init) (maxL := 4) (ret := none) (by decide) rfl ?_
  intro p e s m args below meth c s₁ B hml hv
  obtain ⟨rfl, hM, hK⟩ := hv
  have hl := lv_entry ([.ref v0, .ref v1, .int v2]) (n := 4) (Nat.le_of_ble_eq_true rfl)
  rw [lg_entry_eq]
  generalize (lg_sl ([.ref v0, .ref v1, .int v2]) ++ List.replicate (4 - (lg_sl ([.ref v0, .ref v1, .int v2])).length) Slot.unset).toArray = ls at hl ⊢
  have hl : lv_has ls 4 [(0, .ref v0), (1, .ref v1), (2, .int v2)] := hl
  exact w_X0_init ⟨B.exec, B.bytes, B.returns, hml, findClass_of_methodNamed B.named, atoms_spec (ws := wsX0_init) B.pre, B.notSynchronized, hK⟩ (name_of_methodNamed B.named B.method).1 h s.heap [] ls hM va_S.rf hl
end S_X0_init
/-! X0_joined -/
set_option maxRecDepth 20000 in
theorem qi_X0_joined_X0 : ∀ w ∈ u_ws RX0 TX0 2, w ∈ wsX0_joined := by decide +kernel
set_option maxRecDepth 20000 in
theorem q_X0_joined_1 : Cond.classLink RX0 17 RX0 ∈ wsX0_joined := by decide +kernel
set_option maxRecDepth 20000 in
theorem q_X0_joined_2 : Cond.instantiable RX0 2 ∈ wsX0_joined := by decide +kernel
set_option maxRecDepth 20000 in
theorem q_X0_joined_3 : Cond.initialized RX0 ∈ wsX0_joined := by decide +kernel
set_option maxRecDepth 20000 in
theorem q_X0_joined_4 : Cond.methodLink RX0 26 yX0_init ∈ wsX0_joined := by decide +kernel
set_option maxRecDepth 20000 in
theorem q_X0_joined_5 : Cond.instanceMethod yX0_init ∈ wsX0_joined := by decide +kernel
set_option maxRecDepth 20000 in
theorem q_X0_joined_6 : Cond.fieldLink RX0 16 "StageTruths$Claim" "size" "I" ∈ wsX0_joined := by decide +kernel
set_option maxRecDepth 20000 in
theorem q_X0_joined_7 : Cond.fieldLink RX0 22 "StageTruths$Claim" "signs" "[I" ∈ wsX0_joined := by decide +kernel
set_option maxRecDepth 20000 in
theorem q_X0_joined_8 : Cond.arrayClass .int ∈ wsX0_joined := by decide +kernel
noncomputable def f_X0_joined_71 (k17 : Nat → Nat → Int32 → Nat → Int32 → mmF → Nat → Option (Nat × mmF × Nat))  (v0 : Nat) (v1 : Nat) (v2 : Int32) (v3 : Nat) (v4 : Int32) (t0 : Nat) (t1 : Int32) (t2 : Int32) (f : mmF) (sz : Nat) : Option (Nat × mmF × Nat) :=
  (stA 0 f t0 t1 t2).bind fun f71 =>
  k17 v0 v1 v2 v3 (v4 + (1 : Int32)) f71 sz
noncomputable def f_X0_joined_17   : Nat → Nat → Nat → Int32 → Nat → Int32 → mmF → Nat → Option (Nat × mmF × Nat)
  | 0, _, _, _, _, _, _, _ => none
  | n + 1, v0, v1, v2, v3, v4, f, sz =>
    (lenA f v3).bind fun x20 =>
    if x20 ≤ v4 then
    ((some (va_up f sz (some (.inr (0, [.int 0, .null]))))).bind fun f78 =>
    (lenA f78 v3).bind fun x84 =>
    (f_X0_init sz v3 x84 f78 (sz + 1)).bind fun q85 =>
    some (sz, q85.1, q85.2))
    else
    (ldI f v0 0 0).bind fun x30 =>
    if x30 ≤ v4 then
    ((lenA f v3).bind fun x51 =>
    if x51 ≤ (v4 + (1 : Int32)) then
    (f_X0_joined_71 (fun a0 a1 a2 a3 a4 a5 a6 => f_X0_joined_17 n a0 a1 a2 a3 a4 a5 a6) v0 v1 v2 v3 v4 v3 v4 v2 f sz)
    else
    (ldR f v1 0 1).bind fun x56 =>
    (ldI f v0 0 0).bind fun x62 =>
    (ldA 0 f x56 (v4 - x62)).bind fun x66 =>
    f_X0_joined_71 (fun a0 a1 a2 a3 a4 a5 a6 => f_X0_joined_17 n a0 a1 a2 a3 a4 a5 a6) v0 v1 v2 v3 v4 v3 v4 x66 f sz)
    else
    (ldR f v0 0 1).bind fun x37 =>
    (ldA 0 f x37 v4).bind fun x42 =>
    f_X0_joined_71 (fun a0 a1 a2 a3 a4 a5 a6 => f_X0_joined_17 n a0 a1 a2 a3 a4 a5 a6) v0 v1 v2 v3 v4 v3 v4 x42 f sz
noncomputable def f_X0_joined (v0 : Nat) (v1 : Nat) (v2 : Int32) (f : mmF) (sz : Nat) : Option (Nat × mmF × Nat) :=
  (ldI f v0 0 0).bind fun x1 =>
  (ldI f v1 0 0).bind fun x5 =>
  if ((x1 + x5) + (1 : Int32)) < 0 ∨ 64 < ((x1 + x5) + (1 : Int32)).toNatClampNeg then none else
  (some (va_up f sz (some (.inl (0, ((x1 + x5) + (1 : Int32)).toNatClampNeg, .inl (fun _ => 0)))))).bind fun f11 =>
  f_X0_joined_17 FU v0 v1 v2 sz (0 : Int32) f11 (sz + 1)
section S_X0_joined
variable {p : Program} {l : Launch} {e : Env} {s : State} {m : MethodId} {args : Array Value} {below : List Frame} {meth : Method} {c : Code} {D : mmD} {b0 sz : Nat} {f : mmF}
set_option maxHeartbeats 4000000 in
set_option maxRecDepth 100000 in
theorem w_X0_joined_71 (C0 : CX cX0_joined 5 (some (.object "StageTruths$Claim")) wsX0_joined RX0 p s m args meth c D b0) {k17 : Nat → Nat → Int32 → Nat → Int32 → mmF → Nat → Option (Nat × mmF × Nat)} {res : Nat × mmF × Nat} (hk17 : ∀ (v0 : Nat) (v1 : Nat) (v2 : Int32) (v3 : Nat) (v4 : Int32) (f : mmF) (sz : Nat), k17 v0 v1 v2 v3 v4 f sz = some res → ∀ (H : Heap) (locs : List Loc) (ls : Array Slot), MM vwCl D b0 f sz s H → mS b0 s H locs → lv_has ls 5 [(0, .ref v0), (1, .ref v1), (2, .int v2), (3, .ref v3), (4, .int v4)] → W p l e ({ frames := 2, cells := 3, slots := 130, locals := 47 } : Room) s m args below meth c H locs 1 64 (MQ below (QW D b0 (some (.ref res.1)) res.2.1 res.2.2) args s 3 130 (fun q => b0 ≤ q)) (F0 m 17 ls [])) : ∀ (v0 : Nat) (v1 : Nat) (v2 : Int32) (v3 : Nat) (v4 : Int32) (t0 : Nat) (t1 : Int32) (t2 : Int32) (f : mmF) (sz : Nat), f_X0_joined_71 k17 v0 v1 v2 v3 v4 t0 t1 t2 f sz = some res → ∀ (H : Heap) (locs : List Loc) (ls : Array Slot), MM vwCl D b0 f sz s H → mS b0 s H locs → lv_has ls 5 [(0, .ref v0), (1, .ref v1), (2, .int v2), (3, .ref v3), (4, .int v4)] → W p l e ({ frames := 2, cells := 3, slots := 130, locals := 47 } : Room) s m args below meth c H locs 1 64 (MQ below (QW D b0 (some (.ref res.1)) res.2.1 res.2.2) args s 3 130 (fun q => b0 ≤ q)) (F0 m 71 ls [.int t2, .int t1, .ref t0]) := by
  obtain ⟨hx, hb, hr, hml, hown, hts, hlocks, hK⟩ := id C0
  intro v0 v1 v2 v3 v4 t0 t1 t2 f sz h H locs ls hM hS hl
  unfold f_X0_joined_71 at h
  replace h := o_b h; obtain ⟨f71, h71, h⟩ := h
  refine m_iast hx hb hK.1 hM hS rfl h71 dX0_joined_71 (fun H locs hM hS => ?_)
  refine lv_iinc (v := (v4 + (1 : Int32))) (lv' := [(4, .int (v4 + (1 : Int32))), (0, .ref v0), (1, .ref v1), (2, .int v2), (3, .ref v3)]) hx hb dX0_joined_72 hl (k := 4) rfl rfl (by decide) rfl (fun ls hl => ?_)
  refine lv_goto (tgt := 17) hx hb dX0_joined_75 (by decide) ?_
  exact hk17 _ _ _ _ _ _ _ h _ _ _ hM hS (lv_sub hl [1, 2, 3, 4, 0] rfl)
set_option maxHeartbeats 4000000 in
set_option maxRecDepth 100000 in
theorem w_X0_joined_17 (C0 : CX cX0_joined 5 (some (.object "StageTruths$Claim")) wsX0_joined RX0 p s m args meth c D b0) {res : Nat × mmF × Nat} : ∀ (n : Nat), ∀ (v0 : Nat) (v1 : Nat) (v2 : Int32) (v3 : Nat) (v4 : Int32) (f : mmF) (sz : Nat), f_X0_joined_17 n v0 v1 v2 v3 v4 f sz = some res → ∀ (H : Heap) (locs : List Loc) (ls : Array Slot), MM vwCl D b0 f sz s H → mS b0 s H locs → lv_has ls 5 [(0, .ref v0), (1, .ref v1), (2, .int v2), (3, .ref v3), (4, .int v4)] → W p l e ({ frames := 2, cells := 3, slots := 130, locals := 47 } : Room) s m args below meth c H locs 1 64 (MQ below (QW D b0 (some (.ref res.1)) res.2.1 res.2.2) args s 3 130 (fun q => b0 ≤ q)) (F0 m 17 ls []) := by
  obtain ⟨hx, hb, hr, hml, hown, hts, hlocks, hK⟩ := id C0
  intro n
  induction n with
  | zero =>
    intro v0 v1 v2 v3 v4 f sz h
    have h : (none : Option (Nat × mmF × Nat)) = some res := h
    cases h
  | succ n ih =>
    intro v0 v1 v2 v3 v4 f sz h H locs ls hM hS hl
    rw [f_X0_joined_17] at h
    refine lv_iload hx hb dX0_joined_17 (lv_at hl 4 rfl) ?_
    refine lv_aload_n hx hb dX0_joined_19 rfl (lv_at hl 3 rfl) ?_
    replace h := o_b h; obtain ⟨x20, h20, h⟩ := h
    refine m_alen hx hb hK.1 hM h20 dX0_joined_20 ?_
    refine lv_icmp_ge (tgt := 78) hx hb dX0_joined_21 (by decide) (fun c21 => ?_) (fun c21 => ?_)
    · replace h := o_t c21 h
      refine m_new (ci := 0) (fs := [.int 0, .null]) (C := RX0) (T := TX0) (N := 2) hx hb hts qi_X0_joined_X0 tyX0 tyX0_ok hown (hts _ q_X0_joined_1) (hts _ q_X0_joined_2) (hts _ q_X0_joined_3) hK.1 hM hS rfl (fun j hj => by match j, hj with | 0, _ => rfl | 1, _ => rfl | j + 2, hj => exact absurd hj (by omega)) (Nat.le_of_ble_eq_true rfl) (Nat.le_of_ble_eq_true rfl) dX0_joined_78 (fun H hM hS => ?_)
      replace h := o_b h; obtain ⟨f78, h78, h⟩ := h
      replace h78 := Option.some.inj h78
      subst h78
      refine lv_dup hx hb dX0_joined_81 rfl ?_
      refine lv_aload_n hx hb dX0_joined_82 rfl (lv_at hl 3 rfl) ?_
      refine lv_aload_n hx hb dX0_joined_83 rfl (lv_at hl 3 rfl) ?_
      replace h := o_b h; obtain ⟨x84, h84, h⟩ := h
      refine m_alen hx hb hK.1 hM h84 dX0_joined_84 ?_
      replace h := o_b h; obtain ⟨q85, h85, h⟩ := h
      refine m_call (va_runI (As := [.ref v3, .int x84]) (rest := [.ref sz]) ⟨hx, hb, hml, hown, hts⟩ (c_X0_init l D b0 (sz + 1) h85) (cwI 2 hts gX0_joined_X0_init rfl rfl rfl (hts _ q_X0_joined_3) (hts _ q_X0_joined_4) (hts _ q_X0_joined_5) rfl (by decide +kernel) ⟨Nat.le_of_ble_eq_true rfl, Nat.le_of_ble_eq_true rfl⟩) ⟨PW.blind, (fun U hU hW => ⟨rfl, PW.call hK hM hS hU hW⟩)⟩ rfl rfl hl.1 rfl (lv_room (Nat.le_of_ble_eq_true rfl)) dX0_joined_85 ⟨(Nat.le_of_ble_eq_true rfl), (Nat.le_of_ble_eq_true rfl)⟩) hS (fun H locs hM hS => ?_)
      refine W.widen (k := 3) (n := 130) (Nat.le_of_ble_eq_true rfl) (Nat.le_of_ble_eq_true rfl) ?_
      replace h := Option.some.inj h; subst h
      exact W.aret hx hb hr (Or.inl ⟨_, rfl⟩) (Or.inr ⟨_, rfl⟩) (fun t ht hW => ⟨rfl, by rw [ht]; exact hM.moved hW.alike, hS.F ht⟩) hS.2.2 dX0_joined_88
    replace h := o_f c21 h
    refine lv_aload_n hx hb dX0_joined_24 rfl (lv_at hl 3 rfl) ?_
    refine lv_iload hx hb dX0_joined_25 (lv_at hl 4 rfl) ?_
    refine lv_iload hx hb dX0_joined_27 (lv_at hl 4 rfl) ?_
    refine lv_aload_n hx hb dX0_joined_29 rfl (lv_at hl 0 rfl) ?_
    replace h := o_b h; obtain ⟨x30, h30, h⟩ := h
    refine m_get (C := RX0) (T := TX0) (N := 2) (ci := 0) hx hb hts qi_X0_joined_X0 hown hK.1 hM 0 (ldI_F h30) rfl (by decide) (hts _ q_X0_joined_6) (fun _ h9 => h9) dX0_joined_30 ?_
    refine lv_icmp_ge (tgt := 46) hx hb dX0_joined_33 (by decide) (fun c33 => ?_) (fun c33 => ?_)
    · replace h := o_t c33 h
      refine lv_iload hx hb dX0_joined_46 (lv_at hl 4 rfl) ?_
      refine lv_iconst (v := (1 : Int32)) hx hb dX0_joined_48 (by decide) ?_
      refine lv_iadd hx hb dX0_joined_49 ?_
      refine lv_aload_n hx hb dX0_joined_50 rfl (lv_at hl 3 rfl) ?_
      replace h := o_b h; obtain ⟨x51, h51, h⟩ := h
      refine m_alen hx hb hK.1 hM h51 dX0_joined_51 ?_
      refine lv_icmp_ge (tgt := 70) hx hb dX0_joined_52 (by decide) (fun c52 => ?_) (fun c52 => ?_)
      · replace h := o_t c52 h
        refine lv_iload_n hx hb dX0_joined_70 rfl (lv_at hl 2 rfl) ?_
        exact w_X0_joined_71 C0 ih _ _ _ _ _ _ _ _ _ _ h _ _ _ hM hS (lv_sub hl [0, 1, 2, 3, 4] rfl)
      replace h := o_f c52 h
      refine lv_aload_n hx hb dX0_joined_55 rfl (lv_at hl 1 rfl) ?_
      replace h := o_b h; obtain ⟨x56, h56, h⟩ := h
      refine m_get (C := RX0) (T := TX0) (N := 2) (ci := 0) hx hb hts qi_X0_joined_X0 hown hK.1 hM 1 (ldR_F h56) rfl (by decide) (hts _ q_X0_joined_7) (fun _ h9 => h9) dX0_joined_56 ?_
      refine lv_iload hx hb dX0_joined_59 (lv_at hl 4 rfl) ?_
      refine lv_aload_n hx hb dX0_joined_61 rfl (lv_at hl 0 rfl) ?_
      replace h := o_b h; obtain ⟨x62, h62, h⟩ := h
      refine m_get (C := RX0) (T := TX0) (N := 2) (ci := 0) hx hb hts qi_X0_joined_X0 hown hK.1 hM 0 (ldI_F h62) rfl (by decide) (hts _ q_X0_joined_6) (fun _ h9 => h9) dX0_joined_62 ?_
      refine lv_isub hx hb dX0_joined_65 ?_
      replace h := o_b h; obtain ⟨x66, h66, h⟩ := h
      refine m_iald hx hb hK.1 hM hS rfl h66 dX0_joined_66 ?_
      refine lv_goto (tgt := 71) hx hb dX0_joined_67 (by decide) ?_
      exact w_X0_joined_71 C0 ih _ _ _ _ _ _ _ _ _ _ h _ _ _ hM hS (lv_sub hl [0, 1, 2, 3, 4] rfl)
    replace h := o_f c33 h
    refine lv_aload_n hx hb dX0_joined_36 rfl (lv_at hl 0 rfl) ?_
    replace h := o_b h; obtain ⟨x37, h37, h⟩ := h
    refine m_get (C := RX0) (T := TX0) (N := 2) (ci := 0) hx hb hts qi_X0_joined_X0 hown hK.1 hM 1 (ldR_F h37) rfl (by decide) (hts _ q_X0_joined_7) (fun _ h9 => h9) dX0_joined_37 ?_
    refine lv_iload hx hb dX0_joined_40 (lv_at hl 4 rfl) ?_
    replace h := o_b h; obtain ⟨x42, h42, h⟩ := h
    refine m_iald hx hb hK.1 hM hS rfl h42 dX0_joined_42 ?_
    refine lv_goto (tgt := 71) hx hb dX0_joined_43 (by decide) ?_
    exact w_X0_joined_71 C0 ih _ _ _ _ _ _ _ _ _ _ h _ _ _ hM hS (lv_sub hl [0, 1, 2, 3, 4] rfl)
set_option maxHeartbeats 4000000 in
set_option maxRecDepth 100000 in
theorem w_X0_joined (C0 : CX cX0_joined 5 (some (.object "StageTruths$Claim")) wsX0_joined RX0 p s m args meth c D b0) {v0 : Nat} {v1 : Nat} {v2 : Int32} {res : Nat × mmF × Nat} (h : f_X0_joined v0 v1 v2 f sz = some res) : ∀ (H : Heap) (locs : List Loc) (ls : Array Slot), MM vwCl D b0 f sz s H → mS b0 s H locs → lv_has ls 5 [(0, .ref v0), (1, .ref v1), (2, .int v2)] → W p l e ({ frames := 2, cells := 3, slots := 130, locals := 47 } : Room) s m args below meth c H locs 0 0 (MQ below (QW D b0 (some (.ref res.1)) res.2.1 res.2.2) args s 3 130 (fun q => b0 ≤ q)) (F0 m 0 ls []) := by
  obtain ⟨hx, hb, hr, hml, hown, hts, hlocks, hK⟩ := id C0
  intro H locs ls hM hS hl
  unfold f_X0_joined at h
  refine lv_aload_n hx hb dX0_joined_0 rfl (lv_at hl 0 rfl) ?_
  replace h := o_b h; obtain ⟨x1, h1, h⟩ := h
  refine m_get (C := RX0) (T := TX0) (N := 2) (ci := 0) hx hb hts qi_X0_joined_X0 hown hK.1 hM 0 (ldI_F h1) rfl (by decide) (hts _ q_X0_joined_6) (fun _ h9 => h9) dX0_joined_1 ?_
  refine lv_aload_n hx hb dX0_joined_4 rfl (lv_at hl 1 rfl) ?_
  replace h := o_b h; obtain ⟨x5, h5, h⟩ := h
  refine m_get (C := RX0) (T := TX0) (N := 2) (ci := 0) hx hb hts qi_X0_joined_X0 hown hK.1 hM 0 (ldI_F h5) rfl (by decide) (hts _ q_X0_joined_6) (fun _ h9 => h9) dX0_joined_5 ?_
  refine lv_iadd hx hb dX0_joined_8 ?_
  refine lv_iconst (v := (1 : Int32)) hx hb dX0_joined_9 (by decide) ?_
  refine lv_iadd hx hb dX0_joined_10 ?_
  replace h := o_n h; obtain ⟨z11, h⟩ := h
  refine m_newa 0 (by decide) hx hb (atype := .int) (N' := ((x1 + x5) + (1 : Int32)).toNatClampNeg) (hts _ q_X0_joined_8) rfl rfl hK.1 hM hS (y := .inl (fun _ => 0)) (fun _ => rfl) (fun _ => Iff.rfl) (fun q9 => z11 (Or.inl q9)) rfl (Nat.le_trans (Nat.mul_le_mul_right _ (Nat.not_lt.mp fun q9 => z11 (Or.inr q9))) (Nat.le_of_ble_eq_true rfl)) (Nat.le_of_ble_eq_true rfl) (Nat.le_trans (Nat.add_le_add_left (Nat.not_lt.mp fun q9 => z11 (Or.inr q9)) 0) (Nat.le_of_ble_eq_true rfl)) dX0_joined_11 (fun H hM hS => ?_)
  refine W.widen (k := 1) (n := 64) (Nat.le_of_ble_eq_true rfl) (Nat.add_le_add_left (Nat.not_lt.mp fun q9 => z11 (Or.inr q9)) 0) ?_
  replace h := o_b h; obtain ⟨f11, h11, h⟩ := h
  replace h11 := Option.some.inj h11
  subst h11
  refine lv_astore_n (lv' := [(3, .ref sz), (0, .ref v0), (1, .ref v1), (2, .int v2)]) hx hb dX0_joined_13 rfl hl (by decide) rfl (fun ls hl => ?_)
  refine lv_iconst (v := (0 : Int32)) hx hb dX0_joined_14 (by decide) ?_
  refine lv_istore (lv' := [(4, .int (0 : Int32)), (3, .ref sz), (0, .ref v0), (1, .ref v1), (2, .int v2)]) hx hb dX0_joined_15 hl (by decide) rfl (fun ls hl => ?_)
  exact w_X0_joined_17 C0 FU _ _ _ _ _ _ _ h _ _ _ hM hS (lv_sub hl [2, 3, 4, 1, 0] rfl)
set_option maxHeartbeats 4000000 in
set_option maxRecDepth 100000 in
theorem c_X0_joined (l : Launch) (D : mmD) (b0 sz : Nat) {v0 : Nat} {v1 : Nat} {v2 : Int32} {f : mmF} {res : Nat × mmF × Nat} (h : f_X0_joined v0 v1 v2 f sz = some res) : Met l yX0_joined wsX0_joined ({ frames := 2, cells := 3, slots := 130, locals := 47 } : Room) (va_Pc [.ref v0, .ref v1, .int v2] (PW D b0 f sz)) (QW D b0 (some (.ref res.1)) res.2.1 res.2.2) 3 130 (fun q => b0 ≤ q) := by
  refine Met.ofW (cc := cX0_joined) (maxL := 5) (ret := (some (.object "StageTruths$Claim"))) (by decide) rfl ?_
  intro p e s m args below meth c s₁ B hml hv
  obtain ⟨rfl, hM, hK⟩ := hv
  have hl := lv_entry ([.ref v0, .ref v1, .int v2]) (n := 5) (Nat.le_of_ble_eq_true rfl)
  rw [lg_entry_eq]
  generalize (lg_sl ([.ref v0, .ref v1, .int v2]) ++ List.replicate (5 - (lg_sl ([.ref v0, .ref v1, .int v2])).length) Slot.unset).toArray = ls at hl ⊢
  have hl : lv_has ls 5 [(0, .ref v0), (1, .ref v1), (2, .int v2)] := hl
  exact w_X0_joined ⟨B.exec, B.bytes, B.returns, hml, findClass_of_methodNamed B.named, atoms_spec (ws := wsX0_joined) B.pre, B.notSynchronized, hK⟩ h s.heap [] ls hM va_S.rf hl
end S_X0_joined
/-! X0_isSameAs -/
set_option maxRecDepth 20000 in
theorem qi_X0_isSameAs_X0 : ∀ w ∈ u_ws RX0 TX0 2, w ∈ wsX0_isSameAs := by decide +kernel
set_option maxRecDepth 20000 in
theorem q_X0_isSameAs_1 : Cond.fieldLink RX0 16 "StageTruths$Claim" "size" "I" ∈ wsX0_isSameAs := by decide +kernel
set_option maxRecDepth 20000 in
theorem q_X0_isSameAs_2 : Cond.fieldLink RX0 22 "StageTruths$Claim" "signs" "[I" ∈ wsX0_isSameAs := by decide +kernel
noncomputable def f_X0_isSameAs_15  (f : mmF) : Nat → Nat → Nat → Int32 → Option (Int32)
  | 0, _, _, _ => none
  | n + 1, v0, v1, v2 =>
    (ldI f v0 0 0).bind fun x17 =>
    if x17 ≤ v2 then
    (some ((1 : Int32)))
    else
    (ldR f v0 0 1).bind fun x24 =>
    (ldA 0 f x24 v2).bind fun x28 =>
    (ldR f v1 0 1).bind fun x30 =>
    (ldA 0 f x30 v2).bind fun x34 =>
    if x28 = x34 then
    (f_X0_isSameAs_15 f n v0 v1 (v2 + (1 : Int32)))
    else
    some ((0 : Int32))
noncomputable def f_X0_isSameAs (v0 : Nat) (v1 : Nat) (f : mmF) : Option (Int32) :=
  (ldI f v0 0 0).bind fun x1 =>
  (ldI f v1 0 0).bind fun x5 =>
  if x1 = x5 then
  (f_X0_isSameAs_15 f FU v0 v1 (0 : Int32))
  else
  some ((0 : Int32))
section S_X0_isSameAs
variable {p : Program} {l : Launch} {e : Env} {s : State} {m : MethodId} {args : Array Value} {below : List Frame} {meth : Method} {c : Code} {D : mmD} {b0 sz : Nat} {f : mmF}
set_option maxHeartbeats 4000000 in
set_option maxRecDepth 100000 in
theorem w_X0_isSameAs_15 (C0 : CX cX0_isSameAs 3 (some .boolean) wsX0_isSameAs RX0 p s m args meth c D b0) {res : Int32} : ∀ (n : Nat), ∀ (v0 : Nat) (v1 : Nat) (v2 : Int32), f_X0_isSameAs_15 f n v0 v1 v2 = some res → ∀ (H : Heap) (locs : List Loc) (ls : Array Slot), MM vwCl D b0 f sz s H → mS b0 s H locs → lv_has ls 3 [(0, .ref v0), (1, .ref v1), (2, .int v2)] → W p l e ({ frames := 0, cells := 0, slots := 0, locals := 0 } : Room) s m args below meth c H locs 0 0 (MQ below (QW D b0 (some (.int res)) f sz) args s 0 0 (fun q => b0 ≤ q)) (F0 m 15 ls []) := by
  obtain ⟨hx, hb, hr, hml, hown, hts, hlocks, hK⟩ := id C0
  intro n
  induction n with
  | zero =>
    intro v0 v1 v2 h
    have h : (none : Option (Int32)) = some res := h
    cases h
  | succ n ih =>
    intro v0 v1 v2 h H locs ls hM hS hl
    rw [f_X0_isSameAs_15] at h
    refine lv_iload_n hx hb dX0_isSameAs_15 rfl (lv_at hl 2 rfl) ?_
    refine lv_aload_n hx hb dX0_isSameAs_16 rfl (lv_at hl 0 rfl) ?_
    replace h := o_b h; obtain ⟨x17, h17, h⟩ := h
    refine m_get (C := RX0) (T := TX0) (N := 2) (ci := 0) hx hb hts qi_X0_isSameAs_X0 hown hK.1 hM 0 (ldI_F h17) rfl (by decide) (hts _ q_X0_isSameAs_1) (fun _ h9 => h9) dX0_isSameAs_17 ?_
    refine lv_icmp_ge (tgt := 46) hx hb dX0_isSameAs_20 (by decide) (fun c20 => ?_) (fun c20 => ?_)
    · replace h := o_t c20 h
      refine lv_iconst (v := (1 : Int32)) hx hb dX0_isSameAs_46 (by decide) ?_
      replace h := Option.some.inj h; subst h
      exact W.zret hx hb hr rfl (fun t ht hW => ⟨rfl, by rw [ht]; exact hM.moved hW.alike, hS.F ht⟩) hS.2.2 dX0_isSameAs_47
    replace h := o_f c20 h
    refine lv_aload_n hx hb dX0_isSameAs_23 rfl (lv_at hl 0 rfl) ?_
    replace h := o_b h; obtain ⟨x24, h24, h⟩ := h
    refine m_get (C := RX0) (T := TX0) (N := 2) (ci := 0) hx hb hts qi_X0_isSameAs_X0 hown hK.1 hM 1 (ldR_F h24) rfl (by decide) (hts _ q_X0_isSameAs_2) (fun _ h9 => h9) dX0_isSameAs_24 ?_
    refine lv_iload_n hx hb dX0_isSameAs_27 rfl (lv_at hl 2 rfl) ?_
    replace h := o_b h; obtain ⟨x28, h28, h⟩ := h
    refine m_iald hx hb hK.1 hM hS rfl h28 dX0_isSameAs_28 ?_
    refine lv_aload_n hx hb dX0_isSameAs_29 rfl (lv_at hl 1 rfl) ?_
    replace h := o_b h; obtain ⟨x30, h30, h⟩ := h
    refine m_get (C := RX0) (T := TX0) (N := 2) (ci := 0) hx hb hts qi_X0_isSameAs_X0 hown hK.1 hM 1 (ldR_F h30) rfl (by decide) (hts _ q_X0_isSameAs_2) (fun _ h9 => h9) dX0_isSameAs_30 ?_
    refine lv_iload_n hx hb dX0_isSameAs_33 rfl (lv_at hl 2 rfl) ?_
    replace h := o_b h; obtain ⟨x34, h34, h⟩ := h
    refine m_iald hx hb hK.1 hM hS rfl h34 dX0_isSameAs_34 ?_
    refine lv_icmp_eq (tgt := 40) hx hb dX0_isSameAs_35 (by decide) (fun c35 => ?_) (fun c35 => ?_)
    · replace h := o_t c35 h
      refine lv_iinc (v := (v2 + (1 : Int32))) (lv' := [(2, .int (v2 + (1 : Int32))), (0, .ref v0), (1, .ref v1)]) hx hb dX0_isSameAs_40 hl (k := 2) rfl rfl (by decide) rfl (fun ls hl => ?_)
      refine lv_goto (tgt := 15) hx hb dX0_isSameAs_43 (by decide) ?_
      exact ih _ _ _ h _ _ _ hM hS (lv_sub hl [1, 2, 0] rfl)
    replace h := o_f c35 h
    refine lv_iconst (v := (0 : Int32)) hx hb dX0_isSameAs_38 (by decide) ?_
    replace h := Option.some.inj h; subst h
    exact W.zret hx hb hr rfl (fun t ht hW => ⟨rfl, by rw [ht]; exact hM.moved hW.alike, hS.F ht⟩) hS.2.2 dX0_isSameAs_39
set_option maxHeartbeats 4000000 in
set_option maxRecDepth 100000 in
theorem w_X0_isSameAs (C0 : CX cX0_isSameAs 3 (some .boolean) wsX0_isSameAs RX0 p s m args meth c D b0) {v0 : Nat} {v1 : Nat} {res : Int32} (h : f_X0_isSameAs v0 v1 f = some res) : ∀ (H : Heap) (locs : List Loc) (ls : Array Slot), MM vwCl D b0 f sz s H → mS b0 s H locs → lv_has ls 3 [(0, .ref v0), (1, .ref v1)] → W p l e ({ frames := 0, cells := 0, slots := 0, locals := 0 } : Room) s m args below meth c H locs 0 0 (MQ below (QW D b0 (some (.int res)) f sz) args s 0 0 (fun q => b0 ≤ q)) (F0 m 0 ls []) := by
  obtain ⟨hx, hb, hr, hml, hown, hts, hlocks, hK⟩ := id C0
  intro H locs ls hM hS hl
  unfold f_X0_isSameAs at h
  refine lv_aload_n hx hb dX0_isSameAs_0 rfl (lv_at hl 0 rfl) ?_
  replace h := o_b h; obtain ⟨x1, h1, h⟩ := h
  refine m_get (C := RX0) (T := TX0) (N := 2) (ci := 0) hx hb hts qi_X0_isSameAs_X0 hown hK.1 hM 0 (ldI_F h1) rfl (by decide) (hts _ q_X0_isSameAs_1) (fun _ h9 => h9) dX0_isSameAs_1 ?_
  refine lv_aload_n hx hb dX0_isSameAs_4 rfl (lv_at hl 1 rfl) ?_
  replace h := o_b h; obtain ⟨x5, h5, h⟩ := h
  refine m_get (C := RX0) (T := TX0) (N := 2) (ci := 0) hx hb hts qi_X0_isSameAs_X0 hown hK.1 hM 0 (ldI_F h5) rfl (by decide) (hts _ q_X0_isSameAs_1) (fun _ h9 => h9) dX0_isSameAs_5 ?_
  refine lv_icmp_eq (tgt := 13) hx hb dX0_isSameAs_8 (by decide) (fun c8 => ?_) (fun c8 => ?_)
  · replace h := o_t c8 h
    refine lv_iconst (v := (0 : Int32)) hx hb dX0_isSameAs_13 (by decide) ?_
    refine lv_istore_n (lv' := [(2, .int (0 : Int32)), (0, .ref v0), (1, .ref v1)]) hx hb dX0_isSameAs_14 rfl hl (by decide) rfl (fun ls hl => ?_)
    exact w_X0_isSameAs_15 C0 FU _ _ _ h _ _ _ hM hS (lv_sub hl [1, 2, 0] rfl)
  replace h := o_f c8 h
  refine lv_iconst (v := (0 : Int32)) hx hb dX0_isSameAs_11 (by decide) ?_
  replace h := Option.some.inj h; subst h
  exact W.zret hx hb hr rfl (fun t ht hW => ⟨rfl, by rw [ht]; exact hM.moved hW.alike, hS.F ht⟩) hS.2.2 dX0_isSameAs_12
set_option maxHeartbeats 4000000 in
set_option maxRecDepth 100000 in
theorem c_X0_isSameAs (l : Launch) (D : mmD) (b0 sz : Nat) {v0 : Nat} {v1 : Nat} {f : mmF} {res : Int32} (h : f_X0_isSameAs v0 v1 f = some res) : Met l yX0_isSameAs wsX0_isSameAs ({ frames := 0, cells := 0, slots := 0, locals := 0 } : Room) (va_Pc [.ref v0, .ref v1] (PW D b0 f sz)) (QW D b0 (some (.int res)) f sz) 0 0 (fun q => b0 ≤ q) := by
  refine Met.ofW (cc := cX0_isSameAs) (maxL := 3) (ret := (some .boolean)) (by decide) rfl ?_
  intro p e s m args below meth c s₁ B hml hv
  obtain ⟨rfl, hM, hK⟩ := hv
  have hl := lv_entry ([.ref v0, .ref v1]) (n := 3) (Nat.le_of_ble_eq_true rfl)
  rw [lg_entry_eq]
  generalize (lg_sl ([.ref v0, .ref v1]) ++ List.replicate (3 - (lg_sl ([.ref v0, .ref v1])).length) Slot.unset).toArray = ls at hl ⊢
  have hl : lv_has ls 3 [(0, .ref v0), (1, .ref v1)] := hl
  exact w_X0_isSameAs ⟨B.exec, B.bytes, B.returns, hml, findClass_of_methodNamed B.named, atoms_spec (ws := wsX0_isSameAs) B.pre, B.notSynchronized, hK⟩ h s.heap [] ls hM va_S.rf hl
end S_X0_isSameAs
/-! X3_init -/
set_option maxRecDepth 20000 in
theorem q_X3_init_0 : Cond.methodLink RX3 1 objectInit ∈ wsX3_init := by decide +kernel
set_option maxRecDepth 20000 in
theorem q_X3_init_1 : Cond.instanceMethod objectInit ∈ wsX3_init := by decide +kernel
set_option maxRecDepth 20000 in
theorem q_X3_init_2 : Cond.code objectInit ⟨#[0xb1]⟩ 1 none ∈ wsX3_init := by decide +kernel
set_option maxRecDepth 20000 in
theorem qi_X3_init_X3 : ∀ w ∈ u_ws RX3 TX3 3, w ∈ wsX3_init := by decide +kernel
set_option maxRecDepth 20000 in
theorem q_X3_init_4 : Cond.fieldLink RX3 7 "StageTruths$PartSet" "low" "J" ∈ wsX3_init := by decide +kernel
set_option maxRecDepth 20000 in
theorem q_X3_init_5 : Cond.fieldLink RX3 13 "StageTruths$PartSet" "middle" "J" ∈ wsX3_init := by decide +kernel
set_option maxRecDepth 20000 in
theorem q_X3_init_6 : Cond.fieldLink RX3 16 "StageTruths$PartSet" "high" "J" ∈ wsX3_init := by decide +kernel
noncomputable def f_X3_init (v0 : Nat) (f : mmF) : Option (mmF) :=
  (stF f v0 3 0 (.long (0 : Int64))).bind fun f6 =>
  (stF f6 v0 3 1 (.long (0 : Int64))).bind fun f11 =>
  (stF f11 v0 3 2 (.long (0 : Int64))).bind fun f16 =>
  some (f16)
section S_X3_init
variable {p : Program} {l : Launch} {e : Env} {s : State} {m : MethodId} {args : Array Value} {below : List Frame} {meth : Method} {c : Code} {D : mmD} {b0 sz : Nat} {f : mmF}
set_option maxHeartbeats 4000000 in
set_option maxRecDepth 100000 in
theorem w_X3_init (C0 : CX cX3_init 1 none wsX3_init RX3 p s m args meth c D b0) (hin : meth.name = "<init>") {v0 : Nat} {res : mmF} (h : f_X3_init v0 f = some res) : ∀ (H : Heap) (locs : List Loc) (ls : Array Slot), MM vwCl D b0 f sz s H → mS b0 s H locs → lv_has ls 1 [(0, .ref v0)] → W p l e ({ frames := 1, cells := 0, slots := 0, locals := 24 } : Room) s m args below meth c H locs 0 0 (MQ below (QW D b0 none res sz) args s 0 0 (fun q => b0 ≤ q)) (F0 m 0 ls []) := by
  obtain ⟨hx, hb, hr, hml, hown, hts, hlocks, hK⟩ := id C0
  intro H locs ls hM hS hl
  unfold f_X3_init at h
  refine lv_aload_n hx hb dX3_init_0 rfl (lv_at hl 0 rfl) ?_
  refine W.objInit hx hb hown (hts _ q_X3_init_0) (hts _ q_X3_init_1) (hts _ q_X3_init_2) rfl (by rw [hml]; exact hl.1) rfl dX3_init_1 (Nat.le_of_ble_eq_true rfl) (Nat.le_of_ble_eq_true rfl) ?_
  refine lv_aload_n hx hb dX3_init_4 rfl (lv_at hl 0 rfl) ?_
  refine lv_lconst (v := (0 : Int64)) hx hb dX3_init_5 (by decide) ?_
  replace h := o_b h; obtain ⟨f6, h6, h⟩ := h
  refine m_put (ty := .long) (C := RX3) (T := TX3) (N := 3) (ci := 3) hx hb hts qi_X3_init_X3 tyX3 tyX3_ok nmX3 hown hK.1 hM hS 0 h6 rfl (by decide) (hts _ q_X3_init_4) (fun _ h9 => h9) rfl (by decide +kernel) rfl rfl dX3_init_6 (fun H locs hM hS => ?_)
  refine lv_aload_n hx hb dX3_init_9 rfl (lv_at hl 0 rfl) ?_
  refine lv_lconst (v := (0 : Int64)) hx hb dX3_init_10 (by decide) ?_
  replace h := o_b h; obtain ⟨f11, h11, h⟩ := h
  refine m_put (ty := .long) (C := RX3) (T := TX3) (N := 3) (ci := 3) hx hb hts qi_X3_init_X3 tyX3 tyX3_ok nmX3 hown hK.1 hM hS 1 h11 rfl (by decide) (hts _ q_X3_init_5) (fun _ h9 => h9) rfl (by decide +kernel) rfl rfl dX3_init_11 (fun H locs hM hS => ?_)
  refine lv_aload_n hx hb dX3_init_14 rfl (lv_at hl 0 rfl) ?_
  refine lv_lconst (v := (0 : Int64)) hx hb dX3_init_15 (by decide) ?_
  replace h := o_b h; obtain ⟨f16, h16, h⟩ := h
  refine m_put (ty := .long) (C := RX3) (T := TX3) (N := 3) (ci := 3) hx hb hts qi_X3_init_X3 tyX3 tyX3_ok nmX3 hown hK.1 hM hS 2 h16 rfl (by decide) (hts _ q_X3_init_6) (fun _ h9 => h9) rfl (by decide +kernel) rfl rfl dX3_init_16 (fun H locs hM hS => ?_)
  replace h := Option.some.inj h; subst h
  exact W.vret hx hb hr (fun t ht hW => ⟨rfl, by rw [ht]; exact hM.moved hW.alike, hS.F ht⟩) hS.2.2 dX3_init_19
set_option maxHeartbeats 4000000 in
set_option maxRecDepth 100000 in
theorem c_X3_init (l : Launch) (D : mmD) (b0 sz : Nat) {v0 : Nat} {f : mmF} {res : mmF} (h : f_X3_init v0 f = some res) : Met l yX3_init wsX3_init ({ frames := 1, cells := 0, slots := 0, locals := 24 } : Room) (va_Pc [.ref v0] (PW D b0 f sz)) (QW D b0 none res sz) 0 0 (fun q => b0 ≤ q) := by
  refine Met.ofW (cc := cX3_init) (maxL := 1) (ret := none) (by decide) rfl ?_
  intro p e s m args below meth c s₁ B hml hv
  obtain ⟨rfl, hM, hK⟩ := hv
  have hl := lv_entry ([.ref v0]) (n := 1) (Nat.le_of_ble_eq_true rfl)
  rw [lg_entry_eq]
  generalize (lg_sl ([.ref v0]) ++ List.replicate (1 - (lg_sl ([.ref v0])).length) Slot.unset).toArray = ls at hl ⊢
  have hl : lv_has ls 1 [(0, .ref v0)] := hl
  exact w_X3_init ⟨B.exec, B.bytes, B.returns, hml, findClass_of_methodNamed B.named, atoms_spec (ws := wsX3_init) B.pre, B.notSynchronized, hK⟩ (name_of_methodNamed B.named B.method).1 h s.heap [] ls hM va_S.rf hl
end S_X3_init
/-! X1_init -/
set_option maxRecDepth 20000 in
theorem qi_X1_init_X1 : ∀ w ∈ u_ws RX1 TX1 4, w ∈ wsX1_init := by decide +kernel
set_option maxRecDepth 20000 in
theorem q_X1_init_1 : Cond.fieldLink RX1 15 "StageTruths$Findings" "sets" "[LStageTruths$PartSet;" ∈ wsX1_init := by decide +kernel
set_option maxRecDepth 20000 in
theorem qi_X1_init_X3 : ∀ w ∈ u_ws RX3 TX3 3, w ∈ wsX1_init := by decide +kernel
set_option maxRecDepth 20000 in
theorem q_X1_init_3 : Cond.classLink RX1 13 RX3 ∈ wsX1_init := by decide +kernel
set_option maxRecDepth 20000 in
theorem q_X1_init_4 : Cond.instantiable RX3 3 ∈ wsX1_init := by decide +kernel
set_option maxRecDepth 20000 in
theorem q_X1_init_5 : Cond.initialized RX3 ∈ wsX1_init := by decide +kernel
set_option maxRecDepth 20000 in
theorem q_X1_init_6 : Cond.instanceMethod yX3_init ∈ wsX1_init := by decide +kernel
set_option maxRecDepth 20000 in
theorem q_X1_init_7 : Cond.methodLink RX1 1 objectInit ∈ wsX1_init := by decide +kernel
set_option maxRecDepth 20000 in
theorem q_X1_init_8 : Cond.instanceMethod objectInit ∈ wsX1_init := by decide +kernel
set_option maxRecDepth 20000 in
theorem q_X1_init_9 : Cond.code objectInit ⟨#[0xb1]⟩ 1 none ∈ wsX1_init := by decide +kernel
set_option maxRecDepth 20000 in
theorem q_X1_init_10 : Cond.fieldLink RX1 7 "StageTruths$Findings" "size" "I" ∈ wsX1_init := by decide +kernel
set_option maxRecDepth 20000 in
theorem q_X1_init_11 : Cond.arrayClass .int ∈ wsX1_init := by decide +kernel
set_option maxRecDepth 20000 in
theorem q_X1_init_12 : Cond.fieldLink RX1 19 "StageTruths$Findings" "goals" "[I" ∈ wsX1_init := by decide +kernel
set_option maxRecDepth 20000 in
theorem q_X1_init_13 : Cond.fieldLink RX1 23 "StageTruths$Findings" "next" "I" ∈ wsX1_init := by decide +kernel
noncomputable def f_X1_init_35   : Nat → Nat → Int32 → mmF → Nat → Nat → Nat → Option (mmF × Nat)
  | 0, _, _, _, _, _, _ => none
  | n + 1, v0, v1, f, sz, kc, ks =>
    if (128 : Int32) ≤ v1 then
    (if ¬ (kc ≤ 130 ∧ ks ≤ 640) then none else
    some (f, sz))
    else
    (ldR f v0 1 1).bind fun x43 =>
    if ¬ (kc + 1 ≤ 130 ∧ ks + 3 ≤ 640) then none else
    (some (va_up f sz (some (.inr (3, [.long 0, .long 0, .long 0]))))).bind fun f47 =>
    if ¬ ((kc + 1) + 0 ≤ 130 ∧ (ks + 3) + 0 ≤ 640) then none else
    (f_X3_init sz f47).bind fun q51 =>
    (stQ 5 3 q51 x43 v1 (some sz)).bind fun f54 =>
    f_X1_init_35 n v0 (v1 + (1 : Int32)) f54 (sz + 1) (kc + 1) (ks + 3)
noncomputable def f_X1_init (v0 : Nat) (f : mmF) (sz : Nat) : Option (mmF × Nat) :=
  (stF f v0 1 0 (.int (0 : Int32))).bind fun f6 =>
  if ¬ (0 + 1 ≤ 130 ∧ 0 + 128 ≤ 640) then none else
  (some (va_up f6 sz (some (.inl (5, 128, .inr (.inr (.inr (.inr (fun _ => none))))))))).bind fun f13 =>
  (stF f13 v0 1 1 (.ref sz)).bind fun f16 =>
  if ¬ ((0 + 1) + 1 ≤ 130 ∧ (0 + 128) + 128 ≤ 640) then none else
  (some (va_up f16 (sz + 1) (some (.inl (0, 128, .inl (fun _ => 0)))))).bind fun f23 =>
  (stF f23 v0 1 2 (.ref (sz + 1))).bind fun f25 =>
  (stF f25 v0 1 3 (.int (0 : Int32))).bind fun f30 =>
  f_X1_init_35 FU v0 (0 : Int32) f30 ((sz + 1) + 1) ((0 + 1) + 1) ((0 + 128) + 128)
section S_X1_init
variable {p : Program} {l : Launch} {e : Env} {s : State} {m : MethodId} {args : Array Value} {below : List Frame} {meth : Method} {c : Code} {D : mmD} {b0 sz : Nat} {f : mmF}
set_option maxHeartbeats 4000000 in
set_option maxRecDepth 100000 in
theorem w_X1_init_35 (C0 : CX cX1_init 2 none wsX1_init RX1 p s m args meth c D b0) (hin : meth.name = "<init>") {res : mmF × Nat} : ∀ (n : Nat), ∀ (v0 : Nat) (v1 : Int32) (f : mmF) (sz : Nat) (kc : Nat) (ks : Nat), f_X1_init_35 n v0 v1 f sz kc ks = some res → ∀ (H : Heap) (locs : List Loc) (ls : Array Slot), MM vwCl D b0 f sz s H → mS b0 s H locs → lv_has ls 2 [(0, .ref v0), (1, .int v1)] → W p l e ({ frames := 2, cells := 130, slots := 640, locals := 44 } : Room) s m args below meth c H locs kc ks (MQ below (QW D b0 none res.1 res.2) args s 130 640 (fun q => b0 ≤ q)) (F0 m 35 ls []) := by
  obtain ⟨hx, hb, hr, hml, hown, hts, hlocks, hK⟩ := id C0
  intro n
  induction n with
  | zero =>
    intro v0 v1 f sz kc ks h
    have h : (none : Option (mmF × Nat)) = some res := h
    cases h
  | succ n ih =>
    intro v0 v1 f sz kc ks h H locs ls hM hS hl
    rw [f_X1_init_35] at h
    refine lv_iload_n hx hb dX1_init_35 rfl (lv_at hl 1 rfl) ?_
    refine lv_sipush (v := (128 : Int32)) hx hb dX1_init_36 (by decide) ?_
    refine lv_icmp_ge (tgt := 61) hx hb dX1_init_39 (by decide) (fun c39 => ?_) (fun c39 => ?_)
    · replace h := o_t c39 h
      replace h := o_n h; obtain ⟨z61, h⟩ := h
      replace z61 := Decidable.not_not.mp z61
      refine W.widen (k := 130) (n := 640) z61.1 z61.2 ?_
      replace h := Option.some.inj h; subst h
      exact W.vret hx hb hr (fun t ht hW => ⟨rfl, by rw [ht]; exact hM.moved hW.alike, hS.F ht⟩) hS.2.2 dX1_init_61
    replace h := o_f c39 h
    refine lv_aload_n hx hb dX1_init_42 rfl (lv_at hl 0 rfl) ?_
    replace h := o_b h; obtain ⟨x43, h43, h⟩ := h
    refine m_get (C := RX1) (T := TX1) (N := 4) (ci := 1) hx hb hts qi_X1_init_X1 hown hK.1 hM 1 (ldR_F h43) rfl (by decide) (hts _ q_X1_init_1) (fun _ h9 => h9) dX1_init_43 ?_
    refine lv_iload_n hx hb dX1_init_46 rfl (lv_at hl 1 rfl) ?_
    replace h := o_n h; obtain ⟨z47, h⟩ := h
    replace z47 := Decidable.not_not.mp z47
    refine m_new (ci := 3) (fs := [.long 0, .long 0, .long 0]) (C := RX3) (T := TX3) (N := 3) hx hb hts qi_X1_init_X3 tyX3 tyX3_ok hown (hts _ q_X1_init_3) (hts _ q_X1_init_4) (hts _ q_X1_init_5) hK.1 hM hS rfl (fun j hj => by match j, hj with | 0, _ => rfl | 1, _ => rfl | 2, _ => rfl | j + 3, hj => exact absurd hj (by omega)) z47.1 z47.2 dX1_init_47 (fun H hM hS => ?_)
    replace h := o_b h; obtain ⟨f47, h47, h⟩ := h
    replace h47 := Option.some.inj h47
    subst h47
    refine lv_dup hx hb dX1_init_50 rfl ?_
    replace h := o_n h; obtain ⟨z51, h⟩ := h
    replace z51 := Decidable.not_not.mp z51
    replace h := o_b h; obtain ⟨q51, h51, h⟩ := h
    refine m_call (va_runIN (As := []) (rest := [.ref sz, .int v1, .ref x43]) ⟨hx, hb, hml, hown, hts⟩ (c_X3_init l D b0 (sz + 1) h51) ⟨(va_cnB 0 hts gX1_init_X3_init_n26 rfl rfl rfl (hK.2.1 (RX1, 26, yX3_init, "StageTruths") (by decide)) (hts _ q_X1_init_5) (by decide +kernel) ⟨Nat.le_of_ble_eq_true rfl, Nat.le_of_ble_eq_true rfl⟩), rfl, (hts _ q_X1_init_6)⟩ ⟨PW.blind, (fun U hU hW => ⟨rfl, PW.call hK hM hS hU hW⟩)⟩ rfl rfl hl.1 rfl (lv_room (Nat.le_of_ble_eq_true rfl)) dX1_init_51 ⟨z51.1, z51.2⟩) hS (fun H locs hM hS => ?_)
    replace h := o_b h; obtain ⟨f54, h54, h⟩ := h
    refine m_astq 5 3 (by decide) (r0 := (RX3, TX3, 3)) rfl rfl hx hb hK.1 hM hS (r := (some sz)) h54 dX1_init_54 (fun H locs hM hS => ?_)
    refine lv_iinc (v := (v1 + (1 : Int32))) (lv' := [(1, .int (v1 + (1 : Int32))), (0, .ref v0)]) hx hb dX1_init_55 hl (k := 1) rfl rfl (by decide) rfl (fun ls hl => ?_)
    refine lv_goto (tgt := 35) hx hb dX1_init_58 (by decide) ?_
    exact ih _ _ _ _ _ _ h _ _ _ hM hS (lv_sub hl [1, 0] rfl)
set_option maxHeartbeats 4000000 in
set_option maxRecDepth 100000 in
theorem w_X1_init (C0 : CX cX1_init 2 none wsX1_init RX1 p s m args meth c D b0) (hin : meth.name = "<init>") {v0 : Nat} {res : mmF × Nat} (h : f_X1_init v0 f sz = some res) : ∀ (H : Heap) (locs : List Loc) (ls : Array Slot), MM vwCl D b0 f sz s H → mS b0 s H locs → lv_has ls 2 [(0, .ref v0)] → W p l e ({ frames := 2, cells := 130, slots := 640, locals := 44 } : Room) s m args below meth c H locs 0 0 (MQ below (QW D b0 none res.1 res.2) args s 130 640 (fun q => b0 ≤ q)) (F0 m 0 ls []) := by
  obtain ⟨hx, hb, hr, hml, hown, hts, hlocks, hK⟩ := id C0
  intro H locs ls hM hS hl
  unfold f_X1_init at h
  refine lv_aload_n hx hb dX1_init_0 rfl (lv_at hl 0 rfl) ?_
  refine W.objInit hx hb hown (hts _ q_X1_init_7) (hts _ q_X1_init_8) (hts _ q_X1_init_9) rfl (by rw [hml]; exact hl.1) rfl dX1_init_1 (Nat.le_of_ble_eq_true rfl) (Nat.le_of_ble_eq_true rfl) ?_
  refine lv_aload_n hx hb dX1_init_4 rfl (lv_at hl 0 rfl) ?_
  refine lv_iconst (v := (0 : Int32)) hx hb dX1_init_5 (by decide) ?_
  replace h := o_b h; obtain ⟨f6, h6, h⟩ := h
  refine m_put (ty := .int) (C := RX1) (T := TX1) (N := 4) (ci := 1) hx hb hts qi_X1_init_X1 tyX1 tyX1_ok nmX1 hown hK.1 hM hS 0 h6 rfl (by decide) (hts _ q_X1_init_10) (fun _ h9 => h9) rfl (by decide +kernel) rfl rfl dX1_init_6 (fun H locs hM hS => ?_)
  refine lv_aload_n hx hb dX1_init_9 rfl (lv_at hl 0 rfl) ?_
  refine lv_sipush (v := (128 : Int32)) hx hb dX1_init_10 (by decide) ?_
  replace h := o_n h; obtain ⟨z13, h⟩ := h
  replace z13 := Decidable.not_not.mp z13
  refine m_newq (N' := 128) 5 (by decide) rfl hx hb hown (hts _ q_X1_init_3) (hK.2.2.1 RX3 (by decide)) hK.1 hM hS (by decide) (by decide) (Nat.le_of_ble_eq_true rfl) z13.1 z13.2 dX1_init_13 (fun H hM hS => ?_)
  replace h := o_b h; obtain ⟨f13, h13, h⟩ := h
  replace h13 := Option.some.inj h13
  subst h13
  replace h := o_b h; obtain ⟨f16, h16, h⟩ := h
  refine m_putF (ty := (.array (.object "StageTruths$PartSet"))) (C := RX1) (T := TX1) (N := 4) (ci := 1) hx hb hts qi_X1_init_X1 tyX1 tyX1_ok nmX1 hown hK.1 hM hS 1 h16 rfl (by decide) (hts _ q_X1_init_1) (fun _ h9 => h9) rfl hin rfl (by decide +kernel) rfl rfl dX1_init_16 (fun H locs hM hS => ?_)
  refine lv_aload_n hx hb dX1_init_19 rfl (lv_at hl 0 rfl) ?_
  refine lv_sipush (v := (128 : Int32)) hx hb dX1_init_20 (by decide) ?_
  replace h := o_n h; obtain ⟨z23, h⟩ := h
  replace z23 := Decidable.not_not.mp z23
  refine m_newa 0 (by decide) hx hb (atype := .int) (N' := 128) (hts _ q_X1_init_11) rfl rfl hK.1 hM hS (y := .inl (fun _ => 0)) (fun _ => rfl) (fun _ => Iff.rfl) (by decide) (by decide) (Nat.le_of_ble_eq_true rfl) z23.1 z23.2 dX1_init_23 (fun H hM hS => ?_)
  replace h := o_b h; obtain ⟨f23, h23, h⟩ := h
  replace h23 := Option.some.inj h23
  subst h23
  replace h := o_b h; obtain ⟨f25, h25, h⟩ := h
  refine m_putF (ty := (.array .int)) (C := RX1) (T := TX1) (N := 4) (ci := 1) hx hb hts qi_X1_init_X1 tyX1 tyX1_ok nmX1 hown hK.1 hM hS 2 h25 rfl (by decide) (hts _ q_X1_init_12) (fun _ h9 => h9) rfl hin rfl (by decide +kernel) rfl rfl dX1_init_25 (fun H locs hM hS => ?_)
  refine lv_aload_n hx hb dX1_init_28 rfl (lv_at hl 0 rfl) ?_
  refine lv_iconst (v := (0 : Int32)) hx hb dX1_init_29 (by decide) ?_
  replace h := o_b h; obtain ⟨f30, h30, h⟩ := h
  refine m_put (ty := .int) (C := RX1) (T := TX1) (N := 4) (ci := 1) hx hb hts qi_X1_init_X1 tyX1 tyX1_ok nmX1 hown hK.1 hM hS 3 h30 rfl (by decide) (hts _ q_X1_init_13) (fun _ h9 => h9) rfl (by decide +kernel) rfl rfl dX1_init_30 (fun H locs hM hS => ?_)
  refine lv_iconst (v := (0 : Int32)) hx hb dX1_init_33 (by decide) ?_
  refine lv_istore_n (lv' := [(1, .int (0 : Int32)), (0, .ref v0)]) hx hb dX1_init_34 rfl hl (by decide) rfl (fun ls hl => ?_)
  exact w_X1_init_35 C0 hin FU _ _ _ _ _ _ h _ _ _ hM hS (lv_sub hl [1, 0] rfl)
set_option maxHeartbeats 4000000 in
set_option maxRecDepth 100000 in
theorem c_X1_init (l : Launch) (D : mmD) (b0 sz : Nat) {v0 : Nat} {f : mmF} {res : mmF × Nat} (h : f_X1_init v0 f sz = some res) : Met l yX1_init wsX1_init ({ frames := 2, cells := 130, slots := 640, locals := 44 } : Room) (va_Pc [.ref v0] (PW D b0 f sz)) (QW D b0 none res.1 res.2) 130 640 (fun q => b0 ≤ q) := by
  refine Met.ofW (cc := cX1_init) (maxL := 2) (ret := none) (by decide) rfl ?_
  intro p e s m args below meth c s₁ B hml hv
  obtain ⟨rfl, hM, hK⟩ := hv
  have hl := lv_entry ([.ref v0]) (n := 2) (Nat.le_of_ble_eq_true rfl)
  rw [lg_entry_eq]
  generalize (lg_sl ([.ref v0]) ++ List.replicate (2 - (lg_sl ([.ref v0])).length) Slot.unset).toArray = ls at hl ⊢
  have hl : lv_has ls 2 [(0, .ref v0)] := hl
  exact w_X1_init ⟨B.exec, B.bytes, B.returns, hml, findClass_of_methodNamed B.named, atoms_spec (ws := wsX1_init) B.pre, B.notSynchronized, hK⟩ (name_of_methodNamed B.named B.method).1 h s.heap [] ls hM va_S.rf hl
end S_X1_init
/-! X1_clear -/
set_option maxRecDepth 20000 in
theorem qi_X1_clear_X1 : ∀ w ∈ u_ws RX1 TX1 4, w ∈ wsX1_clear := by decide +kernel
set_option maxRecDepth 20000 in
theorem q_X1_clear_1 : Cond.fieldLink RX1 7 "StageTruths$Findings" "size" "I" ∈ wsX1_clear := by decide +kernel
set_option maxRecDepth 20000 in
theorem q_X1_clear_2 : Cond.fieldLink RX1 23 "StageTruths$Findings" "next" "I" ∈ wsX1_clear := by decide +kernel
noncomputable def f_X1_clear (v0 : Nat) (f : mmF) : Option (mmF) :=
  (stF f v0 1 0 (.int (0 : Int32))).bind fun f2 =>
  (stF f2 v0 1 3 (.int (0 : Int32))).bind fun f7 =>
  some (f7)
section S_X1_clear
variable {p : Program} {l : Launch} {e : Env} {s : State} {m : MethodId} {args : Array Value} {below : List Frame} {meth : Method} {c : Code} {D : mmD} {b0 sz : Nat} {f : mmF}
set_option maxHeartbeats 4000000 in
set_option maxRecDepth 100000 in
theorem w_X1_clear (C0 : CX cX1_clear 1 none wsX1_clear RX1 p s m args meth c D b0) {v0 : Nat} {res : mmF} (h : f_X1_clear v0 f = some res) : ∀ (H : Heap) (locs : List Loc) (ls : Array Slot), MM vwCl D b0 f sz s H → mS b0 s H locs → lv_has ls 1 [(0, .ref v0)] → W p l e ({ frames := 0, cells := 0, slots := 0, locals := 0 } : Room) s m args below meth c H locs 0 0 (MQ below (QW D b0 none res sz) args s 0 0 (fun q => b0 ≤ q)) (F0 m 0 ls []) := by
  obtain ⟨hx, hb, hr, hml, hown, hts, hlocks, hK⟩ := id C0
  intro H locs ls hM hS hl
  unfold f_X1_clear at h
  refine lv_aload_n hx hb dX1_clear_0 rfl (lv_at hl 0 rfl) ?_
  refine lv_iconst (v := (0 : Int32)) hx hb dX1_clear_1 (by decide) ?_
  replace h := o_b h; obtain ⟨f2, h2, h⟩ := h
  refine m_put (ty := .int) (C := RX1) (T := TX1) (N := 4) (ci := 1) hx hb hts qi_X1_clear_X1 tyX1 tyX1_ok nmX1 hown hK.1 hM hS 0 h2 rfl (by decide) (hts _ q_X1_clear_1) (fun _ h9 => h9) rfl (by decide +kernel) rfl rfl dX1_clear_2 (fun H locs hM hS => ?_)
  refine lv_aload_n hx hb dX1_clear_5 rfl (lv_at hl 0 rfl) ?_
  refine lv_iconst (v := (0 : Int32)) hx hb dX1_clear_6 (by decide) ?_
  replace h := o_b h; obtain ⟨f7, h7, h⟩ := h
  refine m_put (ty := .int) (C := RX1) (T := TX1) (N := 4) (ci := 1) hx hb hts qi_X1_clear_X1 tyX1 tyX1_ok nmX1 hown hK.1 hM hS 3 h7 rfl (by decide) (hts _ q_X1_clear_2) (fun _ h9 => h9) rfl (by decide +kernel) rfl rfl dX1_clear_7 (fun H locs hM hS => ?_)
  replace h := Option.some.inj h; subst h
  exact W.vret hx hb hr (fun t ht hW => ⟨rfl, by rw [ht]; exact hM.moved hW.alike, hS.F ht⟩) hS.2.2 dX1_clear_10
set_option maxHeartbeats 4000000 in
set_option maxRecDepth 100000 in
theorem c_X1_clear (l : Launch) (D : mmD) (b0 sz : Nat) {v0 : Nat} {f : mmF} {res : mmF} (h : f_X1_clear v0 f = some res) : Met l yX1_clear wsX1_clear ({ frames := 0, cells := 0, slots := 0, locals := 0 } : Room) (va_Pc [.ref v0] (PW D b0 f sz)) (QW D b0 none res sz) 0 0 (fun q => b0 ≤ q) := by
  refine Met.ofW (cc := cX1_clear) (maxL := 1) (ret := none) (by decide) rfl ?_
  intro p e s m args below meth c s₁ B hml hv
  obtain ⟨rfl, hM, hK⟩ := hv
  have hl := lv_entry ([.ref v0]) (n := 1) (Nat.le_of_ble_eq_true rfl)
  rw [lg_entry_eq]
  generalize (lg_sl ([.ref v0]) ++ List.replicate (1 - (lg_sl ([.ref v0])).length) Slot.unset).toArray = ls at hl ⊢
  have hl : lv_has ls 1 [(0, .ref v0)] := hl
  exact w_X1_clear ⟨B.exec, B.bytes, B.returns, hml, findClass_of_methodNamed B.named, atoms_spec (ws := wsX1_clear) B.pre, B.notSynchronized, hK⟩ h s.heap [] ls hM va_S.rf hl
end S_X1_clear
/-! X3_takeFrom -/
set_option maxRecDepth 20000 in
theorem qi_X3_takeFrom_X3 : ∀ w ∈ u_ws RX3 TX3 3, w ∈ wsX3_takeFrom := by decide +kernel
set_option maxRecDepth 20000 in
theorem q_X3_takeFrom_1 : Cond.fieldLink RX3 7 "StageTruths$PartSet" "low" "J" ∈ wsX3_takeFrom := by decide +kernel
set_option maxRecDepth 20000 in
theorem q_X3_takeFrom_2 : Cond.fieldLink RX3 13 "StageTruths$PartSet" "middle" "J" ∈ wsX3_takeFrom := by decide +kernel
set_option maxRecDepth 20000 in
theorem q_X3_takeFrom_3 : Cond.fieldLink RX3 16 "StageTruths$PartSet" "high" "J" ∈ wsX3_takeFrom := by decide +kernel
noncomputable def f_X3_takeFrom (v0 : Nat) (v1 : Nat) (f : mmF) : Option (mmF) :=
  (ldJ f v1 3 0).bind fun x2 =>
  (stF f v0 3 0 (.long x2)).bind fun f5 =>
  (ldJ f5 v1 3 1).bind fun x10 =>
  (stF f5 v0 3 1 (.long x10)).bind fun f13 =>
  (ldJ f13 v1 3 2).bind fun x18 =>
  (stF f13 v0 3 2 (.long x18)).bind fun f21 =>
  some (f21)
section S_X3_takeFrom
variable {p : Program} {l : Launch} {e : Env} {s : State} {m : MethodId} {args : Array Value} {below : List Frame} {meth : Method} {c : Code} {D : mmD} {b0 sz : Nat} {f : mmF}
set_option maxHeartbeats 4000000 in
set_option maxRecDepth 100000 in
theorem w_X3_takeFrom (C0 : CX cX3_takeFrom 2 none wsX3_takeFrom RX3 p s m args meth c D b0) {v0 : Nat} {v1 : Nat} {res : mmF} (h : f_X3_takeFrom v0 v1 f = some res) : ∀ (H : Heap) (locs : List Loc) (ls : Array Slot), MM vwCl D b0 f sz s H → mS b0 s H locs → lv_has ls 2 [(0, .ref v0), (1, .ref v1)] → W p l e ({ frames := 0, cells := 0, slots := 0, locals := 0 } : Room) s m args below meth c H locs 0 0 (MQ below (QW D b0 none res sz) args s 0 0 (fun q => b0 ≤ q)) (F0 m 0 ls []) := by
  obtain ⟨hx, hb, hr, hml, hown, hts, hlocks, hK⟩ := id C0
  intro H locs ls hM hS hl
  unfold f_X3_takeFrom at h
  refine lv_aload_n hx hb dX3_takeFrom_0 rfl (lv_at hl 0 rfl) ?_
  refine lv_aload_n hx hb dX3_takeFrom_1 rfl (lv_at hl 1 rfl) ?_
  replace h := o_b h; obtain ⟨x2, h2, h⟩ := h
  refine m_get (C := RX3) (T := TX3) (N := 3) (ci := 3) hx hb hts qi_X3_takeFrom_X3 hown hK.1 hM 0 (ldJ_F h2) rfl (by decide) (hts _ q_X3_takeFrom_1) (fun _ h9 => h9) dX3_takeFrom_2 ?_
  replace h := o_b h; obtain ⟨f5, h5, h⟩ := h
  refine m_put (ty := .long) (C := RX3) (T := TX3) (N := 3) (ci := 3) hx hb hts qi_X3_takeFrom_X3 tyX3 tyX3_ok nmX3 hown hK.1 hM hS 0 h5 rfl (by decide) (hts _ q_X3_takeFrom_1) (fun _ h9 => h9) rfl (by decide +kernel) rfl rfl dX3_takeFrom_5 (fun H locs hM hS => ?_)
  refine lv_aload_n hx hb dX3_takeFrom_8 rfl (lv_at hl 0 rfl) ?_
  refine lv_aload_n hx hb dX3_takeFrom_9 rfl (lv_at hl 1 rfl) ?_
  replace h := o_b h; obtain ⟨x10, h10, h⟩ := h
  refine m_get (C := RX3) (T := TX3) (N := 3) (ci := 3) hx hb hts qi_X3_takeFrom_X3 hown hK.1 hM 1 (ldJ_F h10) rfl (by decide) (hts _ q_X3_takeFrom_2) (fun _ h9 => h9) dX3_takeFrom_10 ?_
  replace h := o_b h; obtain ⟨f13, h13, h⟩ := h
  refine m_put (ty := .long) (C := RX3) (T := TX3) (N := 3) (ci := 3) hx hb hts qi_X3_takeFrom_X3 tyX3 tyX3_ok nmX3 hown hK.1 hM hS 1 h13 rfl (by decide) (hts _ q_X3_takeFrom_2) (fun _ h9 => h9) rfl (by decide +kernel) rfl rfl dX3_takeFrom_13 (fun H locs hM hS => ?_)
  refine lv_aload_n hx hb dX3_takeFrom_16 rfl (lv_at hl 0 rfl) ?_
  refine lv_aload_n hx hb dX3_takeFrom_17 rfl (lv_at hl 1 rfl) ?_
  replace h := o_b h; obtain ⟨x18, h18, h⟩ := h
  refine m_get (C := RX3) (T := TX3) (N := 3) (ci := 3) hx hb hts qi_X3_takeFrom_X3 hown hK.1 hM 2 (ldJ_F h18) rfl (by decide) (hts _ q_X3_takeFrom_3) (fun _ h9 => h9) dX3_takeFrom_18 ?_
  replace h := o_b h; obtain ⟨f21, h21, h⟩ := h
  refine m_put (ty := .long) (C := RX3) (T := TX3) (N := 3) (ci := 3) hx hb hts qi_X3_takeFrom_X3 tyX3 tyX3_ok nmX3 hown hK.1 hM hS 2 h21 rfl (by decide) (hts _ q_X3_takeFrom_3) (fun _ h9 => h9) rfl (by decide +kernel) rfl rfl dX3_takeFrom_21 (fun H locs hM hS => ?_)
  replace h := Option.some.inj h; subst h
  exact W.vret hx hb hr (fun t ht hW => ⟨rfl, by rw [ht]; exact hM.moved hW.alike, hS.F ht⟩) hS.2.2 dX3_takeFrom_24
set_option maxHeartbeats 4000000 in
set_option maxRecDepth 100000 in
theorem c_X3_takeFrom (l : Launch) (D : mmD) (b0 sz : Nat) {v0 : Nat} {v1 : Nat} {f : mmF} {res : mmF} (h : f_X3_takeFrom v0 v1 f = some res) : Met l yX3_takeFrom wsX3_takeFrom ({ frames := 0, cells := 0, slots := 0, locals := 0 } : Room) (va_Pc [.ref v0, .ref v1] (PW D b0 f sz)) (QW D b0 none res sz) 0 0 (fun q => b0 ≤ q) := by
  refine Met.ofW (cc := cX3_takeFrom) (maxL := 2) (ret := none) (by decide) rfl ?_
  intro p e s m args below meth c s₁ B hml hv
  obtain ⟨rfl, hM, hK⟩ := hv
  have hl := lv_entry ([.ref v0, .ref v1]) (n := 2) (Nat.le_of_ble_eq_true rfl)
  rw [lg_entry_eq]
  generalize (lg_sl ([.ref v0, .ref v1]) ++ List.replicate (2 - (lg_sl ([.ref v0, .ref v1])).length) Slot.unset).toArray = ls at hl ⊢
  have hl : lv_has ls 2 [(0, .ref v0), (1, .ref v1)] := hl
  exact w_X3_takeFrom ⟨B.exec, B.bytes, B.returns, hml, findClass_of_methodNamed B.named, atoms_spec (ws := wsX3_takeFrom) B.pre, B.notSynchronized, hK⟩ h s.heap [] ls hM va_S.rf hl
end S_X3_takeFrom
/-! X1_add -/
set_option maxRecDepth 20000 in
theorem qi_X1_add_X1 : ∀ w ∈ u_ws RX1 TX1 4, w ∈ wsX1_add := by decide +kernel
set_option maxRecDepth 20000 in
theorem q_X1_add_1 : Cond.fieldLink RX1 15 "StageTruths$Findings" "sets" "[LStageTruths$PartSet;" ∈ wsX1_add := by decide +kernel
set_option maxRecDepth 20000 in
theorem q_X1_add_2 : Cond.fieldLink RX1 23 "StageTruths$Findings" "next" "I" ∈ wsX1_add := by decide +kernel
set_option maxRecDepth 20000 in
theorem q_X1_add_3 : Cond.fieldLink RX1 19 "StageTruths$Findings" "goals" "[I" ∈ wsX1_add := by decide +kernel
set_option maxRecDepth 20000 in
theorem q_X1_add_4 : Cond.fieldLink RX1 7 "StageTruths$Findings" "size" "I" ∈ wsX1_add := by decide +kernel
set_option maxRecDepth 20000 in
theorem q_X1_add_5 : Cond.methodLink RX1 31 Lib.Math.max.name ∈ wsX1_add := by decide +kernel
set_option maxRecDepth 20000 in
theorem q_X1_add_6 : Cond.static Lib.Math.max.name ∈ wsX1_add := by decide +kernel
set_option maxRecDepth 20000 in
theorem q_X1_add_7 : Cond.initialized "java/lang/Math" ∈ wsX1_add := by decide +kernel
set_option maxRecDepth 20000 in
theorem q_X1_add_8 : Cond.code Lib.Math.max.name Lib.Math.max.code 2 (some .int) ∈ wsX1_add := by decide +kernel
noncomputable def f_X1_add_22   (v0 : Nat) (v1 : Nat) (v2 : Int32) (f : mmF) : Option (mmF) :=
  (ldR f v0 1 1).bind fun x23 =>
  (ldI f v0 1 3).bind fun x27 =>
  (ldN 5 f x23 x27).bind fun x30 =>
  (ckO f x30 3).bind fun _ =>
  (f_X3_takeFrom x30 v1 f).bind fun q32 =>
  (ldR q32 v0 1 2).bind fun x36 =>
  (ldI q32 v0 1 3).bind fun x40 =>
  (stA 0 q32 x36 x40 v2).bind fun f44 =>
  (ldI f44 v0 1 3).bind fun x47 =>
  (stF f44 v0 1 3 (.int (x47 + (1 : Int32)))).bind fun f52 =>
  (ldI f52 v0 1 0).bind fun x57 =>
  (ldI f52 v0 1 3).bind fun x61 =>
  (stF f52 v0 1 0 (.int (if x57 < x61 then x61 else x57))).bind fun f67 =>
  some (f67)
noncomputable def f_X1_add_17   (v0 : Nat) (v1 : Nat) (v2 : Int32) (f : mmF) : Option (mmF) :=
  (stF f v0 1 3 (.int (0 : Int32))).bind fun f19 =>
  f_X1_add_22 v0 v1 v2 f19
noncomputable def f_X1_add (v0 : Nat) (v1 : Nat) (v2 : Int32) (f : mmF) : Option (mmF) :=
  (ldI f v0 1 3).bind fun x1 =>
  if x1 < 0 then
  (f_X1_add_17 v0 v1 v2 f)
  else
  (ldI f v0 1 3).bind fun x8 =>
  if x8 < (128 : Int32) then
  (f_X1_add_22 v0 v1 v2 f)
  else
  f_X1_add_17 v0 v1 v2 f
section S_X1_add
variable {p : Program} {l : Launch} {e : Env} {s : State} {m : MethodId} {args : Array Value} {below : List Frame} {meth : Method} {c : Code} {D : mmD} {b0 sz : Nat} {f : mmF}
set_option maxHeartbeats 4000000 in
set_option maxRecDepth 100000 in
theorem w_X1_add_22 (C0 : CX cX1_add 3 none wsX1_add RX1 p s m args meth c D b0) {res : mmF} : ∀ (v0 : Nat) (v1 : Nat) (v2 : Int32) (f : mmF), f_X1_add_22 v0 v1 v2 f = some res → ∀ (H : Heap) (locs : List Loc) (ls : Array Slot), MM vwCl D b0 f sz s H → mS b0 s H locs → lv_has ls 3 [(0, .ref v0), (1, .ref v1), (2, .int v2)] → W p l e ({ frames := 1, cells := 0, slots := 0, locals := 24 } : Room) s m args below meth c H locs 0 0 (MQ below (QW D b0 none res sz) args s 0 0 (fun q => b0 ≤ q)) (F0 m 22 ls []) := by
  obtain ⟨hx, hb, hr, hml, hown, hts, hlocks, hK⟩ := id C0
  intro v0 v1 v2 f h H locs ls hM hS hl
  unfold f_X1_add_22 at h
  refine lv_aload_n hx hb dX1_add_22 rfl (lv_at hl 0 rfl) ?_
  replace h := o_b h; obtain ⟨x23, h23, h⟩ := h
  refine m_get (C := RX1) (T := TX1) (N := 4) (ci := 1) hx hb hts qi_X1_add_X1 hown hK.1 hM 1 (ldR_F h23) rfl (by decide) (hts _ q_X1_add_1) (fun _ h9 => h9) dX1_add_23 ?_
  refine lv_aload_n hx hb dX1_add_26 rfl (lv_at hl 0 rfl) ?_
  replace h := o_b h; obtain ⟨x27, h27, h⟩ := h
  refine m_get (C := RX1) (T := TX1) (N := 4) (ci := 1) hx hb hts qi_X1_add_X1 hown hK.1 hM 3 (ldI_F h27) rfl (by decide) (hts _ q_X1_add_2) (fun _ h9 => h9) dX1_add_27 ?_
  replace h := o_b h; obtain ⟨x30, h30, h⟩ := h
  refine m_aldn 5 (by decide) rfl hx hb hK.1 hM h30 dX1_add_30 ?_
  refine lv_aload_n hx hb dX1_add_31 rfl (lv_at hl 1 rfl) ?_
  replace h := o_b h; obtain ⟨_, k32, h⟩ := h
  replace h := o_b h; obtain ⟨q32, h32, h⟩ := h
  refine m_call (va_runV (As := [.ref v1]) (rest := []) ⟨hx, hb, hml, hown, hts⟩ (c_X3_takeFrom l D b0 sz h32) (cwV 1 hts gX1_add_X3_takeFrom rfl rfl rfl (by decide +kernel) ⟨Nat.le_of_ble_eq_true rfl, Nat.le_of_ble_eq_true rfl⟩) ⟨PW.blind, m_recv (ci := 3) rfl hK hM k32, (fun U hU hW => ⟨rfl, PW.call hK hM hS hU hW⟩)⟩ rfl rfl hl.1 rfl (lv_room (Nat.le_of_ble_eq_true rfl)) dX1_add_32 ⟨(Nat.le_refl _), (Nat.le_refl _)⟩) hS (fun H locs hM hS => ?_)
  refine lv_aload_n hx hb dX1_add_35 rfl (lv_at hl 0 rfl) ?_
  replace h := o_b h; obtain ⟨x36, h36, h⟩ := h
  refine m_get (C := RX1) (T := TX1) (N := 4) (ci := 1) hx hb hts qi_X1_add_X1 hown hK.1 hM 2 (ldR_F h36) rfl (by decide) (hts _ q_X1_add_3) (fun _ h9 => h9) dX1_add_36 ?_
  refine lv_aload_n hx hb dX1_add_39 rfl (lv_at hl 0 rfl) ?_
  replace h := o_b h; obtain ⟨x40, h40, h⟩ := h
  refine m_get (C := RX1) (T := TX1) (N := 4) (ci := 1) hx hb hts qi_X1_add_X1 hown hK.1 hM 3 (ldI_F h40) rfl (by decide) (hts _ q_X1_add_2) (fun _ h9 => h9) dX1_add_40 ?_
  refine lv_iload_n hx hb dX1_add_43 rfl (lv_at hl 2 rfl) ?_
  replace h := o_b h; obtain ⟨f44, h44, h⟩ := h
  refine m_iast hx hb hK.1 hM hS rfl h44 dX1_add_44 (fun H locs hM hS => ?_)
  refine lv_aload_n hx hb dX1_add_45 rfl (lv_at hl 0 rfl) ?_
  refine lv_dup hx hb dX1_add_46 rfl ?_
  replace h := o_b h; obtain ⟨x47, h47, h⟩ := h
  refine m_get (C := RX1) (T := TX1) (N := 4) (ci := 1) hx hb hts qi_X1_add_X1 hown hK.1 hM 3 (ldI_F h47) rfl (by decide) (hts _ q_X1_add_2) (fun _ h9 => h9) dX1_add_47 ?_
  refine lv_iconst (v := (1 : Int32)) hx hb dX1_add_50 (by decide) ?_
  refine lv_iadd hx hb dX1_add_51 ?_
  replace h := o_b h; obtain ⟨f52, h52, h⟩ := h
  refine m_put (ty := .int) (C := RX1) (T := TX1) (N := 4) (ci := 1) hx hb hts qi_X1_add_X1 tyX1 tyX1_ok nmX1 hown hK.1 hM hS 3 h52 rfl (by decide) (hts _ q_X1_add_2) (fun _ h9 => h9) rfl (by decide +kernel) rfl rfl dX1_add_52 (fun H locs hM hS => ?_)
  refine lv_aload_n hx hb dX1_add_55 rfl (lv_at hl 0 rfl) ?_
  refine lv_aload_n hx hb dX1_add_56 rfl (lv_at hl 0 rfl) ?_
  replace h := o_b h; obtain ⟨x57, h57, h⟩ := h
  refine m_get (C := RX1) (T := TX1) (N := 4) (ci := 1) hx hb hts qi_X1_add_X1 hown hK.1 hM 0 (ldI_F h57) rfl (by decide) (hts _ q_X1_add_4) (fun _ h9 => h9) dX1_add_57 ?_
  refine lv_aload_n hx hb dX1_add_60 rfl (lv_at hl 0 rfl) ?_
  replace h := o_b h; obtain ⟨x61, h61, h⟩ := h
  refine m_get (C := RX1) (T := TX1) (N := 4) (ci := 1) hx hb hts qi_X1_add_X1 hown hK.1 hM 3 (ldI_F h61) rfl (by decide) (hts _ q_X1_add_2) (fun _ h9 => h9) dX1_add_61 ?_
  refine va_mmax hx hb (hml.trans hl.1.symm) hown (hts _ q_X1_add_5) (hts _ q_X1_add_6) (hts _ q_X1_add_7) (hts _ q_X1_add_8) (Nat.le_of_ble_eq_true rfl) (Nat.le_of_ble_eq_true rfl) (Nat.zero_le _) (Nat.zero_le _) dX1_add_64 ?_
  replace h := o_b h; obtain ⟨f67, h67, h⟩ := h
  refine m_put (ty := .int) (C := RX1) (T := TX1) (N := 4) (ci := 1) hx hb hts qi_X1_add_X1 tyX1 tyX1_ok nmX1 hown hK.1 hM hS 0 h67 rfl (by decide) (hts _ q_X1_add_4) (fun _ h9 => h9) rfl (by decide +kernel) rfl rfl dX1_add_67 (fun H locs hM hS => ?_)
  replace h := Option.some.inj h; subst h
  exact W.vret hx hb hr (fun t ht hW => ⟨rfl, by rw [ht]; exact hM.moved hW.alike, hS.F ht⟩) hS.2.2 dX1_add_70
set_option maxHeartbeats 4000000 in
set_option maxRecDepth 100000 in
theorem w_X1_add_17 (C0 : CX cX1_add 3 none wsX1_add RX1 p s m args meth c D b0) {res : mmF} : ∀ (v0 : Nat) (v1 : Nat) (v2 : Int32) (f : mmF), f_X1_add_17 v0 v1 v2 f = some res → ∀ (H : Heap) (locs : List Loc) (ls : Array Slot), MM vwCl D b0 f sz s H → mS b0 s H locs → lv_has ls 3 [(0, .ref v0), (1, .ref v1), (2, .int v2)] → W p l e ({ frames := 1, cells := 0, slots := 0, locals := 24 } : Room) s m args below meth c H locs 0 0 (MQ below (QW D b0 none res sz) args s 0 0 (fun q => b0 ≤ q)) (F0 m 17 ls []) := by
  obtain ⟨hx, hb, hr, hml, hown, hts, hlocks, hK⟩ := id C0
  intro v0 v1 v2 f h H locs ls hM hS hl
  unfold f_X1_add_17 at h
  refine lv_aload_n hx hb dX1_add_17 rfl (lv_at hl 0 rfl) ?_
  refine lv_iconst (v := (0 : Int32)) hx hb dX1_add_18 (by decide) ?_
  replace h := o_b h; obtain ⟨f19, h19, h⟩ := h
  refine m_put (ty := .int) (C := RX1) (T := TX1) (N := 4) (ci := 1) hx hb hts qi_X1_add_X1 tyX1 tyX1_ok nmX1 hown hK.1 hM hS 3 h19 rfl (by decide) (hts _ q_X1_add_2) (fun _ h9 => h9) rfl (by decide +kernel) rfl rfl dX1_add_19 (fun H locs hM hS => ?_)
  exact w_X1_add_22 C0 _ _ _ _ h _ _ _ hM hS (lv_sub hl [0, 1, 2] rfl)
set_option maxHeartbeats 4000000 in
set_option maxRecDepth 100000 in
theorem w_X1_add (C0 : CX cX1_add 3 none wsX1_add RX1 p s m args meth c D b0) {v0 : Nat} {v1 : Nat} {v2 : Int32} {res : mmF} (h : f_X1_add v0 v1 v2 f = some res) : ∀ (H : Heap) (locs : List Loc) (ls : Array Slot), MM vwCl D b0 f sz s H → mS b0 s H locs → lv_has ls 3 [(0, .ref v0), (1, .ref v1), (2, .int v2)] → W p l e ({ frames := 1, cells := 0, slots := 0, locals := 24 } : Room) s m args below meth c H locs 0 0 (MQ below (QW D b0 none res sz) args s 0 0 (fun q => b0 ≤ q)) (F0 m 0 ls []) := by
  obtain ⟨hx, hb, hr, hml, hown, hts, hlocks, hK⟩ := id C0
  intro H locs ls hM hS hl
  unfold f_X1_add at h
  refine lv_aload_n hx hb dX1_add_0 rfl (lv_at hl 0 rfl) ?_
  replace h := o_b h; obtain ⟨x1, h1, h⟩ := h
  refine m_get (C := RX1) (T := TX1) (N := 4) (ci := 1) hx hb hts qi_X1_add_X1 hown hK.1 hM 3 (ldI_F h1) rfl (by decide) (hts _ q_X1_add_2) (fun _ h9 => h9) dX1_add_1 ?_
  refine lv_if_lt (tgt := 17) hx hb dX1_add_4 (by decide) (fun c4 => ?_) (fun c4 => ?_)
  · replace h := o_t c4 h
    exact w_X1_add_17 C0 _ _ _ _ h _ _ _ hM hS (lv_sub hl [0, 1, 2] rfl)
  replace h := o_f c4 h
  refine lv_aload_n hx hb dX1_add_7 rfl (lv_at hl 0 rfl) ?_
  replace h := o_b h; obtain ⟨x8, h8, h⟩ := h
  refine m_get (C := RX1) (T := TX1) (N := 4) (ci := 1) hx hb hts qi_X1_add_X1 hown hK.1 hM 3 (ldI_F h8) rfl (by decide) (hts _ q_X1_add_2) (fun _ h9 => h9) dX1_add_8 ?_
  refine lv_sipush (v := (128 : Int32)) hx hb dX1_add_11 (by decide) ?_
  refine lv_icmp_lt (tgt := 22) hx hb dX1_add_14 (by decide) (fun c14 => ?_) (fun c14 => ?_)
  · replace h := o_t c14 h
    exact w_X1_add_22 C0 _ _ _ _ h _ _ _ hM hS (lv_sub hl [0, 1, 2] rfl)
  replace h := o_f c14 h
  exact w_X1_add_17 C0 _ _ _ _ h _ _ _ hM hS (lv_sub hl [0, 1, 2] rfl)
set_option maxHeartbeats 4000000 in
set_option maxRecDepth 100000 in
theorem c_X1_add (l : Launch) (D : mmD) (b0 sz : Nat) {v0 : Nat} {v1 : Nat} {v2 : Int32} {f : mmF} {res : mmF} (h : f_X1_add v0 v1 v2 f = some res) : Met l yX1_add wsX1_add ({ frames := 1, cells := 0, slots := 0, locals := 24 } : Room) (va_Pc [.ref v0, .ref v1, .int v2] (PW D b0 f sz)) (QW D b0 none res sz) 0 0 (fun q => b0 ≤ q) := by
  refine Met.ofW (cc := cX1_add) (maxL := 3) (ret := none) (by decide) rfl ?_
  intro p e s m args below meth c s₁ B hml hv
  obtain ⟨rfl, hM, hK⟩ := hv
  have hl := lv_entry ([.ref v0, .ref v1, .int v2]) (n := 3) (Nat.le_of_ble_eq_true rfl)
  rw [lg_entry_eq]
  generalize (lg_sl ([.ref v0, .ref v1, .int v2]) ++ List.replicate (3 - (lg_sl ([.ref v0, .ref v1, .int v2])).length) Slot.unset).toArray = ls at hl ⊢
  have hl : lv_has ls 3 [(0, .ref v0), (1, .ref v1), (2, .int v2)] := hl
  exact w_X1_add ⟨B.exec, B.bytes, B.returns, hml, findClass_of_methodNamed B.named, atoms_spec (ws := wsX1_add) B.pre, B.notSynchronized, hK⟩ h s.heap [] ls hM va_S.rf hl
end S_X1_add
/-! X2_init -/
set_option maxRecDepth 20000 in
theorem q_X2_init_0 : Cond.methodLink RX2 1 objectInit ∈ wsX2_init := by decide +kernel
set_option maxRecDepth 20000 in
theorem q_X2_init_1 : Cond.instanceMethod objectInit ∈ wsX2_init := by decide +kernel
set_option maxRecDepth 20000 in
theorem q_X2_init_2 : Cond.code objectInit ⟨#[0xb1]⟩ 1 none ∈ wsX2_init := by decide +kernel
set_option maxRecDepth 20000 in
theorem qi_X2_init_X3 : ∀ w ∈ u_ws RX3 TX3 3, w ∈ wsX2_init := by decide +kernel
set_option maxRecDepth 20000 in
theorem q_X2_init_4 : Cond.classLink RX2 7 RX3 ∈ wsX2_init := by decide +kernel
set_option maxRecDepth 20000 in
theorem q_X2_init_5 : Cond.instantiable RX3 3 ∈ wsX2_init := by decide +kernel
set_option maxRecDepth 20000 in
theorem q_X2_init_6 : Cond.initialized RX3 ∈ wsX2_init := by decide +kernel
set_option maxRecDepth 20000 in
theorem q_X2_init_7 : Cond.instanceMethod yX3_init ∈ wsX2_init := by decide +kernel
set_option maxRecDepth 20000 in
theorem qi_X2_init_X2 : ∀ w ∈ u_ws RX2 TX2 5, w ∈ wsX2_init := by decide +kernel
set_option maxRecDepth 20000 in
theorem q_X2_init_9 : Cond.fieldLink RX2 10 "StageTruths$Level" "known" "LStageTruths$PartSet;" ∈ wsX2_init := by decide +kernel
set_option maxRecDepth 20000 in
theorem q_X2_init_10 : Cond.fieldLink RX2 16 "StageTruths$Level" "given" "LStageTruths$PartSet;" ∈ wsX2_init := by decide +kernel
set_option maxRecDepth 20000 in
theorem q_X2_init_11 : Cond.fieldLink RX2 19 "StageTruths$Level" "doubted" "LStageTruths$PartSet;" ∈ wsX2_init := by decide +kernel
set_option maxRecDepth 20000 in
theorem q_X2_init_12 : Cond.fieldLink RX2 22 "StageTruths$Level" "found" "LStageTruths$PartSet;" ∈ wsX2_init := by decide +kernel
set_option maxRecDepth 20000 in
theorem q_X2_init_13 : Cond.fieldLink RX2 25 "StageTruths$Level" "singles" "I" ∈ wsX2_init := by decide +kernel
noncomputable def f_X2_init (v0 : Nat) (f : mmF) (sz : Nat) : Option (mmF × Nat) :=
  (some (va_up f sz (some (.inr (3, [.long 0, .long 0, .long 0]))))).bind fun f5 =>
  (f_X3_init sz f5).bind fun q9 =>
  (stF q9 v0 2 0 (.ref sz)).bind fun f12 =>
  (some (va_up f12 (sz + 1) (some (.inr (3, [.long 0, .long 0, .long 0]))))).bind fun f16 =>
  (f_X3_init (sz + 1) f16).bind fun q20 =>
  (stF q20 v0 2 1 (.ref (sz + 1))).bind fun f23 =>
  (some (va_up f23 ((sz + 1) + 1) (some (.inr (3, [.long 0, .long 0, .long 0]))))).bind fun f27 =>
  (f_X3_init ((sz + 1) + 1) f27).bind fun q31 =>
  (stF q31 v0 2 2 (.ref ((sz + 1) + 1))).bind fun f34 =>
  (some (va_up f34 (((sz + 1) + 1) + 1) (some (.inr (3, [.long 0, .long 0, .long 0]))))).bind fun f38 =>
  (f_X3_init (((sz + 1) + 1) + 1) f38).bind fun q42 =>
  (stF q42 v0 2 3 (.ref (((sz + 1) + 1) + 1))).bind fun f45 =>
  (stF f45 v0 2 4 (.int (0 : Int32))).bind fun f50 =>
  some (f50, ((((sz + 1) + 1) + 1) + 1))
section S_X2_init
variable {p : Program} {l : Launch} {e : Env} {s : State} {m : MethodId} {args : Array Value} {below : List Frame} {meth : Method} {c : Code} {D : mmD} {b0 sz : Nat} {f : mmF}
set_option maxHeartbeats 4000000 in
set_option maxRecDepth 100000 in
theorem w_X2_init (C0 : CX cX2_init 1 none wsX2_init RX2 p s m args meth c D b0) (hin : meth.name = "<init>") {v0 : Nat} {res : mmF × Nat} (h : f_X2_init v0 f sz = some res) : ∀ (H : Heap) (locs : List Loc) (ls : Array Slot), MM vwCl D b0 f sz s H → mS b0 s H locs → lv_has ls 1 [(0, .ref v0)] → W p l e ({ frames := 2, cells := 4, slots := 12, locals := 44 } : Room) s m args below meth c H locs 0 0 (MQ below (QW D b0 none res.1 res.2) args s 4 12 (fun q => b0 ≤ q)) (F0 m 0 ls []) := by
  obtain ⟨hx, hb, hr, hml, hown, hts, hlocks, hK⟩ := id C0
  intro H locs ls hM hS hl
  unfold f_X2_init at h
  refine lv_aload_n hx hb dX2_init_0 rfl (lv_at hl 0 rfl) ?_
  refine W.objInit hx hb hown (hts _ q_X2_init_0) (hts _ q_X2_init_1) (hts _ q_X2_init_2) rfl (by rw [hml]; exact hl.1) rfl dX2_init_1 (Nat.le_of_ble_eq_true rfl) (Nat.le_of_ble_eq_true rfl) ?_
  refine lv_aload_n hx hb dX2_init_4 rfl (lv_at hl 0 rfl) ?_
  refine m_new (ci := 3) (fs := [.long 0, .long 0, .long 0]) (C := RX3) (T := TX3) (N := 3) hx hb hts qi_X2_init_X3 tyX3 tyX3_ok hown (hts _ q_X2_init_4) (hts _ q_X2_init_5) (hts _ q_X2_init_6) hK.1 hM hS rfl (fun j hj => by match j, hj with | 0, _ => rfl | 1, _ => rfl | 2, _ => rfl | j + 3, hj => exact absurd hj (by omega)) (Nat.le_of_ble_eq_true rfl) (Nat.le_of_ble_eq_true rfl) dX2_init_5 (fun H hM hS => ?_)
  replace h := o_b h; obtain ⟨f5, h5, h⟩ := h
  replace h5 := Option.some.inj h5
  subst h5
  refine lv_dup hx hb dX2_init_8 rfl ?_
  replace h := o_b h; obtain ⟨q9, h9, h⟩ := h
  refine m_call (va_runIN (As := []) (rest := [.ref sz, .ref v0]) ⟨hx, hb, hml, hown, hts⟩ (c_X3_init l D b0 (sz + 1) h9) ⟨(va_cnB 0 hts gX2_init_X3_init_n9 rfl rfl rfl (hK.2.1 (RX2, 9, yX3_init, "StageTruths") (by decide)) (hts _ q_X2_init_6) (by decide +kernel) ⟨Nat.le_of_ble_eq_true rfl, Nat.le_of_ble_eq_true rfl⟩), rfl, (hts _ q_X2_init_7)⟩ ⟨PW.blind, (fun U hU hW => ⟨rfl, PW.call hK hM hS hU hW⟩)⟩ rfl rfl hl.1 rfl (lv_room (Nat.le_of_ble_eq_true rfl)) dX2_init_9 ⟨(Nat.le_of_ble_eq_true rfl), (Nat.le_of_ble_eq_true rfl)⟩) hS (fun H locs hM hS => ?_)
  replace h := o_b h; obtain ⟨f12, h12, h⟩ := h
  refine m_putF (ty := (.object "StageTruths$PartSet")) (C := RX2) (T := TX2) (N := 5) (ci := 2) hx hb hts qi_X2_init_X2 tyX2 tyX2_ok nmX2 hown hK.1 hM hS 0 h12 rfl (by decide) (hts _ q_X2_init_9) (fun _ h9 => h9) rfl hin rfl (by decide +kernel) rfl rfl dX2_init_12 (fun H locs hM hS => ?_)
  refine lv_aload_n hx hb dX2_init_15 rfl (lv_at hl 0 rfl) ?_
  refine m_new (ci := 3) (fs := [.long 0, .long 0, .long 0]) (C := RX3) (T := TX3) (N := 3) hx hb hts qi_X2_init_X3 tyX3 tyX3_ok hown (hts _ q_X2_init_4) (hts _ q_X2_init_5) (hts _ q_X2_init_6) hK.1 hM hS rfl (fun j hj => by match j, hj with | 0, _ => rfl | 1, _ => rfl | 2, _ => rfl | j + 3, hj => exact absurd hj (by omega)) (Nat.le_of_ble_eq_true rfl) (Nat.le_of_ble_eq_true rfl) dX2_init_16 (fun H hM hS => ?_)
  replace h := o_b h; obtain ⟨f16, h16, h⟩ := h
  replace h16 := Option.some.inj h16
  subst h16
  refine lv_dup hx hb dX2_init_19 rfl ?_
  replace h := o_b h; obtain ⟨q20, h20, h⟩ := h
  refine m_call (va_runIN (As := []) (rest := [.ref (sz + 1), .ref v0]) ⟨hx, hb, hml, hown, hts⟩ (c_X3_init l D b0 ((sz + 1) + 1) h20) ⟨(va_cnB 0 hts gX2_init_X3_init_n9 rfl rfl rfl (hK.2.1 (RX2, 9, yX3_init, "StageTruths") (by decide)) (hts _ q_X2_init_6) (by decide +kernel) ⟨Nat.le_of_ble_eq_true rfl, Nat.le_of_ble_eq_true rfl⟩), rfl, (hts _ q_X2_init_7)⟩ ⟨PW.blind, (fun U hU hW => ⟨rfl, PW.call hK hM hS hU hW⟩)⟩ rfl rfl hl.1 rfl (lv_room (Nat.le_of_ble_eq_true rfl)) dX2_init_20 ⟨(Nat.le_of_ble_eq_true rfl), (Nat.le_of_ble_eq_true rfl)⟩) hS (fun H locs hM hS => ?_)
  replace h := o_b h; obtain ⟨f23, h23, h⟩ := h
  refine m_putF (ty := (.object "StageTruths$PartSet")) (C := RX2) (T := TX2) (N := 5) (ci := 2) hx hb hts qi_X2_init_X2 tyX2 tyX2_ok nmX2 hown hK.1 hM hS 1 h23 rfl (by decide) (hts _ q_X2_init_10) (fun _ h9 => h9) rfl hin rfl (by decide +kernel) rfl rfl dX2_init_23 (fun H locs hM hS => ?_)
  refine lv_aload_n hx hb dX2_init_26 rfl (lv_at hl 0 rfl) ?_
  refine m_new (ci := 3) (fs := [.long 0, .long 0, .long 0]) (C := RX3) (T := TX3) (N := 3) hx hb hts qi_X2_init_X3 tyX3 tyX3_ok hown (hts _ q_X2_init_4) (hts _ q_X2_init_5) (hts _ q_X2_init_6) hK.1 hM hS rfl (fun j hj => by match j, hj with | 0, _ => rfl | 1, _ => rfl | 2, _ => rfl | j + 3, hj => exact absurd hj (by omega)) (Nat.le_of_ble_eq_true rfl) (Nat.le_of_ble_eq_true rfl) dX2_init_27 (fun H hM hS => ?_)
  replace h := o_b h; obtain ⟨f27, h27, h⟩ := h
  replace h27 := Option.some.inj h27
  subst h27
  refine lv_dup hx hb dX2_init_30 rfl ?_
  replace h := o_b h; obtain ⟨q31, h31, h⟩ := h
  refine m_call (va_runIN (As := []) (rest := [.ref ((sz + 1) + 1), .ref v0]) ⟨hx, hb, hml, hown, hts⟩ (c_X3_init l D b0 (((sz + 1) + 1) + 1) h31) ⟨(va_cnB 0 hts gX2_init_X3_init_n9 rfl rfl rfl (hK.2.1 (RX2, 9, yX3_init, "StageTruths") (by decide)) (hts _ q_X2_init_6) (by decide +kernel) ⟨Nat.le_of_ble_eq_true rfl, Nat.le_of_ble_eq_true rfl⟩), rfl, (hts _ q_X2_init_7)⟩ ⟨PW.blind, (fun U hU hW => ⟨rfl, PW.call hK hM hS hU hW⟩)⟩ rfl rfl hl.1 rfl (lv_room (Nat.le_of_ble_eq_true rfl)) dX2_init_31 ⟨(Nat.le_of_ble_eq_true rfl), (Nat.le_of_ble_eq_true rfl)⟩) hS (fun H locs hM hS => ?_)
  replace h := o_b h; obtain ⟨f34, h34, h⟩ := h
  refine m_putF (ty := (.object "StageTruths$PartSet")) (C := RX2) (T := TX2) (N := 5) (ci := 2) hx hb hts qi_X2_init_X2 tyX2 tyX2_ok nmX2 hown hK.1 hM hS 2 h34 rfl (by decide) (hts _ q_X2_init_11) (fun _ h9 => h9) rfl hin rfl (by decide +kernel) rfl rfl dX2_init_34 (fun H locs hM hS => ?_)
  refine lv_aload_n hx hb dX2_init_37 rfl (lv_at hl 0 rfl) ?_
  refine m_new (ci := 3) (fs := [.long 0, .long 0, .long 0]) (C := RX3) (T := TX3) (N := 3) hx hb hts qi_X2_init_X3 tyX3 tyX3_ok hown (hts _ q_X2_init_4) (hts _ q_X2_init_5) (hts _ q_X2_init_6) hK.1 hM hS rfl (fun j hj => by match j, hj with | 0, _ => rfl | 1, _ => rfl | 2, _ => rfl | j + 3, hj => exact absurd hj (by omega)) (Nat.le_of_ble_eq_true rfl) (Nat.le_of_ble_eq_true rfl) dX2_init_38 (fun H hM hS => ?_)
  replace h := o_b h; obtain ⟨f38, h38, h⟩ := h
  replace h38 := Option.some.inj h38
  subst h38
  refine lv_dup hx hb dX2_init_41 rfl ?_
  replace h := o_b h; obtain ⟨q42, h42, h⟩ := h
  refine m_call (va_runIN (As := []) (rest := [.ref (((sz + 1) + 1) + 1), .ref v0]) ⟨hx, hb, hml, hown, hts⟩ (c_X3_init l D b0 ((((sz + 1) + 1) + 1) + 1) h42) ⟨(va_cnB 0 hts gX2_init_X3_init_n9 rfl rfl rfl (hK.2.1 (RX2, 9, yX3_init, "StageTruths") (by decide)) (hts _ q_X2_init_6) (by decide +kernel) ⟨Nat.le_of_ble_eq_true rfl, Nat.le_of_ble_eq_true rfl⟩), rfl, (hts _ q_X2_init_7)⟩ ⟨PW.blind, (fun U hU hW => ⟨rfl, PW.call hK hM hS hU hW⟩)⟩ rfl rfl hl.1 rfl (lv_room (Nat.le_of_ble_eq_true rfl)) dX2_init_42 ⟨(Nat.le_of_ble_eq_true rfl), (Nat.le_of_ble_eq_true rfl)⟩) hS (fun H locs hM hS => ?_)
  replace h := o_b h; obtain ⟨f45, h45, h⟩ := h
  refine m_putF (ty := (.object "StageTruths$PartSet")) (C := RX2) (T := TX2) (N := 5) (ci := 2) hx hb hts qi_X2_init_X2 tyX2 tyX2_ok nmX2 hown hK.1 hM hS 3 h45 rfl (by decide) (hts _ q_X2_init_12) (fun _ h9 => h9) rfl hin rfl (by decide +kernel) rfl rfl dX2_init_45 (fun H locs hM hS => ?_)
  refine lv_aload_n hx hb dX2_init_48 rfl (lv_at hl 0 rfl) ?_
  refine lv_iconst (v := (0 : Int32)) hx hb dX2_init_49 (by decide) ?_
  replace h := o_b h; obtain ⟨f50, h50, h⟩ := h
  refine m_put (ty := .int) (C := RX2) (T := TX2) (N := 5) (ci := 2) hx hb hts qi_X2_init_X2 tyX2 tyX2_ok nmX2 hown hK.1 hM hS 4 h50 rfl (by decide) (hts _ q_X2_init_13) (fun _ h9 => h9) rfl (by decide +kernel) rfl rfl dX2_init_50 (fun H locs hM hS => ?_)
  refine W.widen (k := 4) (n := 12) (Nat.le_of_ble_eq_true rfl) (Nat.le_of_ble_eq_true rfl) ?_
  replace h := Option.some.inj h; subst h
  exact W.vret hx hb hr (fun t ht hW => ⟨rfl, by rw [ht]; exact hM.moved hW.alike, hS.F ht⟩) hS.2.2 dX2_init_53
set_option maxHeartbeats 4000000 in
set_option maxRecDepth 100000 in
theorem c_X2_init (l : Launch) (D : mmD) (b0 sz : Nat) {v0 : Nat} {f : mmF} {res : mmF × Nat} (h : f_X2_init v0 f sz = some res) : Met l yX2_init wsX2_init ({ frames := 2, cells := 4, slots := 12, locals := 44 } : Room) (va_Pc [.ref v0] (PW D b0 f sz)) (QW D b0 none res.1 res.2) 4 12 (fun q => b0 ≤ q) := by
  refine Met.ofW (cc := cX2_init) (maxL := 1) (ret := none) (by decide) rfl ?_
  intro p e s m args below meth c s₁ B hml hv
  obtain ⟨rfl, hM, hK⟩ := hv
  have hl := lv_entry ([.ref v0]) (n := 1) (Nat.le_of_ble_eq_true rfl)
  rw [lg_entry_eq]
  generalize (lg_sl ([.ref v0]) ++ List.replicate (1 - (lg_sl ([.ref v0])).length) Slot.unset).toArray = ls at hl ⊢
  have hl : lv_has ls 1 [(0, .ref v0)] := hl
  exact w_X2_init ⟨B.exec, B.bytes, B.returns, hml, findClass_of_methodNamed B.named, atoms_spec (ws := wsX2_init) B.pre, B.notSynchronized, hK⟩ (name_of_methodNamed B.named B.method).1 h s.heap [] ls hM va_S.rf hl
end S_X2_init
/-! X3_fill -/
set_option maxRecDepth 20000 in
theorem qi_X3_fill_X3 : ∀ w ∈ u_ws RX3 TX3 3, w ∈ wsX3_fill := by decide +kernel
set_option maxRecDepth 20000 in
theorem q_X3_fill_1 : Cond.fieldLink RX3 7 "StageTruths$PartSet" "low" "J" ∈ wsX3_fill := by decide +kernel
set_option maxRecDepth 20000 in
theorem q_X3_fill_2 : Cond.fieldLink RX3 13 "StageTruths$PartSet" "middle" "J" ∈ wsX3_fill := by decide +kernel
set_option maxRecDepth 20000 in
theorem q_X3_fill_3 : Cond.fieldLink RX3 16 "StageTruths$PartSet" "high" "J" ∈ wsX3_fill := by decide +kernel
set_option maxRecDepth 20000 in
theorem q_X3_fill_4 : Cond.constantLong RX3 19 (-1) ∈ wsX3_fill := by decide +kernel
noncomputable def f_X3_fill_12   (v0 : Nat) (t0 : Nat) (t1 : Int64) (f : mmF) : Option (mmF) :=
  (stF f t0 3 0 (.long t1)).bind fun f12 =>
  (ldJ f12 v0 3 0).bind fun x17 =>
  (stF f12 v0 3 1 (.long x17)).bind fun f20 =>
  (ldJ f20 v0 3 0).bind fun x25 =>
  (stF f20 v0 3 2 (.long x25)).bind fun f28 =>
  some (f28)
noncomputable def f_X3_fill (v0 : Nat) (v1 : Int32) (f : mmF) : Option (mmF) :=
  if v1 = 0 then
  (f_X3_fill_12 v0 v0 (0 : Int64) f)
  else
  f_X3_fill_12 v0 v0 (-1 : Int64) f
section S_X3_fill
variable {p : Program} {l : Launch} {e : Env} {s : State} {m : MethodId} {args : Array Value} {below : List Frame} {meth : Method} {c : Code} {D : mmD} {b0 sz : Nat} {f : mmF}
set_option maxHeartbeats 4000000 in
set_option maxRecDepth 100000 in
theorem w_X3_fill_12 (C0 : CX cX3_fill 2 none wsX3_fill RX3 p s m args meth c D b0) {res : mmF} : ∀ (v0 : Nat) (t0 : Nat) (t1 : Int64) (f : mmF), f_X3_fill_12 v0 t0 t1 f = some res → ∀ (H : Heap) (locs : List Loc) (ls : Array Slot), MM vwCl D b0 f sz s H → mS b0 s H locs → lv_has ls 2 [(0, .ref v0)] → W p l e ({ frames := 0, cells := 0, slots := 0, locals := 0 } : Room) s m args below meth c H locs 0 0 (MQ below (QW D b0 none res sz) args s 0 0 (fun q => b0 ≤ q)) (F0 m 12 ls [.long t1, .ref t0]) := by
  obtain ⟨hx, hb, hr, hml, hown, hts, hlocks, hK⟩ := id C0
  intro v0 t0 t1 f h H locs ls hM hS hl
  unfold f_X3_fill_12 at h
  replace h := o_b h; obtain ⟨f12, h12, h⟩ := h
  refine m_put (ty := .long) (C := RX3) (T := TX3) (N := 3) (ci := 3) hx hb hts qi_X3_fill_X3 tyX3 tyX3_ok nmX3 hown hK.1 hM hS 0 h12 rfl (by decide) (hts _ q_X3_fill_1) (fun _ h9 => h9) rfl (by decide +kernel) rfl rfl dX3_fill_12 (fun H locs hM hS => ?_)
  refine lv_aload_n hx hb dX3_fill_15 rfl (lv_at hl 0 rfl) ?_
  refine lv_aload_n hx hb dX3_fill_16 rfl (lv_at hl 0 rfl) ?_
  replace h := o_b h; obtain ⟨x17, h17, h⟩ := h
  refine m_get (C := RX3) (T := TX3) (N := 3) (ci := 3) hx hb hts qi_X3_fill_X3 hown hK.1 hM 0 (ldJ_F h17) rfl (by decide) (hts _ q_X3_fill_1) (fun _ h9 => h9) dX3_fill_17 ?_
  replace h := o_b h; obtain ⟨f20, h20, h⟩ := h
  refine m_put (ty := .long) (C := RX3) (T := TX3) (N := 3) (ci := 3) hx hb hts qi_X3_fill_X3 tyX3 tyX3_ok nmX3 hown hK.1 hM hS 1 h20 rfl (by decide) (hts _ q_X3_fill_2) (fun _ h9 => h9) rfl (by decide +kernel) rfl rfl dX3_fill_20 (fun H locs hM hS => ?_)
  refine lv_aload_n hx hb dX3_fill_23 rfl (lv_at hl 0 rfl) ?_
  refine lv_aload_n hx hb dX3_fill_24 rfl (lv_at hl 0 rfl) ?_
  replace h := o_b h; obtain ⟨x25, h25, h⟩ := h
  refine m_get (C := RX3) (T := TX3) (N := 3) (ci := 3) hx hb hts qi_X3_fill_X3 hown hK.1 hM 0 (ldJ_F h25) rfl (by decide) (hts _ q_X3_fill_1) (fun _ h9 => h9) dX3_fill_25 ?_
  replace h := o_b h; obtain ⟨f28, h28, h⟩ := h
  refine m_put (ty := .long) (C := RX3) (T := TX3) (N := 3) (ci := 3) hx hb hts qi_X3_fill_X3 tyX3 tyX3_ok nmX3 hown hK.1 hM hS 2 h28 rfl (by decide) (hts _ q_X3_fill_3) (fun _ h9 => h9) rfl (by decide +kernel) rfl rfl dX3_fill_28 (fun H locs hM hS => ?_)
  replace h := Option.some.inj h; subst h
  exact W.vret hx hb hr (fun t ht hW => ⟨rfl, by rw [ht]; exact hM.moved hW.alike, hS.F ht⟩) hS.2.2 dX3_fill_31
set_option maxHeartbeats 4000000 in
set_option maxRecDepth 100000 in
theorem w_X3_fill (C0 : CX cX3_fill 2 none wsX3_fill RX3 p s m args meth c D b0) {v0 : Nat} {v1 : Int32} {res : mmF} (h : f_X3_fill v0 v1 f = some res) : ∀ (H : Heap) (locs : List Loc) (ls : Array Slot), MM vwCl D b0 f sz s H → mS b0 s H locs → lv_has ls 2 [(0, .ref v0), (1, .int v1)] → W p l e ({ frames := 0, cells := 0, slots := 0, locals := 0 } : Room) s m args below meth c H locs 0 0 (MQ below (QW D b0 none res sz) args s 0 0 (fun q => b0 ≤ q)) (F0 m 0 ls []) := by
  obtain ⟨hx, hb, hr, hml, hown, hts, hlocks, hK⟩ := id C0
  intro H locs ls hM hS hl
  unfold f_X3_fill at h
  refine lv_aload_n hx hb dX3_fill_0 rfl (lv_at hl 0 rfl) ?_
  refine lv_iload_n hx hb dX3_fill_1 rfl (lv_at hl 1 rfl) ?_
  refine lv_if_eq (tgt := 11) hx hb dX3_fill_2 (by decide) (fun c2 => ?_) (fun c2 => ?_)
  · replace h := o_t c2 h
    refine lv_lconst (v := (0 : Int64)) hx hb dX3_fill_11 (by decide) ?_
    exact w_X3_fill_12 C0 _ _ _ _ h _ _ _ hM hS (lv_sub hl [0] rfl)
  replace h := o_f c2 h
  refine lv_ldc2 (v := (-1 : Int64)) hx hb hown (hts _ q_X3_fill_4) dX3_fill_5 ?_
  refine lv_goto (tgt := 12) hx hb dX3_fill_8 (by decide) ?_
  exact w_X3_fill_12 C0 _ _ _ _ h _ _ _ hM hS (lv_sub hl [0] rfl)
set_option maxHeartbeats 4000000 in
set_option maxRecDepth 100000 in
theorem c_X3_fill (l : Launch) (D : mmD) (b0 sz : Nat) {v0 : Nat} {v1 : Int32} {f : mmF} {res : mmF} (h : f_X3_fill v0 v1 f = some res) : Met l yX3_fill wsX3_fill ({ frames := 0, cells := 0, slots := 0, locals := 0 } : Room) (va_Pc [.ref v0, .int v1] (PW D b0 f sz)) (QW D b0 none res sz) 0 0 (fun q => b0 ≤ q) := by
  refine Met.ofW (cc := cX3_fill) (maxL := 2) (ret := none) (by decide) rfl ?_
  intro p e s m args below meth c s₁ B hml hv
  obtain ⟨rfl, hM, hK⟩ := hv
  have hl := lv_entry ([.ref v0, .int v1]) (n := 2) (Nat.le_of_ble_eq_true rfl)
  rw [lg_entry_eq]
  generalize (lg_sl ([.ref v0, .int v1]) ++ List.replicate (2 - (lg_sl ([.ref v0, .int v1])).length) Slot.unset).toArray = ls at hl ⊢
  have hl : lv_has ls 2 [(0, .ref v0), (1, .int v1)] := hl
  exact w_X3_fill ⟨B.exec, B.bytes, B.returns, hml, findClass_of_methodNamed B.named, atoms_spec (ws := wsX3_fill) B.pre, B.notSynchronized, hK⟩ h s.heap [] ls hM va_S.rf hl
end S_X3_fill
/-! X3_keepOnly -/
set_option maxRecDepth 20000 in
theorem qi_X3_keepOnly_X3 : ∀ w ∈ u_ws RX3 TX3 3, w ∈ wsX3_keepOnly := by decide +kernel
set_option maxRecDepth 20000 in
theorem q_X3_keepOnly_1 : Cond.fieldLink RX3 7 "StageTruths$PartSet" "low" "J" ∈ wsX3_keepOnly := by decide +kernel
set_option maxRecDepth 20000 in
theorem q_X3_keepOnly_2 : Cond.fieldLink RX3 13 "StageTruths$PartSet" "middle" "J" ∈ wsX3_keepOnly := by decide +kernel
set_option maxRecDepth 20000 in
theorem q_X3_keepOnly_3 : Cond.fieldLink RX3 16 "StageTruths$PartSet" "high" "J" ∈ wsX3_keepOnly := by decide +kernel
noncomputable def f_X3_keepOnly (v0 : Nat) (v1 : Nat) (f : mmF) : Option (mmF) :=
  (ldJ f v0 3 0).bind fun x2 =>
  (ldJ f v1 3 0).bind fun x6 =>
  (stF f v0 3 0 (.long (x2 &&& x6))).bind fun f10 =>
  (ldJ f10 v0 3 1).bind fun x15 =>
  (ldJ f10 v1 3 1).bind fun x19 =>
  (stF f10 v0 3 1 (.long (x15 &&& x19))).bind fun f23 =>
  (ldJ f23 v0 3 2).bind fun x28 =>
  (ldJ f23 v1 3 2).bind fun x32 =>
  (stF f23 v0 3 2 (.long (x28 &&& x32))).bind fun f36 =>
  some (f36)
section S_X3_keepOnly
variable {p : Program} {l : Launch} {e : Env} {s : State} {m : MethodId} {args : Array Value} {below : List Frame} {meth : Method} {c : Code} {D : mmD} {b0 sz : Nat} {f : mmF}
set_option maxHeartbeats 4000000 in
set_option maxRecDepth 100000 in
theorem w_X3_keepOnly (C0 : CX cX3_keepOnly 2 none wsX3_keepOnly RX3 p s m args meth c D b0) {v0 : Nat} {v1 : Nat} {res : mmF} (h : f_X3_keepOnly v0 v1 f = some res) : ∀ (H : Heap) (locs : List Loc) (ls : Array Slot), MM vwCl D b0 f sz s H → mS b0 s H locs → lv_has ls 2 [(0, .ref v0), (1, .ref v1)] → W p l e ({ frames := 0, cells := 0, slots := 0, locals := 0 } : Room) s m args below meth c H locs 0 0 (MQ below (QW D b0 none res sz) args s 0 0 (fun q => b0 ≤ q)) (F0 m 0 ls []) := by
  obtain ⟨hx, hb, hr, hml, hown, hts, hlocks, hK⟩ := id C0
  intro H locs ls hM hS hl
  unfold f_X3_keepOnly at h
  refine lv_aload_n hx hb dX3_keepOnly_0 rfl (lv_at hl 0 rfl) ?_
  refine lv_dup hx hb dX3_keepOnly_1 rfl ?_
  replace h := o_b h; obtain ⟨x2, h2, h⟩ := h
  refine m_get (C := RX3) (T := TX3) (N := 3) (ci := 3) hx hb hts qi_X3_keepOnly_X3 hown hK.1 hM 0 (ldJ_F h2) rfl (by decide) (hts _ q_X3_keepOnly_1) (fun _ h9 => h9) dX3_keepOnly_2 ?_
  refine lv_aload_n hx hb dX3_keepOnly_5 rfl (lv_at hl 1 rfl) ?_
  replace h := o_b h; obtain ⟨x6, h6, h⟩ := h
  refine m_get (C := RX3) (T := TX3) (N := 3) (ci := 3) hx hb hts qi_X3_keepOnly_X3 hown hK.1 hM 0 (ldJ_F h6) rfl (by decide) (hts _ q_X3_keepOnly_1) (fun _ h9 => h9) dX3_keepOnly_6 ?_
  refine lv_land hx hb dX3_keepOnly_9 ?_
  replace h := o_b h; obtain ⟨f10, h10, h⟩ := h
  refine m_put (ty := .long) (C := RX3) (T := TX3) (N := 3) (ci := 3) hx hb hts qi_X3_keepOnly_X3 tyX3 tyX3_ok nmX3 hown hK.1 hM hS 0 h10 rfl (by decide) (hts _ q_X3_keepOnly_1) (fun _ h9 => h9) rfl (by decide +kernel) rfl rfl dX3_keepOnly_10 (fun H locs hM hS => ?_)
  refine lv_aload_n hx hb dX3_keepOnly_13 rfl (lv_at hl 0 rfl) ?_
  refine lv_dup hx hb dX3_keepOnly_14 rfl ?_
  replace h := o_b h; obtain ⟨x15, h15, h⟩ := h
  refine m_get (C := RX3) (T := TX3) (N := 3) (ci := 3) hx hb hts qi_X3_keepOnly_X3 hown hK.1 hM 1 (ldJ_F h15) rfl (by decide) (hts _ q_X3_keepOnly_2) (fun _ h9 => h9) dX3_keepOnly_15 ?_
  refine lv_aload_n hx hb dX3_keepOnly_18 rfl (lv_at hl 1 rfl) ?_
  replace h := o_b h; obtain ⟨x19, h19, h⟩ := h
  refine m_get (C := RX3) (T := TX3) (N := 3) (ci := 3) hx hb hts qi_X3_keepOnly_X3 hown hK.1 hM 1 (ldJ_F h19) rfl (by decide) (hts _ q_X3_keepOnly_2) (fun _ h9 => h9) dX3_keepOnly_19 ?_
  refine lv_land hx hb dX3_keepOnly_22 ?_
  replace h := o_b h; obtain ⟨f23, h23, h⟩ := h
  refine m_put (ty := .long) (C := RX3) (T := TX3) (N := 3) (ci := 3) hx hb hts qi_X3_keepOnly_X3 tyX3 tyX3_ok nmX3 hown hK.1 hM hS 1 h23 rfl (by decide) (hts _ q_X3_keepOnly_2) (fun _ h9 => h9) rfl (by decide +kernel) rfl rfl dX3_keepOnly_23 (fun H locs hM hS => ?_)
  refine lv_aload_n hx hb dX3_keepOnly_26 rfl (lv_at hl 0 rfl) ?_
  refine lv_dup hx hb dX3_keepOnly_27 rfl ?_
  replace h := o_b h; obtain ⟨x28, h28, h⟩ := h
  refine m_get (C := RX3) (T := TX3) (N := 3) (ci := 3) hx hb hts qi_X3_keepOnly_X3 hown hK.1 hM 2 (ldJ_F h28) rfl (by decide) (hts _ q_X3_keepOnly_3) (fun _ h9 => h9) dX3_keepOnly_28 ?_
  refine lv_aload_n hx hb dX3_keepOnly_31 rfl (lv_at hl 1 rfl) ?_
  replace h := o_b h; obtain ⟨x32, h32, h⟩ := h
  refine m_get (C := RX3) (T := TX3) (N := 3) (ci := 3) hx hb hts qi_X3_keepOnly_X3 hown hK.1 hM 2 (ldJ_F h32) rfl (by decide) (hts _ q_X3_keepOnly_3) (fun _ h9 => h9) dX3_keepOnly_32 ?_
  refine lv_land hx hb dX3_keepOnly_35 ?_
  replace h := o_b h; obtain ⟨f36, h36, h⟩ := h
  refine m_put (ty := .long) (C := RX3) (T := TX3) (N := 3) (ci := 3) hx hb hts qi_X3_keepOnly_X3 tyX3 tyX3_ok nmX3 hown hK.1 hM hS 2 h36 rfl (by decide) (hts _ q_X3_keepOnly_3) (fun _ h9 => h9) rfl (by decide +kernel) rfl rfl dX3_keepOnly_36 (fun H locs hM hS => ?_)
  replace h := Option.some.inj h; subst h
  exact W.vret hx hb hr (fun t ht hW => ⟨rfl, by rw [ht]; exact hM.moved hW.alike, hS.F ht⟩) hS.2.2 dX3_keepOnly_39
set_option maxHeartbeats 4000000 in
set_option maxRecDepth 100000 in
theorem c_X3_keepOnly (l : Launch) (D : mmD) (b0 sz : Nat) {v0 : Nat} {v1 : Nat} {f : mmF} {res : mmF} (h : f_X3_keepOnly v0 v1 f = some res) : Met l yX3_keepOnly wsX3_keepOnly ({ frames := 0, cells := 0, slots := 0, locals := 0 } : Room) (va_Pc [.ref v0, .ref v1] (PW D b0 f sz)) (QW D b0 none res sz) 0 0 (fun q => b0 ≤ q) := by
  refine Met.ofW (cc := cX3_keepOnly) (maxL := 2) (ret := none) (by decide) rfl ?_
  intro p e s m args below meth c s₁ B hml hv
  obtain ⟨rfl, hM, hK⟩ := hv
  have hl := lv_entry ([.ref v0, .ref v1]) (n := 2) (Nat.le_of_ble_eq_true rfl)
  rw [lg_entry_eq]
  generalize (lg_sl ([.ref v0, .ref v1]) ++ List.replicate (2 - (lg_sl ([.ref v0, .ref v1])).length) Slot.unset).toArray = ls at hl ⊢
  have hl : lv_has ls 2 [(0, .ref v0), (1, .ref v1)] := hl
  exact w_X3_keepOnly ⟨B.exec, B.bytes, B.returns, hml, findClass_of_methodNamed B.named, atoms_spec (ws := wsX3_keepOnly) B.pre, B.notSynchronized, hK⟩ h s.heap [] ls hM va_S.rf hl
end S_X3_keepOnly
/-! X3_isWithin -/
set_option maxRecDepth 20000 in
theorem qi_X3_isWithin_X3 : ∀ w ∈ u_ws RX3 TX3 3, w ∈ wsX3_isWithin := by decide +kernel
set_option maxRecDepth 20000 in
theorem q_X3_isWithin_1 : Cond.fieldLink RX3 7 "StageTruths$PartSet" "low" "J" ∈ wsX3_isWithin := by decide +kernel
set_option maxRecDepth 20000 in
theorem q_X3_isWithin_2 : Cond.constantLong RX3 19 (-1) ∈ wsX3_isWithin := by decide +kernel
set_option maxRecDepth 20000 in
theorem q_X3_isWithin_3 : Cond.fieldLink RX3 13 "StageTruths$PartSet" "middle" "J" ∈ wsX3_isWithin := by decide +kernel
set_option maxRecDepth 20000 in
theorem q_X3_isWithin_4 : Cond.fieldLink RX3 16 "StageTruths$PartSet" "high" "J" ∈ wsX3_isWithin := by decide +kernel
noncomputable def f_X3_isWithin (v0 : Nat) (v1 : Nat) (f : mmF) : Option (Int32) :=
  (ldJ f v0 3 0).bind fun x1 =>
  (ldJ f v1 3 0).bind fun x5 =>
  if (lg_cmp (x1 &&& (x5 ^^^ (-1 : Int64))) (0 : Int64)) = 0 then
  ((ldJ f v0 3 1).bind fun x19 =>
  (ldJ f v1 3 1).bind fun x23 =>
  if (lg_cmp (x19 &&& (x23 ^^^ (-1 : Int64))) (0 : Int64)) = 0 then
  ((ldJ f v0 3 2).bind fun x37 =>
  (ldJ f v1 3 2).bind fun x41 =>
  if (lg_cmp (x37 &&& (x41 ^^^ (-1 : Int64))) (0 : Int64)) = 0 then
  (some ((1 : Int32)))
  else
  some ((0 : Int32)))
  else
  some ((0 : Int32)))
  else
  some ((0 : Int32))
section S_X3_isWithin
variable {p : Program} {l : Launch} {e : Env} {s : State} {m : MethodId} {args : Array Value} {below : List Frame} {meth : Method} {c : Code} {D : mmD} {b0 sz : Nat} {f : mmF}
set_option maxHeartbeats 4000000 in
set_option maxRecDepth 100000 in
theorem w_X3_isWithin (C0 : CX cX3_isWithin 2 (some .boolean) wsX3_isWithin RX3 p s m args meth c D b0) {v0 : Nat} {v1 : Nat} {res : Int32} (h : f_X3_isWithin v0 v1 f = some res) : ∀ (H : Heap) (locs : List Loc) (ls : Array Slot), MM vwCl D b0 f sz s H → mS b0 s H locs → lv_has ls 2 [(0, .ref v0), (1, .ref v1)] → W p l e ({ frames := 0, cells := 0, slots := 0, locals := 0 } : Room) s m args below meth c H locs 0 0 (MQ below (QW D b0 (some (.int res)) f sz) args s 0 0 (fun q => b0 ≤ q)) (F0 m 0 ls []) := by
  obtain ⟨hx, hb, hr, hml, hown, hts, hlocks, hK⟩ := id C0
  intro H locs ls hM hS hl
  unfold f_X3_isWithin at h
  refine lv_aload_n hx hb dX3_isWithin_0 rfl (lv_at hl 0 rfl) ?_
  replace h := o_b h; obtain ⟨x1, h1, h⟩ := h
  refine m_get (C := RX3) (T := TX3) (N := 3) (ci := 3) hx hb hts qi_X3_isWithin_X3 hown hK.1 hM 0 (ldJ_F h1) rfl (by decide) (hts _ q_X3_isWithin_1) (fun _ h9 => h9) dX3_isWithin_1 ?_
  refine lv_aload_n hx hb dX3_isWithin_4 rfl (lv_at hl 1 rfl) ?_
  replace h := o_b h; obtain ⟨x5, h5, h⟩ := h
  refine m_get (C := RX3) (T := TX3) (N := 3) (ci := 3) hx hb hts qi_X3_isWithin_X3 hown hK.1 hM 0 (ldJ_F h5) rfl (by decide) (hts _ q_X3_isWithin_1) (fun _ h9 => h9) dX3_isWithin_5 ?_
  refine lv_ldc2 (v := (-1 : Int64)) hx hb hown (hts _ q_X3_isWithin_2) dX3_isWithin_8 ?_
  refine lv_lxor hx hb dX3_isWithin_11 ?_
  refine lv_land hx hb dX3_isWithin_12 ?_
  refine lv_lconst (v := (0 : Int64)) hx hb dX3_isWithin_13 (by decide) ?_
  refine W.lcmp hx hb dX3_isWithin_14 ?_
  refine lv_if_ne (tgt := 58) hx hb dX3_isWithin_15 (by decide) (fun c15 => ?_) (fun c15 => ?_)
  · replace h := o_f c15 h
    refine lv_iconst (v := (0 : Int32)) hx hb dX3_isWithin_58 (by decide) ?_
    replace h := Option.some.inj h; subst h
    exact W.zret hx hb hr rfl (fun t ht hW => ⟨rfl, by rw [ht]; exact hM.moved hW.alike, hS.F ht⟩) hS.2.2 dX3_isWithin_59
  replace h := o_t c15 h
  refine lv_aload_n hx hb dX3_isWithin_18 rfl (lv_at hl 0 rfl) ?_
  replace h := o_b h; obtain ⟨x19, h19, h⟩ := h
  refine m_get (C := RX3) (T := TX3) (N := 3) (ci := 3) hx hb hts qi_X3_isWithin_X3 hown hK.1 hM 1 (ldJ_F h19) rfl (by decide) (hts _ q_X3_isWithin_3) (fun _ h9 => h9) dX3_isWithin_19 ?_
  refine lv_aload_n hx hb dX3_isWithin_22 rfl (lv_at hl 1 rfl) ?_
  replace h := o_b h; obtain ⟨x23, h23, h⟩ := h
  refine m_get (C := RX3) (T := TX3) (N := 3) (ci := 3) hx hb hts qi_X3_isWithin_X3 hown hK.1 hM 1 (ldJ_F h23) rfl (by decide) (hts _ q_X3_isWithin_3) (fun _ h9 => h9) dX3_isWithin_23 ?_
  refine lv_ldc2 (v := (-1 : Int64)) hx hb hown (hts _ q_X3_isWithin_2) dX3_isWithin_26 ?_
  refine lv_lxor hx hb dX3_isWithin_29 ?_
  refine lv_land hx hb dX3_isWithin_30 ?_
  refine lv_lconst (v := (0 : Int64)) hx hb dX3_isWithin_31 (by decide) ?_
  refine W.lcmp hx hb dX3_isWithin_32 ?_
  refine lv_if_ne (tgt := 58) hx hb dX3_isWithin_33 (by decide) (fun c33 => ?_) (fun c33 => ?_)
  · replace h := o_f c33 h
    refine lv_iconst (v := (0 : Int32)) hx hb dX3_isWithin_58 (by decide) ?_
    replace h := Option.some.inj h; subst h
    exact W.zret hx hb hr rfl (fun t ht hW => ⟨rfl, by rw [ht]; exact hM.moved hW.alike, hS.F ht⟩) hS.2.2 dX3_isWithin_59
  replace h := o_t c33 h
  refine lv_aload_n hx hb dX3_isWithin_36 rfl (lv_at hl 0 rfl) ?_
  replace h := o_b h; obtain ⟨x37, h37, h⟩ := h
  refine m_get (C := RX3) (T := TX3) (N := 3) (ci := 3) hx hb hts qi_X3_isWithin_X3 hown hK.1 hM 2 (ldJ_F h37) rfl (by decide) (hts _ q_X3_isWithin_4) (fun _ h9 => h9) dX3_isWithin_37 ?_
  refine lv_aload_n hx hb dX3_isWithin_40 rfl (lv_at hl 1 rfl) ?_
  replace h := o_b h; obtain ⟨x41, h41, h⟩ := h
  refine m_get (C := RX3) (T := TX3) (N := 3) (ci := 3) hx hb hts qi_X3_isWithin_X3 hown hK.1 hM 2 (ldJ_F h41) rfl (by decide) (hts _ q_X3_isWithin_4) (fun _ h9 => h9) dX3_isWithin_41 ?_
  refine lv_ldc2 (v := (-1 : Int64)) hx hb hown (hts _ q_X3_isWithin_2) dX3_isWithin_44 ?_
  refine lv_lxor hx hb dX3_isWithin_47 ?_
  refine lv_land hx hb dX3_isWithin_48 ?_
  refine lv_lconst (v := (0 : Int64)) hx hb dX3_isWithin_49 (by decide) ?_
  refine W.lcmp hx hb dX3_isWithin_50 ?_
  refine lv_if_ne (tgt := 58) hx hb dX3_isWithin_51 (by decide) (fun c51 => ?_) (fun c51 => ?_)
  · replace h := o_f c51 h
    refine lv_iconst (v := (0 : Int32)) hx hb dX3_isWithin_58 (by decide) ?_
    replace h := Option.some.inj h; subst h
    exact W.zret hx hb hr rfl (fun t ht hW => ⟨rfl, by rw [ht]; exact hM.moved hW.alike, hS.F ht⟩) hS.2.2 dX3_isWithin_59
  replace h := o_t c51 h
  refine lv_iconst (v := (1 : Int32)) hx hb dX3_isWithin_54 (by decide) ?_
  refine lv_goto (tgt := 59) hx hb dX3_isWithin_55 (by decide) ?_
  replace h := Option.some.inj h; subst h
  exact W.zret hx hb hr rfl (fun t ht hW => ⟨rfl, by rw [ht]; exact hM.moved hW.alike, hS.F ht⟩) hS.2.2 dX3_isWithin_59
set_option maxHeartbeats 4000000 in
set_option maxRecDepth 100000 in
theorem c_X3_isWithin (l : Launch) (D : mmD) (b0 sz : Nat) {v0 : Nat} {v1 : Nat} {f : mmF} {res : Int32} (h : f_X3_isWithin v0 v1 f = some res) : Met l yX3_isWithin wsX3_isWithin ({ frames := 0, cells := 0, slots := 0, locals := 0 } : Room) (va_Pc [.ref v0, .ref v1] (PW D b0 f sz)) (QW D b0 (some (.int res)) f sz) 0 0 (fun q => b0 ≤ q) := by
  refine Met.ofW (cc := cX3_isWithin) (maxL := 2) (ret := (some .boolean)) (by decide) rfl ?_
  intro p e s m args below meth c s₁ B hml hv
  obtain ⟨rfl, hM, hK⟩ := hv
  have hl := lv_entry ([.ref v0, .ref v1]) (n := 2) (Nat.le_of_ble_eq_true rfl)
  rw [lg_entry_eq]
  generalize (lg_sl ([.ref v0, .ref v1]) ++ List.replicate (2 - (lg_sl ([.ref v0, .ref v1])).length) Slot.unset).toArray = ls at hl ⊢
  have hl : lv_has ls 2 [(0, .ref v0), (1, .ref v1)] := hl
  exact w_X3_isWithin ⟨B.exec, B.bytes, B.returns, hml, findClass_of_methodNamed B.named, atoms_spec (ws := wsX3_isWithin) B.pre, B.notSynchronized, hK⟩ h s.heap [] ls hM va_S.rf hl
end S_X3_isWithin
/-! X3_has -/
set_option maxRecDepth 20000 in
theorem qi_X3_has_X3 : ∀ w ∈ u_ws RX3 TX3 3, w ∈ wsX3_has := by decide +kernel
set_option maxRecDepth 20000 in
theorem q_X3_has_1 : Cond.fieldLink RX3 16 "StageTruths$PartSet" "high" "J" ∈ wsX3_has := by decide +kernel
set_option maxRecDepth 20000 in
theorem q_X3_has_2 : Cond.fieldLink RX3 13 "StageTruths$PartSet" "middle" "J" ∈ wsX3_has := by decide +kernel
set_option maxRecDepth 20000 in
theorem q_X3_has_3 : Cond.fieldLink RX3 7 "StageTruths$PartSet" "low" "J" ∈ wsX3_has := by decide +kernel
noncomputable def f_X3_has_31  (f : mmF) (v1 : Int32) (t0 : Int64) : Option (Int32) :=
  if (lg_cmp ((mm_lushr t0 (v1 &&& (63 : Int32))) &&& (1 : Int64)) (0 : Int64)) = 0 then
  (some ((0 : Int32)))
  else
  some ((1 : Int32))
noncomputable def f_X3_has (v0 : Nat) (v1 : Int32) (f : mmF) : Option (Int32) :=
  if (64 : Int32) ≤ v1 then
  (if (128 : Int32) ≤ v1 then
  ((ldJ f v0 3 2).bind fun x28 =>
  f_X3_has_31 f v1 x28)
  else
  (ldJ f v0 3 1).bind fun x21 =>
  f_X3_has_31 f v1 x21)
  else
  (ldJ f v0 3 0).bind fun x7 =>
  f_X3_has_31 f v1 x7
section S_X3_has
variable {p : Program} {l : Launch} {e : Env} {s : State} {m : MethodId} {args : Array Value} {below : List Frame} {meth : Method} {c : Code} {D : mmD} {b0 sz : Nat} {f : mmF}
set_option maxHeartbeats 4000000 in
set_option maxRecDepth 100000 in
theorem w_X3_has_31 (C0 : CX cX3_has 4 (some .boolean) wsX3_has RX3 p s m args meth c D b0) {res : Int32} : ∀ (v1 : Int32) (t0 : Int64), f_X3_has_31 f v1 t0 = some res → ∀ (H : Heap) (locs : List Loc) (ls : Array Slot), MM vwCl D b0 f sz s H → mS b0 s H locs → lv_has ls 4 [(1, .int v1)] → W p l e ({ frames := 0, cells := 0, slots := 0, locals := 0 } : Room) s m args below meth c H locs 0 0 (MQ below (QW D b0 (some (.int res)) f sz) args s 0 0 (fun q => b0 ≤ q)) (F0 m 31 ls [.long t0]) := by
  obtain ⟨hx, hb, hr, hml, hown, hts, hlocks, hK⟩ := id C0
  intro v1 t0 h H locs ls hM hS hl
  unfold f_X3_has_31 at h
  refine lv_lstore_n (lv' := [(2, .long t0), (1, .int v1)]) hx hb dX3_has_31 rfl hl (by decide) rfl (fun ls hl => ?_)
  refine lv_lload_n hx hb dX3_has_32 rfl (lv_at hl 0 rfl) ?_
  refine lv_iload_n hx hb dX3_has_33 rfl (lv_at hl 1 rfl) ?_
  refine lv_bipush (v := (63 : Int32)) hx hb dX3_has_34 (by decide) ?_
  refine lv_iand hx hb dX3_has_36 ?_
  refine lv_lushr (v := (mm_lushr t0 (v1 &&& (63 : Int32)))) hx hb dX3_has_37 rfl ?_
  refine lv_lconst (v := (1 : Int64)) hx hb dX3_has_38 (by decide) ?_
  refine lv_land hx hb dX3_has_39 ?_
  refine lv_lconst (v := (0 : Int64)) hx hb dX3_has_40 (by decide) ?_
  refine W.lcmp hx hb dX3_has_41 ?_
  refine lv_if_eq (tgt := 49) hx hb dX3_has_42 (by decide) (fun c42 => ?_) (fun c42 => ?_)
  · replace h := o_t c42 h
    refine lv_iconst (v := (0 : Int32)) hx hb dX3_has_49 (by decide) ?_
    replace h := Option.some.inj h; subst h
    exact W.zret hx hb hr rfl (fun t ht hW => ⟨rfl, by rw [ht]; exact hM.moved hW.alike, hS.F ht⟩) hS.2.2 dX3_has_50
  replace h := o_f c42 h
  refine lv_iconst (v := (1 : Int32)) hx hb dX3_has_45 (by decide) ?_
  refine lv_goto (tgt := 50) hx hb dX3_has_46 (by decide) ?_
  replace h := Option.some.inj h; subst h
  exact W.zret hx hb hr rfl (fun t ht hW => ⟨rfl, by rw [ht]; exact hM.moved hW.alike, hS.F ht⟩) hS.2.2 dX3_has_50
set_option maxHeartbeats 4000000 in
set_option maxRecDepth 100000 in
theorem w_X3_has (C0 : CX cX3_has 4 (some .boolean) wsX3_has RX3 p s m args meth c D b0) {v0 : Nat} {v1 : Int32} {res : Int32} (h : f_X3_has v0 v1 f = some res) : ∀ (H : Heap) (locs : List Loc) (ls : Array Slot), MM vwCl D b0 f sz s H → mS b0 s H locs → lv_has ls 4 [(0, .ref v0), (1, .int v1)] → W p l e ({ frames := 0, cells := 0, slots := 0, locals := 0 } : Room) s m args below meth c H locs 0 0 (MQ below (QW D b0 (some (.int res)) f sz) args s 0 0 (fun q => b0 ≤ q)) (F0 m 0 ls []) := by
  obtain ⟨hx, hb, hr, hml, hown, hts, hlocks, hK⟩ := id C0
  intro H locs ls hM hS hl
  unfold f_X3_has at h
  refine lv_iload_n hx hb dX3_has_0 rfl (lv_at hl 1 rfl) ?_
  refine lv_bipush (v := (64 : Int32)) hx hb dX3_has_1 (by decide) ?_
  refine lv_icmp_ge (tgt := 13) hx hb dX3_has_3 (by decide) (fun c3 => ?_) (fun c3 => ?_)
  · replace h := o_t c3 h
    refine lv_iload_n hx hb dX3_has_13 rfl (lv_at hl 1 rfl) ?_
    refine lv_sipush (v := (128 : Int32)) hx hb dX3_has_14 (by decide) ?_
    refine lv_icmp_ge (tgt := 27) hx hb dX3_has_17 (by decide) (fun c17 => ?_) (fun c17 => ?_)
    · replace h := o_t c17 h
      refine lv_aload_n hx hb dX3_has_27 rfl (lv_at hl 0 rfl) ?_
      replace h := o_b h; obtain ⟨x28, h28, h⟩ := h
      refine m_get (C := RX3) (T := TX3) (N := 3) (ci := 3) hx hb hts qi_X3_has_X3 hown hK.1 hM 2 (ldJ_F h28) rfl (by decide) (hts _ q_X3_has_1) (fun _ h9 => h9) dX3_has_28 ?_
      exact w_X3_has_31 C0 _ _ h _ _ _ hM hS (lv_sub hl [1] rfl)
    replace h := o_f c17 h
    refine lv_aload_n hx hb dX3_has_20 rfl (lv_at hl 0 rfl) ?_
    replace h := o_b h; obtain ⟨x21, h21, h⟩ := h
    refine m_get (C := RX3) (T := TX3) (N := 3) (ci := 3) hx hb hts qi_X3_has_X3 hown hK.1 hM 1 (ldJ_F h21) rfl (by decide) (hts _ q_X3_has_2) (fun _ h9 => h9) dX3_has_21 ?_
    refine lv_goto (tgt := 31) hx hb dX3_has_24 (by decide) ?_
    exact w_X3_has_31 C0 _ _ h _ _ _ hM hS (lv_sub hl [1] rfl)
  replace h := o_f c3 h
  refine lv_aload_n hx hb dX3_has_6 rfl (lv_at hl 0 rfl) ?_
  replace h := o_b h; obtain ⟨x7, h7, h⟩ := h
  refine m_get (C := RX3) (T := TX3) (N := 3) (ci := 3) hx hb hts qi_X3_has_X3 hown hK.1 hM 0 (ldJ_F h7) rfl (by decide) (hts _ q_X3_has_3) (fun _ h9 => h9) dX3_has_7 ?_
  refine lv_goto (tgt := 31) hx hb dX3_has_10 (by decide) ?_
  exact w_X3_has_31 C0 _ _ h _ _ _ hM hS (lv_sub hl [1] rfl)
set_option maxHeartbeats 4000000 in
set_option maxRecDepth 100000 in
theorem c_X3_has (l : Launch) (D : mmD) (b0 sz : Nat) {v0 : Nat} {v1 : Int32} {f : mmF} {res : Int32} (h : f_X3_has v0 v1 f = some res) : Met l yX3_has wsX3_has ({ frames := 0, cells := 0, slots := 0, locals := 0 } : Room) (va_Pc [.ref v0, .int v1] (PW D b0 f sz)) (QW D b0 (some (.int res)) f sz) 0 0 (fun q => b0 ≤ q) := by
  refine Met.ofW (cc := cX3_has) (maxL := 4) (ret := (some .boolean)) (by decide) rfl ?_
  intro p e s m args below meth c s₁ B hml hv
  obtain ⟨rfl, hM, hK⟩ := hv
  have hl := lv_entry ([.ref v0, .int v1]) (n := 4) (Nat.le_of_ble_eq_true rfl)
  rw [lg_entry_eq]
  generalize (lg_sl ([.ref v0, .int v1]) ++ List.replicate (4 - (lg_sl ([.ref v0, .int v1])).length) Slot.unset).toArray = ls at hl ⊢
  have hl : lv_has ls 4 [(0, .ref v0), (1, .int v1)] := hl
  exact w_X3_has ⟨B.exec, B.bytes, B.returns, hml, findClass_of_methodNamed B.named, atoms_spec (ws := wsX3_has) B.pre, B.notSynchronized, hK⟩ h s.heap [] ls hM va_S.rf hl
end S_X3_has
/-! X3_set -/
set_option maxRecDepth 20000 in
theorem qi_X3_set_X3 : ∀ w ∈ u_ws RX3 TX3 3, w ∈ wsX3_set := by decide +kernel
set_option maxRecDepth 20000 in
theorem q_X3_set_1 : Cond.fieldLink RX3 16 "StageTruths$PartSet" "high" "J" ∈ wsX3_set := by decide +kernel
set_option maxRecDepth 20000 in
theorem q_X3_set_2 : Cond.fieldLink RX3 13 "StageTruths$PartSet" "middle" "J" ∈ wsX3_set := by decide +kernel
set_option maxRecDepth 20000 in
theorem q_X3_set_3 : Cond.fieldLink RX3 7 "StageTruths$PartSet" "low" "J" ∈ wsX3_set := by decide +kernel
set_option maxRecDepth 20000 in
theorem q_X3_set_4 : Cond.constantLong RX3 19 (-1) ∈ wsX3_set := by decide +kernel
noncomputable def f_X3_set_104   (t0 : Nat) (t1 : Int64) (f : mmF) : Option (mmF) :=
  (stF f t0 3 2 (.long t1)).bind fun f104 =>
  some (f104)
noncomputable def f_X3_set_74   (t0 : Nat) (t1 : Int64) (f : mmF) : Option (mmF) :=
  (stF f t0 3 1 (.long t1)).bind fun f74 =>
  some (f74)
noncomputable def f_X3_set_37   (t0 : Nat) (t1 : Int64) (f : mmF) : Option (mmF) :=
  (stF f t0 3 0 (.long t1)).bind fun f37 =>
  some (f37)
noncomputable def f_X3_set (v0 : Nat) (v1 : Int32) (v2 : Int32) (f : mmF) : Option (mmF) :=
  if (64 : Int32) ≤ v1 then
  (if (128 : Int32) ≤ v1 then
  (if v2 = 0 then
  ((ldJ f v0 3 2).bind fun x95 =>
  f_X3_set_104 v0 (x95 &&& (((1 : Int64) <<< ((v1 &&& (63 : Int32)).toInt64 &&& 63)) ^^^ (-1 : Int64))) f)
  else
  (ldJ f v0 3 2).bind fun x86 =>
  f_X3_set_104 v0 (x86 ||| ((1 : Int64) <<< ((v1 &&& (63 : Int32)).toInt64 &&& 63))) f)
  else
  if v2 = 0 then
  ((ldJ f v0 3 1).bind fun x65 =>
  f_X3_set_74 v0 (x65 &&& (((1 : Int64) <<< ((v1 &&& (63 : Int32)).toInt64 &&& 63)) ^^^ (-1 : Int64))) f)
  else
  (ldJ f v0 3 1).bind fun x56 =>
  f_X3_set_74 v0 (x56 ||| ((1 : Int64) <<< ((v1 &&& (63 : Int32)).toInt64 &&& 63))) f)
  else
  if v2 = 0 then
  ((ldJ f v0 3 0).bind fun x28 =>
  f_X3_set_37 v0 (x28 &&& (((1 : Int64) <<< ((v1 &&& (63 : Int32)).toInt64 &&& 63)) ^^^ (-1 : Int64))) f)
  else
  (ldJ f v0 3 0).bind fun x19 =>
  f_X3_set_37 v0 (x19 ||| ((1 : Int64) <<< ((v1 &&& (63 : Int32)).toInt64 &&& 63))) f
section S_X3_set
variable {p : Program} {l : Launch} {e : Env} {s : State} {m : MethodId} {args : Array Value} {below : List Frame} {meth : Method} {c : Code} {D : mmD} {b0 sz : Nat} {f : mmF}
set_option maxHeartbeats 4000000 in
set_option maxRecDepth 100000 in
theorem w_X3_set_104 (C0 : CX cX3_set 5 none wsX3_set RX3 p s m args meth c D b0) {res : mmF} : ∀ (t0 : Nat) (t1 : Int64) (f : mmF), f_X3_set_104 t0 t1 f = some res → ∀ (H : Heap) (locs : List Loc) (ls : Array Slot), MM vwCl D b0 f sz s H → mS b0 s H locs → lv_has ls 5 [] → W p l e ({ frames := 0, cells := 0, slots := 0, locals := 0 } : Room) s m args below meth c H locs 0 0 (MQ below (QW D b0 none res sz) args s 0 0 (fun q => b0 ≤ q)) (F0 m 104 ls [.long t1, .ref t0]) := by
  obtain ⟨hx, hb, hr, hml, hown, hts, hlocks, hK⟩ := id C0
  intro t0 t1 f h H locs ls hM hS hl
  unfold f_X3_set_104 at h
  replace h := o_b h; obtain ⟨f104, h104, h⟩ := h
  refine m_put (ty := .long) (C := RX3) (T := TX3) (N := 3) (ci := 3) hx hb hts qi_X3_set_X3 tyX3 tyX3_ok nmX3 hown hK.1 hM hS 2 h104 rfl (by decide) (hts _ q_X3_set_1) (fun _ h9 => h9) rfl (by decide +kernel) rfl rfl dX3_set_104 (fun H locs hM hS => ?_)
  replace h := Option.some.inj h; subst h
  exact W.vret hx hb hr (fun t ht hW => ⟨rfl, by rw [ht]; exact hM.moved hW.alike, hS.F ht⟩) hS.2.2 dX3_set_107
set_option maxHeartbeats 4000000 in
set_option maxRecDepth 100000 in
theorem w_X3_set_74 (C0 : CX cX3_set 5 none wsX3_set RX3 p s m args meth c D b0) {res : mmF} : ∀ (t0 : Nat) (t1 : Int64) (f : mmF), f_X3_set_74 t0 t1 f = some res → ∀ (H : Heap) (locs : List Loc) (ls : Array Slot), MM vwCl D b0 f sz s H → mS b0 s H locs → lv_has ls 5 [] → W p l e ({ frames := 0, cells := 0, slots := 0, locals := 0 } : Room) s m args below meth c H locs 0 0 (MQ below (QW D b0 none res sz) args s 0 0 (fun q => b0 ≤ q)) (F0 m 74 ls [.long t1, .ref t0]) := by
  obtain ⟨hx, hb, hr, hml, hown, hts, hlocks, hK⟩ := id C0
  intro t0 t1 f h H locs ls hM hS hl
  unfold f_X3_set_74 at h
  replace h := o_b h; obtain ⟨f74, h74, h⟩ := h
  refine m_put (ty := .long) (C := RX3) (T := TX3) (N := 3) (ci := 3) hx hb hts qi_X3_set_X3 tyX3 tyX3_ok nmX3 hown hK.1 hM hS 1 h74 rfl (by decide) (hts _ q_X3_set_2) (fun _ h9 => h9) rfl (by decide +kernel) rfl rfl dX3_set_74 (fun H locs hM hS => ?_)
  refine lv_goto (tgt := 107) hx hb dX3_set_77 (by decide) ?_
  replace h := Option.some.inj h; subst h
  exact W.vret hx hb hr (fun t ht hW => ⟨rfl, by rw [ht]; exact hM.moved hW.alike, hS.F ht⟩) hS.2.2 dX3_set_107
set_option maxHeartbeats 4000000 in
set_option maxRecDepth 100000 in
theorem w_X3_set_37 (C0 : CX cX3_set 5 none wsX3_set RX3 p s m args meth c D b0) {res : mmF} : ∀ (t0 : Nat) (t1 : Int64) (f : mmF), f_X3_set_37 t0 t1 f = some res → ∀ (H : Heap) (locs : List Loc) (ls : Array Slot), MM vwCl D b0 f sz s H → mS b0 s H locs → lv_has ls 5 [] → W p l e ({ frames := 0, cells := 0, slots := 0, locals := 0 } : Room) s m args below meth c H locs 0 0 (MQ below (QW D b0 none res sz) args s 0 0 (fun q => b0 ≤ q)) (F0 m 37 ls [.long t1, .ref t0]) := by
  obtain ⟨hx, hb, hr, hml, hown, hts, hlocks, hK⟩ := id C0
  intro t0 t1 f h H locs ls hM hS hl
  unfold f_X3_set_37 at h
  replace h := o_b h; obtain ⟨f37, h37, h⟩ := h
  refine m_put (ty := .long) (C := RX3) (T := TX3) (N := 3) (ci := 3) hx hb hts qi_X3_set_X3 tyX3 tyX3_ok nmX3 hown hK.1 hM hS 0 h37 rfl (by decide) (hts _ q_X3_set_3) (fun _ h9 => h9) rfl (by decide +kernel) rfl rfl dX3_set_37 (fun H locs hM hS => ?_)
  refine lv_goto (tgt := 107) hx hb dX3_set_40 (by decide) ?_
  replace h := Option.some.inj h; subst h
  exact W.vret hx hb hr (fun t ht hW => ⟨rfl, by rw [ht]; exact hM.moved hW.alike, hS.F ht⟩) hS.2.2 dX3_set_107
set_option maxHeartbeats 4000000 in
set_option maxRecDepth 100000 in
theorem w_X3_set (C0 : CX cX3_set 5 none wsX3_set RX3 p s m args meth c D b0) {v0 : Nat} {v1 : Int32} {v2 : Int32} {res : mmF} (h : f_X3_set v0 v1 v2 f = some res) : ∀ (H : Heap) (locs : List Loc) (ls : Array Slot), MM vwCl D b0 f sz s H → mS b0 s H locs → lv_has ls 5 [(0, .ref v0), (1, .int v1), (2, .int v2)] → W p l e ({ frames := 0, cells := 0, slots := 0, locals := 0 } : Room) s m args below meth c H locs 0 0 (MQ below (QW D b0 none res sz) args s 0 0 (fun q => b0 ≤ q)) (F0 m 0 ls []) := by
  obtain ⟨hx, hb, hr, hml, hown, hts, hlocks, hK⟩ := id C0
  intro H locs ls hM hS hl
  unfold f_X3_set at h
  refine lv_lconst (v := (1 : Int64)) hx hb dX3_set_0 (by decide) ?_
  refine lv_iload_n hx hb dX3_set_1 rfl (lv_at hl 1 rfl) ?_
  refine lv_bipush (v := (63 : Int32)) hx hb dX3_set_2 (by decide) ?_
  refine lv_iand hx hb dX3_set_4 ?_
  refine lv_lshl (v := ((1 : Int64) <<< ((v1 &&& (63 : Int32)).toInt64 &&& 63))) hx hb dX3_set_5 rfl ?_
  refine lv_lstore_n (lv' := [(3, .long ((1 : Int64) <<< ((v1 &&& (63 : Int32)).toInt64 &&& 63))), (0, .ref v0), (1, .int v1), (2, .int v2)]) hx hb dX3_set_6 rfl hl (by decide) rfl (fun ls hl => ?_)
  refine lv_iload_n hx hb dX3_set_7 rfl (lv_at hl 2 rfl) ?_
  refine lv_bipush (v := (64 : Int32)) hx hb dX3_set_8 (by decide) ?_
  refine lv_icmp_ge (tgt := 43) hx hb dX3_set_10 (by decide) (fun c10 => ?_) (fun c10 => ?_)
  · replace h := o_t c10 h
    refine lv_iload_n hx hb dX3_set_43 rfl (lv_at hl 2 rfl) ?_
    refine lv_sipush (v := (128 : Int32)) hx hb dX3_set_44 (by decide) ?_
    refine lv_icmp_ge (tgt := 80) hx hb dX3_set_47 (by decide) (fun c47 => ?_) (fun c47 => ?_)
    · replace h := o_t c47 h
      refine lv_aload_n hx hb dX3_set_80 rfl (lv_at hl 1 rfl) ?_
      refine lv_iload_n hx hb dX3_set_81 rfl (lv_at hl 3 rfl) ?_
      refine lv_if_eq (tgt := 94) hx hb dX3_set_82 (by decide) (fun c82 => ?_) (fun c82 => ?_)
      · replace h := o_t c82 h
        refine lv_aload_n hx hb dX3_set_94 rfl (lv_at hl 1 rfl) ?_
        replace h := o_b h; obtain ⟨x95, h95, h⟩ := h
        refine m_get (C := RX3) (T := TX3) (N := 3) (ci := 3) hx hb hts qi_X3_set_X3 hown hK.1 hM 2 (ldJ_F h95) rfl (by decide) (hts _ q_X3_set_1) (fun _ h9 => h9) dX3_set_95 ?_
        refine lv_lload_n hx hb dX3_set_98 rfl (lv_at hl 0 rfl) ?_
        refine lv_ldc2 (v := (-1 : Int64)) hx hb hown (hts _ q_X3_set_4) dX3_set_99 ?_
        refine lv_lxor hx hb dX3_set_102 ?_
        refine lv_land hx hb dX3_set_103 ?_
        exact w_X3_set_104 C0 _ _ _ h _ _ _ hM hS (lv_sub hl [] rfl)
      replace h := o_f c82 h
      refine lv_aload_n hx hb dX3_set_85 rfl (lv_at hl 1 rfl) ?_
      replace h := o_b h; obtain ⟨x86, h86, h⟩ := h
      refine m_get (C := RX3) (T := TX3) (N := 3) (ci := 3) hx hb hts qi_X3_set_X3 hown hK.1 hM 2 (ldJ_F h86) rfl (by decide) (hts _ q_X3_set_1) (fun _ h9 => h9) dX3_set_86 ?_
      refine lv_lload_n hx hb dX3_set_89 rfl (lv_at hl 0 rfl) ?_
      refine lv_lor hx hb dX3_set_90 ?_
      refine lv_goto (tgt := 104) hx hb dX3_set_91 (by decide) ?_
      exact w_X3_set_104 C0 _ _ _ h _ _ _ hM hS (lv_sub hl [] rfl)
    replace h := o_f c47 h
    refine lv_aload_n hx hb dX3_set_50 rfl (lv_at hl 1 rfl) ?_
    refine lv_iload_n hx hb dX3_set_51 rfl (lv_at hl 3 rfl) ?_
    refine lv_if_eq (tgt := 64) hx hb dX3_set_52 (by decide) (fun c52 => ?_) (fun c52 => ?_)
    · replace h := o_t c52 h
      refine lv_aload_n hx hb dX3_set_64 rfl (lv_at hl 1 rfl) ?_
      replace h := o_b h; obtain ⟨x65, h65, h⟩ := h
      refine m_get (C := RX3) (T := TX3) (N := 3) (ci := 3) hx hb hts qi_X3_set_X3 hown hK.1 hM 1 (ldJ_F h65) rfl (by decide) (hts _ q_X3_set_2) (fun _ h9 => h9) dX3_set_65 ?_
      refine lv_lload_n hx hb dX3_set_68 rfl (lv_at hl 0 rfl) ?_
      refine lv_ldc2 (v := (-1 : Int64)) hx hb hown (hts _ q_X3_set_4) dX3_set_69 ?_
      refine lv_lxor hx hb dX3_set_72 ?_
      refine lv_land hx hb dX3_set_73 ?_
      exact w_X3_set_74 C0 _ _ _ h _ _ _ hM hS (lv_sub hl [] rfl)
    replace h := o_f c52 h
    refine lv_aload_n hx hb dX3_set_55 rfl (lv_at hl 1 rfl) ?_
    replace h := o_b h; obtain ⟨x56, h56, h⟩ := h
    refine m_get (C := RX3) (T := TX3) (N := 3) (ci := 3) hx hb hts qi_X3_set_X3 hown hK.1 hM 1 (ldJ_F h56) rfl (by decide) (hts _ q_X3_set_2) (fun _ h9 => h9) dX3_set_56 ?_
    refine lv_lload_n hx hb dX3_set_59 rfl (lv_at hl 0 rfl) ?_
    refine lv_lor hx hb dX3_set_60 ?_
    refine lv_goto (tgt := 74) hx hb dX3_set_61 (by decide) ?_
    exact w_X3_set_74 C0 _ _ _ h _ _ _ hM hS (lv_sub hl [] rfl)
  replace h := o_f c10 h
  refine lv_aload_n hx hb dX3_set_13 rfl (lv_at hl 1 rfl) ?_
  refine lv_iload_n hx hb dX3_set_14 rfl (lv_at hl 3 rfl) ?_
  refine lv_if_eq (tgt := 27) hx hb dX3_set_15 (by decide) (fun c15 => ?_) (fun c15 => ?_)
  · replace h := o_t c15 h
    refine lv_aload_n hx hb dX3_set_27 rfl (lv_at hl 1 rfl) ?_
    replace h := o_b h; obtain ⟨x28, h28, h⟩ := h
    refine m_get (C := RX3) (T := TX3) (N := 3) (ci := 3) hx hb hts qi_X3_set_X3 hown hK.1 hM 0 (ldJ_F h28) rfl (by decide) (hts _ q_X3_set_3) (fun _ h9 => h9) dX3_set_28 ?_
    refine lv_lload_n hx hb dX3_set_31 rfl (lv_at hl 0 rfl) ?_
    refine lv_ldc2 (v := (-1 : Int64)) hx hb hown (hts _ q_X3_set_4) dX3_set_32 ?_
    refine lv_lxor hx hb dX3_set_35 ?_
    refine lv_land hx hb dX3_set_36 ?_
    exact w_X3_set_37 C0 _ _ _ h _ _ _ hM hS (lv_sub hl [] rfl)
  replace h := o_f c15 h
  refine lv_aload_n hx hb dX3_set_18 rfl (lv_at hl 1 rfl) ?_
  replace h := o_b h; obtain ⟨x19, h19, h⟩ := h
  refine m_get (C := RX3) (T := TX3) (N := 3) (ci := 3) hx hb hts qi_X3_set_X3 hown hK.1 hM 0 (ldJ_F h19) rfl (by decide) (hts _ q_X3_set_3) (fun _ h9 => h9) dX3_set_19 ?_
  refine lv_lload_n hx hb dX3_set_22 rfl (lv_at hl 0 rfl) ?_
  refine lv_lor hx hb dX3_set_23 ?_
  refine lv_goto (tgt := 37) hx hb dX3_set_24 (by decide) ?_
  exact w_X3_set_37 C0 _ _ _ h _ _ _ hM hS (lv_sub hl [] rfl)
set_option maxHeartbeats 4000000 in
set_option maxRecDepth 100000 in
theorem c_X3_set (l : Launch) (D : mmD) (b0 sz : Nat) {v0 : Nat} {v1 : Int32} {v2 : Int32} {f : mmF} {res : mmF} (h : f_X3_set v0 v1 v2 f = some res) : Met l yX3_set wsX3_set ({ frames := 0, cells := 0, slots := 0, locals := 0 } : Room) (va_Pc [.ref v0, .int v1, .int v2] (PW D b0 f sz)) (QW D b0 none res sz) 0 0 (fun q => b0 ≤ q) := by
  refine Met.ofW (cc := cX3_set) (maxL := 5) (ret := none) (by decide) rfl ?_
  intro p e s m args below meth c s₁ B hml hv
  obtain ⟨rfl, hM, hK⟩ := hv
  have hl := lv_entry ([.ref v0, .int v1, .int v2]) (n := 5) (Nat.le_of_ble_eq_true rfl)
  rw [lg_entry_eq]
  generalize (lg_sl ([.ref v0, .int v1, .int v2]) ++ List.replicate (5 - (lg_sl ([.ref v0, .int v1, .int v2])).length) Slot.unset).toArray = ls at hl ⊢
  have hl : lv_has ls 5 [(0, .ref v0), (1, .int v1), (2, .int v2)] := hl
  exact w_X3_set ⟨B.exec, B.bytes, B.returns, hml, findClass_of_methodNamed B.named, atoms_spec (ws := wsX3_set) B.pre, B.notSynchronized, hK⟩ h s.heap [] ls hM va_S.rf hl
end S_X3_set
/-! X4_init -/
set_option maxRecDepth 20000 in
theorem qi_X4_init_X4 : ∀ w ∈ u_ws RX4 TX4 8, w ∈ wsX4_init := by decide +kernel
set_option maxRecDepth 20000 in
theorem q_X4_init_1 : Cond.fieldLink RX4 15 "StageTruths$Parts" "kinds" "[I" ∈ wsX4_init := by decide +kernel
set_option maxRecDepth 20000 in
theorem q_X4_init_2 : Cond.methodLink RX4 5 objectInit ∈ wsX4_init := by decide +kernel
set_option maxRecDepth 20000 in
theorem q_X4_init_3 : Cond.instanceMethod objectInit ∈ wsX4_init := by decide +kernel
set_option maxRecDepth 20000 in
theorem q_X4_init_4 : Cond.code objectInit ⟨#[0xb1]⟩ 1 none ∈ wsX4_init := by decide +kernel
set_option maxRecDepth 20000 in
theorem q_X4_init_5 : Cond.fieldLink RX4 11 "StageTruths$Parts" "size" "I" ∈ wsX4_init := by decide +kernel
set_option maxRecDepth 20000 in
theorem q_X4_init_6 : Cond.arrayClass .int ∈ wsX4_init := by decide +kernel
set_option maxRecDepth 20000 in
theorem q_X4_init_7 : Cond.fieldLink RX4 19 "StageTruths$Parts" "left" "[I" ∈ wsX4_init := by decide +kernel
set_option maxRecDepth 20000 in
theorem q_X4_init_8 : Cond.fieldLink RX4 22 "StageTruths$Parts" "right" "[I" ∈ wsX4_init := by decide +kernel
set_option maxRecDepth 20000 in
theorem q_X4_init_9 : Cond.fieldLink RX4 25 "StageTruths$Parts" "wholes" "[I" ∈ wsX4_init := by decide +kernel
set_option maxRecDepth 20000 in
theorem q_X4_init_10 : Cond.fieldLink RX4 28 "StageTruths$Parts" "usedLeaves" "I" ∈ wsX4_init := by decide +kernel
set_option maxRecDepth 20000 in
theorem q_X4_init_11 : Cond.fieldLink RX4 31 "StageTruths$Parts" "open" "[I" ∈ wsX4_init := by decide +kernel
set_option maxRecDepth 20000 in
theorem q_X4_init_12 : Cond.fieldLink RX4 34 "StageTruths$Parts" "depths" "[I" ∈ wsX4_init := by decide +kernel
noncomputable def f_X4_init_68   : Nat → Nat → Int32 → mmF → Nat → Option (mmF × Nat)
  | 0, _, _, _, _ => none
  | n + 1, v0, v1, f, sz =>
    if (6 : Int32) ≤ v1 then
    (some (f, sz))
    else
    (ldR f v0 4 1).bind fun x75 =>
    (stA 0 f x75 v1 v1).bind fun f80 =>
    f_X4_init_68 n v0 (v1 + (1 : Int32)) f80 sz
noncomputable def f_X4_init (v0 : Nat) (f : mmF) (sz : Nat) : Option (mmF × Nat) :=
  (stF f v0 4 0 (.int (6 : Int32))).bind fun f7 =>
  (some (va_up f7 sz (some (.inl (0, 151, .inl (fun _ => 0)))))).bind fun f14 =>
  (stF f14 v0 4 1 (.ref sz)).bind fun f16 =>
  (some (va_up f16 (sz + 1) (some (.inl (0, 151, .inl (fun _ => 0)))))).bind fun f23 =>
  (stF f23 v0 4 2 (.ref (sz + 1))).bind fun f25 =>
  (some (va_up f25 ((sz + 1) + 1) (some (.inl (0, 151, .inl (fun _ => 0)))))).bind fun f32 =>
  (stF f32 v0 4 3 (.ref ((sz + 1) + 1))).bind fun f34 =>
  (some (va_up f34 (((sz + 1) + 1) + 1) (some (.inl (0, 5, .inl (fun _ => 0)))))).bind fun f39 =>
  (stF f39 v0 4 4 (.ref (((sz + 1) + 1) + 1))).bind fun f41 =>
  (stF f41 v0 4 5 (.int (0 : Int32))).bind fun f46 =>
  (some (va_up f46 ((((sz + 1) + 1) + 1) + 1) (some (.inl (0, 30, .inl (fun _ => 0)))))).bind fun f52 =>
  (stF f52 v0 4 6 (.ref ((((sz + 1) + 1) + 1) + 1))).bind fun f54 =>
  (some (va_up f54 (((((sz + 1) + 1) + 1) + 1) + 1) (some (.inl (0, 151, .inl (fun _ => 0)))))).bind fun f61 =>
  (stF f61 v0 4 7 (.ref (((((sz + 1) + 1) + 1) + 1) + 1))).bind fun f63 =>
  f_X4_init_68 FU v0 (0 : Int32) f63 ((((((sz + 1) + 1) + 1) + 1) + 1) + 1)
section S_X4_init
variable {p : Program} {l : Launch} {e : Env} {s : State} {m : MethodId} {args : Array Value} {below : List Frame} {meth : Method} {c : Code} {D : mmD} {b0 sz : Nat} {f : mmF}
set_option maxHeartbeats 4000000 in
set_option maxRecDepth 100000 in
theorem w_X4_init_68 (C0 : CX cX4_init 2 none wsX4_init RX4 p s m args meth c D b0) (hin : meth.name = "<init>") {res : mmF × Nat} : ∀ (n : Nat), ∀ (v0 : Nat) (v1 : Int32) (f : mmF) (sz : Nat), f_X4_init_68 n v0 v1 f sz = some res → ∀ (H : Heap) (locs : List Loc) (ls : Array Slot), MM vwCl D b0 f sz s H → mS b0 s H locs → lv_has ls 2 [(0, .ref v0), (1, .int v1)] → W p l e ({ frames := 1, cells := 6, slots := 639, locals := 24 } : Room) s m args below meth c H locs 6 639 (MQ below (QW D b0 none res.1 res.2) args s 6 639 (fun q => b0 ≤ q)) (F0 m 68 ls []) := by
  obtain ⟨hx, hb, hr, hml, hown, hts, hlocks, hK⟩ := id C0
  intro n
  induction n with
  | zero =>
    intro v0 v1 f sz h
    have h : (none : Option (mmF × Nat)) = some res := h
    cases h
  | succ n ih =>
    intro v0 v1 f sz h H locs ls hM hS hl
    rw [f_X4_init_68] at h
    refine lv_iload_n hx hb dX4_init_68 rfl (lv_at hl 1 rfl) ?_
    refine lv_bipush (v := (6 : Int32)) hx hb dX4_init_69 (by decide) ?_
    refine lv_icmp_ge (tgt := 87) hx hb dX4_init_71 (by decide) (fun c71 => ?_) (fun c71 => ?_)
    · replace h := o_t c71 h
      refine W.widen (k := 6) (n := 639) (Nat.le_of_ble_eq_true rfl) (Nat.le_of_ble_eq_true rfl) ?_
      replace h := Option.some.inj h; subst h
      exact W.vret hx hb hr (fun t ht hW => ⟨rfl, by rw [ht]; exact hM.moved hW.alike, hS.F ht⟩) hS.2.2 dX4_init_87
    replace h := o_f c71 h
    refine lv_aload_n hx hb dX4_init_74 rfl (lv_at hl 0 rfl) ?_
    replace h := o_b h; obtain ⟨x75, h75, h⟩ := h
    refine m_get (C := RX4) (T := TX4) (N := 8) (ci := 4) hx hb hts qi_X4_init_X4 hown hK.1 hM 1 (ldR_F h75) rfl (by decide) (hts _ q_X4_init_1) (fun _ h9 => h9) dX4_init_75 ?_
    refine lv_iload_n hx hb dX4_init_78 rfl (lv_at hl 1 rfl) ?_
    refine lv_iload_n hx hb dX4_init_79 rfl (lv_at hl 1 rfl) ?_
    replace h := o_b h; obtain ⟨f80, h80, h⟩ := h
    refine m_iast hx hb hK.1 hM hS rfl h80 dX4_init_80 (fun H locs hM hS => ?_)
    refine lv_iinc (v := (v1 + (1 : Int32))) (lv' := [(1, .int (v1 + (1 : Int32))), (0, .ref v0)]) hx hb dX4_init_81 hl (k := 1) rfl rfl (by decide) rfl (fun ls hl => ?_)
    refine lv_goto (tgt := 68) hx hb dX4_init_84 (by decide) ?_
    exact ih _ _ _ _ h _ _ _ hM hS (lv_sub hl [1, 0] rfl)
set_option maxHeartbeats 4000000 in
set_option maxRecDepth 100000 in
theorem w_X4_init (C0 : CX cX4_init 2 none wsX4_init RX4 p s m args meth c D b0) (hin : meth.name = "<init>") {v0 : Nat} {res : mmF × Nat} (h : f_X4_init v0 f sz = some res) : ∀ (H : Heap) (locs : List Loc) (ls : Array Slot), MM vwCl D b0 f sz s H → mS b0 s H locs → lv_has ls 2 [(0, .ref v0)] → W p l e ({ frames := 1, cells := 6, slots := 639, locals := 24 } : Room) s m args below meth c H locs 0 0 (MQ below (QW D b0 none res.1 res.2) args s 6 639 (fun q => b0 ≤ q)) (F0 m 0 ls []) := by
  obtain ⟨hx, hb, hr, hml, hown, hts, hlocks, hK⟩ := id C0
  intro H locs ls hM hS hl
  unfold f_X4_init at h
  refine lv_aload_n hx hb dX4_init_0 rfl (lv_at hl 0 rfl) ?_
  refine W.objInit hx hb hown (hts _ q_X4_init_2) (hts _ q_X4_init_3) (hts _ q_X4_init_4) rfl (by rw [hml]; exact hl.1) rfl dX4_init_1 (Nat.le_of_ble_eq_true rfl) (Nat.le_of_ble_eq_true rfl) ?_
  refine lv_aload_n hx hb dX4_init_4 rfl (lv_at hl 0 rfl) ?_
  refine lv_bipush (v := (6 : Int32)) hx hb dX4_init_5 (by decide) ?_
  replace h := o_b h; obtain ⟨f7, h7, h⟩ := h
  refine m_put (ty := .int) (C := RX4) (T := TX4) (N := 8) (ci := 4) hx hb hts qi_X4_init_X4 tyX4 tyX4_ok nmX4 hown hK.1 hM hS 0 h7 rfl (by decide) (hts _ q_X4_init_5) (fun _ h9 => h9) rfl (by decide +kernel) rfl rfl dX4_init_7 (fun H locs hM hS => ?_)
  refine lv_aload_n hx hb dX4_init_10 rfl (lv_at hl 0 rfl) ?_
  refine lv_sipush (v := (151 : Int32)) hx hb dX4_init_11 (by decide) ?_
  refine m_newa 0 (by decide) hx hb (atype := .int) (N' := 151) (hts _ q_X4_init_6) rfl rfl hK.1 hM hS (y := .inl (fun _ => 0)) (fun _ => rfl) (fun _ => Iff.rfl) (by decide) (by decide) (Nat.le_of_ble_eq_true rfl) (Nat.le_of_ble_eq_true rfl) (Nat.le_of_ble_eq_true rfl) dX4_init_14 (fun H hM hS => ?_)
  replace h := o_b h; obtain ⟨f14, h14, h⟩ := h
  replace h14 := Option.some.inj h14
  subst h14
  replace h := o_b h; obtain ⟨f16, h16, h⟩ := h
  refine m_putF (ty := (.array .int)) (C := RX4) (T := TX4) (N := 8) (ci := 4) hx hb hts qi_X4_init_X4 tyX4 tyX4_ok nmX4 hown hK.1 hM hS 1 h16 rfl (by decide) (hts _ q_X4_init_1) (fun _ h9 => h9) rfl hin rfl (by decide +kernel) rfl rfl dX4_init_16 (fun H locs hM hS => ?_)
  refine lv_aload_n hx hb dX4_init_19 rfl (lv_at hl 0 rfl) ?_
  refine lv_sipush (v := (151 : Int32)) hx hb dX4_init_20 (by decide) ?_
  refine m_newa 0 (by decide) hx hb (atype := .int) (N' := 151) (hts _ q_X4_init_6) rfl rfl hK.1 hM hS (y := .inl (fun _ => 0)) (fun _ => rfl) (fun _ => Iff.rfl) (by decide) (by decide) (Nat.le_of_ble_eq_true rfl) (Nat.le_of_ble_eq_true rfl) (Nat.le_of_ble_eq_true rfl) dX4_init_23 (fun H hM hS => ?_)
  replace h := o_b h; obtain ⟨f23, h23, h⟩ := h
  replace h23 := Option.some.inj h23
  subst h23
  replace h := o_b h; obtain ⟨f25, h25, h⟩ := h
  refine m_putF (ty := (.array .int)) (C := RX4) (T := TX4) (N := 8) (ci := 4) hx hb hts qi_X4_init_X4 tyX4 tyX4_ok nmX4 hown hK.1 hM hS 2 h25 rfl (by decide) (hts _ q_X4_init_7) (fun _ h9 => h9) rfl hin rfl (by decide +kernel) rfl rfl dX4_init_25 (fun H locs hM hS => ?_)
  refine lv_aload_n hx hb dX4_init_28 rfl (lv_at hl 0 rfl) ?_
  refine lv_sipush (v := (151 : Int32)) hx hb dX4_init_29 (by decide) ?_
  refine m_newa 0 (by decide) hx hb (atype := .int) (N' := 151) (hts _ q_X4_init_6) rfl rfl hK.1 hM hS (y := .inl (fun _ => 0)) (fun _ => rfl) (fun _ => Iff.rfl) (by decide) (by decide) (Nat.le_of_ble_eq_true rfl) (Nat.le_of_ble_eq_true rfl) (Nat.le_of_ble_eq_true rfl) dX4_init_32 (fun H hM hS => ?_)
  replace h := o_b h; obtain ⟨f32, h32, h⟩ := h
  replace h32 := Option.some.inj h32
  subst h32
  replace h := o_b h; obtain ⟨f34, h34, h⟩ := h
  refine m_putF (ty := (.array .int)) (C := RX4) (T := TX4) (N := 8) (ci := 4) hx hb hts qi_X4_init_X4 tyX4 tyX4_ok nmX4 hown hK.1 hM hS 3 h34 rfl (by decide) (hts _ q_X4_init_8) (fun _ h9 => h9) rfl hin rfl (by decide +kernel) rfl rfl dX4_init_34 (fun H locs hM hS => ?_)
  refine lv_aload_n hx hb dX4_init_37 rfl (lv_at hl 0 rfl) ?_
  refine lv_iconst (v := (5 : Int32)) hx hb dX4_init_38 (by decide) ?_
  refine m_newa 0 (by decide) hx hb (atype := .int) (N' := 5) (hts _ q_X4_init_6) rfl rfl hK.1 hM hS (y := .inl (fun _ => 0)) (fun _ => rfl) (fun _ => Iff.rfl) (by decide) (by decide) (Nat.le_of_ble_eq_true rfl) (Nat.le_of_ble_eq_true rfl) (Nat.le_of_ble_eq_true rfl) dX4_init_39 (fun H hM hS => ?_)
  replace h := o_b h; obtain ⟨f39, h39, h⟩ := h
  replace h39 := Option.some.inj h39
  subst h39
  replace h := o_b h; obtain ⟨f41, h41, h⟩ := h
  refine m_putF (ty := (.array .int)) (C := RX4) (T := TX4) (N := 8) (ci := 4) hx hb hts qi_X4_init_X4 tyX4 tyX4_ok nmX4 hown hK.1 hM hS 4 h41 rfl (by decide) (hts _ q_X4_init_9) (fun _ h9 => h9) rfl hin rfl (by decide +kernel) rfl rfl dX4_init_41 (fun H locs hM hS => ?_)
  refine lv_aload_n hx hb dX4_init_44 rfl (lv_at hl 0 rfl) ?_
  refine lv_iconst (v := (0 : Int32)) hx hb dX4_init_45 (by decide) ?_
  replace h := o_b h; obtain ⟨f46, h46, h⟩ := h
  refine m_put (ty := .int) (C := RX4) (T := TX4) (N := 8) (ci := 4) hx hb hts qi_X4_init_X4 tyX4 tyX4_ok nmX4 hown hK.1 hM hS 5 h46 rfl (by decide) (hts _ q_X4_init_10) (fun _ h9 => h9) rfl (by decide +kernel) rfl rfl dX4_init_46 (fun H locs hM hS => ?_)
  refine lv_aload_n hx hb dX4_init_49 rfl (lv_at hl 0 rfl) ?_
  refine lv_bipush (v := (30 : Int32)) hx hb dX4_init_50 (by decide) ?_
  refine m_newa 0 (by decide) hx hb (atype := .int) (N' := 30) (hts _ q_X4_init_6) rfl rfl hK.1 hM hS (y := .inl (fun _ => 0)) (fun _ => rfl) (fun _ => Iff.rfl) (by decide) (by decide) (Nat.le_of_ble_eq_true rfl) (Nat.le_of_ble_eq_true rfl) (Nat.le_of_ble_eq_true rfl) dX4_init_52 (fun H hM hS => ?_)
  replace h := o_b h; obtain ⟨f52, h52, h⟩ := h
  replace h52 := Option.some.inj h52
  subst h52
  replace h := o_b h; obtain ⟨f54, h54, h⟩ := h
  refine m_putF (ty := (.array .int)) (C := RX4) (T := TX4) (N := 8) (ci := 4) hx hb hts qi_X4_init_X4 tyX4 tyX4_ok nmX4 hown hK.1 hM hS 6 h54 rfl (by decide) (hts _ q_X4_init_11) (fun _ h9 => h9) rfl hin rfl (by decide +kernel) rfl rfl dX4_init_54 (fun H locs hM hS => ?_)
  refine lv_aload_n hx hb dX4_init_57 rfl (lv_at hl 0 rfl) ?_
  refine lv_sipush (v := (151 : Int32)) hx hb dX4_init_58 (by decide) ?_
  refine m_newa 0 (by decide) hx hb (atype := .int) (N' := 151) (hts _ q_X4_init_6) rfl rfl hK.1 hM hS (y := .inl (fun _ => 0)) (fun _ => rfl) (fun _ => Iff.rfl) (by decide) (by decide) (Nat.le_of_ble_eq_true rfl) (Nat.le_of_ble_eq_true rfl) (Nat.le_of_ble_eq_true rfl) dX4_init_61 (fun H hM hS => ?_)
  replace h := o_b h; obtain ⟨f61, h61, h⟩ := h
  replace h61 := Option.some.inj h61
  subst h61
  replace h := o_b h; obtain ⟨f63, h63, h⟩ := h
  refine m_putF (ty := (.array .int)) (C := RX4) (T := TX4) (N := 8) (ci := 4) hx hb hts qi_X4_init_X4 tyX4 tyX4_ok nmX4 hown hK.1 hM hS 7 h63 rfl (by decide) (hts _ q_X4_init_12) (fun _ h9 => h9) rfl hin rfl (by decide +kernel) rfl rfl dX4_init_63 (fun H locs hM hS => ?_)
  refine lv_iconst (v := (0 : Int32)) hx hb dX4_init_66 (by decide) ?_
  refine lv_istore_n (lv' := [(1, .int (0 : Int32)), (0, .ref v0)]) hx hb dX4_init_67 rfl hl (by decide) rfl (fun ls hl => ?_)
  exact w_X4_init_68 C0 hin FU _ _ _ _ h _ _ _ hM hS (lv_sub hl [1, 0] rfl)
set_option maxHeartbeats 4000000 in
set_option maxRecDepth 100000 in
theorem c_X4_init (l : Launch) (D : mmD) (b0 sz : Nat) {v0 : Nat} {f : mmF} {res : mmF × Nat} (h : f_X4_init v0 f sz = some res) : Met l yX4_init wsX4_init ({ frames := 1, cells := 6, slots := 639, locals := 24 } : Room) (va_Pc [.ref v0] (PW D b0 f sz)) (QW D b0 none res.1 res.2) 6 639 (fun q => b0 ≤ q) := by
  refine Met.ofW (cc := cX4_init) (maxL := 2) (ret := none) (by decide) rfl ?_
  intro p e s m args below meth c s₁ B hml hv
  obtain ⟨rfl, hM, hK⟩ := hv
  have hl := lv_entry ([.ref v0]) (n := 2) (Nat.le_of_ble_eq_true rfl)
  rw [lg_entry_eq]
  generalize (lg_sl ([.ref v0]) ++ List.replicate (2 - (lg_sl ([.ref v0])).length) Slot.unset).toArray = ls at hl ⊢
  have hl : lv_has ls 2 [(0, .ref v0)] := hl
  exact w_X4_init ⟨B.exec, B.bytes, B.returns, hml, findClass_of_methodNamed B.named, atoms_spec (ws := wsX4_init) B.pre, B.notSynchronized, hK⟩ (name_of_methodNamed B.named B.method).1 h s.heap [] ls hM va_S.rf hl
end S_X4_init
