/-! X0_init -/
set_option maxRecDepth 20000 in
theorem qi_X0_init_X0 : ∀ w ∈ u_ws RX0 TX0 2, w ∈ wsX0_init := by decide +kernel
set_option maxRecDepth 20000 in
theorem q_X0_init_1 : Cond.fieldLink RX0 16 "StageTruths$Claim" "size" "I" ∈ wsX0_init := by decide +kernel
set_option maxRecDepth 20000 in
theorem q_X0_init_2 : Cond.fieldLink RX0 22 "StageTruths$Claim" "signs" "[I" ∈ wsX0_init := by decide +kernel
set_option maxRecDepth 20000 in
theorem q_X0_init_3 : Cond.methodLink RX0 1 objectInit ∈ wsX0_init := by decide +kernel
set_option maxRecDepth 20000 in
theorem q_X0_init_4 : Cond.instanceMethod objectInit ∈ wsX0_init := by decide +kernel
set_option maxRecDepth 20000 in
theorem q_X0_init_5 : Cond.code objectInit ⟨#[0xb1]⟩ 1 none ∈ wsX0_init := by decide +kernel
set_option maxRecDepth 20000 in
theorem q_X0_init_6 : Cond.methodLink RX0 7 Lib.Math.min.name ∈ wsX0_init := by decide +kernel
set_option maxRecDepth 20000 in
theorem q_X0_init_7 : Cond.static Lib.Math.min.name ∈ wsX0_init := by decide +kernel
set_option maxRecDepth 20000 in
theorem q_X0_init_8 : Cond.initialized "java/lang/Math" ∈ wsX0_init := by decide +kernel
set_option maxRecDepth 20000 in
theorem q_X0_init_9 : Cond.code Lib.Math.min.name Lib.Math.min.code 2 (some .int) ∈ wsX0_init := by decide +kernel
set_option maxRecDepth 20000 in
theorem q_X0_init_10 : Cond.methodLink RX0 13 Lib.Math.max.name ∈ wsX0_init := by decide +kernel
set_option maxRecDepth 20000 in
theorem q_X0_init_11 : Cond.static Lib.Math.max.name ∈ wsX0_init := by decide +kernel
set_option maxRecDepth 20000 in
theorem q_X0_init_12 : Cond.code Lib.Math.max.name Lib.Math.max.code 2 (some .int) ∈ wsX0_init := by decide +kernel
set_option maxRecDepth 20000 in
theorem q_X0_init_13 : Cond.arrayClass .int ∈ wsX0_init := by decide +kernel
noncomputable def f_X0_init_30   : Nat → Nat → Nat → Int32 → mmF → Nat → Option (mmF × Nat)
  | 0, _, _, _, _, _ => none
  | n + 1, v0, v1, v3, f, sz =>
    (ldI f v0 0 0).bind fun x32 =>
    if x32 ≤ v3 then
    (some (f, sz))
    else
    (ldR f v0 0 1).bind fun x39 =>
    (ldA 0 f v1 v3).bind fun x45 =>
    (stA 0 f x39 v3 x45).bind fun f46 =>
    f_X0_init_30 n v0 v1 (v3 + (1 : Int32)) f46 sz
noncomputable def f_X0_init (v0 : Nat) (v1 : Nat) (v2 : Int32) (f : mmF) (sz : Nat) : Option (mmF × Nat) :=
  (lenA f v1).bind fun x8 =>
  (stF f v0 0 0 (.int (if (0 : Int32) < (if x8 < v2 then x8 else v2) then (if x8 < v2 then x8 else v2) else (0 : Int32)))).bind fun f15 =>
  (ldI f15 v0 0 0).bind fun x20 =>
  if x20 < 0 ∨ 64 < x20.toNatClampNeg then none else
  (some (va_up f15 sz (some (.inl (0, x20.toNatClampNeg, .inl (fun _ => 0)))))).bind fun f23 =>
  (stF f23 v0 0 1 (.ref sz)).bind fun f25 =>
  f_X0_init_30 FU v0 v1 (0 : Int32) f25 (sz + 1)
section S_X0_init
variable {p : Program} {l : Launch} {e : Env} {s : State} {m : MethodId} {args : Array Value} {below : List Frame} {meth : Method} {c : Code} {D : mmD} {b0 sz : Nat} {f : mmF}
set_option maxHeartbeats 4000000 in
set_option maxRecDepth 100000 in
theorem w_X0_init_30 (C0 : CX cX0_init 4 none wsX0_init RX0 p s m args meth c D b0) (hin : meth.name = "<init>") {res : mmF × Nat} : ∀ (n : Nat), ∀ (v0 : Nat) (v1 : Nat) (v3 : Int32) (f : mmF) (sz : Nat), f_X0_init_30 n v0 v1 v3 f sz = some res → ∀ (H : Heap) (locs : List Loc) (ls : Array Slot), MM vwCl D b0 f sz s H → mS b0 s H locs → lv_has ls 4 [(0, .ref v0), (1, .ref v1), (3, .int v3)] → W p l e ({ frames := 1, cells := 1, slots := 64, locals := 24 } : Room) s m args below meth c H locs 1 64 (MQ below (QW D b0 none res.1 res.2) args s 1 64 (fun q => b0 ≤ q)) (F0 m 30 ls []) := by
  obtain ⟨hx, hb, hr, hml, hown, hts, hlocks, hK⟩ := id C0
  intro n
  induction n with
  | zero =>
    intro v0 v1 v3 f sz h
    have h : (none : Option (mmF × Nat)) = some res := h
    cases h
  | succ n ih =>
    intro v0 v1 v3 f sz h H locs ls hM hS hl
    rw [f_X0_init_30] at h
    refine lv_iload_n hx hb dX0_init_30 rfl (lv_at hl 2 rfl) ?_
    refine lv_aload_n hx hb dX0_init_31 rfl (lv_at hl 0 rfl) ?_
    replace h := o_b h; obtain ⟨x32, h32, h⟩ := h
    refine m_get (C := RX0) (T := TX0) (N := 2) (ci := 0) hx hb hts qi_X0_init_X0 hown hK.1 hM 0 (ldI_F h32) rfl (by decide) (hts _ q_X0_init_1) (fun _ h9 => h9) dX0_init_32 ?_
    refine lv_icmp_ge (tgt := 53) hx hb dX0_init_35 (by decide) (fun c35 => ?_) (fun c35 => ?_)
    · replace h := o_t c35 h
      refine W.widen (k := 1) (n := 64) (Nat.le_of_ble_eq_true rfl) (Nat.le_of_ble_eq_true rfl) ?_
      replace h := Option.some.inj h; subst h
      exact W.vret hx hb hr (fun t ht hW => ⟨rfl, by rw [ht]; exact hM.moved hW.alike, hS.F ht⟩) hS.2.2 dX0_init_53
    replace h := o_f c35 h
    refine lv_aload_n hx hb dX0_init_38 rfl (lv_at hl 0 rfl) ?_
    replace h := o_b h; obtain ⟨x39, h39, h⟩ := h
    refine m_get (C := RX0) (T := TX0) (N := 2) (ci := 0) hx hb hts qi_X0_init_X0 hown hK.1 hM 1 (ldR_F h39) rfl (by decide) (hts _ q_X0_init_2) (fun _ h9 => h9) dX0_init_39 ?_
    refine lv_iload_n hx hb dX0_init_42 rfl (lv_at hl 2 rfl) ?_
    refine lv_aload_n hx hb dX0_init_43 rfl (lv_at hl 1 rfl) ?_
    refine lv_iload_n hx hb dX0_init_44 rfl (lv_at hl 2 rfl) ?_
    replace h := o_b h; obtain ⟨x45, h45, h⟩ := h
    refine m_iald hx hb hK.1 hM hS rfl h45 dX0_init_45 ?_
    replace h := o_b h; obtain ⟨f46, h46, h⟩ := h
    refine m_iast hx hb hK.1 hM hS rfl h46 dX0_init_46 (fun H locs hM hS => ?_)
    refine lv_iinc (v := (v3 + (1 : Int32))) (lv' := [(3, .int (v3 + (1 : Int32))), (0, .ref v0), (1, .ref v1)]) hx hb dX0_init_47 hl (k := 2) rfl rfl (by decide) rfl (fun ls hl => ?_)
    refine lv_goto (tgt := 30) hx hb dX0_init_50 (by decide) ?_
    exact ih _ _ _ _ _ h _ _ _ hM hS (lv_sub hl [1, 2, 0] rfl)
set_option maxHeartbeats 4000000 in
set_option maxRecDepth 100000 in
theorem w_X0_init (C0 : CX cX0_init 4 none wsX0_init RX0 p s m args meth c D b0) (hin : meth.name = "<init>") {v0 : Nat} {v1 : Nat} {v2 : Int32} {res : mmF × Nat} (h : f_X0_init v0 v1 v2 f sz = some res) : ∀ (H : Heap) (locs : List Loc) (ls : Array Slot), MM vwCl D b0 f sz s H → mS b0 s H locs → lv_has ls 4 [(0, .ref v0), (1, .ref v1), (2, .int v2)] → W p l e ({ frames := 1, cells := 1, slots := 64, locals := 24 } : Room) s m args below meth c H locs 0 0 (MQ below (QW D b0 none res.1 res.2) args s 1 64 (fun q => b0 ≤ q)) (F0 m 0 ls []) := by
  obtain ⟨hx, hb, hr, hml, hown, hts, hlocks, hK⟩ := id C0
  intro H locs ls hM hS hl
  unfold f_X0_init at h
  refine lv_aload_n hx hb dX0_init_0 rfl (lv_at hl 0 rfl) ?_
  refine W.objInit hx hb hown (hts _ q_X0_init_3) (hts _ q_X0_init_4) (hts _ q_X0_init_5) rfl (by rw [hml]; exact hl.1) rfl dX0_init_1 (Nat.le_of_ble_eq_true rfl) (Nat.le_of_ble_eq_true rfl) ?_
  refine lv_aload_n hx hb dX0_init_4 rfl (lv_at hl 0 rfl) ?_
  refine lv_iconst (v := (0 : Int32)) hx hb dX0_init_5 (by decide) ?_
  refine lv_iload_n hx hb dX0_init_6 rfl (lv_at hl 2 rfl) ?_
  refine lv_aload_n hx hb dX0_init_7 rfl (lv_at hl 1 rfl) ?_
  replace h := o_b h; obtain ⟨x8, h8, h⟩ := h
  refine m_alen hx hb hK.1 hM h8 dX0_init_8 ?_
  refine va_mmin hx hb (hml.trans hl.1.symm) hown (hts _ q_X0_init_6) (hts _ q_X0_init_7) (hts _ q_X0_init_8) (hts _ q_X0_init_9) (Nat.le_of_ble_eq_true rfl) (Nat.le_of_ble_eq_true rfl) (Nat.zero_le _) (Nat.zero_le _) dX0_init_9 ?_
  refine va_mmax hx hb (hml.trans hl.1.symm) hown (hts _ q_X0_init_10) (hts _ q_X0_init_11) (hts _ q_X0_init_8) (hts _ q_X0_init_12) (Nat.le_of_ble_eq_true rfl) (Nat.le_of_ble_eq_true rfl) (Nat.zero_le _) (Nat.zero_le _) dX0_init_12 ?_
  replace h := o_b h; obtain ⟨f15, h15, h⟩ := h
  refine m_putF (ty := .int) (C := RX0) (T := TX0) (N := 2) (ci := 0) hx hb hts qi_X0_init_X0 tyX0 tyX0_ok nmX0 hown hK.1 hM hS 0 h15 rfl (by decide) (hts _ q_X0_init_1) (fun _ h9 => h9) rfl hin rfl (by decide +kernel) rfl rfl dX0_init_15 (fun H locs hM hS => ?_)
  refine lv_aload_n hx hb dX0_init_18 rfl (lv_at hl 0 rfl) ?_
  refine lv_aload_n hx hb dX0_init_19 rfl (lv_at hl 0 rfl) ?_
  replace h := o_b h; obtain ⟨x20, h20, h⟩ := h
  refine m_get (C := RX0) (T := TX0) (N := 2) (ci := 0) hx hb hts qi_X0_init_X0 hown hK.1 hM 0 (ldI_F h20) rfl (by decide) (hts _ q_X0_init_1) (fun _ h9 => h9) dX0_init_20 ?_
  replace h := o_n h; obtain ⟨z23, h⟩ := h
  refine m_newa 0 (by decide) hx hb (atype := .int) (N' := x20.toNatClampNeg) (hts _ q_X0_init_13) rfl rfl hK.1 hM hS (y := .inl (fun _ => 0)) (fun _ => rfl) (fun _ => Iff.rfl) (fun q9 => z23 (Or.inl q9)) rfl (Nat.le_trans (Nat.mul_le_mul_right _ (Nat.not_lt.mp fun q9 => z23 (Or.inr q9))) (Nat.le_of_ble_eq_true rfl)) (Nat.le_of_ble_eq_true rfl) (Nat.le_trans (Nat.add_le_add_left (Nat.not_lt.mp fun q9 => z23 (Or.inr q9)) 0) (Nat.le_of_ble_eq_true rfl)) dX0_init_23 (fun H hM hS => ?_)
  refine W.widen (k := 1) (n := 64) (Nat.le_of_ble_eq_true rfl) (Nat.add_le_add_left (Nat.not_lt.mp fun q9 => z23 (Or.inr q9)) 0) ?_
  replace h := o_b h; obtain ⟨f23, h23, h⟩ := h
  replace h23 := Option.some.inj h23
  subst h23
  replace h := o_b h; obtain ⟨f25, h25, h⟩ := h
  refine m_putF (ty := (.array .int)) (C := RX0) (T := TX0) (N := 2) (ci := 0) hx hb hts qi_X0_init_X0 tyX0 tyX0_ok nmX0 hown hK.1 hM hS 1 h25 rfl (by decide) (hts _ q_X0_init_2) (fun _ h9 => h9) rfl hin rfl (by decide +kernel) rfl rfl dX0_init_25 (fun H locs hM hS => ?_)
  refine lv_iconst (v := (0 : Int32)) hx hb dX0_init_28 (by decide) ?_
  refine lv_istore_n (lv' := [(3, .int (0 : Int32)), (0, .ref v0), (1, .ref v1), (2, .int v2)]) hx hb dX0_init_29 rfl hl (by decide) rfl (fun ls hl => ?_)
  exact w_X0_init_30 C0 hin FU _ _ _ _ _ h _ _ _ hM hS (lv_sub hl [1, 2, 0] rfl)
set_option maxHeartbeats 4000000 in
set_option maxRecDepth 100000 in
theorem c_X0_init (l : Launch) (D : mmD) (b0 sz : Nat) {v0 : Nat} {v1 : Nat} {v2 : Int32} {f : mmF} {res : mmF × Nat} (h : f_X0_init v0 v1 v2 f sz = some res) : Met l yX0_init wsX0_init ({ frames := 1, cells := 1, slots := 64, locals := 24 } : Room) (va_Pc [.ref v0, .ref v1, .int v2] (PW D b0 f sz)) (QW D b0 none res.1 res.2) 1 64 (fun q => b0 ≤ q) := by
  refine Met.ofW (cc := cX0_init) (maxL := 4) (ret := none) (by decide) rfl ?_
  intro p e s m args below meth c s₁ B hml hv
  obtain ⟨rfl, hM, hK⟩ := hv
  have hl := lv_entry ([.ref v0, .ref v1, .int v2]) (n := 4) (Nat.le_of_ble_eq_true rfl)
  rw [lg_entry_eq]
  generalize (lg_sl ([.ref v0, .ref v1, .int v2]) ++ List.replicate (4 - (lg_sl ([.ref v0, .ref v1, .int v2])).length) Slot.unset).toArray = ls at hl ⊢
  have hl : lv_has ls 4 [(0, .ref v0), (1, .ref v1), (2, .int v2)] := hl
  exact w_X0_init ⟨B.exec, B.bytes, B.returns, hml, findClass_of_methodNamed B.named, atoms_spec (ws := wsX0_init) B.pre, B.notSynchronized, hK⟩ (name_of_methodNamed B.named B.method).1 h s.heap [] ls hM va_S.rf hl
end S_X0_init
/-! X0_joined -/
set_option maxRecDepth 20000 in
theorem qi_X0_joined_X0 : ∀ w ∈ u_ws RX0 TX0 2, w ∈ wsX0_joined := by decide +kernel
set_option maxRecDepth 20000 in
theorem q_X0_joined_1 : Cond.classLink RX0 17 RX0 ∈ wsX0_joined := by decide +kernel
set_option maxRecDepth 20000 in
theorem q_X0_joined_2 : Cond.instantiable RX0 2 ∈ wsX0_joined := by decide +kernel
set_option maxRecDepth 20000 in
theorem q_X0_joined_3 : Cond.initialized RX0 ∈ wsX0_joined := by decide +kernel
set_option maxRecDepth 20000 in
theorem q_X0_joined_4 : Cond.methodLink RX0 26 yX0_init ∈ wsX0_joined := by decide +kernel
set_option maxRecDepth 20000 in
theorem q_X0_joined_5 : Cond.instanceMethod yX0_init ∈ wsX0_joined := by decide +kernel
set_option maxRecDepth 20000 in
theorem q_X0_joined_6 : Cond.fieldLink RX0 16 "StageTruths$Claim" "size" "I" ∈ wsX0_joined := by decide +kernel
set_option maxRecDepth 20000 in
theorem q_X0_joined_7 : Cond.fieldLink RX0 22 "StageTruths$Claim" "signs" "[I" ∈ wsX0_joined := by decide +kernel
set_option maxRecDepth 20000 in
theorem q_X0_joined_8 : Cond.arrayClass .int ∈ wsX0_joined := by decide +kernel
noncomputable def f_X0_joined_71 (k17 : Nat → Nat → Int32 → Nat → Int32 → mmF → Nat → Option (Nat × mmF × Nat))  (v0 : Nat) (v1 : Nat) (v2 : Int32) (v3 : Nat) (v4 : Int32) (t0 : Nat) (t1 : Int32) (t2 : Int32) (f : mmF) (sz : Nat) : Option (Nat × mmF × Nat) :=
  (stA 0 f t0 t1 t2).bind fun f71 =>
  k17 v0 v1 v2 v3 (v4 + (1 : Int32)) f71 sz
noncomputable def f_X0_joined_17   : Nat → Nat → Nat → Int32 → Nat → Int32 → mmF → Nat → Option (Nat × mmF × Nat)
  | 0, _, _, _, _, _, _, _ => none
  | n + 1, v0, v1, v2, v3, v4, f, sz =>
    (lenA f v3).bind fun x20 =>
    if x20 ≤ v4 then
    ((some (va_up f sz (some (.inr (0, [.int 0, .null]))))).bind fun f78 =>
    (lenA f78 v3).bind fun x84 =>
    (f_X0_init sz v3 x84 f78 (sz + 1)).bind fun q85 =>
    some (sz, q85.1, q85.2))
    else
    (ldI f v0 0 0).bind fun x30 =>
    if x30 ≤ v4 then
    ((lenA f v3).bind fun x51 =>
    if x51 ≤ (v4 + (1 : Int32)) then
    (f_X0_joined_71 (fun a0 a1 a2 a3 a4 a5 a6 => f_X0_joined_17 n a0 a1 a2 a3 a4 a5 a6) v0 v1 v2 v3 v4 v3 v4 v2 f sz)
    else
    (ldR f v1 0 1).bind fun x56 =>
    (ldI f v0 0 0).bind fun x62 =>
    (ldA 0 f x56 (v4 - x62)).bind fun x66 =>
    f_X0_joined_71 (fun a0 a1 a2 a3 a4 a5 a6 => f_X0_joined_17 n a0 a1 a2 a3 a4 a5 a6) v0 v1 v2 v3 v4 v3 v4 x66 f sz)
    else
    (ldR f v0 0 1).bind fun x37 =>
    (ldA 0 f x37 v4).bind fun x42 =>
    f_X0_joined_71 (fun a0 a1 a2 a3 a4 a5 a6 => f_X0_joined_17 n a0 a1 a2 a3 a4 a5 a6) v0 v1 v2 v3 v4 v3 v4 x42 f sz
noncomputable def f_X0_joined (v0 : Nat) (v1 : Nat) (v2 : Int32) (f : mmF) (sz : Nat) : Option (Nat × mmF × Nat) :=
  (ldI f v0 0 0).bind fun x1 =>
  (ldI f v1 0 0).bind fun x5 =>
  if ((x1 + x5) + (1 : Int32)) < 0 ∨ 64 < ((x1 + x5) + (1 : Int32)).toNatClampNeg then none else
  (some (va_up f sz (some (.inl (0, ((x1 + x5) + (1 : Int32)).toNatClampNeg, .inl (fun _ => 0)))))).bind fun f11 =>
  f_X0_joined_17 FU v0 v1 v2 sz (0 : Int32) f11 (sz + 1)
section S_X0_joined
variable {p : Program} {l : Launch} {e : Env} {s : State} {m : MethodId} {args : Array Value} {below : List Frame} {meth : Method} {c : Code} {D : mmD} {b0 sz : Nat} {f : mmF}
set_option maxHeartbeats 4000000 in
set_option maxRecDepth 100000 in
theorem w_X0_joined_71 (C0 : CX cX0_joined 5 (some (.object "StageTruths$Claim")) wsX0_joined RX0 p s m args meth c D b0) {k17 : Nat → Nat → Int32 → Nat → Int32 → mmF → Nat → Option (Nat × mmF × Nat)} {res : Nat × mmF × Nat} (hk17 : ∀ (v0 : Nat) (v1 : Nat) (v2 : Int32) (v3 : Nat) (v4 : Int32) (f : mmF) (sz : Nat), k17 v0 v1 v2 v3 v4 f sz = some res → ∀ (H : Heap) (locs : List Loc) (ls : Array Slot), MM vwCl D b0 f sz s H → mS b0 s H locs → lv_has ls 5 [(0, .ref v0), (1, .ref v1), (2, .int v2), (3, .ref v3), (4, .int v4)] → W p l e ({ frames := 2, cells := 3, slots := 130, locals := 47 } : Room) s m args below meth c H locs 1 64 (MQ below (QW D b0 (some (.ref res.1)) res.2.1 res.2.2) args s 3 130 (fun q => b0 ≤ q)) (F0 m 17 ls [])) : ∀ (v0 : Nat) (v1 : Nat) (v2 : Int32) (v3 : Nat) (v4 : Int32) (t0 : Nat) (t1 : Int32) (t2 : Int32) (f : mmF) (sz : Nat), f_X0_joined_71 k17 v0 v1 v2 v3 v4 t0 t1 t2 f sz = some res → ∀ (H : Heap) (locs : List Loc) (ls : Array Slot), MM vwCl D b0 f sz s H → mS b0 s H locs → lv_has ls 5 [(0, .ref v0), (1, .ref v1), (2, .int v2), (3, .ref v3), (4, .int v4)] → W p l e ({ frames := 2, cells := 3, slots := 130, locals := 47 } : Room) s m args below meth c H locs 1 64 (MQ below (QW D b0 (some (.ref res.1)) res.2.1 res.2.2) args s 3 130 (fun q => b0 ≤ q)) (F0 m 71 ls [.int t2, .int t1, .ref t0]) := by
  obtain ⟨hx, hb, hr, hml, hown, hts, hlocks, hK⟩ := id C0
  intro v0 v1 v2 v3 v4 t0 t1 t2 f sz h H locs ls hM hS hl
  unfold f_X0_joined_71 at h
  replace h := o_b h; obtain ⟨f71, h71, h⟩ := h
  refine m_iast hx hb hK.1 hM hS rfl h71 dX0_joined_71 (fun H locs hM hS => ?_)
  refine lv_iinc (v := (v4 + (1 : Int32))) (lv' := [(4, .int (v4 + (1 : Int32))), (0, .ref v0), (1, .ref v1), (2, .int v2), (3, .ref v3)]) hx hb dX0_joined_72 hl (k := 4) rfl rfl (by decide) rfl (fun ls hl => ?_)
  refine lv_goto (tgt := 17) hx hb dX0_joined_75 (by decide) ?_
  exact hk17 _ _ _ _ _ _ _ h _ _ _ hM hS (lv_sub hl [1, 2, 3, 4, 0] rfl)
set_option maxHeartbeats 4000000 in
set_option maxRecDepth 100000 in
theorem w_X0_joined_17 (C0 : CX cX0_joined 5 (some (.object "StageTruths$Claim")) wsX0_joined RX0 p s m args meth c D b0) {res : Nat × mmF × Nat} : ∀ (n : Nat), ∀ (v0 : Nat) (v1 : Nat) (v2 : Int32) (v3 : Nat) (v4 : Int32) (f : mmF) (sz : Nat), f_X0_joined_17 n v0 v1 v2 v3 v4 f sz = some res → ∀ (H : Heap) (locs : List Loc) (ls : Array Slot), MM vwCl D b0 f sz s H → mS b0 s H locs → lv_has ls 5 [(0, .ref v0), (1, .ref v1), (2, .int v2), (3, .ref v3), (4, .int v4)] → W p l e ({ frames := 2, cells := 3, slots := 130, locals := 47 } : Room) s m args below meth c H locs 1 64 (MQ below (QW D b0 (some (.ref res.1)) res.2.1 res.2.2) args s 3 130 (fun q => b0 ≤ q)) (F0 m 17 ls []) := by
  obtain ⟨hx, hb, hr, hml, hown, hts, hlocks, hK⟩ := id C0
  intro n
  induction n with
  | zero =>
    intro v0 v1 v2 v3 v4 f sz h
    have h : (none : Option (Nat × mmF × Nat)) = some res := h
    cases h
  | succ n ih =>
    intro v0 v1 v2 v3 v4 f sz h H locs ls hM hS hl
    rw [f_X0_joined_17] at h
    refine lv_iload hx hb dX0_joined_17 (lv_at hl 4 rfl) ?_
    refine lv_aload_n hx hb dX0_joined_19 rfl (lv_at hl 3 rfl) ?_
    replace h := o_b h; obtain ⟨x20, h20, h⟩ := h
    refine m_alen hx hb hK.1 hM h20 dX0_joined_20 ?_
    refine lv_icmp_ge (tgt := 78) hx hb dX0_joined_21 (by decide) (fun c21 => ?_) (fun c21 => ?_)
    · replace h := o_t c21 h
      refine m_new (ci := 0) (fs := [.int 0, .null]) (C := RX0) (T := TX0) (N := 2) hx hb hts qi_X0_joined_X0 tyX0 tyX0_ok hown (hts _ q_X0_joined_1) (hts _ q_X0_joined_2) (hts _ q_X0_joined_3) hK.1 hM hS rfl (fun j hj => by match j, hj with | 0, _ => rfl | 1, _ => rfl | j + 2, hj => exact absurd hj (by omega)) (Nat.le_of_ble_eq_true rfl) (Nat.le_of_ble_eq_true rfl) dX0_joined_78 (fun H hM hS => ?_)
      replace h := o_b h; obtain ⟨f78, h78, h⟩ := h
      replace h78 := Option.some.inj h78
      subst h78
      refine lv_dup hx hb dX0_joined_81 rfl ?_
      refine lv_aload_n hx hb dX0_joined_82 rfl (lv_at hl 3 rfl) ?_
      refine lv_aload_n hx hb dX0_joined_83 rfl (lv_at hl 3 rfl) ?_
      replace h := o_b h; obtain ⟨x84, h84, h⟩ := h
      refine m_alen hx hb hK.1 hM h84 dX0_joined_84 ?_
      replace h := o_b h; obtain ⟨q85, h85, h⟩ := h
      refine m_call (va_runI (As := [.ref v3, .int x84]) (rest := [.ref sz]) ⟨hx, hb, hml, hown, hts⟩ (c_X0_init l D b0 (sz + 1) h85) (cwI 2 hts gX0_joined_X0_init rfl rfl rfl (hts _ q_X0_joined_3) (hts _ q_X0_joined_4) (hts _ q_X0_joined_5) rfl (by decide +kernel) ⟨Nat.le_of_ble_eq_true rfl, Nat.le_of_ble_eq_true rfl⟩) ⟨PW.blind, (fun U hU hW => ⟨rfl, PW.call hK hM hS hU hW⟩)⟩ rfl rfl hl.1 rfl (lv_room (Nat.le_of_ble_eq_true rfl)) dX0_joined_85 ⟨(Nat.le_of_ble_eq_true rfl), (Nat.le_of_ble_eq_true rfl)⟩) hS (fun H locs hM hS => ?_)
      refine W.widen (k := 3) (n := 130) (Nat.le_of_ble_eq_true rfl) (Nat.le_of_ble_eq_true rfl) ?_
      replace h := Option.some.inj h; subst h
      exact W.aret hx hb hr (Or.inl ⟨_, rfl⟩) (Or.inr ⟨_, rfl⟩) (fun t ht hW => ⟨rfl, by rw [ht]; exact hM.moved hW.alike, hS.F ht⟩) hS.2.2 dX0_joined_88
    replace h := o_f c21 h
    refine lv_aload_n hx hb dX0_joined_24 rfl (lv_at hl 3 rfl) ?_
    refine lv_iload hx hb dX0_joined_25 (lv_at hl 4 rfl) ?_
    refine lv_iload hx hb dX0_joined_27 (lv_at hl 4 rfl) ?_
    refine lv_aload_n hx hb dX0_joined_29 rfl (lv_at hl 0 rfl) ?_
    replace h := o_b h; obtain ⟨x30, h30, h⟩ := h
    refine m_get (C := RX0) (T := TX0) (N := 2) (ci := 0) hx hb hts qi_X0_joined_X0 hown hK.1 hM 0 (ldI_F h30) rfl (by decide) (hts _ q_X0_joined_6) (fun _ h9 => h9) dX0_joined_30 ?_
    refine lv_icmp_ge (tgt := 46) hx hb dX0_joined_33 (by decide) (fun c33 => ?_) (fun c33 => ?_)
    · replace h := o_t c33 h
      refine lv_iload hx hb dX0_joined_46 (lv_at hl 4 rfl) ?_
      refine lv_iconst (v := (1 : Int32)) hx hb dX0_joined_48 (by decide) ?_
      refine lv_iadd hx hb dX0_joined_49 ?_
      refine lv_aload_n hx hb dX0_joined_50 rfl (lv_at hl 3 rfl) ?_
      replace h := o_b h; obtain ⟨x51, h51, h⟩ := h
      refine m_alen hx hb hK.1 hM h51 dX0_joined_51 ?_
      refine lv_icmp_ge (tgt := 70) hx hb dX0_joined_52 (by decide) (fun c52 => ?_) (fun c52 => ?_)
      · replace h := o_t c52 h
        refine lv_iload_n hx hb dX0_joined_70 rfl (lv_at hl 2 rfl) ?_
        exact w_X0_joined_71 C0 ih _ _ _ _ _ _ _ _ _ _ h _ _ _ hM hS (lv_sub hl [0, 1, 2, 3, 4] rfl)
      replace h := o_f c52 h
      refine lv_aload_n hx hb dX0_joined_55 rfl (lv_at hl 1 rfl) ?_
      replace h := o_b h; obtain ⟨x56, h56, h⟩ := h
      refine m_get (C := RX0) (T := TX0) (N := 2) (ci := 0) hx hb hts qi_X0_joined_X0 hown hK.1 hM 1 (ldR_F h56) rfl (by decide) (hts _ q_X0_joined_7) (fun _ h9 => h9) dX0_joined_56 ?_
      refine lv_iload hx hb dX0_joined_59 (lv_at hl 4 rfl) ?_
      refine lv_aload_n hx hb dX0_joined_61 rfl (lv_at hl 0 rfl) ?_
      replace h := o_b h; obtain ⟨x62, h62, h⟩ := h
      refine m_get (C := RX0) (T := TX0) (N := 2) (ci := 0) hx hb hts qi_X0_joined_X0 hown hK.1 hM 0 (ldI_F h62) rfl (by decide) (hts _ q_X0_joined_6) (fun _ h9 => h9) dX0_joined_62 ?_
      refine lv_isub hx hb dX0_joined_65 ?_
      replace h := o_b h; obtain ⟨x66, h66, h⟩ := h
      refine m_iald hx hb hK.1 hM hS rfl h66 dX0_joined_66 ?_
      refine lv_goto (tgt := 71) hx hb dX0_joined_67 (by decide) ?_
      exact w_X0_joined_71 C0 ih _ _ _ _ _ _ _ _ _ _ h _ _ _ hM hS (lv_sub hl [0, 1, 2, 3, 4] rfl)
    replace h := o_f c33 h
    refine lv_aload_n hx hb dX0_joined_36 rfl (lv_at hl 0 rfl) ?_
    replace h := o_b h; obtain ⟨x37, h37, h⟩ := h
    refine m_get (C := RX0) (T := TX0) (N := 2) (ci := 0) hx hb hts qi_X0_joined_X0 hown hK.1 hM 1 (ldR_F h37) rfl (by decide) (hts _ q_X0_joined_7) (fun _ h9 => h9) dX0_joined_37 ?_
    refine lv_iload hx hb dX0_joined_40 (lv_at hl 4 rfl) ?_
    replace h := o_b h; obtain ⟨x42, h42, h⟩ := h
    refine m_iald hx hb hK.1 hM hS rfl h42 dX0_joined_42 ?_
    refine lv_goto (tgt := 71) hx hb dX0_joined_43 (by decide) ?_
    exact w_X0_joined_71 C0 ih _ _ _ _ _ _ _ _ _ _ h _ _ _ hM hS (lv_sub hl [0, 1, 2, 3, 4] rfl)
set_option maxHeartbeats 4000000 in
set_option maxRecDepth 100000 in
theorem w_X0_joined (C0 : CX cX0_joined 5 (some (.object "StageTruths$Claim")) wsX0_joined RX0 p s m args meth c D b0) {v0 : Nat} {v1 : Nat} {v2 : Int32} {res : Nat × mmF × Nat} (h : f_X0_joined v0 v1 v2 f sz = some res) : ∀ (H : Heap) (locs : List Loc) (ls : Array Slot), MM vwCl D b0 f sz s H → mS b0 s H locs → lv_has ls 5 [(0, .ref v0), (1, .ref v1), (2, .int v2)] → W p l e ({ frames := 2, cells := 3, slots := 130, locals := 47 } : Room) s m args below meth c H locs 0 0 (MQ below (QW D b0 (some (.ref res.1)) res.2.1 res.2.2) args s 3 130 (fun q => b0 ≤ q)) (F0 m 0 ls []) := by
  obtain ⟨hx, hb, hr, hml, hown, hts, hlocks, hK⟩ := id C0
  intro H locs ls hM hS hl
  unfold f_X0_joined at h
  refine lv_aload_n hx hb dX0_joined_0 rfl (lv_at hl 0 rfl) ?_
  replace h := o_b h; obtain ⟨x1, h1, h⟩ := h
  refine m_get (C := RX0) (T := TX0) (N := 2) (ci := 0) hx hb hts qi_X0_joined_X0 hown hK.1 hM 0 (ldI_F h1) rfl (by decide) (hts _ q_X0_joined_6) (fun _ h9 => h9) dX0_joined_1 ?_
  refine lv_aload_n hx hb dX0_joined_4 rfl (lv_at hl 1 rfl) ?_
  replace h := o_b h; obtain ⟨x5, h5, h⟩ := h
  refine m_get (C := RX0) (T := TX0) (N := 2) (ci := 0) hx hb hts qi_X0_joined_X0 hown hK.1 hM 0 (ldI_F h5) rfl (by decide) (hts _ q_X0_joined_6) (fun _ h9 => h9) dX0_joined_5 ?_
  refine lv_iadd hx hb dX0_joined_8 ?_
  refine lv_iconst (v := (1 : Int32)) hx hb dX0_joined_9 (by decide) ?_
  refine lv_iadd hx hb dX0_joined_10 ?_
  replace h := o_n h; obtain ⟨z11, h⟩ := h
  refine m_newa 0 (by decide) hx hb (atype := .int) (N' := ((x1 + x5) + (1 : Int32)).toNatClampNeg) (hts _ q_X0_joined_8) rfl rfl hK.1 hM hS (y := .inl (fun _ => 0)) (fun _ => rfl) (fun _ => Iff.rfl) (fun q9 => z11 (Or.inl q9)) rfl (Nat.le_trans (Nat.mul_le_mul_right _ (Nat.not_lt.mp fun q9 => z11 (Or.inr q9))) (Nat.le_of_ble_eq_true rfl)) (Nat.le_of_ble_eq_true rfl) (Nat.le_trans (Nat.add_le_add_left (Nat.not_lt.mp fun q9 => z11 (Or.inr q9)) 0) (Nat.le_of_ble_eq_true rfl)) dX0_joined_11 (fun H hM hS => ?_)
  refine W.widen (k := 1) (n := 64) (Nat.le_of_ble_eq_true rfl) (Nat.add_le_add_left (Nat.not_lt.mp fun q9 => z11 (Or.inr q9)) 0) ?_
  replace h := o_b h; obtain ⟨f11, h11, h⟩ := h
  replace h11 := Option.some.inj h11
  subst h11
  refine lv_astore_n (lv' := [(3, .ref sz), (0, .ref v0), (1, .ref v1), (2, .int v2)]) hx hb dX0_joined_13 rfl hl (by decide) rfl (fun ls hl => ?_)
  refine lv_iconst (v := (0 : Int32)) hx hb dX0_joined_14 (by decide) ?_
  refine lv_istore (lv' := [(4, .int (0 : Int32)), (3, .ref sz), (0, .ref v0), (1, .ref v1), (2, .int v2)]) hx hb dX0_joined_15 hl (by decide) rfl (fun ls hl => ?_)
  exact w_X0_joined_17 C0 FU _ _ _ _ _ _ _ h _ _ _ hM hS (lv_sub hl [2, 3, 4, 1, 0] rfl)
set_option maxHeartbeats 4000000 in
set_option maxRecDepth 100000 in
theorem c_X0_joined (l : Launch) (D : mmD) (b0 sz : Nat) {v0 : Nat} {v1 : Nat} {v2 : Int32} {f : mmF} {res : Nat × mmF × Nat} (h : f_X0_joined v0 v1 v2 f sz = some res) : Met l yX0_joined wsX0_joined ({ frames := 2, cells := 3, slots := 130, locals := 47 } : Room) (va_Pc [.ref v0, .ref v1, .int v2] (PW D b0 f sz)) (QW D b0 (some (.ref res.1)) res.2.1 res.2.2) 3 130 (fun q => b0 ≤ q) := by
  refine Met.ofW (cc := cX0_joined) (maxL := 5) (ret := (some (.object "StageTruths$Claim"))) (by decide) rfl ?_
  intro p e s m args below meth c s₁ B hml hv
  obtain ⟨rfl, hM, hK⟩ := hv
  have hl := lv_entry ([.ref v0, .ref v1, .int v2]) (n := 5) (Nat.le_of_ble_eq_true rfl)
  rw [lg_entry_eq]
  generalize (lg_sl ([.ref v0, .ref v1, .int v2]) ++ List.replicate (5 - (lg_sl ([.ref v0, .ref v1, .int v2])).length) Slot.unset).toArray = ls at hl ⊢
  have hl : lv_has ls 5 [(0, .ref v0), (1, .ref v1), (2, .int v2)] := hl
  exact w_X0_joined ⟨B.exec, B.bytes, B.returns, hml, findClass_of_methodNamed B.named, atoms_spec (ws := wsX0_joined) B.pre, B.notSynchronized, hK⟩ h s.heap [] ls hM va_S.rf hl
end S_X0_joined
/-! X0_isSameAs -/
set_option maxRecDepth 20000 in
theorem qi_X0_isSameAs_X0 : ∀ w ∈ u_ws RX0 TX0 2, w ∈ wsX0_isSameAs := by decide +kernel
set_option maxRecDepth 20000 in
theorem q_X0_isSameAs_1 : Cond.fieldLink RX0 16 "StageTruths$Claim" "size" "I" ∈ wsX0_isSameAs := by decide +kernel
set_option maxRecDepth 20000 in
theorem q_X0_isSameAs_2 : Cond.fieldLink RX0 22 "StageTruths$Claim" "signs" "[I" ∈ wsX0_isSameAs := by decide +kernel
noncomputable def f_X0_isSameAs_15  (f : mmF) : Nat → Nat → Nat → Int32 → Option (Int32)
  | 0, _, _, _ => none
  | n + 1, v0, v1, v2 =>
    (ldI f v0 0 0).bind fun x17 =>
    if x17 ≤ v2 then
    (some ((1 : Int32)))
    else
    (ldR f v0 0 1).bind fun x24 =>
    (ldA 0 f x24 v2).bind fun x28 =>
    (ldR f v1 0 1).bind fun x30 =>
    (ldA 0 f x30 v2).bind fun x34 =>
    if x28 = x34 then
    (f_X0_isSameAs_15 f n v0 v1 (v2 + (1 : Int32)))
    else
    some ((0 : Int32))
noncomputable def f_X0_isSameAs (v0 : Nat) (v1 : Nat) (f : mmF) : Option (Int32) :=
  (ldI f v0 0 0).bind fun x1 =>
  (ldI f v1 0 0).bind fun x5 =>
  if x1 = x5 then
  (f_X0_isSameAs_15 f FU v0 v1 (0 : Int32))
  else
  some ((0 : Int32))
section S_X0_isSameAs
variable {p : Program} {l : Launch} {e : Env} {s : State} {m : MethodId} {args : Array Value} {below : List Frame} {meth : Method} {c : Code} {D : mmD} {b0 sz : Nat} {f : mmF}
set_option maxHeartbeats 4000000 in
set_option maxRecDepth 100000 in
theorem w_X0_isSameAs_15 (C0 : CX cX0_isSameAs 3 (some .boolean) wsX0_isSameAs RX0 p s m args meth c D b0) {res : Int32} : ∀ (n : Nat), ∀ (v0 : Nat) (v1 : Nat) (v2 : Int32), f_X0_isSameAs_15 f n v0 v1 v2 = some res → ∀ (H : Heap) (locs : List Loc) (ls : Array Slot), MM vwCl D b0 f sz s H → mS b0 s H locs → lv_has ls 3 [(0, .ref v0), (1, .ref v1), (2, .int v2)] → W p l e ({ frames := 0, cells := 0, slots := 0, locals := 0 } : Room) s m args below meth c H locs 0 0 (MQ below (QW D b0 (some (.int res)) f sz) args s 0 0 (fun q => b0 ≤ q)) (F0 m 15 ls []) := by
  obtain ⟨hx, hb, hr, hml, hown, hts, hlocks, hK⟩ := id C0
  intro n
  induction n with
  | zero =>
    intro v0 v1 v2 h
    have h : (none : Option (Int32)) = some res := h
    cases h
  | succ n ih =>
    intro v0 v1 v2 h H locs ls hM hS hl
    rw [f_X0_isSameAs_15] at h
    refine lv_iload_n hx hb dX0_isSameAs_15 rfl (lv_at hl 2 rfl) ?_
    refine lv_aload_n hx hb dX0_isSameAs_16 rfl (lv_at hl 0 rfl) ?_
    replace h := o_b h; obtain ⟨x17, h17, h⟩ := h
    refine m_get (C := RX0) (T := TX0) (N := 2) (ci := 0) hx hb hts qi_X0_isSameAs_X0 hown hK.1 hM 0 (ldI_F h17) rfl (by decide) (hts _ q_X0_isSameAs_1) (fun _ h9 => h9) dX0_isSameAs_17 ?_
    refine lv_icmp_ge (tgt := 46) hx hb dX0_isSameAs_20 (by decide) (fun c20 => ?_) (fun c20 => ?_)
    · replace h := o_t c20 h
      refine lv_iconst (v := (1 : Int32)) hx hb dX0_isSameAs_46 (by decide) ?_
      replace h := Option.some.inj h; subst h
      exact W.zret hx hb hr rfl (fun t ht hW => ⟨rfl, by rw [ht]; exact hM.moved hW.alike, hS.F ht⟩) hS.2.2 dX0_isSameAs_47
    replace h := o_f c20 h
    refine lv_aload_n hx hb dX0_isSameAs_23 rfl (lv_at hl 0 rfl) ?_
    replace h := o_b h; obtain ⟨x24, h24, h⟩ := h
    refine m_get (C := RX0) (T := TX0) (N := 2) (ci := 0) hx hb hts qi_X0_isSameAs_X0 hown hK.1 hM 1 (ldR_F h24) rfl (by decide) (hts _ q_X0_isSameAs_2) (fun _ h9 => h9) dX0_isSameAs_24 ?_
    refine lv_iload_n hx hb dX0_isSameAs_27 rfl (lv_at hl 2 rfl) ?_
    replace h := o_b h; obtain ⟨x28, h28, h⟩ := h
    refine m_iald hx hb hK.1 hM hS rfl h28 dX0_isSameAs_28 ?_
    refine lv_aload_n hx hb dX0_isSameAs_29 rfl (lv_at hl 1 rfl) ?_
    replace h := o_b h; obtain ⟨x30, h30, h⟩ := h
    refine m_get (C := RX0) (T := TX0) (N := 2) (ci := 0) hx hb hts qi_X0_isSameAs_X0 hown hK.1 hM 1 (ldR_F h30) rfl (by decide) (hts _ q_X0_isSameAs_2) (fun _ h9 => h9) dX0_isSameAs_30 ?_
    refine lv_iload_n hx hb dX0_isSameAs_33 rfl (lv_at hl 2 rfl) ?_
    replace h := o_b h; obtain ⟨x34, h34, h⟩ := h
    refine m_iald hx hb hK.1 hM hS rfl h34 dX0_isSameAs_34 ?_
    refine lv_icmp_eq (tgt := 40) hx hb dX0_isSameAs_35 (by decide) (fun c35 => ?_) (fun c35 => ?_)
    · replace h := o_t c35 h
      refine lv_iinc (v := (v2 + (1 : Int32))) (lv' := [(2, .int (v2 + (1 : Int32))), (0, .ref v0), (1, .ref v1)]) hx hb dX0_isSameAs_40 hl (k := 2) rfl rfl (by decide) rfl (fun ls hl => ?_)
      refine lv_goto (tgt := 15) hx hb dX0_isSameAs_43 (by decide) ?_
      exact ih _ _ _ h _ _ _ hM hS (lv_sub hl [1, 2, 0] rfl)
    replace h := o_f c35 h
    refine lv_iconst (v := (0 : Int32)) hx hb dX0_isSameAs_38 (by decide) ?_
    replace h := Option.some.inj h; subst h
    exact W.zret hx hb hr rfl (fun t ht hW => ⟨rfl, by rw [ht]; exact hM.moved hW.alike, hS.F ht⟩) hS.2.2 dX0_isSameAs_39
set_option maxHeartbeats 4000000 in
set_option maxRecDepth 100000 in
theorem w_X0_isSameAs (C0 : CX cX0_isSameAs 3 (some .boolean) wsX0_isSameAs RX0 p s m args meth c D b0) {v0 : Nat} {v1 : Nat} {res : Int32} (h : f_X0_isSameAs v0 v1 f = some res) : ∀ (H : Heap) (locs : List Loc) (ls : Array Slot), MM vwCl D b0 f sz s H → mS b0 s H locs → lv_has ls 3 [(0, .ref v0), (1, .ref v1)] → W p l e ({ frames := 0, cells := 0, slots := 0, locals := 0 } : Room) s m args below meth c H locs 0 0 (MQ below (QW D b0 (some (.int res)) f sz) args s 0 0 (fun q => b0 ≤ q)) (F0 m 0 ls []) := by
  obtain ⟨hx, hb, hr, hml, hown, hts, hlocks, hK⟩ := id C0
  intro H locs ls hM hS hl
  unfold f_X0_isSameAs at h
  refine lv_aload_n hx hb dX0_isSameAs_0 rfl (lv_at hl 0 rfl) ?_
  replace h := o_b h; obtain ⟨x1, h1, h⟩ := h
  refine m_get (C := RX0) (T := TX0) (N := 2) (ci := 0) hx hb hts qi_X0_isSameAs_X0 hown hK.1 hM 0 (ldI_F h1) rfl (by decide) (hts _ q_X0_isSameAs_1) (fun _ h9 => h9) dX0_isSameAs_1 ?_
  refine lv_aload_n hx hb dX0_isSameAs_4 rfl (lv_at hl 1 rfl) ?_
  replace h := o_b h; obtain ⟨x5, h5, h⟩ := h
  refine m_get (C := RX0) (T := TX0) (N := 2) (ci := 0) hx hb hts qi_X0_isSameAs_X0 hown hK.1 hM 0 (ldI_F h5) rfl (by decide) (hts _ q_X0_isSameAs_1) (fun _ h9 => h9) dX0_isSameAs_5 ?_
  refine lv_icmp_eq (tgt := 13) hx hb dX0_isSameAs_8 (by decide) (fun c8 => ?_) (fun c8 => ?_)
  · replace h := o_t c8 h
    refine lv_iconst (v := (0 : Int32)) hx hb dX0_isSameAs_13 (by decide) ?_
    refine lv_istore_n (lv' := [(2, .int (0 : Int32)), (0, .ref v0), (1, .ref v1)]) hx hb dX0_isSameAs_14 rfl hl (by decide) rfl (fun ls hl => ?_)
    exact w_X0_isSameAs_15 C0 FU _ _ _ h _ _ _ hM hS (lv_sub hl [1, 2, 0] rfl)
  replace h := o_f c8 h
  refine lv_iconst (v := (0 : Int32)) hx hb dX0_isSameAs_11 (by decide) ?_
  replace h := Option.some.inj h; subst h
  exact W.zret hx hb hr rfl (fun t ht hW => ⟨rfl, by rw [ht]; exact hM.moved hW.alike, hS.F ht⟩) hS.2.2 dX0_isSameAs_12
set_option maxHeartbeats 4000000 in
set_option maxRecDepth 100000 in
theorem c_X0_isSameAs (l : Launch) (D : mmD) (b0 sz : Nat) {v0 : Nat} {v1 : Nat} {f : mmF} {res : Int32} (h : f_X0_isSameAs v0 v1 f = some res) : Met l yX0_isSameAs wsX0_isSameAs ({ frames := 0, cells := 0, slots := 0, locals := 0 } : Room) (va_Pc [.ref v0, .ref v1] (PW D b0 f sz)) (QW D b0 (some (.int res)) f sz) 0 0 (fun q => b0 ≤ q) := by
  refine Met.ofW (cc := cX0_isSameAs) (maxL := 3) (ret := (some .boolean)) (by decide) rfl ?_
  intro p e s m args below meth c s₁ B hml hv
  obtain ⟨rfl, hM, hK⟩ := hv
  have hl := lv_entry ([.ref v0, .ref v1]) (n := 3) (Nat.le_of_ble_eq_true rfl)
  rw [lg_entry_eq]
  generalize (lg_sl ([.ref v0, .ref v1]) ++ List.replicate (3 - (lg_sl ([.ref v0, .ref v1])).length) Slot.unset).toArray = ls at hl ⊢
  have hl : lv_has ls 3 [(0, .ref v0), (1, .ref v1)] := hl
  exact w_X0_isSameAs ⟨B.exec, B.bytes, B.returns, hml, findClass_of_methodNamed B.named, atoms_spec (ws := wsX0_isSameAs) B.pre, B.notSynchronized, hK⟩ h s.heap [] ls hM va_S.rf hl
end S_X0_isSameAs
/-! X3_init -/
set_option maxRecDepth 20000 in
theorem q_X3_init_0 : Cond.methodLink RX3 1 objectInit ∈ wsX3_init := by decide +kernel
set_option maxRecDepth 20000 in
theorem q_X3_init_1 : Cond.instanceMethod objectInit ∈ wsX3_init := by decide +kernel
set_option maxRecDepth 20000 in
theorem q_X3_init_2 : Cond.code objectInit ⟨#[0xb1]⟩ 1 none ∈ wsX3_init := by decide +kernel
set_option maxRecDepth 20000 in
theorem q_X3_init_3 : Cond.methodLink RX3 9 Lib.Math.max.name ∈ wsX3_init := by decide +kernel
set_option maxRecDepth 20000 in
theorem q_X3_init_4 : Cond.static Lib.Math.max.name ∈ wsX3_init := by decide +kernel
set_option maxRecDepth 20000 in
theorem q_X3_init_5 : Cond.initialized "java/lang/Math" ∈ wsX3_init := by decide +kernel
set_option maxRecDepth 20000 in
theorem q_X3_init_6 : Cond.code Lib.Math.max.name Lib.Math.max.code 2 (some .int) ∈ wsX3_init := by decide +kernel
set_option maxRecDepth 20000 in
theorem q_X3_init_7 : Cond.arrayClass .long ∈ wsX3_init := by decide +kernel
set_option maxRecDepth 20000 in
theorem qi_X3_init_X3 : ∀ w ∈ u_ws RX3 TX3 1, w ∈ wsX3_init := by decide +kernel
set_option maxRecDepth 20000 in
theorem q_X3_init_9 : Cond.fieldLink RX3 15 "StageTruths$PartSets" "words" "[J" ∈ wsX3_init := by decide +kernel
noncomputable def f_X3_init (v0 : Nat) (v1 : Int32) (f : mmF) (sz : Nat) : Option (mmF × Nat) :=
  if ((3 : Int32) * (if (0 : Int32) < v1 then v1 else (0 : Int32))) < 0 ∨ 459 < ((3 : Int32) * (if (0 : Int32) < v1 then v1 else (0 : Int32))).toNatClampNeg then none else
  (some (va_up f sz (some (.inl (4, ((3 : Int32) * (if (0 : Int32) < v1 then v1 else (0 : Int32))).toNatClampNeg, .inr (.inl (fun _ => 0))))))).bind fun f12 =>
  (stF f12 v0 3 0 (.ref sz)).bind fun f14 =>
  some (f14, (sz + 1))
section S_X3_init
variable {p : Program} {l : Launch} {e : Env} {s : State} {m : MethodId} {args : Array Value} {below : List Frame} {meth : Method} {c : Code} {D : mmD} {b0 sz : Nat} {f : mmF}
set_option maxHeartbeats 4000000 in
set_option maxRecDepth 100000 in
theorem w_X3_init (C0 : CX cX3_init 2 none wsX3_init RX3 p s m args meth c D b0) (hin : meth.name = "<init>") {v0 : Nat} {v1 : Int32} {res : mmF × Nat} (h : f_X3_init v0 v1 f sz = some res) : ∀ (H : Heap) (locs : List Loc) (ls : Array Slot), MM vwCl D b0 f sz s H → mS b0 s H locs → lv_has ls 2 [(0, .ref v0), (1, .int v1)] → W p l e ({ frames := 1, cells := 1, slots := 459, locals := 24 } : Room) s m args below meth c H locs 0 0 (MQ below (QW D b0 none res.1 res.2) args s 1 459 (fun q => b0 ≤ q)) (F0 m 0 ls []) := by
  obtain ⟨hx, hb, hr, hml, hown, hts, hlocks, hK⟩ := id C0
  intro H locs ls hM hS hl
  unfold f_X3_init at h
  refine lv_aload_n hx hb dX3_init_0 rfl (lv_at hl 0 rfl) ?_
  refine W.objInit hx hb hown (hts _ q_X3_init_0) (hts _ q_X3_init_1) (hts _ q_X3_init_2) rfl (by rw [hml]; exact hl.1) rfl dX3_init_1 (Nat.le_of_ble_eq_true rfl) (Nat.le_of_ble_eq_true rfl) ?_
  refine lv_aload_n hx hb dX3_init_4 rfl (lv_at hl 0 rfl) ?_
  refine lv_iconst (v := (3 : Int32)) hx hb dX3_init_5 (by decide) ?_
  refine lv_iconst (v := (0 : Int32)) hx hb dX3_init_6 (by decide) ?_
  refine lv_iload_n hx hb dX3_init_7 rfl (lv_at hl 1 rfl) ?_
  refine va_mmax hx hb (hml.trans hl.1.symm) hown (hts _ q_X3_init_3) (hts _ q_X3_init_4) (hts _ q_X3_init_5) (hts _ q_X3_init_6) (Nat.le_of_ble_eq_true rfl) (Nat.le_of_ble_eq_true rfl) (Nat.zero_le _) (Nat.zero_le _) dX3_init_8 ?_
  refine lv_imul hx hb dX3_init_11 ?_
  replace h := o_n h; obtain ⟨z12, h⟩ := h
  refine m_newa 4 (by decide) hx hb (atype := .long) (N' := ((3 : Int32) * (if (0 : Int32) < v1 then v1 else (0 : Int32))).toNatClampNeg) (hts _ q_X3_init_7) rfl rfl hK.1 hM hS (y := .inr (.inl (fun _ => 0))) (fun _ => rfl) (fun _ => Iff.rfl) (fun q9 => z12 (Or.inl q9)) rfl (Nat.le_trans (Nat.mul_le_mul_right _ (Nat.not_lt.mp fun q9 => z12 (Or.inr q9))) (Nat.le_of_ble_eq_true rfl)) (Nat.le_of_ble_eq_true rfl) (Nat.le_trans (Nat.add_le_add_left (Nat.not_lt.mp fun q9 => z12 (Or.inr q9)) 0) (Nat.le_of_ble_eq_true rfl)) dX3_init_12 (fun H hM hS => ?_)
  refine W.widen (k := 1) (n := 459) (Nat.le_of_ble_eq_true rfl) (Nat.add_le_add_left (Nat.not_lt.mp fun q9 => z12 (Or.inr q9)) 0) ?_
  replace h := o_b h; obtain ⟨f12, h12, h⟩ := h
  replace h12 := Option.some.inj h12
  subst h12
  replace h := o_b h; obtain ⟨f14, h14, h⟩ := h
  refine m_putF (ty := (.array .long)) (C := RX3) (T := TX3) (N := 1) (ci := 3) hx hb hts qi_X3_init_X3 tyX3 tyX3_ok nmX3 hown hK.1 hM hS 0 h14 rfl (by decide) (hts _ q_X3_init_9) (fun _ h9 => h9) rfl hin rfl (by decide +kernel) rfl rfl dX3_init_14 (fun H locs hM hS => ?_)
  refine W.widen (k := 1) (n := 459) (Nat.le_of_ble_eq_true rfl) (Nat.le_of_ble_eq_true rfl) ?_
  replace h := Option.some.inj h; subst h
  exact W.vret hx hb hr (fun t ht hW => ⟨rfl, by rw [ht]; exact hM.moved hW.alike, hS.F ht⟩) hS.2.2 dX3_init_17
set_option maxHeartbeats 4000000 in
set_option maxRecDepth 100000 in
theorem c_X3_init (l : Launch) (D : mmD) (b0 sz : Nat) {v0 : Nat} {v1 : Int32} {f : mmF} {res : mmF × Nat} (h : f_X3_init v0 v1 f sz = some res) : Met l yX3_init wsX3_init ({ frames := 1, cells := 1, slots := 459, locals := 24 } : Room) (va_Pc [.ref v0, .int v1] (PW D b0 f sz)) (QW D b0 none res.1 res.2) 1 459 (fun q => b0 ≤ q) := by
  refine Met.ofW (cc := cX3_init) (maxL := 2) (ret := none) (by decide) rfl ?_
  intro p e s m args below meth c s₁ B hml hv
  obtain ⟨rfl, hM, hK⟩ := hv
  have hl := lv_entry ([.ref v0, .int v1]) (n := 2) (Nat.le_of_ble_eq_true rfl)
  rw [lg_entry_eq]
  generalize (lg_sl ([.ref v0, .int v1]) ++ List.replicate (2 - (lg_sl ([.ref v0, .int v1])).length) Slot.unset).toArray = ls at hl ⊢
  have hl : lv_has ls 2 [(0, .ref v0), (1, .int v1)] := hl
  exact w_X3_init ⟨B.exec, B.bytes, B.returns, hml, findClass_of_methodNamed B.named, atoms_spec (ws := wsX3_init) B.pre, B.notSynchronized, hK⟩ (name_of_methodNamed B.named B.method).1 h s.heap [] ls hM va_S.rf hl
end S_X3_init
/-! X1_init -/
set_option maxRecDepth 20000 in
theorem q_X1_init_0 : Cond.methodLink RX1 1 objectInit ∈ wsX1_init := by decide +kernel
set_option maxRecDepth 20000 in
theorem q_X1_init_1 : Cond.instanceMethod objectInit ∈ wsX1_init := by decide +kernel
set_option maxRecDepth 20000 in
theorem q_X1_init_2 : Cond.code objectInit ⟨#[0xb1]⟩ 1 none ∈ wsX1_init := by decide +kernel
set_option maxRecDepth 20000 in
theorem qi_X1_init_X1 : ∀ w ∈ u_ws RX1 TX1 4, w ∈ wsX1_init := by decide +kernel
set_option maxRecDepth 20000 in
theorem q_X1_init_4 : Cond.fieldLink RX1 7 "StageTruths$Findings" "size" "I" ∈ wsX1_init := by decide +kernel
set_option maxRecDepth 20000 in
theorem qi_X1_init_X3 : ∀ w ∈ u_ws RX3 TX3 1, w ∈ wsX1_init := by decide +kernel
set_option maxRecDepth 20000 in
theorem q_X1_init_6 : Cond.classLink RX1 13 RX3 ∈ wsX1_init := by decide +kernel
set_option maxRecDepth 20000 in
theorem q_X1_init_7 : Cond.instantiable RX3 1 ∈ wsX1_init := by decide +kernel
set_option maxRecDepth 20000 in
theorem q_X1_init_8 : Cond.initialized RX3 ∈ wsX1_init := by decide +kernel
set_option maxRecDepth 20000 in
theorem q_X1_init_9 : Cond.methodLink RX1 15 yX3_init ∈ wsX1_init := by decide +kernel
set_option maxRecDepth 20000 in
theorem q_X1_init_10 : Cond.instanceMethod yX3_init ∈ wsX1_init := by decide +kernel
set_option maxRecDepth 20000 in
theorem q_X1_init_11 : Cond.fieldLink RX1 18 "StageTruths$Findings" "sets" "LStageTruths$PartSets;" ∈ wsX1_init := by decide +kernel
set_option maxRecDepth 20000 in
theorem q_X1_init_12 : Cond.arrayClass .int ∈ wsX1_init := by decide +kernel
set_option maxRecDepth 20000 in
theorem q_X1_init_13 : Cond.fieldLink RX1 22 "StageTruths$Findings" "goals" "[I" ∈ wsX1_init := by decide +kernel
set_option maxRecDepth 20000 in
theorem q_X1_init_14 : Cond.fieldLink RX1 26 "StageTruths$Findings" "next" "I" ∈ wsX1_init := by decide +kernel
noncomputable def f_X1_init (v0 : Nat) (f : mmF) (sz : Nat) : Option (mmF × Nat) :=
  (stF f v0 1 0 (.int (0 : Int32))).bind fun f6 =>
  (some (va_up f6 sz (some (.inr (3, [.null]))))).bind fun f10 =>
  (f_X3_init sz (128 : Int32) f10 (sz + 1)).bind fun q17 =>
  (stF q17.1 v0 1 1 (.ref sz)).bind fun f20 =>
  (some (va_up f20 q17.2 (some (.inl (0, 128, .inl (fun _ => 0)))))).bind fun f27 =>
  (stF f27 v0 1 2 (.ref q17.2)).bind fun f29 =>
  (stF f29 v0 1 3 (.int (0 : Int32))).bind fun f34 =>
  some (f34, (q17.2 + 1))
section S_X1_init
variable {p : Program} {l : Launch} {e : Env} {s : State} {m : MethodId} {args : Array Value} {below : List Frame} {meth : Method} {c : Code} {D : mmD} {b0 sz : Nat} {f : mmF}
set_option maxHeartbeats 4000000 in
set_option maxRecDepth 100000 in
theorem w_X1_init (C0 : CX cX1_init 1 none wsX1_init RX1 p s m args meth c D b0) (hin : meth.name = "<init>") {v0 : Nat} {res : mmF × Nat} (h : f_X1_init v0 f sz = some res) : ∀ (H : Heap) (locs : List Loc) (ls : Array Slot), MM vwCl D b0 f sz s H → mS b0 s H locs → lv_has ls 1 [(0, .ref v0)] → W p l e ({ frames := 2, cells := 3, slots := 588, locals := 45 } : Room) s m args below meth c H locs 0 0 (MQ below (QW D b0 none res.1 res.2) args s 3 588 (fun q => b0 ≤ q)) (F0 m 0 ls []) := by
  obtain ⟨hx, hb, hr, hml, hown, hts, hlocks, hK⟩ := id C0
  intro H locs ls hM hS hl
  unfold f_X1_init at h
  refine lv_aload_n hx hb dX1_init_0 rfl (lv_at hl 0 rfl) ?_
  refine W.objInit hx hb hown (hts _ q_X1_init_0) (hts _ q_X1_init_1) (hts _ q_X1_init_2) rfl (by rw [hml]; exact hl.1) rfl dX1_init_1 (Nat.le_of_ble_eq_true rfl) (Nat.le_of_ble_eq_true rfl) ?_
  refine lv_aload_n hx hb dX1_init_4 rfl (lv_at hl 0 rfl) ?_
  refine lv_iconst (v := (0 : Int32)) hx hb dX1_init_5 (by decide) ?_
  replace h := o_b h; obtain ⟨f6, h6, h⟩ := h
  refine m_put (ty := .int) (C := RX1) (T := TX1) (N := 4) (ci := 1) hx hb hts qi_X1_init_X1 tyX1 tyX1_ok nmX1 hown hK.1 hM hS 0 h6 rfl (by decide) (hts _ q_X1_init_4) (fun _ h9 => h9) rfl (by decide +kernel) rfl rfl dX1_init_6 (fun H locs hM hS => ?_)
  refine lv_aload_n hx hb dX1_init_9 rfl (lv_at hl 0 rfl) ?_
  refine m_new (ci := 3) (fs := [.null]) (C := RX3) (T := TX3) (N := 1) hx hb hts qi_X1_init_X3 tyX3 tyX3_ok hown (hts _ q_X1_init_6) (hts _ q_X1_init_7) (hts _ q_X1_init_8) hK.1 hM hS rfl (fun j hj => by match j, hj with | 0, _ => rfl | j + 1, hj => exact absurd hj (by omega)) (Nat.le_of_ble_eq_true rfl) (Nat.le_of_ble_eq_true rfl) dX1_init_10 (fun H hM hS => ?_)
  replace h := o_b h; obtain ⟨f10, h10, h⟩ := h
  replace h10 := Option.some.inj h10
  subst h10
  refine lv_dup hx hb dX1_init_13 rfl ?_
  refine lv_sipush (v := (128 : Int32)) hx hb dX1_init_14 (by decide) ?_
  replace h := o_b h; obtain ⟨q17, h17, h⟩ := h
  refine m_call (va_runI (As := [.int (128 : Int32)]) (rest := [.ref sz, .ref v0]) ⟨hx, hb, hml, hown, hts⟩ (c_X3_init l D b0 (sz + 1) h17) (cwI 1 hts gX1_init_X3_init rfl rfl rfl (hts _ q_X1_init_8) (hts _ q_X1_init_9) (hts _ q_X1_init_10) rfl (by decide +kernel) ⟨Nat.le_of_ble_eq_true rfl, Nat.le_of_ble_eq_true rfl⟩) ⟨PW.blind, (fun U hU hW => ⟨rfl, PW.call hK hM hS hU hW⟩)⟩ rfl rfl hl.1 rfl (lv_room (Nat.le_of_ble_eq_true rfl)) dX1_init_17 ⟨(Nat.le_of_ble_eq_true rfl), (Nat.le_of_ble_eq_true rfl)⟩) hS (fun H locs hM hS => ?_)
  replace h := o_b h; obtain ⟨f20, h20, h⟩ := h
  refine m_putF (ty := (.object "StageTruths$PartSets")) (C := RX1) (T := TX1) (N := 4) (ci := 1) hx hb hts qi_X1_init_X1 tyX1 tyX1_ok nmX1 hown hK.1 hM hS 1 h20 rfl (by decide) (hts _ q_X1_init_11) (fun _ h9 => h9) rfl hin rfl (by decide +kernel) rfl rfl dX1_init_20 (fun H locs hM hS => ?_)
  refine lv_aload_n hx hb dX1_init_23 rfl (lv_at hl 0 rfl) ?_
  refine lv_sipush (v := (128 : Int32)) hx hb dX1_init_24 (by decide) ?_
  refine m_newa 0 (by decide) hx hb (atype := .int) (N' := 128) (hts _ q_X1_init_12) rfl rfl hK.1 hM hS (y := .inl (fun _ => 0)) (fun _ => rfl) (fun _ => Iff.rfl) (by decide) (by decide) (Nat.le_of_ble_eq_true rfl) (Nat.le_of_ble_eq_true rfl) (Nat.le_of_ble_eq_true rfl) dX1_init_27 (fun H hM hS => ?_)
  replace h := o_b h; obtain ⟨f27, h27, h⟩ := h
  replace h27 := Option.some.inj h27
  subst h27
  replace h := o_b h; obtain ⟨f29, h29, h⟩ := h
  refine m_putF (ty := (.array .int)) (C := RX1) (T := TX1) (N := 4) (ci := 1) hx hb hts qi_X1_init_X1 tyX1 tyX1_ok nmX1 hown hK.1 hM hS 2 h29 rfl (by decide) (hts _ q_X1_init_13) (fun _ h9 => h9) rfl hin rfl (by decide +kernel) rfl rfl dX1_init_29 (fun H locs hM hS => ?_)
  refine lv_aload_n hx hb dX1_init_32 rfl (lv_at hl 0 rfl) ?_
  refine lv_iconst (v := (0 : Int32)) hx hb dX1_init_33 (by decide) ?_
  replace h := o_b h; obtain ⟨f34, h34, h⟩ := h
  refine m_put (ty := .int) (C := RX1) (T := TX1) (N := 4) (ci := 1) hx hb hts qi_X1_init_X1 tyX1 tyX1_ok nmX1 hown hK.1 hM hS 3 h34 rfl (by decide) (hts _ q_X1_init_14) (fun _ h9 => h9) rfl (by decide +kernel) rfl rfl dX1_init_34 (fun H locs hM hS => ?_)
  refine W.widen (k := 3) (n := 588) (Nat.le_of_ble_eq_true rfl) (Nat.le_of_ble_eq_true rfl) ?_
  replace h := Option.some.inj h; subst h
  exact W.vret hx hb hr (fun t ht hW => ⟨rfl, by rw [ht]; exact hM.moved hW.alike, hS.F ht⟩) hS.2.2 dX1_init_37
set_option maxHeartbeats 4000000 in
set_option maxRecDepth 100000 in
theorem c_X1_init (l : Launch) (D : mmD) (b0 sz : Nat) {v0 : Nat} {f : mmF} {res : mmF × Nat} (h : f_X1_init v0 f sz = some res) : Met l yX1_init wsX1_init ({ frames := 2, cells := 3, slots := 588, locals := 45 } : Room) (va_Pc [.ref v0] (PW D b0 f sz)) (QW D b0 none res.1 res.2) 3 588 (fun q => b0 ≤ q) := by
  refine Met.ofW (cc := cX1_init) (maxL := 1) (ret := none) (by decide) rfl ?_
  intro p e s m args below meth c s₁ B hml hv
  obtain ⟨rfl, hM, hK⟩ := hv
  have hl := lv_entry ([.ref v0]) (n := 1) (Nat.le_of_ble_eq_true rfl)
  rw [lg_entry_eq]
  generalize (lg_sl ([.ref v0]) ++ List.replicate (1 - (lg_sl ([.ref v0])).length) Slot.unset).toArray = ls at hl ⊢
  have hl : lv_has ls 1 [(0, .ref v0)] := hl
  exact w_X1_init ⟨B.exec, B.bytes, B.returns, hml, findClass_of_methodNamed B.named, atoms_spec (ws := wsX1_init) B.pre, B.notSynchronized, hK⟩ (name_of_methodNamed B.named B.method).1 h s.heap [] ls hM va_S.rf hl
end S_X1_init
/-! X1_clear -/
set_option maxRecDepth 20000 in
theorem qi_X1_clear_X1 : ∀ w ∈ u_ws RX1 TX1 4, w ∈ wsX1_clear := by decide +kernel
set_option maxRecDepth 20000 in
theorem q_X1_clear_1 : Cond.fieldLink RX1 7 "StageTruths$Findings" "size" "I" ∈ wsX1_clear := by decide +kernel
set_option maxRecDepth 20000 in
theorem q_X1_clear_2 : Cond.fieldLink RX1 26 "StageTruths$Findings" "next" "I" ∈ wsX1_clear := by decide +kernel
noncomputable def f_X1_clear (v0 : Nat) (f : mmF) : Option (mmF) :=
  (stF f v0 1 0 (.int (0 : Int32))).bind fun f2 =>
  (stF f2 v0 1 3 (.int (0 : Int32))).bind fun f7 =>
  some (f7)
section S_X1_clear
variable {p : Program} {l : Launch} {e : Env} {s : State} {m : MethodId} {args : Array Value} {below : List Frame} {meth : Method} {c : Code} {D : mmD} {b0 sz : Nat} {f : mmF}
set_option maxHeartbeats 4000000 in
set_option maxRecDepth 100000 in
theorem w_X1_clear (C0 : CX cX1_clear 1 none wsX1_clear RX1 p s m args meth c D b0) {v0 : Nat} {res : mmF} (h : f_X1_clear v0 f = some res) : ∀ (H : Heap) (locs : List Loc) (ls : Array Slot), MM vwCl D b0 f sz s H → mS b0 s H locs → lv_has ls 1 [(0, .ref v0)] → W p l e ({ frames := 0, cells := 0, slots := 0, locals := 0 } : Room) s m args below meth c H locs 0 0 (MQ below (QW D b0 none res sz) args s 0 0 (fun q => b0 ≤ q)) (F0 m 0 ls []) := by
  obtain ⟨hx, hb, hr, hml, hown, hts, hlocks, hK⟩ := id C0
  intro H locs ls hM hS hl
  unfold f_X1_clear at h
  refine lv_aload_n hx hb dX1_clear_0 rfl (lv_at hl 0 rfl) ?_
  refine lv_iconst (v := (0 : Int32)) hx hb dX1_clear_1 (by decide) ?_
  replace h := o_b h; obtain ⟨f2, h2, h⟩ := h
  refine m_put (ty := .int) (C := RX1) (T := TX1) (N := 4) (ci := 1) hx hb hts qi_X1_clear_X1 tyX1 tyX1_ok nmX1 hown hK.1 hM hS 0 h2 rfl (by decide) (hts _ q_X1_clear_1) (fun _ h9 => h9) rfl (by decide +kernel) rfl rfl dX1_clear_2 (fun H locs hM hS => ?_)
  refine lv_aload_n hx hb dX1_clear_5 rfl (lv_at hl 0 rfl) ?_
  refine lv_iconst (v := (0 : Int32)) hx hb dX1_clear_6 (by decide) ?_
  replace h := o_b h; obtain ⟨f7, h7, h⟩ := h
  refine m_put (ty := .int) (C := RX1) (T := TX1) (N := 4) (ci := 1) hx hb hts qi_X1_clear_X1 tyX1 tyX1_ok nmX1 hown hK.1 hM hS 3 h7 rfl (by decide) (hts _ q_X1_clear_2) (fun _ h9 => h9) rfl (by decide +kernel) rfl rfl dX1_clear_7 (fun H locs hM hS => ?_)
  replace h := Option.some.inj h; subst h
  exact W.vret hx hb hr (fun t ht hW => ⟨rfl, by rw [ht]; exact hM.moved hW.alike, hS.F ht⟩) hS.2.2 dX1_clear_10
set_option maxHeartbeats 4000000 in
set_option maxRecDepth 100000 in
theorem c_X1_clear (l : Launch) (D : mmD) (b0 sz : Nat) {v0 : Nat} {f : mmF} {res : mmF} (h : f_X1_clear v0 f = some res) : Met l yX1_clear wsX1_clear ({ frames := 0, cells := 0, slots := 0, locals := 0 } : Room) (va_Pc [.ref v0] (PW D b0 f sz)) (QW D b0 none res sz) 0 0 (fun q => b0 ≤ q) := by
  refine Met.ofW (cc := cX1_clear) (maxL := 1) (ret := none) (by decide) rfl ?_
  intro p e s m args below meth c s₁ B hml hv
  obtain ⟨rfl, hM, hK⟩ := hv
  have hl := lv_entry ([.ref v0]) (n := 1) (Nat.le_of_ble_eq_true rfl)
  rw [lg_entry_eq]
  generalize (lg_sl ([.ref v0]) ++ List.replicate (1 - (lg_sl ([.ref v0])).length) Slot.unset).toArray = ls at hl ⊢
  have hl : lv_has ls 1 [(0, .ref v0)] := hl
  exact w_X1_clear ⟨B.exec, B.bytes, B.returns, hml, findClass_of_methodNamed B.named, atoms_spec (ws := wsX1_clear) B.pre, B.notSynchronized, hK⟩ h s.heap [] ls hM va_S.rf hl
end S_X1_clear
/-! X9_at -/
noncomputable def f_X9_at (v0 : Nat) (v1 : Int32) (f : mmF) : Option (Int32) :=
  if v1 < 0 then
  (some ((0 : Int32)))
  else
  (lenA f v0).bind fun x6 =>
  if x6 ≤ v1 then
  (some ((0 : Int32)))
  else
  (ldA 0 f v0 v1).bind fun x12 =>
  some (x12)
section S_X9_at
variable {p : Program} {l : Launch} {e : Env} {s : State} {m : MethodId} {args : Array Value} {below : List Frame} {meth : Method} {c : Code} {D : mmD} {b0 sz : Nat} {f : mmF}
set_option maxHeartbeats 4000000 in
set_option maxRecDepth 100000 in
theorem w_X9_at (C0 : CX cX9_at 2 (some .int) wsX9_at RX9 p s m args meth c D b0) {v0 : Nat} {v1 : Int32} {res : Int32} (h : f_X9_at v0 v1 f = some res) : ∀ (H : Heap) (locs : List Loc) (ls : Array Slot), MM vwCl D b0 f sz s H → mS b0 s H locs → lv_has ls 2 [(0, .ref v0), (1, .int v1)] → W p l e ({ frames := 0, cells := 0, slots := 0, locals := 0 } : Room) s m args below meth c H locs 0 0 (MQ below (QW D b0 (some (.int res)) f sz) args s 0 0 (fun q => b0 ≤ q)) (F0 m 0 ls []) := by
  obtain ⟨hx, hb, hr, hml, hown, hts, hlocks, hK⟩ := id C0
  intro H locs ls hM hS hl
  unfold f_X9_at at h
  refine lv_iload_n hx hb dX9_at_0 rfl (lv_at hl 1 rfl) ?_
  refine lv_if_lt (tgt := 16) hx hb dX9_at_1 (by decide) (fun c1 => ?_) (fun c1 => ?_)
  · replace h := o_t c1 h
    refine lv_iconst (v := (0 : Int32)) hx hb dX9_at_16 (by decide) ?_
    replace h := Option.some.inj h; subst h
    exact W.iret hx hb hr (fun t ht hW => ⟨rfl, by rw [ht]; exact hM.moved hW.alike, hS.F ht⟩) hS.2.2 dX9_at_17
  replace h := o_f c1 h
  refine lv_iload_n hx hb dX9_at_4 rfl (lv_at hl 1 rfl) ?_
  refine lv_aload_n hx hb dX9_at_5 rfl (lv_at hl 0 rfl) ?_
  replace h := o_b h; obtain ⟨x6, h6, h⟩ := h
  refine m_alen hx hb hK.1 hM h6 dX9_at_6 ?_
  refine lv_icmp_ge (tgt := 16) hx hb dX9_at_7 (by decide) (fun c7 => ?_) (fun c7 => ?_)
  · replace h := o_t c7 h
    refine lv_iconst (v := (0 : Int32)) hx hb dX9_at_16 (by decide) ?_
    replace h := Option.some.inj h; subst h
    exact W.iret hx hb hr (fun t ht hW => ⟨rfl, by rw [ht]; exact hM.moved hW.alike, hS.F ht⟩) hS.2.2 dX9_at_17
  replace h := o_f c7 h
  refine lv_aload_n hx hb dX9_at_10 rfl (lv_at hl 0 rfl) ?_
  refine lv_iload_n hx hb dX9_at_11 rfl (lv_at hl 1 rfl) ?_
  replace h := o_b h; obtain ⟨x12, h12, h⟩ := h
  refine m_iald hx hb hK.1 hM hS rfl h12 dX9_at_12 ?_
  refine lv_goto (tgt := 17) hx hb dX9_at_13 (by decide) ?_
  replace h := Option.some.inj h; subst h
  exact W.iret hx hb hr (fun t ht hW => ⟨rfl, by rw [ht]; exact hM.moved hW.alike, hS.F ht⟩) hS.2.2 dX9_at_17
set_option maxHeartbeats 4000000 in
set_option maxRecDepth 100000 in
theorem c_X9_at (l : Launch) (D : mmD) (b0 sz : Nat) {v0 : Nat} {v1 : Int32} {f : mmF} {res : Int32} (h : f_X9_at v0 v1 f = some res) : Met l yX9_at wsX9_at ({ frames := 0, cells := 0, slots := 0, locals := 0 } : Room) (va_Pc [.ref v0, .int v1] (PW D b0 f sz)) (QW D b0 (some (.int res)) f sz) 0 0 (fun q => b0 ≤ q) := by
  refine Met.ofW (cc := cX9_at) (maxL := 2) (ret := (some .int)) (by decide) rfl ?_
  intro p e s m args below meth c s₁ B hml hv
  obtain ⟨rfl, hM, hK⟩ := hv
  have hl := lv_entry ([.ref v0, .int v1]) (n := 2) (Nat.le_of_ble_eq_true rfl)
  rw [lg_entry_eq]
  generalize (lg_sl ([.ref v0, .int v1]) ++ List.replicate (2 - (lg_sl ([.ref v0, .int v1])).length) Slot.unset).toArray = ls at hl ⊢
  have hl : lv_has ls 2 [(0, .ref v0), (1, .int v1)] := hl
  exact w_X9_at ⟨B.exec, B.bytes, B.returns, hml, findClass_of_methodNamed B.named, atoms_spec (ws := wsX9_at) B.pre, B.notSynchronized, hK⟩ h s.heap [] ls hM va_S.rf hl
end S_X9_at
/-! X1_goal -/
set_option maxRecDepth 20000 in
theorem qi_X1_goal_X1 : ∀ w ∈ u_ws RX1 TX1 4, w ∈ wsX1_goal := by decide +kernel
set_option maxRecDepth 20000 in
theorem q_X1_goal_1 : Cond.fieldLink RX1 22 "StageTruths$Findings" "goals" "[I" ∈ wsX1_goal := by decide +kernel
set_option maxRecDepth 20000 in
theorem q_X1_goal_2 : Cond.initialized RX9 ∈ wsX1_goal := by decide +kernel
set_option maxRecDepth 20000 in
theorem q_X1_goal_3 : Cond.static yX9_at ∈ wsX1_goal := by decide +kernel
noncomputable def f_X1_goal (v0 : Nat) (v1 : Int32) (f : mmF) : Option (Int32) :=
  (ldR f v0 1 2).bind fun x1 =>
  (f_X9_at x1 v1 f).bind fun q5 =>
  some (q5)
section S_X1_goal
variable {p : Program} {l : Launch} {e : Env} {s : State} {m : MethodId} {args : Array Value} {below : List Frame} {meth : Method} {c : Code} {D : mmD} {b0 sz : Nat} {f : mmF}
set_option maxHeartbeats 4000000 in
set_option maxRecDepth 100000 in
theorem w_X1_goal (C0 : CX cX1_goal 2 (some .int) wsX1_goal RX1 p s m args meth c D b0) {v0 : Nat} {v1 : Int32} {res : Int32} (h : f_X1_goal v0 v1 f = some res) : ∀ (H : Heap) (locs : List Loc) (ls : Array Slot), MM vwCl D b0 f sz s H → mS b0 s H locs → lv_has ls 2 [(0, .ref v0), (1, .int v1)] → W p l e ({ frames := 1, cells := 0, slots := 0, locals := 21 } : Room) s m args below meth c H locs 0 0 (MQ below (QW D b0 (some (.int res)) f sz) args s 0 0 (fun q => b0 ≤ q)) (F0 m 0 ls []) := by
  obtain ⟨hx, hb, hr, hml, hown, hts, hlocks, hK⟩ := id C0
  intro H locs ls hM hS hl
  unfold f_X1_goal at h
  refine lv_aload_n hx hb dX1_goal_0 rfl (lv_at hl 0 rfl) ?_
  replace h := o_b h; obtain ⟨x1, h1, h⟩ := h
  refine m_get (C := RX1) (T := TX1) (N := 4) (ci := 1) hx hb hts qi_X1_goal_X1 hown hK.1 hM 2 (ldR_F h1) rfl (by decide) (hts _ q_X1_goal_1) (fun _ h9 => h9) dX1_goal_1 ?_
  refine lv_iload_n hx hb dX1_goal_4 rfl (lv_at hl 1 rfl) ?_
  replace h := o_b h; obtain ⟨q5, h5, h⟩ := h
  refine m_call (va_runSN (As := [.ref x1, .int v1]) (rest := []) ⟨hx, hb, hml, hown, hts⟩ (c_X9_at l D b0 sz h5) ⟨(va_cnB 2 hts gX1_goal_X9_at_n29 rfl rfl rfl (hK.2.1 (RX1, 29, yX9_at, "StageTruths") (by decide)) (hts _ q_X1_goal_2) (by decide +kernel) ⟨Nat.le_of_ble_eq_true rfl, Nat.le_of_ble_eq_true rfl⟩), (hts _ q_X1_goal_3), trivial⟩ ⟨PW.blind, (fun U hU hW => ⟨rfl, PW.call hK hM hS hU hW⟩)⟩ rfl rfl hl.1 rfl (lv_room (Nat.le_of_ble_eq_true rfl)) dX1_goal_5 ⟨(Nat.le_refl _), (Nat.le_refl _)⟩) hS (fun H locs hM hS => ?_)
  replace h := Option.some.inj h; subst h
  exact W.iret hx hb hr (fun t ht hW => ⟨rfl, by rw [ht]; exact hM.moved hW.alike, hS.F ht⟩) hS.2.2 dX1_goal_8
set_option maxHeartbeats 4000000 in
set_option maxRecDepth 100000 in
theorem c_X1_goal (l : Launch) (D : mmD) (b0 sz : Nat) {v0 : Nat} {v1 : Int32} {f : mmF} {res : Int32} (h : f_X1_goal v0 v1 f = some res) : Met l yX1_goal wsX1_goal ({ frames := 1, cells := 0, slots := 0, locals := 21 } : Room) (va_Pc [.ref v0, .int v1] (PW D b0 f sz)) (QW D b0 (some (.int res)) f sz) 0 0 (fun q => b0 ≤ q) := by
  refine Met.ofW (cc := cX1_goal) (maxL := 2) (ret := (some .int)) (by decide) rfl ?_
  intro p e s m args below meth c s₁ B hml hv
  obtain ⟨rfl, hM, hK⟩ := hv
  have hl := lv_entry ([.ref v0, .int v1]) (n := 2) (Nat.le_of_ble_eq_true rfl)
  rw [lg_entry_eq]
  generalize (lg_sl ([.ref v0, .int v1]) ++ List.replicate (2 - (lg_sl ([.ref v0, .int v1])).length) Slot.unset).toArray = ls at hl ⊢
  have hl : lv_has ls 2 [(0, .ref v0), (1, .int v1)] := hl
  exact w_X1_goal ⟨B.exec, B.bytes, B.returns, hml, findClass_of_methodNamed B.named, atoms_spec (ws := wsX1_goal) B.pre, B.notSynchronized, hK⟩ h s.heap [] ls hM va_S.rf hl
end S_X1_goal
/-! X3_word -/
set_option maxRecDepth 20000 in
theorem qi_X3_word_X3 : ∀ w ∈ u_ws RX3 TX3 1, w ∈ wsX3_word := by decide +kernel
set_option maxRecDepth 20000 in
theorem q_X3_word_1 : Cond.fieldLink RX3 15 "StageTruths$PartSets" "words" "[J" ∈ wsX3_word := by decide +kernel
noncomputable def f_X3_word_28  (f : mmF)  : Option (Int64) :=
  some ((0 : Int64))
noncomputable def f_X3_word (v0 : Nat) (v1 : Int32) (v2 : Int32) (f : mmF) : Option (Int64) :=
  if (((3 : Int32) * v1) + v2) < 0 then
  (f_X3_word_28 f)
  else
  (ldR f v0 3 0).bind fun x12 =>
  (lenA f x12).bind fun x15 =>
  if x15 ≤ (((3 : Int32) * v1) + v2) then
  (f_X3_word_28 f)
  else
  (ldR f v0 3 0).bind fun x20 =>
  (ldL f x20 (((3 : Int32) * v1) + v2)).bind fun x24 =>
  some (x24)
section S_X3_word
variable {p : Program} {l : Launch} {e : Env} {s : State} {m : MethodId} {args : Array Value} {below : List Frame} {meth : Method} {c : Code} {D : mmD} {b0 sz : Nat} {f : mmF}
set_option maxHeartbeats 4000000 in
set_option maxRecDepth 100000 in
theorem w_X3_word_28 (C0 : CX cX3_word 4 (some .long) wsX3_word RX3 p s m args meth c D b0) {res : Int64} : f_X3_word_28 f = some res → ∀ (H : Heap) (locs : List Loc) (ls : Array Slot), MM vwCl D b0 f sz s H → mS b0 s H locs → lv_has ls 4 [] → W p l e ({ frames := 0, cells := 0, slots := 0, locals := 0 } : Room) s m args below meth c H locs 0 0 (MQ below (QW D b0 (some (.long res)) f sz) args s 0 0 (fun q => b0 ≤ q)) (F0 m 28 ls []) := by
  obtain ⟨hx, hb, hr, hml, hown, hts, hlocks, hK⟩ := id C0
  intro h H locs ls hM hS hl
  unfold f_X3_word_28 at h
  refine lv_lconst (v := (0 : Int64)) hx hb dX3_word_28 (by decide) ?_
  replace h := Option.some.inj h; subst h
  exact W.lret hx hb hr (fun t ht hW => ⟨rfl, by rw [ht]; exact hM.moved hW.alike, hS.F ht⟩) hS.2.2 dX3_word_29
set_option maxHeartbeats 4000000 in
set_option maxRecDepth 100000 in
theorem w_X3_word (C0 : CX cX3_word 4 (some .long) wsX3_word RX3 p s m args meth c D b0) {v0 : Nat} {v1 : Int32} {v2 : Int32} {res : Int64} (h : f_X3_word v0 v1 v2 f = some res) : ∀ (H : Heap) (locs : List Loc) (ls : Array Slot), MM vwCl D b0 f sz s H → mS b0 s H locs → lv_has ls 4 [(0, .ref v0), (1, .int v1), (2, .int v2)] → W p l e ({ frames := 0, cells := 0, slots := 0, locals := 0 } : Room) s m args below meth c H locs 0 0 (MQ below (QW D b0 (some (.long res)) f sz) args s 0 0 (fun q => b0 ≤ q)) (F0 m 0 ls []) := by
  obtain ⟨hx, hb, hr, hml, hown, hts, hlocks, hK⟩ := id C0
  intro H locs ls hM hS hl
  unfold f_X3_word at h
  refine lv_iconst (v := (3 : Int32)) hx hb dX3_word_0 (by decide) ?_
  refine lv_iload_n hx hb dX3_word_1 rfl (lv_at hl 1 rfl) ?_
  refine lv_imul hx hb dX3_word_2 ?_
  refine lv_iload_n hx hb dX3_word_3 rfl (lv_at hl 2 rfl) ?_
  refine lv_iadd hx hb dX3_word_4 ?_
  refine lv_istore_n (lv' := [(3, .int (((3 : Int32) * v1) + v2)), (0, .ref v0), (1, .int v1), (2, .int v2)]) hx hb dX3_word_5 rfl hl (by decide) rfl (fun ls hl => ?_)
  refine lv_iload_n hx hb dX3_word_6 rfl (lv_at hl 0 rfl) ?_
  refine lv_if_lt (tgt := 28) hx hb dX3_word_7 (by decide) (fun c7 => ?_) (fun c7 => ?_)
  · replace h := o_t c7 h
    exact w_X3_word_28 C0  h _ _ _ hM hS (lv_sub hl [] rfl)
  replace h := o_f c7 h
  refine lv_iload_n hx hb dX3_word_10 rfl (lv_at hl 0 rfl) ?_
  refine lv_aload_n hx hb dX3_word_11 rfl (lv_at hl 1 rfl) ?_
  replace h := o_b h; obtain ⟨x12, h12, h⟩ := h
  refine m_get (C := RX3) (T := TX3) (N := 1) (ci := 3) hx hb hts qi_X3_word_X3 hown hK.1 hM 0 (ldR_F h12) rfl (by decide) (hts _ q_X3_word_1) (fun _ h9 => h9) dX3_word_12 ?_
  replace h := o_b h; obtain ⟨x15, h15, h⟩ := h
  refine m_alen hx hb hK.1 hM h15 dX3_word_15 ?_
  refine lv_icmp_ge (tgt := 28) hx hb dX3_word_16 (by decide) (fun c16 => ?_) (fun c16 => ?_)
  · replace h := o_t c16 h
    exact w_X3_word_28 C0  h _ _ _ hM hS (lv_sub hl [] rfl)
  replace h := o_f c16 h
  refine lv_aload_n hx hb dX3_word_19 rfl (lv_at hl 1 rfl) ?_
  replace h := o_b h; obtain ⟨x20, h20, h⟩ := h
  refine m_get (C := RX3) (T := TX3) (N := 1) (ci := 3) hx hb hts qi_X3_word_X3 hown hK.1 hM 0 (ldR_F h20) rfl (by decide) (hts _ q_X3_word_1) (fun _ h9 => h9) dX3_word_20 ?_
  refine lv_iload_n hx hb dX3_word_23 rfl (lv_at hl 0 rfl) ?_
  replace h := o_b h; obtain ⟨x24, h24, h⟩ := h
  refine m_lald hx hb hK.1 hM rfl h24 dX3_word_24 ?_
  refine lv_goto (tgt := 29) hx hb dX3_word_25 (by decide) ?_
  replace h := Option.some.inj h; subst h
  exact W.lret hx hb hr (fun t ht hW => ⟨rfl, by rw [ht]; exact hM.moved hW.alike, hS.F ht⟩) hS.2.2 dX3_word_29
set_option maxHeartbeats 4000000 in
set_option maxRecDepth 100000 in
theorem c_X3_word (l : Launch) (D : mmD) (b0 sz : Nat) {v0 : Nat} {v1 : Int32} {v2 : Int32} {f : mmF} {res : Int64} (h : f_X3_word v0 v1 v2 f = some res) : Met l yX3_word wsX3_word ({ frames := 0, cells := 0, slots := 0, locals := 0 } : Room) (va_Pc [.ref v0, .int v1, .int v2] (PW D b0 f sz)) (QW D b0 (some (.long res)) f sz) 0 0 (fun q => b0 ≤ q) := by
  refine Met.ofW (cc := cX3_word) (maxL := 4) (ret := (some .long)) (by decide) rfl ?_
  intro p e s m args below meth c s₁ B hml hv
  obtain ⟨rfl, hM, hK⟩ := hv
  have hl := lv_entry ([.ref v0, .int v1, .int v2]) (n := 4) (Nat.le_of_ble_eq_true rfl)
  rw [lg_entry_eq]
  generalize (lg_sl ([.ref v0, .int v1, .int v2]) ++ List.replicate (4 - (lg_sl ([.ref v0, .int v1, .int v2])).length) Slot.unset).toArray = ls at hl ⊢
  have hl : lv_has ls 4 [(0, .ref v0), (1, .int v1), (2, .int v2)] := hl
  exact w_X3_word ⟨B.exec, B.bytes, B.returns, hml, findClass_of_methodNamed B.named, atoms_spec (ws := wsX3_word) B.pre, B.notSynchronized, hK⟩ h s.heap [] ls hM va_S.rf hl
end S_X3_word
/-! X3_write -/
set_option maxRecDepth 20000 in
theorem qi_X3_write_X3 : ∀ w ∈ u_ws RX3 TX3 1, w ∈ wsX3_write := by decide +kernel
set_option maxRecDepth 20000 in
theorem q_X3_write_1 : Cond.fieldLink RX3 15 "StageTruths$PartSets" "words" "[J" ∈ wsX3_write := by decide +kernel
noncomputable def f_X3_write (v0 : Nat) (v1 : Int32) (v2 : Int32) (v3 : Int64) (f : mmF) : Option (mmF) :=
  if (((3 : Int32) * v1) + v2) < 0 then
  (some (f))
  else
  (ldR f v0 3 0).bind fun x15 =>
  (lenA f x15).bind fun x18 =>
  if x18 ≤ (((3 : Int32) * v1) + v2) then
  (some (f))
  else
  (ldR f v0 3 0).bind fun x23 =>
  (stL f x23 (((3 : Int32) * v1) + v2) v3).bind fun f29 =>
  some (f29)
section S_X3_write
variable {p : Program} {l : Launch} {e : Env} {s : State} {m : MethodId} {args : Array Value} {below : List Frame} {meth : Method} {c : Code} {D : mmD} {b0 sz : Nat} {f : mmF}
set_option maxHeartbeats 4000000 in
set_option maxRecDepth 100000 in
theorem w_X3_write (C0 : CX cX3_write 6 none wsX3_write RX3 p s m args meth c D b0) {v0 : Nat} {v1 : Int32} {v2 : Int32} {v3 : Int64} {res : mmF} (h : f_X3_write v0 v1 v2 v3 f = some res) : ∀ (H : Heap) (locs : List Loc) (ls : Array Slot), MM vwCl D b0 f sz s H → mS b0 s H locs → lv_has ls 6 [(0, .ref v0), (1, .int v1), (2, .int v2), (3, .long v3)] → W p l e ({ frames := 0, cells := 0, slots := 0, locals := 0 } : Room) s m args below meth c H locs 0 0 (MQ below (QW D b0 none res sz) args s 0 0 (fun q => b0 ≤ q)) (F0 m 0 ls []) := by
  obtain ⟨hx, hb, hr, hml, hown, hts, hlocks, hK⟩ := id C0
  intro H locs ls hM hS hl
  unfold f_X3_write at h
  refine lv_iconst (v := (3 : Int32)) hx hb dX3_write_0 (by decide) ?_
  refine lv_iload_n hx hb dX3_write_1 rfl (lv_at hl 1 rfl) ?_
  refine lv_imul hx hb dX3_write_2 ?_
  refine lv_iload_n hx hb dX3_write_3 rfl (lv_at hl 2 rfl) ?_
  refine lv_iadd hx hb dX3_write_4 ?_
  refine lv_istore (lv' := [(5, .int (((3 : Int32) * v1) + v2)), (0, .ref v0), (1, .int v1), (2, .int v2), (3, .long v3)]) hx hb dX3_write_5 hl (by decide) rfl (fun ls hl => ?_)
  refine lv_iload hx hb dX3_write_7 (lv_at hl 0 rfl) ?_
  refine lv_if_lt (tgt := 30) hx hb dX3_write_9 (by decide) (fun c9 => ?_) (fun c9 => ?_)
  · replace h := o_t c9 h
    replace h := Option.some.inj h; subst h
    exact W.vret hx hb hr (fun t ht hW => ⟨rfl, by rw [ht]; exact hM.moved hW.alike, hS.F ht⟩) hS.2.2 dX3_write_30
  replace h := o_f c9 h
  refine lv_iload hx hb dX3_write_12 (lv_at hl 0 rfl) ?_
  refine lv_aload_n hx hb dX3_write_14 rfl (lv_at hl 1 rfl) ?_
  replace h := o_b h; obtain ⟨x15, h15, h⟩ := h
  refine m_get (C := RX3) (T := TX3) (N := 1) (ci := 3) hx hb hts qi_X3_write_X3 hown hK.1 hM 0 (ldR_F h15) rfl (by decide) (hts _ q_X3_write_1) (fun _ h9 => h9) dX3_write_15 ?_
  replace h := o_b h; obtain ⟨x18, h18, h⟩ := h
  refine m_alen hx hb hK.1 hM h18 dX3_write_18 ?_
  refine lv_icmp_ge (tgt := 30) hx hb dX3_write_19 (by decide) (fun c19 => ?_) (fun c19 => ?_)
  · replace h := o_t c19 h
    replace h := Option.some.inj h; subst h
    exact W.vret hx hb hr (fun t ht hW => ⟨rfl, by rw [ht]; exact hM.moved hW.alike, hS.F ht⟩) hS.2.2 dX3_write_30
  replace h := o_f c19 h
  refine lv_aload_n hx hb dX3_write_22 rfl (lv_at hl 1 rfl) ?_
  replace h := o_b h; obtain ⟨x23, h23, h⟩ := h
  refine m_get (C := RX3) (T := TX3) (N := 1) (ci := 3) hx hb hts qi_X3_write_X3 hown hK.1 hM 0 (ldR_F h23) rfl (by decide) (hts _ q_X3_write_1) (fun _ h9 => h9) dX3_write_23 ?_
  refine lv_iload hx hb dX3_write_26 (lv_at hl 0 rfl) ?_
  refine lv_lload_n hx hb dX3_write_28 rfl (lv_at hl 4 rfl) ?_
  replace h := o_b h; obtain ⟨f29, h29, h⟩ := h
  refine m_last hx hb hK.1 hM hS rfl h29 dX3_write_29 (fun H locs hM hS => ?_)
  replace h := Option.some.inj h; subst h
  exact W.vret hx hb hr (fun t ht hW => ⟨rfl, by rw [ht]; exact hM.moved hW.alike, hS.F ht⟩) hS.2.2 dX3_write_30
set_option maxHeartbeats 4000000 in
set_option maxRecDepth 100000 in
theorem c_X3_write (l : Launch) (D : mmD) (b0 sz : Nat) {v0 : Nat} {v1 : Int32} {v2 : Int32} {v3 : Int64} {f : mmF} {res : mmF} (h : f_X3_write v0 v1 v2 v3 f = some res) : Met l yX3_write wsX3_write ({ frames := 0, cells := 0, slots := 0, locals := 0 } : Room) (va_Pc [.ref v0, .int v1, .int v2, .long v3] (PW D b0 f sz)) (QW D b0 none res sz) 0 0 (fun q => b0 ≤ q) := by
  refine Met.ofW (cc := cX3_write) (maxL := 6) (ret := none) (by decide) rfl ?_
  intro p e s m args below meth c s₁ B hml hv
  obtain ⟨rfl, hM, hK⟩ := hv
  have hl := lv_entry ([.ref v0, .int v1, .int v2, .long v3]) (n := 6) (Nat.le_of_ble_eq_true rfl)
  rw [lg_entry_eq]
  generalize (lg_sl ([.ref v0, .int v1, .int v2, .long v3]) ++ List.replicate (6 - (lg_sl ([.ref v0, .int v1, .int v2, .long v3])).length) Slot.unset).toArray = ls at hl ⊢
  have hl : lv_has ls 6 [(0, .ref v0), (1, .int v1), (2, .int v2), (3, .long v3)] := hl
  exact w_X3_write ⟨B.exec, B.bytes, B.returns, hml, findClass_of_methodNamed B.named, atoms_spec (ws := wsX3_write) B.pre, B.notSynchronized, hK⟩ h s.heap [] ls hM va_S.rf hl
end S_X3_write
/-! X3_copy -/
noncomputable def f_X3_copy_3   : Nat → Nat → Int32 → Nat → Int32 → Int32 → mmF → Option (mmF)
  | 0, _, _, _, _, _, _ => none
  | n + 1, v0, v1, v2, v3, v4, f =>
    if (3 : Int32) ≤ v4 then
    (some (f))
    else
    (ckO f v2 3).bind fun _ =>
    (f_X3_word v2 v3 v4 f).bind fun q17 =>
    (ckO f v0 3).bind fun _ =>
    (f_X3_write v0 v1 v4 q17 f).bind fun q20 =>
    f_X3_copy_3 n v0 v1 v2 v3 (v4 + (1 : Int32)) q20
noncomputable def f_X3_copy (v0 : Nat) (v1 : Int32) (v2 : Nat) (v3 : Int32) (f : mmF) : Option (mmF) :=
  f_X3_copy_3 FU v0 v1 v2 v3 (0 : Int32) f
section S_X3_copy
variable {p : Program} {l : Launch} {e : Env} {s : State} {m : MethodId} {args : Array Value} {below : List Frame} {meth : Method} {c : Code} {D : mmD} {b0 sz : Nat} {f : mmF}
set_option maxHeartbeats 4000000 in
set_option maxRecDepth 100000 in
theorem w_X3_copy_3 (C0 : CX cX3_copy 5 none wsX3_copy RX3 p s m args meth c D b0) {res : mmF} : ∀ (n : Nat), ∀ (v0 : Nat) (v1 : Int32) (v2 : Nat) (v3 : Int32) (v4 : Int32) (f : mmF), f_X3_copy_3 n v0 v1 v2 v3 v4 f = some res → ∀ (H : Heap) (locs : List Loc) (ls : Array Slot), MM vwCl D b0 f sz s H → mS b0 s H locs → lv_has ls 5 [(0, .ref v0), (1, .int v1), (2, .ref v2), (3, .int v3), (4, .int v4)] → W p l e ({ frames := 1, cells := 0, slots := 0, locals := 25 } : Room) s m args below meth c H locs 0 0 (MQ below (QW D b0 none res sz) args s 0 0 (fun q => b0 ≤ q)) (F0 m 3 ls []) := by
  obtain ⟨hx, hb, hr, hml, hown, hts, hlocks, hK⟩ := id C0
  intro n
  induction n with
  | zero =>
    intro v0 v1 v2 v3 v4 f h
    have h : (none : Option (mmF)) = some res := h
    cases h
  | succ n ih =>
    intro v0 v1 v2 v3 v4 f h H locs ls hM hS hl
    rw [f_X3_copy_3] at h
    refine lv_iload hx hb dX3_copy_3 (lv_at hl 4 rfl) ?_
    refine lv_iconst (v := (3 : Int32)) hx hb dX3_copy_5 (by decide) ?_
    refine lv_icmp_ge (tgt := 29) hx hb dX3_copy_6 (by decide) (fun c6 => ?_) (fun c6 => ?_)
    · replace h := o_t c6 h
      replace h := Option.some.inj h; subst h
      exact W.vret hx hb hr (fun t ht hW => ⟨rfl, by rw [ht]; exact hM.moved hW.alike, hS.F ht⟩) hS.2.2 dX3_copy_29
    replace h := o_f c6 h
    refine lv_aload_n hx hb dX3_copy_9 rfl (lv_at hl 0 rfl) ?_
    refine lv_iload_n hx hb dX3_copy_10 rfl (lv_at hl 1 rfl) ?_
    refine lv_iload hx hb dX3_copy_11 (lv_at hl 4 rfl) ?_
    refine lv_aload_n hx hb dX3_copy_13 rfl (lv_at hl 2 rfl) ?_
    refine lv_iload_n hx hb dX3_copy_14 rfl (lv_at hl 3 rfl) ?_
    refine lv_iload hx hb dX3_copy_15 (lv_at hl 4 rfl) ?_
    replace h := o_b h; obtain ⟨_, k17, h⟩ := h
    replace h := o_b h; obtain ⟨q17, h17, h⟩ := h
    refine m_call (va_runV (As := [.int v3, .int v4]) (rest := [.int v4, .int v1, .ref v0]) ⟨hx, hb, hml, hown, hts⟩ (c_X3_word l D b0 sz h17) (cwV 2 hts gX3_copy_X3_word rfl rfl rfl (by decide +kernel) ⟨Nat.le_of_ble_eq_true rfl, Nat.le_of_ble_eq_true rfl⟩) ⟨PW.blind, m_recv (ci := 3) rfl hK hM k17, (fun U hU hW => ⟨rfl, PW.call hK hM hS hU hW⟩)⟩ rfl rfl hl.1 rfl (lv_room (Nat.le_of_ble_eq_true rfl)) dX3_copy_17 ⟨(Nat.le_refl _), (Nat.le_refl _)⟩) hS (fun H locs hM hS => ?_)
    replace h := o_b h; obtain ⟨_, k20, h⟩ := h
    replace h := o_b h; obtain ⟨q20, h20, h⟩ := h
    refine m_call (va_runV (As := [.int v1, .int v4, .long q17]) (rest := []) ⟨hx, hb, hml, hown, hts⟩ (c_X3_write l D b0 sz h20) (cwV 3 hts gX3_copy_X3_write rfl rfl rfl (by decide +kernel) ⟨Nat.le_of_ble_eq_true rfl, Nat.le_of_ble_eq_true rfl⟩) ⟨PW.blind, m_recv (ci := 3) rfl hK hM k20, (fun U hU hW => ⟨rfl, PW.call hK hM hS hU hW⟩)⟩ rfl rfl hl.1 rfl (lv_room (Nat.le_of_ble_eq_true rfl)) dX3_copy_20 ⟨(Nat.le_refl _), (Nat.le_refl _)⟩) hS (fun H locs hM hS => ?_)
    refine lv_iinc (v := (v4 + (1 : Int32))) (lv' := [(4, .int (v4 + (1 : Int32))), (0, .ref v0), (1, .int v1), (2, .ref v2), (3, .int v3)]) hx hb dX3_copy_23 hl (k := 4) rfl rfl (by decide) rfl (fun ls hl => ?_)
    refine lv_goto (tgt := 3) hx hb dX3_copy_26 (by decide) ?_
    exact ih _ _ _ _ _ _ h _ _ _ hM hS (lv_sub hl [1, 2, 3, 4, 0] rfl)
set_option maxHeartbeats 4000000 in
set_option maxRecDepth 100000 in
theorem w_X3_copy (C0 : CX cX3_copy 5 none wsX3_copy RX3 p s m args meth c D b0) {v0 : Nat} {v1 : Int32} {v2 : Nat} {v3 : Int32} {res : mmF} (h : f_X3_copy v0 v1 v2 v3 f = some res) : ∀ (H : Heap) (locs : List Loc) (ls : Array Slot), MM vwCl D b0 f sz s H → mS b0 s H locs → lv_has ls 5 [(0, .ref v0), (1, .int v1), (2, .ref v2), (3, .int v3)] → W p l e ({ frames := 1, cells := 0, slots := 0, locals := 25 } : Room) s m args below meth c H locs 0 0 (MQ below (QW D b0 none res sz) args s 0 0 (fun q => b0 ≤ q)) (F0 m 0 ls []) := by
  obtain ⟨hx, hb, hr, hml, hown, hts, hlocks, hK⟩ := id C0
  intro H locs ls hM hS hl
  unfold f_X3_copy at h
  refine lv_iconst (v := (0 : Int32)) hx hb dX3_copy_0 (by decide) ?_
  refine lv_istore (lv' := [(4, .int (0 : Int32)), (0, .ref v0), (1, .int v1), (2, .ref v2), (3, .int v3)]) hx hb dX3_copy_1 hl (by decide) rfl (fun ls hl => ?_)
  exact w_X3_copy_3 C0 FU _ _ _ _ _ _ h _ _ _ hM hS (lv_sub hl [1, 2, 3, 4, 0] rfl)
set_option maxHeartbeats 4000000 in
set_option maxRecDepth 100000 in
theorem c_X3_copy (l : Launch) (D : mmD) (b0 sz : Nat) {v0 : Nat} {v1 : Int32} {v2 : Nat} {v3 : Int32} {f : mmF} {res : mmF} (h : f_X3_copy v0 v1 v2 v3 f = some res) : Met l yX3_copy wsX3_copy ({ frames := 1, cells := 0, slots := 0, locals := 25 } : Room) (va_Pc [.ref v0, .int v1, .ref v2, .int v3] (PW D b0 f sz)) (QW D b0 none res sz) 0 0 (fun q => b0 ≤ q) := by
  refine Met.ofW (cc := cX3_copy) (maxL := 5) (ret := none) (by decide) rfl ?_
  intro p e s m args below meth c s₁ B hml hv
  obtain ⟨rfl, hM, hK⟩ := hv
  have hl := lv_entry ([.ref v0, .int v1, .ref v2, .int v3]) (n := 5) (Nat.le_of_ble_eq_true rfl)
  rw [lg_entry_eq]
  generalize (lg_sl ([.ref v0, .int v1, .ref v2, .int v3]) ++ List.replicate (5 - (lg_sl ([.ref v0, .int v1, .ref v2, .int v3])).length) Slot.unset).toArray = ls at hl ⊢
  have hl : lv_has ls 5 [(0, .ref v0), (1, .int v1), (2, .ref v2), (3, .int v3)] := hl
  exact w_X3_copy ⟨B.exec, B.bytes, B.returns, hml, findClass_of_methodNamed B.named, atoms_spec (ws := wsX3_copy) B.pre, B.notSynchronized, hK⟩ h s.heap [] ls hM va_S.rf hl
end S_X3_copy
/-! X1_add -/
set_option maxRecDepth 20000 in
theorem qi_X1_add_X1 : ∀ w ∈ u_ws RX1 TX1 4, w ∈ wsX1_add := by decide +kernel
set_option maxRecDepth 20000 in
theorem q_X1_add_1 : Cond.fieldLink RX1 18 "StageTruths$Findings" "sets" "LStageTruths$PartSets;" ∈ wsX1_add := by decide +kernel
set_option maxRecDepth 20000 in
theorem q_X1_add_2 : Cond.fieldLink RX1 26 "StageTruths$Findings" "next" "I" ∈ wsX1_add := by decide +kernel
set_option maxRecDepth 20000 in
theorem q_X1_add_3 : Cond.fieldLink RX1 22 "StageTruths$Findings" "goals" "[I" ∈ wsX1_add := by decide +kernel
set_option maxRecDepth 20000 in
theorem q_X1_add_4 : Cond.fieldLink RX1 7 "StageTruths$Findings" "size" "I" ∈ wsX1_add := by decide +kernel
set_option maxRecDepth 20000 in
theorem q_X1_add_5 : Cond.methodLink RX1 39 Lib.Math.max.name ∈ wsX1_add := by decide +kernel
set_option maxRecDepth 20000 in
theorem q_X1_add_6 : Cond.static Lib.Math.max.name ∈ wsX1_add := by decide +kernel
set_option maxRecDepth 20000 in
theorem q_X1_add_7 : Cond.initialized "java/lang/Math" ∈ wsX1_add := by decide +kernel
set_option maxRecDepth 20000 in
theorem q_X1_add_8 : Cond.code Lib.Math.max.name Lib.Math.max.code 2 (some .int) ∈ wsX1_add := by decide +kernel
noncomputable def f_X1_add_22   (v0 : Nat) (v1 : Nat) (v2 : Int32) (v3 : Int32) (f : mmF) : Option (mmF) :=
  (ldR f v0 1 1).bind fun x23 =>
  (ldI f v0 1 3).bind fun x27 =>
  (ckO f x23 3).bind fun _ =>
  (f_X3_copy x23 x27 v1 v2 f).bind fun q32 =>
  (ldR q32 v0 1 2).bind fun x36 =>
  (ldI q32 v0 1 3).bind fun x40 =>
  (stA 0 q32 x36 x40 v3).bind fun f44 =>
  (ldI f44 v0 1 3).bind fun x47 =>
  (stF f44 v0 1 3 (.int (x47 + (1 : Int32)))).bind fun f52 =>
  (ldI f52 v0 1 0).bind fun x57 =>
  (ldI f52 v0 1 3).bind fun x61 =>
  (stF f52 v0 1 0 (.int (if x57 < x61 then x61 else x57))).bind fun f67 =>
  some (f67)
noncomputable def f_X1_add_17   (v0 : Nat) (v1 : Nat) (v2 : Int32) (v3 : Int32) (f : mmF) : Option (mmF) :=
  (stF f v0 1 3 (.int (0 : Int32))).bind fun f19 =>
  f_X1_add_22 v0 v1 v2 v3 f19
noncomputable def f_X1_add (v0 : Nat) (v1 : Nat) (v2 : Int32) (v3 : Int32) (f : mmF) : Option (mmF) :=
  (ldI f v0 1 3).bind fun x1 =>
  if x1 < 0 then
  (f_X1_add_17 v0 v1 v2 v3 f)
  else
  (ldI f v0 1 3).bind fun x8 =>
  if x8 < (128 : Int32) then
  (f_X1_add_22 v0 v1 v2 v3 f)
  else
  f_X1_add_17 v0 v1 v2 v3 f
section S_X1_add
variable {p : Program} {l : Launch} {e : Env} {s : State} {m : MethodId} {args : Array Value} {below : List Frame} {meth : Method} {c : Code} {D : mmD} {b0 sz : Nat} {f : mmF}
set_option maxHeartbeats 4000000 in
set_option maxRecDepth 100000 in
theorem w_X1_add_22 (C0 : CX cX1_add 4 none wsX1_add RX1 p s m args meth c D b0) {res : mmF} : ∀ (v0 : Nat) (v1 : Nat) (v2 : Int32) (v3 : Int32) (f : mmF), f_X1_add_22 v0 v1 v2 v3 f = some res → ∀ (H : Heap) (locs : List Loc) (ls : Array Slot), MM vwCl D b0 f sz s H → mS b0 s H locs → lv_has ls 4 [(0, .ref v0), (1, .ref v1), (2, .int v2), (3, .int v3)] → W p l e ({ frames := 2, cells := 0, slots := 0, locals := 49 } : Room) s m args below meth c H locs 0 0 (MQ below (QW D b0 none res sz) args s 0 0 (fun q => b0 ≤ q)) (F0 m 22 ls []) := by
  obtain ⟨hx, hb, hr, hml, hown, hts, hlocks, hK⟩ := id C0
  intro v0 v1 v2 v3 f h H locs ls hM hS hl
  unfold f_X1_add_22 at h
  refine lv_aload_n hx hb dX1_add_22 rfl (lv_at hl 0 rfl) ?_
  replace h := o_b h; obtain ⟨x23, h23, h⟩ := h
  refine m_get (C := RX1) (T := TX1) (N := 4) (ci := 1) hx hb hts qi_X1_add_X1 hown hK.1 hM 1 (ldR_F h23) rfl (by decide) (hts _ q_X1_add_1) (fun _ h9 => h9) dX1_add_23 ?_
  refine lv_aload_n hx hb dX1_add_26 rfl (lv_at hl 0 rfl) ?_
  replace h := o_b h; obtain ⟨x27, h27, h⟩ := h
  refine m_get (C := RX1) (T := TX1) (N := 4) (ci := 1) hx hb hts qi_X1_add_X1 hown hK.1 hM 3 (ldI_F h27) rfl (by decide) (hts _ q_X1_add_2) (fun _ h9 => h9) dX1_add_27 ?_
  refine lv_aload_n hx hb dX1_add_30 rfl (lv_at hl 1 rfl) ?_
  refine lv_iload_n hx hb dX1_add_31 rfl (lv_at hl 2 rfl) ?_
  replace h := o_b h; obtain ⟨_, k32, h⟩ := h
  replace h := o_b h; obtain ⟨q32, h32, h⟩ := h
  refine m_call (va_runV (As := [.int x27, .ref v1, .int v2]) (rest := []) ⟨hx, hb, hml, hown, hts⟩ (c_X3_copy l D b0 sz h32) (cwV 3 hts gX1_add_X3_copy rfl rfl rfl (by decide +kernel) ⟨Nat.le_of_ble_eq_true rfl, Nat.le_of_ble_eq_true rfl⟩) ⟨PW.blind, m_recv (ci := 3) rfl hK hM k32, (fun U hU hW => ⟨rfl, PW.call hK hM hS hU hW⟩)⟩ rfl rfl hl.1 rfl (lv_room (Nat.le_of_ble_eq_true rfl)) dX1_add_32 ⟨(Nat.le_refl _), (Nat.le_refl _)⟩) hS (fun H locs hM hS => ?_)
  refine lv_aload_n hx hb dX1_add_35 rfl (lv_at hl 0 rfl) ?_
  replace h := o_b h; obtain ⟨x36, h36, h⟩ := h
  refine m_get (C := RX1) (T := TX1) (N := 4) (ci := 1) hx hb hts qi_X1_add_X1 hown hK.1 hM 2 (ldR_F h36) rfl (by decide) (hts _ q_X1_add_3) (fun _ h9 => h9) dX1_add_36 ?_
  refine lv_aload_n hx hb dX1_add_39 rfl (lv_at hl 0 rfl) ?_
  replace h := o_b h; obtain ⟨x40, h40, h⟩ := h
  refine m_get (C := RX1) (T := TX1) (N := 4) (ci := 1) hx hb hts qi_X1_add_X1 hown hK.1 hM 3 (ldI_F h40) rfl (by decide) (hts _ q_X1_add_2) (fun _ h9 => h9) dX1_add_40 ?_
  refine lv_iload_n hx hb dX1_add_43 rfl (lv_at hl 3 rfl) ?_
  replace h := o_b h; obtain ⟨f44, h44, h⟩ := h
  refine m_iast hx hb hK.1 hM hS rfl h44 dX1_add_44 (fun H locs hM hS => ?_)
  refine lv_aload_n hx hb dX1_add_45 rfl (lv_at hl 0 rfl) ?_
  refine lv_dup hx hb dX1_add_46 rfl ?_
  replace h := o_b h; obtain ⟨x47, h47, h⟩ := h
  refine m_get (C := RX1) (T := TX1) (N := 4) (ci := 1) hx hb hts qi_X1_add_X1 hown hK.1 hM 3 (ldI_F h47) rfl (by decide) (hts _ q_X1_add_2) (fun _ h9 => h9) dX1_add_47 ?_
  refine lv_iconst (v := (1 : Int32)) hx hb dX1_add_50 (by decide) ?_
  refine lv_iadd hx hb dX1_add_51 ?_
  replace h := o_b h; obtain ⟨f52, h52, h⟩ := h
  refine m_put (ty := .int) (C := RX1) (T := TX1) (N := 4) (ci := 1) hx hb hts qi_X1_add_X1 tyX1 tyX1_ok nmX1 hown hK.1 hM hS 3 h52 rfl (by decide) (hts _ q_X1_add_2) (fun _ h9 => h9) rfl (by decide +kernel) rfl rfl dX1_add_52 (fun H locs hM hS => ?_)
  refine lv_aload_n hx hb dX1_add_55 rfl (lv_at hl 0 rfl) ?_
  refine lv_aload_n hx hb dX1_add_56 rfl (lv_at hl 0 rfl) ?_
  replace h := o_b h; obtain ⟨x57, h57, h⟩ := h
  refine m_get (C := RX1) (T := TX1) (N := 4) (ci := 1) hx hb hts qi_X1_add_X1 hown hK.1 hM 0 (ldI_F h57) rfl (by decide) (hts _ q_X1_add_4) (fun _ h9 => h9) dX1_add_57 ?_
  refine lv_aload_n hx hb dX1_add_60 rfl (lv_at hl 0 rfl) ?_
  replace h := o_b h; obtain ⟨x61, h61, h⟩ := h
  refine m_get (C := RX1) (T := TX1) (N := 4) (ci := 1) hx hb hts qi_X1_add_X1 hown hK.1 hM 3 (ldI_F h61) rfl (by decide) (hts _ q_X1_add_2) (fun _ h9 => h9) dX1_add_61 ?_
  refine va_mmax hx hb (hml.trans hl.1.symm) hown (hts _ q_X1_add_5) (hts _ q_X1_add_6) (hts _ q_X1_add_7) (hts _ q_X1_add_8) (Nat.le_of_ble_eq_true rfl) (Nat.le_of_ble_eq_true rfl) (Nat.zero_le _) (Nat.zero_le _) dX1_add_64 ?_
  replace h := o_b h; obtain ⟨f67, h67, h⟩ := h
  refine m_put (ty := .int) (C := RX1) (T := TX1) (N := 4) (ci := 1) hx hb hts qi_X1_add_X1 tyX1 tyX1_ok nmX1 hown hK.1 hM hS 0 h67 rfl (by decide) (hts _ q_X1_add_4) (fun _ h9 => h9) rfl (by decide +kernel) rfl rfl dX1_add_67 (fun H locs hM hS => ?_)
  replace h := Option.some.inj h; subst h
  exact W.vret hx hb hr (fun t ht hW => ⟨rfl, by rw [ht]; exact hM.moved hW.alike, hS.F ht⟩) hS.2.2 dX1_add_70
set_option maxHeartbeats 4000000 in
set_option maxRecDepth 100000 in
theorem w_X1_add_17 (C0 : CX cX1_add 4 none wsX1_add RX1 p s m args meth c D b0) {res : mmF} : ∀ (v0 : Nat) (v1 : Nat) (v2 : Int32) (v3 : Int32) (f : mmF), f_X1_add_17 v0 v1 v2 v3 f = some res → ∀ (H : Heap) (locs : List Loc) (ls : Array Slot), MM vwCl D b0 f sz s H → mS b0 s H locs → lv_has ls 4 [(0, .ref v0), (1, .ref v1), (2, .int v2), (3, .int v3)] → W p l e ({ frames := 2, cells := 0, slots := 0, locals := 49 } : Room) s m args below meth c H locs 0 0 (MQ below (QW D b0 none res sz) args s 0 0 (fun q => b0 ≤ q)) (F0 m 17 ls []) := by
  obtain ⟨hx, hb, hr, hml, hown, hts, hlocks, hK⟩ := id C0
  intro v0 v1 v2 v3 f h H locs ls hM hS hl
  unfold f_X1_add_17 at h
  refine lv_aload_n hx hb dX1_add_17 rfl (lv_at hl 0 rfl) ?_
  refine lv_iconst (v := (0 : Int32)) hx hb dX1_add_18 (by decide) ?_
  replace h := o_b h; obtain ⟨f19, h19, h⟩ := h
  refine m_put (ty := .int) (C := RX1) (T := TX1) (N := 4) (ci := 1) hx hb hts qi_X1_add_X1 tyX1 tyX1_ok nmX1 hown hK.1 hM hS 3 h19 rfl (by decide) (hts _ q_X1_add_2) (fun _ h9 => h9) rfl (by decide +kernel) rfl rfl dX1_add_19 (fun H locs hM hS => ?_)
  exact w_X1_add_22 C0 _ _ _ _ _ h _ _ _ hM hS (lv_sub hl [0, 1, 2, 3] rfl)
set_option maxHeartbeats 4000000 in
set_option maxRecDepth 100000 in
theorem w_X1_add (C0 : CX cX1_add 4 none wsX1_add RX1 p s m args meth c D b0) {v0 : Nat} {v1 : Nat} {v2 : Int32} {v3 : Int32} {res : mmF} (h : f_X1_add v0 v1 v2 v3 f = some res) : ∀ (H : Heap) (locs : List Loc) (ls : Array Slot), MM vwCl D b0 f sz s H → mS b0 s H locs → lv_has ls 4 [(0, .ref v0), (1, .ref v1), (2, .int v2), (3, .int v3)] → W p l e ({ frames := 2, cells := 0, slots := 0, locals := 49 } : Room) s m args below meth c H locs 0 0 (MQ below (QW D b0 none res sz) args s 0 0 (fun q => b0 ≤ q)) (F0 m 0 ls []) := by
  obtain ⟨hx, hb, hr, hml, hown, hts, hlocks, hK⟩ := id C0
  intro H locs ls hM hS hl
  unfold f_X1_add at h
  refine lv_aload_n hx hb dX1_add_0 rfl (lv_at hl 0 rfl) ?_
  replace h := o_b h; obtain ⟨x1, h1, h⟩ := h
  refine m_get (C := RX1) (T := TX1) (N := 4) (ci := 1) hx hb hts qi_X1_add_X1 hown hK.1 hM 3 (ldI_F h1) rfl (by decide) (hts _ q_X1_add_2) (fun _ h9 => h9) dX1_add_1 ?_
  refine lv_if_lt (tgt := 17) hx hb dX1_add_4 (by decide) (fun c4 => ?_) (fun c4 => ?_)
  · replace h := o_t c4 h
    exact w_X1_add_17 C0 _ _ _ _ _ h _ _ _ hM hS (lv_sub hl [0, 1, 2, 3] rfl)
  replace h := o_f c4 h
  refine lv_aload_n hx hb dX1_add_7 rfl (lv_at hl 0 rfl) ?_
  replace h := o_b h; obtain ⟨x8, h8, h⟩ := h
  refine m_get (C := RX1) (T := TX1) (N := 4) (ci := 1) hx hb hts qi_X1_add_X1 hown hK.1 hM 3 (ldI_F h8) rfl (by decide) (hts _ q_X1_add_2) (fun _ h9 => h9) dX1_add_8 ?_
  refine lv_sipush (v := (128 : Int32)) hx hb dX1_add_11 (by decide) ?_
  refine lv_icmp_lt (tgt := 22) hx hb dX1_add_14 (by decide) (fun c14 => ?_) (fun c14 => ?_)
  · replace h := o_t c14 h
    exact w_X1_add_22 C0 _ _ _ _ _ h _ _ _ hM hS (lv_sub hl [0, 1, 2, 3] rfl)
  replace h := o_f c14 h
  exact w_X1_add_17 C0 _ _ _ _ _ h _ _ _ hM hS (lv_sub hl [0, 1, 2, 3] rfl)
set_option maxHeartbeats 4000000 in
set_option maxRecDepth 100000 in
theorem c_X1_add (l : Launch) (D : mmD) (b0 sz : Nat) {v0 : Nat} {v1 : Nat} {v2 : Int32} {v3 : Int32} {f : mmF} {res : mmF} (h : f_X1_add v0 v1 v2 v3 f = some res) : Met l yX1_add wsX1_add ({ frames := 2, cells := 0, slots := 0, locals := 49 } : Room) (va_Pc [.ref v0, .ref v1, .int v2, .int v3] (PW D b0 f sz)) (QW D b0 none res sz) 0 0 (fun q => b0 ≤ q) := by
  refine Met.ofW (cc := cX1_add) (maxL := 4) (ret := none) (by decide) rfl ?_
  intro p e s m args below meth c s₁ B hml hv
  obtain ⟨rfl, hM, hK⟩ := hv
  have hl := lv_entry ([.ref v0, .ref v1, .int v2, .int v3]) (n := 4) (Nat.le_of_ble_eq_true rfl)
  rw [lg_entry_eq]
  generalize (lg_sl ([.ref v0, .ref v1, .int v2, .int v3]) ++ List.replicate (4 - (lg_sl ([.ref v0, .ref v1, .int v2, .int v3])).length) Slot.unset).toArray = ls at hl ⊢
  have hl : lv_has ls 4 [(0, .ref v0), (1, .ref v1), (2, .int v2), (3, .int v3)] := hl
  exact w_X1_add ⟨B.exec, B.bytes, B.returns, hml, findClass_of_methodNamed B.named, atoms_spec (ws := wsX1_add) B.pre, B.notSynchronized, hK⟩ h s.heap [] ls hM va_S.rf hl
end S_X1_add
/-! X2_init -/
set_option maxRecDepth 20000 in
theorem q_X2_init_0 : Cond.methodLink RX2 3 objectInit ∈ wsX2_init := by decide +kernel
set_option maxRecDepth 20000 in
theorem q_X2_init_1 : Cond.instanceMethod objectInit ∈ wsX2_init := by decide +kernel
set_option maxRecDepth 20000 in
theorem q_X2_init_2 : Cond.code objectInit ⟨#[0xb1]⟩ 1 none ∈ wsX2_init := by decide +kernel
set_option maxRecDepth 20000 in
theorem qi_X2_init_X2 : ∀ w ∈ u_ws RX2 TX2 5, w ∈ wsX2_init := by decide +kernel
set_option maxRecDepth 20000 in
theorem q_X2_init_4 : Cond.fieldLink RX2 9 "StageTruths$Known" "size" "I" ∈ wsX2_init := by decide +kernel
set_option maxRecDepth 20000 in
theorem qi_X2_init_X3 : ∀ w ∈ u_ws RX3 TX3 1, w ∈ wsX2_init := by decide +kernel
set_option maxRecDepth 20000 in
theorem q_X2_init_6 : Cond.classLink RX2 15 RX3 ∈ wsX2_init := by decide +kernel
set_option maxRecDepth 20000 in
theorem q_X2_init_7 : Cond.instantiable RX3 1 ∈ wsX2_init := by decide +kernel
set_option maxRecDepth 20000 in
theorem q_X2_init_8 : Cond.initialized RX3 ∈ wsX2_init := by decide +kernel
set_option maxRecDepth 20000 in
theorem q_X2_init_9 : Cond.methodLink RX2 17 yX3_init ∈ wsX2_init := by decide +kernel
set_option maxRecDepth 20000 in
theorem q_X2_init_10 : Cond.instanceMethod yX3_init ∈ wsX2_init := by decide +kernel
set_option maxRecDepth 20000 in
theorem q_X2_init_11 : Cond.fieldLink RX2 20 "StageTruths$Known" "set" "LStageTruths$PartSets;" ∈ wsX2_init := by decide +kernel
set_option maxRecDepth 20000 in
theorem q_X2_init_12 : Cond.arrayClass .int ∈ wsX2_init := by decide +kernel
set_option maxRecDepth 20000 in
theorem q_X2_init_13 : Cond.fieldLink RX2 26 "StageTruths$Known" "order" "[I" ∈ wsX2_init := by decide +kernel
set_option maxRecDepth 20000 in
theorem q_X2_init_14 : Cond.fieldLink RX2 30 "StageTruths$Known" "reasons" "LStageTruths$PartSets;" ∈ wsX2_init := by decide +kernel
set_option maxRecDepth 20000 in
theorem q_X2_init_15 : Cond.fieldLink RX2 33 "StageTruths$Known" "parts" "LStageTruths$Parts;" ∈ wsX2_init := by decide +kernel
noncomputable def f_X2_init (v0 : Nat) (v1 : Nat) (f : mmF) (sz : Nat) : Option (mmF × Nat) :=
  (stF f v0 2 0 (.int (0 : Int32))).bind fun f6 =>
  (some (va_up f6 sz (some (.inr (3, [.null]))))).bind fun f10 =>
  (f_X3_init sz (1 : Int32) f10 (sz + 1)).bind fun q15 =>
  (stF q15.1 v0 2 1 (.ref sz)).bind fun f18 =>
  (some (va_up f18 q15.2 (some (.inl (0, 151, .inl (fun _ => 0)))))).bind fun f25 =>
  (stF f25 v0 2 3 (.ref q15.2)).bind fun f27 =>
  (some (va_up f27 (q15.2 + 1) (some (.inr (3, [.null]))))).bind fun f31 =>
  (f_X3_init (q15.2 + 1) (151 : Int32) f31 ((q15.2 + 1) + 1)).bind fun q38 =>
  (stF q38.1 v0 2 4 (.ref (q15.2 + 1))).bind fun f41 =>
  (stF f41 v0 2 2 (.ref v1)).bind fun f46 =>
  some (f46, q38.2)
section S_X2_init
variable {p : Program} {l : Launch} {e : Env} {s : State} {m : MethodId} {args : Array Value} {below : List Frame} {meth : Method} {c : Code} {D : mmD} {b0 sz : Nat} {f : mmF}
set_option maxHeartbeats 4000000 in
set_option maxRecDepth 100000 in
theorem w_X2_init (C0 : CX cX2_init 2 none wsX2_init RX2 p s m args meth c D b0) (hin : meth.name = "<init>") {v0 : Nat} {v1 : Nat} {res : mmF × Nat} (h : f_X2_init v0 v1 f sz = some res) : ∀ (H : Heap) (locs : List Loc) (ls : Array Slot), MM vwCl D b0 f sz s H → mS b0 s H locs → lv_has ls 2 [(0, .ref v0), (1, .ref v1)] → W p l e ({ frames := 2, cells := 5, slots := 1071, locals := 45 } : Room) s m args below meth c H locs 0 0 (MQ below (QW D b0 none res.1 res.2) args s 5 1071 (fun q => b0 ≤ q)) (F0 m 0 ls []) := by
  obtain ⟨hx, hb, hr, hml, hown, hts, hlocks, hK⟩ := id C0
  intro H locs ls hM hS hl
  unfold f_X2_init at h
  refine lv_aload_n hx hb dX2_init_0 rfl (lv_at hl 0 rfl) ?_
  refine W.objInit hx hb hown (hts _ q_X2_init_0) (hts _ q_X2_init_1) (hts _ q_X2_init_2) rfl (by rw [hml]; exact hl.1) rfl dX2_init_1 (Nat.le_of_ble_eq_true rfl) (Nat.le_of_ble_eq_true rfl) ?_
  refine lv_aload_n hx hb dX2_init_4 rfl (lv_at hl 0 rfl) ?_
  refine lv_iconst (v := (0 : Int32)) hx hb dX2_init_5 (by decide) ?_
  replace h := o_b h; obtain ⟨f6, h6, h⟩ := h
  refine m_put (ty := .int) (C := RX2) (T := TX2) (N := 5) (ci := 2) hx hb hts qi_X2_init_X2 tyX2 tyX2_ok nmX2 hown hK.1 hM hS 0 h6 rfl (by decide) (hts _ q_X2_init_4) (fun _ h9 => h9) rfl (by decide +kernel) rfl rfl dX2_init_6 (fun H locs hM hS => ?_)
  refine lv_aload_n hx hb dX2_init_9 rfl (lv_at hl 0 rfl) ?_
  refine m_new (ci := 3) (fs := [.null]) (C := RX3) (T := TX3) (N := 1) hx hb hts qi_X2_init_X3 tyX3 tyX3_ok hown (hts _ q_X2_init_6) (hts _ q_X2_init_7) (hts _ q_X2_init_8) hK.1 hM hS rfl (fun j hj => by match j, hj with | 0, _ => rfl | j + 1, hj => exact absurd hj (by omega)) (Nat.le_of_ble_eq_true rfl) (Nat.le_of_ble_eq_true rfl) dX2_init_10 (fun H hM hS => ?_)
  replace h := o_b h; obtain ⟨f10, h10, h⟩ := h
  replace h10 := Option.some.inj h10
  subst h10
  refine lv_dup hx hb dX2_init_13 rfl ?_
  refine lv_iconst (v := (1 : Int32)) hx hb dX2_init_14 (by decide) ?_
  replace h := o_b h; obtain ⟨q15, h15, h⟩ := h
  refine m_call (va_runI (As := [.int (1 : Int32)]) (rest := [.ref sz, .ref v0]) ⟨hx, hb, hml, hown, hts⟩ (c_X3_init l D b0 (sz + 1) h15) (cwI 1 hts gX2_init_X3_init rfl rfl rfl (hts _ q_X2_init_8) (hts _ q_X2_init_9) (hts _ q_X2_init_10) rfl (by decide +kernel) ⟨Nat.le_of_ble_eq_true rfl, Nat.le_of_ble_eq_true rfl⟩) ⟨PW.blind, (fun U hU hW => ⟨rfl, PW.call hK hM hS hU hW⟩)⟩ rfl rfl hl.1 rfl (lv_room (Nat.le_of_ble_eq_true rfl)) dX2_init_15 ⟨(Nat.le_of_ble_eq_true rfl), (Nat.le_of_ble_eq_true rfl)⟩) hS (fun H locs hM hS => ?_)
  replace h := o_b h; obtain ⟨f18, h18, h⟩ := h
  refine m_putF (ty := (.object "StageTruths$PartSets")) (C := RX2) (T := TX2) (N := 5) (ci := 2) hx hb hts qi_X2_init_X2 tyX2 tyX2_ok nmX2 hown hK.1 hM hS 1 h18 rfl (by decide) (hts _ q_X2_init_11) (fun _ h9 => h9) rfl hin rfl (by decide +kernel) rfl rfl dX2_init_18 (fun H locs hM hS => ?_)
  refine lv_aload_n hx hb dX2_init_21 rfl (lv_at hl 0 rfl) ?_
  refine lv_sipush (v := (151 : Int32)) hx hb dX2_init_22 (by decide) ?_
  refine m_newa 0 (by decide) hx hb (atype := .int) (N' := 151) (hts _ q_X2_init_12) rfl rfl hK.1 hM hS (y := .inl (fun _ => 0)) (fun _ => rfl) (fun _ => Iff.rfl) (by decide) (by decide) (Nat.le_of_ble_eq_true rfl) (Nat.le_of_ble_eq_true rfl) (Nat.le_of_ble_eq_true rfl) dX2_init_25 (fun H hM hS => ?_)
  replace h := o_b h; obtain ⟨f25, h25, h⟩ := h
  replace h25 := Option.some.inj h25
  subst h25
  replace h := o_b h; obtain ⟨f27, h27, h⟩ := h
  refine m_putF (ty := (.array .int)) (C := RX2) (T := TX2) (N := 5) (ci := 2) hx hb hts qi_X2_init_X2 tyX2 tyX2_ok nmX2 hown hK.1 hM hS 3 h27 rfl (by decide) (hts _ q_X2_init_13) (fun _ h9 => h9) rfl hin rfl (by decide +kernel) rfl rfl dX2_init_27 (fun H locs hM hS => ?_)
  refine lv_aload_n hx hb dX2_init_30 rfl (lv_at hl 0 rfl) ?_
  refine m_new (ci := 3) (fs := [.null]) (C := RX3) (T := TX3) (N := 1) hx hb hts qi_X2_init_X3 tyX3 tyX3_ok hown (hts _ q_X2_init_6) (hts _ q_X2_init_7) (hts _ q_X2_init_8) hK.1 hM hS rfl (fun j hj => by match j, hj with | 0, _ => rfl | j + 1, hj => exact absurd hj (by omega)) (Nat.le_of_ble_eq_true rfl) (Nat.le_of_ble_eq_true rfl) dX2_init_31 (fun H hM hS => ?_)
  replace h := o_b h; obtain ⟨f31, h31, h⟩ := h
  replace h31 := Option.some.inj h31
  subst h31
  refine lv_dup hx hb dX2_init_34 rfl ?_
  refine lv_sipush (v := (151 : Int32)) hx hb dX2_init_35 (by decide) ?_
  replace h := o_b h; obtain ⟨q38, h38, h⟩ := h
  refine m_call (va_runI (As := [.int (151 : Int32)]) (rest := [.ref (q15.2 + 1), .ref v0]) ⟨hx, hb, hml, hown, hts⟩ (c_X3_init l D b0 ((q15.2 + 1) + 1) h38) (cwI 1 hts gX2_init_X3_init rfl rfl rfl (hts _ q_X2_init_8) (hts _ q_X2_init_9) (hts _ q_X2_init_10) rfl (by decide +kernel) ⟨Nat.le_of_ble_eq_true rfl, Nat.le_of_ble_eq_true rfl⟩) ⟨PW.blind, (fun U hU hW => ⟨rfl, PW.call hK hM hS hU hW⟩)⟩ rfl rfl hl.1 rfl (lv_room (Nat.le_of_ble_eq_true rfl)) dX2_init_38 ⟨(Nat.le_of_ble_eq_true rfl), (Nat.le_of_ble_eq_true rfl)⟩) hS (fun H locs hM hS => ?_)
  replace h := o_b h; obtain ⟨f41, h41, h⟩ := h
  refine m_putF (ty := (.object "StageTruths$PartSets")) (C := RX2) (T := TX2) (N := 5) (ci := 2) hx hb hts qi_X2_init_X2 tyX2 tyX2_ok nmX2 hown hK.1 hM hS 4 h41 rfl (by decide) (hts _ q_X2_init_14) (fun _ h9 => h9) rfl hin rfl (by decide +kernel) rfl rfl dX2_init_41 (fun H locs hM hS => ?_)
  refine lv_aload_n hx hb dX2_init_44 rfl (lv_at hl 0 rfl) ?_
  refine lv_aload_n hx hb dX2_init_45 rfl (lv_at hl 1 rfl) ?_
  replace h := o_b h; obtain ⟨f46, h46, h⟩ := h
  refine m_putF (ty := (.object "StageTruths$Parts")) (C := RX2) (T := TX2) (N := 5) (ci := 2) hx hb hts qi_X2_init_X2 tyX2 tyX2_ok nmX2 hown hK.1 hM hS 2 h46 rfl (by decide) (hts _ q_X2_init_15) (fun _ h9 => h9) rfl hin rfl (by decide +kernel) rfl rfl dX2_init_46 (fun H locs hM hS => ?_)
  refine W.widen (k := 5) (n := 1071) (Nat.le_of_ble_eq_true rfl) (Nat.le_of_ble_eq_true rfl) ?_
  replace h := Option.some.inj h; subst h
  exact W.vret hx hb hr (fun t ht hW => ⟨rfl, by rw [ht]; exact hM.moved hW.alike, hS.F ht⟩) hS.2.2 dX2_init_49
set_option maxHeartbeats 4000000 in
set_option maxRecDepth 100000 in
theorem c_X2_init (l : Launch) (D : mmD) (b0 sz : Nat) {v0 : Nat} {v1 : Nat} {f : mmF} {res : mmF × Nat} (h : f_X2_init v0 v1 f sz = some res) : Met l yX2_init wsX2_init ({ frames := 2, cells := 5, slots := 1071, locals := 45 } : Room) (va_Pc [.ref v0, .ref v1] (PW D b0 f sz)) (QW D b0 none res.1 res.2) 5 1071 (fun q => b0 ≤ q) := by
  refine Met.ofW (cc := cX2_init) (maxL := 2) (ret := none) (by decide) rfl ?_
  intro p e s m args below meth c s₁ B hml hv
  obtain ⟨rfl, hM, hK⟩ := hv
  have hl := lv_entry ([.ref v0, .ref v1]) (n := 2) (Nat.le_of_ble_eq_true rfl)
  rw [lg_entry_eq]
  generalize (lg_sl ([.ref v0, .ref v1]) ++ List.replicate (2 - (lg_sl ([.ref v0, .ref v1])).length) Slot.unset).toArray = ls at hl ⊢
  have hl : lv_has ls 2 [(0, .ref v0), (1, .ref v1)] := hl
  exact w_X2_init ⟨B.exec, B.bytes, B.returns, hml, findClass_of_methodNamed B.named, atoms_spec (ws := wsX2_init) B.pre, B.notSynchronized, hK⟩ (name_of_methodNamed B.named B.method).1 h s.heap [] ls hM va_S.rf hl
end S_X2_init
/-! X3_has -/
set_option maxRecDepth 20000 in
theorem qi_X3_has_X3 : ∀ w ∈ u_ws RX3 TX3 1, w ∈ wsX3_has := by decide +kernel
set_option maxRecDepth 20000 in
theorem q_X3_has_1 : Cond.fieldLink RX3 15 "StageTruths$PartSets" "words" "[J" ∈ wsX3_has := by decide +kernel
noncomputable def f_X3_has (v0 : Nat) (v1 : Int32) (v2 : Int32) (f : mmF) : Option (Int32) :=
  if (((3 : Int32) * v1) + (v2 >>> ((6 : Int32) &&& 31))) < 0 then
  (some ((0 : Int32)))
  else
  (ldR f v0 3 0).bind fun x15 =>
  (lenA f x15).bind fun x18 =>
  if x18 ≤ (((3 : Int32) * v1) + (v2 >>> ((6 : Int32) &&& 31))) then
  (some ((0 : Int32)))
  else
  (ldR f v0 3 0).bind fun x23 =>
  (ldL f x23 (((3 : Int32) * v1) + (v2 >>> ((6 : Int32) &&& 31)))).bind fun x27 =>
  if (lg_cmp ((mm_lushr x27 (v2 &&& (63 : Int32))) &&& (1 : Int64)) (0 : Int64)) = 0 then
  (some ((0 : Int32)))
  else
  some ((1 : Int32))
section S_X3_has
variable {p : Program} {l : Launch} {e : Env} {s : State} {m : MethodId} {args : Array Value} {below : List Frame} {meth : Method} {c : Code} {D : mmD} {b0 sz : Nat} {f : mmF}
set_option maxHeartbeats 4000000 in
set_option maxRecDepth 100000 in
theorem w_X3_has (C0 : CX cX3_has 4 (some .boolean) wsX3_has RX3 p s m args meth c D b0) {v0 : Nat} {v1 : Int32} {v2 : Int32} {res : Int32} (h : f_X3_has v0 v1 v2 f = some res) : ∀ (H : Heap) (locs : List Loc) (ls : Array Slot), MM vwCl D b0 f sz s H → mS b0 s H locs → lv_has ls 4 [(0, .ref v0), (1, .int v1), (2, .int v2)] → W p l e ({ frames := 0, cells := 0, slots := 0, locals := 0 } : Room) s m args below meth c H locs 0 0 (MQ below (QW D b0 (some (.int res)) f sz) args s 0 0 (fun q => b0 ≤ q)) (F0 m 0 ls []) := by
  obtain ⟨hx, hb, hr, hml, hown, hts, hlocks, hK⟩ := id C0
  intro H locs ls hM hS hl
  unfold f_X3_has at h
  refine lv_iconst (v := (3 : Int32)) hx hb dX3_has_0 (by decide) ?_
  refine lv_iload_n hx hb dX3_has_1 rfl (lv_at hl 1 rfl) ?_
  refine lv_imul hx hb dX3_has_2 ?_
  refine lv_iload_n hx hb dX3_has_3 rfl (lv_at hl 2 rfl) ?_
  refine lv_bipush (v := (6 : Int32)) hx hb dX3_has_4 (by decide) ?_
  refine lv_ishr hx hb dX3_has_6 ?_
  refine lv_iadd hx hb dX3_has_7 ?_
  refine lv_istore_n (lv' := [(3, .int (((3 : Int32) * v1) + (v2 >>> ((6 : Int32) &&& 31)))), (0, .ref v0), (1, .int v1), (2, .int v2)]) hx hb dX3_has_8 rfl hl (by decide) rfl (fun ls hl => ?_)
  refine lv_iload_n hx hb dX3_has_9 rfl (lv_at hl 0 rfl) ?_
  refine lv_if_lt (tgt := 44) hx hb dX3_has_10 (by decide) (fun c10 => ?_) (fun c10 => ?_)
  · replace h := o_t c10 h
    refine lv_iconst (v := (0 : Int32)) hx hb dX3_has_44 (by decide) ?_
    replace h := Option.some.inj h; subst h
    exact W.zret hx hb hr rfl (fun t ht hW => ⟨rfl, by rw [ht]; exact hM.moved hW.alike, hS.F ht⟩) hS.2.2 dX3_has_45
  replace h := o_f c10 h
  refine lv_iload_n hx hb dX3_has_13 rfl (lv_at hl 0 rfl) ?_
  refine lv_aload_n hx hb dX3_has_14 rfl (lv_at hl 1 rfl) ?_
  replace h := o_b h; obtain ⟨x15, h15, h⟩ := h
  refine m_get (C := RX3) (T := TX3) (N := 1) (ci := 3) hx hb hts qi_X3_has_X3 hown hK.1 hM 0 (ldR_F h15) rfl (by decide) (hts _ q_X3_has_1) (fun _ h9 => h9) dX3_has_15 ?_
  replace h := o_b h; obtain ⟨x18, h18, h⟩ := h
  refine m_alen hx hb hK.1 hM h18 dX3_has_18 ?_
  refine lv_icmp_ge (tgt := 44) hx hb dX3_has_19 (by decide) (fun c19 => ?_) (fun c19 => ?_)
  · replace h := o_t c19 h
    refine lv_iconst (v := (0 : Int32)) hx hb dX3_has_44 (by decide) ?_
    replace h := Option.some.inj h; subst h
    exact W.zret hx hb hr rfl (fun t ht hW => ⟨rfl, by rw [ht]; exact hM.moved hW.alike, hS.F ht⟩) hS.2.2 dX3_has_45
  replace h := o_f c19 h
  refine lv_aload_n hx hb dX3_has_22 rfl (lv_at hl 1 rfl) ?_
  replace h := o_b h; obtain ⟨x23, h23, h⟩ := h
  refine m_get (C := RX3) (T := TX3) (N := 1) (ci := 3) hx hb hts qi_X3_has_X3 hown hK.1 hM 0 (ldR_F h23) rfl (by decide) (hts _ q_X3_has_1) (fun _ h9 => h9) dX3_has_23 ?_
  refine lv_iload_n hx hb dX3_has_26 rfl (lv_at hl 0 rfl) ?_
  replace h := o_b h; obtain ⟨x27, h27, h⟩ := h
  refine m_lald hx hb hK.1 hM rfl h27 dX3_has_27 ?_
  refine lv_iload_n hx hb dX3_has_28 rfl (lv_at hl 3 rfl) ?_
  refine lv_bipush (v := (63 : Int32)) hx hb dX3_has_29 (by decide) ?_
  refine lv_iand hx hb dX3_has_31 ?_
  refine lv_lushr (v := (mm_lushr x27 (v2 &&& (63 : Int32)))) hx hb dX3_has_32 rfl ?_
  refine lv_lconst (v := (1 : Int64)) hx hb dX3_has_33 (by decide) ?_
  refine lv_land hx hb dX3_has_34 ?_
  refine lv_lconst (v := (0 : Int64)) hx hb dX3_has_35 (by decide) ?_
  refine W.lcmp hx hb dX3_has_36 ?_
  refine lv_if_eq (tgt := 44) hx hb dX3_has_37 (by decide) (fun c37 => ?_) (fun c37 => ?_)
  · replace h := o_t c37 h
    refine lv_iconst (v := (0 : Int32)) hx hb dX3_has_44 (by decide) ?_
    replace h := Option.some.inj h; subst h
    exact W.zret hx hb hr rfl (fun t ht hW => ⟨rfl, by rw [ht]; exact hM.moved hW.alike, hS.F ht⟩) hS.2.2 dX3_has_45
  replace h := o_f c37 h
  refine lv_iconst (v := (1 : Int32)) hx hb dX3_has_40 (by decide) ?_
  refine lv_goto (tgt := 45) hx hb dX3_has_41 (by decide) ?_
  replace h := Option.some.inj h; subst h
  exact W.zret hx hb hr rfl (fun t ht hW => ⟨rfl, by rw [ht]; exact hM.moved hW.alike, hS.F ht⟩) hS.2.2 dX3_has_45
set_option maxHeartbeats 4000000 in
set_option maxRecDepth 100000 in
theorem c_X3_has (l : Launch) (D : mmD) (b0 sz : Nat) {v0 : Nat} {v1 : Int32} {v2 : Int32} {f : mmF} {res : Int32} (h : f_X3_has v0 v1 v2 f = some res) : Met l yX3_has wsX3_has ({ frames := 0, cells := 0, slots := 0, locals := 0 } : Room) (va_Pc [.ref v0, .int v1, .int v2] (PW D b0 f sz)) (QW D b0 (some (.int res)) f sz) 0 0 (fun q => b0 ≤ q) := by
  refine Met.ofW (cc := cX3_has) (maxL := 4) (ret := (some .boolean)) (by decide) rfl ?_
  intro p e s m args below meth c s₁ B hml hv
  obtain ⟨rfl, hM, hK⟩ := hv
  have hl := lv_entry ([.ref v0, .int v1, .int v2]) (n := 4) (Nat.le_of_ble_eq_true rfl)
  rw [lg_entry_eq]
  generalize (lg_sl ([.ref v0, .int v1, .int v2]) ++ List.replicate (4 - (lg_sl ([.ref v0, .int v1, .int v2])).length) Slot.unset).toArray = ls at hl ⊢
  have hl : lv_has ls 4 [(0, .ref v0), (1, .int v1), (2, .int v2)] := hl
  exact w_X3_has ⟨B.exec, B.bytes, B.returns, hml, findClass_of_methodNamed B.named, atoms_spec (ws := wsX3_has) B.pre, B.notSynchronized, hK⟩ h s.heap [] ls hM va_S.rf hl
end S_X3_has
/-! X2_has -/
set_option maxRecDepth 20000 in
theorem qi_X2_has_X2 : ∀ w ∈ u_ws RX2 TX2 5, w ∈ wsX2_has := by decide +kernel
set_option maxRecDepth 20000 in
theorem q_X2_has_1 : Cond.fieldLink RX2 20 "StageTruths$Known" "set" "LStageTruths$PartSets;" ∈ wsX2_has := by decide +kernel
noncomputable def f_X2_has (v0 : Nat) (v1 : Int32) (f : mmF) : Option (Int32) :=
  (ldR f v0 2 1).bind fun x1 =>
  (ckO f x1 3).bind fun _ =>
  (f_X3_has x1 (0 : Int32) v1 f).bind fun q6 =>
  (rz q6).bind fun z9 =>
  some (z9)
section S_X2_has
variable {p : Program} {l : Launch} {e : Env} {s : State} {m : MethodId} {args : Array Value} {below : List Frame} {meth : Method} {c : Code} {D : mmD} {b0 sz : Nat} {f : mmF}
set_option maxHeartbeats 4000000 in
set_option maxRecDepth 100000 in
theorem w_X2_has (C0 : CX cX2_has 2 (some .boolean) wsX2_has RX2 p s m args meth c D b0) {v0 : Nat} {v1 : Int32} {res : Int32} (h : f_X2_has v0 v1 f = some res) : ∀ (H : Heap) (locs : List Loc) (ls : Array Slot), MM vwCl D b0 f sz s H → mS b0 s H locs → lv_has ls 2 [(0, .ref v0), (1, .int v1)] → W p l e ({ frames := 1, cells := 0, slots := 0, locals := 23 } : Room) s m args below meth c H locs 0 0 (MQ below (QW D b0 (some (.int res)) f sz) args s 0 0 (fun q => b0 ≤ q)) (F0 m 0 ls []) := by
  obtain ⟨hx, hb, hr, hml, hown, hts, hlocks, hK⟩ := id C0
  intro H locs ls hM hS hl
  unfold f_X2_has at h
  refine lv_aload_n hx hb dX2_has_0 rfl (lv_at hl 0 rfl) ?_
  replace h := o_b h; obtain ⟨x1, h1, h⟩ := h
  refine m_get (C := RX2) (T := TX2) (N := 5) (ci := 2) hx hb hts qi_X2_has_X2 hown hK.1 hM 1 (ldR_F h1) rfl (by decide) (hts _ q_X2_has_1) (fun _ h9 => h9) dX2_has_1 ?_
  refine lv_iconst (v := (0 : Int32)) hx hb dX2_has_4 (by decide) ?_
  refine lv_iload_n hx hb dX2_has_5 rfl (lv_at hl 1 rfl) ?_
  replace h := o_b h; obtain ⟨_, k6, h⟩ := h
  replace h := o_b h; obtain ⟨q6, h6, h⟩ := h
  refine m_call (va_runV (As := [.int (0 : Int32), .int v1]) (rest := []) ⟨hx, hb, hml, hown, hts⟩ (c_X3_has l D b0 sz h6) (cwV 2 hts gX2_has_X3_has rfl rfl rfl (by decide +kernel) ⟨Nat.le_of_ble_eq_true rfl, Nat.le_of_ble_eq_true rfl⟩) ⟨PW.blind, m_recv (ci := 3) rfl hK hM k6, (fun U hU hW => ⟨rfl, PW.call hK hM hS hU hW⟩)⟩ rfl rfl hl.1 rfl (lv_room (Nat.le_of_ble_eq_true rfl)) dX2_has_6 ⟨(Nat.le_refl _), (Nat.le_refl _)⟩) hS (fun H locs hM hS => ?_)
  replace h := o_b h; obtain ⟨z9, hz9, h⟩ := h
  obtain ⟨ez9, nz9⟩ := rz_at hz9
  subst ez9
  replace h := Option.some.inj h; subst h
  exact W.zret hx hb hr nz9 (fun t ht hW => ⟨rfl, by rw [ht]; exact hM.moved hW.alike, hS.F ht⟩) hS.2.2 dX2_has_9
set_option maxHeartbeats 4000000 in
set_option maxRecDepth 100000 in
theorem c_X2_has (l : Launch) (D : mmD) (b0 sz : Nat) {v0 : Nat} {v1 : Int32} {f : mmF} {res : Int32} (h : f_X2_has v0 v1 f = some res) : Met l yX2_has wsX2_has ({ frames := 1, cells := 0, slots := 0, locals := 23 } : Room) (va_Pc [.ref v0, .int v1] (PW D b0 f sz)) (QW D b0 (some (.int res)) f sz) 0 0 (fun q => b0 ≤ q) := by
  refine Met.ofW (cc := cX2_has) (maxL := 2) (ret := (some .boolean)) (by decide) rfl ?_
  intro p e s m args below meth c s₁ B hml hv
  obtain ⟨rfl, hM, hK⟩ := hv
  have hl := lv_entry ([.ref v0, .int v1]) (n := 2) (Nat.le_of_ble_eq_true rfl)
  rw [lg_entry_eq]
  generalize (lg_sl ([.ref v0, .int v1]) ++ List.replicate (2 - (lg_sl ([.ref v0, .int v1])).length) Slot.unset).toArray = ls at hl ⊢
  have hl : lv_has ls 2 [(0, .ref v0), (1, .int v1)] := hl
  exact w_X2_has ⟨B.exec, B.bytes, B.returns, hml, findClass_of_methodNamed B.named, atoms_spec (ws := wsX2_has) B.pre, B.notSynchronized, hK⟩ h s.heap [] ls hM va_S.rf hl
end S_X2_has
/-! X2_part -/
set_option maxRecDepth 20000 in
theorem qi_X2_part_X2 : ∀ w ∈ u_ws RX2 TX2 5, w ∈ wsX2_part := by decide +kernel
set_option maxRecDepth 20000 in
theorem q_X2_part_1 : Cond.fieldLink RX2 26 "StageTruths$Known" "order" "[I" ∈ wsX2_part := by decide +kernel
set_option maxRecDepth 20000 in
theorem q_X2_part_2 : Cond.initialized RX9 ∈ wsX2_part := by decide +kernel
set_option maxRecDepth 20000 in
theorem q_X2_part_3 : Cond.static yX9_at ∈ wsX2_part := by decide +kernel
noncomputable def f_X2_part (v0 : Nat) (v1 : Int32) (f : mmF) : Option (Int32) :=
  (ldR f v0 2 3).bind fun x1 =>
  (f_X9_at x1 v1 f).bind fun q5 =>
  some (q5)
section S_X2_part
variable {p : Program} {l : Launch} {e : Env} {s : State} {m : MethodId} {args : Array Value} {below : List Frame} {meth : Method} {c : Code} {D : mmD} {b0 sz : Nat} {f : mmF}
set_option maxHeartbeats 4000000 in
set_option maxRecDepth 100000 in
theorem w_X2_part (C0 : CX cX2_part 2 (some .int) wsX2_part RX2 p s m args meth c D b0) {v0 : Nat} {v1 : Int32} {res : Int32} (h : f_X2_part v0 v1 f = some res) : ∀ (H : Heap) (locs : List Loc) (ls : Array Slot), MM vwCl D b0 f sz s H → mS b0 s H locs → lv_has ls 2 [(0, .ref v0), (1, .int v1)] → W p l e ({ frames := 1, cells := 0, slots := 0, locals := 21 } : Room) s m args below meth c H locs 0 0 (MQ below (QW D b0 (some (.int res)) f sz) args s 0 0 (fun q => b0 ≤ q)) (F0 m 0 ls []) := by
  obtain ⟨hx, hb, hr, hml, hown, hts, hlocks, hK⟩ := id C0
  intro H locs ls hM hS hl
  unfold f_X2_part at h
  refine lv_aload_n hx hb dX2_part_0 rfl (lv_at hl 0 rfl) ?_
  replace h := o_b h; obtain ⟨x1, h1, h⟩ := h
  refine m_get (C := RX2) (T := TX2) (N := 5) (ci := 2) hx hb hts qi_X2_part_X2 hown hK.1 hM 3 (ldR_F h1) rfl (by decide) (hts _ q_X2_part_1) (fun _ h9 => h9) dX2_part_1 ?_
  refine lv_iload_n hx hb dX2_part_4 rfl (lv_at hl 1 rfl) ?_
  replace h := o_b h; obtain ⟨q5, h5, h⟩ := h
  refine m_call (va_runSN (As := [.ref x1, .int v1]) (rest := []) ⟨hx, hb, hml, hown, hts⟩ (c_X9_at l D b0 sz h5) ⟨(va_cnB 2 hts gX2_part_X9_at_n41 rfl rfl rfl (hK.2.1 (RX2, 41, yX9_at, "StageTruths") (by decide)) (hts _ q_X2_part_2) (by decide +kernel) ⟨Nat.le_of_ble_eq_true rfl, Nat.le_of_ble_eq_true rfl⟩), (hts _ q_X2_part_3), trivial⟩ ⟨PW.blind, (fun U hU hW => ⟨rfl, PW.call hK hM hS hU hW⟩)⟩ rfl rfl hl.1 rfl (lv_room (Nat.le_of_ble_eq_true rfl)) dX2_part_5 ⟨(Nat.le_refl _), (Nat.le_refl _)⟩) hS (fun H locs hM hS => ?_)
  replace h := Option.some.inj h; subst h
  exact W.iret hx hb hr (fun t ht hW => ⟨rfl, by rw [ht]; exact hM.moved hW.alike, hS.F ht⟩) hS.2.2 dX2_part_8
set_option maxHeartbeats 4000000 in
set_option maxRecDepth 100000 in
theorem c_X2_part (l : Launch) (D : mmD) (b0 sz : Nat) {v0 : Nat} {v1 : Int32} {f : mmF} {res : Int32} (h : f_X2_part v0 v1 f = some res) : Met l yX2_part wsX2_part ({ frames := 1, cells := 0, slots := 0, locals := 21 } : Room) (va_Pc [.ref v0, .int v1] (PW D b0 f sz)) (QW D b0 (some (.int res)) f sz) 0 0 (fun q => b0 ≤ q) := by
  refine Met.ofW (cc := cX2_part) (maxL := 2) (ret := (some .int)) (by decide) rfl ?_
  intro p e s m args below meth c s₁ B hml hv
  obtain ⟨rfl, hM, hK⟩ := hv
  have hl := lv_entry ([.ref v0, .int v1]) (n := 2) (Nat.le_of_ble_eq_true rfl)
  rw [lg_entry_eq]
  generalize (lg_sl ([.ref v0, .int v1]) ++ List.replicate (2 - (lg_sl ([.ref v0, .int v1])).length) Slot.unset).toArray = ls at hl ⊢
  have hl : lv_has ls 2 [(0, .ref v0), (1, .int v1)] := hl
  exact w_X2_part ⟨B.exec, B.bytes, B.returns, hml, findClass_of_methodNamed B.named, atoms_spec (ws := wsX2_part) B.pre, B.notSynchronized, hK⟩ h s.heap [] ls hM va_S.rf hl
end S_X2_part
/-! X3_remove -/
set_option maxRecDepth 20000 in
theorem qi_X3_remove_X3 : ∀ w ∈ u_ws RX3 TX3 1, w ∈ wsX3_remove := by decide +kernel
set_option maxRecDepth 20000 in
theorem q_X3_remove_1 : Cond.fieldLink RX3 15 "StageTruths$PartSets" "words" "[J" ∈ wsX3_remove := by decide +kernel
set_option maxRecDepth 20000 in
theorem q_X3_remove_2 : Cond.constantLong RX3 19 (-1) ∈ wsX3_remove := by decide +kernel
noncomputable def f_X3_remove (v0 : Nat) (v1 : Int32) (v2 : Int32) (f : mmF) : Option (mmF) :=
  if (((3 : Int32) * v1) + (v2 >>> ((6 : Int32) &&& 31))) < 0 then
  (some (f))
  else
  (ldR f v0 3 0).bind fun x15 =>
  (lenA f x15).bind fun x18 =>
  if x18 ≤ (((3 : Int32) * v1) + (v2 >>> ((6 : Int32) &&& 31))) then
  (some (f))
  else
  (ldR f v0 3 0).bind fun x23 =>
  (ldL f x23 (((3 : Int32) * v1) + (v2 >>> ((6 : Int32) &&& 31)))).bind fun x28 =>
  (stL f x23 (((3 : Int32) * v1) + (v2 >>> ((6 : Int32) &&& 31))) (x28 &&& (((1 : Int64) <<< ((v2 &&& (63 : Int32)).toInt64 &&& 63)) ^^^ (-1 : Int64)))).bind fun f40 =>
  some (f40)
section S_X3_remove
variable {p : Program} {l : Launch} {e : Env} {s : State} {m : MethodId} {args : Array Value} {below : List Frame} {meth : Method} {c : Code} {D : mmD} {b0 sz : Nat} {f : mmF}
set_option maxHeartbeats 4000000 in
set_option maxRecDepth 100000 in
theorem w_X3_remove (C0 : CX cX3_remove 4 none wsX3_remove RX3 p s m args meth c D b0) {v0 : Nat} {v1 : Int32} {v2 : Int32} {res : mmF} (h : f_X3_remove v0 v1 v2 f = some res) : ∀ (H : Heap) (locs : List Loc) (ls : Array Slot), MM vwCl D b0 f sz s H → mS b0 s H locs → lv_has ls 4 [(0, .ref v0), (1, .int v1), (2, .int v2)] → W p l e ({ frames := 0, cells := 0, slots := 0, locals := 0 } : Room) s m args below meth c H locs 0 0 (MQ below (QW D b0 none res sz) args s 0 0 (fun q => b0 ≤ q)) (F0 m 0 ls []) := by
  obtain ⟨hx, hb, hr, hml, hown, hts, hlocks, hK⟩ := id C0
  intro H locs ls hM hS hl
  unfold f_X3_remove at h
  refine lv_iconst (v := (3 : Int32)) hx hb dX3_remove_0 (by decide) ?_
  refine lv_iload_n hx hb dX3_remove_1 rfl (lv_at hl 1 rfl) ?_
  refine lv_imul hx hb dX3_remove_2 ?_
  refine lv_iload_n hx hb dX3_remove_3 rfl (lv_at hl 2 rfl) ?_
  refine lv_bipush (v := (6 : Int32)) hx hb dX3_remove_4 (by decide) ?_
  refine lv_ishr hx hb dX3_remove_6 ?_
  refine lv_iadd hx hb dX3_remove_7 ?_
  refine lv_istore_n (lv' := [(3, .int (((3 : Int32) * v1) + (v2 >>> ((6 : Int32) &&& 31)))), (0, .ref v0), (1, .int v1), (2, .int v2)]) hx hb dX3_remove_8 rfl hl (by decide) rfl (fun ls hl => ?_)
  refine lv_iload_n hx hb dX3_remove_9 rfl (lv_at hl 0 rfl) ?_
  refine lv_if_lt (tgt := 41) hx hb dX3_remove_10 (by decide) (fun c10 => ?_) (fun c10 => ?_)
  · replace h := o_t c10 h
    replace h := Option.some.inj h; subst h
    exact W.vret hx hb hr (fun t ht hW => ⟨rfl, by rw [ht]; exact hM.moved hW.alike, hS.F ht⟩) hS.2.2 dX3_remove_41
  replace h := o_f c10 h
  refine lv_iload_n hx hb dX3_remove_13 rfl (lv_at hl 0 rfl) ?_
  refine lv_aload_n hx hb dX3_remove_14 rfl (lv_at hl 1 rfl) ?_
  replace h := o_b h; obtain ⟨x15, h15, h⟩ := h
  refine m_get (C := RX3) (T := TX3) (N := 1) (ci := 3) hx hb hts qi_X3_remove_X3 hown hK.1 hM 0 (ldR_F h15) rfl (by decide) (hts _ q_X3_remove_1) (fun _ h9 => h9) dX3_remove_15 ?_
  replace h := o_b h; obtain ⟨x18, h18, h⟩ := h
  refine m_alen hx hb hK.1 hM h18 dX3_remove_18 ?_
  refine lv_icmp_ge (tgt := 41) hx hb dX3_remove_19 (by decide) (fun c19 => ?_) (fun c19 => ?_)
  · replace h := o_t c19 h
    replace h := Option.some.inj h; subst h
    exact W.vret hx hb hr (fun t ht hW => ⟨rfl, by rw [ht]; exact hM.moved hW.alike, hS.F ht⟩) hS.2.2 dX3_remove_41
  replace h := o_f c19 h
  refine lv_aload_n hx hb dX3_remove_22 rfl (lv_at hl 1 rfl) ?_
  replace h := o_b h; obtain ⟨x23, h23, h⟩ := h
  refine m_get (C := RX3) (T := TX3) (N := 1) (ci := 3) hx hb hts qi_X3_remove_X3 hown hK.1 hM 0 (ldR_F h23) rfl (by decide) (hts _ q_X3_remove_1) (fun _ h9 => h9) dX3_remove_23 ?_
  refine lv_iload_n hx hb dX3_remove_26 rfl (lv_at hl 0 rfl) ?_
  refine lv_dup2_11 hx hb dX3_remove_27 rfl rfl ?_
  replace h := o_b h; obtain ⟨x28, h28, h⟩ := h
  refine m_lald hx hb hK.1 hM rfl h28 dX3_remove_28 ?_
  refine lv_lconst (v := (1 : Int64)) hx hb dX3_remove_29 (by decide) ?_
  refine lv_iload_n hx hb dX3_remove_30 rfl (lv_at hl 3 rfl) ?_
  refine lv_bipush (v := (63 : Int32)) hx hb dX3_remove_31 (by decide) ?_
  refine lv_iand hx hb dX3_remove_33 ?_
  refine lv_lshl (v := ((1 : Int64) <<< ((v2 &&& (63 : Int32)).toInt64 &&& 63))) hx hb dX3_remove_34 rfl ?_
  refine lv_ldc2 (v := (-1 : Int64)) hx hb hown (hts _ q_X3_remove_2) dX3_remove_35 ?_
  refine lv_lxor hx hb dX3_remove_38 ?_
  refine lv_land hx hb dX3_remove_39 ?_
  replace h := o_b h; obtain ⟨f40, h40, h⟩ := h
  refine m_last hx hb hK.1 hM hS rfl h40 dX3_remove_40 (fun H locs hM hS => ?_)
  replace h := Option.some.inj h; subst h
  exact W.vret hx hb hr (fun t ht hW => ⟨rfl, by rw [ht]; exact hM.moved hW.alike, hS.F ht⟩) hS.2.2 dX3_remove_41
set_option maxHeartbeats 4000000 in
set_option maxRecDepth 100000 in
theorem c_X3_remove (l : Launch) (D : mmD) (b0 sz : Nat) {v0 : Nat} {v1 : Int32} {v2 : Int32} {f : mmF} {res : mmF} (h : f_X3_remove v0 v1 v2 f = some res) : Met l yX3_remove wsX3_remove ({ frames := 0, cells := 0, slots := 0, locals := 0 } : Room) (va_Pc [.ref v0, .int v1, .int v2] (PW D b0 f sz)) (QW D b0 none res sz) 0 0 (fun q => b0 ≤ q) := by
  refine Met.ofW (cc := cX3_remove) (maxL := 4) (ret := none) (by decide) rfl ?_
  intro p e s m args below meth c s₁ B hml hv
  obtain ⟨rfl, hM, hK⟩ := hv
  have hl := lv_entry ([.ref v0, .int v1, .int v2]) (n := 4) (Nat.le_of_ble_eq_true rfl)
  rw [lg_entry_eq]
  generalize (lg_sl ([.ref v0, .int v1, .int v2]) ++ List.replicate (4 - (lg_sl ([.ref v0, .int v1, .int v2])).length) Slot.unset).toArray = ls at hl ⊢
  have hl : lv_has ls 4 [(0, .ref v0), (1, .int v1), (2, .int v2)] := hl
  exact w_X3_remove ⟨B.exec, B.bytes, B.returns, hml, findClass_of_methodNamed B.named, atoms_spec (ws := wsX3_remove) B.pre, B.notSynchronized, hK⟩ h s.heap [] ls hM va_S.rf hl
end S_X3_remove
/-! X2_cutTo -/
set_option maxRecDepth 20000 in
theorem qi_X2_cutTo_X2 : ∀ w ∈ u_ws RX2 TX2 5, w ∈ wsX2_cutTo := by decide +kernel
set_option maxRecDepth 20000 in
theorem q_X2_cutTo_1 : Cond.fieldLink RX2 20 "StageTruths$Known" "set" "LStageTruths$PartSets;" ∈ wsX2_cutTo := by decide +kernel
set_option maxRecDepth 20000 in
theorem q_X2_cutTo_2 : Cond.fieldLink RX2 9 "StageTruths$Known" "size" "I" ∈ wsX2_cutTo := by decide +kernel
noncomputable def f_X2_cutTo_7   : Nat → Nat → Int32 → Int32 → mmF → Option (mmF)
  | 0, _, _, _, _ => none
  | n + 1, v0, v1, v2, f =>
    if v2 < v1 then
    (some (f))
    else
    if v2 < 0 then
    (some (f))
    else
    (ldR f v0 2 1).bind fun x17 =>
    (ckO f v0 2).bind fun _ =>
    (f_X2_part v0 v2 f).bind fun q23 =>
    (ckO f x17 3).bind fun _ =>
    (f_X3_remove x17 (0 : Int32) q23 f).bind fun q26 =>
    (stF q26 v0 2 0 (.int v2)).bind fun f31 =>
    f_X2_cutTo_7 n v0 v1 (v2 + (-1 : Int32)) f31
noncomputable def f_X2_cutTo (v0 : Nat) (v1 : Int32) (f : mmF) : Option (mmF) :=
  (ldI f v0 2 0).bind fun x1 =>
  f_X2_cutTo_7 FU v0 v1 (x1 - (1 : Int32)) f
section S_X2_cutTo
variable {p : Program} {l : Launch} {e : Env} {s : State} {m : MethodId} {args : Array Value} {below : List Frame} {meth : Method} {c : Code} {D : mmD} {b0 sz : Nat} {f : mmF}
set_option maxHeartbeats 4000000 in
set_option maxRecDepth 100000 in
theorem w_X2_cutTo_7 (C0 : CX cX2_cutTo 3 none wsX2_cutTo RX2 p s m args meth c D b0) {res : mmF} : ∀ (n : Nat), ∀ (v0 : Nat) (v1 : Int32) (v2 : Int32) (f : mmF), f_X2_cutTo_7 n v0 v1 v2 f = some res → ∀ (H : Heap) (locs : List Loc) (ls : Array Slot), MM vwCl D b0 f sz s H → mS b0 s H locs → lv_has ls 3 [(0, .ref v0), (1, .int v1), (2, .int v2)] → W p l e ({ frames := 2, cells := 0, slots := 0, locals := 42 } : Room) s m args below meth c H locs 0 0 (MQ below (QW D b0 none res sz) args s 0 0 (fun q => b0 ≤ q)) (F0 m 7 ls []) := by
  obtain ⟨hx, hb, hr, hml, hown, hts, hlocks, hK⟩ := id C0
  intro n
  induction n with
  | zero =>
    intro v0 v1 v2 f h
    have h : (none : Option (mmF)) = some res := h
    cases h
  | succ n ih =>
    intro v0 v1 v2 f h H locs ls hM hS hl
    rw [f_X2_cutTo_7] at h
    refine lv_iload_n hx hb dX2_cutTo_7 rfl (lv_at hl 2 rfl) ?_
    refine lv_iload_n hx hb dX2_cutTo_8 rfl (lv_at hl 1 rfl) ?_
    refine lv_icmp_lt (tgt := 40) hx hb dX2_cutTo_9 (by decide) (fun c9 => ?_) (fun c9 => ?_)
    · replace h := o_t c9 h
      replace h := Option.some.inj h; subst h
      exact W.vret hx hb hr (fun t ht hW => ⟨rfl, by rw [ht]; exact hM.moved hW.alike, hS.F ht⟩) hS.2.2 dX2_cutTo_40
    replace h := o_f c9 h
    refine lv_iload_n hx hb dX2_cutTo_12 rfl (lv_at hl 2 rfl) ?_
    refine lv_if_lt (tgt := 40) hx hb dX2_cutTo_13 (by decide) (fun c13 => ?_) (fun c13 => ?_)
    · replace h := o_t c13 h
      replace h := Option.some.inj h; subst h
      exact W.vret hx hb hr (fun t ht hW => ⟨rfl, by rw [ht]; exact hM.moved hW.alike, hS.F ht⟩) hS.2.2 dX2_cutTo_40
    replace h := o_f c13 h
    refine lv_aload_n hx hb dX2_cutTo_16 rfl (lv_at hl 0 rfl) ?_
    replace h := o_b h; obtain ⟨x17, h17, h⟩ := h
    refine m_get (C := RX2) (T := TX2) (N := 5) (ci := 2) hx hb hts qi_X2_cutTo_X2 hown hK.1 hM 1 (ldR_F h17) rfl (by decide) (hts _ q_X2_cutTo_1) (fun _ h9 => h9) dX2_cutTo_17 ?_
    refine lv_iconst (v := (0 : Int32)) hx hb dX2_cutTo_20 (by decide) ?_
    refine lv_aload_n hx hb dX2_cutTo_21 rfl (lv_at hl 0 rfl) ?_
    refine lv_iload_n hx hb dX2_cutTo_22 rfl (lv_at hl 2 rfl) ?_
    replace h := o_b h; obtain ⟨_, k23, h⟩ := h
    replace h := o_b h; obtain ⟨q23, h23, h⟩ := h
    refine m_call (va_runV (As := [.int v2]) (rest := [.int (0 : Int32), .ref x17]) ⟨hx, hb, hml, hown, hts⟩ (c_X2_part l D b0 sz h23) (cwV 1 hts gX2_cutTo_X2_part rfl rfl rfl (by decide +kernel) ⟨Nat.le_of_ble_eq_true rfl, Nat.le_of_ble_eq_true rfl⟩) ⟨PW.blind, m_recv (ci := 2) rfl hK hM k23, (fun U hU hW => ⟨rfl, PW.call hK hM hS hU hW⟩)⟩ rfl rfl hl.1 rfl (lv_room (Nat.le_of_ble_eq_true rfl)) dX2_cutTo_23 ⟨(Nat.le_refl _), (Nat.le_refl _)⟩) hS (fun H locs hM hS => ?_)
    replace h := o_b h; obtain ⟨_, k26, h⟩ := h
    replace h := o_b h; obtain ⟨q26, h26, h⟩ := h
    refine m_call (va_runV (As := [.int (0 : Int32), .int q23]) (rest := []) ⟨hx, hb, hml, hown, hts⟩ (c_X3_remove l D b0 sz h26) (cwV 2 hts gX2_cutTo_X3_remove rfl rfl rfl (by decide +kernel) ⟨Nat.le_of_ble_eq_true rfl, Nat.le_of_ble_eq_true rfl⟩) ⟨PW.blind, m_recv (ci := 3) rfl hK hM k26, (fun U hU hW => ⟨rfl, PW.call hK hM hS hU hW⟩)⟩ rfl rfl hl.1 rfl (lv_room (Nat.le_of_ble_eq_true rfl)) dX2_cutTo_26 ⟨(Nat.le_refl _), (Nat.le_refl _)⟩) hS (fun H locs hM hS => ?_)
    refine lv_aload_n hx hb dX2_cutTo_29 rfl (lv_at hl 0 rfl) ?_
    refine lv_iload_n hx hb dX2_cutTo_30 rfl (lv_at hl 2 rfl) ?_
    replace h := o_b h; obtain ⟨f31, h31, h⟩ := h
    refine m_put (ty := .int) (C := RX2) (T := TX2) (N := 5) (ci := 2) hx hb hts qi_X2_cutTo_X2 tyX2 tyX2_ok nmX2 hown hK.1 hM hS 0 h31 rfl (by decide) (hts _ q_X2_cutTo_2) (fun _ h9 => h9) rfl (by decide +kernel) rfl rfl dX2_cutTo_31 (fun H locs hM hS => ?_)
    refine lv_iinc (v := (v2 + (-1 : Int32))) (lv' := [(2, .int (v2 + (-1 : Int32))), (0, .ref v0), (1, .int v1)]) hx hb dX2_cutTo_34 hl (k := 2) rfl rfl (by decide) rfl (fun ls hl => ?_)
    refine lv_goto (tgt := 7) hx hb dX2_cutTo_37 (by decide) ?_
    exact ih _ _ _ _ h _ _ _ hM hS (lv_sub hl [1, 2, 0] rfl)
set_option maxHeartbeats 4000000 in
set_option maxRecDepth 100000 in
theorem w_X2_cutTo (C0 : CX cX2_cutTo 3 none wsX2_cutTo RX2 p s m args meth c D b0) {v0 : Nat} {v1 : Int32} {res : mmF} (h : f_X2_cutTo v0 v1 f = some res) : ∀ (H : Heap) (locs : List Loc) (ls : Array Slot), MM vwCl D b0 f sz s H → mS b0 s H locs → lv_has ls 3 [(0, .ref v0), (1, .int v1)] → W p l e ({ frames := 2, cells := 0, slots := 0, locals := 42 } : Room) s m args below meth c H locs 0 0 (MQ below (QW D b0 none res sz) args s 0 0 (fun q => b0 ≤ q)) (F0 m 0 ls []) := by
  obtain ⟨hx, hb, hr, hml, hown, hts, hlocks, hK⟩ := id C0
  intro H locs ls hM hS hl
  unfold f_X2_cutTo at h
  refine lv_aload_n hx hb dX2_cutTo_0 rfl (lv_at hl 0 rfl) ?_
  replace h := o_b h; obtain ⟨x1, h1, h⟩ := h
  refine m_get (C := RX2) (T := TX2) (N := 5) (ci := 2) hx hb hts qi_X2_cutTo_X2 hown hK.1 hM 0 (ldI_F h1) rfl (by decide) (hts _ q_X2_cutTo_2) (fun _ h9 => h9) dX2_cutTo_1 ?_
  refine lv_iconst (v := (1 : Int32)) hx hb dX2_cutTo_4 (by decide) ?_
  refine lv_isub hx hb dX2_cutTo_5 ?_
  refine lv_istore_n (lv' := [(2, .int (x1 - (1 : Int32))), (0, .ref v0), (1, .int v1)]) hx hb dX2_cutTo_6 rfl hl (by decide) rfl (fun ls hl => ?_)
  exact w_X2_cutTo_7 C0 FU _ _ _ _ h _ _ _ hM hS (lv_sub hl [1, 2, 0] rfl)
set_option maxHeartbeats 4000000 in
set_option maxRecDepth 100000 in
theorem c_X2_cutTo (l : Launch) (D : mmD) (b0 sz : Nat) {v0 : Nat} {v1 : Int32} {f : mmF} {res : mmF} (h : f_X2_cutTo v0 v1 f = some res) : Met l yX2_cutTo wsX2_cutTo ({ frames := 2, cells := 0, slots := 0, locals := 42 } : Room) (va_Pc [.ref v0, .int v1] (PW D b0 f sz)) (QW D b0 none res sz) 0 0 (fun q => b0 ≤ q) := by
  refine Met.ofW (cc := cX2_cutTo) (maxL := 3) (ret := none) (by decide) rfl ?_
  intro p e s m args below meth c s₁ B hml hv
  obtain ⟨rfl, hM, hK⟩ := hv
  have hl := lv_entry ([.ref v0, .int v1]) (n := 3) (Nat.le_of_ble_eq_true rfl)
  rw [lg_entry_eq]
  generalize (lg_sl ([.ref v0, .int v1]) ++ List.replicate (3 - (lg_sl ([.ref v0, .int v1])).length) Slot.unset).toArray = ls at hl ⊢
  have hl : lv_has ls 3 [(0, .ref v0), (1, .int v1)] := hl
  exact w_X2_cutTo ⟨B.exec, B.bytes, B.returns, hml, findClass_of_methodNamed B.named, atoms_spec (ws := wsX2_cutTo) B.pre, B.notSynchronized, hK⟩ h s.heap [] ls hM va_S.rf hl
end S_X2_cutTo
/-! X3_fill -/
set_option maxRecDepth 20000 in
theorem qi_X3_fill_X3 : ∀ w ∈ u_ws RX3 TX3 1, w ∈ wsX3_fill := by decide +kernel
set_option maxRecDepth 20000 in
theorem q_X3_fill_1 : Cond.fieldLink RX3 15 "StageTruths$PartSets" "words" "[J" ∈ wsX3_fill := by decide +kernel
set_option maxRecDepth 20000 in
theorem q_X3_fill_2 : Cond.constantLong RX3 19 (-1) ∈ wsX3_fill := by decide +kernel
noncomputable def f_X3_fill_52 (k7 : Nat → Int32 → Int32 → Int32 → mmF → Option (mmF))  (v0 : Nat) (v2 : Int32) (v3 : Int32) (v4 : Int32) (f : mmF) : Option (mmF) :=
  k7 v0 v2 v3 (v4 + (1 : Int32)) f
noncomputable def f_X3_fill_51 (k7 : Nat → Int32 → Int32 → Int32 → mmF → Option (mmF))  (v0 : Nat) (v2 : Int32) (v3 : Int32) (v4 : Int32) (t0 : Nat) (t1 : Int32) (t2 : Int64) (f : mmF) : Option (mmF) :=
  (stL f t0 t1 t2).bind fun f51 =>
  f_X3_fill_52 k7 v0 v2 v3 v4 f51
noncomputable def f_X3_fill_7   : Nat → Nat → Int32 → Int32 → Int32 → mmF → Option (mmF)
  | 0, _, _, _, _, _ => none
  | n + 1, v0, v2, v3, v4, f =>
    if (3 : Int32) ≤ v4 then
    (some (f))
    else
    if (v3 + v4) < 0 then
    (f_X3_fill_52 (fun a0 a1 a2 a3 a4 => f_X3_fill_7 n a0 a1 a2 a3 a4) v0 v2 v3 v4 f)
    else
    (ldR f v0 3 0).bind fun x25 =>
    (lenA f x25).bind fun x28 =>
    if x28 ≤ (v3 + v4) then
    (f_X3_fill_52 (fun a0 a1 a2 a3 a4 => f_X3_fill_7 n a0 a1 a2 a3 a4) v0 v2 v3 v4 f)
    else
    (ldR f v0 3 0).bind fun x33 =>
    if v2 = 0 then
    (f_X3_fill_51 (fun a0 a1 a2 a3 a4 => f_X3_fill_7 n a0 a1 a2 a3 a4) v0 v2 v3 v4 x33 (v3 + v4) (0 : Int64) f)
    else
    f_X3_fill_51 (fun a0 a1 a2 a3 a4 => f_X3_fill_7 n a0 a1 a2 a3 a4) v0 v2 v3 v4 x33 (v3 + v4) (-1 : Int64) f
noncomputable def f_X3_fill (v0 : Nat) (v1 : Int32) (v2 : Int32) (f : mmF) : Option (mmF) :=
  f_X3_fill_7 FU v0 v2 ((3 : Int32) * v1) (0 : Int32) f
section S_X3_fill
variable {p : Program} {l : Launch} {e : Env} {s : State} {m : MethodId} {args : Array Value} {below : List Frame} {meth : Method} {c : Code} {D : mmD} {b0 sz : Nat} {f : mmF}
set_option maxHeartbeats 4000000 in
set_option maxRecDepth 100000 in
theorem w_X3_fill_52 (C0 : CX cX3_fill 5 none wsX3_fill RX3 p s m args meth c D b0) {k7 : Nat → Int32 → Int32 → Int32 → mmF → Option (mmF)} {res : mmF} (hk7 : ∀ (v0 : Nat) (v2 : Int32) (v3 : Int32) (v4 : Int32) (f : mmF), k7 v0 v2 v3 v4 f = some res → ∀ (H : Heap) (locs : List Loc) (ls : Array Slot), MM vwCl D b0 f sz s H → mS b0 s H locs → lv_has ls 5 [(0, .ref v0), (2, .int v2), (3, .int v3), (4, .int v4)] → W p l e ({ frames := 0, cells := 0, slots := 0, locals := 0 } : Room) s m args below meth c H locs 0 0 (MQ below (QW D b0 none res sz) args s 0 0 (fun q => b0 ≤ q)) (F0 m 7 ls [])) : ∀ (v0 : Nat) (v2 : Int32) (v3 : Int32) (v4 : Int32) (f : mmF), f_X3_fill_52 k7 v0 v2 v3 v4 f = some res → ∀ (H : Heap) (locs : List Loc) (ls : Array Slot), MM vwCl D b0 f sz s H → mS b0 s H locs → lv_has ls 5 [(0, .ref v0), (2, .int v2), (3, .int v3), (4, .int v4)] → W p l e ({ frames := 0, cells := 0, slots := 0, locals := 0 } : Room) s m args below meth c H locs 0 0 (MQ below (QW D b0 none res sz) args s 0 0 (fun q => b0 ≤ q)) (F0 m 52 ls []) := by
  obtain ⟨hx, hb, hr, hml, hown, hts, hlocks, hK⟩ := id C0
  intro v0 v2 v3 v4 f h H locs ls hM hS hl
  unfold f_X3_fill_52 at h
  refine lv_iinc (v := (v4 + (1 : Int32))) (lv' := [(4, .int (v4 + (1 : Int32))), (0, .ref v0), (2, .int v2), (3, .int v3)]) hx hb dX3_fill_52 hl (k := 3) rfl rfl (by decide) rfl (fun ls hl => ?_)
  refine lv_goto (tgt := 7) hx hb dX3_fill_55 (by decide) ?_
  exact hk7 _ _ _ _ _ h _ _ _ hM hS (lv_sub hl [1, 2, 3, 0] rfl)
set_option maxHeartbeats 4000000 in
set_option maxRecDepth 100000 in
theorem w_X3_fill_51 (C0 : CX cX3_fill 5 none wsX3_fill RX3 p s m args meth c D b0) {k7 : Nat → Int32 → Int32 → Int32 → mmF → Option (mmF)} {res : mmF} (hk7 : ∀ (v0 : Nat) (v2 : Int32) (v3 : Int32) (v4 : Int32) (f : mmF), k7 v0 v2 v3 v4 f = some res → ∀ (H : Heap) (locs : List Loc) (ls : Array Slot), MM vwCl D b0 f sz s H → mS b0 s H locs → lv_has ls 5 [(0, .ref v0), (2, .int v2), (3, .int v3), (4, .int v4)] → W p l e ({ frames := 0, cells := 0, slots := 0, locals := 0 } : Room) s m args below meth c H locs 0 0 (MQ below (QW D b0 none res sz) args s 0 0 (fun q => b0 ≤ q)) (F0 m 7 ls [])) : ∀ (v0 : Nat) (v2 : Int32) (v3 : Int32) (v4 : Int32) (t0 : Nat) (t1 : Int32) (t2 : Int64) (f : mmF), f_X3_fill_51 k7 v0 v2 v3 v4 t0 t1 t2 f = some res → ∀ (H : Heap) (locs : List Loc) (ls : Array Slot), MM vwCl D b0 f sz s H → mS b0 s H locs → lv_has ls 5 [(0, .ref v0), (2, .int v2), (3, .int v3), (4, .int v4)] → W p l e ({ frames := 0, cells := 0, slots := 0, locals := 0 } : Room) s m args below meth c H locs 0 0 (MQ below (QW D b0 none res sz) args s 0 0 (fun q => b0 ≤ q)) (F0 m 51 ls [.long t2, .int t1, .ref t0]) := by
  obtain ⟨hx, hb, hr, hml, hown, hts, hlocks, hK⟩ := id C0
  intro v0 v2 v3 v4 t0 t1 t2 f h H locs ls hM hS hl
  unfold f_X3_fill_51 at h
  replace h := o_b h; obtain ⟨f51, h51, h⟩ := h
  refine m_last hx hb hK.1 hM hS rfl h51 dX3_fill_51 (fun H locs hM hS => ?_)
  exact w_X3_fill_52 C0 hk7 _ _ _ _ _ h _ _ _ hM hS (lv_sub hl [0, 1, 2, 3] rfl)
set_option maxHeartbeats 4000000 in
set_option maxRecDepth 100000 in
theorem w_X3_fill_7 (C0 : CX cX3_fill 5 none wsX3_fill RX3 p s m args meth c D b0) {res : mmF} : ∀ (n : Nat), ∀ (v0 : Nat) (v2 : Int32) (v3 : Int32) (v4 : Int32) (f : mmF), f_X3_fill_7 n v0 v2 v3 v4 f = some res → ∀ (H : Heap) (locs : List Loc) (ls : Array Slot), MM vwCl D b0 f sz s H → mS b0 s H locs → lv_has ls 5 [(0, .ref v0), (2, .int v2), (3, .int v3), (4, .int v4)] → W p l e ({ frames := 0, cells := 0, slots := 0, locals := 0 } : Room) s m args below meth c H locs 0 0 (MQ below (QW D b0 none res sz) args s 0 0 (fun q => b0 ≤ q)) (F0 m 7 ls []) := by
  obtain ⟨hx, hb, hr, hml, hown, hts, hlocks, hK⟩ := id C0
  intro n
  induction n with
  | zero =>
    intro v0 v2 v3 v4 f h
    have h : (none : Option (mmF)) = some res := h
    cases h
  | succ n ih =>
    intro v0 v2 v3 v4 f h H locs ls hM hS hl
    rw [f_X3_fill_7] at h
    refine lv_iload hx hb dX3_fill_7 (lv_at hl 3 rfl) ?_
    refine lv_iconst (v := (3 : Int32)) hx hb dX3_fill_9 (by decide) ?_
    refine lv_icmp_ge (tgt := 58) hx hb dX3_fill_10 (by decide) (fun c10 => ?_) (fun c10 => ?_)
    · replace h := o_t c10 h
      replace h := Option.some.inj h; subst h
      exact W.vret hx hb hr (fun t ht hW => ⟨rfl, by rw [ht]; exact hM.moved hW.alike, hS.F ht⟩) hS.2.2 dX3_fill_58
    replace h := o_f c10 h
    refine lv_iload_n hx hb dX3_fill_13 rfl (lv_at hl 2 rfl) ?_
    refine lv_iload hx hb dX3_fill_14 (lv_at hl 3 rfl) ?_
    refine lv_iadd hx hb dX3_fill_16 ?_
    refine lv_if_lt (tgt := 52) hx hb dX3_fill_17 (by decide) (fun c17 => ?_) (fun c17 => ?_)
    · replace h := o_t c17 h
      exact w_X3_fill_52 C0 ih _ _ _ _ _ h _ _ _ hM hS (lv_sub hl [0, 1, 2, 3] rfl)
    replace h := o_f c17 h
    refine lv_iload_n hx hb dX3_fill_20 rfl (lv_at hl 2 rfl) ?_
    refine lv_iload hx hb dX3_fill_21 (lv_at hl 3 rfl) ?_
    refine lv_iadd hx hb dX3_fill_23 ?_
    refine lv_aload_n hx hb dX3_fill_24 rfl (lv_at hl 0 rfl) ?_
    replace h := o_b h; obtain ⟨x25, h25, h⟩ := h
    refine m_get (C := RX3) (T := TX3) (N := 1) (ci := 3) hx hb hts qi_X3_fill_X3 hown hK.1 hM 0 (ldR_F h25) rfl (by decide) (hts _ q_X3_fill_1) (fun _ h9 => h9) dX3_fill_25 ?_
    replace h := o_b h; obtain ⟨x28, h28, h⟩ := h
    refine m_alen hx hb hK.1 hM h28 dX3_fill_28 ?_
    refine lv_icmp_ge (tgt := 52) hx hb dX3_fill_29 (by decide) (fun c29 => ?_) (fun c29 => ?_)
    · replace h := o_t c29 h
      exact w_X3_fill_52 C0 ih _ _ _ _ _ h _ _ _ hM hS (lv_sub hl [0, 1, 2, 3] rfl)
    replace h := o_f c29 h
    refine lv_aload_n hx hb dX3_fill_32 rfl (lv_at hl 0 rfl) ?_
    replace h := o_b h; obtain ⟨x33, h33, h⟩ := h
    refine m_get (C := RX3) (T := TX3) (N := 1) (ci := 3) hx hb hts qi_X3_fill_X3 hown hK.1 hM 0 (ldR_F h33) rfl (by decide) (hts _ q_X3_fill_1) (fun _ h9 => h9) dX3_fill_33 ?_
    refine lv_iload_n hx hb dX3_fill_36 rfl (lv_at hl 2 rfl) ?_
    refine lv_iload hx hb dX3_fill_37 (lv_at hl 3 rfl) ?_
    refine lv_iadd hx hb dX3_fill_39 ?_
    refine lv_iload_n hx hb dX3_fill_40 rfl (lv_at hl 1 rfl) ?_
    refine lv_if_eq (tgt := 50) hx hb dX3_fill_41 (by decide) (fun c41 => ?_) (fun c41 => ?_)
    · replace h := o_t c41 h
      refine lv_lconst (v := (0 : Int64)) hx hb dX3_fill_50 (by decide) ?_
      exact w_X3_fill_51 C0 ih _ _ _ _ _ _ _ _ h _ _ _ hM hS (lv_sub hl [0, 1, 2, 3] rfl)
    replace h := o_f c41 h
    refine lv_ldc2 (v := (-1 : Int64)) hx hb hown (hts _ q_X3_fill_2) dX3_fill_44 ?_
    refine lv_goto (tgt := 51) hx hb dX3_fill_47 (by decide) ?_
    exact w_X3_fill_51 C0 ih _ _ _ _ _ _ _ _ h _ _ _ hM hS (lv_sub hl [0, 1, 2, 3] rfl)
set_option maxHeartbeats 4000000 in
set_option maxRecDepth 100000 in
theorem w_X3_fill (C0 : CX cX3_fill 5 none wsX3_fill RX3 p s m args meth c D b0) {v0 : Nat} {v1 : Int32} {v2 : Int32} {res : mmF} (h : f_X3_fill v0 v1 v2 f = some res) : ∀ (H : Heap) (locs : List Loc) (ls : Array Slot), MM vwCl D b0 f sz s H → mS b0 s H locs → lv_has ls 5 [(0, .ref v0), (1, .int v1), (2, .int v2)] → W p l e ({ frames := 0, cells := 0, slots := 0, locals := 0 } : Room) s m args below meth c H locs 0 0 (MQ below (QW D b0 none res sz) args s 0 0 (fun q => b0 ≤ q)) (F0 m 0 ls []) := by
  obtain ⟨hx, hb, hr, hml, hown, hts, hlocks, hK⟩ := id C0
  intro H locs ls hM hS hl
  unfold f_X3_fill at h
  refine lv_iconst (v := (3 : Int32)) hx hb dX3_fill_0 (by decide) ?_
  refine lv_iload_n hx hb dX3_fill_1 rfl (lv_at hl 1 rfl) ?_
  refine lv_imul hx hb dX3_fill_2 ?_
  refine lv_istore_n (lv' := [(3, .int ((3 : Int32) * v1)), (0, .ref v0), (1, .int v1), (2, .int v2)]) hx hb dX3_fill_3 rfl hl (by decide) rfl (fun ls hl => ?_)
  refine lv_iconst (v := (0 : Int32)) hx hb dX3_fill_4 (by decide) ?_
  refine lv_istore (lv' := [(4, .int (0 : Int32)), (3, .int ((3 : Int32) * v1)), (0, .ref v0), (1, .int v1), (2, .int v2)]) hx hb dX3_fill_5 hl (by decide) rfl (fun ls hl => ?_)
  exact w_X3_fill_7 C0 FU _ _ _ _ _ h _ _ _ hM hS (lv_sub hl [2, 4, 1, 0] rfl)
set_option maxHeartbeats 4000000 in
set_option maxRecDepth 100000 in
theorem c_X3_fill (l : Launch) (D : mmD) (b0 sz : Nat) {v0 : Nat} {v1 : Int32} {v2 : Int32} {f : mmF} {res : mmF} (h : f_X3_fill v0 v1 v2 f = some res) : Met l yX3_fill wsX3_fill ({ frames := 0, cells := 0, slots := 0, locals := 0 } : Room) (va_Pc [.ref v0, .int v1, .int v2] (PW D b0 f sz)) (QW D b0 none res sz) 0 0 (fun q => b0 ≤ q) := by
  refine Met.ofW (cc := cX3_fill) (maxL := 5) (ret := none) (by decide) rfl ?_
  intro p e s m args below meth c s₁ B hml hv
  obtain ⟨rfl, hM, hK⟩ := hv
  have hl := lv_entry ([.ref v0, .int v1, .int v2]) (n := 5) (Nat.le_of_ble_eq_true rfl)
  rw [lg_entry_eq]
  generalize (lg_sl ([.ref v0, .int v1, .int v2]) ++ List.replicate (5 - (lg_sl ([.ref v0, .int v1, .int v2])).length) Slot.unset).toArray = ls at hl ⊢
  have hl : lv_has ls 5 [(0, .ref v0), (1, .int v1), (2, .int v2)] := hl
  exact w_X3_fill ⟨B.exec, B.bytes, B.returns, hml, findClass_of_methodNamed B.named, atoms_spec (ws := wsX3_fill) B.pre, B.notSynchronized, hK⟩ h s.heap [] ls hM va_S.rf hl
end S_X3_fill
