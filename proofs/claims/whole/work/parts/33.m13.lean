/-! X10_forget -/
set_option maxRecDepth 20000 in
theorem qi_X10_forget_X10 : ∀ w ∈ u_ws RX10 TX10 25, w ∈ wsX10_forget := by decide +kernel
set_option maxRecDepth 20000 in
theorem q_X10_forget_1 : Cond.fieldLink RX10 7 "StageTruthsModel" "now" "[I" ∈ wsX10_forget := by decide +kernel
noncomputable def f_X10_forget_84 (k44 : Nat → Int32 → Int32 → Int32 → mmF → Option (Int32 × mmF))  (v0 : Nat) (v1 : Int32) (v2 : Int32) (v3 : Int32) (t0 : Nat) (t1 : Int32) (t2 : Int32) (t3 : Int32) (f : mmF) : Option (Int32 × mmF) :=
  (stA 0 f t0 t1 (t2 &&& t3)).bind fun f85 =>
  k44 v0 v1 v2 (v3 + (1 : Int32)) f85
noncomputable def f_X10_forget_44   : Nat → Nat → Int32 → Int32 → Int32 → mmF → Option (Int32 × mmF)
  | 0, _, _, _, _, _ => none
  | n + 1, v0, v1, v2, v3, f =>
    (ldR f v0 10 0).bind fun x46 =>
    (ldA 0 f x46 (16 : Int32)).bind fun x51 =>
    if x51 ≤ v3 then
    ((ckO f v0 10).bind fun _ =>
    (f_X10_knownAt v0 v2 f).bind fun q94 =>
    some (q94, f))
    else
    (ldR f v0 10 0).bind fun x56 =>
    (ldA 0 f x56 ((8 : Int32) + v3)).bind fun x64 =>
    (ckO f v0 10).bind fun _ =>
    (f_X10_leadsTo v0 v3 v1 f).bind fun q68 =>
    if q68 = 0 then
    (f_X10_forget_84 (fun a0 a1 a2 a3 a4 => f_X10_forget_44 n a0 a1 a2 a3 a4) v0 v1 v2 v3 x56 ((8 : Int32) + v3) x64 (15 : Int32) f)
    else
    f_X10_forget_84 (fun a0 a1 a2 a3 a4 => f_X10_forget_44 n a0 a1 a2 a3 a4) v0 v1 v2 v3 x56 ((8 : Int32) + v3) x64 (((1 : Int32) <<< (v2 &&& 31)) ^^^ (-1 : Int32)) f
noncomputable def f_X10_forget (v0 : Nat) (v1 : Int32) (v2 : Int32) (f : mmF) : Option (Int32 × mmF) :=
  (ckO f v0 10).bind fun _ =>
  (f_X10_noStage v0 v1 f).bind fun q2 =>
  if q2 = 0 then
  ((f_X10_in v2 (0 : Int32) (3 : Int32) f).bind fun q11 =>
  if q11 = 0 then
  (some ((-1 : Int32), f))
  else
  (ldR f v0 10 0).bind fun x20 =>
  (ldA 0 f x20 ((8 : Int32) + v1)).bind fun x27 =>
  if ((x27 >>> (v2 &&& 31)) &&& (1 : Int32)) = 0 then
  (some ((-5 : Int32), f))
  else
  (ckO f v0 10).bind fun _ =>
  (f_X10_record v0 f).bind fun q39 =>
  f_X10_forget_44 FU v0 v1 v2 (0 : Int32) q39)
  else
  some ((-1 : Int32), f)
section S_X10_forget
variable {p : Program} {l : Launch} {e : Env} {s : State} {m : MethodId} {args : Array Value} {below : List Frame} {meth : Method} {c : Code} {D : mmD} {b0 sz : Nat} {f : mmF}
set_option maxHeartbeats 4000000 in
set_option maxRecDepth 100000 in
theorem w_X10_forget_84 (C0 : CX cX10_forget 4 (some .int) wsX10_forget RX10 p s m args meth c D b0) {k44 : Nat → Int32 → Int32 → Int32 → mmF → Option (Int32 × mmF)} {res : Int32 × mmF} (hk44 : ∀ (v0 : Nat) (v1 : Int32) (v2 : Int32) (v3 : Int32) (f : mmF), k44 v0 v1 v2 v3 f = some res → ∀ (H : Heap) (locs : List Loc) (ls : Array Slot), MM vwCl D b0 f sz s H → mS b0 s H locs → lv_has ls 4 [(0, .ref v0), (1, .int v1), (2, .int v2), (3, .int v3)] → W p l e ({ frames := 2, cells := 0, slots := 0, locals := 43 } : Room) s m args below meth c H locs 0 0 (MQ below (QW D b0 (some (.int res.1)) res.2 sz) args s 0 0 (fun q => b0 ≤ q)) (F0 m 44 ls [])) : ∀ (v0 : Nat) (v1 : Int32) (v2 : Int32) (v3 : Int32) (t0 : Nat) (t1 : Int32) (t2 : Int32) (t3 : Int32) (f : mmF), f_X10_forget_84 k44 v0 v1 v2 v3 t0 t1 t2 t3 f = some res → ∀ (H : Heap) (locs : List Loc) (ls : Array Slot), MM vwCl D b0 f sz s H → mS b0 s H locs → lv_has ls 4 [(0, .ref v0), (1, .int v1), (2, .int v2), (3, .int v3)] → W p l e ({ frames := 2, cells := 0, slots := 0, locals := 43 } : Room) s m args below meth c H locs 0 0 (MQ below (QW D b0 (some (.int res.1)) res.2 sz) args s 0 0 (fun q => b0 ≤ q)) (F0 m 84 ls [.int t3, .int t2, .int t1, .ref t0]) := by
  obtain ⟨hx, hb, hr, hml, hown, hts, hlocks, hK⟩ := id C0
  intro v0 v1 v2 v3 t0 t1 t2 t3 f h H locs ls hM hS hl
  unfold f_X10_forget_84 at h
  refine lv_iand hx hb dX10_forget_84 ?_
  replace h := o_b h; obtain ⟨f85, h85, h⟩ := h
  refine m_iast hx hb hK.1 hM hS rfl h85 dX10_forget_85 (fun H locs hM hS => ?_)
  refine lv_iinc (v := (v3 + (1 : Int32))) (lv' := [(3, .int (v3 + (1 : Int32))), (0, .ref v0), (1, .int v1), (2, .int v2)]) hx hb dX10_forget_86 hl (k := 3) rfl rfl (by decide) rfl (fun ls hl => ?_)
  refine lv_goto (tgt := 44) hx hb dX10_forget_89 (by decide) ?_
  exact hk44 _ _ _ _ _ h _ _ _ hM hS (lv_sub hl [1, 2, 3, 0] rfl)
set_option maxHeartbeats 4000000 in
set_option maxRecDepth 100000 in
theorem w_X10_forget_44 (C0 : CX cX10_forget 4 (some .int) wsX10_forget RX10 p s m args meth c D b0) {res : Int32 × mmF} : ∀ (n : Nat), ∀ (v0 : Nat) (v1 : Int32) (v2 : Int32) (v3 : Int32) (f : mmF), f_X10_forget_44 n v0 v1 v2 v3 f = some res → ∀ (H : Heap) (locs : List Loc) (ls : Array Slot), MM vwCl D b0 f sz s H → mS b0 s H locs → lv_has ls 4 [(0, .ref v0), (1, .int v1), (2, .int v2), (3, .int v3)] → W p l e ({ frames := 2, cells := 0, slots := 0, locals := 43 } : Room) s m args below meth c H locs 0 0 (MQ below (QW D b0 (some (.int res.1)) res.2 sz) args s 0 0 (fun q => b0 ≤ q)) (F0 m 44 ls []) := by
  obtain ⟨hx, hb, hr, hml, hown, hts, hlocks, hK⟩ := id C0
  intro n
  induction n with
  | zero =>
    intro v0 v1 v2 v3 f h
    have h : (none : Option (Int32 × mmF)) = some res := h
    cases h
  | succ n ih =>
    intro v0 v1 v2 v3 f h H locs ls hM hS hl
    rw [f_X10_forget_44] at h
    refine lv_iload_n hx hb dX10_forget_44 rfl (lv_at hl 3 rfl) ?_
    refine lv_aload_n hx hb dX10_forget_45 rfl (lv_at hl 0 rfl) ?_
    replace h := o_b h; obtain ⟨x46, h46, h⟩ := h
    refine m_get (C := RX10) (T := TX10) (N := 25) (ci := 10) hx hb hts qi_X10_forget_X10 hown hK.1 hM 0 (ldR_F h46) rfl (by decide) (hts _ q_X10_forget_1) (fun _ h9 => h9) dX10_forget_46 ?_
    refine lv_bipush (v := (16 : Int32)) hx hb dX10_forget_49 (by decide) ?_
    replace h := o_b h; obtain ⟨x51, h51, h⟩ := h
    refine m_iald hx hb hK.1 hM hS rfl h51 dX10_forget_51 ?_
    refine lv_icmp_ge (tgt := 92) hx hb dX10_forget_52 (by decide) (fun c52 => ?_) (fun c52 => ?_)
    · replace h := o_t c52 h
      refine lv_aload_n hx hb dX10_forget_92 rfl (lv_at hl 0 rfl) ?_
      refine lv_iload_n hx hb dX10_forget_93 rfl (lv_at hl 2 rfl) ?_
      replace h := o_b h; obtain ⟨_, k94, h⟩ := h
      replace h := o_b h; obtain ⟨q94, h94, h⟩ := h
      refine m_call (va_runV (As := [.int v2]) (rest := []) ⟨hx, hb, hml, hown, hts⟩ (c_X10_knownAt l D b0 sz h94) (cwV 1 hts gX10_forget_X10_knownAt rfl rfl rfl (by decide +kernel) ⟨Nat.le_of_ble_eq_true rfl, Nat.le_of_ble_eq_true rfl⟩) ⟨PW.blind, m_recv (ci := 10) rfl hK hM k94, (fun U hU hW => ⟨rfl, PW.call hK hM hS hU hW⟩)⟩ rfl rfl hl.1 rfl (lv_room (Nat.le_of_ble_eq_true rfl)) dX10_forget_94 ⟨(Nat.le_refl _), (Nat.le_refl _)⟩) hS (fun H locs hM hS => ?_)
      replace h := Option.some.inj h; subst h
      exact W.iret hx hb hr (fun t ht hW => ⟨rfl, by rw [ht]; exact hM.moved hW.alike, hS.F ht⟩) hS.2.2 dX10_forget_97
    replace h := o_f c52 h
    refine lv_aload_n hx hb dX10_forget_55 rfl (lv_at hl 0 rfl) ?_
    replace h := o_b h; obtain ⟨x56, h56, h⟩ := h
    refine m_get (C := RX10) (T := TX10) (N := 25) (ci := 10) hx hb hts qi_X10_forget_X10 hown hK.1 hM 0 (ldR_F h56) rfl (by decide) (hts _ q_X10_forget_1) (fun _ h9 => h9) dX10_forget_56 ?_
    refine lv_bipush (v := (8 : Int32)) hx hb dX10_forget_59 (by decide) ?_
    refine lv_iload_n hx hb dX10_forget_61 rfl (lv_at hl 3 rfl) ?_
    refine lv_iadd hx hb dX10_forget_62 ?_
    refine lv_dup2_11 hx hb dX10_forget_63 rfl rfl ?_
    replace h := o_b h; obtain ⟨x64, h64, h⟩ := h
    refine m_iald hx hb hK.1 hM hS rfl h64 dX10_forget_64 ?_
    refine lv_aload_n hx hb dX10_forget_65 rfl (lv_at hl 0 rfl) ?_
    refine lv_iload_n hx hb dX10_forget_66 rfl (lv_at hl 3 rfl) ?_
    refine lv_iload_n hx hb dX10_forget_67 rfl (lv_at hl 1 rfl) ?_
    replace h := o_b h; obtain ⟨_, k68, h⟩ := h
    replace h := o_b h; obtain ⟨q68, h68, h⟩ := h
    refine m_call (va_runV (As := [.int v3, .int v1]) (rest := [.int x64, .int ((8 : Int32) + v3), .ref x56]) ⟨hx, hb, hml, hown, hts⟩ (c_X10_leadsTo l D b0 sz h68) (cwV 2 hts gX10_forget_X10_leadsTo rfl rfl rfl (by decide +kernel) ⟨Nat.le_of_ble_eq_true rfl, Nat.le_of_ble_eq_true rfl⟩) ⟨PW.blind, m_recv (ci := 10) rfl hK hM k68, (fun U hU hW => ⟨rfl, PW.call hK hM hS hU hW⟩)⟩ rfl rfl hl.1 rfl (lv_room (Nat.le_of_ble_eq_true rfl)) dX10_forget_68 ⟨(Nat.le_refl _), (Nat.le_refl _)⟩) hS (fun H locs hM hS => ?_)
    refine lv_if_eq (tgt := 82) hx hb dX10_forget_71 (by decide) (fun c71 => ?_) (fun c71 => ?_)
    · replace h := o_t c71 h
      refine lv_bipush (v := (15 : Int32)) hx hb dX10_forget_82 (by decide) ?_
      exact w_X10_forget_84 C0 ih _ _ _ _ _ _ _ _ _ h _ _ _ hM hS (lv_sub hl [0, 1, 2, 3] rfl)
    replace h := o_f c71 h
    refine lv_iconst (v := (1 : Int32)) hx hb dX10_forget_74 (by decide) ?_
    refine lv_iload_n hx hb dX10_forget_75 rfl (lv_at hl 2 rfl) ?_
    refine lv_ishl hx hb dX10_forget_76 ?_
    refine lv_iconst (v := (-1 : Int32)) hx hb dX10_forget_77 (by decide) ?_
    refine lv_ixor hx hb dX10_forget_78 ?_
    refine lv_goto (tgt := 84) hx hb dX10_forget_79 (by decide) ?_
    exact w_X10_forget_84 C0 ih _ _ _ _ _ _ _ _ _ h _ _ _ hM hS (lv_sub hl [0, 1, 2, 3] rfl)
set_option maxHeartbeats 4000000 in
set_option maxRecDepth 100000 in
theorem w_X10_forget (C0 : CX cX10_forget 4 (some .int) wsX10_forget RX10 p s m args meth c D b0) {v0 : Nat} {v1 : Int32} {v2 : Int32} {res : Int32 × mmF} (h : f_X10_forget v0 v1 v2 f = some res) : ∀ (H : Heap) (locs : List Loc) (ls : Array Slot), MM vwCl D b0 f sz s H → mS b0 s H locs → lv_has ls 4 [(0, .ref v0), (1, .int v1), (2, .int v2)] → W p l e ({ frames := 2, cells := 0, slots := 0, locals := 43 } : Room) s m args below meth c H locs 0 0 (MQ below (QW D b0 (some (.int res.1)) res.2 sz) args s 0 0 (fun q => b0 ≤ q)) (F0 m 0 ls []) := by
  obtain ⟨hx, hb, hr, hml, hown, hts, hlocks, hK⟩ := id C0
  intro H locs ls hM hS hl
  unfold f_X10_forget at h
  refine lv_aload_n hx hb dX10_forget_0 rfl (lv_at hl 0 rfl) ?_
  refine lv_iload_n hx hb dX10_forget_1 rfl (lv_at hl 1 rfl) ?_
  replace h := o_b h; obtain ⟨_, k2, h⟩ := h
  replace h := o_b h; obtain ⟨q2, h2, h⟩ := h
  refine m_call (va_runV (As := [.int v1]) (rest := []) ⟨hx, hb, hml, hown, hts⟩ (c_X10_noStage l D b0 sz h2) (cwV 1 hts gX10_forget_X10_noStage rfl rfl rfl (by decide +kernel) ⟨Nat.le_of_ble_eq_true rfl, Nat.le_of_ble_eq_true rfl⟩) ⟨PW.blind, m_recv (ci := 10) rfl hK hM k2, (fun U hU hW => ⟨rfl, PW.call hK hM hS hU hW⟩)⟩ rfl rfl hl.1 rfl (lv_room (Nat.le_of_ble_eq_true rfl)) dX10_forget_2 ⟨(Nat.le_refl _), (Nat.le_refl _)⟩) hS (fun H locs hM hS => ?_)
  refine lv_if_ne (tgt := 17) hx hb dX10_forget_5 (by decide) (fun c5 => ?_) (fun c5 => ?_)
  · replace h := o_f c5 h
    refine lv_iconst (v := (-1 : Int32)) hx hb dX10_forget_17 (by decide) ?_
    replace h := Option.some.inj h; subst h
    exact W.iret hx hb hr (fun t ht hW => ⟨rfl, by rw [ht]; exact hM.moved hW.alike, hS.F ht⟩) hS.2.2 dX10_forget_18
  replace h := o_t c5 h
  refine lv_iload_n hx hb dX10_forget_8 rfl (lv_at hl 2 rfl) ?_
  refine lv_iconst (v := (0 : Int32)) hx hb dX10_forget_9 (by decide) ?_
  refine lv_iconst (v := (3 : Int32)) hx hb dX10_forget_10 (by decide) ?_
  replace h := o_b h; obtain ⟨q11, h11, h⟩ := h
  refine m_call (va_runS (As := [.int v2, .int (0 : Int32), .int (3 : Int32)]) (rest := []) ⟨hx, hb, hml, hown, hts⟩ (c_X10_in l D b0 sz h11) (va_cwS 3 hts gX10_forget_X10_in rfl rfl rfl (by decide +kernel) ⟨Nat.le_of_ble_eq_true rfl, Nat.le_of_ble_eq_true rfl⟩) ⟨PW.blind, (fun U hU hW => ⟨rfl, PW.call hK hM hS hU hW⟩)⟩ rfl rfl hl.1 rfl (lv_room (Nat.le_of_ble_eq_true rfl)) dX10_forget_11 ⟨(Nat.le_refl _), (Nat.le_refl _)⟩) hS (fun H locs hM hS => ?_)
  refine lv_if_ne (tgt := 19) hx hb dX10_forget_14 (by decide) (fun c14 => ?_) (fun c14 => ?_)
  · replace h := o_f c14 h
    refine lv_aload_n hx hb dX10_forget_19 rfl (lv_at hl 0 rfl) ?_
    replace h := o_b h; obtain ⟨x20, h20, h⟩ := h
    refine m_get (C := RX10) (T := TX10) (N := 25) (ci := 10) hx hb hts qi_X10_forget_X10 hown hK.1 hM 0 (ldR_F h20) rfl (by decide) (hts _ q_X10_forget_1) (fun _ h9 => h9) dX10_forget_20 ?_
    refine lv_bipush (v := (8 : Int32)) hx hb dX10_forget_23 (by decide) ?_
    refine lv_iload_n hx hb dX10_forget_25 rfl (lv_at hl 1 rfl) ?_
    refine lv_iadd hx hb dX10_forget_26 ?_
    replace h := o_b h; obtain ⟨x27, h27, h⟩ := h
    refine m_iald hx hb hK.1 hM hS rfl h27 dX10_forget_27 ?_
    refine lv_iload_n hx hb dX10_forget_28 rfl (lv_at hl 2 rfl) ?_
    refine lv_ishr hx hb dX10_forget_29 ?_
    refine lv_iconst (v := (1 : Int32)) hx hb dX10_forget_30 (by decide) ?_
    refine lv_iand hx hb dX10_forget_31 ?_
    refine lv_if_ne (tgt := 38) hx hb dX10_forget_32 (by decide) (fun c32 => ?_) (fun c32 => ?_)
    · replace h := o_f c32 h
      refine lv_aload_n hx hb dX10_forget_38 rfl (lv_at hl 0 rfl) ?_
      replace h := o_b h; obtain ⟨_, k39, h⟩ := h
      replace h := o_b h; obtain ⟨q39, h39, h⟩ := h
      refine m_call (va_runV (As := []) (rest := []) ⟨hx, hb, hml, hown, hts⟩ (c_X10_record l D b0 sz h39) (cwV 0 hts gX10_forget_X10_record rfl rfl rfl (by decide +kernel) ⟨Nat.le_of_ble_eq_true rfl, Nat.le_of_ble_eq_true rfl⟩) ⟨PW.blind, m_recv (ci := 10) rfl hK hM k39, (fun U hU hW => ⟨rfl, PW.call hK hM hS hU hW⟩)⟩ rfl rfl hl.1 rfl (lv_room (Nat.le_of_ble_eq_true rfl)) dX10_forget_39 ⟨(Nat.le_refl _), (Nat.le_refl _)⟩) hS (fun H locs hM hS => ?_)
      refine lv_iconst (v := (0 : Int32)) hx hb dX10_forget_42 (by decide) ?_
      refine lv_istore_n (lv' := [(3, .int (0 : Int32)), (0, .ref v0), (1, .int v1), (2, .int v2)]) hx hb dX10_forget_43 rfl hl (by decide) rfl (fun ls hl => ?_)
      exact w_X10_forget_44 C0 FU _ _ _ _ _ h _ _ _ hM hS (lv_sub hl [1, 2, 3, 0] rfl)
    replace h := o_t c32 h
    refine lv_bipush (v := (-5 : Int32)) hx hb dX10_forget_35 (by decide) ?_
    replace h := Option.some.inj h; subst h
    exact W.iret hx hb hr (fun t ht hW => ⟨rfl, by rw [ht]; exact hM.moved hW.alike, hS.F ht⟩) hS.2.2 dX10_forget_37
  replace h := o_t c14 h
  refine lv_iconst (v := (-1 : Int32)) hx hb dX10_forget_17 (by decide) ?_
  replace h := Option.some.inj h; subst h
  exact W.iret hx hb hr (fun t ht hW => ⟨rfl, by rw [ht]; exact hM.moved hW.alike, hS.F ht⟩) hS.2.2 dX10_forget_18
set_option maxHeartbeats 4000000 in
set_option maxRecDepth 100000 in
theorem c_X10_forget (l : Launch) (D : mmD) (b0 sz : Nat) {v0 : Nat} {v1 : Int32} {v2 : Int32} {f : mmF} {res : Int32 × mmF} (h : f_X10_forget v0 v1 v2 f = some res) : Met l yX10_forget wsX10_forget ({ frames := 2, cells := 0, slots := 0, locals := 43 } : Room) (va_Pc [.ref v0, .int v1, .int v2] (PW D b0 f sz)) (QW D b0 (some (.int res.1)) res.2 sz) 0 0 (fun q => b0 ≤ q) := by
  refine Met.ofW (cc := cX10_forget) (maxL := 4) (ret := (some .int)) (by decide) rfl ?_
  intro p e s m args below meth c s₁ B hml hv
  obtain ⟨rfl, hM, hK⟩ := hv
  have hl := lv_entry ([.ref v0, .int v1, .int v2]) (n := 4) (Nat.le_of_ble_eq_true rfl)
  rw [lg_entry_eq]
  generalize (lg_sl ([.ref v0, .int v1, .int v2]) ++ List.replicate (4 - (lg_sl ([.ref v0, .int v1, .int v2])).length) Slot.unset).toArray = ls at hl ⊢
  have hl : lv_has ls 4 [(0, .ref v0), (1, .int v1), (2, .int v2)] := hl
  exact w_X10_forget ⟨B.exec, B.bytes, B.returns, hml, findClass_of_methodNamed B.named, atoms_spec (ws := wsX10_forget) B.pre, B.notSynchronized, hK⟩ h s.heap [] ls hM va_S.rf hl
end S_X10_forget
/-! X10_without -/
noncomputable def f_X10_without (v0 : Int32) (v1 : Int32) (f : mmF) : Option (Int32) :=
  some (((v0 &&& (((1 : Int32) <<< (v1 &&& 31)) - (1 : Int32))) ||| ((v0 >>> ((1 : Int32) &&& 31)) &&& ((((1 : Int32) <<< (v1 &&& 31)) - (1 : Int32)) ^^^ (-1 : Int32)))))
section S_X10_without
variable {p : Program} {l : Launch} {e : Env} {s : State} {m : MethodId} {args : Array Value} {below : List Frame} {meth : Method} {c : Code} {D : mmD} {b0 sz : Nat} {f : mmF}
set_option maxHeartbeats 4000000 in
set_option maxRecDepth 100000 in
theorem w_X10_without (C0 : CX cX10_without 3 (some .int) wsX10_without RX10 p s m args meth c D b0) {v0 : Int32} {v1 : Int32} {res : Int32} (h : f_X10_without v0 v1 f = some res) : ∀ (H : Heap) (locs : List Loc) (ls : Array Slot), MM vwCl D b0 f sz s H → mS b0 s H locs → lv_has ls 3 [(0, .int v0), (1, .int v1)] → W p l e ({ frames := 0, cells := 0, slots := 0, locals := 0 } : Room) s m args below meth c H locs 0 0 (MQ below (QW D b0 (some (.int res)) f sz) args s 0 0 (fun q => b0 ≤ q)) (F0 m 0 ls []) := by
  obtain ⟨hx, hb, hr, hml, hown, hts, hlocks, hK⟩ := id C0
  intro H locs ls hM hS hl
  unfold f_X10_without at h
  refine lv_iconst (v := (1 : Int32)) hx hb dX10_without_0 (by decide) ?_
  refine lv_iload_n hx hb dX10_without_1 rfl (lv_at hl 1 rfl) ?_
  refine lv_ishl hx hb dX10_without_2 ?_
  refine lv_iconst (v := (1 : Int32)) hx hb dX10_without_3 (by decide) ?_
  refine lv_isub hx hb dX10_without_4 ?_
  refine lv_istore_n (lv' := [(2, .int (((1 : Int32) <<< (v1 &&& 31)) - (1 : Int32))), (0, .int v0), (1, .int v1)]) hx hb dX10_without_5 rfl hl (by decide) rfl (fun ls hl => ?_)
  refine lv_iload_n hx hb dX10_without_6 rfl (lv_at hl 1 rfl) ?_
  refine lv_iload_n hx hb dX10_without_7 rfl (lv_at hl 0 rfl) ?_
  refine lv_iand hx hb dX10_without_8 ?_
  refine lv_iload_n hx hb dX10_without_9 rfl (lv_at hl 1 rfl) ?_
  refine lv_iconst (v := (1 : Int32)) hx hb dX10_without_10 (by decide) ?_
  refine lv_ishr hx hb dX10_without_11 ?_
  refine lv_iload_n hx hb dX10_without_12 rfl (lv_at hl 0 rfl) ?_
  refine lv_iconst (v := (-1 : Int32)) hx hb dX10_without_13 (by decide) ?_
  refine lv_ixor hx hb dX10_without_14 ?_
  refine lv_iand hx hb dX10_without_15 ?_
  refine lv_ior hx hb dX10_without_16 ?_
  replace h := Option.some.inj h; subst h
  exact W.iret hx hb hr (fun t ht hW => ⟨rfl, by rw [ht]; exact hM.moved hW.alike, hS.F ht⟩) hS.2.2 dX10_without_17
set_option maxHeartbeats 4000000 in
set_option maxRecDepth 100000 in
theorem c_X10_without (l : Launch) (D : mmD) (b0 sz : Nat) {v0 : Int32} {v1 : Int32} {f : mmF} {res : Int32} (h : f_X10_without v0 v1 f = some res) : Met l yX10_without wsX10_without ({ frames := 0, cells := 0, slots := 0, locals := 0 } : Room) (va_Pc [.int v0, .int v1] (PW D b0 f sz)) (QW D b0 (some (.int res)) f sz) 0 0 (fun q => b0 ≤ q) := by
  refine Met.ofW (cc := cX10_without) (maxL := 3) (ret := (some .int)) (by decide) rfl ?_
  intro p e s m args below meth c s₁ B hml hv
  obtain ⟨rfl, hM, hK⟩ := hv
  have hl := lv_entry ([.int v0, .int v1]) (n := 3) (Nat.le_of_ble_eq_true rfl)
  rw [lg_entry_eq]
  generalize (lg_sl ([.int v0, .int v1]) ++ List.replicate (3 - (lg_sl ([.int v0, .int v1])).length) Slot.unset).toArray = ls at hl ⊢
  have hl : lv_has ls 3 [(0, .int v0), (1, .int v1)] := hl
  exact w_X10_without ⟨B.exec, B.bytes, B.returns, hml, findClass_of_methodNamed B.named, atoms_spec (ws := wsX10_without) B.pre, B.notSynchronized, hK⟩ h s.heap [] ls hM va_S.rf hl
end S_X10_without
/-! X10_removes -/
set_option maxRecDepth 20000 in
theorem qi_X10_removes_X10 : ∀ w ∈ u_ws RX10 TX10 25, w ∈ wsX10_removes := by decide +kernel
set_option maxRecDepth 20000 in
theorem q_X10_removes_1 : Cond.fieldLink RX10 7 "StageTruthsModel" "now" "[I" ∈ wsX10_removes := by decide +kernel
noncomputable def f_X10_removes_43   : Nat → Nat → Int32 → Int32 → mmF → Option (mmF)
  | 0, _, _, _, _ => none
  | n + 1, v0, v2, v3, f =>
    if (v2 - (1 : Int32)) ≤ v3 then
    ((ldR f v0 10 0).bind fun x95 =>
    (ldA 0 f x95 (16 : Int32)).bind fun x101 =>
    (stA 0 f x95 (16 : Int32) (x101 - (1 : Int32))).bind fun f104 =>
    some (f104))
    else
    (ldR f v0 10 0).bind fun x51 =>
    (ldR f v0 10 0).bind fun x58 =>
    (ldA 0 f x58 (((0 : Int32) + v3) + (1 : Int32))).bind fun x66 =>
    (stA 0 f x51 ((0 : Int32) + v3) x66).bind fun f67 =>
    (ldR f67 v0 10 0).bind fun x69 =>
    (ldR f67 v0 10 0).bind fun x77 =>
    (ldA 0 f67 x77 (((8 : Int32) + v3) + (1 : Int32))).bind fun x86 =>
    (stA 0 f67 x69 ((8 : Int32) + v3) x86).bind fun f87 =>
    f_X10_removes_43 n v0 v2 (v3 + (1 : Int32)) f87
noncomputable def f_X10_removes_10   : Nat → Nat → Int32 → Int32 → Int32 → mmF → Option (mmF)
  | 0, _, _, _, _, _ => none
  | n + 1, v0, v1, v2, v3, f =>
    if v2 ≤ v3 then
    (f_X10_removes_43 FU v0 v2 v1 f)
    else
    (ldR f v0 10 0).bind fun x16 =>
    (ldR f v0 10 0).bind fun x23 =>
    (ldA 0 f x23 ((0 : Int32) + v3)).bind fun x29 =>
    (f_X10_without x29 v1 f).bind fun q31 =>
    (stA 0 f x16 ((0 : Int32) + v3) q31).bind fun f34 =>
    f_X10_removes_10 n v0 v1 v2 (v3 + (1 : Int32)) f34
noncomputable def f_X10_removes (v0 : Nat) (v1 : Int32) (f : mmF) : Option (mmF) :=
  (ldR f v0 10 0).bind fun x1 =>
  (ldA 0 f x1 (16 : Int32)).bind fun x6 =>
  f_X10_removes_10 FU v0 v1 x6 (0 : Int32) f
section S_X10_removes
variable {p : Program} {l : Launch} {e : Env} {s : State} {m : MethodId} {args : Array Value} {below : List Frame} {meth : Method} {c : Code} {D : mmD} {b0 sz : Nat} {f : mmF}
set_option maxHeartbeats 4000000 in
set_option maxRecDepth 100000 in
theorem w_X10_removes_43 (C0 : CX cX10_removes 4 none wsX10_removes RX10 p s m args meth c D b0) {res : mmF} : ∀ (n : Nat), ∀ (v0 : Nat) (v2 : Int32) (v3 : Int32) (f : mmF), f_X10_removes_43 n v0 v2 v3 f = some res → ∀ (H : Heap) (locs : List Loc) (ls : Array Slot), MM vwCl D b0 f sz s H → mS b0 s H locs → lv_has ls 4 [(0, .ref v0), (2, .int v2), (3, .int v3)] → W p l e ({ frames := 1, cells := 0, slots := 0, locals := 22 } : Room) s m args below meth c H locs 0 0 (MQ below (QW D b0 none res sz) args s 0 0 (fun q => b0 ≤ q)) (F0 m 43 ls []) := by
  obtain ⟨hx, hb, hr, hml, hown, hts, hlocks, hK⟩ := id C0
  intro n
  induction n with
  | zero =>
    intro v0 v2 v3 f h
    have h : (none : Option (mmF)) = some res := h
    cases h
  | succ n ih =>
    intro v0 v2 v3 f h H locs ls hM hS hl
    rw [f_X10_removes_43] at h
    refine lv_iload_n hx hb dX10_removes_43 rfl (lv_at hl 2 rfl) ?_
    refine lv_iload_n hx hb dX10_removes_44 rfl (lv_at hl 1 rfl) ?_
    refine lv_iconst (v := (1 : Int32)) hx hb dX10_removes_45 (by decide) ?_
    refine lv_isub hx hb dX10_removes_46 ?_
    refine lv_icmp_ge (tgt := 94) hx hb dX10_removes_47 (by decide) (fun c47 => ?_) (fun c47 => ?_)
    · replace h := o_t c47 h
      refine lv_aload_n hx hb dX10_removes_94 rfl (lv_at hl 0 rfl) ?_
      replace h := o_b h; obtain ⟨x95, h95, h⟩ := h
      refine m_get (C := RX10) (T := TX10) (N := 25) (ci := 10) hx hb hts qi_X10_removes_X10 hown hK.1 hM 0 (ldR_F h95) rfl (by decide) (hts _ q_X10_removes_1) (fun _ h9 => h9) dX10_removes_95 ?_
      refine lv_bipush (v := (16 : Int32)) hx hb dX10_removes_98 (by decide) ?_
      refine lv_dup2_11 hx hb dX10_removes_100 rfl rfl ?_
      replace h := o_b h; obtain ⟨x101, h101, h⟩ := h
      refine m_iald hx hb hK.1 hM hS rfl h101 dX10_removes_101 ?_
      refine lv_iconst (v := (1 : Int32)) hx hb dX10_removes_102 (by decide) ?_
      refine lv_isub hx hb dX10_removes_103 ?_
      replace h := o_b h; obtain ⟨f104, h104, h⟩ := h
      refine m_iast hx hb hK.1 hM hS rfl h104 dX10_removes_104 (fun H locs hM hS => ?_)
      replace h := Option.some.inj h; subst h
      exact W.vret hx hb hr (fun t ht hW => ⟨rfl, by rw [ht]; exact hM.moved hW.alike, hS.F ht⟩) hS.2.2 dX10_removes_105
    replace h := o_f c47 h
    refine lv_aload_n hx hb dX10_removes_50 rfl (lv_at hl 0 rfl) ?_
    replace h := o_b h; obtain ⟨x51, h51, h⟩ := h
    refine m_get (C := RX10) (T := TX10) (N := 25) (ci := 10) hx hb hts qi_X10_removes_X10 hown hK.1 hM 0 (ldR_F h51) rfl (by decide) (hts _ q_X10_removes_1) (fun _ h9 => h9) dX10_removes_51 ?_
    refine lv_iconst (v := (0 : Int32)) hx hb dX10_removes_54 (by decide) ?_
    refine lv_iload_n hx hb dX10_removes_55 rfl (lv_at hl 2 rfl) ?_
    refine lv_iadd hx hb dX10_removes_56 ?_
    refine lv_aload_n hx hb dX10_removes_57 rfl (lv_at hl 0 rfl) ?_
    replace h := o_b h; obtain ⟨x58, h58, h⟩ := h
    refine m_get (C := RX10) (T := TX10) (N := 25) (ci := 10) hx hb hts qi_X10_removes_X10 hown hK.1 hM 0 (ldR_F h58) rfl (by decide) (hts _ q_X10_removes_1) (fun _ h9 => h9) dX10_removes_58 ?_
    refine lv_iconst (v := (0 : Int32)) hx hb dX10_removes_61 (by decide) ?_
    refine lv_iload_n hx hb dX10_removes_62 rfl (lv_at hl 2 rfl) ?_
    refine lv_iadd hx hb dX10_removes_63 ?_
    refine lv_iconst (v := (1 : Int32)) hx hb dX10_removes_64 (by decide) ?_
    refine lv_iadd hx hb dX10_removes_65 ?_
    replace h := o_b h; obtain ⟨x66, h66, h⟩ := h
    refine m_iald hx hb hK.1 hM hS rfl h66 dX10_removes_66 ?_
    replace h := o_b h; obtain ⟨f67, h67, h⟩ := h
    refine m_iast hx hb hK.1 hM hS rfl h67 dX10_removes_67 (fun H locs hM hS => ?_)
    refine lv_aload_n hx hb dX10_removes_68 rfl (lv_at hl 0 rfl) ?_
    replace h := o_b h; obtain ⟨x69, h69, h⟩ := h
    refine m_get (C := RX10) (T := TX10) (N := 25) (ci := 10) hx hb hts qi_X10_removes_X10 hown hK.1 hM 0 (ldR_F h69) rfl (by decide) (hts _ q_X10_removes_1) (fun _ h9 => h9) dX10_removes_69 ?_
    refine lv_bipush (v := (8 : Int32)) hx hb dX10_removes_72 (by decide) ?_
    refine lv_iload_n hx hb dX10_removes_74 rfl (lv_at hl 2 rfl) ?_
    refine lv_iadd hx hb dX10_removes_75 ?_
    refine lv_aload_n hx hb dX10_removes_76 rfl (lv_at hl 0 rfl) ?_
    replace h := o_b h; obtain ⟨x77, h77, h⟩ := h
    refine m_get (C := RX10) (T := TX10) (N := 25) (ci := 10) hx hb hts qi_X10_removes_X10 hown hK.1 hM 0 (ldR_F h77) rfl (by decide) (hts _ q_X10_removes_1) (fun _ h9 => h9) dX10_removes_77 ?_
    refine lv_bipush (v := (8 : Int32)) hx hb dX10_removes_80 (by decide) ?_
    refine lv_iload_n hx hb dX10_removes_82 rfl (lv_at hl 2 rfl) ?_
    refine lv_iadd hx hb dX10_removes_83 ?_
    refine lv_iconst (v := (1 : Int32)) hx hb dX10_removes_84 (by decide) ?_
    refine lv_iadd hx hb dX10_removes_85 ?_
    replace h := o_b h; obtain ⟨x86, h86, h⟩ := h
    refine m_iald hx hb hK.1 hM hS rfl h86 dX10_removes_86 ?_
    replace h := o_b h; obtain ⟨f87, h87, h⟩ := h
    refine m_iast hx hb hK.1 hM hS rfl h87 dX10_removes_87 (fun H locs hM hS => ?_)
    refine lv_iinc (v := (v3 + (1 : Int32))) (lv' := [(3, .int (v3 + (1 : Int32))), (0, .ref v0), (2, .int v2)]) hx hb dX10_removes_88 hl (k := 2) rfl rfl (by decide) rfl (fun ls hl => ?_)
    refine lv_goto (tgt := 43) hx hb dX10_removes_91 (by decide) ?_
    exact ih _ _ _ _ h _ _ _ hM hS (lv_sub hl [1, 2, 0] rfl)
set_option maxHeartbeats 4000000 in
set_option maxRecDepth 100000 in
theorem w_X10_removes_10 (C0 : CX cX10_removes 4 none wsX10_removes RX10 p s m args meth c D b0) {res : mmF} : ∀ (n : Nat), ∀ (v0 : Nat) (v1 : Int32) (v2 : Int32) (v3 : Int32) (f : mmF), f_X10_removes_10 n v0 v1 v2 v3 f = some res → ∀ (H : Heap) (locs : List Loc) (ls : Array Slot), MM vwCl D b0 f sz s H → mS b0 s H locs → lv_has ls 4 [(0, .ref v0), (1, .int v1), (2, .int v2), (3, .int v3)] → W p l e ({ frames := 1, cells := 0, slots := 0, locals := 22 } : Room) s m args below meth c H locs 0 0 (MQ below (QW D b0 none res sz) args s 0 0 (fun q => b0 ≤ q)) (F0 m 10 ls []) := by
  obtain ⟨hx, hb, hr, hml, hown, hts, hlocks, hK⟩ := id C0
  intro n
  induction n with
  | zero =>
    intro v0 v1 v2 v3 f h
    have h : (none : Option (mmF)) = some res := h
    cases h
  | succ n ih =>
    intro v0 v1 v2 v3 f h H locs ls hM hS hl
    rw [f_X10_removes_10] at h
    refine lv_iload_n hx hb dX10_removes_10 rfl (lv_at hl 3 rfl) ?_
    refine lv_iload_n hx hb dX10_removes_11 rfl (lv_at hl 2 rfl) ?_
    refine lv_icmp_ge (tgt := 41) hx hb dX10_removes_12 (by decide) (fun c12 => ?_) (fun c12 => ?_)
    · replace h := o_t c12 h
      refine lv_iload_n hx hb dX10_removes_41 rfl (lv_at hl 1 rfl) ?_
      refine lv_istore_n (lv' := [(3, .int v1), (0, .ref v0), (1, .int v1), (2, .int v2)]) hx hb dX10_removes_42 rfl hl (by decide) rfl (fun ls hl => ?_)
      exact w_X10_removes_43 C0 FU _ _ _ _ h _ _ _ hM hS (lv_sub hl [1, 3, 0] rfl)
    replace h := o_f c12 h
    refine lv_aload_n hx hb dX10_removes_15 rfl (lv_at hl 0 rfl) ?_
    replace h := o_b h; obtain ⟨x16, h16, h⟩ := h
    refine m_get (C := RX10) (T := TX10) (N := 25) (ci := 10) hx hb hts qi_X10_removes_X10 hown hK.1 hM 0 (ldR_F h16) rfl (by decide) (hts _ q_X10_removes_1) (fun _ h9 => h9) dX10_removes_16 ?_
    refine lv_iconst (v := (0 : Int32)) hx hb dX10_removes_19 (by decide) ?_
    refine lv_iload_n hx hb dX10_removes_20 rfl (lv_at hl 3 rfl) ?_
    refine lv_iadd hx hb dX10_removes_21 ?_
    refine lv_aload_n hx hb dX10_removes_22 rfl (lv_at hl 0 rfl) ?_
    replace h := o_b h; obtain ⟨x23, h23, h⟩ := h
    refine m_get (C := RX10) (T := TX10) (N := 25) (ci := 10) hx hb hts qi_X10_removes_X10 hown hK.1 hM 0 (ldR_F h23) rfl (by decide) (hts _ q_X10_removes_1) (fun _ h9 => h9) dX10_removes_23 ?_
    refine lv_iconst (v := (0 : Int32)) hx hb dX10_removes_26 (by decide) ?_
    refine lv_iload_n hx hb dX10_removes_27 rfl (lv_at hl 3 rfl) ?_
    refine lv_iadd hx hb dX10_removes_28 ?_
    replace h := o_b h; obtain ⟨x29, h29, h⟩ := h
    refine m_iald hx hb hK.1 hM hS rfl h29 dX10_removes_29 ?_
    refine lv_iload_n hx hb dX10_removes_30 rfl (lv_at hl 1 rfl) ?_
    replace h := o_b h; obtain ⟨q31, h31, h⟩ := h
    refine m_call (va_runS (As := [.int x29, .int v1]) (rest := [.int ((0 : Int32) + v3), .ref x16]) ⟨hx, hb, hml, hown, hts⟩ (c_X10_without l D b0 sz h31) (va_cwS 2 hts gX10_removes_X10_without rfl rfl rfl (by decide +kernel) ⟨Nat.le_of_ble_eq_true rfl, Nat.le_of_ble_eq_true rfl⟩) ⟨PW.blind, (fun U hU hW => ⟨rfl, PW.call hK hM hS hU hW⟩)⟩ rfl rfl hl.1 rfl (lv_room (Nat.le_of_ble_eq_true rfl)) dX10_removes_31 ⟨(Nat.le_refl _), (Nat.le_refl _)⟩) hS (fun H locs hM hS => ?_)
    replace h := o_b h; obtain ⟨f34, h34, h⟩ := h
    refine m_iast hx hb hK.1 hM hS rfl h34 dX10_removes_34 (fun H locs hM hS => ?_)
    refine lv_iinc (v := (v3 + (1 : Int32))) (lv' := [(3, .int (v3 + (1 : Int32))), (0, .ref v0), (1, .int v1), (2, .int v2)]) hx hb dX10_removes_35 hl (k := 3) rfl rfl (by decide) rfl (fun ls hl => ?_)
    refine lv_goto (tgt := 10) hx hb dX10_removes_38 (by decide) ?_
    exact ih _ _ _ _ _ h _ _ _ hM hS (lv_sub hl [1, 2, 3, 0] rfl)
set_option maxHeartbeats 4000000 in
set_option maxRecDepth 100000 in
theorem w_X10_removes (C0 : CX cX10_removes 4 none wsX10_removes RX10 p s m args meth c D b0) {v0 : Nat} {v1 : Int32} {res : mmF} (h : f_X10_removes v0 v1 f = some res) : ∀ (H : Heap) (locs : List Loc) (ls : Array Slot), MM vwCl D b0 f sz s H → mS b0 s H locs → lv_has ls 4 [(0, .ref v0), (1, .int v1)] → W p l e ({ frames := 1, cells := 0, slots := 0, locals := 22 } : Room) s m args below meth c H locs 0 0 (MQ below (QW D b0 none res sz) args s 0 0 (fun q => b0 ≤ q)) (F0 m 0 ls []) := by
  obtain ⟨hx, hb, hr, hml, hown, hts, hlocks, hK⟩ := id C0
  intro H locs ls hM hS hl
  unfold f_X10_removes at h
  refine lv_aload_n hx hb dX10_removes_0 rfl (lv_at hl 0 rfl) ?_
  replace h := o_b h; obtain ⟨x1, h1, h⟩ := h
  refine m_get (C := RX10) (T := TX10) (N := 25) (ci := 10) hx hb hts qi_X10_removes_X10 hown hK.1 hM 0 (ldR_F h1) rfl (by decide) (hts _ q_X10_removes_1) (fun _ h9 => h9) dX10_removes_1 ?_
  refine lv_bipush (v := (16 : Int32)) hx hb dX10_removes_4 (by decide) ?_
  replace h := o_b h; obtain ⟨x6, h6, h⟩ := h
  refine m_iald hx hb hK.1 hM hS rfl h6 dX10_removes_6 ?_
  refine lv_istore_n (lv' := [(2, .int x6), (0, .ref v0), (1, .int v1)]) hx hb dX10_removes_7 rfl hl (by decide) rfl (fun ls hl => ?_)
  refine lv_iconst (v := (0 : Int32)) hx hb dX10_removes_8 (by decide) ?_
  refine lv_istore_n (lv' := [(3, .int (0 : Int32)), (2, .int x6), (0, .ref v0), (1, .int v1)]) hx hb dX10_removes_9 rfl hl (by decide) rfl (fun ls hl => ?_)
  exact w_X10_removes_10 C0 FU _ _ _ _ _ h _ _ _ hM hS (lv_sub hl [2, 3, 1, 0] rfl)
set_option maxHeartbeats 4000000 in
set_option maxRecDepth 100000 in
theorem c_X10_removes (l : Launch) (D : mmD) (b0 sz : Nat) {v0 : Nat} {v1 : Int32} {f : mmF} {res : mmF} (h : f_X10_removes v0 v1 f = some res) : Met l yX10_removes wsX10_removes ({ frames := 1, cells := 0, slots := 0, locals := 22 } : Room) (va_Pc [.ref v0, .int v1] (PW D b0 f sz)) (QW D b0 none res sz) 0 0 (fun q => b0 ≤ q) := by
  refine Met.ofW (cc := cX10_removes) (maxL := 4) (ret := none) (by decide) rfl ?_
  intro p e s m args below meth c s₁ B hml hv
  obtain ⟨rfl, hM, hK⟩ := hv
  have hl := lv_entry ([.ref v0, .int v1]) (n := 4) (Nat.le_of_ble_eq_true rfl)
  rw [lg_entry_eq]
  generalize (lg_sl ([.ref v0, .int v1]) ++ List.replicate (4 - (lg_sl ([.ref v0, .int v1])).length) Slot.unset).toArray = ls at hl ⊢
  have hl : lv_has ls 4 [(0, .ref v0), (1, .int v1)] := hl
  exact w_X10_removes ⟨B.exec, B.bytes, B.returns, hml, findClass_of_methodNamed B.named, atoms_spec (ws := wsX10_removes) B.pre, B.notSynchronized, hK⟩ h s.heap [] ls hM va_S.rf hl
end S_X10_removes
/-! X10_removeStage -/
set_option maxRecDepth 20000 in
theorem qi_X10_removeStage_X10 : ∀ w ∈ u_ws RX10 TX10 25, w ∈ wsX10_removeStage := by decide +kernel
set_option maxRecDepth 20000 in
theorem q_X10_removeStage_1 : Cond.fieldLink RX10 7 "StageTruthsModel" "now" "[I" ∈ wsX10_removeStage := by decide +kernel
noncomputable def f_X10_removeStage (v0 : Nat) (v1 : Int32) (f : mmF) : Option (Int32 × mmF) :=
  (ckO f v0 10).bind fun _ =>
  (f_X10_noStage v0 v1 f).bind fun q2 =>
  if q2 = 0 then
  ((ldR f v0 10 0).bind fun x11 =>
  (ldA 0 f x11 (16 : Int32)).bind fun x16 =>
  if x16 = (1 : Int32) then
  (some ((-4 : Int32), f))
  else
  (ckO f v0 10).bind fun _ =>
  (f_X10_record v0 f).bind fun q25 =>
  (ckO q25 v0 10).bind fun _ =>
  (f_X10_removes v0 v1 q25).bind fun q30 =>
  (ldR q30 v0 10 0).bind fun x34 =>
  (ldA 0 q30 x34 (16 : Int32)).bind fun x39 =>
  some (x39, q30))
  else
  some ((-1 : Int32), f)
section S_X10_removeStage
variable {p : Program} {l : Launch} {e : Env} {s : State} {m : MethodId} {args : Array Value} {below : List Frame} {meth : Method} {c : Code} {D : mmD} {b0 sz : Nat} {f : mmF}
set_option maxHeartbeats 4000000 in
set_option maxRecDepth 100000 in
theorem w_X10_removeStage (C0 : CX cX10_removeStage 2 (some .int) wsX10_removeStage RX10 p s m args meth c D b0) {v0 : Nat} {v1 : Int32} {res : Int32 × mmF} (h : f_X10_removeStage v0 v1 f = some res) : ∀ (H : Heap) (locs : List Loc) (ls : Array Slot), MM vwCl D b0 f sz s H → mS b0 s H locs → lv_has ls 2 [(0, .ref v0), (1, .int v1)] → W p l e ({ frames := 2, cells := 0, slots := 0, locals := 45 } : Room) s m args below meth c H locs 0 0 (MQ below (QW D b0 (some (.int res.1)) res.2 sz) args s 0 0 (fun q => b0 ≤ q)) (F0 m 0 ls []) := by
  obtain ⟨hx, hb, hr, hml, hown, hts, hlocks, hK⟩ := id C0
  intro H locs ls hM hS hl
  unfold f_X10_removeStage at h
  refine lv_aload_n hx hb dX10_removeStage_0 rfl (lv_at hl 0 rfl) ?_
  refine lv_iload_n hx hb dX10_removeStage_1 rfl (lv_at hl 1 rfl) ?_
  replace h := o_b h; obtain ⟨_, k2, h⟩ := h
  replace h := o_b h; obtain ⟨q2, h2, h⟩ := h
  refine m_call (va_runV (As := [.int v1]) (rest := []) ⟨hx, hb, hml, hown, hts⟩ (c_X10_noStage l D b0 sz h2) (cwV 1 hts gX10_removeStage_X10_noStage rfl rfl rfl (by decide +kernel) ⟨Nat.le_of_ble_eq_true rfl, Nat.le_of_ble_eq_true rfl⟩) ⟨PW.blind, m_recv (ci := 10) rfl hK hM k2, (fun U hU hW => ⟨rfl, PW.call hK hM hS hU hW⟩)⟩ rfl rfl hl.1 rfl (lv_room (Nat.le_of_ble_eq_true rfl)) dX10_removeStage_2 ⟨(Nat.le_refl _), (Nat.le_refl _)⟩) hS (fun H locs hM hS => ?_)
  refine lv_if_eq (tgt := 10) hx hb dX10_removeStage_5 (by decide) (fun c5 => ?_) (fun c5 => ?_)
  · replace h := o_t c5 h
    refine lv_aload_n hx hb dX10_removeStage_10 rfl (lv_at hl 0 rfl) ?_
    replace h := o_b h; obtain ⟨x11, h11, h⟩ := h
    refine m_get (C := RX10) (T := TX10) (N := 25) (ci := 10) hx hb hts qi_X10_removeStage_X10 hown hK.1 hM 0 (ldR_F h11) rfl (by decide) (hts _ q_X10_removeStage_1) (fun _ h9 => h9) dX10_removeStage_11 ?_
    refine lv_bipush (v := (16 : Int32)) hx hb dX10_removeStage_14 (by decide) ?_
    replace h := o_b h; obtain ⟨x16, h16, h⟩ := h
    refine m_iald hx hb hK.1 hM hS rfl h16 dX10_removeStage_16 ?_
    refine lv_iconst (v := (1 : Int32)) hx hb dX10_removeStage_17 (by decide) ?_
    refine lv_icmp_ne (tgt := 24) hx hb dX10_removeStage_18 (by decide) (fun c18 => ?_) (fun c18 => ?_)
    · replace h := o_f c18 h
      refine lv_aload_n hx hb dX10_removeStage_24 rfl (lv_at hl 0 rfl) ?_
      replace h := o_b h; obtain ⟨_, k25, h⟩ := h
      replace h := o_b h; obtain ⟨q25, h25, h⟩ := h
      refine m_call (va_runV (As := []) (rest := []) ⟨hx, hb, hml, hown, hts⟩ (c_X10_record l D b0 sz h25) (cwV 0 hts gX10_removeStage_X10_record rfl rfl rfl (by decide +kernel) ⟨Nat.le_of_ble_eq_true rfl, Nat.le_of_ble_eq_true rfl⟩) ⟨PW.blind, m_recv (ci := 10) rfl hK hM k25, (fun U hU hW => ⟨rfl, PW.call hK hM hS hU hW⟩)⟩ rfl rfl hl.1 rfl (lv_room (Nat.le_of_ble_eq_true rfl)) dX10_removeStage_25 ⟨(Nat.le_refl _), (Nat.le_refl _)⟩) hS (fun H locs hM hS => ?_)
      refine lv_aload_n hx hb dX10_removeStage_28 rfl (lv_at hl 0 rfl) ?_
      refine lv_iload_n hx hb dX10_removeStage_29 rfl (lv_at hl 1 rfl) ?_
      replace h := o_b h; obtain ⟨_, k30, h⟩ := h
      replace h := o_b h; obtain ⟨q30, h30, h⟩ := h
      refine m_call (va_runV (As := [.int v1]) (rest := []) ⟨hx, hb, hml, hown, hts⟩ (c_X10_removes l D b0 sz h30) (cwV 1 hts gX10_removeStage_X10_removes rfl rfl rfl (by decide +kernel) ⟨Nat.le_of_ble_eq_true rfl, Nat.le_of_ble_eq_true rfl⟩) ⟨PW.blind, m_recv (ci := 10) rfl hK hM k30, (fun U hU hW => ⟨rfl, PW.call hK hM hS hU hW⟩)⟩ rfl rfl hl.1 rfl (lv_room (Nat.le_of_ble_eq_true rfl)) dX10_removeStage_30 ⟨(Nat.le_refl _), (Nat.le_refl _)⟩) hS (fun H locs hM hS => ?_)
      refine lv_aload_n hx hb dX10_removeStage_33 rfl (lv_at hl 0 rfl) ?_
      replace h := o_b h; obtain ⟨x34, h34, h⟩ := h
      refine m_get (C := RX10) (T := TX10) (N := 25) (ci := 10) hx hb hts qi_X10_removeStage_X10 hown hK.1 hM 0 (ldR_F h34) rfl (by decide) (hts _ q_X10_removeStage_1) (fun _ h9 => h9) dX10_removeStage_34 ?_
      refine lv_bipush (v := (16 : Int32)) hx hb dX10_removeStage_37 (by decide) ?_
      replace h := o_b h; obtain ⟨x39, h39, h⟩ := h
      refine m_iald hx hb hK.1 hM hS rfl h39 dX10_removeStage_39 ?_
      replace h := Option.some.inj h; subst h
      exact W.iret hx hb hr (fun t ht hW => ⟨rfl, by rw [ht]; exact hM.moved hW.alike, hS.F ht⟩) hS.2.2 dX10_removeStage_40
    replace h := o_t c18 h
    refine lv_bipush (v := (-4 : Int32)) hx hb dX10_removeStage_21 (by decide) ?_
    replace h := Option.some.inj h; subst h
    exact W.iret hx hb hr (fun t ht hW => ⟨rfl, by rw [ht]; exact hM.moved hW.alike, hS.F ht⟩) hS.2.2 dX10_removeStage_23
  replace h := o_f c5 h
  refine lv_iconst (v := (-1 : Int32)) hx hb dX10_removeStage_8 (by decide) ?_
  replace h := Option.some.inj h; subst h
  exact W.iret hx hb hr (fun t ht hW => ⟨rfl, by rw [ht]; exact hM.moved hW.alike, hS.F ht⟩) hS.2.2 dX10_removeStage_9
set_option maxHeartbeats 4000000 in
set_option maxRecDepth 100000 in
theorem c_X10_removeStage (l : Launch) (D : mmD) (b0 sz : Nat) {v0 : Nat} {v1 : Int32} {f : mmF} {res : Int32 × mmF} (h : f_X10_removeStage v0 v1 f = some res) : Met l yX10_removeStage wsX10_removeStage ({ frames := 2, cells := 0, slots := 0, locals := 45 } : Room) (va_Pc [.ref v0, .int v1] (PW D b0 f sz)) (QW D b0 (some (.int res.1)) res.2 sz) 0 0 (fun q => b0 ≤ q) := by
  refine Met.ofW (cc := cX10_removeStage) (maxL := 2) (ret := (some .int)) (by decide) rfl ?_
  intro p e s m args below meth c s₁ B hml hv
  obtain ⟨rfl, hM, hK⟩ := hv
  have hl := lv_entry ([.ref v0, .int v1]) (n := 2) (Nat.le_of_ble_eq_true rfl)
  rw [lg_entry_eq]
  generalize (lg_sl ([.ref v0, .int v1]) ++ List.replicate (2 - (lg_sl ([.ref v0, .int v1])).length) Slot.unset).toArray = ls at hl ⊢
  have hl : lv_has ls 2 [(0, .ref v0), (1, .int v1)] := hl
  exact w_X10_removeStage ⟨B.exec, B.bytes, B.returns, hml, findClass_of_methodNamed B.named, atoms_spec (ws := wsX10_removeStage) B.pre, B.notSynchronized, hK⟩ h s.heap [] ls hM va_S.rf hl
end S_X10_removeStage
/-! X10_isMet -/
set_option maxRecDepth 20000 in
theorem qi_X10_isMet_X10 : ∀ w ∈ u_ws RX10 TX10 25, w ∈ wsX10_isMet := by decide +kernel
set_option maxRecDepth 20000 in
theorem q_X10_isMet_1 : Cond.fieldLink RX10 7 "StageTruthsModel" "now" "[I" ∈ wsX10_isMet := by decide +kernel
set_option maxRecDepth 20000 in
theorem q_X10_isMet_2 : Cond.fieldLink RX10 19 "StageTruthsModel" "like" "[I" ∈ wsX10_isMet := by decide +kernel
noncomputable def f_X10_isMet_42 (k2 : Nat → Int32 → Int32 → Int32 → Option (Int32)) (f : mmF) (v0 : Nat) (v1 : Int32) (v2 : Int32) (v3 : Int32) : Option (Int32) :=
  k2 v0 v1 v2 (v3 + (1 : Int32))
noncomputable def f_X10_isMet_2  (f : mmF) : Nat → Nat → Int32 → Int32 → Int32 → Option (Int32)
  | 0, _, _, _, _ => none
  | n + 1, v0, v1, v2, v3 =>
    (ldR f v0 10 0).bind fun x4 =>
    (ldA 0 f x4 (16 : Int32)).bind fun x9 =>
    if x9 ≤ v3 then
    (some ((1 : Int32)))
    else
    (ckO f v0 10).bind fun _ =>
    (f_X10_leadsTo v0 v1 v3 f).bind fun q16 =>
    if q16 = 0 then
    (f_X10_isMet_42 (fun a0 a1 a2 a3 => f_X10_isMet_2 f n a0 a1 a2 a3) f v0 v1 v2 v3)
    else
    (ldR f v0 10 5).bind fun x23 =>
    (ldA 0 f x23 v3).bind fun x27 =>
    (ldR f v0 10 0).bind fun x29 =>
    (ldA 0 f x29 ((0 : Int32) + v2)).bind fun x35 =>
    if (x27 &&& x35) = 0 then
    (some ((0 : Int32)))
    else
    f_X10_isMet_42 (fun a0 a1 a2 a3 => f_X10_isMet_2 f n a0 a1 a2 a3) f v0 v1 v2 v3
noncomputable def f_X10_isMet (v0 : Nat) (v1 : Int32) (v2 : Int32) (f : mmF) : Option (Int32) :=
  f_X10_isMet_2 f FU v0 v1 v2 (0 : Int32)
section S_X10_isMet
variable {p : Program} {l : Launch} {e : Env} {s : State} {m : MethodId} {args : Array Value} {below : List Frame} {meth : Method} {c : Code} {D : mmD} {b0 sz : Nat} {f : mmF}
set_option maxHeartbeats 4000000 in
set_option maxRecDepth 100000 in
theorem w_X10_isMet_42 (C0 : CX cX10_isMet 4 (some .boolean) wsX10_isMet RX10 p s m args meth c D b0) {k2 : Nat → Int32 → Int32 → Int32 → Option (Int32)} {res : Int32} (hk2 : ∀ (v0 : Nat) (v1 : Int32) (v2 : Int32) (v3 : Int32), k2 v0 v1 v2 v3 = some res → ∀ (H : Heap) (locs : List Loc) (ls : Array Slot), MM vwCl D b0 f sz s H → mS b0 s H locs → lv_has ls 4 [(0, .ref v0), (1, .int v1), (2, .int v2), (3, .int v3)] → W p l e ({ frames := 1, cells := 0, slots := 0, locals := 22 } : Room) s m args below meth c H locs 0 0 (MQ below (QW D b0 (some (.int res)) f sz) args s 0 0 (fun q => b0 ≤ q)) (F0 m 2 ls [])) : ∀ (v0 : Nat) (v1 : Int32) (v2 : Int32) (v3 : Int32), f_X10_isMet_42 k2 f v0 v1 v2 v3 = some res → ∀ (H : Heap) (locs : List Loc) (ls : Array Slot), MM vwCl D b0 f sz s H → mS b0 s H locs → lv_has ls 4 [(0, .ref v0), (1, .int v1), (2, .int v2), (3, .int v3)] → W p l e ({ frames := 1, cells := 0, slots := 0, locals := 22 } : Room) s m args below meth c H locs 0 0 (MQ below (QW D b0 (some (.int res)) f sz) args s 0 0 (fun q => b0 ≤ q)) (F0 m 42 ls []) := by
  obtain ⟨hx, hb, hr, hml, hown, hts, hlocks, hK⟩ := id C0
  intro v0 v1 v2 v3 h H locs ls hM hS hl
  unfold f_X10_isMet_42 at h
  refine lv_iinc (v := (v3 + (1 : Int32))) (lv' := [(3, .int (v3 + (1 : Int32))), (0, .ref v0), (1, .int v1), (2, .int v2)]) hx hb dX10_isMet_42 hl (k := 3) rfl rfl (by decide) rfl (fun ls hl => ?_)
  refine lv_goto (tgt := 2) hx hb dX10_isMet_45 (by decide) ?_
  exact hk2 _ _ _ _ h _ _ _ hM hS (lv_sub hl [1, 2, 3, 0] rfl)
set_option maxHeartbeats 4000000 in
set_option maxRecDepth 100000 in
theorem w_X10_isMet_2 (C0 : CX cX10_isMet 4 (some .boolean) wsX10_isMet RX10 p s m args meth c D b0) {res : Int32} : ∀ (n : Nat), ∀ (v0 : Nat) (v1 : Int32) (v2 : Int32) (v3 : Int32), f_X10_isMet_2 f n v0 v1 v2 v3 = some res → ∀ (H : Heap) (locs : List Loc) (ls : Array Slot), MM vwCl D b0 f sz s H → mS b0 s H locs → lv_has ls 4 [(0, .ref v0), (1, .int v1), (2, .int v2), (3, .int v3)] → W p l e ({ frames := 1, cells := 0, slots := 0, locals := 22 } : Room) s m args below meth c H locs 0 0 (MQ below (QW D b0 (some (.int res)) f sz) args s 0 0 (fun q => b0 ≤ q)) (F0 m 2 ls []) := by
  obtain ⟨hx, hb, hr, hml, hown, hts, hlocks, hK⟩ := id C0
  intro n
  induction n with
  | zero =>
    intro v0 v1 v2 v3 h
    have h : (none : Option (Int32)) = some res := h
    cases h
  | succ n ih =>
    intro v0 v1 v2 v3 h H locs ls hM hS hl
    rw [f_X10_isMet_2] at h
    refine lv_iload_n hx hb dX10_isMet_2 rfl (lv_at hl 3 rfl) ?_
    refine lv_aload_n hx hb dX10_isMet_3 rfl (lv_at hl 0 rfl) ?_
    replace h := o_b h; obtain ⟨x4, h4, h⟩ := h
    refine m_get (C := RX10) (T := TX10) (N := 25) (ci := 10) hx hb hts qi_X10_isMet_X10 hown hK.1 hM 0 (ldR_F h4) rfl (by decide) (hts _ q_X10_isMet_1) (fun _ h9 => h9) dX10_isMet_4 ?_
    refine lv_bipush (v := (16 : Int32)) hx hb dX10_isMet_7 (by decide) ?_
    replace h := o_b h; obtain ⟨x9, h9, h⟩ := h
    refine m_iald hx hb hK.1 hM hS rfl h9 dX10_isMet_9 ?_
    refine lv_icmp_ge (tgt := 48) hx hb dX10_isMet_10 (by decide) (fun c10 => ?_) (fun c10 => ?_)
    · replace h := o_t c10 h
      refine lv_iconst (v := (1 : Int32)) hx hb dX10_isMet_48 (by decide) ?_
      replace h := Option.some.inj h; subst h
      exact W.zret hx hb hr rfl (fun t ht hW => ⟨rfl, by rw [ht]; exact hM.moved hW.alike, hS.F ht⟩) hS.2.2 dX10_isMet_49
    replace h := o_f c10 h
    refine lv_aload_n hx hb dX10_isMet_13 rfl (lv_at hl 0 rfl) ?_
    refine lv_iload_n hx hb dX10_isMet_14 rfl (lv_at hl 1 rfl) ?_
    refine lv_iload_n hx hb dX10_isMet_15 rfl (lv_at hl 3 rfl) ?_
    replace h := o_b h; obtain ⟨_, k16, h⟩ := h
    replace h := o_b h; obtain ⟨q16, h16, h⟩ := h
    refine m_call (va_runV (As := [.int v1, .int v3]) (rest := []) ⟨hx, hb, hml, hown, hts⟩ (c_X10_leadsTo l D b0 sz h16) (cwV 2 hts gX10_isMet_X10_leadsTo rfl rfl rfl (by decide +kernel) ⟨Nat.le_of_ble_eq_true rfl, Nat.le_of_ble_eq_true rfl⟩) ⟨PW.blind, m_recv (ci := 10) rfl hK hM k16, (fun U hU hW => ⟨rfl, PW.call hK hM hS hU hW⟩)⟩ rfl rfl hl.1 rfl (lv_room (Nat.le_of_ble_eq_true rfl)) dX10_isMet_16 ⟨(Nat.le_refl _), (Nat.le_refl _)⟩) hS (fun H locs hM hS => ?_)
    refine lv_if_eq (tgt := 42) hx hb dX10_isMet_19 (by decide) (fun c19 => ?_) (fun c19 => ?_)
    · replace h := o_t c19 h
      exact w_X10_isMet_42 C0 ih _ _ _ _ h _ _ _ hM hS (lv_sub hl [0, 1, 2, 3] rfl)
    replace h := o_f c19 h
    refine lv_aload_n hx hb dX10_isMet_22 rfl (lv_at hl 0 rfl) ?_
    replace h := o_b h; obtain ⟨x23, h23, h⟩ := h
    refine m_get (C := RX10) (T := TX10) (N := 25) (ci := 10) hx hb hts qi_X10_isMet_X10 hown hK.1 hM 5 (ldR_F h23) rfl (by decide) (hts _ q_X10_isMet_2) (fun _ h9 => h9) dX10_isMet_23 ?_
    refine lv_iload_n hx hb dX10_isMet_26 rfl (lv_at hl 3 rfl) ?_
    replace h := o_b h; obtain ⟨x27, h27, h⟩ := h
    refine m_iald hx hb hK.1 hM hS rfl h27 dX10_isMet_27 ?_
    refine lv_aload_n hx hb dX10_isMet_28 rfl (lv_at hl 0 rfl) ?_
    replace h := o_b h; obtain ⟨x29, h29, h⟩ := h
    refine m_get (C := RX10) (T := TX10) (N := 25) (ci := 10) hx hb hts qi_X10_isMet_X10 hown hK.1 hM 0 (ldR_F h29) rfl (by decide) (hts _ q_X10_isMet_1) (fun _ h9 => h9) dX10_isMet_29 ?_
    refine lv_iconst (v := (0 : Int32)) hx hb dX10_isMet_32 (by decide) ?_
    refine lv_iload_n hx hb dX10_isMet_33 rfl (lv_at hl 2 rfl) ?_
    refine lv_iadd hx hb dX10_isMet_34 ?_
    replace h := o_b h; obtain ⟨x35, h35, h⟩ := h
    refine m_iald hx hb hK.1 hM hS rfl h35 dX10_isMet_35 ?_
    refine lv_iand hx hb dX10_isMet_36 ?_
    refine lv_if_ne (tgt := 42) hx hb dX10_isMet_37 (by decide) (fun c37 => ?_) (fun c37 => ?_)
    · replace h := o_f c37 h
      exact w_X10_isMet_42 C0 ih _ _ _ _ h _ _ _ hM hS (lv_sub hl [0, 1, 2, 3] rfl)
    replace h := o_t c37 h
    refine lv_iconst (v := (0 : Int32)) hx hb dX10_isMet_40 (by decide) ?_
    replace h := Option.some.inj h; subst h
    exact W.zret hx hb hr rfl (fun t ht hW => ⟨rfl, by rw [ht]; exact hM.moved hW.alike, hS.F ht⟩) hS.2.2 dX10_isMet_41
set_option maxHeartbeats 4000000 in
set_option maxRecDepth 100000 in
theorem w_X10_isMet (C0 : CX cX10_isMet 4 (some .boolean) wsX10_isMet RX10 p s m args meth c D b0) {v0 : Nat} {v1 : Int32} {v2 : Int32} {res : Int32} (h : f_X10_isMet v0 v1 v2 f = some res) : ∀ (H : Heap) (locs : List Loc) (ls : Array Slot), MM vwCl D b0 f sz s H → mS b0 s H locs → lv_has ls 4 [(0, .ref v0), (1, .int v1), (2, .int v2)] → W p l e ({ frames := 1, cells := 0, slots := 0, locals := 22 } : Room) s m args below meth c H locs 0 0 (MQ below (QW D b0 (some (.int res)) f sz) args s 0 0 (fun q => b0 ≤ q)) (F0 m 0 ls []) := by
  obtain ⟨hx, hb, hr, hml, hown, hts, hlocks, hK⟩ := id C0
  intro H locs ls hM hS hl
  unfold f_X10_isMet at h
  refine lv_iconst (v := (0 : Int32)) hx hb dX10_isMet_0 (by decide) ?_
  refine lv_istore_n (lv' := [(3, .int (0 : Int32)), (0, .ref v0), (1, .int v1), (2, .int v2)]) hx hb dX10_isMet_1 rfl hl (by decide) rfl (fun ls hl => ?_)
  exact w_X10_isMet_2 C0 FU _ _ _ _ h _ _ _ hM hS (lv_sub hl [1, 2, 3, 0] rfl)
set_option maxHeartbeats 4000000 in
set_option maxRecDepth 100000 in
theorem c_X10_isMet (l : Launch) (D : mmD) (b0 sz : Nat) {v0 : Nat} {v1 : Int32} {v2 : Int32} {f : mmF} {res : Int32} (h : f_X10_isMet v0 v1 v2 f = some res) : Met l yX10_isMet wsX10_isMet ({ frames := 1, cells := 0, slots := 0, locals := 22 } : Room) (va_Pc [.ref v0, .int v1, .int v2] (PW D b0 f sz)) (QW D b0 (some (.int res)) f sz) 0 0 (fun q => b0 ≤ q) := by
  refine Met.ofW (cc := cX10_isMet) (maxL := 4) (ret := (some .boolean)) (by decide) rfl ?_
  intro p e s m args below meth c s₁ B hml hv
  obtain ⟨rfl, hM, hK⟩ := hv
  have hl := lv_entry ([.ref v0, .int v1, .int v2]) (n := 4) (Nat.le_of_ble_eq_true rfl)
  rw [lg_entry_eq]
  generalize (lg_sl ([.ref v0, .int v1, .int v2]) ++ List.replicate (4 - (lg_sl ([.ref v0, .int v1, .int v2])).length) Slot.unset).toArray = ls at hl ⊢
  have hl : lv_has ls 4 [(0, .ref v0), (1, .int v1), (2, .int v2)] := hl
  exact w_X10_isMet ⟨B.exec, B.bytes, B.returns, hml, findClass_of_methodNamed B.named, atoms_spec (ws := wsX10_isMet) B.pre, B.notSynchronized, hK⟩ h s.heap [] ls hM va_S.rf hl
end S_X10_isMet
/-! X10_findsLike -/
set_option maxRecDepth 20000 in
theorem qi_X10_findsLike_X10 : ∀ w ∈ u_ws RX10 TX10 25, w ∈ wsX10_findsLike := by decide +kernel
set_option maxRecDepth 20000 in
theorem q_X10_findsLike_1 : Cond.fieldLink RX10 19 "StageTruthsModel" "like" "[I" ∈ wsX10_findsLike := by decide +kernel
set_option maxRecDepth 20000 in
theorem q_X10_findsLike_2 : Cond.fieldLink RX10 7 "StageTruthsModel" "now" "[I" ∈ wsX10_findsLike := by decide +kernel
noncomputable def f_X10_findsLike_169 (k80 : Nat → Int32 → Int32 → mmF → Option (mmF)) (k88 : Nat → Int32 → Int32 → Int32 → mmF → Option (mmF)) (k96 : Nat → Int32 → Int32 → Int32 → Int32 → mmF → Option (mmF))  (v0 : Nat) (v1 : Int32) (v2 : Int32) (v3 : Int32) (v4 : Int32) (f : mmF) : Option (mmF) :=
  k96 v0 v1 v2 v3 (v4 + (1 : Int32)) f
noncomputable def f_X10_findsLike_137 (k80 : Nat → Int32 → Int32 → mmF → Option (mmF)) (k88 : Nat → Int32 → Int32 → Int32 → mmF → Option (mmF)) (k96 : Nat → Int32 → Int32 → Int32 → Int32 → mmF → Option (mmF))  (v0 : Nat) (v1 : Int32) (v3 : Int32) (v4 : Int32) (f : mmF) : Option (mmF) :=
  (ldR f v0 10 5).bind fun x138 =>
  (ldA 0 f x138 v3).bind fun x143 =>
  (stA 0 f x138 v3 (x143 &&& (((1 : Int32) <<< (v4 &&& 31)) ^^^ (-1 : Int32)))).bind fun f151 =>
  (ldR f151 v0 10 5).bind fun x153 =>
  (ldA 0 f151 x153 v4).bind fun x159 =>
  (stA 0 f151 x153 v4 (x159 &&& (((1 : Int32) <<< (v3 &&& 31)) ^^^ (-1 : Int32)))).bind fun f166 =>
  f_X10_findsLike_169 k80 k88 k96 v0 v1 (1 : Int32) v3 v4 f166
noncomputable def f_X10_findsLike_96 (k80 : Nat → Int32 → Int32 → mmF → Option (mmF)) (k88 : Nat → Int32 → Int32 → Int32 → mmF → Option (mmF))  : Nat → Nat → Int32 → Int32 → Int32 → Int32 → mmF → Option (mmF)
  | 0, _, _, _, _, _, _ => none
  | n + 1, v0, v1, v2, v3, v4, f =>
    if v1 ≤ v4 then
    (k88 v0 v1 v2 (v3 + (1 : Int32)) f)
    else
    (ldR f v0 10 5).bind fun x103 =>
    (ldA 0 f x103 v3).bind fun x107 =>
    if ((x107 >>> (v4 &&& 31)) &&& (1 : Int32)) = (1 : Int32) then
    ((ckO f v0 10).bind fun _ =>
    (f_X10_isMet v0 v3 v4 f).bind fun q121 =>
    if q121 = 0 then
    (f_X10_findsLike_137 k80 k88 (fun a0 a1 a2 a3 a4 a5 => f_X10_findsLike_96 k80 k88 n a0 a1 a2 a3 a4 a5) v0 v1 v3 v4 f)
    else
    (ckO f v0 10).bind fun _ =>
    (f_X10_isMet v0 v4 v3 f).bind fun q131 =>
    if q131 = 0 then
    (f_X10_findsLike_137 k80 k88 (fun a0 a1 a2 a3 a4 a5 => f_X10_findsLike_96 k80 k88 n a0 a1 a2 a3 a4 a5) v0 v1 v3 v4 f)
    else
    f_X10_findsLike_169 k80 k88 (fun a0 a1 a2 a3 a4 a5 => f_X10_findsLike_96 k80 k88 n a0 a1 a2 a3 a4 a5) v0 v1 v2 v3 v4 f)
    else
    f_X10_findsLike_169 k80 k88 (fun a0 a1 a2 a3 a4 a5 => f_X10_findsLike_96 k80 k88 n a0 a1 a2 a3 a4 a5) v0 v1 v2 v3 v4 f
noncomputable def f_X10_findsLike_88 (k80 : Nat → Int32 → Int32 → mmF → Option (mmF))  : Nat → Nat → Int32 → Int32 → Int32 → mmF → Option (mmF)
  | 0, _, _, _, _, _ => none
  | n + 1, v0, v1, v2, v3, f =>
    if v1 ≤ v3 then
    (k80 v0 v1 v2 f)
    else
    f_X10_findsLike_96 k80 (fun a0 a1 a2 a3 a4 => f_X10_findsLike_88 k80 n a0 a1 a2 a3 a4) FU v0 v1 v2 v3 (0 : Int32) f
noncomputable def f_X10_findsLike_80   : Nat → Nat → Int32 → Int32 → mmF → Option (mmF)
  | 0, _, _, _, _ => none
  | n + 1, v0, v1, v2, f =>
    if v2 = 0 then
    (some (f))
    else
    f_X10_findsLike_88 (fun a0 a1 a2 a3 => f_X10_findsLike_80 n a0 a1 a2 a3) FU v0 v1 (0 : Int32) (0 : Int32) f
noncomputable def f_X10_findsLike_64 (k10 : Nat → Int32 → Int32 → mmF → Option (mmF)) (k24 : Nat → Int32 → Int32 → Int32 → mmF → Option (mmF))  (v0 : Nat) (v1 : Int32) (v2 : Int32) (v3 : Int32) (t0 : Nat) (t1 : Int32) (t2 : Int32) (t3 : Int32) (f : mmF) : Option (mmF) :=
  (stA 0 f t0 t1 (t2 ||| t3)).bind fun f65 =>
  k24 v0 v1 v2 (v3 + (1 : Int32)) f65
noncomputable def f_X10_findsLike_24 (k10 : Nat → Int32 → Int32 → mmF → Option (mmF))  : Nat → Nat → Int32 → Int32 → Int32 → mmF → Option (mmF)
  | 0, _, _, _, _, _ => none
  | n + 1, v0, v1, v2, v3, f =>
    if v1 ≤ v3 then
    (k10 v0 v1 (v2 + (1 : Int32)) f)
    else
    (ldR f v0 10 5).bind fun x30 =>
    (ldA 0 f x30 v2).bind fun x35 =>
    (ldR f v0 10 0).bind fun x37 =>
    (ldA 0 f x37 ((8 : Int32) + v2)).bind fun x44 =>
    (ldR f v0 10 0).bind fun x46 =>
    (ldA 0 f x46 ((8 : Int32) + v3)).bind fun x53 =>
    if x44 = x53 then
    (f_X10_findsLike_64 k10 (fun a0 a1 a2 a3 a4 => f_X10_findsLike_24 k10 n a0 a1 a2 a3 a4) v0 v1 v2 v3 x30 v2 x35 ((1 : Int32) <<< (v3 &&& 31)) f)
    else
    f_X10_findsLike_64 k10 (fun a0 a1 a2 a3 a4 => f_X10_findsLike_24 k10 n a0 a1 a2 a3 a4) v0 v1 v2 v3 x30 v2 x35 (0 : Int32) f
noncomputable def f_X10_findsLike_10   : Nat → Nat → Int32 → Int32 → mmF → Option (mmF)
  | 0, _, _, _, _ => none
  | n + 1, v0, v1, v2, f =>
    if v1 ≤ v2 then
    (f_X10_findsLike_80 FU v0 v1 (1 : Int32) f)
    else
    (ldR f v0 10 5).bind fun x16 =>
    (stA 0 f x16 v2 (0 : Int32)).bind fun f21 =>
    f_X10_findsLike_24 (fun a0 a1 a2 a3 => f_X10_findsLike_10 n a0 a1 a2 a3) FU v0 v1 v2 (0 : Int32) f21
noncomputable def f_X10_findsLike (v0 : Nat) (f : mmF) : Option (mmF) :=
  (ldR f v0 10 0).bind fun x1 =>
  (ldA 0 f x1 (16 : Int32)).bind fun x6 =>
  f_X10_findsLike_10 FU v0 x6 (0 : Int32) f
section S_X10_findsLike
variable {p : Program} {l : Launch} {e : Env} {s : State} {m : MethodId} {args : Array Value} {below : List Frame} {meth : Method} {c : Code} {D : mmD} {b0 sz : Nat} {f : mmF}
set_option maxHeartbeats 4000000 in
set_option maxRecDepth 100000 in
theorem w_X10_findsLike_169 (C0 : CX cX10_findsLike 5 none wsX10_findsLike RX10 p s m args meth c D b0) {k80 : Nat → Int32 → Int32 → mmF → Option (mmF)} {k88 : Nat → Int32 → Int32 → Int32 → mmF → Option (mmF)} {k96 : Nat → Int32 → Int32 → Int32 → Int32 → mmF → Option (mmF)} {res : mmF} (hk80 : ∀ (v0 : Nat) (v1 : Int32) (v2 : Int32) (f : mmF), k80 v0 v1 v2 f = some res → ∀ (H : Heap) (locs : List Loc) (ls : Array Slot), MM vwCl D b0 f sz s H → mS b0 s H locs → lv_has ls 5 [(0, .ref v0), (1, .int v1), (2, .int v2)] → W p l e ({ frames := 2, cells := 0, slots := 0, locals := 45 } : Room) s m args below meth c H locs 0 0 (MQ below (QW D b0 none res sz) args s 0 0 (fun q => b0 ≤ q)) (F0 m 80 ls [])) (hk88 : ∀ (v0 : Nat) (v1 : Int32) (v2 : Int32) (v3 : Int32) (f : mmF), k88 v0 v1 v2 v3 f = some res → ∀ (H : Heap) (locs : List Loc) (ls : Array Slot), MM vwCl D b0 f sz s H → mS b0 s H locs → lv_has ls 5 [(0, .ref v0), (1, .int v1), (2, .int v2), (3, .int v3)] → W p l e ({ frames := 2, cells := 0, slots := 0, locals := 45 } : Room) s m args below meth c H locs 0 0 (MQ below (QW D b0 none res sz) args s 0 0 (fun q => b0 ≤ q)) (F0 m 88 ls [])) (hk96 : ∀ (v0 : Nat) (v1 : Int32) (v2 : Int32) (v3 : Int32) (v4 : Int32) (f : mmF), k96 v0 v1 v2 v3 v4 f = some res → ∀ (H : Heap) (locs : List Loc) (ls : Array Slot), MM vwCl D b0 f sz s H → mS b0 s H locs → lv_has ls 5 [(0, .ref v0), (1, .int v1), (2, .int v2), (3, .int v3), (4, .int v4)] → W p l e ({ frames := 2, cells := 0, slots := 0, locals := 45 } : Room) s m args below meth c H locs 0 0 (MQ below (QW D b0 none res sz) args s 0 0 (fun q => b0 ≤ q)) (F0 m 96 ls [])) : ∀ (v0 : Nat) (v1 : Int32) (v2 : Int32) (v3 : Int32) (v4 : Int32) (f : mmF), f_X10_findsLike_169 k80 k88 k96 v0 v1 v2 v3 v4 f = some res → ∀ (H : Heap) (locs : List Loc) (ls : Array Slot), MM vwCl D b0 f sz s H → mS b0 s H locs → lv_has ls 5 [(0, .ref v0), (1, .int v1), (2, .int v2), (3, .int v3), (4, .int v4)] → W p l e ({ frames := 2, cells := 0, slots := 0, locals := 45 } : Room) s m args below meth c H locs 0 0 (MQ below (QW D b0 none res sz) args s 0 0 (fun q => b0 ≤ q)) (F0 m 169 ls []) := by
  obtain ⟨hx, hb, hr, hml, hown, hts, hlocks, hK⟩ := id C0
  intro v0 v1 v2 v3 v4 f h H locs ls hM hS hl
  unfold f_X10_findsLike_169 at h
  refine lv_iinc (v := (v4 + (1 : Int32))) (lv' := [(4, .int (v4 + (1 : Int32))), (0, .ref v0), (1, .int v1), (2, .int v2), (3, .int v3)]) hx hb dX10_findsLike_169 hl (k := 4) rfl rfl (by decide) rfl (fun ls hl => ?_)
  refine lv_goto (tgt := 96) hx hb dX10_findsLike_172 (by decide) ?_
  exact hk96 _ _ _ _ _ _ h _ _ _ hM hS (lv_sub hl [1, 2, 3, 4, 0] rfl)
set_option maxHeartbeats 4000000 in
set_option maxRecDepth 100000 in
theorem w_X10_findsLike_137 (C0 : CX cX10_findsLike 5 none wsX10_findsLike RX10 p s m args meth c D b0) {k80 : Nat → Int32 → Int32 → mmF → Option (mmF)} {k88 : Nat → Int32 → Int32 → Int32 → mmF → Option (mmF)} {k96 : Nat → Int32 → Int32 → Int32 → Int32 → mmF → Option (mmF)} {res : mmF} (hk80 : ∀ (v0 : Nat) (v1 : Int32) (v2 : Int32) (f : mmF), k80 v0 v1 v2 f = some res → ∀ (H : Heap) (locs : List Loc) (ls : Array Slot), MM vwCl D b0 f sz s H → mS b0 s H locs → lv_has ls 5 [(0, .ref v0), (1, .int v1), (2, .int v2)] → W p l e ({ frames := 2, cells := 0, slots := 0, locals := 45 } : Room) s m args below meth c H locs 0 0 (MQ below (QW D b0 none res sz) args s 0 0 (fun q => b0 ≤ q)) (F0 m 80 ls [])) (hk88 : ∀ (v0 : Nat) (v1 : Int32) (v2 : Int32) (v3 : Int32) (f : mmF), k88 v0 v1 v2 v3 f = some res → ∀ (H : Heap) (locs : List Loc) (ls : Array Slot), MM vwCl D b0 f sz s H → mS b0 s H locs → lv_has ls 5 [(0, .ref v0), (1, .int v1), (2, .int v2), (3, .int v3)] → W p l e ({ frames := 2, cells := 0, slots := 0, locals := 45 } : Room) s m args below meth c H locs 0 0 (MQ below (QW D b0 none res sz) args s 0 0 (fun q => b0 ≤ q)) (F0 m 88 ls [])) (hk96 : ∀ (v0 : Nat) (v1 : Int32) (v2 : Int32) (v3 : Int32) (v4 : Int32) (f : mmF), k96 v0 v1 v2 v3 v4 f = some res → ∀ (H : Heap) (locs : List Loc) (ls : Array Slot), MM vwCl D b0 f sz s H → mS b0 s H locs → lv_has ls 5 [(0, .ref v0), (1, .int v1), (2, .int v2), (3, .int v3), (4, .int v4)] → W p l e ({ frames := 2, cells := 0, slots := 0, locals := 45 } : Room) s m args below meth c H locs 0 0 (MQ below (QW D b0 none res sz) args s 0 0 (fun q => b0 ≤ q)) (F0 m 96 ls [])) : ∀ (v0 : Nat) (v1 : Int32) (v3 : Int32) (v4 : Int32) (f : mmF), f_X10_findsLike_137 k80 k88 k96 v0 v1 v3 v4 f = some res → ∀ (H : Heap) (locs : List Loc) (ls : Array Slot), MM vwCl D b0 f sz s H → mS b0 s H locs → lv_has ls 5 [(0, .ref v0), (1, .int v1), (3, .int v3), (4, .int v4)] → W p l e ({ frames := 2, cells := 0, slots := 0, locals := 45 } : Room) s m args below meth c H locs 0 0 (MQ below (QW D b0 none res sz) args s 0 0 (fun q => b0 ≤ q)) (F0 m 137 ls []) := by
  obtain ⟨hx, hb, hr, hml, hown, hts, hlocks, hK⟩ := id C0
  intro v0 v1 v3 v4 f h H locs ls hM hS hl
  unfold f_X10_findsLike_137 at h
  refine lv_aload_n hx hb dX10_findsLike_137 rfl (lv_at hl 0 rfl) ?_
  replace h := o_b h; obtain ⟨x138, h138, h⟩ := h
  refine m_get (C := RX10) (T := TX10) (N := 25) (ci := 10) hx hb hts qi_X10_findsLike_X10 hown hK.1 hM 5 (ldR_F h138) rfl (by decide) (hts _ q_X10_findsLike_1) (fun _ h9 => h9) dX10_findsLike_138 ?_
  refine lv_iload_n hx hb dX10_findsLike_141 rfl (lv_at hl 2 rfl) ?_
  refine lv_dup2_11 hx hb dX10_findsLike_142 rfl rfl ?_
  replace h := o_b h; obtain ⟨x143, h143, h⟩ := h
  refine m_iald hx hb hK.1 hM hS rfl h143 dX10_findsLike_143 ?_
  refine lv_iconst (v := (1 : Int32)) hx hb dX10_findsLike_144 (by decide) ?_
  refine lv_iload hx hb dX10_findsLike_145 (lv_at hl 3 rfl) ?_
  refine lv_ishl hx hb dX10_findsLike_147 ?_
  refine lv_iconst (v := (-1 : Int32)) hx hb dX10_findsLike_148 (by decide) ?_
  refine lv_ixor hx hb dX10_findsLike_149 ?_
  refine lv_iand hx hb dX10_findsLike_150 ?_
  replace h := o_b h; obtain ⟨f151, h151, h⟩ := h
  refine m_iast hx hb hK.1 hM hS rfl h151 dX10_findsLike_151 (fun H locs hM hS => ?_)
  refine lv_aload_n hx hb dX10_findsLike_152 rfl (lv_at hl 0 rfl) ?_
  replace h := o_b h; obtain ⟨x153, h153, h⟩ := h
  refine m_get (C := RX10) (T := TX10) (N := 25) (ci := 10) hx hb hts qi_X10_findsLike_X10 hown hK.1 hM 5 (ldR_F h153) rfl (by decide) (hts _ q_X10_findsLike_1) (fun _ h9 => h9) dX10_findsLike_153 ?_
  refine lv_iload hx hb dX10_findsLike_156 (lv_at hl 3 rfl) ?_
  refine lv_dup2_11 hx hb dX10_findsLike_158 rfl rfl ?_
  replace h := o_b h; obtain ⟨x159, h159, h⟩ := h
  refine m_iald hx hb hK.1 hM hS rfl h159 dX10_findsLike_159 ?_
  refine lv_iconst (v := (1 : Int32)) hx hb dX10_findsLike_160 (by decide) ?_
  refine lv_iload_n hx hb dX10_findsLike_161 rfl (lv_at hl 2 rfl) ?_
  refine lv_ishl hx hb dX10_findsLike_162 ?_
  refine lv_iconst (v := (-1 : Int32)) hx hb dX10_findsLike_163 (by decide) ?_
  refine lv_ixor hx hb dX10_findsLike_164 ?_
  refine lv_iand hx hb dX10_findsLike_165 ?_
  replace h := o_b h; obtain ⟨f166, h166, h⟩ := h
  refine m_iast hx hb hK.1 hM hS rfl h166 dX10_findsLike_166 (fun H locs hM hS => ?_)
  refine lv_iconst (v := (1 : Int32)) hx hb dX10_findsLike_167 (by decide) ?_
  refine lv_istore_n (lv' := [(2, .int (1 : Int32)), (0, .ref v0), (1, .int v1), (3, .int v3), (4, .int v4)]) hx hb dX10_findsLike_168 rfl hl (by decide) rfl (fun ls hl => ?_)
  exact w_X10_findsLike_169 C0 hk80 hk88 hk96 _ _ _ _ _ _ h _ _ _ hM hS (lv_sub hl [1, 2, 0, 3, 4] rfl)
set_option maxHeartbeats 4000000 in
set_option maxRecDepth 100000 in
theorem w_X10_findsLike_96 (C0 : CX cX10_findsLike 5 none wsX10_findsLike RX10 p s m args meth c D b0) {k80 : Nat → Int32 → Int32 → mmF → Option (mmF)} {k88 : Nat → Int32 → Int32 → Int32 → mmF → Option (mmF)} {res : mmF} (hk80 : ∀ (v0 : Nat) (v1 : Int32) (v2 : Int32) (f : mmF), k80 v0 v1 v2 f = some res → ∀ (H : Heap) (locs : List Loc) (ls : Array Slot), MM vwCl D b0 f sz s H → mS b0 s H locs → lv_has ls 5 [(0, .ref v0), (1, .int v1), (2, .int v2)] → W p l e ({ frames := 2, cells := 0, slots := 0, locals := 45 } : Room) s m args below meth c H locs 0 0 (MQ below (QW D b0 none res sz) args s 0 0 (fun q => b0 ≤ q)) (F0 m 80 ls [])) (hk88 : ∀ (v0 : Nat) (v1 : Int32) (v2 : Int32) (v3 : Int32) (f : mmF), k88 v0 v1 v2 v3 f = some res → ∀ (H : Heap) (locs : List Loc) (ls : Array Slot), MM vwCl D b0 f sz s H → mS b0 s H locs → lv_has ls 5 [(0, .ref v0), (1, .int v1), (2, .int v2), (3, .int v3)] → W p l e ({ frames := 2, cells := 0, slots := 0, locals := 45 } : Room) s m args below meth c H locs 0 0 (MQ below (QW D b0 none res sz) args s 0 0 (fun q => b0 ≤ q)) (F0 m 88 ls [])) : ∀ (n : Nat), ∀ (v0 : Nat) (v1 : Int32) (v2 : Int32) (v3 : Int32) (v4 : Int32) (f : mmF), f_X10_findsLike_96 k80 k88 n v0 v1 v2 v3 v4 f = some res → ∀ (H : Heap) (locs : List Loc) (ls : Array Slot), MM vwCl D b0 f sz s H → mS b0 s H locs → lv_has ls 5 [(0, .ref v0), (1, .int v1), (2, .int v2), (3, .int v3), (4, .int v4)] → W p l e ({ frames := 2, cells := 0, slots := 0, locals := 45 } : Room) s m args below meth c H locs 0 0 (MQ below (QW D b0 none res sz) args s 0 0 (fun q => b0 ≤ q)) (F0 m 96 ls []) := by
  obtain ⟨hx, hb, hr, hml, hown, hts, hlocks, hK⟩ := id C0
  intro n
  induction n with
  | zero =>
    intro v0 v1 v2 v3 v4 f h
    have h : (none : Option (mmF)) = some res := h
    cases h
  | succ n ih =>
    intro v0 v1 v2 v3 v4 f h H locs ls hM hS hl
    rw [f_X10_findsLike_96] at h
    refine lv_iload hx hb dX10_findsLike_96 (lv_at hl 4 rfl) ?_
    refine lv_iload_n hx hb dX10_findsLike_98 rfl (lv_at hl 1 rfl) ?_
    refine lv_icmp_ge (tgt := 175) hx hb dX10_findsLike_99 (by decide) (fun c99 => ?_) (fun c99 => ?_)
    · replace h := o_t c99 h
      refine lv_iinc (v := (v3 + (1 : Int32))) (lv' := [(3, .int (v3 + (1 : Int32))), (0, .ref v0), (1, .int v1), (2, .int v2), (4, .int v4)]) hx hb dX10_findsLike_175 hl (k := 3) rfl rfl (by decide) rfl (fun ls hl => ?_)
      refine lv_goto (tgt := 88) hx hb dX10_findsLike_178 (by decide) ?_
      exact hk88 _ _ _ _ _ h _ _ _ hM hS (lv_sub hl [1, 2, 3, 0] rfl)
    replace h := o_f c99 h
    refine lv_aload_n hx hb dX10_findsLike_102 rfl (lv_at hl 0 rfl) ?_
    replace h := o_b h; obtain ⟨x103, h103, h⟩ := h
    refine m_get (C := RX10) (T := TX10) (N := 25) (ci := 10) hx hb hts qi_X10_findsLike_X10 hown hK.1 hM 5 (ldR_F h103) rfl (by decide) (hts _ q_X10_findsLike_1) (fun _ h9 => h9) dX10_findsLike_103 ?_
    refine lv_iload_n hx hb dX10_findsLike_106 rfl (lv_at hl 3 rfl) ?_
    replace h := o_b h; obtain ⟨x107, h107, h⟩ := h
    refine m_iald hx hb hK.1 hM hS rfl h107 dX10_findsLike_107 ?_
    refine lv_iload hx hb dX10_findsLike_108 (lv_at hl 4 rfl) ?_
    refine lv_ishr hx hb dX10_findsLike_110 ?_
    refine lv_iconst (v := (1 : Int32)) hx hb dX10_findsLike_111 (by decide) ?_
    refine lv_iand hx hb dX10_findsLike_112 ?_
    refine lv_iconst (v := (1 : Int32)) hx hb dX10_findsLike_113 (by decide) ?_
    refine lv_icmp_ne (tgt := 169) hx hb dX10_findsLike_114 (by decide) (fun c114 => ?_) (fun c114 => ?_)
    · replace h := o_f c114 h
      exact w_X10_findsLike_169 C0 hk80 hk88 ih _ _ _ _ _ _ h _ _ _ hM hS (lv_sub hl [0, 1, 2, 3, 4] rfl)
    replace h := o_t c114 h
    refine lv_aload_n hx hb dX10_findsLike_117 rfl (lv_at hl 0 rfl) ?_
    refine lv_iload_n hx hb dX10_findsLike_118 rfl (lv_at hl 3 rfl) ?_
    refine lv_iload hx hb dX10_findsLike_119 (lv_at hl 4 rfl) ?_
    replace h := o_b h; obtain ⟨_, k121, h⟩ := h
    replace h := o_b h; obtain ⟨q121, h121, h⟩ := h
    refine m_call (va_runV (As := [.int v3, .int v4]) (rest := []) ⟨hx, hb, hml, hown, hts⟩ (c_X10_isMet l D b0 sz h121) (cwV 2 hts gX10_findsLike_X10_isMet rfl rfl rfl (by decide +kernel) ⟨Nat.le_of_ble_eq_true rfl, Nat.le_of_ble_eq_true rfl⟩) ⟨PW.blind, m_recv (ci := 10) rfl hK hM k121, (fun U hU hW => ⟨rfl, PW.call hK hM hS hU hW⟩)⟩ rfl rfl hl.1 rfl (lv_room (Nat.le_of_ble_eq_true rfl)) dX10_findsLike_121 ⟨(Nat.le_refl _), (Nat.le_refl _)⟩) hS (fun H locs hM hS => ?_)
    refine lv_if_eq (tgt := 137) hx hb dX10_findsLike_124 (by decide) (fun c124 => ?_) (fun c124 => ?_)
    · replace h := o_t c124 h
      exact w_X10_findsLike_137 C0 hk80 hk88 ih _ _ _ _ _ h _ _ _ hM hS (lv_sub hl [0, 1, 3, 4] rfl)
    replace h := o_f c124 h
    refine lv_aload_n hx hb dX10_findsLike_127 rfl (lv_at hl 0 rfl) ?_
    refine lv_iload hx hb dX10_findsLike_128 (lv_at hl 4 rfl) ?_
    refine lv_iload_n hx hb dX10_findsLike_130 rfl (lv_at hl 3 rfl) ?_
    replace h := o_b h; obtain ⟨_, k131, h⟩ := h
    replace h := o_b h; obtain ⟨q131, h131, h⟩ := h
    refine m_call (va_runV (As := [.int v4, .int v3]) (rest := []) ⟨hx, hb, hml, hown, hts⟩ (c_X10_isMet l D b0 sz h131) (cwV 2 hts gX10_findsLike_X10_isMet rfl rfl rfl (by decide +kernel) ⟨Nat.le_of_ble_eq_true rfl, Nat.le_of_ble_eq_true rfl⟩) ⟨PW.blind, m_recv (ci := 10) rfl hK hM k131, (fun U hU hW => ⟨rfl, PW.call hK hM hS hU hW⟩)⟩ rfl rfl hl.1 rfl (lv_room (Nat.le_of_ble_eq_true rfl)) dX10_findsLike_131 ⟨(Nat.le_refl _), (Nat.le_refl _)⟩) hS (fun H locs hM hS => ?_)
    refine lv_if_ne (tgt := 169) hx hb dX10_findsLike_134 (by decide) (fun c134 => ?_) (fun c134 => ?_)
    · replace h := o_f c134 h
      exact w_X10_findsLike_169 C0 hk80 hk88 ih _ _ _ _ _ _ h _ _ _ hM hS (lv_sub hl [0, 1, 2, 3, 4] rfl)
    replace h := o_t c134 h
    exact w_X10_findsLike_137 C0 hk80 hk88 ih _ _ _ _ _ h _ _ _ hM hS (lv_sub hl [0, 1, 3, 4] rfl)
set_option maxHeartbeats 4000000 in
set_option maxRecDepth 100000 in
theorem w_X10_findsLike_88 (C0 : CX cX10_findsLike 5 none wsX10_findsLike RX10 p s m args meth c D b0) {k80 : Nat → Int32 → Int32 → mmF → Option (mmF)} {res : mmF} (hk80 : ∀ (v0 : Nat) (v1 : Int32) (v2 : Int32) (f : mmF), k80 v0 v1 v2 f = some res → ∀ (H : Heap) (locs : List Loc) (ls : Array Slot), MM vwCl D b0 f sz s H → mS b0 s H locs → lv_has ls 5 [(0, .ref v0), (1, .int v1), (2, .int v2)] → W p l e ({ frames := 2, cells := 0, slots := 0, locals := 45 } : Room) s m args below meth c H locs 0 0 (MQ below (QW D b0 none res sz) args s 0 0 (fun q => b0 ≤ q)) (F0 m 80 ls [])) : ∀ (n : Nat), ∀ (v0 : Nat) (v1 : Int32) (v2 : Int32) (v3 : Int32) (f : mmF), f_X10_findsLike_88 k80 n v0 v1 v2 v3 f = some res → ∀ (H : Heap) (locs : List Loc) (ls : Array Slot), MM vwCl D b0 f sz s H → mS b0 s H locs → lv_has ls 5 [(0, .ref v0), (1, .int v1), (2, .int v2), (3, .int v3)] → W p l e ({ frames := 2, cells := 0, slots := 0, locals := 45 } : Room) s m args below meth c H locs 0 0 (MQ below (QW D b0 none res sz) args s 0 0 (fun q => b0 ≤ q)) (F0 m 88 ls []) := by
  obtain ⟨hx, hb, hr, hml, hown, hts, hlocks, hK⟩ := id C0
  intro n
  induction n with
  | zero =>
    intro v0 v1 v2 v3 f h
    have h : (none : Option (mmF)) = some res := h
    cases h
  | succ n ih =>
    intro v0 v1 v2 v3 f h H locs ls hM hS hl
    rw [f_X10_findsLike_88] at h
    refine lv_iload_n hx hb dX10_findsLike_88 rfl (lv_at hl 3 rfl) ?_
    refine lv_iload_n hx hb dX10_findsLike_89 rfl (lv_at hl 1 rfl) ?_
    refine lv_icmp_ge (tgt := 181) hx hb dX10_findsLike_90 (by decide) (fun c90 => ?_) (fun c90 => ?_)
    · replace h := o_t c90 h
      refine lv_goto (tgt := 80) hx hb dX10_findsLike_181 (by decide) ?_
      exact hk80 _ _ _ _ h _ _ _ hM hS (lv_sub hl [0, 1, 2] rfl)
    replace h := o_f c90 h
    refine lv_iconst (v := (0 : Int32)) hx hb dX10_findsLike_93 (by decide) ?_
    refine lv_istore (lv' := [(4, .int (0 : Int32)), (0, .ref v0), (1, .int v1), (2, .int v2), (3, .int v3)]) hx hb dX10_findsLike_94 hl (by decide) rfl (fun ls hl => ?_)
    exact w_X10_findsLike_96 C0 hk80 ih FU _ _ _ _ _ _ h _ _ _ hM hS (lv_sub hl [1, 2, 3, 4, 0] rfl)
set_option maxHeartbeats 4000000 in
set_option maxRecDepth 100000 in
theorem w_X10_findsLike_80 (C0 : CX cX10_findsLike 5 none wsX10_findsLike RX10 p s m args meth c D b0) {res : mmF} : ∀ (n : Nat), ∀ (v0 : Nat) (v1 : Int32) (v2 : Int32) (f : mmF), f_X10_findsLike_80 n v0 v1 v2 f = some res → ∀ (H : Heap) (locs : List Loc) (ls : Array Slot), MM vwCl D b0 f sz s H → mS b0 s H locs → lv_has ls 5 [(0, .ref v0), (1, .int v1), (2, .int v2)] → W p l e ({ frames := 2, cells := 0, slots := 0, locals := 45 } : Room) s m args below meth c H locs 0 0 (MQ below (QW D b0 none res sz) args s 0 0 (fun q => b0 ≤ q)) (F0 m 80 ls []) := by
  obtain ⟨hx, hb, hr, hml, hown, hts, hlocks, hK⟩ := id C0
  intro n
  induction n with
  | zero =>
    intro v0 v1 v2 f h
    have h : (none : Option (mmF)) = some res := h
    cases h
  | succ n ih =>
    intro v0 v1 v2 f h H locs ls hM hS hl
    rw [f_X10_findsLike_80] at h
    refine lv_iload_n hx hb dX10_findsLike_80 rfl (lv_at hl 2 rfl) ?_
    refine lv_if_eq (tgt := 184) hx hb dX10_findsLike_81 (by decide) (fun c81 => ?_) (fun c81 => ?_)
    · replace h := o_t c81 h
      replace h := Option.some.inj h; subst h
      exact W.vret hx hb hr (fun t ht hW => ⟨rfl, by rw [ht]; exact hM.moved hW.alike, hS.F ht⟩) hS.2.2 dX10_findsLike_184
    replace h := o_f c81 h
    refine lv_iconst (v := (0 : Int32)) hx hb dX10_findsLike_84 (by decide) ?_
    refine lv_istore_n (lv' := [(2, .int (0 : Int32)), (0, .ref v0), (1, .int v1)]) hx hb dX10_findsLike_85 rfl hl (by decide) rfl (fun ls hl => ?_)
    refine lv_iconst (v := (0 : Int32)) hx hb dX10_findsLike_86 (by decide) ?_
    refine lv_istore_n (lv' := [(3, .int (0 : Int32)), (2, .int (0 : Int32)), (0, .ref v0), (1, .int v1)]) hx hb dX10_findsLike_87 rfl hl (by decide) rfl (fun ls hl => ?_)
    exact w_X10_findsLike_88 C0 ih FU _ _ _ _ _ h _ _ _ hM hS (lv_sub hl [2, 3, 1, 0] rfl)
set_option maxHeartbeats 4000000 in
set_option maxRecDepth 100000 in
theorem w_X10_findsLike_64 (C0 : CX cX10_findsLike 5 none wsX10_findsLike RX10 p s m args meth c D b0) {k10 : Nat → Int32 → Int32 → mmF → Option (mmF)} {k24 : Nat → Int32 → Int32 → Int32 → mmF → Option (mmF)} {res : mmF} (hk10 : ∀ (v0 : Nat) (v1 : Int32) (v2 : Int32) (f : mmF), k10 v0 v1 v2 f = some res → ∀ (H : Heap) (locs : List Loc) (ls : Array Slot), MM vwCl D b0 f sz s H → mS b0 s H locs → lv_has ls 5 [(0, .ref v0), (1, .int v1), (2, .int v2)] → W p l e ({ frames := 2, cells := 0, slots := 0, locals := 45 } : Room) s m args below meth c H locs 0 0 (MQ below (QW D b0 none res sz) args s 0 0 (fun q => b0 ≤ q)) (F0 m 10 ls [])) (hk24 : ∀ (v0 : Nat) (v1 : Int32) (v2 : Int32) (v3 : Int32) (f : mmF), k24 v0 v1 v2 v3 f = some res → ∀ (H : Heap) (locs : List Loc) (ls : Array Slot), MM vwCl D b0 f sz s H → mS b0 s H locs → lv_has ls 5 [(0, .ref v0), (1, .int v1), (2, .int v2), (3, .int v3)] → W p l e ({ frames := 2, cells := 0, slots := 0, locals := 45 } : Room) s m args below meth c H locs 0 0 (MQ below (QW D b0 none res sz) args s 0 0 (fun q => b0 ≤ q)) (F0 m 24 ls [])) : ∀ (v0 : Nat) (v1 : Int32) (v2 : Int32) (v3 : Int32) (t0 : Nat) (t1 : Int32) (t2 : Int32) (t3 : Int32) (f : mmF), f_X10_findsLike_64 k10 k24 v0 v1 v2 v3 t0 t1 t2 t3 f = some res → ∀ (H : Heap) (locs : List Loc) (ls : Array Slot), MM vwCl D b0 f sz s H → mS b0 s H locs → lv_has ls 5 [(0, .ref v0), (1, .int v1), (2, .int v2), (3, .int v3)] → W p l e ({ frames := 2, cells := 0, slots := 0, locals := 45 } : Room) s m args below meth c H locs 0 0 (MQ below (QW D b0 none res sz) args s 0 0 (fun q => b0 ≤ q)) (F0 m 64 ls [.int t3, .int t2, .int t1, .ref t0]) := by
  obtain ⟨hx, hb, hr, hml, hown, hts, hlocks, hK⟩ := id C0
  intro v0 v1 v2 v3 t0 t1 t2 t3 f h H locs ls hM hS hl
  unfold f_X10_findsLike_64 at h
  refine lv_ior hx hb dX10_findsLike_64 ?_
  replace h := o_b h; obtain ⟨f65, h65, h⟩ := h
  refine m_iast hx hb hK.1 hM hS rfl h65 dX10_findsLike_65 (fun H locs hM hS => ?_)
  refine lv_iinc (v := (v3 + (1 : Int32))) (lv' := [(3, .int (v3 + (1 : Int32))), (0, .ref v0), (1, .int v1), (2, .int v2)]) hx hb dX10_findsLike_66 hl (k := 3) rfl rfl (by decide) rfl (fun ls hl => ?_)
  refine lv_goto (tgt := 24) hx hb dX10_findsLike_69 (by decide) ?_
  exact hk24 _ _ _ _ _ h _ _ _ hM hS (lv_sub hl [1, 2, 3, 0] rfl)
set_option maxHeartbeats 4000000 in
set_option maxRecDepth 100000 in
theorem w_X10_findsLike_24 (C0 : CX cX10_findsLike 5 none wsX10_findsLike RX10 p s m args meth c D b0) {k10 : Nat → Int32 → Int32 → mmF → Option (mmF)} {res : mmF} (hk10 : ∀ (v0 : Nat) (v1 : Int32) (v2 : Int32) (f : mmF), k10 v0 v1 v2 f = some res → ∀ (H : Heap) (locs : List Loc) (ls : Array Slot), MM vwCl D b0 f sz s H → mS b0 s H locs → lv_has ls 5 [(0, .ref v0), (1, .int v1), (2, .int v2)] → W p l e ({ frames := 2, cells := 0, slots := 0, locals := 45 } : Room) s m args below meth c H locs 0 0 (MQ below (QW D b0 none res sz) args s 0 0 (fun q => b0 ≤ q)) (F0 m 10 ls [])) : ∀ (n : Nat), ∀ (v0 : Nat) (v1 : Int32) (v2 : Int32) (v3 : Int32) (f : mmF), f_X10_findsLike_24 k10 n v0 v1 v2 v3 f = some res → ∀ (H : Heap) (locs : List Loc) (ls : Array Slot), MM vwCl D b0 f sz s H → mS b0 s H locs → lv_has ls 5 [(0, .ref v0), (1, .int v1), (2, .int v2), (3, .int v3)] → W p l e ({ frames := 2, cells := 0, slots := 0, locals := 45 } : Room) s m args below meth c H locs 0 0 (MQ below (QW D b0 none res sz) args s 0 0 (fun q => b0 ≤ q)) (F0 m 24 ls []) := by
  obtain ⟨hx, hb, hr, hml, hown, hts, hlocks, hK⟩ := id C0
  intro n
  induction n with
  | zero =>
    intro v0 v1 v2 v3 f h
    have h : (none : Option (mmF)) = some res := h
    cases h
  | succ n ih =>
    intro v0 v1 v2 v3 f h H locs ls hM hS hl
    rw [f_X10_findsLike_24] at h
    refine lv_iload_n hx hb dX10_findsLike_24 rfl (lv_at hl 3 rfl) ?_
    refine lv_iload_n hx hb dX10_findsLike_25 rfl (lv_at hl 1 rfl) ?_
    refine lv_icmp_ge (tgt := 72) hx hb dX10_findsLike_26 (by decide) (fun c26 => ?_) (fun c26 => ?_)
    · replace h := o_t c26 h
      refine lv_iinc (v := (v2 + (1 : Int32))) (lv' := [(2, .int (v2 + (1 : Int32))), (0, .ref v0), (1, .int v1), (3, .int v3)]) hx hb dX10_findsLike_72 hl (k := 2) rfl rfl (by decide) rfl (fun ls hl => ?_)
      refine lv_goto (tgt := 10) hx hb dX10_findsLike_75 (by decide) ?_
      exact hk10 _ _ _ _ h _ _ _ hM hS (lv_sub hl [1, 2, 0] rfl)
    replace h := o_f c26 h
    refine lv_aload_n hx hb dX10_findsLike_29 rfl (lv_at hl 0 rfl) ?_
    replace h := o_b h; obtain ⟨x30, h30, h⟩ := h
    refine m_get (C := RX10) (T := TX10) (N := 25) (ci := 10) hx hb hts qi_X10_findsLike_X10 hown hK.1 hM 5 (ldR_F h30) rfl (by decide) (hts _ q_X10_findsLike_1) (fun _ h9 => h9) dX10_findsLike_30 ?_
    refine lv_iload_n hx hb dX10_findsLike_33 rfl (lv_at hl 2 rfl) ?_
    refine lv_dup2_11 hx hb dX10_findsLike_34 rfl rfl ?_
    replace h := o_b h; obtain ⟨x35, h35, h⟩ := h
    refine m_iald hx hb hK.1 hM hS rfl h35 dX10_findsLike_35 ?_
    refine lv_aload_n hx hb dX10_findsLike_36 rfl (lv_at hl 0 rfl) ?_
    replace h := o_b h; obtain ⟨x37, h37, h⟩ := h
    refine m_get (C := RX10) (T := TX10) (N := 25) (ci := 10) hx hb hts qi_X10_findsLike_X10 hown hK.1 hM 0 (ldR_F h37) rfl (by decide) (hts _ q_X10_findsLike_2) (fun _ h9 => h9) dX10_findsLike_37 ?_
    refine lv_bipush (v := (8 : Int32)) hx hb dX10_findsLike_40 (by decide) ?_
    refine lv_iload_n hx hb dX10_findsLike_42 rfl (lv_at hl 2 rfl) ?_
    refine lv_iadd hx hb dX10_findsLike_43 ?_
    replace h := o_b h; obtain ⟨x44, h44, h⟩ := h
    refine m_iald hx hb hK.1 hM hS rfl h44 dX10_findsLike_44 ?_
    refine lv_aload_n hx hb dX10_findsLike_45 rfl (lv_at hl 0 rfl) ?_
    replace h := o_b h; obtain ⟨x46, h46, h⟩ := h
    refine m_get (C := RX10) (T := TX10) (N := 25) (ci := 10) hx hb hts qi_X10_findsLike_X10 hown hK.1 hM 0 (ldR_F h46) rfl (by decide) (hts _ q_X10_findsLike_2) (fun _ h9 => h9) dX10_findsLike_46 ?_
    refine lv_bipush (v := (8 : Int32)) hx hb dX10_findsLike_49 (by decide) ?_
    refine lv_iload_n hx hb dX10_findsLike_51 rfl (lv_at hl 3 rfl) ?_
    refine lv_iadd hx hb dX10_findsLike_52 ?_
    replace h := o_b h; obtain ⟨x53, h53, h⟩ := h
    refine m_iald hx hb hK.1 hM hS rfl h53 dX10_findsLike_53 ?_
    refine lv_icmp_ne (tgt := 63) hx hb dX10_findsLike_54 (by decide) (fun c54 => ?_) (fun c54 => ?_)
    · replace h := o_f c54 h
      refine lv_iconst (v := (0 : Int32)) hx hb dX10_findsLike_63 (by decide) ?_
      exact w_X10_findsLike_64 C0 hk10 ih _ _ _ _ _ _ _ _ _ h _ _ _ hM hS (lv_sub hl [0, 1, 2, 3] rfl)
    replace h := o_t c54 h
    refine lv_iconst (v := (1 : Int32)) hx hb dX10_findsLike_57 (by decide) ?_
    refine lv_iload_n hx hb dX10_findsLike_58 rfl (lv_at hl 3 rfl) ?_
    refine lv_ishl hx hb dX10_findsLike_59 ?_
    refine lv_goto (tgt := 64) hx hb dX10_findsLike_60 (by decide) ?_
    exact w_X10_findsLike_64 C0 hk10 ih _ _ _ _ _ _ _ _ _ h _ _ _ hM hS (lv_sub hl [0, 1, 2, 3] rfl)
set_option maxHeartbeats 4000000 in
set_option maxRecDepth 100000 in
theorem w_X10_findsLike_10 (C0 : CX cX10_findsLike 5 none wsX10_findsLike RX10 p s m args meth c D b0) {res : mmF} : ∀ (n : Nat), ∀ (v0 : Nat) (v1 : Int32) (v2 : Int32) (f : mmF), f_X10_findsLike_10 n v0 v1 v2 f = some res → ∀ (H : Heap) (locs : List Loc) (ls : Array Slot), MM vwCl D b0 f sz s H → mS b0 s H locs → lv_has ls 5 [(0, .ref v0), (1, .int v1), (2, .int v2)] → W p l e ({ frames := 2, cells := 0, slots := 0, locals := 45 } : Room) s m args below meth c H locs 0 0 (MQ below (QW D b0 none res sz) args s 0 0 (fun q => b0 ≤ q)) (F0 m 10 ls []) := by
  obtain ⟨hx, hb, hr, hml, hown, hts, hlocks, hK⟩ := id C0
  intro n
  induction n with
  | zero =>
    intro v0 v1 v2 f h
    have h : (none : Option (mmF)) = some res := h
    cases h
  | succ n ih =>
    intro v0 v1 v2 f h H locs ls hM hS hl
    rw [f_X10_findsLike_10] at h
    refine lv_iload_n hx hb dX10_findsLike_10 rfl (lv_at hl 2 rfl) ?_
    refine lv_iload_n hx hb dX10_findsLike_11 rfl (lv_at hl 1 rfl) ?_
    refine lv_icmp_ge (tgt := 78) hx hb dX10_findsLike_12 (by decide) (fun c12 => ?_) (fun c12 => ?_)
    · replace h := o_t c12 h
      refine lv_iconst (v := (1 : Int32)) hx hb dX10_findsLike_78 (by decide) ?_
      refine lv_istore_n (lv' := [(2, .int (1 : Int32)), (0, .ref v0), (1, .int v1)]) hx hb dX10_findsLike_79 rfl hl (by decide) rfl (fun ls hl => ?_)
      exact w_X10_findsLike_80 C0 FU _ _ _ _ h _ _ _ hM hS (lv_sub hl [1, 2, 0] rfl)
    replace h := o_f c12 h
    refine lv_aload_n hx hb dX10_findsLike_15 rfl (lv_at hl 0 rfl) ?_
    replace h := o_b h; obtain ⟨x16, h16, h⟩ := h
    refine m_get (C := RX10) (T := TX10) (N := 25) (ci := 10) hx hb hts qi_X10_findsLike_X10 hown hK.1 hM 5 (ldR_F h16) rfl (by decide) (hts _ q_X10_findsLike_1) (fun _ h9 => h9) dX10_findsLike_16 ?_
    refine lv_iload_n hx hb dX10_findsLike_19 rfl (lv_at hl 2 rfl) ?_
    refine lv_iconst (v := (0 : Int32)) hx hb dX10_findsLike_20 (by decide) ?_
    replace h := o_b h; obtain ⟨f21, h21, h⟩ := h
    refine m_iast hx hb hK.1 hM hS rfl h21 dX10_findsLike_21 (fun H locs hM hS => ?_)
    refine lv_iconst (v := (0 : Int32)) hx hb dX10_findsLike_22 (by decide) ?_
    refine lv_istore_n (lv' := [(3, .int (0 : Int32)), (0, .ref v0), (1, .int v1), (2, .int v2)]) hx hb dX10_findsLike_23 rfl hl (by decide) rfl (fun ls hl => ?_)
    exact w_X10_findsLike_24 C0 ih FU _ _ _ _ _ h _ _ _ hM hS (lv_sub hl [1, 2, 3, 0] rfl)
set_option maxHeartbeats 4000000 in
set_option maxRecDepth 100000 in
theorem w_X10_findsLike (C0 : CX cX10_findsLike 5 none wsX10_findsLike RX10 p s m args meth c D b0) {v0 : Nat} {res : mmF} (h : f_X10_findsLike v0 f = some res) : ∀ (H : Heap) (locs : List Loc) (ls : Array Slot), MM vwCl D b0 f sz s H → mS b0 s H locs → lv_has ls 5 [(0, .ref v0)] → W p l e ({ frames := 2, cells := 0, slots := 0, locals := 45 } : Room) s m args below meth c H locs 0 0 (MQ below (QW D b0 none res sz) args s 0 0 (fun q => b0 ≤ q)) (F0 m 0 ls []) := by
  obtain ⟨hx, hb, hr, hml, hown, hts, hlocks, hK⟩ := id C0
  intro H locs ls hM hS hl
  unfold f_X10_findsLike at h
  refine lv_aload_n hx hb dX10_findsLike_0 rfl (lv_at hl 0 rfl) ?_
  replace h := o_b h; obtain ⟨x1, h1, h⟩ := h
  refine m_get (C := RX10) (T := TX10) (N := 25) (ci := 10) hx hb hts qi_X10_findsLike_X10 hown hK.1 hM 0 (ldR_F h1) rfl (by decide) (hts _ q_X10_findsLike_2) (fun _ h9 => h9) dX10_findsLike_1 ?_
  refine lv_bipush (v := (16 : Int32)) hx hb dX10_findsLike_4 (by decide) ?_
  replace h := o_b h; obtain ⟨x6, h6, h⟩ := h
  refine m_iald hx hb hK.1 hM hS rfl h6 dX10_findsLike_6 ?_
  refine lv_istore_n (lv' := [(1, .int x6), (0, .ref v0)]) hx hb dX10_findsLike_7 rfl hl (by decide) rfl (fun ls hl => ?_)
  refine lv_iconst (v := (0 : Int32)) hx hb dX10_findsLike_8 (by decide) ?_
  refine lv_istore_n (lv' := [(2, .int (0 : Int32)), (1, .int x6), (0, .ref v0)]) hx hb dX10_findsLike_9 rfl hl (by decide) rfl (fun ls hl => ?_)
  exact w_X10_findsLike_10 C0 FU _ _ _ _ h _ _ _ hM hS (lv_sub hl [2, 1, 0] rfl)
set_option maxHeartbeats 4000000 in
set_option maxRecDepth 100000 in
theorem c_X10_findsLike (l : Launch) (D : mmD) (b0 sz : Nat) {v0 : Nat} {f : mmF} {res : mmF} (h : f_X10_findsLike v0 f = some res) : Met l yX10_findsLike wsX10_findsLike ({ frames := 2, cells := 0, slots := 0, locals := 45 } : Room) (va_Pc [.ref v0] (PW D b0 f sz)) (QW D b0 none res sz) 0 0 (fun q => b0 ≤ q) := by
  refine Met.ofW (cc := cX10_findsLike) (maxL := 5) (ret := none) (by decide) rfl ?_
  intro p e s m args below meth c s₁ B hml hv
  obtain ⟨rfl, hM, hK⟩ := hv
  have hl := lv_entry ([.ref v0]) (n := 5) (Nat.le_of_ble_eq_true rfl)
  rw [lg_entry_eq]
  generalize (lg_sl ([.ref v0]) ++ List.replicate (5 - (lg_sl ([.ref v0])).length) Slot.unset).toArray = ls at hl ⊢
  have hl : lv_has ls 5 [(0, .ref v0)] := hl
  exact w_X10_findsLike ⟨B.exec, B.bytes, B.returns, hml, findClass_of_methodNamed B.named, atoms_spec (ws := wsX10_findsLike) B.pre, B.notSynchronized, hK⟩ h s.heap [] ls hM va_S.rf hl
end S_X10_findsLike
/-! X10_lowest -/
noncomputable def f_X10_lowest_2  (f : mmF) : Nat → Int32 → Int32 → Option (Int32)
  | 0, _, _ => none
  | n + 1, v0, v1 =>
    if ((v0 >>> (v1 &&& 31)) &&& (1 : Int32)) = 0 then
    (f_X10_lowest_2 f n v0 (v1 + (1 : Int32)))
    else
    some (v1)
noncomputable def f_X10_lowest (v0 : Int32) (f : mmF) : Option (Int32) :=
  f_X10_lowest_2 f FU v0 (0 : Int32)
section S_X10_lowest
variable {p : Program} {l : Launch} {e : Env} {s : State} {m : MethodId} {args : Array Value} {below : List Frame} {meth : Method} {c : Code} {D : mmD} {b0 sz : Nat} {f : mmF}
set_option maxHeartbeats 4000000 in
set_option maxRecDepth 100000 in
theorem w_X10_lowest_2 (C0 : CX cX10_lowest 2 (some .int) wsX10_lowest RX10 p s m args meth c D b0) {res : Int32} : ∀ (n : Nat), ∀ (v0 : Int32) (v1 : Int32), f_X10_lowest_2 f n v0 v1 = some res → ∀ (H : Heap) (locs : List Loc) (ls : Array Slot), MM vwCl D b0 f sz s H → mS b0 s H locs → lv_has ls 2 [(0, .int v0), (1, .int v1)] → W p l e ({ frames := 0, cells := 0, slots := 0, locals := 0 } : Room) s m args below meth c H locs 0 0 (MQ below (QW D b0 (some (.int res)) f sz) args s 0 0 (fun q => b0 ≤ q)) (F0 m 2 ls []) := by
  obtain ⟨hx, hb, hr, hml, hown, hts, hlocks, hK⟩ := id C0
  intro n
  induction n with
  | zero =>
    intro v0 v1 h
    have h : (none : Option (Int32)) = some res := h
    cases h
  | succ n ih =>
    intro v0 v1 h H locs ls hM hS hl
    rw [f_X10_lowest_2] at h
    refine lv_iload_n hx hb dX10_lowest_2 rfl (lv_at hl 0 rfl) ?_
    refine lv_iload_n hx hb dX10_lowest_3 rfl (lv_at hl 1 rfl) ?_
    refine lv_ishr hx hb dX10_lowest_4 ?_
    refine lv_iconst (v := (1 : Int32)) hx hb dX10_lowest_5 (by decide) ?_
    refine lv_iand hx hb dX10_lowest_6 ?_
    refine lv_if_ne (tgt := 16) hx hb dX10_lowest_7 (by decide) (fun c7 => ?_) (fun c7 => ?_)
    · replace h := o_f c7 h
      refine lv_iload_n hx hb dX10_lowest_16 rfl (lv_at hl 1 rfl) ?_
      replace h := Option.some.inj h; subst h
      exact W.iret hx hb hr (fun t ht hW => ⟨rfl, by rw [ht]; exact hM.moved hW.alike, hS.F ht⟩) hS.2.2 dX10_lowest_17
    replace h := o_t c7 h
    refine lv_iinc (v := (v1 + (1 : Int32))) (lv' := [(1, .int (v1 + (1 : Int32))), (0, .int v0)]) hx hb dX10_lowest_10 hl (k := 1) rfl rfl (by decide) rfl (fun ls hl => ?_)
    refine lv_goto (tgt := 2) hx hb dX10_lowest_13 (by decide) ?_
    exact ih _ _ h _ _ _ hM hS (lv_sub hl [1, 0] rfl)
set_option maxHeartbeats 4000000 in
set_option maxRecDepth 100000 in
theorem w_X10_lowest (C0 : CX cX10_lowest 2 (some .int) wsX10_lowest RX10 p s m args meth c D b0) {v0 : Int32} {res : Int32} (h : f_X10_lowest v0 f = some res) : ∀ (H : Heap) (locs : List Loc) (ls : Array Slot), MM vwCl D b0 f sz s H → mS b0 s H locs → lv_has ls 2 [(0, .int v0)] → W p l e ({ frames := 0, cells := 0, slots := 0, locals := 0 } : Room) s m args below meth c H locs 0 0 (MQ below (QW D b0 (some (.int res)) f sz) args s 0 0 (fun q => b0 ≤ q)) (F0 m 0 ls []) := by
  obtain ⟨hx, hb, hr, hml, hown, hts, hlocks, hK⟩ := id C0
  intro H locs ls hM hS hl
  unfold f_X10_lowest at h
  refine lv_iconst (v := (0 : Int32)) hx hb dX10_lowest_0 (by decide) ?_
  refine lv_istore_n (lv' := [(1, .int (0 : Int32)), (0, .int v0)]) hx hb dX10_lowest_1 rfl hl (by decide) rfl (fun ls hl => ?_)
  exact w_X10_lowest_2 C0 FU _ _ h _ _ _ hM hS (lv_sub hl [1, 0] rfl)
set_option maxHeartbeats 4000000 in
set_option maxRecDepth 100000 in
theorem c_X10_lowest (l : Launch) (D : mmD) (b0 sz : Nat) {v0 : Int32} {f : mmF} {res : Int32} (h : f_X10_lowest v0 f = some res) : Met l yX10_lowest wsX10_lowest ({ frames := 0, cells := 0, slots := 0, locals := 0 } : Room) (va_Pc [.int v0] (PW D b0 f sz)) (QW D b0 (some (.int res)) f sz) 0 0 (fun q => b0 ≤ q) := by
  refine Met.ofW (cc := cX10_lowest) (maxL := 2) (ret := (some .int)) (by decide) rfl ?_
  intro p e s m args below meth c s₁ B hml hv
  obtain ⟨rfl, hM, hK⟩ := hv
  have hl := lv_entry ([.int v0]) (n := 2) (Nat.le_of_ble_eq_true rfl)
  rw [lg_entry_eq]
  generalize (lg_sl ([.int v0]) ++ List.replicate (2 - (lg_sl ([.int v0])).length) Slot.unset).toArray = ls at hl ⊢
  have hl : lv_has ls 2 [(0, .int v0)] := hl
  exact w_X10_lowest ⟨B.exec, B.bytes, B.returns, hml, findClass_of_methodNamed B.named, atoms_spec (ws := wsX10_lowest) B.pre, B.notSynchronized, hK⟩ h s.heap [] ls hM va_S.rf hl
end S_X10_lowest
