/-! X8_goesOn -/
set_option maxRecDepth 20000 in
theorem qi_X8_goesOn_X8 : ∀ w ∈ u_ws RX8 TX8 7, w ∈ wsX8_goesOn := by decide +kernel
set_option maxRecDepth 20000 in
theorem q_X8_goesOn_1 : Cond.fieldLink RX8 31 "StageTruths$Text" "open" "I" ∈ wsX8_goesOn := by decide +kernel
set_option maxRecDepth 20000 in
theorem q_X8_goesOn_2 : Cond.fieldLink RX8 28 "StageTruths$Text" "waitingLength" "I" ∈ wsX8_goesOn := by decide +kernel
set_option maxRecDepth 20000 in
theorem q_X8_goesOn_3 : Cond.methodLink RX8 60 Lib.Math.max.name ∈ wsX8_goesOn := by decide +kernel
set_option maxRecDepth 20000 in
theorem q_X8_goesOn_4 : Cond.static Lib.Math.max.name ∈ wsX8_goesOn := by decide +kernel
set_option maxRecDepth 20000 in
theorem q_X8_goesOn_5 : Cond.initialized "java/lang/Math" ∈ wsX8_goesOn := by decide +kernel
set_option maxRecDepth 20000 in
theorem q_X8_goesOn_6 : Cond.code Lib.Math.max.name Lib.Math.max.code 2 (some .int) ∈ wsX8_goesOn := by decide +kernel
noncomputable def f_X8_goesOn_81   (v0 : Nat) (v1 : Int32) (t0 : Nat) (t1 : Int32) (f : mmF) : Option (Int32 × mmF) :=
  (ckO f t0 8).bind fun _ =>
  (f_X8_settle t0 t1 f).bind fun q81 =>
  (ckO q81 v0 8).bind fun _ =>
  (f_X8_await v0 v1 q81).bind fun q86 =>
  some ((1 : Int32), q86)
noncomputable def f_X8_goesOn_62   (v0 : Nat) (v1 : Int32) (f : mmF) : Option (Int32 × mmF) :=
  if v1 = (9 : Int32) then
  ((f_X8_tightness (8 : Int32) f).bind fun q71 =>
  f_X8_goesOn_81 v0 v1 v0 q71 f)
  else
  (f_X8_tightness v1 f).bind fun q78 =>
  f_X8_goesOn_81 v0 v1 v0 q78 f
noncomputable def f_X8_goesOn_44   (v0 : Nat) (v1 : Int32) (f : mmF) : Option (Int32 × mmF) :=
  if v1 = (7 : Int32) then
  (f_X8_goesOn_62 v0 v1 f)
  else
  if v1 = (8 : Int32) then
  (f_X8_goesOn_62 v0 v1 f)
  else
  if v1 = (9 : Int32) then
  (f_X8_goesOn_62 v0 v1 f)
  else
  some ((0 : Int32), f)
noncomputable def f_X8_goesOn (v0 : Nat) (v1 : Int32) (f : mmF) : Option (Int32 × mmF) :=
  if v1 = (11 : Int32) then
  ((ldI f v0 8 6).bind fun x7 =>
  if x7 ≤ 0 then
  (f_X8_goesOn_44 v0 v1 f)
  else
  (ckO f v0 8).bind fun _ =>
  (f_X8_settle v0 (1 : Int32) f).bind fun q15 =>
  (ldI q15 v0 8 6).bind fun x20 =>
  (stF q15 v0 8 6 (.int (x20 - (1 : Int32)))).bind fun f25 =>
  (ldI f25 v0 8 5).bind fun x31 =>
  (stF f25 v0 8 5 (.int (if (0 : Int32) < (x31 - (1 : Int32)) then (x31 - (1 : Int32)) else (0 : Int32)))).bind fun f39 =>
  some ((1 : Int32), f39))
  else
  f_X8_goesOn_44 v0 v1 f
section S_X8_goesOn
variable {p : Program} {l : Launch} {e : Env} {s : State} {m : MethodId} {args : Array Value} {below : List Frame} {meth : Method} {c : Code} {D : mmD} {b0 sz : Nat} {f : mmF}
set_option maxHeartbeats 4000000 in
set_option maxRecDepth 100000 in
theorem w_X8_goesOn_81 (C0 : CX cX8_goesOn 2 (some .boolean) wsX8_goesOn RX8 p s m args meth c D b0) {res : Int32 × mmF} : ∀ (v0 : Nat) (v1 : Int32) (t0 : Nat) (t1 : Int32) (f : mmF), f_X8_goesOn_81 v0 v1 t0 t1 f = some res → ∀ (H : Heap) (locs : List Loc) (ls : Array Slot), MM vwCl D b0 f sz s H → mS b0 s H locs → lv_has ls 2 [(0, .ref v0), (1, .int v1)] → W p l e ({ frames := 2, cells := 0, slots := 0, locals := 43 } : Room) s m args below meth c H locs 0 0 (MQ below (QW D b0 (some (.int res.1)) res.2 sz) args s 0 0 (fun q => b0 ≤ q)) (F0 m 81 ls [.int t1, .ref t0]) := by
  obtain ⟨hx, hb, hr, hml, hown, hts, hlocks, hK⟩ := id C0
  intro v0 v1 t0 t1 f h H locs ls hM hS hl
  unfold f_X8_goesOn_81 at h
  replace h := o_b h; obtain ⟨_, k81, h⟩ := h
  replace h := o_b h; obtain ⟨q81, h81, h⟩ := h
  refine m_call (va_runV (As := [.int t1]) (rest := []) ⟨hx, hb, hml, hown, hts⟩ (c_X8_settle l D b0 sz h81) (cwV 1 hts gX8_goesOn_X8_settle rfl rfl rfl (by decide +kernel) ⟨Nat.le_of_ble_eq_true rfl, Nat.le_of_ble_eq_true rfl⟩) ⟨PW.blind, m_recv (ci := 8) rfl hK hM k81, (fun U hU hW => ⟨rfl, PW.call hK hM hS hU hW⟩)⟩ rfl rfl hl.1 rfl (lv_room (Nat.le_of_ble_eq_true rfl)) dX8_goesOn_81 ⟨(Nat.le_refl _), (Nat.le_refl _)⟩) hS (fun H locs hM hS => ?_)
  refine lv_aload_n hx hb dX8_goesOn_84 rfl (lv_at hl 0 rfl) ?_
  refine lv_iload_n hx hb dX8_goesOn_85 rfl (lv_at hl 1 rfl) ?_
  replace h := o_b h; obtain ⟨_, k86, h⟩ := h
  replace h := o_b h; obtain ⟨q86, h86, h⟩ := h
  refine m_call (va_runV (As := [.int v1]) (rest := []) ⟨hx, hb, hml, hown, hts⟩ (c_X8_await l D b0 sz h86) (cwV 1 hts gX8_goesOn_X8_await rfl rfl rfl (by decide +kernel) ⟨Nat.le_of_ble_eq_true rfl, Nat.le_of_ble_eq_true rfl⟩) ⟨PW.blind, m_recv (ci := 8) rfl hK hM k86, (fun U hU hW => ⟨rfl, PW.call hK hM hS hU hW⟩)⟩ rfl rfl hl.1 rfl (lv_room (Nat.le_of_ble_eq_true rfl)) dX8_goesOn_86 ⟨(Nat.le_refl _), (Nat.le_refl _)⟩) hS (fun H locs hM hS => ?_)
  refine lv_iconst (v := (1 : Int32)) hx hb dX8_goesOn_89 (by decide) ?_
  replace h := Option.some.inj h; subst h
  exact W.zret hx hb hr rfl (fun t ht hW => ⟨rfl, by rw [ht]; exact hM.moved hW.alike, hS.F ht⟩) hS.2.2 dX8_goesOn_90
set_option maxHeartbeats 4000000 in
set_option maxRecDepth 100000 in
theorem w_X8_goesOn_62 (C0 : CX cX8_goesOn 2 (some .boolean) wsX8_goesOn RX8 p s m args meth c D b0) {res : Int32 × mmF} : ∀ (v0 : Nat) (v1 : Int32) (f : mmF), f_X8_goesOn_62 v0 v1 f = some res → ∀ (H : Heap) (locs : List Loc) (ls : Array Slot), MM vwCl D b0 f sz s H → mS b0 s H locs → lv_has ls 2 [(0, .ref v0), (1, .int v1)] → W p l e ({ frames := 2, cells := 0, slots := 0, locals := 43 } : Room) s m args below meth c H locs 0 0 (MQ below (QW D b0 (some (.int res.1)) res.2 sz) args s 0 0 (fun q => b0 ≤ q)) (F0 m 62 ls []) := by
  obtain ⟨hx, hb, hr, hml, hown, hts, hlocks, hK⟩ := id C0
  intro v0 v1 f h H locs ls hM hS hl
  unfold f_X8_goesOn_62 at h
  refine lv_aload_n hx hb dX8_goesOn_62 rfl (lv_at hl 0 rfl) ?_
  refine lv_iload_n hx hb dX8_goesOn_63 rfl (lv_at hl 1 rfl) ?_
  refine lv_bipush (v := (9 : Int32)) hx hb dX8_goesOn_64 (by decide) ?_
  refine lv_icmp_ne (tgt := 77) hx hb dX8_goesOn_66 (by decide) (fun c66 => ?_) (fun c66 => ?_)
  · replace h := o_f c66 h
    refine lv_iload_n hx hb dX8_goesOn_77 rfl (lv_at hl 1 rfl) ?_
    replace h := o_b h; obtain ⟨q78, h78, h⟩ := h
    refine m_call (va_runS (As := [.int v1]) (rest := [.ref v0]) ⟨hx, hb, hml, hown, hts⟩ (c_X8_tightness l D b0 sz h78) (va_cwS 1 hts gX8_goesOn_X8_tightness rfl rfl rfl (by decide +kernel) ⟨Nat.le_of_ble_eq_true rfl, Nat.le_of_ble_eq_true rfl⟩) ⟨PW.blind, (fun U hU hW => ⟨rfl, PW.call hK hM hS hU hW⟩)⟩ rfl rfl hl.1 rfl (lv_room (Nat.le_of_ble_eq_true rfl)) dX8_goesOn_78 ⟨(Nat.le_refl _), (Nat.le_refl _)⟩) hS (fun H locs hM hS => ?_)
    exact w_X8_goesOn_81 C0 _ _ _ _ _ h _ _ _ hM hS (lv_sub hl [0, 1] rfl)
  replace h := o_t c66 h
  refine lv_bipush (v := (8 : Int32)) hx hb dX8_goesOn_69 (by decide) ?_
  replace h := o_b h; obtain ⟨q71, h71, h⟩ := h
  refine m_call (va_runS (As := [.int (8 : Int32)]) (rest := [.ref v0]) ⟨hx, hb, hml, hown, hts⟩ (c_X8_tightness l D b0 sz h71) (va_cwS 1 hts gX8_goesOn_X8_tightness rfl rfl rfl (by decide +kernel) ⟨Nat.le_of_ble_eq_true rfl, Nat.le_of_ble_eq_true rfl⟩) ⟨PW.blind, (fun U hU hW => ⟨rfl, PW.call hK hM hS hU hW⟩)⟩ rfl rfl hl.1 rfl (lv_room (Nat.le_of_ble_eq_true rfl)) dX8_goesOn_71 ⟨(Nat.le_refl _), (Nat.le_refl _)⟩) hS (fun H locs hM hS => ?_)
  refine lv_goto (tgt := 81) hx hb dX8_goesOn_74 (by decide) ?_
  exact w_X8_goesOn_81 C0 _ _ _ _ _ h _ _ _ hM hS (lv_sub hl [0, 1] rfl)
set_option maxHeartbeats 4000000 in
set_option maxRecDepth 100000 in
theorem w_X8_goesOn_44 (C0 : CX cX8_goesOn 2 (some .boolean) wsX8_goesOn RX8 p s m args meth c D b0) {res : Int32 × mmF} : ∀ (v0 : Nat) (v1 : Int32) (f : mmF), f_X8_goesOn_44 v0 v1 f = some res → ∀ (H : Heap) (locs : List Loc) (ls : Array Slot), MM vwCl D b0 f sz s H → mS b0 s H locs → lv_has ls 2 [(0, .ref v0), (1, .int v1)] → W p l e ({ frames := 2, cells := 0, slots := 0, locals := 43 } : Room) s m args below meth c H locs 0 0 (MQ below (QW D b0 (some (.int res.1)) res.2 sz) args s 0 0 (fun q => b0 ≤ q)) (F0 m 44 ls []) := by
  obtain ⟨hx, hb, hr, hml, hown, hts, hlocks, hK⟩ := id C0
  intro v0 v1 f h H locs ls hM hS hl
  unfold f_X8_goesOn_44 at h
  refine lv_iload_n hx hb dX8_goesOn_44 rfl (lv_at hl 1 rfl) ?_
  refine lv_bipush (v := (7 : Int32)) hx hb dX8_goesOn_45 (by decide) ?_
  refine lv_icmp_eq (tgt := 62) hx hb dX8_goesOn_47 (by decide) (fun c47 => ?_) (fun c47 => ?_)
  · replace h := o_t c47 h
    exact w_X8_goesOn_62 C0 _ _ _ h _ _ _ hM hS (lv_sub hl [0, 1] rfl)
  replace h := o_f c47 h
  refine lv_iload_n hx hb dX8_goesOn_50 rfl (lv_at hl 1 rfl) ?_
  refine lv_bipush (v := (8 : Int32)) hx hb dX8_goesOn_51 (by decide) ?_
  refine lv_icmp_eq (tgt := 62) hx hb dX8_goesOn_53 (by decide) (fun c53 => ?_) (fun c53 => ?_)
  · replace h := o_t c53 h
    exact w_X8_goesOn_62 C0 _ _ _ h _ _ _ hM hS (lv_sub hl [0, 1] rfl)
  replace h := o_f c53 h
  refine lv_iload_n hx hb dX8_goesOn_56 rfl (lv_at hl 1 rfl) ?_
  refine lv_bipush (v := (9 : Int32)) hx hb dX8_goesOn_57 (by decide) ?_
  refine lv_icmp_ne (tgt := 91) hx hb dX8_goesOn_59 (by decide) (fun c59 => ?_) (fun c59 => ?_)
  · replace h := o_f c59 h
    refine lv_iconst (v := (0 : Int32)) hx hb dX8_goesOn_91 (by decide) ?_
    replace h := Option.some.inj h; subst h
    exact W.zret hx hb hr rfl (fun t ht hW => ⟨rfl, by rw [ht]; exact hM.moved hW.alike, hS.F ht⟩) hS.2.2 dX8_goesOn_92
  replace h := o_t c59 h
  exact w_X8_goesOn_62 C0 _ _ _ h _ _ _ hM hS (lv_sub hl [0, 1] rfl)
set_option maxHeartbeats 4000000 in
set_option maxRecDepth 100000 in
theorem w_X8_goesOn (C0 : CX cX8_goesOn 2 (some .boolean) wsX8_goesOn RX8 p s m args meth c D b0) {v0 : Nat} {v1 : Int32} {res : Int32 × mmF} (h : f_X8_goesOn v0 v1 f = some res) : ∀ (H : Heap) (locs : List Loc) (ls : Array Slot), MM vwCl D b0 f sz s H → mS b0 s H locs → lv_has ls 2 [(0, .ref v0), (1, .int v1)] → W p l e ({ frames := 2, cells := 0, slots := 0, locals := 43 } : Room) s m args below meth c H locs 0 0 (MQ below (QW D b0 (some (.int res.1)) res.2 sz) args s 0 0 (fun q => b0 ≤ q)) (F0 m 0 ls []) := by
  obtain ⟨hx, hb, hr, hml, hown, hts, hlocks, hK⟩ := id C0
  intro H locs ls hM hS hl
  unfold f_X8_goesOn at h
  refine lv_iload_n hx hb dX8_goesOn_0 rfl (lv_at hl 1 rfl) ?_
  refine lv_bipush (v := (11 : Int32)) hx hb dX8_goesOn_1 (by decide) ?_
  refine lv_icmp_ne (tgt := 44) hx hb dX8_goesOn_3 (by decide) (fun c3 => ?_) (fun c3 => ?_)
  · replace h := o_f c3 h
    exact w_X8_goesOn_44 C0 _ _ _ h _ _ _ hM hS (lv_sub hl [0, 1] rfl)
  replace h := o_t c3 h
  refine lv_aload_n hx hb dX8_goesOn_6 rfl (lv_at hl 0 rfl) ?_
  replace h := o_b h; obtain ⟨x7, h7, h⟩ := h
  refine m_get (C := RX8) (T := TX8) (N := 7) (ci := 8) hx hb hts qi_X8_goesOn_X8 hown hK.1 hM 6 (ldI_F h7) rfl (by decide) (hts _ q_X8_goesOn_1) (fun _ h9 => h9) dX8_goesOn_7 ?_
  refine lv_if_le (tgt := 44) hx hb dX8_goesOn_10 (by decide) (fun c10 => ?_) (fun c10 => ?_)
  · replace h := o_t c10 h
    exact w_X8_goesOn_44 C0 _ _ _ h _ _ _ hM hS (lv_sub hl [0, 1] rfl)
  replace h := o_f c10 h
  refine lv_aload_n hx hb dX8_goesOn_13 rfl (lv_at hl 0 rfl) ?_
  refine lv_iconst (v := (1 : Int32)) hx hb dX8_goesOn_14 (by decide) ?_
  replace h := o_b h; obtain ⟨_, k15, h⟩ := h
  replace h := o_b h; obtain ⟨q15, h15, h⟩ := h
  refine m_call (va_runV (As := [.int (1 : Int32)]) (rest := []) ⟨hx, hb, hml, hown, hts⟩ (c_X8_settle l D b0 sz h15) (cwV 1 hts gX8_goesOn_X8_settle rfl rfl rfl (by decide +kernel) ⟨Nat.le_of_ble_eq_true rfl, Nat.le_of_ble_eq_true rfl⟩) ⟨PW.blind, m_recv (ci := 8) rfl hK hM k15, (fun U hU hW => ⟨rfl, PW.call hK hM hS hU hW⟩)⟩ rfl rfl hl.1 rfl (lv_room (Nat.le_of_ble_eq_true rfl)) dX8_goesOn_15 ⟨(Nat.le_refl _), (Nat.le_refl _)⟩) hS (fun H locs hM hS => ?_)
  refine lv_aload_n hx hb dX8_goesOn_18 rfl (lv_at hl 0 rfl) ?_
  refine lv_dup hx hb dX8_goesOn_19 rfl ?_
  replace h := o_b h; obtain ⟨x20, h20, h⟩ := h
  refine m_get (C := RX8) (T := TX8) (N := 7) (ci := 8) hx hb hts qi_X8_goesOn_X8 hown hK.1 hM 6 (ldI_F h20) rfl (by decide) (hts _ q_X8_goesOn_1) (fun _ h9 => h9) dX8_goesOn_20 ?_
  refine lv_iconst (v := (1 : Int32)) hx hb dX8_goesOn_23 (by decide) ?_
  refine lv_isub hx hb dX8_goesOn_24 ?_
  replace h := o_b h; obtain ⟨f25, h25, h⟩ := h
  refine m_put (ty := .int) (C := RX8) (T := TX8) (N := 7) (ci := 8) hx hb hts qi_X8_goesOn_X8 tyX8 tyX8_ok nmX8 hown hK.1 hM hS 6 h25 rfl (by decide) (hts _ q_X8_goesOn_1) (fun _ h9 => h9) rfl (by decide +kernel) rfl rfl dX8_goesOn_25 (fun H locs hM hS => ?_)
  refine lv_aload_n hx hb dX8_goesOn_28 rfl (lv_at hl 0 rfl) ?_
  refine lv_iconst (v := (0 : Int32)) hx hb dX8_goesOn_29 (by decide) ?_
  refine lv_aload_n hx hb dX8_goesOn_30 rfl (lv_at hl 0 rfl) ?_
  replace h := o_b h; obtain ⟨x31, h31, h⟩ := h
  refine m_get (C := RX8) (T := TX8) (N := 7) (ci := 8) hx hb hts qi_X8_goesOn_X8 hown hK.1 hM 5 (ldI_F h31) rfl (by decide) (hts _ q_X8_goesOn_2) (fun _ h9 => h9) dX8_goesOn_31 ?_
  refine lv_iconst (v := (1 : Int32)) hx hb dX8_goesOn_34 (by decide) ?_
  refine lv_isub hx hb dX8_goesOn_35 ?_
  refine va_mmax hx hb (hml.trans hl.1.symm) hown (hts _ q_X8_goesOn_3) (hts _ q_X8_goesOn_4) (hts _ q_X8_goesOn_5) (hts _ q_X8_goesOn_6) (Nat.le_of_ble_eq_true rfl) (Nat.le_of_ble_eq_true rfl) (Nat.zero_le _) (Nat.zero_le _) dX8_goesOn_36 ?_
  replace h := o_b h; obtain ⟨f39, h39, h⟩ := h
  refine m_put (ty := .int) (C := RX8) (T := TX8) (N := 7) (ci := 8) hx hb hts qi_X8_goesOn_X8 tyX8 tyX8_ok nmX8 hown hK.1 hM hS 5 h39 rfl (by decide) (hts _ q_X8_goesOn_2) (fun _ h9 => h9) rfl (by decide +kernel) rfl rfl dX8_goesOn_39 (fun H locs hM hS => ?_)
  refine lv_iconst (v := (1 : Int32)) hx hb dX8_goesOn_42 (by decide) ?_
  replace h := Option.some.inj h; subst h
  exact W.zret hx hb hr rfl (fun t ht hW => ⟨rfl, by rw [ht]; exact hM.moved hW.alike, hS.F ht⟩) hS.2.2 dX8_goesOn_43
set_option maxHeartbeats 4000000 in
set_option maxRecDepth 100000 in
theorem c_X8_goesOn (l : Launch) (D : mmD) (b0 sz : Nat) {v0 : Nat} {v1 : Int32} {f : mmF} {res : Int32 × mmF} (h : f_X8_goesOn v0 v1 f = some res) : Met l yX8_goesOn wsX8_goesOn ({ frames := 2, cells := 0, slots := 0, locals := 43 } : Room) (va_Pc [.ref v0, .int v1] (PW D b0 f sz)) (QW D b0 (some (.int res.1)) res.2 sz) 0 0 (fun q => b0 ≤ q) := by
  refine Met.ofW (cc := cX8_goesOn) (maxL := 2) (ret := (some .boolean)) (by decide) rfl ?_
  intro p e s m args below meth c s₁ B hml hv
  obtain ⟨rfl, hM, hK⟩ := hv
  have hl := lv_entry ([.ref v0, .int v1]) (n := 2) (Nat.le_of_ble_eq_true rfl)
  rw [lg_entry_eq]
  generalize (lg_sl ([.ref v0, .int v1]) ++ List.replicate (2 - (lg_sl ([.ref v0, .int v1])).length) Slot.unset).toArray = ls at hl ⊢
  have hl : lv_has ls 2 [(0, .ref v0), (1, .int v1)] := hl
  exact w_X8_goesOn ⟨B.exec, B.bytes, B.returns, hml, findClass_of_methodNamed B.named, atoms_spec (ws := wsX8_goesOn) B.pre, B.notSynchronized, hK⟩ h s.heap [] ls hM va_S.rf hl
end S_X8_goesOn
/-! X8_readFault -/
set_option maxRecDepth 20000 in
theorem qi_X8_readFault_X8 : ∀ w ∈ u_ws RX8 TX8 7, w ∈ wsX8_readFault := by decide +kernel
set_option maxRecDepth 20000 in
theorem q_X8_readFault_1 : Cond.fieldLink RX8 9 "StageTruths$Text" "length" "I" ∈ wsX8_readFault := by decide +kernel
set_option maxRecDepth 20000 in
theorem q_X8_readFault_2 : Cond.fieldLink RX8 31 "StageTruths$Text" "open" "I" ∈ wsX8_readFault := by decide +kernel
set_option maxRecDepth 20000 in
theorem q_X8_readFault_3 : Cond.fieldLink RX8 15 "StageTruths$Text" "signs" "[I" ∈ wsX8_readFault := by decide +kernel
set_option maxRecDepth 20000 in
theorem q_X8_readFault_4 : Cond.fieldLink RX8 22 "StageTruths$Text" "readLength" "I" ∈ wsX8_readFault := by decide +kernel
set_option maxRecDepth 20000 in
theorem q_X8_readFault_5 : Cond.fieldLink RX8 28 "StageTruths$Text" "waitingLength" "I" ∈ wsX8_readFault := by decide +kernel
noncomputable def f_X8_readFault_93   (v0 : Nat) (f : mmF) : Option (Int32 × mmF) :=
  (ldI f v0 8 0).bind fun x94 =>
  some (x94, f)
noncomputable def f_X8_readFault_75 (k19 : Nat → Int32 → Int32 → mmF → Option (Int32 × mmF))  (v0 : Nat) (v2 : Int32) (t0 : Int32) (f : mmF) : Option (Int32 × mmF) :=
  k19 v0 t0 (v2 + (1 : Int32)) f
noncomputable def f_X8_readFault_74 (k19 : Nat → Int32 → Int32 → mmF → Option (Int32 × mmF))  (v0 : Nat) (v2 : Int32) (f : mmF) : Option (Int32 × mmF) :=
  f_X8_readFault_75 k19 v0 v2 (0 : Int32) f
noncomputable def f_X8_readFault_59 (k19 : Nat → Int32 → Int32 → mmF → Option (Int32 × mmF))  (v0 : Nat) (v2 : Int32) (v3 : Int32) (f : mmF) : Option (Int32 × mmF) :=
  if v3 ≤ (5 : Int32) then
  (f_X8_readFault_74 k19 v0 v2 f)
  else
  if v3 = (11 : Int32) then
  (f_X8_readFault_74 k19 v0 v2 f)
  else
  f_X8_readFault_75 k19 v0 v2 (1 : Int32) f
noncomputable def f_X8_readFault_19   : Nat → Nat → Int32 → Int32 → mmF → Option (Int32 × mmF)
  | 0, _, _, _, _ => none
  | n + 1, v0, v1, v2, f =>
    (ldI f v0 8 0).bind fun x21 =>
    if x21 ≤ v2 then
    (if v1 = 0 then
    ((ldI f v0 8 6).bind fun x87 =>
    if x87 ≤ 0 then
    ((ckO f v0 8).bind fun _ =>
    (f_X8_settle v0 (1 : Int32) f).bind fun q100 =>
    some ((-1 : Int32), q100))
    else
    f_X8_readFault_93 v0 f)
    else
    f_X8_readFault_93 v0 f)
    else
    (ldR f v0 8 1).bind fun x28 =>
    (ldA 0 f x28 v2).bind fun x32 =>
    if v1 = 0 then
    ((ckO f v0 8).bind fun _ =>
    (f_X8_goesOn v0 x32 f).bind fun q51 =>
    if q51.1 = 0 then
    (some (v2, q51.2))
    else
    f_X8_readFault_59 (fun a0 a1 a2 a3 => f_X8_readFault_19 n a0 a1 a2 a3) v0 v2 x32 q51.2)
    else
    (ckO f v0 8).bind fun _ =>
    (f_X8_beginsPart v0 x32 f).bind fun q40 =>
    if q40.1 = 0 then
    (some (v2, q40.2))
    else
    f_X8_readFault_59 (fun a0 a1 a2 a3 => f_X8_readFault_19 n a0 a1 a2 a3) v0 v2 x32 q40.2
noncomputable def f_X8_readFault (v0 : Nat) (f : mmF) : Option (Int32 × mmF) :=
  (stF f v0 8 3 (.int (0 : Int32))).bind fun f2 =>
  (stF f2 v0 8 5 (.int (0 : Int32))).bind fun f7 =>
  (stF f7 v0 8 6 (.int (0 : Int32))).bind fun f12 =>
  f_X8_readFault_19 FU v0 (1 : Int32) (0 : Int32) f12
section S_X8_readFault
variable {p : Program} {l : Launch} {e : Env} {s : State} {m : MethodId} {args : Array Value} {below : List Frame} {meth : Method} {c : Code} {D : mmD} {b0 sz : Nat} {f : mmF}
set_option maxHeartbeats 4000000 in
set_option maxRecDepth 100000 in
theorem w_X8_readFault_93 (C0 : CX cX8_readFault 4 (some .int) wsX8_readFault RX8 p s m args meth c D b0) {res : Int32 × mmF} : ∀ (v0 : Nat) (f : mmF), f_X8_readFault_93 v0 f = some res → ∀ (H : Heap) (locs : List Loc) (ls : Array Slot), MM vwCl D b0 f sz s H → mS b0 s H locs → lv_has ls 4 [(0, .ref v0)] → W p l e ({ frames := 3, cells := 0, slots := 0, locals := 64 } : Room) s m args below meth c H locs 0 0 (MQ below (QW D b0 (some (.int res.1)) res.2 sz) args s 0 0 (fun q => b0 ≤ q)) (F0 m 93 ls []) := by
  obtain ⟨hx, hb, hr, hml, hown, hts, hlocks, hK⟩ := id C0
  intro v0 f h H locs ls hM hS hl
  unfold f_X8_readFault_93 at h
  refine lv_aload_n hx hb dX8_readFault_93 rfl (lv_at hl 0 rfl) ?_
  replace h := o_b h; obtain ⟨x94, h94, h⟩ := h
  refine m_get (C := RX8) (T := TX8) (N := 7) (ci := 8) hx hb hts qi_X8_readFault_X8 hown hK.1 hM 0 (ldI_F h94) rfl (by decide) (hts _ q_X8_readFault_1) (fun _ h9 => h9) dX8_readFault_94 ?_
  replace h := Option.some.inj h; subst h
  exact W.iret hx hb hr (fun t ht hW => ⟨rfl, by rw [ht]; exact hM.moved hW.alike, hS.F ht⟩) hS.2.2 dX8_readFault_97
set_option maxHeartbeats 4000000 in
set_option maxRecDepth 100000 in
theorem w_X8_readFault_75 (C0 : CX cX8_readFault 4 (some .int) wsX8_readFault RX8 p s m args meth c D b0) {k19 : Nat → Int32 → Int32 → mmF → Option (Int32 × mmF)} {res : Int32 × mmF} (hk19 : ∀ (v0 : Nat) (v1 : Int32) (v2 : Int32) (f : mmF), k19 v0 v1 v2 f = some res → ∀ (H : Heap) (locs : List Loc) (ls : Array Slot), MM vwCl D b0 f sz s H → mS b0 s H locs → lv_has ls 4 [(0, .ref v0), (1, .int v1), (2, .int v2)] → W p l e ({ frames := 3, cells := 0, slots := 0, locals := 64 } : Room) s m args below meth c H locs 0 0 (MQ below (QW D b0 (some (.int res.1)) res.2 sz) args s 0 0 (fun q => b0 ≤ q)) (F0 m 19 ls [])) : ∀ (v0 : Nat) (v2 : Int32) (t0 : Int32) (f : mmF), f_X8_readFault_75 k19 v0 v2 t0 f = some res → ∀ (H : Heap) (locs : List Loc) (ls : Array Slot), MM vwCl D b0 f sz s H → mS b0 s H locs → lv_has ls 4 [(0, .ref v0), (2, .int v2)] → W p l e ({ frames := 3, cells := 0, slots := 0, locals := 64 } : Room) s m args below meth c H locs 0 0 (MQ below (QW D b0 (some (.int res.1)) res.2 sz) args s 0 0 (fun q => b0 ≤ q)) (F0 m 75 ls [.int t0]) := by
  obtain ⟨hx, hb, hr, hml, hown, hts, hlocks, hK⟩ := id C0
  intro v0 v2 t0 f h H locs ls hM hS hl
  unfold f_X8_readFault_75 at h
  refine lv_istore_n (lv' := [(1, .int t0), (0, .ref v0), (2, .int v2)]) hx hb dX8_readFault_75 rfl hl (by decide) rfl (fun ls hl => ?_)
  refine lv_iinc (v := (v2 + (1 : Int32))) (lv' := [(2, .int (v2 + (1 : Int32))), (1, .int t0), (0, .ref v0)]) hx hb dX8_readFault_76 hl (k := 2) rfl rfl (by decide) rfl (fun ls hl => ?_)
  refine lv_goto (tgt := 19) hx hb dX8_readFault_79 (by decide) ?_
  exact hk19 _ _ _ _ h _ _ _ hM hS (lv_sub hl [2, 1, 0] rfl)
set_option maxHeartbeats 4000000 in
set_option maxRecDepth 100000 in
theorem w_X8_readFault_74 (C0 : CX cX8_readFault 4 (some .int) wsX8_readFault RX8 p s m args meth c D b0) {k19 : Nat → Int32 → Int32 → mmF → Option (Int32 × mmF)} {res : Int32 × mmF} (hk19 : ∀ (v0 : Nat) (v1 : Int32) (v2 : Int32) (f : mmF), k19 v0 v1 v2 f = some res → ∀ (H : Heap) (locs : List Loc) (ls : Array Slot), MM vwCl D b0 f sz s H → mS b0 s H locs → lv_has ls 4 [(0, .ref v0), (1, .int v1), (2, .int v2)] → W p l e ({ frames := 3, cells := 0, slots := 0, locals := 64 } : Room) s m args below meth c H locs 0 0 (MQ below (QW D b0 (some (.int res.1)) res.2 sz) args s 0 0 (fun q => b0 ≤ q)) (F0 m 19 ls [])) : ∀ (v0 : Nat) (v2 : Int32) (f : mmF), f_X8_readFault_74 k19 v0 v2 f = some res → ∀ (H : Heap) (locs : List Loc) (ls : Array Slot), MM vwCl D b0 f sz s H → mS b0 s H locs → lv_has ls 4 [(0, .ref v0), (2, .int v2)] → W p l e ({ frames := 3, cells := 0, slots := 0, locals := 64 } : Room) s m args below meth c H locs 0 0 (MQ below (QW D b0 (some (.int res.1)) res.2 sz) args s 0 0 (fun q => b0 ≤ q)) (F0 m 74 ls []) := by
  obtain ⟨hx, hb, hr, hml, hown, hts, hlocks, hK⟩ := id C0
  intro v0 v2 f h H locs ls hM hS hl
  unfold f_X8_readFault_74 at h
  refine lv_iconst (v := (0 : Int32)) hx hb dX8_readFault_74 (by decide) ?_
  exact w_X8_readFault_75 C0 hk19 _ _ _ _ h _ _ _ hM hS (lv_sub hl [0, 1] rfl)
set_option maxHeartbeats 4000000 in
set_option maxRecDepth 100000 in
theorem w_X8_readFault_59 (C0 : CX cX8_readFault 4 (some .int) wsX8_readFault RX8 p s m args meth c D b0) {k19 : Nat → Int32 → Int32 → mmF → Option (Int32 × mmF)} {res : Int32 × mmF} (hk19 : ∀ (v0 : Nat) (v1 : Int32) (v2 : Int32) (f : mmF), k19 v0 v1 v2 f = some res → ∀ (H : Heap) (locs : List Loc) (ls : Array Slot), MM vwCl D b0 f sz s H → mS b0 s H locs → lv_has ls 4 [(0, .ref v0), (1, .int v1), (2, .int v2)] → W p l e ({ frames := 3, cells := 0, slots := 0, locals := 64 } : Room) s m args below meth c H locs 0 0 (MQ below (QW D b0 (some (.int res.1)) res.2 sz) args s 0 0 (fun q => b0 ≤ q)) (F0 m 19 ls [])) : ∀ (v0 : Nat) (v2 : Int32) (v3 : Int32) (f : mmF), f_X8_readFault_59 k19 v0 v2 v3 f = some res → ∀ (H : Heap) (locs : List Loc) (ls : Array Slot), MM vwCl D b0 f sz s H → mS b0 s H locs → lv_has ls 4 [(0, .ref v0), (2, .int v2), (3, .int v3)] → W p l e ({ frames := 3, cells := 0, slots := 0, locals := 64 } : Room) s m args below meth c H locs 0 0 (MQ below (QW D b0 (some (.int res.1)) res.2 sz) args s 0 0 (fun q => b0 ≤ q)) (F0 m 59 ls []) := by
  obtain ⟨hx, hb, hr, hml, hown, hts, hlocks, hK⟩ := id C0
  intro v0 v2 v3 f h H locs ls hM hS hl
  unfold f_X8_readFault_59 at h
  refine lv_iload_n hx hb dX8_readFault_59 rfl (lv_at hl 2 rfl) ?_
  refine lv_iconst (v := (5 : Int32)) hx hb dX8_readFault_60 (by decide) ?_
  refine lv_icmp_le (tgt := 74) hx hb dX8_readFault_61 (by decide) (fun c61 => ?_) (fun c61 => ?_)
  · replace h := o_t c61 h
    exact w_X8_readFault_74 C0 hk19 _ _ _ h _ _ _ hM hS (lv_sub hl [0, 1] rfl)
  replace h := o_f c61 h
  refine lv_iload_n hx hb dX8_readFault_64 rfl (lv_at hl 2 rfl) ?_
  refine lv_bipush (v := (11 : Int32)) hx hb dX8_readFault_65 (by decide) ?_
  refine lv_icmp_eq (tgt := 74) hx hb dX8_readFault_67 (by decide) (fun c67 => ?_) (fun c67 => ?_)
  · replace h := o_t c67 h
    exact w_X8_readFault_74 C0 hk19 _ _ _ h _ _ _ hM hS (lv_sub hl [0, 1] rfl)
  replace h := o_f c67 h
  refine lv_iconst (v := (1 : Int32)) hx hb dX8_readFault_70 (by decide) ?_
  refine lv_goto (tgt := 75) hx hb dX8_readFault_71 (by decide) ?_
  exact w_X8_readFault_75 C0 hk19 _ _ _ _ h _ _ _ hM hS (lv_sub hl [0, 1] rfl)
set_option maxHeartbeats 4000000 in
set_option maxRecDepth 100000 in
theorem w_X8_readFault_19 (C0 : CX cX8_readFault 4 (some .int) wsX8_readFault RX8 p s m args meth c D b0) {res : Int32 × mmF} : ∀ (n : Nat), ∀ (v0 : Nat) (v1 : Int32) (v2 : Int32) (f : mmF), f_X8_readFault_19 n v0 v1 v2 f = some res → ∀ (H : Heap) (locs : List Loc) (ls : Array Slot), MM vwCl D b0 f sz s H → mS b0 s H locs → lv_has ls 4 [(0, .ref v0), (1, .int v1), (2, .int v2)] → W p l e ({ frames := 3, cells := 0, slots := 0, locals := 64 } : Room) s m args below meth c H locs 0 0 (MQ below (QW D b0 (some (.int res.1)) res.2 sz) args s 0 0 (fun q => b0 ≤ q)) (F0 m 19 ls []) := by
  obtain ⟨hx, hb, hr, hml, hown, hts, hlocks, hK⟩ := id C0
  intro n
  induction n with
  | zero =>
    intro v0 v1 v2 f h
    have h : (none : Option (Int32 × mmF)) = some res := h
    cases h
  | succ n ih =>
    intro v0 v1 v2 f h H locs ls hM hS hl
    rw [f_X8_readFault_19] at h
    refine lv_iload_n hx hb dX8_readFault_19 rfl (lv_at hl 2 rfl) ?_
    refine lv_aload_n hx hb dX8_readFault_20 rfl (lv_at hl 0 rfl) ?_
    replace h := o_b h; obtain ⟨x21, h21, h⟩ := h
    refine m_get (C := RX8) (T := TX8) (N := 7) (ci := 8) hx hb hts qi_X8_readFault_X8 hown hK.1 hM 0 (ldI_F h21) rfl (by decide) (hts _ q_X8_readFault_1) (fun _ h9 => h9) dX8_readFault_21 ?_
    refine lv_icmp_ge (tgt := 82) hx hb dX8_readFault_24 (by decide) (fun c24 => ?_) (fun c24 => ?_)
    · replace h := o_t c24 h
      refine lv_iload_n hx hb dX8_readFault_82 rfl (lv_at hl 1 rfl) ?_
      refine lv_if_ne (tgt := 93) hx hb dX8_readFault_83 (by decide) (fun c83 => ?_) (fun c83 => ?_)
      · replace h := o_f c83 h
        exact w_X8_readFault_93 C0 _ _ h _ _ _ hM hS (lv_sub hl [0] rfl)
      replace h := o_t c83 h
      refine lv_aload_n hx hb dX8_readFault_86 rfl (lv_at hl 0 rfl) ?_
      replace h := o_b h; obtain ⟨x87, h87, h⟩ := h
      refine m_get (C := RX8) (T := TX8) (N := 7) (ci := 8) hx hb hts qi_X8_readFault_X8 hown hK.1 hM 6 (ldI_F h87) rfl (by decide) (hts _ q_X8_readFault_2) (fun _ h9 => h9) dX8_readFault_87 ?_
      refine lv_if_le (tgt := 98) hx hb dX8_readFault_90 (by decide) (fun c90 => ?_) (fun c90 => ?_)
      · replace h := o_t c90 h
        refine lv_aload_n hx hb dX8_readFault_98 rfl (lv_at hl 0 rfl) ?_
        refine lv_iconst (v := (1 : Int32)) hx hb dX8_readFault_99 (by decide) ?_
        replace h := o_b h; obtain ⟨_, k100, h⟩ := h
        replace h := o_b h; obtain ⟨q100, h100, h⟩ := h
        refine m_call (va_runV (As := [.int (1 : Int32)]) (rest := []) ⟨hx, hb, hml, hown, hts⟩ (c_X8_settle l D b0 sz h100) (cwV 1 hts gX8_readFault_X8_settle rfl rfl rfl (by decide +kernel) ⟨Nat.le_of_ble_eq_true rfl, Nat.le_of_ble_eq_true rfl⟩) ⟨PW.blind, m_recv (ci := 8) rfl hK hM k100, (fun U hU hW => ⟨rfl, PW.call hK hM hS hU hW⟩)⟩ rfl rfl hl.1 rfl (lv_room (Nat.le_of_ble_eq_true rfl)) dX8_readFault_100 ⟨(Nat.le_refl _), (Nat.le_refl _)⟩) hS (fun H locs hM hS => ?_)
        refine lv_iconst (v := (-1 : Int32)) hx hb dX8_readFault_103 (by decide) ?_
        replace h := Option.some.inj h; subst h
        exact W.iret hx hb hr (fun t ht hW => ⟨rfl, by rw [ht]; exact hM.moved hW.alike, hS.F ht⟩) hS.2.2 dX8_readFault_104
      replace h := o_f c90 h
      exact w_X8_readFault_93 C0 _ _ h _ _ _ hM hS (lv_sub hl [0] rfl)
    replace h := o_f c24 h
    refine lv_aload_n hx hb dX8_readFault_27 rfl (lv_at hl 0 rfl) ?_
    replace h := o_b h; obtain ⟨x28, h28, h⟩ := h
    refine m_get (C := RX8) (T := TX8) (N := 7) (ci := 8) hx hb hts qi_X8_readFault_X8 hown hK.1 hM 1 (ldR_F h28) rfl (by decide) (hts _ q_X8_readFault_3) (fun _ h9 => h9) dX8_readFault_28 ?_
    refine lv_iload_n hx hb dX8_readFault_31 rfl (lv_at hl 2 rfl) ?_
    replace h := o_b h; obtain ⟨x32, h32, h⟩ := h
    refine m_iald hx hb hK.1 hM hS rfl h32 dX8_readFault_32 ?_
    refine lv_istore_n (lv' := [(3, .int x32), (0, .ref v0), (1, .int v1), (2, .int v2)]) hx hb dX8_readFault_33 rfl hl (by decide) rfl (fun ls hl => ?_)
    refine lv_iload_n hx hb dX8_readFault_34 rfl (lv_at hl 2 rfl) ?_
    refine lv_if_eq (tgt := 49) hx hb dX8_readFault_35 (by decide) (fun c35 => ?_) (fun c35 => ?_)
    · replace h := o_t c35 h
      refine lv_aload_n hx hb dX8_readFault_49 rfl (lv_at hl 1 rfl) ?_
      refine lv_iload_n hx hb dX8_readFault_50 rfl (lv_at hl 0 rfl) ?_
      replace h := o_b h; obtain ⟨_, k51, h⟩ := h
      replace h := o_b h; obtain ⟨q51, h51, h⟩ := h
      refine m_call (va_runV (As := [.int x32]) (rest := []) ⟨hx, hb, hml, hown, hts⟩ (c_X8_goesOn l D b0 sz h51) (cwV 1 hts gX8_readFault_X8_goesOn rfl rfl rfl (by decide +kernel) ⟨Nat.le_of_ble_eq_true rfl, Nat.le_of_ble_eq_true rfl⟩) ⟨PW.blind, m_recv (ci := 8) rfl hK hM k51, (fun U hU hW => ⟨rfl, PW.call hK hM hS hU hW⟩)⟩ rfl rfl hl.1 rfl (lv_room (Nat.le_of_ble_eq_true rfl)) dX8_readFault_51 ⟨(Nat.le_refl _), (Nat.le_refl _)⟩) hS (fun H locs hM hS => ?_)
      refine lv_if_ne (tgt := 59) hx hb dX8_readFault_54 (by decide) (fun c54 => ?_) (fun c54 => ?_)
      · replace h := o_f c54 h
        exact w_X8_readFault_59 C0 ih _ _ _ _ h _ _ _ hM hS (lv_sub hl [1, 3, 0] rfl)
      replace h := o_t c54 h
      refine lv_iload_n hx hb dX8_readFault_57 rfl (lv_at hl 3 rfl) ?_
      replace h := Option.some.inj h; subst h
      exact W.iret hx hb hr (fun t ht hW => ⟨rfl, by rw [ht]; exact hM.moved hW.alike, hS.F ht⟩) hS.2.2 dX8_readFault_58
    replace h := o_f c35 h
    refine lv_aload_n hx hb dX8_readFault_38 rfl (lv_at hl 1 rfl) ?_
    refine lv_iload_n hx hb dX8_readFault_39 rfl (lv_at hl 0 rfl) ?_
    replace h := o_b h; obtain ⟨_, k40, h⟩ := h
    replace h := o_b h; obtain ⟨q40, h40, h⟩ := h
    refine m_call (va_runV (As := [.int x32]) (rest := []) ⟨hx, hb, hml, hown, hts⟩ (c_X8_beginsPart l D b0 sz h40) (cwV 1 hts gX8_readFault_X8_beginsPart rfl rfl rfl (by decide +kernel) ⟨Nat.le_of_ble_eq_true rfl, Nat.le_of_ble_eq_true rfl⟩) ⟨PW.blind, m_recv (ci := 8) rfl hK hM k40, (fun U hU hW => ⟨rfl, PW.call hK hM hS hU hW⟩)⟩ rfl rfl hl.1 rfl (lv_room (Nat.le_of_ble_eq_true rfl)) dX8_readFault_40 ⟨(Nat.le_refl _), (Nat.le_refl _)⟩) hS (fun H locs hM hS => ?_)
    refine lv_if_ne (tgt := 59) hx hb dX8_readFault_43 (by decide) (fun c43 => ?_) (fun c43 => ?_)
    · replace h := o_f c43 h
      exact w_X8_readFault_59 C0 ih _ _ _ _ h _ _ _ hM hS (lv_sub hl [1, 3, 0] rfl)
    replace h := o_t c43 h
    refine lv_goto (tgt := 57) hx hb dX8_readFault_46 (by decide) ?_
    refine lv_iload_n hx hb dX8_readFault_57 rfl (lv_at hl 3 rfl) ?_
    replace h := Option.some.inj h; subst h
    exact W.iret hx hb hr (fun t ht hW => ⟨rfl, by rw [ht]; exact hM.moved hW.alike, hS.F ht⟩) hS.2.2 dX8_readFault_58
set_option maxHeartbeats 4000000 in
set_option maxRecDepth 100000 in
theorem w_X8_readFault (C0 : CX cX8_readFault 4 (some .int) wsX8_readFault RX8 p s m args meth c D b0) {v0 : Nat} {res : Int32 × mmF} (h : f_X8_readFault v0 f = some res) : ∀ (H : Heap) (locs : List Loc) (ls : Array Slot), MM vwCl D b0 f sz s H → mS b0 s H locs → lv_has ls 4 [(0, .ref v0)] → W p l e ({ frames := 3, cells := 0, slots := 0, locals := 64 } : Room) s m args below meth c H locs 0 0 (MQ below (QW D b0 (some (.int res.1)) res.2 sz) args s 0 0 (fun q => b0 ≤ q)) (F0 m 0 ls []) := by
  obtain ⟨hx, hb, hr, hml, hown, hts, hlocks, hK⟩ := id C0
  intro H locs ls hM hS hl
  unfold f_X8_readFault at h
  refine lv_aload_n hx hb dX8_readFault_0 rfl (lv_at hl 0 rfl) ?_
  refine lv_iconst (v := (0 : Int32)) hx hb dX8_readFault_1 (by decide) ?_
  replace h := o_b h; obtain ⟨f2, h2, h⟩ := h
  refine m_put (ty := .int) (C := RX8) (T := TX8) (N := 7) (ci := 8) hx hb hts qi_X8_readFault_X8 tyX8 tyX8_ok nmX8 hown hK.1 hM hS 3 h2 rfl (by decide) (hts _ q_X8_readFault_4) (fun _ h9 => h9) rfl (by decide +kernel) rfl rfl dX8_readFault_2 (fun H locs hM hS => ?_)
  refine lv_aload_n hx hb dX8_readFault_5 rfl (lv_at hl 0 rfl) ?_
  refine lv_iconst (v := (0 : Int32)) hx hb dX8_readFault_6 (by decide) ?_
  replace h := o_b h; obtain ⟨f7, h7, h⟩ := h
  refine m_put (ty := .int) (C := RX8) (T := TX8) (N := 7) (ci := 8) hx hb hts qi_X8_readFault_X8 tyX8 tyX8_ok nmX8 hown hK.1 hM hS 5 h7 rfl (by decide) (hts _ q_X8_readFault_5) (fun _ h9 => h9) rfl (by decide +kernel) rfl rfl dX8_readFault_7 (fun H locs hM hS => ?_)
  refine lv_aload_n hx hb dX8_readFault_10 rfl (lv_at hl 0 rfl) ?_
  refine lv_iconst (v := (0 : Int32)) hx hb dX8_readFault_11 (by decide) ?_
  replace h := o_b h; obtain ⟨f12, h12, h⟩ := h
  refine m_put (ty := .int) (C := RX8) (T := TX8) (N := 7) (ci := 8) hx hb hts qi_X8_readFault_X8 tyX8 tyX8_ok nmX8 hown hK.1 hM hS 6 h12 rfl (by decide) (hts _ q_X8_readFault_2) (fun _ h9 => h9) rfl (by decide +kernel) rfl rfl dX8_readFault_12 (fun H locs hM hS => ?_)
  refine lv_iconst (v := (1 : Int32)) hx hb dX8_readFault_15 (by decide) ?_
  refine lv_istore_n (lv' := [(1, .int (1 : Int32)), (0, .ref v0)]) hx hb dX8_readFault_16 rfl hl (by decide) rfl (fun ls hl => ?_)
  refine lv_iconst (v := (0 : Int32)) hx hb dX8_readFault_17 (by decide) ?_
  refine lv_istore_n (lv' := [(2, .int (0 : Int32)), (1, .int (1 : Int32)), (0, .ref v0)]) hx hb dX8_readFault_18 rfl hl (by decide) rfl (fun ls hl => ?_)
  exact w_X8_readFault_19 C0 FU _ _ _ _ h _ _ _ hM hS (lv_sub hl [2, 1, 0] rfl)
set_option maxHeartbeats 4000000 in
set_option maxRecDepth 100000 in
theorem c_X8_readFault (l : Launch) (D : mmD) (b0 sz : Nat) {v0 : Nat} {f : mmF} {res : Int32 × mmF} (h : f_X8_readFault v0 f = some res) : Met l yX8_readFault wsX8_readFault ({ frames := 3, cells := 0, slots := 0, locals := 64 } : Room) (va_Pc [.ref v0] (PW D b0 f sz)) (QW D b0 (some (.int res.1)) res.2 sz) 0 0 (fun q => b0 ≤ q) := by
  refine Met.ofW (cc := cX8_readFault) (maxL := 4) (ret := (some .int)) (by decide) rfl ?_
  intro p e s m args below meth c s₁ B hml hv
  obtain ⟨rfl, hM, hK⟩ := hv
  have hl := lv_entry ([.ref v0]) (n := 4) (Nat.le_of_ble_eq_true rfl)
  rw [lg_entry_eq]
  generalize (lg_sl ([.ref v0]) ++ List.replicate (4 - (lg_sl ([.ref v0])).length) Slot.unset).toArray = ls at hl ⊢
  have hl : lv_has ls 4 [(0, .ref v0)] := hl
  exact w_X8_readFault ⟨B.exec, B.bytes, B.returns, hml, findClass_of_methodNamed B.named, atoms_spec (ws := wsX8_readFault) B.pre, B.notSynchronized, hK⟩ h s.heap [] ls hM va_S.rf hl
end S_X8_readFault
/-! X8_made -/
set_option maxRecDepth 20000 in
theorem qi_X8_made_X0 : ∀ w ∈ u_ws RX0 TX0 2, w ∈ wsX8_made := by decide +kernel
set_option maxRecDepth 20000 in
theorem q_X8_made_1 : Cond.classLink RX8 49 RX0 ∈ wsX8_made := by decide +kernel
set_option maxRecDepth 20000 in
theorem q_X8_made_2 : Cond.instantiable RX0 2 ∈ wsX8_made := by decide +kernel
set_option maxRecDepth 20000 in
theorem q_X8_made_3 : Cond.initialized RX0 ∈ wsX8_made := by decide +kernel
set_option maxRecDepth 20000 in
theorem qi_X8_made_X8 : ∀ w ∈ u_ws RX8 TX8 7, w ∈ wsX8_made := by decide +kernel
set_option maxRecDepth 20000 in
theorem q_X8_made_5 : Cond.fieldLink RX8 19 "StageTruths$Text" "read" "[I" ∈ wsX8_made := by decide +kernel
set_option maxRecDepth 20000 in
theorem q_X8_made_6 : Cond.fieldLink RX8 22 "StageTruths$Text" "readLength" "I" ∈ wsX8_made := by decide +kernel
set_option maxRecDepth 20000 in
theorem q_X8_made_7 : Cond.methodLink RX8 51 yX0_init ∈ wsX8_made := by decide +kernel
set_option maxRecDepth 20000 in
theorem q_X8_made_8 : Cond.instanceMethod yX0_init ∈ wsX8_made := by decide +kernel
noncomputable def f_X8_made (v0 : Nat) (f : mmF) (sz : Nat) : Option (Nat × mmF × Nat) :=
  (some (va_up f sz (some (.inr (0, [.int 0, .null]))))).bind fun f0 =>
  (ldR f0 v0 8 2).bind fun x5 =>
  (ldI f0 v0 8 3).bind fun x9 =>
  (f_X0_init sz x5 x9 f0 (sz + 1)).bind fun q12 =>
  some (sz, q12.1, q12.2)
section S_X8_made
variable {p : Program} {l : Launch} {e : Env} {s : State} {m : MethodId} {args : Array Value} {below : List Frame} {meth : Method} {c : Code} {D : mmD} {b0 sz : Nat} {f : mmF}
set_option maxHeartbeats 4000000 in
set_option maxRecDepth 100000 in
theorem w_X8_made (C0 : CX cX8_made 1 (some (.object "StageTruths$Claim")) wsX8_made RX8 p s m args meth c D b0) {v0 : Nat} {res : Nat × mmF × Nat} (h : f_X8_made v0 f sz = some res) : ∀ (H : Heap) (locs : List Loc) (ls : Array Slot), MM vwCl D b0 f sz s H → mS b0 s H locs → lv_has ls 1 [(0, .ref v0)] → W p l e ({ frames := 2, cells := 2, slots := 66, locals := 47 } : Room) s m args below meth c H locs 0 0 (MQ below (QW D b0 (some (.ref res.1)) res.2.1 res.2.2) args s 2 66 (fun q => b0 ≤ q)) (F0 m 0 ls []) := by
  obtain ⟨hx, hb, hr, hml, hown, hts, hlocks, hK⟩ := id C0
  intro H locs ls hM hS hl
  unfold f_X8_made at h
  refine m_new (ci := 0) (fs := [.int 0, .null]) (C := RX0) (T := TX0) (N := 2) hx hb hts qi_X8_made_X0 tyX0 tyX0_ok hown (hts _ q_X8_made_1) (hts _ q_X8_made_2) (hts _ q_X8_made_3) hK.1 hM hS rfl (fun j hj => by match j, hj with | 0, _ => rfl | 1, _ => rfl | j + 2, hj => exact absurd hj (by omega)) (Nat.le_of_ble_eq_true rfl) (Nat.le_of_ble_eq_true rfl) dX8_made_0 (fun H hM hS => ?_)
  replace h := o_b h; obtain ⟨f0, h0, h⟩ := h
  replace h0 := Option.some.inj h0
  subst h0
  refine lv_dup hx hb dX8_made_3 rfl ?_
  refine lv_aload_n hx hb dX8_made_4 rfl (lv_at hl 0 rfl) ?_
  replace h := o_b h; obtain ⟨x5, h5, h⟩ := h
  refine m_get (C := RX8) (T := TX8) (N := 7) (ci := 8) hx hb hts qi_X8_made_X8 hown hK.1 hM 2 (ldR_F h5) rfl (by decide) (hts _ q_X8_made_5) (fun _ h9 => h9) dX8_made_5 ?_
  refine lv_aload_n hx hb dX8_made_8 rfl (lv_at hl 0 rfl) ?_
  replace h := o_b h; obtain ⟨x9, h9, h⟩ := h
  refine m_get (C := RX8) (T := TX8) (N := 7) (ci := 8) hx hb hts qi_X8_made_X8 hown hK.1 hM 3 (ldI_F h9) rfl (by decide) (hts _ q_X8_made_6) (fun _ h9 => h9) dX8_made_9 ?_
  replace h := o_b h; obtain ⟨q12, h12, h⟩ := h
  refine m_call (va_runI (As := [.ref x5, .int x9]) (rest := [.ref sz]) ⟨hx, hb, hml, hown, hts⟩ (c_X0_init l D b0 (sz + 1) h12) (cwI 2 hts gX8_made_X0_init rfl rfl rfl (hts _ q_X8_made_3) (hts _ q_X8_made_7) (hts _ q_X8_made_8) rfl (by decide +kernel) ⟨Nat.le_of_ble_eq_true rfl, Nat.le_of_ble_eq_true rfl⟩) ⟨PW.blind, (fun U hU hW => ⟨rfl, PW.call hK hM hS hU hW⟩)⟩ rfl rfl hl.1 rfl (lv_room (Nat.le_of_ble_eq_true rfl)) dX8_made_12 ⟨(Nat.le_of_ble_eq_true rfl), (Nat.le_of_ble_eq_true rfl)⟩) hS (fun H locs hM hS => ?_)
  refine W.widen (k := 2) (n := 66) (Nat.le_of_ble_eq_true rfl) (Nat.le_of_ble_eq_true rfl) ?_
  replace h := Option.some.inj h; subst h
  exact W.aret hx hb hr (Or.inl ⟨_, rfl⟩) (Or.inr ⟨_, rfl⟩) (fun t ht hW => ⟨rfl, by rw [ht]; exact hM.moved hW.alike, hS.F ht⟩) hS.2.2 dX8_made_15
set_option maxHeartbeats 4000000 in
set_option maxRecDepth 100000 in
theorem c_X8_made (l : Launch) (D : mmD) (b0 sz : Nat) {v0 : Nat} {f : mmF} {res : Nat × mmF × Nat} (h : f_X8_made v0 f sz = some res) : Met l yX8_made wsX8_made ({ frames := 2, cells := 2, slots := 66, locals := 47 } : Room) (va_Pc [.ref v0] (PW D b0 f sz)) (QW D b0 (some (.ref res.1)) res.2.1 res.2.2) 2 66 (fun q => b0 ≤ q) := by
  refine Met.ofW (cc := cX8_made) (maxL := 1) (ret := (some (.object "StageTruths$Claim"))) (by decide) rfl ?_
  intro p e s m args below meth c s₁ B hml hv
  obtain ⟨rfl, hM, hK⟩ := hv
  have hl := lv_entry ([.ref v0]) (n := 1) (Nat.le_of_ble_eq_true rfl)
  rw [lg_entry_eq]
  generalize (lg_sl ([.ref v0]) ++ List.replicate (1 - (lg_sl ([.ref v0])).length) Slot.unset).toArray = ls at hl ⊢
  have hl : lv_has ls 1 [(0, .ref v0)] := hl
  exact w_X8_made ⟨B.exec, B.bytes, B.returns, hml, findClass_of_methodNamed B.named, atoms_spec (ws := wsX8_made) B.pre, B.notSynchronized, hK⟩ h s.heap [] ls hM va_S.rf hl
end S_X8_made
/-! X9_init -/
set_option maxRecDepth 20000 in
theorem qi_X9_init_X9 : ∀ w ∈ u_ws RX9 TX9 9, w ∈ wsX9_init := by decide +kernel
set_option maxRecDepth 20000 in
theorem q_X9_init_1 : Cond.fieldLink RX9 16 "StageTruths" "history" "[LStageTruths$State;" ∈ wsX9_init := by decide +kernel
set_option maxRecDepth 20000 in
theorem qi_X9_init_X7 : ∀ w ∈ u_ws RX7 TX7 7, w ∈ wsX9_init := by decide +kernel
set_option maxRecDepth 20000 in
theorem q_X9_init_3 : Cond.classLink RX9 7 RX7 ∈ wsX9_init := by decide +kernel
set_option maxRecDepth 20000 in
theorem q_X9_init_4 : Cond.instantiable RX7 7 ∈ wsX9_init := by decide +kernel
set_option maxRecDepth 20000 in
theorem q_X9_init_5 : Cond.initialized RX7 ∈ wsX9_init := by decide +kernel
set_option maxRecDepth 20000 in
theorem q_X9_init_6 : Cond.methodLink RX9 9 yX7_init ∈ wsX9_init := by decide +kernel
set_option maxRecDepth 20000 in
theorem q_X9_init_7 : Cond.instanceMethod yX7_init ∈ wsX9_init := by decide +kernel
set_option maxRecDepth 20000 in
theorem q_X9_init_8 : Cond.methodLink RX9 1 objectInit ∈ wsX9_init := by decide +kernel
set_option maxRecDepth 20000 in
theorem q_X9_init_9 : Cond.instanceMethod objectInit ∈ wsX9_init := by decide +kernel
set_option maxRecDepth 20000 in
theorem q_X9_init_10 : Cond.code objectInit ⟨#[0xb1]⟩ 1 none ∈ wsX9_init := by decide +kernel
set_option maxRecDepth 20000 in
theorem q_X9_init_11 : Cond.fieldLink RX9 10 "StageTruths" "state" "LStageTruths$State;" ∈ wsX9_init := by decide +kernel
set_option maxRecDepth 20000 in
theorem q_X9_init_12 : Cond.fieldLink RX9 20 "StageTruths" "recorded" "I" ∈ wsX9_init := by decide +kernel
set_option maxRecDepth 20000 in
theorem q_X9_init_13 : Cond.fieldLink RX9 24 "StageTruths" "snapshot" "LStageTruths$State;" ∈ wsX9_init := by decide +kernel
set_option maxRecDepth 20000 in
theorem q_X9_init_14 : Cond.fieldLink RX9 27 "StageTruths" "hasSnapshot" "Z" ∈ wsX9_init := by decide +kernel
set_option maxRecDepth 20000 in
theorem qi_X9_init_X8 : ∀ w ∈ u_ws RX8 TX8 7, w ∈ wsX9_init := by decide +kernel
set_option maxRecDepth 20000 in
theorem q_X9_init_16 : Cond.classLink RX9 31 RX8 ∈ wsX9_init := by decide +kernel
set_option maxRecDepth 20000 in
theorem q_X9_init_17 : Cond.instantiable RX8 7 ∈ wsX9_init := by decide +kernel
set_option maxRecDepth 20000 in
theorem q_X9_init_18 : Cond.initialized RX8 ∈ wsX9_init := by decide +kernel
set_option maxRecDepth 20000 in
theorem q_X9_init_19 : Cond.instanceMethod yX8_init ∈ wsX9_init := by decide +kernel
set_option maxRecDepth 20000 in
theorem q_X9_init_20 : Cond.fieldLink RX9 34 "StageTruths" "text" "LStageTruths$Text;" ∈ wsX9_init := by decide +kernel
set_option maxRecDepth 20000 in
theorem qi_X9_init_X5 : ∀ w ∈ u_ws RX5 TX5 10, w ∈ wsX9_init := by decide +kernel
set_option maxRecDepth 20000 in
theorem q_X9_init_22 : Cond.classLink RX9 38 RX5 ∈ wsX9_init := by decide +kernel
set_option maxRecDepth 20000 in
theorem q_X9_init_23 : Cond.instantiable RX5 10 ∈ wsX9_init := by decide +kernel
set_option maxRecDepth 20000 in
theorem q_X9_init_24 : Cond.initialized RX5 ∈ wsX9_init := by decide +kernel
set_option maxRecDepth 20000 in
theorem q_X9_init_25 : Cond.instanceMethod yX5_init ∈ wsX9_init := by decide +kernel
set_option maxRecDepth 20000 in
theorem q_X9_init_26 : Cond.fieldLink RX9 41 "StageTruths" "proof" "LStageTruths$Proof;" ∈ wsX9_init := by decide +kernel
set_option maxRecDepth 20000 in
theorem q_X9_init_27 : Cond.fieldLink RX9 45 "StageTruths$Proof" "models" "LStageTruths$SmallModels;" ∈ wsX9_init := by decide +kernel
set_option maxRecDepth 20000 in
theorem q_X9_init_28 : Cond.fieldLink RX9 49 "StageTruths" "models" "LStageTruths$SmallModels;" ∈ wsX9_init := by decide +kernel
set_option maxRecDepth 20000 in
theorem qi_X9_init_X6 : ∀ w ∈ u_ws RX6 TX6 5, w ∈ wsX9_init := by decide +kernel
set_option maxRecDepth 20000 in
theorem q_X9_init_30 : Cond.fieldLink RX9 50 "StageTruths$SmallModels" "parts" "LStageTruths$Parts;" ∈ wsX9_init := by decide +kernel
set_option maxRecDepth 20000 in
theorem q_X9_init_31 : Cond.fieldLink RX9 56 "StageTruths" "parts" "LStageTruths$Parts;" ∈ wsX9_init := by decide +kernel
noncomputable def f_X9_init_90   : Nat → Nat → Int32 → mmF → Nat → Nat → Nat → Option (mmF × Nat)
  | 0, _, _, _, _, _, _ => none
  | n + 1, v0, v1, f, sz, kc, ks =>
    if (4 : Int32) ≤ v1 then
    (if ¬ (kc ≤ 82 ∧ ks ≤ 6483) then none else
    some (f, sz))
    else
    (ldR f v0 9 1).bind fun x96 =>
    if ¬ (kc + 1 ≤ 82 ∧ ks + 7 ≤ 6483) then none else
    (some (va_up f sz (some (.inr (7, [.int 0, .null, .null, .null, .null, .null, .null]))))).bind fun f100 =>
    if ¬ ((kc + 1) + 6 ≤ 82 ∧ (ks + 7) + 188 ≤ 6483) then none else
    (f_X7_init sz f100 (sz + 1)).bind fun q104 =>
    (stQ 2 7 q104.1 x96 v1 (some sz)).bind fun f107 =>
    f_X9_init_90 n v0 (v1 + (1 : Int32)) f107 q104.2 ((kc + 1) + 6) ((ks + 7) + 188)
noncomputable def f_X9_init (v0 : Nat) (f : mmF) (sz : Nat) : Option (mmF × Nat) :=
  if ¬ (0 + 1 ≤ 82 ∧ 0 + 7 ≤ 6483) then none else
  (some (va_up f sz (some (.inr (7, [.int 0, .null, .null, .null, .null, .null, .null]))))).bind fun f5 =>
  if ¬ ((0 + 1) + 6 ≤ 82 ∧ (0 + 7) + 188 ≤ 6483) then none else
  (f_X7_init sz f5 (sz + 1)).bind fun q9 =>
  (stF q9.1 v0 9 0 (.ref sz)).bind fun f12 =>
  if ¬ (((0 + 1) + 6) + 1 ≤ 82 ∧ ((0 + 7) + 188) + 4 ≤ 6483) then none else
  (some (va_up f12 q9.2 (some (.inl (2, 4, .inr (.inr (.inr (.inr (fun _ => none))))))))).bind fun f17 =>
  (stF f17 v0 9 1 (.ref q9.2)).bind fun f20 =>
  (stF f20 v0 9 2 (.int (0 : Int32))).bind fun f25 =>
  if ¬ ((((0 + 1) + 6) + 1) + 1 ≤ 82 ∧ (((0 + 7) + 188) + 4) + 7 ≤ 6483) then none else
  (some (va_up f25 (q9.2 + 1) (some (.inr (7, [.int 0, .null, .null, .null, .null, .null, .null]))))).bind fun f29 =>
  if ¬ (((((0 + 1) + 6) + 1) + 1) + 6 ≤ 82 ∧ ((((0 + 7) + 188) + 4) + 7) + 188 ≤ 6483) then none else
  (f_X7_init (q9.2 + 1) f29 ((q9.2 + 1) + 1)).bind fun q33 =>
  (stF q33.1 v0 9 3 (.ref (q9.2 + 1))).bind fun f36 =>
  (stF f36 v0 9 4 (.int (0 : Int32))).bind fun f41 =>
  if ¬ ((((((0 + 1) + 6) + 1) + 1) + 6) + 1 ≤ 82 ∧ (((((0 + 7) + 188) + 4) + 7) + 188) + 7 ≤ 6483) then none else
  (some (va_up f41 q33.2 (some (.inr (8, [.int 0, .null, .null, .int 0, .null, .int 0, .int 0]))))).bind fun f45 =>
  if ¬ (((((((0 + 1) + 6) + 1) + 1) + 6) + 1) + 3 ≤ 82 ∧ ((((((0 + 7) + 188) + 4) + 7) + 188) + 7) + 90 ≤ 6483) then none else
  (f_X8_init q33.2 f45 (q33.2 + 1)).bind fun q49 =>
  (stF q49.1 v0 9 5 (.ref q33.2)).bind fun f52 =>
  if ¬ ((((((((0 + 1) + 6) + 1) + 1) + 6) + 1) + 3) + 1 ≤ 82 ∧ (((((((0 + 7) + 188) + 4) + 7) + 188) + 7) + 90) + 10 ≤ 6483) then none else
  (some (va_up f52 q49.2 (some (.inr (5, [.null, .null, .null, .null, .null, .null, .null, .null, .null, .null]))))).bind fun f56 =>
  if ¬ (((((((((0 + 1) + 6) + 1) + 1) + 6) + 1) + 3) + 1) + 34 ≤ 82 ∧ ((((((((0 + 7) + 188) + 4) + 7) + 188) + 7) + 90) + 10) + 5202 ≤ 6483) then none else
  (f_X5_init q49.2 f56 (q49.2 + 1)).bind fun q60 =>
  (stF q60.1 v0 9 6 (.ref q49.2)).bind fun f63 =>
  (ldR f63 v0 9 6).bind fun x68 =>
  (ldR f63 x68 5 0).bind fun x71 =>
  (stF f63 v0 9 7 (.ref x71)).bind fun f74 =>
  (ldR f74 v0 9 7).bind fun x79 =>
  (ldR f74 x79 6 0).bind fun x82 =>
  (stF f74 v0 9 8 (.ref x82)).bind fun f85 =>
  f_X9_init_90 FU v0 (0 : Int32) f85 q60.2 (((((((((0 + 1) + 6) + 1) + 1) + 6) + 1) + 3) + 1) + 34) (((((((((0 + 7) + 188) + 4) + 7) + 188) + 7) + 90) + 10) + 5202)
section S_X9_init
variable {p : Program} {l : Launch} {e : Env} {s : State} {m : MethodId} {args : Array Value} {below : List Frame} {meth : Method} {c : Code} {D : mmD} {b0 sz : Nat} {f : mmF}
set_option maxHeartbeats 4000000 in
set_option maxRecDepth 100000 in
theorem w_X9_init_90 (C0 : CX cX9_init 2 none wsX9_init RX9 p s m args meth c D b0) (hin : meth.name = "<init>") {res : mmF × Nat} : ∀ (n : Nat), ∀ (v0 : Nat) (v1 : Int32) (f : mmF) (sz : Nat) (kc : Nat) (ks : Nat), f_X9_init_90 n v0 v1 f sz kc ks = some res → ∀ (H : Heap) (locs : List Loc) (ls : Array Slot), MM vwCl D b0 f sz s H → mS b0 s H locs → lv_has ls 2 [(0, .ref v0), (1, .int v1)] → W p l e ({ frames := 4, cells := 82, slots := 6483, locals := 86 } : Room) s m args below meth c H locs kc ks (MQ below (QW D b0 none res.1 res.2) args s 82 6483 (fun q => b0 ≤ q)) (F0 m 90 ls []) := by
  obtain ⟨hx, hb, hr, hml, hown, hts, hlocks, hK⟩ := id C0
  intro n
  induction n with
  | zero =>
    intro v0 v1 f sz kc ks h
    have h : (none : Option (mmF × Nat)) = some res := h
    cases h
  | succ n ih =>
    intro v0 v1 f sz kc ks h H locs ls hM hS hl
    rw [f_X9_init_90] at h
    refine lv_iload_n hx hb dX9_init_90 rfl (lv_at hl 1 rfl) ?_
    refine lv_iconst (v := (4 : Int32)) hx hb dX9_init_91 (by decide) ?_
    refine lv_icmp_ge (tgt := 114) hx hb dX9_init_92 (by decide) (fun c92 => ?_) (fun c92 => ?_)
    · replace h := o_t c92 h
      replace h := o_n h; obtain ⟨z114, h⟩ := h
      replace z114 := Decidable.not_not.mp z114
      refine W.widen (k := 82) (n := 6483) z114.1 z114.2 ?_
      replace h := Option.some.inj h; subst h
      exact W.vret hx hb hr (fun t ht hW => ⟨rfl, by rw [ht]; exact hM.moved hW.alike, hS.F ht⟩) hS.2.2 dX9_init_114
    replace h := o_f c92 h
    refine lv_aload_n hx hb dX9_init_95 rfl (lv_at hl 0 rfl) ?_
    replace h := o_b h; obtain ⟨x96, h96, h⟩ := h
    refine m_get (C := RX9) (T := TX9) (N := 9) (ci := 9) hx hb hts qi_X9_init_X9 hown hK.1 hM 1 (ldR_F h96) rfl (by decide) (hts _ q_X9_init_1) (fun _ h9 => h9) dX9_init_96 ?_
    refine lv_iload_n hx hb dX9_init_99 rfl (lv_at hl 1 rfl) ?_
    replace h := o_n h; obtain ⟨z100, h⟩ := h
    replace z100 := Decidable.not_not.mp z100
    refine m_new (ci := 7) (fs := [.int 0, .null, .null, .null, .null, .null, .null]) (C := RX7) (T := TX7) (N := 7) hx hb hts qi_X9_init_X7 tyX7 tyX7_ok hown (hts _ q_X9_init_3) (hts _ q_X9_init_4) (hts _ q_X9_init_5) hK.1 hM hS rfl (fun j hj => by match j, hj with | 0, _ => rfl | 1, _ => rfl | 2, _ => rfl | 3, _ => rfl | 4, _ => rfl | 5, _ => rfl | 6, _ => rfl | j + 7, hj => exact absurd hj (by omega)) z100.1 z100.2 dX9_init_100 (fun H hM hS => ?_)
    replace h := o_b h; obtain ⟨f100, h100, h⟩ := h
    replace h100 := Option.some.inj h100
    subst h100
    refine lv_dup hx hb dX9_init_103 rfl ?_
    replace h := o_n h; obtain ⟨z104, h⟩ := h
    replace z104 := Decidable.not_not.mp z104
    replace h := o_b h; obtain ⟨q104, h104, h⟩ := h
    refine m_call (va_runI (As := []) (rest := [.ref sz, .int v1, .ref x96]) ⟨hx, hb, hml, hown, hts⟩ (c_X7_init l D b0 (sz + 1) h104) (cwI 0 hts gX9_init_X7_init rfl rfl rfl (hts _ q_X9_init_5) (hts _ q_X9_init_6) (hts _ q_X9_init_7) rfl (by decide +kernel) ⟨Nat.le_of_ble_eq_true rfl, Nat.le_of_ble_eq_true rfl⟩) ⟨PW.blind, (fun U hU hW => ⟨rfl, PW.call hK hM hS hU hW⟩)⟩ rfl rfl hl.1 rfl (lv_room (Nat.le_of_ble_eq_true rfl)) dX9_init_104 ⟨z104.1, z104.2⟩) hS (fun H locs hM hS => ?_)
    replace h := o_b h; obtain ⟨f107, h107, h⟩ := h
    refine m_astq 2 7 (by decide) (r0 := (RX7, TX7, 7)) rfl rfl hx hb hK.1 hM hS (r := (some sz)) h107 dX9_init_107 (fun H locs hM hS => ?_)
    refine lv_iinc (v := (v1 + (1 : Int32))) (lv' := [(1, .int (v1 + (1 : Int32))), (0, .ref v0)]) hx hb dX9_init_108 hl (k := 1) rfl rfl (by decide) rfl (fun ls hl => ?_)
    refine lv_goto (tgt := 90) hx hb dX9_init_111 (by decide) ?_
    exact ih _ _ _ _ _ _ h _ _ _ hM hS (lv_sub hl [1, 0] rfl)
set_option maxHeartbeats 4000000 in
set_option maxRecDepth 100000 in
theorem w_X9_init (C0 : CX cX9_init 2 none wsX9_init RX9 p s m args meth c D b0) (hin : meth.name = "<init>") {v0 : Nat} {res : mmF × Nat} (h : f_X9_init v0 f sz = some res) : ∀ (H : Heap) (locs : List Loc) (ls : Array Slot), MM vwCl D b0 f sz s H → mS b0 s H locs → lv_has ls 2 [(0, .ref v0)] → W p l e ({ frames := 4, cells := 82, slots := 6483, locals := 86 } : Room) s m args below meth c H locs 0 0 (MQ below (QW D b0 none res.1 res.2) args s 82 6483 (fun q => b0 ≤ q)) (F0 m 0 ls []) := by
  obtain ⟨hx, hb, hr, hml, hown, hts, hlocks, hK⟩ := id C0
  intro H locs ls hM hS hl
  unfold f_X9_init at h
  refine lv_aload_n hx hb dX9_init_0 rfl (lv_at hl 0 rfl) ?_
  refine W.objInit hx hb hown (hts _ q_X9_init_8) (hts _ q_X9_init_9) (hts _ q_X9_init_10) rfl (by rw [hml]; exact hl.1) rfl dX9_init_1 (Nat.le_of_ble_eq_true rfl) (Nat.le_of_ble_eq_true rfl) ?_
  refine lv_aload_n hx hb dX9_init_4 rfl (lv_at hl 0 rfl) ?_
  replace h := o_n h; obtain ⟨z5, h⟩ := h
  replace z5 := Decidable.not_not.mp z5
  refine m_new (ci := 7) (fs := [.int 0, .null, .null, .null, .null, .null, .null]) (C := RX7) (T := TX7) (N := 7) hx hb hts qi_X9_init_X7 tyX7 tyX7_ok hown (hts _ q_X9_init_3) (hts _ q_X9_init_4) (hts _ q_X9_init_5) hK.1 hM hS rfl (fun j hj => by match j, hj with | 0, _ => rfl | 1, _ => rfl | 2, _ => rfl | 3, _ => rfl | 4, _ => rfl | 5, _ => rfl | 6, _ => rfl | j + 7, hj => exact absurd hj (by omega)) z5.1 z5.2 dX9_init_5 (fun H hM hS => ?_)
  replace h := o_b h; obtain ⟨f5, h5, h⟩ := h
  replace h5 := Option.some.inj h5
  subst h5
  refine lv_dup hx hb dX9_init_8 rfl ?_
  replace h := o_n h; obtain ⟨z9, h⟩ := h
  replace z9 := Decidable.not_not.mp z9
  replace h := o_b h; obtain ⟨q9, h9, h⟩ := h
  refine m_call (va_runI (As := []) (rest := [.ref sz, .ref v0]) ⟨hx, hb, hml, hown, hts⟩ (c_X7_init l D b0 (sz + 1) h9) (cwI 0 hts gX9_init_X7_init rfl rfl rfl (hts _ q_X9_init_5) (hts _ q_X9_init_6) (hts _ q_X9_init_7) rfl (by decide +kernel) ⟨Nat.le_of_ble_eq_true rfl, Nat.le_of_ble_eq_true rfl⟩) ⟨PW.blind, (fun U hU hW => ⟨rfl, PW.call hK hM hS hU hW⟩)⟩ rfl rfl hl.1 rfl (lv_room (Nat.le_of_ble_eq_true rfl)) dX9_init_9 ⟨z9.1, z9.2⟩) hS (fun H locs hM hS => ?_)
  replace h := o_b h; obtain ⟨f12, h12, h⟩ := h
  refine m_putF (ty := (.object "StageTruths$State")) (C := RX9) (T := TX9) (N := 9) (ci := 9) hx hb hts qi_X9_init_X9 tyX9 tyX9_ok nmX9 hown hK.1 hM hS 0 h12 rfl (by decide) (hts _ q_X9_init_11) (fun _ h9 => h9) rfl hin rfl (by decide +kernel) rfl rfl dX9_init_12 (fun H locs hM hS => ?_)
  refine lv_aload_n hx hb dX9_init_15 rfl (lv_at hl 0 rfl) ?_
  refine lv_iconst (v := (4 : Int32)) hx hb dX9_init_16 (by decide) ?_
  replace h := o_n h; obtain ⟨z17, h⟩ := h
  replace z17 := Decidable.not_not.mp z17
  refine m_newq (N' := 4) 2 (by decide) rfl hx hb hown (hts _ q_X9_init_3) (hK.2.2.1 RX7 (by decide)) hK.1 hM hS (by decide) (by decide) (Nat.le_of_ble_eq_true rfl) z17.1 z17.2 dX9_init_17 (fun H hM hS => ?_)
  replace h := o_b h; obtain ⟨f17, h17, h⟩ := h
  replace h17 := Option.some.inj h17
  subst h17
  replace h := o_b h; obtain ⟨f20, h20, h⟩ := h
  refine m_putF (ty := (.array (.object "StageTruths$State"))) (C := RX9) (T := TX9) (N := 9) (ci := 9) hx hb hts qi_X9_init_X9 tyX9 tyX9_ok nmX9 hown hK.1 hM hS 1 h20 rfl (by decide) (hts _ q_X9_init_1) (fun _ h9 => h9) rfl hin rfl (by decide +kernel) rfl rfl dX9_init_20 (fun H locs hM hS => ?_)
  refine lv_aload_n hx hb dX9_init_23 rfl (lv_at hl 0 rfl) ?_
  refine lv_iconst (v := (0 : Int32)) hx hb dX9_init_24 (by decide) ?_
  replace h := o_b h; obtain ⟨f25, h25, h⟩ := h
  refine m_put (ty := .int) (C := RX9) (T := TX9) (N := 9) (ci := 9) hx hb hts qi_X9_init_X9 tyX9 tyX9_ok nmX9 hown hK.1 hM hS 2 h25 rfl (by decide) (hts _ q_X9_init_12) (fun _ h9 => h9) rfl (by decide +kernel) rfl rfl dX9_init_25 (fun H locs hM hS => ?_)
  refine lv_aload_n hx hb dX9_init_28 rfl (lv_at hl 0 rfl) ?_
  replace h := o_n h; obtain ⟨z29, h⟩ := h
  replace z29 := Decidable.not_not.mp z29
  refine m_new (ci := 7) (fs := [.int 0, .null, .null, .null, .null, .null, .null]) (C := RX7) (T := TX7) (N := 7) hx hb hts qi_X9_init_X7 tyX7 tyX7_ok hown (hts _ q_X9_init_3) (hts _ q_X9_init_4) (hts _ q_X9_init_5) hK.1 hM hS rfl (fun j hj => by match j, hj with | 0, _ => rfl | 1, _ => rfl | 2, _ => rfl | 3, _ => rfl | 4, _ => rfl | 5, _ => rfl | 6, _ => rfl | j + 7, hj => exact absurd hj (by omega)) z29.1 z29.2 dX9_init_29 (fun H hM hS => ?_)
  replace h := o_b h; obtain ⟨f29, h29, h⟩ := h
  replace h29 := Option.some.inj h29
  subst h29
  refine lv_dup hx hb dX9_init_32 rfl ?_
  replace h := o_n h; obtain ⟨z33, h⟩ := h
  replace z33 := Decidable.not_not.mp z33
  replace h := o_b h; obtain ⟨q33, h33, h⟩ := h
  refine m_call (va_runI (As := []) (rest := [.ref (q9.2 + 1), .ref v0]) ⟨hx, hb, hml, hown, hts⟩ (c_X7_init l D b0 ((q9.2 + 1) + 1) h33) (cwI 0 hts gX9_init_X7_init rfl rfl rfl (hts _ q_X9_init_5) (hts _ q_X9_init_6) (hts _ q_X9_init_7) rfl (by decide +kernel) ⟨Nat.le_of_ble_eq_true rfl, Nat.le_of_ble_eq_true rfl⟩) ⟨PW.blind, (fun U hU hW => ⟨rfl, PW.call hK hM hS hU hW⟩)⟩ rfl rfl hl.1 rfl (lv_room (Nat.le_of_ble_eq_true rfl)) dX9_init_33 ⟨z33.1, z33.2⟩) hS (fun H locs hM hS => ?_)
  replace h := o_b h; obtain ⟨f36, h36, h⟩ := h
  refine m_putF (ty := (.object "StageTruths$State")) (C := RX9) (T := TX9) (N := 9) (ci := 9) hx hb hts qi_X9_init_X9 tyX9 tyX9_ok nmX9 hown hK.1 hM hS 3 h36 rfl (by decide) (hts _ q_X9_init_13) (fun _ h9 => h9) rfl hin rfl (by decide +kernel) rfl rfl dX9_init_36 (fun H locs hM hS => ?_)
  refine lv_aload_n hx hb dX9_init_39 rfl (lv_at hl 0 rfl) ?_
  refine lv_iconst (v := (0 : Int32)) hx hb dX9_init_40 (by decide) ?_
  replace h := o_b h; obtain ⟨f41, h41, h⟩ := h
  refine m_put (ty := .boolean) (C := RX9) (T := TX9) (N := 9) (ci := 9) hx hb hts qi_X9_init_X9 tyX9 tyX9_ok nmX9 hown hK.1 hM hS 4 h41 rfl (by decide) (hts _ q_X9_init_14) (fun _ h9 => h9) rfl (by decide +kernel) rfl rfl dX9_init_41 (fun H locs hM hS => ?_)
  refine lv_aload_n hx hb dX9_init_44 rfl (lv_at hl 0 rfl) ?_
  replace h := o_n h; obtain ⟨z45, h⟩ := h
  replace z45 := Decidable.not_not.mp z45
  refine m_new (ci := 8) (fs := [.int 0, .null, .null, .int 0, .null, .int 0, .int 0]) (C := RX8) (T := TX8) (N := 7) hx hb hts qi_X9_init_X8 tyX8 tyX8_ok hown (hts _ q_X9_init_16) (hts _ q_X9_init_17) (hts _ q_X9_init_18) hK.1 hM hS rfl (fun j hj => by match j, hj with | 0, _ => rfl | 1, _ => rfl | 2, _ => rfl | 3, _ => rfl | 4, _ => rfl | 5, _ => rfl | 6, _ => rfl | j + 7, hj => exact absurd hj (by omega)) z45.1 z45.2 dX9_init_45 (fun H hM hS => ?_)
  replace h := o_b h; obtain ⟨f45, h45, h⟩ := h
  replace h45 := Option.some.inj h45
  subst h45
  refine lv_dup hx hb dX9_init_48 rfl ?_
  replace h := o_n h; obtain ⟨z49, h⟩ := h
  replace z49 := Decidable.not_not.mp z49
  replace h := o_b h; obtain ⟨q49, h49, h⟩ := h
  refine m_call (va_runIN (As := []) (rest := [.ref q33.2, .ref v0]) ⟨hx, hb, hml, hown, hts⟩ (c_X8_init l D b0 (q33.2 + 1) h49) ⟨(va_cnB 0 hts gX9_init_X8_init_n33 rfl rfl rfl (hK.2.1 (RX9, 33, yX8_init, "StageTruths") (by decide)) (hts _ q_X9_init_18) (by decide +kernel) ⟨Nat.le_of_ble_eq_true rfl, Nat.le_of_ble_eq_true rfl⟩), rfl, (hts _ q_X9_init_19)⟩ ⟨PW.blind, (fun U hU hW => ⟨rfl, PW.call hK hM hS hU hW⟩)⟩ rfl rfl hl.1 rfl (lv_room (Nat.le_of_ble_eq_true rfl)) dX9_init_49 ⟨z49.1, z49.2⟩) hS (fun H locs hM hS => ?_)
  replace h := o_b h; obtain ⟨f52, h52, h⟩ := h
  refine m_putF (ty := (.object "StageTruths$Text")) (C := RX9) (T := TX9) (N := 9) (ci := 9) hx hb hts qi_X9_init_X9 tyX9 tyX9_ok nmX9 hown hK.1 hM hS 5 h52 rfl (by decide) (hts _ q_X9_init_20) (fun _ h9 => h9) rfl hin rfl (by decide +kernel) rfl rfl dX9_init_52 (fun H locs hM hS => ?_)
  refine lv_aload_n hx hb dX9_init_55 rfl (lv_at hl 0 rfl) ?_
  replace h := o_n h; obtain ⟨z56, h⟩ := h
  replace z56 := Decidable.not_not.mp z56
  refine m_new (ci := 5) (fs := [.null, .null, .null, .null, .null, .null, .null, .null, .null, .null]) (C := RX5) (T := TX5) (N := 10) hx hb hts qi_X9_init_X5 tyX5 tyX5_ok hown (hts _ q_X9_init_22) (hts _ q_X9_init_23) (hts _ q_X9_init_24) hK.1 hM hS rfl (fun j hj => by match j, hj with | 0, _ => rfl | 1, _ => rfl | 2, _ => rfl | 3, _ => rfl | 4, _ => rfl | 5, _ => rfl | 6, _ => rfl | 7, _ => rfl | 8, _ => rfl | 9, _ => rfl | j + 10, hj => exact absurd hj (by omega)) z56.1 z56.2 dX9_init_56 (fun H hM hS => ?_)
  replace h := o_b h; obtain ⟨f56, h56, h⟩ := h
  replace h56 := Option.some.inj h56
  subst h56
  refine lv_dup hx hb dX9_init_59 rfl ?_
  replace h := o_n h; obtain ⟨z60, h⟩ := h
  replace z60 := Decidable.not_not.mp z60
  replace h := o_b h; obtain ⟨q60, h60, h⟩ := h
  refine m_call (va_runIN (As := []) (rest := [.ref q49.2, .ref v0]) ⟨hx, hb, hml, hown, hts⟩ (c_X5_init l D b0 (q49.2 + 1) h60) ⟨(va_cnB 0 hts gX9_init_X5_init_n40 rfl rfl rfl (hK.2.1 (RX9, 40, yX5_init, "StageTruths") (by decide)) (hts _ q_X9_init_24) (by decide +kernel) ⟨Nat.le_of_ble_eq_true rfl, Nat.le_of_ble_eq_true rfl⟩), rfl, (hts _ q_X9_init_25)⟩ ⟨PW.blind, (fun U hU hW => ⟨rfl, PW.call hK hM hS hU hW⟩)⟩ rfl rfl hl.1 rfl (lv_room (Nat.le_of_ble_eq_true rfl)) dX9_init_60 ⟨z60.1, z60.2⟩) hS (fun H locs hM hS => ?_)
  replace h := o_b h; obtain ⟨f63, h63, h⟩ := h
  refine m_putF (ty := (.object "StageTruths$Proof")) (C := RX9) (T := TX9) (N := 9) (ci := 9) hx hb hts qi_X9_init_X9 tyX9 tyX9_ok nmX9 hown hK.1 hM hS 6 h63 rfl (by decide) (hts _ q_X9_init_26) (fun _ h9 => h9) rfl hin rfl (by decide +kernel) rfl rfl dX9_init_63 (fun H locs hM hS => ?_)
  refine lv_aload_n hx hb dX9_init_66 rfl (lv_at hl 0 rfl) ?_
  refine lv_aload_n hx hb dX9_init_67 rfl (lv_at hl 0 rfl) ?_
  replace h := o_b h; obtain ⟨x68, h68, h⟩ := h
  refine m_get (C := RX9) (T := TX9) (N := 9) (ci := 9) hx hb hts qi_X9_init_X9 hown hK.1 hM 6 (ldR_F h68) rfl (by decide) (hts _ q_X9_init_26) (fun _ h9 => h9) dX9_init_68 ?_
  replace h := o_b h; obtain ⟨x71, h71, h⟩ := h
  refine m_get (C := RX5) (T := TX5) (N := 10) (ci := 5) hx hb hts qi_X9_init_X5 hown hK.1 hM 0 (ldR_F h71) rfl (by decide) (hts _ q_X9_init_27) (fun _ h9 => h9) dX9_init_71 ?_
  replace h := o_b h; obtain ⟨f74, h74, h⟩ := h
  refine m_putF (ty := (.object "StageTruths$SmallModels")) (C := RX9) (T := TX9) (N := 9) (ci := 9) hx hb hts qi_X9_init_X9 tyX9 tyX9_ok nmX9 hown hK.1 hM hS 7 h74 rfl (by decide) (hts _ q_X9_init_28) (fun _ h9 => h9) rfl hin rfl (by decide +kernel) rfl rfl dX9_init_74 (fun H locs hM hS => ?_)
  refine lv_aload_n hx hb dX9_init_77 rfl (lv_at hl 0 rfl) ?_
  refine lv_aload_n hx hb dX9_init_78 rfl (lv_at hl 0 rfl) ?_
  replace h := o_b h; obtain ⟨x79, h79, h⟩ := h
  refine m_get (C := RX9) (T := TX9) (N := 9) (ci := 9) hx hb hts qi_X9_init_X9 hown hK.1 hM 7 (ldR_F h79) rfl (by decide) (hts _ q_X9_init_28) (fun _ h9 => h9) dX9_init_79 ?_
  replace h := o_b h; obtain ⟨x82, h82, h⟩ := h
  refine m_get (C := RX6) (T := TX6) (N := 5) (ci := 6) hx hb hts qi_X9_init_X6 hown hK.1 hM 0 (ldR_F h82) rfl (by decide) (hts _ q_X9_init_30) (fun _ h9 => h9) dX9_init_82 ?_
  replace h := o_b h; obtain ⟨f85, h85, h⟩ := h
  refine m_putF (ty := (.object "StageTruths$Parts")) (C := RX9) (T := TX9) (N := 9) (ci := 9) hx hb hts qi_X9_init_X9 tyX9 tyX9_ok nmX9 hown hK.1 hM hS 8 h85 rfl (by decide) (hts _ q_X9_init_31) (fun _ h9 => h9) rfl hin rfl (by decide +kernel) rfl rfl dX9_init_85 (fun H locs hM hS => ?_)
  refine lv_iconst (v := (0 : Int32)) hx hb dX9_init_88 (by decide) ?_
  refine lv_istore_n (lv' := [(1, .int (0 : Int32)), (0, .ref v0)]) hx hb dX9_init_89 rfl hl (by decide) rfl (fun ls hl => ?_)
  exact w_X9_init_90 C0 hin FU _ _ _ _ _ _ h _ _ _ hM hS (lv_sub hl [1, 0] rfl)
set_option maxHeartbeats 4000000 in
set_option maxRecDepth 100000 in
theorem c_X9_init (l : Launch) (D : mmD) (b0 sz : Nat) {v0 : Nat} {f : mmF} {res : mmF × Nat} (h : f_X9_init v0 f sz = some res) : Met l yX9_init wsX9_init ({ frames := 4, cells := 82, slots := 6483, locals := 86 } : Room) (va_Pc [.ref v0] (PW D b0 f sz)) (QW D b0 none res.1 res.2) 82 6483 (fun q => b0 ≤ q) := by
  refine Met.ofW (cc := cX9_init) (maxL := 2) (ret := none) (by decide) rfl ?_
  intro p e s m args below meth c s₁ B hml hv
  obtain ⟨rfl, hM, hK⟩ := hv
  have hl := lv_entry ([.ref v0]) (n := 2) (Nat.le_of_ble_eq_true rfl)
  rw [lg_entry_eq]
  generalize (lg_sl ([.ref v0]) ++ List.replicate (2 - (lg_sl ([.ref v0])).length) Slot.unset).toArray = ls at hl ⊢
  have hl : lv_has ls 2 [(0, .ref v0)] := hl
  exact w_X9_init ⟨B.exec, B.bytes, B.returns, hml, findClass_of_methodNamed B.named, atoms_spec (ws := wsX9_init) B.pre, B.notSynchronized, hK⟩ (name_of_methodNamed B.named B.method).1 h s.heap [] ls hM va_S.rf hl
end S_X9_init
/-! X9_record -/
set_option maxRecDepth 20000 in
theorem qi_X9_record_X9 : ∀ w ∈ u_ws RX9 TX9 9, w ∈ wsX9_record := by decide +kernel
set_option maxRecDepth 20000 in
theorem q_X9_record_1 : Cond.fieldLink RX9 16 "StageTruths" "history" "[LStageTruths$State;" ∈ wsX9_record := by decide +kernel
set_option maxRecDepth 20000 in
theorem q_X9_record_2 : Cond.fieldLink RX9 20 "StageTruths" "recorded" "I" ∈ wsX9_record := by decide +kernel
set_option maxRecDepth 20000 in
theorem q_X9_record_3 : Cond.fieldLink RX9 10 "StageTruths" "state" "LStageTruths$State;" ∈ wsX9_record := by decide +kernel
noncomputable def f_X9_record_57   (v0 : Nat) (f : mmF) : Option (mmF) :=
  (ldR f v0 9 1).bind fun x58 =>
  (ldI f v0 9 2).bind fun x62 =>
  (ldN 2 f x58 x62).bind fun x65 =>
  (ldR f v0 9 0).bind fun x67 =>
  (ckO f x65 7).bind fun _ =>
  (f_X7_takeFrom x65 x67 f).bind fun q70 =>
  (ldI q70 v0 9 2).bind fun x75 =>
  (stF q70 v0 9 2 (.int (x75 + (1 : Int32)))).bind fun f80 =>
  some (f80)
noncomputable def f_X9_record_17   : Nat → Nat → Nat → Int32 → mmF → Option (mmF)
  | 0, _, _, _, _ => none
  | n + 1, v0, v1, v2, f =>
    if (4 : Int32) ≤ v2 then
    ((stF f v0 9 2 (.int (3 : Int32))).bind fun f44 =>
    (ldR f44 v0 9 1).bind fun x48 =>
    (ldI f44 v0 9 2).bind fun x52 =>
    (stQ 2 7 f44 x48 x52 (some v1)).bind fun f56 =>
    f_X9_record_57 v0 f56)
    else
    (ldR f v0 9 1).bind fun x23 =>
    (ldR f v0 9 1).bind fun x30 =>
    (ldN 2 f x30 v2).bind fun x34 =>
    (stQ 2 7 f x23 (v2 - (1 : Int32)) (some x34)).bind fun f35 =>
    f_X9_record_17 n v0 v1 (v2 + (1 : Int32)) f35
noncomputable def f_X9_record (v0 : Nat) (f : mmF) : Option (mmF) :=
  (ldI f v0 9 2).bind fun x1 =>
  if x1 < (4 : Int32) then
  (f_X9_record_57 v0 f)
  else
  (ldR f v0 9 1).bind fun x9 =>
  (ldN 2 f x9 (0 : Int32)).bind fun x13 =>
  f_X9_record_17 FU v0 x13 (1 : Int32) f
section S_X9_record
variable {p : Program} {l : Launch} {e : Env} {s : State} {m : MethodId} {args : Array Value} {below : List Frame} {meth : Method} {c : Code} {D : mmD} {b0 sz : Nat} {f : mmF}
set_option maxHeartbeats 4000000 in
set_option maxRecDepth 100000 in
theorem w_X9_record_57 (C0 : CX cX9_record 3 none wsX9_record RX9 p s m args meth c D b0) {res : mmF} : ∀ (v0 : Nat) (f : mmF), f_X9_record_57 v0 f = some res → ∀ (H : Heap) (locs : List Loc) (ls : Array Slot), MM vwCl D b0 f sz s H → mS b0 s H locs → lv_has ls 3 [(0, .ref v0)] → W p l e ({ frames := 1, cells := 0, slots := 0, locals := 22 } : Room) s m args below meth c H locs 0 0 (MQ below (QW D b0 none res sz) args s 0 0 (fun q => b0 ≤ q)) (F0 m 57 ls []) := by
  obtain ⟨hx, hb, hr, hml, hown, hts, hlocks, hK⟩ := id C0
  intro v0 f h H locs ls hM hS hl
  unfold f_X9_record_57 at h
  refine lv_aload_n hx hb dX9_record_57 rfl (lv_at hl 0 rfl) ?_
  replace h := o_b h; obtain ⟨x58, h58, h⟩ := h
  refine m_get (C := RX9) (T := TX9) (N := 9) (ci := 9) hx hb hts qi_X9_record_X9 hown hK.1 hM 1 (ldR_F h58) rfl (by decide) (hts _ q_X9_record_1) (fun _ h9 => h9) dX9_record_58 ?_
  refine lv_aload_n hx hb dX9_record_61 rfl (lv_at hl 0 rfl) ?_
  replace h := o_b h; obtain ⟨x62, h62, h⟩ := h
  refine m_get (C := RX9) (T := TX9) (N := 9) (ci := 9) hx hb hts qi_X9_record_X9 hown hK.1 hM 2 (ldI_F h62) rfl (by decide) (hts _ q_X9_record_2) (fun _ h9 => h9) dX9_record_62 ?_
  replace h := o_b h; obtain ⟨x65, h65, h⟩ := h
  refine m_aldn 2 (by decide) rfl hx hb hK.1 hM h65 dX9_record_65 ?_
  refine lv_aload_n hx hb dX9_record_66 rfl (lv_at hl 0 rfl) ?_
  replace h := o_b h; obtain ⟨x67, h67, h⟩ := h
  refine m_get (C := RX9) (T := TX9) (N := 9) (ci := 9) hx hb hts qi_X9_record_X9 hown hK.1 hM 0 (ldR_F h67) rfl (by decide) (hts _ q_X9_record_3) (fun _ h9 => h9) dX9_record_67 ?_
  replace h := o_b h; obtain ⟨_, k70, h⟩ := h
  replace h := o_b h; obtain ⟨q70, h70, h⟩ := h
  refine m_call (va_runV (As := [.ref x67]) (rest := []) ⟨hx, hb, hml, hown, hts⟩ (c_X7_takeFrom l D b0 sz h70) (cwV 1 hts gX9_record_X7_takeFrom rfl rfl rfl (by decide +kernel) ⟨Nat.le_of_ble_eq_true rfl, Nat.le_of_ble_eq_true rfl⟩) ⟨PW.blind, m_recv (ci := 7) rfl hK hM k70, (fun U hU hW => ⟨rfl, PW.call hK hM hS hU hW⟩)⟩ rfl rfl hl.1 rfl (lv_room (Nat.le_of_ble_eq_true rfl)) dX9_record_70 ⟨(Nat.le_refl _), (Nat.le_refl _)⟩) hS (fun H locs hM hS => ?_)
  refine lv_aload_n hx hb dX9_record_73 rfl (lv_at hl 0 rfl) ?_
  refine lv_dup hx hb dX9_record_74 rfl ?_
  replace h := o_b h; obtain ⟨x75, h75, h⟩ := h
  refine m_get (C := RX9) (T := TX9) (N := 9) (ci := 9) hx hb hts qi_X9_record_X9 hown hK.1 hM 2 (ldI_F h75) rfl (by decide) (hts _ q_X9_record_2) (fun _ h9 => h9) dX9_record_75 ?_
  refine lv_iconst (v := (1 : Int32)) hx hb dX9_record_78 (by decide) ?_
  refine lv_iadd hx hb dX9_record_79 ?_
  replace h := o_b h; obtain ⟨f80, h80, h⟩ := h
  refine m_put (ty := .int) (C := RX9) (T := TX9) (N := 9) (ci := 9) hx hb hts qi_X9_record_X9 tyX9 tyX9_ok nmX9 hown hK.1 hM hS 2 h80 rfl (by decide) (hts _ q_X9_record_2) (fun _ h9 => h9) rfl (by decide +kernel) rfl rfl dX9_record_80 (fun H locs hM hS => ?_)
  replace h := Option.some.inj h; subst h
  exact W.vret hx hb hr (fun t ht hW => ⟨rfl, by rw [ht]; exact hM.moved hW.alike, hS.F ht⟩) hS.2.2 dX9_record_83
set_option maxHeartbeats 4000000 in
set_option maxRecDepth 100000 in
theorem w_X9_record_17 (C0 : CX cX9_record 3 none wsX9_record RX9 p s m args meth c D b0) {res : mmF} : ∀ (n : Nat), ∀ (v0 : Nat) (v1 : Nat) (v2 : Int32) (f : mmF), f_X9_record_17 n v0 v1 v2 f = some res → ∀ (H : Heap) (locs : List Loc) (ls : Array Slot), MM vwCl D b0 f sz s H → mS b0 s H locs → lv_has ls 3 [(0, .ref v0), (1, .ref v1), (2, .int v2)] → W p l e ({ frames := 1, cells := 0, slots := 0, locals := 22 } : Room) s m args below meth c H locs 0 0 (MQ below (QW D b0 none res sz) args s 0 0 (fun q => b0 ≤ q)) (F0 m 17 ls []) := by
  obtain ⟨hx, hb, hr, hml, hown, hts, hlocks, hK⟩ := id C0
  intro n
  induction n with
  | zero =>
    intro v0 v1 v2 f h
    have h : (none : Option (mmF)) = some res := h
    cases h
  | succ n ih =>
    intro v0 v1 v2 f h H locs ls hM hS hl
    rw [f_X9_record_17] at h
    refine lv_iload_n hx hb dX9_record_17 rfl (lv_at hl 2 rfl) ?_
    refine lv_iconst (v := (4 : Int32)) hx hb dX9_record_18 (by decide) ?_
    refine lv_icmp_ge (tgt := 42) hx hb dX9_record_19 (by decide) (fun c19 => ?_) (fun c19 => ?_)
    · replace h := o_t c19 h
      refine lv_aload_n hx hb dX9_record_42 rfl (lv_at hl 0 rfl) ?_
      refine lv_iconst (v := (3 : Int32)) hx hb dX9_record_43 (by decide) ?_
      replace h := o_b h; obtain ⟨f44, h44, h⟩ := h
      refine m_put (ty := .int) (C := RX9) (T := TX9) (N := 9) (ci := 9) hx hb hts qi_X9_record_X9 tyX9 tyX9_ok nmX9 hown hK.1 hM hS 2 h44 rfl (by decide) (hts _ q_X9_record_2) (fun _ h9 => h9) rfl (by decide +kernel) rfl rfl dX9_record_44 (fun H locs hM hS => ?_)
      refine lv_aload_n hx hb dX9_record_47 rfl (lv_at hl 0 rfl) ?_
      replace h := o_b h; obtain ⟨x48, h48, h⟩ := h
      refine m_get (C := RX9) (T := TX9) (N := 9) (ci := 9) hx hb hts qi_X9_record_X9 hown hK.1 hM 1 (ldR_F h48) rfl (by decide) (hts _ q_X9_record_1) (fun _ h9 => h9) dX9_record_48 ?_
      refine lv_aload_n hx hb dX9_record_51 rfl (lv_at hl 0 rfl) ?_
      replace h := o_b h; obtain ⟨x52, h52, h⟩ := h
      refine m_get (C := RX9) (T := TX9) (N := 9) (ci := 9) hx hb hts qi_X9_record_X9 hown hK.1 hM 2 (ldI_F h52) rfl (by decide) (hts _ q_X9_record_2) (fun _ h9 => h9) dX9_record_52 ?_
      refine lv_aload_n hx hb dX9_record_55 rfl (lv_at hl 1 rfl) ?_
      replace h := o_b h; obtain ⟨f56, h56, h⟩ := h
      refine m_astq 2 7 (by decide) (r0 := (RX7, TX7, 7)) rfl rfl hx hb hK.1 hM hS (r := (some v1)) h56 dX9_record_56 (fun H locs hM hS => ?_)
      exact w_X9_record_57 C0 _ _ h _ _ _ hM hS (lv_sub hl [0] rfl)
    replace h := o_f c19 h
    refine lv_aload_n hx hb dX9_record_22 rfl (lv_at hl 0 rfl) ?_
    replace h := o_b h; obtain ⟨x23, h23, h⟩ := h
    refine m_get (C := RX9) (T := TX9) (N := 9) (ci := 9) hx hb hts qi_X9_record_X9 hown hK.1 hM 1 (ldR_F h23) rfl (by decide) (hts _ q_X9_record_1) (fun _ h9 => h9) dX9_record_23 ?_
    refine lv_iload_n hx hb dX9_record_26 rfl (lv_at hl 2 rfl) ?_
    refine lv_iconst (v := (1 : Int32)) hx hb dX9_record_27 (by decide) ?_
    refine lv_isub hx hb dX9_record_28 ?_
    refine lv_aload_n hx hb dX9_record_29 rfl (lv_at hl 0 rfl) ?_
    replace h := o_b h; obtain ⟨x30, h30, h⟩ := h
    refine m_get (C := RX9) (T := TX9) (N := 9) (ci := 9) hx hb hts qi_X9_record_X9 hown hK.1 hM 1 (ldR_F h30) rfl (by decide) (hts _ q_X9_record_1) (fun _ h9 => h9) dX9_record_30 ?_
    refine lv_iload_n hx hb dX9_record_33 rfl (lv_at hl 2 rfl) ?_
    replace h := o_b h; obtain ⟨x34, h34, h⟩ := h
    refine m_aldn 2 (by decide) rfl hx hb hK.1 hM h34 dX9_record_34 ?_
    replace h := o_b h; obtain ⟨f35, h35, h⟩ := h
    refine m_astq 2 7 (by decide) (r0 := (RX7, TX7, 7)) rfl rfl hx hb hK.1 hM hS (r := (some x34)) h35 dX9_record_35 (fun H locs hM hS => ?_)
    refine lv_iinc (v := (v2 + (1 : Int32))) (lv' := [(2, .int (v2 + (1 : Int32))), (0, .ref v0), (1, .ref v1)]) hx hb dX9_record_36 hl (k := 2) rfl rfl (by decide) rfl (fun ls hl => ?_)
    refine lv_goto (tgt := 17) hx hb dX9_record_39 (by decide) ?_
    exact ih _ _ _ _ h _ _ _ hM hS (lv_sub hl [1, 2, 0] rfl)
set_option maxHeartbeats 4000000 in
set_option maxRecDepth 100000 in
theorem w_X9_record (C0 : CX cX9_record 3 none wsX9_record RX9 p s m args meth c D b0) {v0 : Nat} {res : mmF} (h : f_X9_record v0 f = some res) : ∀ (H : Heap) (locs : List Loc) (ls : Array Slot), MM vwCl D b0 f sz s H → mS b0 s H locs → lv_has ls 3 [(0, .ref v0)] → W p l e ({ frames := 1, cells := 0, slots := 0, locals := 22 } : Room) s m args below meth c H locs 0 0 (MQ below (QW D b0 none res sz) args s 0 0 (fun q => b0 ≤ q)) (F0 m 0 ls []) := by
  obtain ⟨hx, hb, hr, hml, hown, hts, hlocks, hK⟩ := id C0
  intro H locs ls hM hS hl
  unfold f_X9_record at h
  refine lv_aload_n hx hb dX9_record_0 rfl (lv_at hl 0 rfl) ?_
  replace h := o_b h; obtain ⟨x1, h1, h⟩ := h
  refine m_get (C := RX9) (T := TX9) (N := 9) (ci := 9) hx hb hts qi_X9_record_X9 hown hK.1 hM 2 (ldI_F h1) rfl (by decide) (hts _ q_X9_record_2) (fun _ h9 => h9) dX9_record_1 ?_
  refine lv_iconst (v := (4 : Int32)) hx hb dX9_record_4 (by decide) ?_
  refine lv_icmp_lt (tgt := 57) hx hb dX9_record_5 (by decide) (fun c5 => ?_) (fun c5 => ?_)
  · replace h := o_t c5 h
    exact w_X9_record_57 C0 _ _ h _ _ _ hM hS (lv_sub hl [0] rfl)
  replace h := o_f c5 h
  refine lv_aload_n hx hb dX9_record_8 rfl (lv_at hl 0 rfl) ?_
  replace h := o_b h; obtain ⟨x9, h9, h⟩ := h
  refine m_get (C := RX9) (T := TX9) (N := 9) (ci := 9) hx hb hts qi_X9_record_X9 hown hK.1 hM 1 (ldR_F h9) rfl (by decide) (hts _ q_X9_record_1) (fun _ h9 => h9) dX9_record_9 ?_
  refine lv_iconst (v := (0 : Int32)) hx hb dX9_record_12 (by decide) ?_
  replace h := o_b h; obtain ⟨x13, h13, h⟩ := h
  refine m_aldn 2 (by decide) rfl hx hb hK.1 hM h13 dX9_record_13 ?_
  refine lv_astore_n (lv' := [(1, .ref x13), (0, .ref v0)]) hx hb dX9_record_14 rfl hl (by decide) rfl (fun ls hl => ?_)
  refine lv_iconst (v := (1 : Int32)) hx hb dX9_record_15 (by decide) ?_
  refine lv_istore_n (lv' := [(2, .int (1 : Int32)), (1, .ref x13), (0, .ref v0)]) hx hb dX9_record_16 rfl hl (by decide) rfl (fun ls hl => ?_)
  exact w_X9_record_17 C0 FU _ _ _ _ h _ _ _ hM hS (lv_sub hl [2, 1, 0] rfl)
set_option maxHeartbeats 4000000 in
set_option maxRecDepth 100000 in
theorem c_X9_record (l : Launch) (D : mmD) (b0 sz : Nat) {v0 : Nat} {f : mmF} {res : mmF} (h : f_X9_record v0 f = some res) : Met l yX9_record wsX9_record ({ frames := 1, cells := 0, slots := 0, locals := 22 } : Room) (va_Pc [.ref v0] (PW D b0 f sz)) (QW D b0 none res sz) 0 0 (fun q => b0 ≤ q) := by
  refine Met.ofW (cc := cX9_record) (maxL := 3) (ret := none) (by decide) rfl ?_
  intro p e s m args below meth c s₁ B hml hv
  obtain ⟨rfl, hM, hK⟩ := hv
  have hl := lv_entry ([.ref v0]) (n := 3) (Nat.le_of_ble_eq_true rfl)
  rw [lg_entry_eq]
  generalize (lg_sl ([.ref v0]) ++ List.replicate (3 - (lg_sl ([.ref v0])).length) Slot.unset).toArray = ls at hl ⊢
  have hl : lv_has ls 3 [(0, .ref v0)] := hl
  exact w_X9_record ⟨B.exec, B.bytes, B.returns, hml, findClass_of_methodNamed B.named, atoms_spec (ws := wsX9_record) B.pre, B.notSynchronized, hK⟩ h s.heap [] ls hM va_S.rf hl
end S_X9_record
/-! X9_addStage -/
set_option maxRecDepth 20000 in
theorem qi_X9_addStage_X9 : ∀ w ∈ u_ws RX9 TX9 9, w ∈ wsX9_addStage := by decide +kernel
set_option maxRecDepth 20000 in
theorem q_X9_addStage_1 : Cond.fieldLink RX9 10 "StageTruths" "state" "LStageTruths$State;" ∈ wsX9_addStage := by decide +kernel
set_option maxRecDepth 20000 in
theorem qi_X9_addStage_X7 : ∀ w ∈ u_ws RX7 TX7 7, w ∈ wsX9_addStage := by decide +kernel
set_option maxRecDepth 20000 in
theorem q_X9_addStage_3 : Cond.fieldLink RX9 61 "StageTruths$State" "stages" "I" ∈ wsX9_addStage := by decide +kernel
noncomputable def f_X9_addStage (v0 : Nat) (v1 : Int32) (f : mmF) : Option (Int32 × mmF) :=
  (ldR f v0 9 0).bind fun x1 =>
  (ckO f x1 7).bind fun _ =>
  (f_X7_isStage x1 v1 f).bind fun q5 =>
  if q5 = 0 then
  (some ((-1 : Int32), f))
  else
  (ldR f v0 9 0).bind fun x14 =>
  (ldI f x14 7 0).bind fun x17 =>
  if x17 < (8 : Int32) then
  ((ckO f v0 9).bind fun _ =>
  (f_X9_record v0 f).bind fun q29 =>
  (ldR q29 v0 9 0).bind fun x33 =>
  (ckO q29 x33 7).bind fun _ =>
  (f_X7_grow x33 v1 q29).bind fun q37 =>
  some (q37.1, q37.2))
  else
  some ((-3 : Int32), f)
section S_X9_addStage
variable {p : Program} {l : Launch} {e : Env} {s : State} {m : MethodId} {args : Array Value} {below : List Frame} {meth : Method} {c : Code} {D : mmD} {b0 sz : Nat} {f : mmF}
set_option maxHeartbeats 4000000 in
set_option maxRecDepth 100000 in
theorem w_X9_addStage (C0 : CX cX9_addStage 2 (some .int) wsX9_addStage RX9 p s m args meth c D b0) {v0 : Nat} {v1 : Int32} {res : Int32 × mmF} (h : f_X9_addStage v0 v1 f = some res) : ∀ (H : Heap) (locs : List Loc) (ls : Array Slot), MM vwCl D b0 f sz s H → mS b0 s H locs → lv_has ls 2 [(0, .ref v0), (1, .int v1)] → W p l e ({ frames := 2, cells := 0, slots := 0, locals := 47 } : Room) s m args below meth c H locs 0 0 (MQ below (QW D b0 (some (.int res.1)) res.2 sz) args s 0 0 (fun q => b0 ≤ q)) (F0 m 0 ls []) := by
  obtain ⟨hx, hb, hr, hml, hown, hts, hlocks, hK⟩ := id C0
  intro H locs ls hM hS hl
  unfold f_X9_addStage at h
  refine lv_aload_n hx hb dX9_addStage_0 rfl (lv_at hl 0 rfl) ?_
  replace h := o_b h; obtain ⟨x1, h1, h⟩ := h
  refine m_get (C := RX9) (T := TX9) (N := 9) (ci := 9) hx hb hts qi_X9_addStage_X9 hown hK.1 hM 0 (ldR_F h1) rfl (by decide) (hts _ q_X9_addStage_1) (fun _ h9 => h9) dX9_addStage_1 ?_
  refine lv_iload_n hx hb dX9_addStage_4 rfl (lv_at hl 1 rfl) ?_
  replace h := o_b h; obtain ⟨_, k5, h⟩ := h
  replace h := o_b h; obtain ⟨q5, h5, h⟩ := h
  refine m_call (va_runV (As := [.int v1]) (rest := []) ⟨hx, hb, hml, hown, hts⟩ (c_X7_isStage l D b0 sz h5) (cwV 1 hts gX9_addStage_X7_isStage rfl rfl rfl (by decide +kernel) ⟨Nat.le_of_ble_eq_true rfl, Nat.le_of_ble_eq_true rfl⟩) ⟨PW.blind, m_recv (ci := 7) rfl hK hM k5, (fun U hU hW => ⟨rfl, PW.call hK hM hS hU hW⟩)⟩ rfl rfl hl.1 rfl (lv_room (Nat.le_of_ble_eq_true rfl)) dX9_addStage_5 ⟨(Nat.le_refl _), (Nat.le_refl _)⟩) hS (fun H locs hM hS => ?_)
  refine lv_if_ne (tgt := 13) hx hb dX9_addStage_8 (by decide) (fun c8 => ?_) (fun c8 => ?_)
  · replace h := o_f c8 h
    refine lv_aload_n hx hb dX9_addStage_13 rfl (lv_at hl 0 rfl) ?_
    replace h := o_b h; obtain ⟨x14, h14, h⟩ := h
    refine m_get (C := RX9) (T := TX9) (N := 9) (ci := 9) hx hb hts qi_X9_addStage_X9 hown hK.1 hM 0 (ldR_F h14) rfl (by decide) (hts _ q_X9_addStage_1) (fun _ h9 => h9) dX9_addStage_14 ?_
    replace h := o_b h; obtain ⟨x17, h17, h⟩ := h
    refine m_get (C := RX7) (T := TX7) (N := 7) (ci := 7) hx hb hts qi_X9_addStage_X7 hown hK.1 hM 0 (ldI_F h17) rfl (by decide) (hts _ q_X9_addStage_3) (fun _ h9 => h9) dX9_addStage_17 ?_
    refine lv_bipush (v := (8 : Int32)) hx hb dX9_addStage_20 (by decide) ?_
    refine lv_icmp_lt (tgt := 28) hx hb dX9_addStage_22 (by decide) (fun c22 => ?_) (fun c22 => ?_)
    · replace h := o_t c22 h
      refine lv_aload_n hx hb dX9_addStage_28 rfl (lv_at hl 0 rfl) ?_
      replace h := o_b h; obtain ⟨_, k29, h⟩ := h
      replace h := o_b h; obtain ⟨q29, h29, h⟩ := h
      refine m_call (va_runV (As := []) (rest := []) ⟨hx, hb, hml, hown, hts⟩ (c_X9_record l D b0 sz h29) (cwV 0 hts gX9_addStage_X9_record rfl rfl rfl (by decide +kernel) ⟨Nat.le_of_ble_eq_true rfl, Nat.le_of_ble_eq_true rfl⟩) ⟨PW.blind, m_recv (ci := 9) rfl hK hM k29, (fun U hU hW => ⟨rfl, PW.call hK hM hS hU hW⟩)⟩ rfl rfl hl.1 rfl (lv_room (Nat.le_of_ble_eq_true rfl)) dX9_addStage_29 ⟨(Nat.le_refl _), (Nat.le_refl _)⟩) hS (fun H locs hM hS => ?_)
      refine lv_aload_n hx hb dX9_addStage_32 rfl (lv_at hl 0 rfl) ?_
      replace h := o_b h; obtain ⟨x33, h33, h⟩ := h
      refine m_get (C := RX9) (T := TX9) (N := 9) (ci := 9) hx hb hts qi_X9_addStage_X9 hown hK.1 hM 0 (ldR_F h33) rfl (by decide) (hts _ q_X9_addStage_1) (fun _ h9 => h9) dX9_addStage_33 ?_
      refine lv_iload_n hx hb dX9_addStage_36 rfl (lv_at hl 1 rfl) ?_
      replace h := o_b h; obtain ⟨_, k37, h⟩ := h
      replace h := o_b h; obtain ⟨q37, h37, h⟩ := h
      refine m_call (va_runV (As := [.int v1]) (rest := []) ⟨hx, hb, hml, hown, hts⟩ (c_X7_grow l D b0 sz h37) (cwV 1 hts gX9_addStage_X7_grow rfl rfl rfl (by decide +kernel) ⟨Nat.le_of_ble_eq_true rfl, Nat.le_of_ble_eq_true rfl⟩) ⟨PW.blind, m_recv (ci := 7) rfl hK hM k37, (fun U hU hW => ⟨rfl, PW.call hK hM hS hU hW⟩)⟩ rfl rfl hl.1 rfl (lv_room (Nat.le_of_ble_eq_true rfl)) dX9_addStage_37 ⟨(Nat.le_refl _), (Nat.le_refl _)⟩) hS (fun H locs hM hS => ?_)
      replace h := Option.some.inj h; subst h
      exact W.iret hx hb hr (fun t ht hW => ⟨rfl, by rw [ht]; exact hM.moved hW.alike, hS.F ht⟩) hS.2.2 dX9_addStage_40
    replace h := o_f c22 h
    refine lv_bipush (v := (-3 : Int32)) hx hb dX9_addStage_25 (by decide) ?_
    replace h := Option.some.inj h; subst h
    exact W.iret hx hb hr (fun t ht hW => ⟨rfl, by rw [ht]; exact hM.moved hW.alike, hS.F ht⟩) hS.2.2 dX9_addStage_27
  replace h := o_t c8 h
  refine lv_iconst (v := (-1 : Int32)) hx hb dX9_addStage_11 (by decide) ?_
  replace h := Option.some.inj h; subst h
  exact W.iret hx hb hr (fun t ht hW => ⟨rfl, by rw [ht]; exact hM.moved hW.alike, hS.F ht⟩) hS.2.2 dX9_addStage_12
set_option maxHeartbeats 4000000 in
set_option maxRecDepth 100000 in
theorem c_X9_addStage (l : Launch) (D : mmD) (b0 sz : Nat) {v0 : Nat} {v1 : Int32} {f : mmF} {res : Int32 × mmF} (h : f_X9_addStage v0 v1 f = some res) : Met l yX9_addStage wsX9_addStage ({ frames := 2, cells := 0, slots := 0, locals := 47 } : Room) (va_Pc [.ref v0, .int v1] (PW D b0 f sz)) (QW D b0 (some (.int res.1)) res.2 sz) 0 0 (fun q => b0 ≤ q) := by
  refine Met.ofW (cc := cX9_addStage) (maxL := 2) (ret := (some .int)) (by decide) rfl ?_
  intro p e s m args below meth c s₁ B hml hv
  obtain ⟨rfl, hM, hK⟩ := hv
  have hl := lv_entry ([.ref v0, .int v1]) (n := 2) (Nat.le_of_ble_eq_true rfl)
  rw [lg_entry_eq]
  generalize (lg_sl ([.ref v0, .int v1]) ++ List.replicate (2 - (lg_sl ([.ref v0, .int v1])).length) Slot.unset).toArray = ls at hl ⊢
  have hl : lv_has ls 2 [(0, .ref v0), (1, .int v1)] := hl
  exact w_X9_addStage ⟨B.exec, B.bytes, B.returns, hml, findClass_of_methodNamed B.named, atoms_spec (ws := wsX9_addStage) B.pre, B.notSynchronized, hK⟩ h s.heap [] ls hM va_S.rf hl
end S_X9_addStage
/-! X9_lead -/
set_option maxRecDepth 20000 in
theorem qi_X9_lead_X9 : ∀ w ∈ u_ws RX9 TX9 9, w ∈ wsX9_lead := by decide +kernel
set_option maxRecDepth 20000 in
theorem q_X9_lead_1 : Cond.fieldLink RX9 10 "StageTruths" "state" "LStageTruths$State;" ∈ wsX9_lead := by decide +kernel
set_option maxRecDepth 20000 in
theorem qi_X9_lead_X7 : ∀ w ∈ u_ws RX7 TX7 7, w ∈ wsX9_lead := by decide +kernel
set_option maxRecDepth 20000 in
theorem q_X9_lead_3 : Cond.fieldLink RX9 71 "StageTruths$State" "later" "[I" ∈ wsX9_lead := by decide +kernel
noncomputable def f_X9_lead (v0 : Nat) (v1 : Int32) (v2 : Int32) (f : mmF) : Option (Int32 × mmF) :=
  (ldR f v0 9 0).bind fun x1 =>
  (ckO f x1 7).bind fun _ =>
  (f_X7_isStage x1 v1 f).bind fun q5 =>
  if q5 = 0 then
  (some ((-1 : Int32), f))
  else
  (ldR f v0 9 0).bind fun x12 =>
  (ckO f x12 7).bind fun _ =>
  (f_X7_isStage x12 v2 f).bind fun q16 =>
  if q16 = 0 then
  (some ((-1 : Int32), f))
  else
  if v1 < v2 then
  ((ldR f v0 9 0).bind fun x33 =>
  (ldR f x33 7 1).bind fun x36 =>
  (ldA 0 f x36 v1).bind fun x40 =>
  (f_X9_has x40 v2 f).bind fun q42 =>
  if q42 = 0 then
  ((ckO f v0 9).bind fun _ =>
  (f_X9_record v0 f).bind fun q52 =>
  (ldR q52 v0 9 0).bind fun x56 =>
  (ckO q52 x56 7).bind fun _ =>
  (f_X7_pairs x56 q52).bind fun q59 =>
  (ldR q52 v0 9 0).bind fun x64 =>
  (ckO q52 x64 7).bind fun _ =>
  (f_X7_connect x64 v1 v2 q52).bind fun q69 =>
  (ldR q69 v0 9 0).bind fun x73 =>
  (ckO q69 x73 7).bind fun _ =>
  (f_X7_pairs x73 q69).bind fun q76 =>
  some ((q76 - q59), q69))
  else
  some ((-5 : Int32), f))
  else
  some ((-2 : Int32), f)
section S_X9_lead
variable {p : Program} {l : Launch} {e : Env} {s : State} {m : MethodId} {args : Array Value} {below : List Frame} {meth : Method} {c : Code} {D : mmD} {b0 sz : Nat} {f : mmF}
set_option maxHeartbeats 4000000 in
set_option maxRecDepth 100000 in
theorem w_X9_lead (C0 : CX cX9_lead 4 (some .int) wsX9_lead RX9 p s m args meth c D b0) {v0 : Nat} {v1 : Int32} {v2 : Int32} {res : Int32 × mmF} (h : f_X9_lead v0 v1 v2 f = some res) : ∀ (H : Heap) (locs : List Loc) (ls : Array Slot), MM vwCl D b0 f sz s H → mS b0 s H locs → lv_has ls 4 [(0, .ref v0), (1, .int v1), (2, .int v2)] → W p l e ({ frames := 3, cells := 0, slots := 0, locals := 68 } : Room) s m args below meth c H locs 0 0 (MQ below (QW D b0 (some (.int res.1)) res.2 sz) args s 0 0 (fun q => b0 ≤ q)) (F0 m 0 ls []) := by
  obtain ⟨hx, hb, hr, hml, hown, hts, hlocks, hK⟩ := id C0
  intro H locs ls hM hS hl
  unfold f_X9_lead at h
  refine lv_aload_n hx hb dX9_lead_0 rfl (lv_at hl 0 rfl) ?_
  replace h := o_b h; obtain ⟨x1, h1, h⟩ := h
  refine m_get (C := RX9) (T := TX9) (N := 9) (ci := 9) hx hb hts qi_X9_lead_X9 hown hK.1 hM 0 (ldR_F h1) rfl (by decide) (hts _ q_X9_lead_1) (fun _ h9 => h9) dX9_lead_1 ?_
  refine lv_iload_n hx hb dX9_lead_4 rfl (lv_at hl 1 rfl) ?_
  replace h := o_b h; obtain ⟨_, k5, h⟩ := h
  replace h := o_b h; obtain ⟨q5, h5, h⟩ := h
  refine m_call (va_runV (As := [.int v1]) (rest := []) ⟨hx, hb, hml, hown, hts⟩ (c_X7_isStage l D b0 sz h5) (cwV 1 hts gX9_lead_X7_isStage rfl rfl rfl (by decide +kernel) ⟨Nat.le_of_ble_eq_true rfl, Nat.le_of_ble_eq_true rfl⟩) ⟨PW.blind, m_recv (ci := 7) rfl hK hM k5, (fun U hU hW => ⟨rfl, PW.call hK hM hS hU hW⟩)⟩ rfl rfl hl.1 rfl (lv_room (Nat.le_of_ble_eq_true rfl)) dX9_lead_5 ⟨(Nat.le_refl _), (Nat.le_refl _)⟩) hS (fun H locs hM hS => ?_)
  refine lv_if_eq (tgt := 22) hx hb dX9_lead_8 (by decide) (fun c8 => ?_) (fun c8 => ?_)
  · replace h := o_t c8 h
    refine lv_iconst (v := (-1 : Int32)) hx hb dX9_lead_22 (by decide) ?_
    replace h := Option.some.inj h; subst h
    exact W.iret hx hb hr (fun t ht hW => ⟨rfl, by rw [ht]; exact hM.moved hW.alike, hS.F ht⟩) hS.2.2 dX9_lead_23
  replace h := o_f c8 h
  refine lv_aload_n hx hb dX9_lead_11 rfl (lv_at hl 0 rfl) ?_
  replace h := o_b h; obtain ⟨x12, h12, h⟩ := h
  refine m_get (C := RX9) (T := TX9) (N := 9) (ci := 9) hx hb hts qi_X9_lead_X9 hown hK.1 hM 0 (ldR_F h12) rfl (by decide) (hts _ q_X9_lead_1) (fun _ h9 => h9) dX9_lead_12 ?_
  refine lv_iload_n hx hb dX9_lead_15 rfl (lv_at hl 2 rfl) ?_
  replace h := o_b h; obtain ⟨_, k16, h⟩ := h
  replace h := o_b h; obtain ⟨q16, h16, h⟩ := h
  refine m_call (va_runV (As := [.int v2]) (rest := []) ⟨hx, hb, hml, hown, hts⟩ (c_X7_isStage l D b0 sz h16) (cwV 1 hts gX9_lead_X7_isStage rfl rfl rfl (by decide +kernel) ⟨Nat.le_of_ble_eq_true rfl, Nat.le_of_ble_eq_true rfl⟩) ⟨PW.blind, m_recv (ci := 7) rfl hK hM k16, (fun U hU hW => ⟨rfl, PW.call hK hM hS hU hW⟩)⟩ rfl rfl hl.1 rfl (lv_room (Nat.le_of_ble_eq_true rfl)) dX9_lead_16 ⟨(Nat.le_refl _), (Nat.le_refl _)⟩) hS (fun H locs hM hS => ?_)
  refine lv_if_ne (tgt := 24) hx hb dX9_lead_19 (by decide) (fun c19 => ?_) (fun c19 => ?_)
  · replace h := o_f c19 h
    refine lv_iload_n hx hb dX9_lead_24 rfl (lv_at hl 2 rfl) ?_
    refine lv_iload_n hx hb dX9_lead_25 rfl (lv_at hl 1 rfl) ?_
    refine lv_icmp_gt (tgt := 32) hx hb dX9_lead_26 (by decide) (fun c26 => ?_) (fun c26 => ?_)
    · replace h := o_t c26 h
      refine lv_aload_n hx hb dX9_lead_32 rfl (lv_at hl 0 rfl) ?_
      replace h := o_b h; obtain ⟨x33, h33, h⟩ := h
      refine m_get (C := RX9) (T := TX9) (N := 9) (ci := 9) hx hb hts qi_X9_lead_X9 hown hK.1 hM 0 (ldR_F h33) rfl (by decide) (hts _ q_X9_lead_1) (fun _ h9 => h9) dX9_lead_33 ?_
      replace h := o_b h; obtain ⟨x36, h36, h⟩ := h
      refine m_get (C := RX7) (T := TX7) (N := 7) (ci := 7) hx hb hts qi_X9_lead_X7 hown hK.1 hM 1 (ldR_F h36) rfl (by decide) (hts _ q_X9_lead_3) (fun _ h9 => h9) dX9_lead_36 ?_
      refine lv_iload_n hx hb dX9_lead_39 rfl (lv_at hl 1 rfl) ?_
      replace h := o_b h; obtain ⟨x40, h40, h⟩ := h
      refine m_iald hx hb hK.1 hM hS rfl h40 dX9_lead_40 ?_
      refine lv_iload_n hx hb dX9_lead_41 rfl (lv_at hl 2 rfl) ?_
      replace h := o_b h; obtain ⟨q42, h42, h⟩ := h
      refine m_call (va_runS (As := [.int x40, .int v2]) (rest := []) ⟨hx, hb, hml, hown, hts⟩ (c_X9_has l D b0 sz h42) (va_cwS 2 hts gX9_lead_X9_has rfl rfl rfl (by decide +kernel) ⟨Nat.le_of_ble_eq_true rfl, Nat.le_of_ble_eq_true rfl⟩) ⟨PW.blind, (fun U hU hW => ⟨rfl, PW.call hK hM hS hU hW⟩)⟩ rfl rfl hl.1 rfl (lv_room (Nat.le_of_ble_eq_true rfl)) dX9_lead_42 ⟨(Nat.le_refl _), (Nat.le_refl _)⟩) hS (fun H locs hM hS => ?_)
      refine lv_if_eq (tgt := 51) hx hb dX9_lead_45 (by decide) (fun c45 => ?_) (fun c45 => ?_)
      · replace h := o_t c45 h
        refine lv_aload_n hx hb dX9_lead_51 rfl (lv_at hl 0 rfl) ?_
        replace h := o_b h; obtain ⟨_, k52, h⟩ := h
        replace h := o_b h; obtain ⟨q52, h52, h⟩ := h
        refine m_call (va_runV (As := []) (rest := []) ⟨hx, hb, hml, hown, hts⟩ (c_X9_record l D b0 sz h52) (cwV 0 hts gX9_lead_X9_record rfl rfl rfl (by decide +kernel) ⟨Nat.le_of_ble_eq_true rfl, Nat.le_of_ble_eq_true rfl⟩) ⟨PW.blind, m_recv (ci := 9) rfl hK hM k52, (fun U hU hW => ⟨rfl, PW.call hK hM hS hU hW⟩)⟩ rfl rfl hl.1 rfl (lv_room (Nat.le_of_ble_eq_true rfl)) dX9_lead_52 ⟨(Nat.le_refl _), (Nat.le_refl _)⟩) hS (fun H locs hM hS => ?_)
        refine lv_aload_n hx hb dX9_lead_55 rfl (lv_at hl 0 rfl) ?_
        replace h := o_b h; obtain ⟨x56, h56, h⟩ := h
        refine m_get (C := RX9) (T := TX9) (N := 9) (ci := 9) hx hb hts qi_X9_lead_X9 hown hK.1 hM 0 (ldR_F h56) rfl (by decide) (hts _ q_X9_lead_1) (fun _ h9 => h9) dX9_lead_56 ?_
        replace h := o_b h; obtain ⟨_, k59, h⟩ := h
        replace h := o_b h; obtain ⟨q59, h59, h⟩ := h
        refine m_call (va_runV (As := []) (rest := []) ⟨hx, hb, hml, hown, hts⟩ (c_X7_pairs l D b0 sz h59) (cwV 0 hts gX9_lead_X7_pairs rfl rfl rfl (by decide +kernel) ⟨Nat.le_of_ble_eq_true rfl, Nat.le_of_ble_eq_true rfl⟩) ⟨PW.blind, m_recv (ci := 7) rfl hK hM k59, (fun U hU hW => ⟨rfl, PW.call hK hM hS hU hW⟩)⟩ rfl rfl hl.1 rfl (lv_room (Nat.le_of_ble_eq_true rfl)) dX9_lead_59 ⟨(Nat.le_refl _), (Nat.le_refl _)⟩) hS (fun H locs hM hS => ?_)
        refine lv_istore_n (lv' := [(3, .int q59), (0, .ref v0), (1, .int v1), (2, .int v2)]) hx hb dX9_lead_62 rfl hl (by decide) rfl (fun ls hl => ?_)
        refine lv_aload_n hx hb dX9_lead_63 rfl (lv_at hl 1 rfl) ?_
        replace h := o_b h; obtain ⟨x64, h64, h⟩ := h
        refine m_get (C := RX9) (T := TX9) (N := 9) (ci := 9) hx hb hts qi_X9_lead_X9 hown hK.1 hM 0 (ldR_F h64) rfl (by decide) (hts _ q_X9_lead_1) (fun _ h9 => h9) dX9_lead_64 ?_
        refine lv_iload_n hx hb dX9_lead_67 rfl (lv_at hl 2 rfl) ?_
        refine lv_iload_n hx hb dX9_lead_68 rfl (lv_at hl 3 rfl) ?_
        replace h := o_b h; obtain ⟨_, k69, h⟩ := h
        replace h := o_b h; obtain ⟨q69, h69, h⟩ := h
        refine m_call (va_runV (As := [.int v1, .int v2]) (rest := []) ⟨hx, hb, hml, hown, hts⟩ (c_X7_connect l D b0 sz h69) (cwV 2 hts gX9_lead_X7_connect rfl rfl rfl (by decide +kernel) ⟨Nat.le_of_ble_eq_true rfl, Nat.le_of_ble_eq_true rfl⟩) ⟨PW.blind, m_recv (ci := 7) rfl hK hM k69, (fun U hU hW => ⟨rfl, PW.call hK hM hS hU hW⟩)⟩ rfl rfl hl.1 rfl (lv_room (Nat.le_of_ble_eq_true rfl)) dX9_lead_69 ⟨(Nat.le_refl _), (Nat.le_refl _)⟩) hS (fun H locs hM hS => ?_)
        refine lv_aload_n hx hb dX9_lead_72 rfl (lv_at hl 1 rfl) ?_
        replace h := o_b h; obtain ⟨x73, h73, h⟩ := h
        refine m_get (C := RX9) (T := TX9) (N := 9) (ci := 9) hx hb hts qi_X9_lead_X9 hown hK.1 hM 0 (ldR_F h73) rfl (by decide) (hts _ q_X9_lead_1) (fun _ h9 => h9) dX9_lead_73 ?_
        replace h := o_b h; obtain ⟨_, k76, h⟩ := h
        replace h := o_b h; obtain ⟨q76, h76, h⟩ := h
        refine m_call (va_runV (As := []) (rest := []) ⟨hx, hb, hml, hown, hts⟩ (c_X7_pairs l D b0 sz h76) (cwV 0 hts gX9_lead_X7_pairs rfl rfl rfl (by decide +kernel) ⟨Nat.le_of_ble_eq_true rfl, Nat.le_of_ble_eq_true rfl⟩) ⟨PW.blind, m_recv (ci := 7) rfl hK hM k76, (fun U hU hW => ⟨rfl, PW.call hK hM hS hU hW⟩)⟩ rfl rfl hl.1 rfl (lv_room (Nat.le_of_ble_eq_true rfl)) dX9_lead_76 ⟨(Nat.le_refl _), (Nat.le_refl _)⟩) hS (fun H locs hM hS => ?_)
        refine lv_iload_n hx hb dX9_lead_79 rfl (lv_at hl 0 rfl) ?_
        refine lv_isub hx hb dX9_lead_80 ?_
        replace h := Option.some.inj h; subst h
        exact W.iret hx hb hr (fun t ht hW => ⟨rfl, by rw [ht]; exact hM.moved hW.alike, hS.F ht⟩) hS.2.2 dX9_lead_81
      replace h := o_f c45 h
      refine lv_bipush (v := (-5 : Int32)) hx hb dX9_lead_48 (by decide) ?_
      replace h := Option.some.inj h; subst h
      exact W.iret hx hb hr (fun t ht hW => ⟨rfl, by rw [ht]; exact hM.moved hW.alike, hS.F ht⟩) hS.2.2 dX9_lead_50
    replace h := o_f c26 h
    refine lv_bipush (v := (-2 : Int32)) hx hb dX9_lead_29 (by decide) ?_
    replace h := Option.some.inj h; subst h
    exact W.iret hx hb hr (fun t ht hW => ⟨rfl, by rw [ht]; exact hM.moved hW.alike, hS.F ht⟩) hS.2.2 dX9_lead_31
  replace h := o_t c19 h
  refine lv_iconst (v := (-1 : Int32)) hx hb dX9_lead_22 (by decide) ?_
  replace h := Option.some.inj h; subst h
  exact W.iret hx hb hr (fun t ht hW => ⟨rfl, by rw [ht]; exact hM.moved hW.alike, hS.F ht⟩) hS.2.2 dX9_lead_23
set_option maxHeartbeats 4000000 in
set_option maxRecDepth 100000 in
theorem c_X9_lead (l : Launch) (D : mmD) (b0 sz : Nat) {v0 : Nat} {v1 : Int32} {v2 : Int32} {f : mmF} {res : Int32 × mmF} (h : f_X9_lead v0 v1 v2 f = some res) : Met l yX9_lead wsX9_lead ({ frames := 3, cells := 0, slots := 0, locals := 68 } : Room) (va_Pc [.ref v0, .int v1, .int v2] (PW D b0 f sz)) (QW D b0 (some (.int res.1)) res.2 sz) 0 0 (fun q => b0 ≤ q) := by
  refine Met.ofW (cc := cX9_lead) (maxL := 4) (ret := (some .int)) (by decide) rfl ?_
  intro p e s m args below meth c s₁ B hml hv
  obtain ⟨rfl, hM, hK⟩ := hv
  have hl := lv_entry ([.ref v0, .int v1, .int v2]) (n := 4) (Nat.le_of_ble_eq_true rfl)
  rw [lg_entry_eq]
  generalize (lg_sl ([.ref v0, .int v1, .int v2]) ++ List.replicate (4 - (lg_sl ([.ref v0, .int v1, .int v2])).length) Slot.unset).toArray = ls at hl ⊢
  have hl : lv_has ls 4 [(0, .ref v0), (1, .int v1), (2, .int v2)] := hl
  exact w_X9_lead ⟨B.exec, B.bytes, B.returns, hml, findClass_of_methodNamed B.named, atoms_spec (ws := wsX9_lead) B.pre, B.notSynchronized, hK⟩ h s.heap [] ls hM va_S.rf hl
end S_X9_lead
/-! X9_isFact -/
noncomputable def f_X9_isFact (v0 : Int32) (f : mmF) : Option (Int32) :=
  if v0 < 0 then
  (some ((0 : Int32)))
  else
  if (4 : Int32) ≤ v0 then
  (some ((0 : Int32)))
  else
  some ((1 : Int32))
section S_X9_isFact
variable {p : Program} {l : Launch} {e : Env} {s : State} {m : MethodId} {args : Array Value} {below : List Frame} {meth : Method} {c : Code} {D : mmD} {b0 sz : Nat} {f : mmF}
set_option maxHeartbeats 4000000 in
set_option maxRecDepth 100000 in
theorem w_X9_isFact (C0 : CX cX9_isFact 1 (some .boolean) wsX9_isFact RX9 p s m args meth c D b0) {v0 : Int32} {res : Int32} (h : f_X9_isFact v0 f = some res) : ∀ (H : Heap) (locs : List Loc) (ls : Array Slot), MM vwCl D b0 f sz s H → mS b0 s H locs → lv_has ls 1 [(0, .int v0)] → W p l e ({ frames := 0, cells := 0, slots := 0, locals := 0 } : Room) s m args below meth c H locs 0 0 (MQ below (QW D b0 (some (.int res)) f sz) args s 0 0 (fun q => b0 ≤ q)) (F0 m 0 ls []) := by
  obtain ⟨hx, hb, hr, hml, hown, hts, hlocks, hK⟩ := id C0
  intro H locs ls hM hS hl
  unfold f_X9_isFact at h
  refine lv_iload_n hx hb dX9_isFact_0 rfl (lv_at hl 0 rfl) ?_
  refine lv_if_lt (tgt := 13) hx hb dX9_isFact_1 (by decide) (fun c1 => ?_) (fun c1 => ?_)
  · replace h := o_t c1 h
    refine lv_iconst (v := (0 : Int32)) hx hb dX9_isFact_13 (by decide) ?_
    replace h := Option.some.inj h; subst h
    exact W.zret hx hb hr rfl (fun t ht hW => ⟨rfl, by rw [ht]; exact hM.moved hW.alike, hS.F ht⟩) hS.2.2 dX9_isFact_14
  replace h := o_f c1 h
  refine lv_iload_n hx hb dX9_isFact_4 rfl (lv_at hl 0 rfl) ?_
  refine lv_iconst (v := (4 : Int32)) hx hb dX9_isFact_5 (by decide) ?_
  refine lv_icmp_ge (tgt := 13) hx hb dX9_isFact_6 (by decide) (fun c6 => ?_) (fun c6 => ?_)
  · replace h := o_t c6 h
    refine lv_iconst (v := (0 : Int32)) hx hb dX9_isFact_13 (by decide) ?_
    replace h := Option.some.inj h; subst h
    exact W.zret hx hb hr rfl (fun t ht hW => ⟨rfl, by rw [ht]; exact hM.moved hW.alike, hS.F ht⟩) hS.2.2 dX9_isFact_14
  replace h := o_f c6 h
  refine lv_iconst (v := (1 : Int32)) hx hb dX9_isFact_9 (by decide) ?_
  refine lv_goto (tgt := 14) hx hb dX9_isFact_10 (by decide) ?_
  replace h := Option.some.inj h; subst h
  exact W.zret hx hb hr rfl (fun t ht hW => ⟨rfl, by rw [ht]; exact hM.moved hW.alike, hS.F ht⟩) hS.2.2 dX9_isFact_14
set_option maxHeartbeats 4000000 in
set_option maxRecDepth 100000 in
theorem c_X9_isFact (l : Launch) (D : mmD) (b0 sz : Nat) {v0 : Int32} {f : mmF} {res : Int32} (h : f_X9_isFact v0 f = some res) : Met l yX9_isFact wsX9_isFact ({ frames := 0, cells := 0, slots := 0, locals := 0 } : Room) (va_Pc [.int v0] (PW D b0 f sz)) (QW D b0 (some (.int res)) f sz) 0 0 (fun q => b0 ≤ q) := by
  refine Met.ofW (cc := cX9_isFact) (maxL := 1) (ret := (some .boolean)) (by decide) rfl ?_
  intro p e s m args below meth c s₁ B hml hv
  obtain ⟨rfl, hM, hK⟩ := hv
  have hl := lv_entry ([.int v0]) (n := 1) (Nat.le_of_ble_eq_true rfl)
  rw [lg_entry_eq]
  generalize (lg_sl ([.int v0]) ++ List.replicate (1 - (lg_sl ([.int v0])).length) Slot.unset).toArray = ls at hl ⊢
  have hl : lv_has ls 1 [(0, .int v0)] := hl
  exact w_X9_isFact ⟨B.exec, B.bytes, B.returns, hml, findClass_of_methodNamed B.named, atoms_spec (ws := wsX9_isFact) B.pre, B.notSynchronized, hK⟩ h s.heap [] ls hM va_S.rf hl
end S_X9_isFact
/-! X9_learn -/
set_option maxRecDepth 20000 in
theorem qi_X9_learn_X9 : ∀ w ∈ u_ws RX9 TX9 9, w ∈ wsX9_learn := by decide +kernel
set_option maxRecDepth 20000 in
theorem q_X9_learn_1 : Cond.fieldLink RX9 10 "StageTruths" "state" "LStageTruths$State;" ∈ wsX9_learn := by decide +kernel
set_option maxRecDepth 20000 in
theorem qi_X9_learn_X7 : ∀ w ∈ u_ws RX7 TX7 7, w ∈ wsX9_learn := by decide +kernel
set_option maxRecDepth 20000 in
theorem q_X9_learn_3 : Cond.fieldLink RX9 90 "StageTruths$State" "facts" "[I" ∈ wsX9_learn := by decide +kernel
set_option maxRecDepth 20000 in
theorem q_X9_learn_4 : Cond.fieldLink RX9 71 "StageTruths$State" "later" "[I" ∈ wsX9_learn := by decide +kernel
noncomputable def f_X9_learn (v0 : Nat) (v1 : Int32) (v2 : Int32) (f : mmF) : Option (Int32 × mmF) :=
  (ldR f v0 9 0).bind fun x1 =>
  (ckO f x1 7).bind fun _ =>
  (f_X7_isStage x1 v1 f).bind fun q5 =>
  if q5 = 0 then
  (some ((-1 : Int32), f))
  else
  (f_X9_isFact v2 f).bind fun q12 =>
  if q12 = 0 then
  (some ((-1 : Int32), f))
  else
  (ldR f v0 9 0).bind fun x21 =>
  (ldR f x21 7 2).bind fun x24 =>
  (ldA 0 f x24 v1).bind fun x28 =>
  (f_X9_has x28 v2 f).bind fun q30 =>
  if q30 = 0 then
  ((ckO f v0 9).bind fun _ =>
  (f_X9_record v0 f).bind fun q40 =>
  (ldR q40 v0 9 0).bind fun x44 =>
  (ldR q40 v0 9 0).bind fun x48 =>
  (ldR q40 x48 7 1).bind fun x51 =>
  (ldA 0 q40 x51 v1).bind fun x55 =>
  (ckO q40 x44 7).bind fun _ =>
  (f_X7_teach x44 x55 ((1 : Int32) <<< (v2 &&& 31)) q40).bind fun q59 =>
  (ldR q59 v0 9 0).bind fun x63 =>
  (ckO q59 x63 7).bind fun _ =>
  (f_X7_knowing x63 v2 q59).bind fun q67 =>
  some (q67, q59))
  else
  some ((-5 : Int32), f)
section S_X9_learn
variable {p : Program} {l : Launch} {e : Env} {s : State} {m : MethodId} {args : Array Value} {below : List Frame} {meth : Method} {c : Code} {D : mmD} {b0 sz : Nat} {f : mmF}
set_option maxHeartbeats 4000000 in
set_option maxRecDepth 100000 in
theorem w_X9_learn (C0 : CX cX9_learn 3 (some .int) wsX9_learn RX9 p s m args meth c D b0) {v0 : Nat} {v1 : Int32} {v2 : Int32} {res : Int32 × mmF} (h : f_X9_learn v0 v1 v2 f = some res) : ∀ (H : Heap) (locs : List Loc) (ls : Array Slot), MM vwCl D b0 f sz s H → mS b0 s H locs → lv_has ls 3 [(0, .ref v0), (1, .int v1), (2, .int v2)] → W p l e ({ frames := 2, cells := 0, slots := 0, locals := 44 } : Room) s m args below meth c H locs 0 0 (MQ below (QW D b0 (some (.int res.1)) res.2 sz) args s 0 0 (fun q => b0 ≤ q)) (F0 m 0 ls []) := by
  obtain ⟨hx, hb, hr, hml, hown, hts, hlocks, hK⟩ := id C0
  intro H locs ls hM hS hl
  unfold f_X9_learn at h
  refine lv_aload_n hx hb dX9_learn_0 rfl (lv_at hl 0 rfl) ?_
  replace h := o_b h; obtain ⟨x1, h1, h⟩ := h
  refine m_get (C := RX9) (T := TX9) (N := 9) (ci := 9) hx hb hts qi_X9_learn_X9 hown hK.1 hM 0 (ldR_F h1) rfl (by decide) (hts _ q_X9_learn_1) (fun _ h9 => h9) dX9_learn_1 ?_
  refine lv_iload_n hx hb dX9_learn_4 rfl (lv_at hl 1 rfl) ?_
  replace h := o_b h; obtain ⟨_, k5, h⟩ := h
  replace h := o_b h; obtain ⟨q5, h5, h⟩ := h
  refine m_call (va_runV (As := [.int v1]) (rest := []) ⟨hx, hb, hml, hown, hts⟩ (c_X7_isStage l D b0 sz h5) (cwV 1 hts gX9_learn_X7_isStage rfl rfl rfl (by decide +kernel) ⟨Nat.le_of_ble_eq_true rfl, Nat.le_of_ble_eq_true rfl⟩) ⟨PW.blind, m_recv (ci := 7) rfl hK hM k5, (fun U hU hW => ⟨rfl, PW.call hK hM hS hU hW⟩)⟩ rfl rfl hl.1 rfl (lv_room (Nat.le_of_ble_eq_true rfl)) dX9_learn_5 ⟨(Nat.le_refl _), (Nat.le_refl _)⟩) hS (fun H locs hM hS => ?_)
  refine lv_if_eq (tgt := 18) hx hb dX9_learn_8 (by decide) (fun c8 => ?_) (fun c8 => ?_)
  · replace h := o_t c8 h
    refine lv_iconst (v := (-1 : Int32)) hx hb dX9_learn_18 (by decide) ?_
    replace h := Option.some.inj h; subst h
    exact W.iret hx hb hr (fun t ht hW => ⟨rfl, by rw [ht]; exact hM.moved hW.alike, hS.F ht⟩) hS.2.2 dX9_learn_19
  replace h := o_f c8 h
  refine lv_iload_n hx hb dX9_learn_11 rfl (lv_at hl 2 rfl) ?_
  replace h := o_b h; obtain ⟨q12, h12, h⟩ := h
  refine m_call (va_runS (As := [.int v2]) (rest := []) ⟨hx, hb, hml, hown, hts⟩ (c_X9_isFact l D b0 sz h12) (va_cwS 1 hts gX9_learn_X9_isFact rfl rfl rfl (by decide +kernel) ⟨Nat.le_of_ble_eq_true rfl, Nat.le_of_ble_eq_true rfl⟩) ⟨PW.blind, (fun U hU hW => ⟨rfl, PW.call hK hM hS hU hW⟩)⟩ rfl rfl hl.1 rfl (lv_room (Nat.le_of_ble_eq_true rfl)) dX9_learn_12 ⟨(Nat.le_refl _), (Nat.le_refl _)⟩) hS (fun H locs hM hS => ?_)
  refine lv_if_ne (tgt := 20) hx hb dX9_learn_15 (by decide) (fun c15 => ?_) (fun c15 => ?_)
  · replace h := o_f c15 h
    refine lv_aload_n hx hb dX9_learn_20 rfl (lv_at hl 0 rfl) ?_
    replace h := o_b h; obtain ⟨x21, h21, h⟩ := h
    refine m_get (C := RX9) (T := TX9) (N := 9) (ci := 9) hx hb hts qi_X9_learn_X9 hown hK.1 hM 0 (ldR_F h21) rfl (by decide) (hts _ q_X9_learn_1) (fun _ h9 => h9) dX9_learn_21 ?_
    replace h := o_b h; obtain ⟨x24, h24, h⟩ := h
    refine m_get (C := RX7) (T := TX7) (N := 7) (ci := 7) hx hb hts qi_X9_learn_X7 hown hK.1 hM 2 (ldR_F h24) rfl (by decide) (hts _ q_X9_learn_3) (fun _ h9 => h9) dX9_learn_24 ?_
    refine lv_iload_n hx hb dX9_learn_27 rfl (lv_at hl 1 rfl) ?_
    replace h := o_b h; obtain ⟨x28, h28, h⟩ := h
    refine m_iald hx hb hK.1 hM hS rfl h28 dX9_learn_28 ?_
    refine lv_iload_n hx hb dX9_learn_29 rfl (lv_at hl 2 rfl) ?_
    replace h := o_b h; obtain ⟨q30, h30, h⟩ := h
    refine m_call (va_runS (As := [.int x28, .int v2]) (rest := []) ⟨hx, hb, hml, hown, hts⟩ (c_X9_has l D b0 sz h30) (va_cwS 2 hts gX9_learn_X9_has rfl rfl rfl (by decide +kernel) ⟨Nat.le_of_ble_eq_true rfl, Nat.le_of_ble_eq_true rfl⟩) ⟨PW.blind, (fun U hU hW => ⟨rfl, PW.call hK hM hS hU hW⟩)⟩ rfl rfl hl.1 rfl (lv_room (Nat.le_of_ble_eq_true rfl)) dX9_learn_30 ⟨(Nat.le_refl _), (Nat.le_refl _)⟩) hS (fun H locs hM hS => ?_)
    refine lv_if_eq (tgt := 39) hx hb dX9_learn_33 (by decide) (fun c33 => ?_) (fun c33 => ?_)
    · replace h := o_t c33 h
      refine lv_aload_n hx hb dX9_learn_39 rfl (lv_at hl 0 rfl) ?_
      replace h := o_b h; obtain ⟨_, k40, h⟩ := h
      replace h := o_b h; obtain ⟨q40, h40, h⟩ := h
      refine m_call (va_runV (As := []) (rest := []) ⟨hx, hb, hml, hown, hts⟩ (c_X9_record l D b0 sz h40) (cwV 0 hts gX9_learn_X9_record rfl rfl rfl (by decide +kernel) ⟨Nat.le_of_ble_eq_true rfl, Nat.le_of_ble_eq_true rfl⟩) ⟨PW.blind, m_recv (ci := 9) rfl hK hM k40, (fun U hU hW => ⟨rfl, PW.call hK hM hS hU hW⟩)⟩ rfl rfl hl.1 rfl (lv_room (Nat.le_of_ble_eq_true rfl)) dX9_learn_40 ⟨(Nat.le_refl _), (Nat.le_refl _)⟩) hS (fun H locs hM hS => ?_)
      refine lv_aload_n hx hb dX9_learn_43 rfl (lv_at hl 0 rfl) ?_
      replace h := o_b h; obtain ⟨x44, h44, h⟩ := h
      refine m_get (C := RX9) (T := TX9) (N := 9) (ci := 9) hx hb hts qi_X9_learn_X9 hown hK.1 hM 0 (ldR_F h44) rfl (by decide) (hts _ q_X9_learn_1) (fun _ h9 => h9) dX9_learn_44 ?_
      refine lv_aload_n hx hb dX9_learn_47 rfl (lv_at hl 0 rfl) ?_
      replace h := o_b h; obtain ⟨x48, h48, h⟩ := h
      refine m_get (C := RX9) (T := TX9) (N := 9) (ci := 9) hx hb hts qi_X9_learn_X9 hown hK.1 hM 0 (ldR_F h48) rfl (by decide) (hts _ q_X9_learn_1) (fun _ h9 => h9) dX9_learn_48 ?_
      replace h := o_b h; obtain ⟨x51, h51, h⟩ := h
      refine m_get (C := RX7) (T := TX7) (N := 7) (ci := 7) hx hb hts qi_X9_learn_X7 hown hK.1 hM 1 (ldR_F h51) rfl (by decide) (hts _ q_X9_learn_4) (fun _ h9 => h9) dX9_learn_51 ?_
      refine lv_iload_n hx hb dX9_learn_54 rfl (lv_at hl 1 rfl) ?_
      replace h := o_b h; obtain ⟨x55, h55, h⟩ := h
      refine m_iald hx hb hK.1 hM hS rfl h55 dX9_learn_55 ?_
      refine lv_iconst (v := (1 : Int32)) hx hb dX9_learn_56 (by decide) ?_
      refine lv_iload_n hx hb dX9_learn_57 rfl (lv_at hl 2 rfl) ?_
      refine lv_ishl hx hb dX9_learn_58 ?_
      replace h := o_b h; obtain ⟨_, k59, h⟩ := h
      replace h := o_b h; obtain ⟨q59, h59, h⟩ := h
      refine m_call (va_runV (As := [.int x55, .int ((1 : Int32) <<< (v2 &&& 31))]) (rest := []) ⟨hx, hb, hml, hown, hts⟩ (c_X7_teach l D b0 sz h59) (cwV 2 hts gX9_learn_X7_teach rfl rfl rfl (by decide +kernel) ⟨Nat.le_of_ble_eq_true rfl, Nat.le_of_ble_eq_true rfl⟩) ⟨PW.blind, m_recv (ci := 7) rfl hK hM k59, (fun U hU hW => ⟨rfl, PW.call hK hM hS hU hW⟩)⟩ rfl rfl hl.1 rfl (lv_room (Nat.le_of_ble_eq_true rfl)) dX9_learn_59 ⟨(Nat.le_refl _), (Nat.le_refl _)⟩) hS (fun H locs hM hS => ?_)
      refine lv_aload_n hx hb dX9_learn_62 rfl (lv_at hl 0 rfl) ?_
      replace h := o_b h; obtain ⟨x63, h63, h⟩ := h
      refine m_get (C := RX9) (T := TX9) (N := 9) (ci := 9) hx hb hts qi_X9_learn_X9 hown hK.1 hM 0 (ldR_F h63) rfl (by decide) (hts _ q_X9_learn_1) (fun _ h9 => h9) dX9_learn_63 ?_
      refine lv_iload_n hx hb dX9_learn_66 rfl (lv_at hl 2 rfl) ?_
      replace h := o_b h; obtain ⟨_, k67, h⟩ := h
      replace h := o_b h; obtain ⟨q67, h67, h⟩ := h
      refine m_call (va_runV (As := [.int v2]) (rest := []) ⟨hx, hb, hml, hown, hts⟩ (c_X7_knowing l D b0 sz h67) (cwV 1 hts gX9_learn_X7_knowing rfl rfl rfl (by decide +kernel) ⟨Nat.le_of_ble_eq_true rfl, Nat.le_of_ble_eq_true rfl⟩) ⟨PW.blind, m_recv (ci := 7) rfl hK hM k67, (fun U hU hW => ⟨rfl, PW.call hK hM hS hU hW⟩)⟩ rfl rfl hl.1 rfl (lv_room (Nat.le_of_ble_eq_true rfl)) dX9_learn_67 ⟨(Nat.le_refl _), (Nat.le_refl _)⟩) hS (fun H locs hM hS => ?_)
      replace h := Option.some.inj h; subst h
      exact W.iret hx hb hr (fun t ht hW => ⟨rfl, by rw [ht]; exact hM.moved hW.alike, hS.F ht⟩) hS.2.2 dX9_learn_70
    replace h := o_f c33 h
    refine lv_bipush (v := (-5 : Int32)) hx hb dX9_learn_36 (by decide) ?_
    replace h := Option.some.inj h; subst h
    exact W.iret hx hb hr (fun t ht hW => ⟨rfl, by rw [ht]; exact hM.moved hW.alike, hS.F ht⟩) hS.2.2 dX9_learn_38
  replace h := o_t c15 h
  refine lv_iconst (v := (-1 : Int32)) hx hb dX9_learn_18 (by decide) ?_
  replace h := Option.some.inj h; subst h
  exact W.iret hx hb hr (fun t ht hW => ⟨rfl, by rw [ht]; exact hM.moved hW.alike, hS.F ht⟩) hS.2.2 dX9_learn_19
set_option maxHeartbeats 4000000 in
set_option maxRecDepth 100000 in
theorem c_X9_learn (l : Launch) (D : mmD) (b0 sz : Nat) {v0 : Nat} {v1 : Int32} {v2 : Int32} {f : mmF} {res : Int32 × mmF} (h : f_X9_learn v0 v1 v2 f = some res) : Met l yX9_learn wsX9_learn ({ frames := 2, cells := 0, slots := 0, locals := 44 } : Room) (va_Pc [.ref v0, .int v1, .int v2] (PW D b0 f sz)) (QW D b0 (some (.int res.1)) res.2 sz) 0 0 (fun q => b0 ≤ q) := by
  refine Met.ofW (cc := cX9_learn) (maxL := 3) (ret := (some .int)) (by decide) rfl ?_
  intro p e s m args below meth c s₁ B hml hv
  obtain ⟨rfl, hM, hK⟩ := hv
  have hl := lv_entry ([.ref v0, .int v1, .int v2]) (n := 3) (Nat.le_of_ble_eq_true rfl)
  rw [lg_entry_eq]
  generalize (lg_sl ([.ref v0, .int v1, .int v2]) ++ List.replicate (3 - (lg_sl ([.ref v0, .int v1, .int v2])).length) Slot.unset).toArray = ls at hl ⊢
  have hl : lv_has ls 3 [(0, .ref v0), (1, .int v1), (2, .int v2)] := hl
  exact w_X9_learn ⟨B.exec, B.bytes, B.returns, hml, findClass_of_methodNamed B.named, atoms_spec (ws := wsX9_learn) B.pre, B.notSynchronized, hK⟩ h s.heap [] ls hM va_S.rf hl
end S_X9_learn
/-! X9_forget -/
set_option maxRecDepth 20000 in
theorem qi_X9_forget_X9 : ∀ w ∈ u_ws RX9 TX9 9, w ∈ wsX9_forget := by decide +kernel
set_option maxRecDepth 20000 in
theorem q_X9_forget_1 : Cond.fieldLink RX9 10 "StageTruths" "state" "LStageTruths$State;" ∈ wsX9_forget := by decide +kernel
set_option maxRecDepth 20000 in
theorem qi_X9_forget_X7 : ∀ w ∈ u_ws RX7 TX7 7, w ∈ wsX9_forget := by decide +kernel
set_option maxRecDepth 20000 in
theorem q_X9_forget_3 : Cond.fieldLink RX9 90 "StageTruths$State" "facts" "[I" ∈ wsX9_forget := by decide +kernel
noncomputable def f_X9_forget (v0 : Nat) (v1 : Int32) (v2 : Int32) (f : mmF) : Option (Int32 × mmF) :=
  (ldR f v0 9 0).bind fun x1 =>
  (ckO f x1 7).bind fun _ =>
  (f_X7_isStage x1 v1 f).bind fun q5 =>
  if q5 = 0 then
  (some ((-1 : Int32), f))
  else
  (f_X9_isFact v2 f).bind fun q12 =>
  if q12 = 0 then
  (some ((-1 : Int32), f))
  else
  (ldR f v0 9 0).bind fun x21 =>
  (ldR f x21 7 2).bind fun x24 =>
  (ldA 0 f x24 v1).bind fun x28 =>
  (f_X9_has x28 v2 f).bind fun q30 =>
  if q30 = 0 then
  (some ((-5 : Int32), f))
  else
  (ckO f v0 9).bind fun _ =>
  (f_X9_record v0 f).bind fun q40 =>
  (ldR q40 v0 9 0).bind fun x44 =>
  (ldR q40 v0 9 0).bind fun x48 =>
  (ckO q40 x48 7).bind fun _ =>
  (f_X7_earlier x48 v1 q40).bind fun q52 =>
  (ckO q40 x44 7).bind fun _ =>
  (f_X7_unteach x44 q52 ((1 : Int32) <<< (v2 &&& 31)) q40).bind fun q58 =>
  (ldR q58 v0 9 0).bind fun x62 =>
  (ckO q58 x62 7).bind fun _ =>
  (f_X7_knowing x62 v2 q58).bind fun q66 =>
  some (q66, q58)
section S_X9_forget
variable {p : Program} {l : Launch} {e : Env} {s : State} {m : MethodId} {args : Array Value} {below : List Frame} {meth : Method} {c : Code} {D : mmD} {b0 sz : Nat} {f : mmF}
set_option maxHeartbeats 4000000 in
set_option maxRecDepth 100000 in
theorem w_X9_forget (C0 : CX cX9_forget 3 (some .int) wsX9_forget RX9 p s m args meth c D b0) {v0 : Nat} {v1 : Int32} {v2 : Int32} {res : Int32 × mmF} (h : f_X9_forget v0 v1 v2 f = some res) : ∀ (H : Heap) (locs : List Loc) (ls : Array Slot), MM vwCl D b0 f sz s H → mS b0 s H locs → lv_has ls 3 [(0, .ref v0), (1, .int v1), (2, .int v2)] → W p l e ({ frames := 2, cells := 0, slots := 0, locals := 44 } : Room) s m args below meth c H locs 0 0 (MQ below (QW D b0 (some (.int res.1)) res.2 sz) args s 0 0 (fun q => b0 ≤ q)) (F0 m 0 ls []) := by
  obtain ⟨hx, hb, hr, hml, hown, hts, hlocks, hK⟩ := id C0
  intro H locs ls hM hS hl
  unfold f_X9_forget at h
  refine lv_aload_n hx hb dX9_forget_0 rfl (lv_at hl 0 rfl) ?_
  replace h := o_b h; obtain ⟨x1, h1, h⟩ := h
  refine m_get (C := RX9) (T := TX9) (N := 9) (ci := 9) hx hb hts qi_X9_forget_X9 hown hK.1 hM 0 (ldR_F h1) rfl (by decide) (hts _ q_X9_forget_1) (fun _ h9 => h9) dX9_forget_1 ?_
  refine lv_iload_n hx hb dX9_forget_4 rfl (lv_at hl 1 rfl) ?_
  replace h := o_b h; obtain ⟨_, k5, h⟩ := h
  replace h := o_b h; obtain ⟨q5, h5, h⟩ := h
  refine m_call (va_runV (As := [.int v1]) (rest := []) ⟨hx, hb, hml, hown, hts⟩ (c_X7_isStage l D b0 sz h5) (cwV 1 hts gX9_forget_X7_isStage rfl rfl rfl (by decide +kernel) ⟨Nat.le_of_ble_eq_true rfl, Nat.le_of_ble_eq_true rfl⟩) ⟨PW.blind, m_recv (ci := 7) rfl hK hM k5, (fun U hU hW => ⟨rfl, PW.call hK hM hS hU hW⟩)⟩ rfl rfl hl.1 rfl (lv_room (Nat.le_of_ble_eq_true rfl)) dX9_forget_5 ⟨(Nat.le_refl _), (Nat.le_refl _)⟩) hS (fun H locs hM hS => ?_)
  refine lv_if_eq (tgt := 18) hx hb dX9_forget_8 (by decide) (fun c8 => ?_) (fun c8 => ?_)
  · replace h := o_t c8 h
    refine lv_iconst (v := (-1 : Int32)) hx hb dX9_forget_18 (by decide) ?_
    replace h := Option.some.inj h; subst h
    exact W.iret hx hb hr (fun t ht hW => ⟨rfl, by rw [ht]; exact hM.moved hW.alike, hS.F ht⟩) hS.2.2 dX9_forget_19
  replace h := o_f c8 h
  refine lv_iload_n hx hb dX9_forget_11 rfl (lv_at hl 2 rfl) ?_
  replace h := o_b h; obtain ⟨q12, h12, h⟩ := h
  refine m_call (va_runS (As := [.int v2]) (rest := []) ⟨hx, hb, hml, hown, hts⟩ (c_X9_isFact l D b0 sz h12) (va_cwS 1 hts gX9_forget_X9_isFact rfl rfl rfl (by decide +kernel) ⟨Nat.le_of_ble_eq_true rfl, Nat.le_of_ble_eq_true rfl⟩) ⟨PW.blind, (fun U hU hW => ⟨rfl, PW.call hK hM hS hU hW⟩)⟩ rfl rfl hl.1 rfl (lv_room (Nat.le_of_ble_eq_true rfl)) dX9_forget_12 ⟨(Nat.le_refl _), (Nat.le_refl _)⟩) hS (fun H locs hM hS => ?_)
  refine lv_if_ne (tgt := 20) hx hb dX9_forget_15 (by decide) (fun c15 => ?_) (fun c15 => ?_)
  · replace h := o_f c15 h
    refine lv_aload_n hx hb dX9_forget_20 rfl (lv_at hl 0 rfl) ?_
    replace h := o_b h; obtain ⟨x21, h21, h⟩ := h
    refine m_get (C := RX9) (T := TX9) (N := 9) (ci := 9) hx hb hts qi_X9_forget_X9 hown hK.1 hM 0 (ldR_F h21) rfl (by decide) (hts _ q_X9_forget_1) (fun _ h9 => h9) dX9_forget_21 ?_
    replace h := o_b h; obtain ⟨x24, h24, h⟩ := h
    refine m_get (C := RX7) (T := TX7) (N := 7) (ci := 7) hx hb hts qi_X9_forget_X7 hown hK.1 hM 2 (ldR_F h24) rfl (by decide) (hts _ q_X9_forget_3) (fun _ h9 => h9) dX9_forget_24 ?_
    refine lv_iload_n hx hb dX9_forget_27 rfl (lv_at hl 1 rfl) ?_
    replace h := o_b h; obtain ⟨x28, h28, h⟩ := h
    refine m_iald hx hb hK.1 hM hS rfl h28 dX9_forget_28 ?_
    refine lv_iload_n hx hb dX9_forget_29 rfl (lv_at hl 2 rfl) ?_
    replace h := o_b h; obtain ⟨q30, h30, h⟩ := h
    refine m_call (va_runS (As := [.int x28, .int v2]) (rest := []) ⟨hx, hb, hml, hown, hts⟩ (c_X9_has l D b0 sz h30) (va_cwS 2 hts gX9_forget_X9_has rfl rfl rfl (by decide +kernel) ⟨Nat.le_of_ble_eq_true rfl, Nat.le_of_ble_eq_true rfl⟩) ⟨PW.blind, (fun U hU hW => ⟨rfl, PW.call hK hM hS hU hW⟩)⟩ rfl rfl hl.1 rfl (lv_room (Nat.le_of_ble_eq_true rfl)) dX9_forget_30 ⟨(Nat.le_refl _), (Nat.le_refl _)⟩) hS (fun H locs hM hS => ?_)
    refine lv_if_ne (tgt := 39) hx hb dX9_forget_33 (by decide) (fun c33 => ?_) (fun c33 => ?_)
    · replace h := o_f c33 h
      refine lv_aload_n hx hb dX9_forget_39 rfl (lv_at hl 0 rfl) ?_
      replace h := o_b h; obtain ⟨_, k40, h⟩ := h
      replace h := o_b h; obtain ⟨q40, h40, h⟩ := h
      refine m_call (va_runV (As := []) (rest := []) ⟨hx, hb, hml, hown, hts⟩ (c_X9_record l D b0 sz h40) (cwV 0 hts gX9_forget_X9_record rfl rfl rfl (by decide +kernel) ⟨Nat.le_of_ble_eq_true rfl, Nat.le_of_ble_eq_true rfl⟩) ⟨PW.blind, m_recv (ci := 9) rfl hK hM k40, (fun U hU hW => ⟨rfl, PW.call hK hM hS hU hW⟩)⟩ rfl rfl hl.1 rfl (lv_room (Nat.le_of_ble_eq_true rfl)) dX9_forget_40 ⟨(Nat.le_refl _), (Nat.le_refl _)⟩) hS (fun H locs hM hS => ?_)
      refine lv_aload_n hx hb dX9_forget_43 rfl (lv_at hl 0 rfl) ?_
      replace h := o_b h; obtain ⟨x44, h44, h⟩ := h
      refine m_get (C := RX9) (T := TX9) (N := 9) (ci := 9) hx hb hts qi_X9_forget_X9 hown hK.1 hM 0 (ldR_F h44) rfl (by decide) (hts _ q_X9_forget_1) (fun _ h9 => h9) dX9_forget_44 ?_
      refine lv_aload_n hx hb dX9_forget_47 rfl (lv_at hl 0 rfl) ?_
      replace h := o_b h; obtain ⟨x48, h48, h⟩ := h
      refine m_get (C := RX9) (T := TX9) (N := 9) (ci := 9) hx hb hts qi_X9_forget_X9 hown hK.1 hM 0 (ldR_F h48) rfl (by decide) (hts _ q_X9_forget_1) (fun _ h9 => h9) dX9_forget_48 ?_
      refine lv_iload_n hx hb dX9_forget_51 rfl (lv_at hl 1 rfl) ?_
      replace h := o_b h; obtain ⟨_, k52, h⟩ := h
      replace h := o_b h; obtain ⟨q52, h52, h⟩ := h
      refine m_call (va_runV (As := [.int v1]) (rest := [.ref x44]) ⟨hx, hb, hml, hown, hts⟩ (c_X7_earlier l D b0 sz h52) (cwV 1 hts gX9_forget_X7_earlier rfl rfl rfl (by decide +kernel) ⟨Nat.le_of_ble_eq_true rfl, Nat.le_of_ble_eq_true rfl⟩) ⟨PW.blind, m_recv (ci := 7) rfl hK hM k52, (fun U hU hW => ⟨rfl, PW.call hK hM hS hU hW⟩)⟩ rfl rfl hl.1 rfl (lv_room (Nat.le_of_ble_eq_true rfl)) dX9_forget_52 ⟨(Nat.le_refl _), (Nat.le_refl _)⟩) hS (fun H locs hM hS => ?_)
      refine lv_iconst (v := (1 : Int32)) hx hb dX9_forget_55 (by decide) ?_
      refine lv_iload_n hx hb dX9_forget_56 rfl (lv_at hl 2 rfl) ?_
      refine lv_ishl hx hb dX9_forget_57 ?_
      replace h := o_b h; obtain ⟨_, k58, h⟩ := h
      replace h := o_b h; obtain ⟨q58, h58, h⟩ := h
      refine m_call (va_runV (As := [.int q52, .int ((1 : Int32) <<< (v2 &&& 31))]) (rest := []) ⟨hx, hb, hml, hown, hts⟩ (c_X7_unteach l D b0 sz h58) (cwV 2 hts gX9_forget_X7_unteach rfl rfl rfl (by decide +kernel) ⟨Nat.le_of_ble_eq_true rfl, Nat.le_of_ble_eq_true rfl⟩) ⟨PW.blind, m_recv (ci := 7) rfl hK hM k58, (fun U hU hW => ⟨rfl, PW.call hK hM hS hU hW⟩)⟩ rfl rfl hl.1 rfl (lv_room (Nat.le_of_ble_eq_true rfl)) dX9_forget_58 ⟨(Nat.le_refl _), (Nat.le_refl _)⟩) hS (fun H locs hM hS => ?_)
      refine lv_aload_n hx hb dX9_forget_61 rfl (lv_at hl 0 rfl) ?_
      replace h := o_b h; obtain ⟨x62, h62, h⟩ := h
      refine m_get (C := RX9) (T := TX9) (N := 9) (ci := 9) hx hb hts qi_X9_forget_X9 hown hK.1 hM 0 (ldR_F h62) rfl (by decide) (hts _ q_X9_forget_1) (fun _ h9 => h9) dX9_forget_62 ?_
      refine lv_iload_n hx hb dX9_forget_65 rfl (lv_at hl 2 rfl) ?_
      replace h := o_b h; obtain ⟨_, k66, h⟩ := h
      replace h := o_b h; obtain ⟨q66, h66, h⟩ := h
      refine m_call (va_runV (As := [.int v2]) (rest := []) ⟨hx, hb, hml, hown, hts⟩ (c_X7_knowing l D b0 sz h66) (cwV 1 hts gX9_forget_X7_knowing rfl rfl rfl (by decide +kernel) ⟨Nat.le_of_ble_eq_true rfl, Nat.le_of_ble_eq_true rfl⟩) ⟨PW.blind, m_recv (ci := 7) rfl hK hM k66, (fun U hU hW => ⟨rfl, PW.call hK hM hS hU hW⟩)⟩ rfl rfl hl.1 rfl (lv_room (Nat.le_of_ble_eq_true rfl)) dX9_forget_66 ⟨(Nat.le_refl _), (Nat.le_refl _)⟩) hS (fun H locs hM hS => ?_)
      replace h := Option.some.inj h; subst h
      exact W.iret hx hb hr (fun t ht hW => ⟨rfl, by rw [ht]; exact hM.moved hW.alike, hS.F ht⟩) hS.2.2 dX9_forget_69
    replace h := o_t c33 h
    refine lv_bipush (v := (-5 : Int32)) hx hb dX9_forget_36 (by decide) ?_
    replace h := Option.some.inj h; subst h
    exact W.iret hx hb hr (fun t ht hW => ⟨rfl, by rw [ht]; exact hM.moved hW.alike, hS.F ht⟩) hS.2.2 dX9_forget_38
  replace h := o_t c15 h
  refine lv_iconst (v := (-1 : Int32)) hx hb dX9_forget_18 (by decide) ?_
  replace h := Option.some.inj h; subst h
  exact W.iret hx hb hr (fun t ht hW => ⟨rfl, by rw [ht]; exact hM.moved hW.alike, hS.F ht⟩) hS.2.2 dX9_forget_19
set_option maxHeartbeats 4000000 in
set_option maxRecDepth 100000 in
theorem c_X9_forget (l : Launch) (D : mmD) (b0 sz : Nat) {v0 : Nat} {v1 : Int32} {v2 : Int32} {f : mmF} {res : Int32 × mmF} (h : f_X9_forget v0 v1 v2 f = some res) : Met l yX9_forget wsX9_forget ({ frames := 2, cells := 0, slots := 0, locals := 44 } : Room) (va_Pc [.ref v0, .int v1, .int v2] (PW D b0 f sz)) (QW D b0 (some (.int res.1)) res.2 sz) 0 0 (fun q => b0 ≤ q) := by
  refine Met.ofW (cc := cX9_forget) (maxL := 3) (ret := (some .int)) (by decide) rfl ?_
  intro p e s m args below meth c s₁ B hml hv
  obtain ⟨rfl, hM, hK⟩ := hv
  have hl := lv_entry ([.ref v0, .int v1, .int v2]) (n := 3) (Nat.le_of_ble_eq_true rfl)
  rw [lg_entry_eq]
  generalize (lg_sl ([.ref v0, .int v1, .int v2]) ++ List.replicate (3 - (lg_sl ([.ref v0, .int v1, .int v2])).length) Slot.unset).toArray = ls at hl ⊢
  have hl : lv_has ls 3 [(0, .ref v0), (1, .int v1), (2, .int v2)] := hl
  exact w_X9_forget ⟨B.exec, B.bytes, B.returns, hml, findClass_of_methodNamed B.named, atoms_spec (ws := wsX9_forget) B.pre, B.notSynchronized, hK⟩ h s.heap [] ls hM va_S.rf hl
end S_X9_forget
/-! X9_removeStage -/
set_option maxRecDepth 20000 in
theorem qi_X9_removeStage_X9 : ∀ w ∈ u_ws RX9 TX9 9, w ∈ wsX9_removeStage := by decide +kernel
set_option maxRecDepth 20000 in
theorem q_X9_removeStage_1 : Cond.fieldLink RX9 10 "StageTruths" "state" "LStageTruths$State;" ∈ wsX9_removeStage := by decide +kernel
set_option maxRecDepth 20000 in
theorem qi_X9_removeStage_X7 : ∀ w ∈ u_ws RX7 TX7 7, w ∈ wsX9_removeStage := by decide +kernel
set_option maxRecDepth 20000 in
theorem q_X9_removeStage_3 : Cond.fieldLink RX9 61 "StageTruths$State" "stages" "I" ∈ wsX9_removeStage := by decide +kernel
noncomputable def f_X9_removeStage (v0 : Nat) (v1 : Int32) (f : mmF) : Option (Int32 × mmF) :=
  (ldR f v0 9 0).bind fun x1 =>
  (ckO f x1 7).bind fun _ =>
  (f_X7_isStage x1 v1 f).bind fun q5 =>
  if q5 = 0 then
  (some ((-1 : Int32), f))
  else
  (ldR f v0 9 0).bind fun x14 =>
  (ldI f x14 7 0).bind fun x17 =>
  if (1 : Int32) < x17 then
  ((ckO f v0 9).bind fun _ =>
  (f_X9_record v0 f).bind fun q28 =>
  (ldR q28 v0 9 0).bind fun x32 =>
  (ckO q28 x32 7).bind fun _ =>
  (f_X7_takeOut x32 v1 q28).bind fun q36 =>
  (ldR q36 v0 9 0).bind fun x40 =>
  (ldI q36 x40 7 0).bind fun x43 =>
  some (x43, q36))
  else
  some ((-4 : Int32), f)
section S_X9_removeStage
variable {p : Program} {l : Launch} {e : Env} {s : State} {m : MethodId} {args : Array Value} {below : List Frame} {meth : Method} {c : Code} {D : mmD} {b0 sz : Nat} {f : mmF}
set_option maxHeartbeats 4000000 in
set_option maxRecDepth 100000 in
theorem w_X9_removeStage (C0 : CX cX9_removeStage 2 (some .int) wsX9_removeStage RX9 p s m args meth c D b0) {v0 : Nat} {v1 : Int32} {res : Int32 × mmF} (h : f_X9_removeStage v0 v1 f = some res) : ∀ (H : Heap) (locs : List Loc) (ls : Array Slot), MM vwCl D b0 f sz s H → mS b0 s H locs → lv_has ls 2 [(0, .ref v0), (1, .int v1)] → W p l e ({ frames := 2, cells := 0, slots := 0, locals := 44 } : Room) s m args below meth c H locs 0 0 (MQ below (QW D b0 (some (.int res.1)) res.2 sz) args s 0 0 (fun q => b0 ≤ q)) (F0 m 0 ls []) := by
  obtain ⟨hx, hb, hr, hml, hown, hts, hlocks, hK⟩ := id C0
  intro H locs ls hM hS hl
  unfold f_X9_removeStage at h
  refine lv_aload_n hx hb dX9_removeStage_0 rfl (lv_at hl 0 rfl) ?_
  replace h := o_b h; obtain ⟨x1, h1, h⟩ := h
  refine m_get (C := RX9) (T := TX9) (N := 9) (ci := 9) hx hb hts qi_X9_removeStage_X9 hown hK.1 hM 0 (ldR_F h1) rfl (by decide) (hts _ q_X9_removeStage_1) (fun _ h9 => h9) dX9_removeStage_1 ?_
  refine lv_iload_n hx hb dX9_removeStage_4 rfl (lv_at hl 1 rfl) ?_
  replace h := o_b h; obtain ⟨_, k5, h⟩ := h
  replace h := o_b h; obtain ⟨q5, h5, h⟩ := h
  refine m_call (va_runV (As := [.int v1]) (rest := []) ⟨hx, hb, hml, hown, hts⟩ (c_X7_isStage l D b0 sz h5) (cwV 1 hts gX9_removeStage_X7_isStage rfl rfl rfl (by decide +kernel) ⟨Nat.le_of_ble_eq_true rfl, Nat.le_of_ble_eq_true rfl⟩) ⟨PW.blind, m_recv (ci := 7) rfl hK hM k5, (fun U hU hW => ⟨rfl, PW.call hK hM hS hU hW⟩)⟩ rfl rfl hl.1 rfl (lv_room (Nat.le_of_ble_eq_true rfl)) dX9_removeStage_5 ⟨(Nat.le_refl _), (Nat.le_refl _)⟩) hS (fun H locs hM hS => ?_)
  refine lv_if_ne (tgt := 13) hx hb dX9_removeStage_8 (by decide) (fun c8 => ?_) (fun c8 => ?_)
  · replace h := o_f c8 h
    refine lv_aload_n hx hb dX9_removeStage_13 rfl (lv_at hl 0 rfl) ?_
    replace h := o_b h; obtain ⟨x14, h14, h⟩ := h
    refine m_get (C := RX9) (T := TX9) (N := 9) (ci := 9) hx hb hts qi_X9_removeStage_X9 hown hK.1 hM 0 (ldR_F h14) rfl (by decide) (hts _ q_X9_removeStage_1) (fun _ h9 => h9) dX9_removeStage_14 ?_
    replace h := o_b h; obtain ⟨x17, h17, h⟩ := h
    refine m_get (C := RX7) (T := TX7) (N := 7) (ci := 7) hx hb hts qi_X9_removeStage_X7 hown hK.1 hM 0 (ldI_F h17) rfl (by decide) (hts _ q_X9_removeStage_3) (fun _ h9 => h9) dX9_removeStage_17 ?_
    refine lv_iconst (v := (1 : Int32)) hx hb dX9_removeStage_20 (by decide) ?_
    refine lv_icmp_gt (tgt := 27) hx hb dX9_removeStage_21 (by decide) (fun c21 => ?_) (fun c21 => ?_)
    · replace h := o_t c21 h
      refine lv_aload_n hx hb dX9_removeStage_27 rfl (lv_at hl 0 rfl) ?_
      replace h := o_b h; obtain ⟨_, k28, h⟩ := h
      replace h := o_b h; obtain ⟨q28, h28, h⟩ := h
      refine m_call (va_runV (As := []) (rest := []) ⟨hx, hb, hml, hown, hts⟩ (c_X9_record l D b0 sz h28) (cwV 0 hts gX9_removeStage_X9_record rfl rfl rfl (by decide +kernel) ⟨Nat.le_of_ble_eq_true rfl, Nat.le_of_ble_eq_true rfl⟩) ⟨PW.blind, m_recv (ci := 9) rfl hK hM k28, (fun U hU hW => ⟨rfl, PW.call hK hM hS hU hW⟩)⟩ rfl rfl hl.1 rfl (lv_room (Nat.le_of_ble_eq_true rfl)) dX9_removeStage_28 ⟨(Nat.le_refl _), (Nat.le_refl _)⟩) hS (fun H locs hM hS => ?_)
      refine lv_aload_n hx hb dX9_removeStage_31 rfl (lv_at hl 0 rfl) ?_
      replace h := o_b h; obtain ⟨x32, h32, h⟩ := h
      refine m_get (C := RX9) (T := TX9) (N := 9) (ci := 9) hx hb hts qi_X9_removeStage_X9 hown hK.1 hM 0 (ldR_F h32) rfl (by decide) (hts _ q_X9_removeStage_1) (fun _ h9 => h9) dX9_removeStage_32 ?_
      refine lv_iload_n hx hb dX9_removeStage_35 rfl (lv_at hl 1 rfl) ?_
      replace h := o_b h; obtain ⟨_, k36, h⟩ := h
      replace h := o_b h; obtain ⟨q36, h36, h⟩ := h
      refine m_call (va_runV (As := [.int v1]) (rest := []) ⟨hx, hb, hml, hown, hts⟩ (c_X7_takeOut l D b0 sz h36) (cwV 1 hts gX9_removeStage_X7_takeOut rfl rfl rfl (by decide +kernel) ⟨Nat.le_of_ble_eq_true rfl, Nat.le_of_ble_eq_true rfl⟩) ⟨PW.blind, m_recv (ci := 7) rfl hK hM k36, (fun U hU hW => ⟨rfl, PW.call hK hM hS hU hW⟩)⟩ rfl rfl hl.1 rfl (lv_room (Nat.le_of_ble_eq_true rfl)) dX9_removeStage_36 ⟨(Nat.le_refl _), (Nat.le_refl _)⟩) hS (fun H locs hM hS => ?_)
      refine lv_aload_n hx hb dX9_removeStage_39 rfl (lv_at hl 0 rfl) ?_
      replace h := o_b h; obtain ⟨x40, h40, h⟩ := h
      refine m_get (C := RX9) (T := TX9) (N := 9) (ci := 9) hx hb hts qi_X9_removeStage_X9 hown hK.1 hM 0 (ldR_F h40) rfl (by decide) (hts _ q_X9_removeStage_1) (fun _ h9 => h9) dX9_removeStage_40 ?_
      replace h := o_b h; obtain ⟨x43, h43, h⟩ := h
      refine m_get (C := RX7) (T := TX7) (N := 7) (ci := 7) hx hb hts qi_X9_removeStage_X7 hown hK.1 hM 0 (ldI_F h43) rfl (by decide) (hts _ q_X9_removeStage_3) (fun _ h9 => h9) dX9_removeStage_43 ?_
      replace h := Option.some.inj h; subst h
      exact W.iret hx hb hr (fun t ht hW => ⟨rfl, by rw [ht]; exact hM.moved hW.alike, hS.F ht⟩) hS.2.2 dX9_removeStage_46
    replace h := o_f c21 h
    refine lv_bipush (v := (-4 : Int32)) hx hb dX9_removeStage_24 (by decide) ?_
    replace h := Option.some.inj h; subst h
    exact W.iret hx hb hr (fun t ht hW => ⟨rfl, by rw [ht]; exact hM.moved hW.alike, hS.F ht⟩) hS.2.2 dX9_removeStage_26
  replace h := o_t c8 h
  refine lv_iconst (v := (-1 : Int32)) hx hb dX9_removeStage_11 (by decide) ?_
  replace h := Option.some.inj h; subst h
  exact W.iret hx hb hr (fun t ht hW => ⟨rfl, by rw [ht]; exact hM.moved hW.alike, hS.F ht⟩) hS.2.2 dX9_removeStage_12
set_option maxHeartbeats 4000000 in
set_option maxRecDepth 100000 in
theorem c_X9_removeStage (l : Launch) (D : mmD) (b0 sz : Nat) {v0 : Nat} {v1 : Int32} {f : mmF} {res : Int32 × mmF} (h : f_X9_removeStage v0 v1 f = some res) : Met l yX9_removeStage wsX9_removeStage ({ frames := 2, cells := 0, slots := 0, locals := 44 } : Room) (va_Pc [.ref v0, .int v1] (PW D b0 f sz)) (QW D b0 (some (.int res.1)) res.2 sz) 0 0 (fun q => b0 ≤ q) := by
  refine Met.ofW (cc := cX9_removeStage) (maxL := 2) (ret := (some .int)) (by decide) rfl ?_
  intro p e s m args below meth c s₁ B hml hv
  obtain ⟨rfl, hM, hK⟩ := hv
  have hl := lv_entry ([.ref v0, .int v1]) (n := 2) (Nat.le_of_ble_eq_true rfl)
  rw [lg_entry_eq]
  generalize (lg_sl ([.ref v0, .int v1]) ++ List.replicate (2 - (lg_sl ([.ref v0, .int v1])).length) Slot.unset).toArray = ls at hl ⊢
  have hl : lv_has ls 2 [(0, .ref v0), (1, .int v1)] := hl
  exact w_X9_removeStage ⟨B.exec, B.bytes, B.returns, hml, findClass_of_methodNamed B.named, atoms_spec (ws := wsX9_removeStage) B.pre, B.notSynchronized, hK⟩ h s.heap [] ls hM va_S.rf hl
end S_X9_removeStage
