/-! X10_count -/
set_option maxRecDepth 20000 in
theorem qi_X10_count_X10 : ∀ w ∈ u_ws RX10 TX10 25, w ∈ wsX10_count := by decide +kernel
set_option maxRecDepth 20000 in
theorem q_X10_count_1 : Cond.fieldLink RX10 7 "StageTruthsModel" "now" "[I" ∈ wsX10_count := by decide +kernel
set_option maxRecDepth 20000 in
theorem q_X10_count_2 : Cond.fieldLink RX10 74 "StageTruthsModel" "kept" "I" ∈ wsX10_count := by decide +kernel
set_option maxRecDepth 20000 in
theorem q_X10_count_3 : Cond.fieldLink RX10 119 "StageTruthsModel" "typed" "I" ∈ wsX10_count := by decide +kernel
noncomputable def f_X10_count (v0 : Nat) (v1 : Int32) (f : mmF) : Option (Int32 × mmF) :=
  if v1 = (0 : Int32) then
  ((ldR f v0 10 0).bind fun x53 =>
  (ldA 0 f x53 (16 : Int32)).bind fun x58 =>
  some (x58, f))
  else
  if v1 = (1 : Int32) then
  ((ckO f v0 10).bind fun _ =>
  (f_X10_pairs v0 f).bind fun q61 =>
  some (q61, f))
  else
  if v1 = (2 : Int32) then
  ((ckO f v0 10).bind fun _ =>
  (f_X10_places v0 f).bind fun q66 =>
  (f_X10_bits q66 f).bind fun q69 =>
  some (q69, f))
  else
  if v1 = (3 : Int32) then
  ((ckO f v0 10).bind fun _ =>
  (f_X10_ends v0 (1 : Int32) f).bind fun q75 =>
  some (q75, f))
  else
  if v1 = (4 : Int32) then
  ((ckO f v0 10).bind fun _ =>
  (f_X10_ends v0 (0 : Int32) f).bind fun q81 =>
  some (q81, f))
  else
  if v1 = (5 : Int32) then
  ((ckO f v0 10).bind fun _ =>
  (f_X10_unlike v0 f).bind fun q86 =>
  some (q86.1, q86.2))
  else
  if v1 = (6 : Int32) then
  ((ckO f v0 10).bind fun _ =>
  (f_X10_everywhere v0 f).bind fun q91 =>
  some (q91, f))
  else
  if v1 = (7 : Int32) then
  ((ldI f v0 10 2).bind fun x96 =>
  some (x96, f))
  else
  if v1 = (8 : Int32) then
  ((ldI f v0 10 7).bind fun x101 =>
  some (x101, f))
  else
  some ((-2 : Int32), f)
section S_X10_count
variable {p : Program} {l : Launch} {e : Env} {s : State} {m : MethodId} {args : Array Value} {below : List Frame} {meth : Method} {c : Code} {D : mmD} {b0 sz : Nat} {f : mmF}
set_option maxHeartbeats 4000000 in
set_option maxRecDepth 100000 in
theorem w_X10_count (C0 : CX cX10_count 2 (some .int) wsX10_count RX10 p s m args meth c D b0) {v0 : Nat} {v1 : Int32} {res : Int32 × mmF} (h : f_X10_count v0 v1 f = some res) : ∀ (H : Heap) (locs : List Loc) (ls : Array Slot), MM vwCl D b0 f sz s H → mS b0 s H locs → lv_has ls 2 [(0, .ref v0), (1, .int v1)] → W p l e ({ frames := 4, cells := 0, slots := 0, locals := 91 } : Room) s m args below meth c H locs 0 0 (MQ below (QW D b0 (some (.int res.1)) res.2 sz) args s 0 0 (fun q => b0 ≤ q)) (F0 m 0 ls []) := by
  obtain ⟨hx, hb, hr, hml, hown, hts, hlocks, hK⟩ := id C0
  intro H locs ls hM hS hl
  unfold f_X10_count at h
  refine lv_iload_n hx hb dX10_count_0 rfl (lv_at hl 1 rfl) ?_
  by_cases c1_0 : v1 = (0 : Int32)
  · replace h := o_t c1_0 h
    refine lv_tableIn (tgt := 52) hx hb dX10_count_1 (by rw [c1_0]; decide) (by rw [c1_0]; decide) (by rw [c1_0]; rfl) (by decide) ?_
    refine lv_aload_n hx hb dX10_count_52 rfl (lv_at hl 0 rfl) ?_
    replace h := o_b h; obtain ⟨x53, h53, h⟩ := h
    refine m_get (C := RX10) (T := TX10) (N := 25) (ci := 10) hx hb hts qi_X10_count_X10 hown hK.1 hM 0 (ldR_F h53) rfl (by decide) (hts _ q_X10_count_1) (fun _ h9 => h9) dX10_count_53 ?_
    refine lv_bipush (v := (16 : Int32)) hx hb dX10_count_56 (by decide) ?_
    replace h := o_b h; obtain ⟨x58, h58, h⟩ := h
    refine m_iald hx hb hK.1 hM hS rfl h58 dX10_count_58 ?_
    replace h := Option.some.inj h; subst h
    exact W.iret hx hb hr (fun t ht hW => ⟨rfl, by rw [ht]; exact hM.moved hW.alike, hS.F ht⟩) hS.2.2 dX10_count_59
  replace h := o_f c1_0 h
  by_cases c1_1 : v1 = (1 : Int32)
  · replace h := o_t c1_1 h
    refine lv_tableIn (tgt := 60) hx hb dX10_count_1 (by rw [c1_1]; decide) (by rw [c1_1]; decide) (by rw [c1_1]; rfl) (by decide) ?_
    refine lv_aload_n hx hb dX10_count_60 rfl (lv_at hl 0 rfl) ?_
    replace h := o_b h; obtain ⟨_, k61, h⟩ := h
    replace h := o_b h; obtain ⟨q61, h61, h⟩ := h
    refine m_call (va_runV (As := []) (rest := []) ⟨hx, hb, hml, hown, hts⟩ (c_X10_pairs l D b0 sz h61) (cwV 0 hts gX10_count_X10_pairs rfl rfl rfl (by decide +kernel) ⟨Nat.le_of_ble_eq_true rfl, Nat.le_of_ble_eq_true rfl⟩) ⟨PW.blind, m_recv (ci := 10) rfl hK hM k61, (fun U hU hW => ⟨rfl, PW.call hK hM hS hU hW⟩)⟩ rfl rfl hl.1 rfl (lv_room (Nat.le_of_ble_eq_true rfl)) dX10_count_61 ⟨(Nat.le_refl _), (Nat.le_refl _)⟩) hS (fun H locs hM hS => ?_)
    replace h := Option.some.inj h; subst h
    exact W.iret hx hb hr (fun t ht hW => ⟨rfl, by rw [ht]; exact hM.moved hW.alike, hS.F ht⟩) hS.2.2 dX10_count_64
  replace h := o_f c1_1 h
  by_cases c1_2 : v1 = (2 : Int32)
  · replace h := o_t c1_2 h
    refine lv_tableIn (tgt := 65) hx hb dX10_count_1 (by rw [c1_2]; decide) (by rw [c1_2]; decide) (by rw [c1_2]; rfl) (by decide) ?_
    refine lv_aload_n hx hb dX10_count_65 rfl (lv_at hl 0 rfl) ?_
    replace h := o_b h; obtain ⟨_, k66, h⟩ := h
    replace h := o_b h; obtain ⟨q66, h66, h⟩ := h
    refine m_call (va_runV (As := []) (rest := []) ⟨hx, hb, hml, hown, hts⟩ (c_X10_places l D b0 sz h66) (cwV 0 hts gX10_count_X10_places rfl rfl rfl (by decide +kernel) ⟨Nat.le_of_ble_eq_true rfl, Nat.le_of_ble_eq_true rfl⟩) ⟨PW.blind, m_recv (ci := 10) rfl hK hM k66, (fun U hU hW => ⟨rfl, PW.call hK hM hS hU hW⟩)⟩ rfl rfl hl.1 rfl (lv_room (Nat.le_of_ble_eq_true rfl)) dX10_count_66 ⟨(Nat.le_refl _), (Nat.le_refl _)⟩) hS (fun H locs hM hS => ?_)
    replace h := o_b h; obtain ⟨q69, h69, h⟩ := h
    refine m_call (va_runS (As := [.int q66]) (rest := []) ⟨hx, hb, hml, hown, hts⟩ (c_X10_bits l D b0 sz h69) (va_cwS 1 hts gX10_count_X10_bits rfl rfl rfl (by decide +kernel) ⟨Nat.le_of_ble_eq_true rfl, Nat.le_of_ble_eq_true rfl⟩) ⟨PW.blind, (fun U hU hW => ⟨rfl, PW.call hK hM hS hU hW⟩)⟩ rfl rfl hl.1 rfl (lv_room (Nat.le_of_ble_eq_true rfl)) dX10_count_69 ⟨(Nat.le_refl _), (Nat.le_refl _)⟩) hS (fun H locs hM hS => ?_)
    replace h := Option.some.inj h; subst h
    exact W.iret hx hb hr (fun t ht hW => ⟨rfl, by rw [ht]; exact hM.moved hW.alike, hS.F ht⟩) hS.2.2 dX10_count_72
  replace h := o_f c1_2 h
  by_cases c1_3 : v1 = (3 : Int32)
  · replace h := o_t c1_3 h
    refine lv_tableIn (tgt := 73) hx hb dX10_count_1 (by rw [c1_3]; decide) (by rw [c1_3]; decide) (by rw [c1_3]; rfl) (by decide) ?_
    refine lv_aload_n hx hb dX10_count_73 rfl (lv_at hl 0 rfl) ?_
    refine lv_iconst (v := (1 : Int32)) hx hb dX10_count_74 (by decide) ?_
    replace h := o_b h; obtain ⟨_, k75, h⟩ := h
    replace h := o_b h; obtain ⟨q75, h75, h⟩ := h
    refine m_call (va_runV (As := [.int (1 : Int32)]) (rest := []) ⟨hx, hb, hml, hown, hts⟩ (c_X10_ends l D b0 sz h75) (cwV 1 hts gX10_count_X10_ends rfl rfl rfl (by decide +kernel) ⟨Nat.le_of_ble_eq_true rfl, Nat.le_of_ble_eq_true rfl⟩) ⟨PW.blind, m_recv (ci := 10) rfl hK hM k75, (fun U hU hW => ⟨rfl, PW.call hK hM hS hU hW⟩)⟩ rfl rfl hl.1 rfl (lv_room (Nat.le_of_ble_eq_true rfl)) dX10_count_75 ⟨(Nat.le_refl _), (Nat.le_refl _)⟩) hS (fun H locs hM hS => ?_)
    replace h := Option.some.inj h; subst h
    exact W.iret hx hb hr (fun t ht hW => ⟨rfl, by rw [ht]; exact hM.moved hW.alike, hS.F ht⟩) hS.2.2 dX10_count_78
  replace h := o_f c1_3 h
  by_cases c1_4 : v1 = (4 : Int32)
  · replace h := o_t c1_4 h
    refine lv_tableIn (tgt := 79) hx hb dX10_count_1 (by rw [c1_4]; decide) (by rw [c1_4]; decide) (by rw [c1_4]; rfl) (by decide) ?_
    refine lv_aload_n hx hb dX10_count_79 rfl (lv_at hl 0 rfl) ?_
    refine lv_iconst (v := (0 : Int32)) hx hb dX10_count_80 (by decide) ?_
    replace h := o_b h; obtain ⟨_, k81, h⟩ := h
    replace h := o_b h; obtain ⟨q81, h81, h⟩ := h
    refine m_call (va_runV (As := [.int (0 : Int32)]) (rest := []) ⟨hx, hb, hml, hown, hts⟩ (c_X10_ends l D b0 sz h81) (cwV 1 hts gX10_count_X10_ends rfl rfl rfl (by decide +kernel) ⟨Nat.le_of_ble_eq_true rfl, Nat.le_of_ble_eq_true rfl⟩) ⟨PW.blind, m_recv (ci := 10) rfl hK hM k81, (fun U hU hW => ⟨rfl, PW.call hK hM hS hU hW⟩)⟩ rfl rfl hl.1 rfl (lv_room (Nat.le_of_ble_eq_true rfl)) dX10_count_81 ⟨(Nat.le_refl _), (Nat.le_refl _)⟩) hS (fun H locs hM hS => ?_)
    replace h := Option.some.inj h; subst h
    exact W.iret hx hb hr (fun t ht hW => ⟨rfl, by rw [ht]; exact hM.moved hW.alike, hS.F ht⟩) hS.2.2 dX10_count_84
  replace h := o_f c1_4 h
  by_cases c1_5 : v1 = (5 : Int32)
  · replace h := o_t c1_5 h
    refine lv_tableIn (tgt := 85) hx hb dX10_count_1 (by rw [c1_5]; decide) (by rw [c1_5]; decide) (by rw [c1_5]; rfl) (by decide) ?_
    refine lv_aload_n hx hb dX10_count_85 rfl (lv_at hl 0 rfl) ?_
    replace h := o_b h; obtain ⟨_, k86, h⟩ := h
    replace h := o_b h; obtain ⟨q86, h86, h⟩ := h
    refine m_call (va_runV (As := []) (rest := []) ⟨hx, hb, hml, hown, hts⟩ (c_X10_unlike l D b0 sz h86) (cwV 0 hts gX10_count_X10_unlike rfl rfl rfl (by decide +kernel) ⟨Nat.le_of_ble_eq_true rfl, Nat.le_of_ble_eq_true rfl⟩) ⟨PW.blind, m_recv (ci := 10) rfl hK hM k86, (fun U hU hW => ⟨rfl, PW.call hK hM hS hU hW⟩)⟩ rfl rfl hl.1 rfl (lv_room (Nat.le_of_ble_eq_true rfl)) dX10_count_86 ⟨(Nat.le_refl _), (Nat.le_refl _)⟩) hS (fun H locs hM hS => ?_)
    replace h := Option.some.inj h; subst h
    exact W.iret hx hb hr (fun t ht hW => ⟨rfl, by rw [ht]; exact hM.moved hW.alike, hS.F ht⟩) hS.2.2 dX10_count_89
  replace h := o_f c1_5 h
  by_cases c1_6 : v1 = (6 : Int32)
  · replace h := o_t c1_6 h
    refine lv_tableIn (tgt := 90) hx hb dX10_count_1 (by rw [c1_6]; decide) (by rw [c1_6]; decide) (by rw [c1_6]; rfl) (by decide) ?_
    refine lv_aload_n hx hb dX10_count_90 rfl (lv_at hl 0 rfl) ?_
    replace h := o_b h; obtain ⟨_, k91, h⟩ := h
    replace h := o_b h; obtain ⟨q91, h91, h⟩ := h
    refine m_call (va_runV (As := []) (rest := []) ⟨hx, hb, hml, hown, hts⟩ (c_X10_everywhere l D b0 sz h91) (cwV 0 hts gX10_count_X10_everywhere rfl rfl rfl (by decide +kernel) ⟨Nat.le_of_ble_eq_true rfl, Nat.le_of_ble_eq_true rfl⟩) ⟨PW.blind, m_recv (ci := 10) rfl hK hM k91, (fun U hU hW => ⟨rfl, PW.call hK hM hS hU hW⟩)⟩ rfl rfl hl.1 rfl (lv_room (Nat.le_of_ble_eq_true rfl)) dX10_count_91 ⟨(Nat.le_refl _), (Nat.le_refl _)⟩) hS (fun H locs hM hS => ?_)
    replace h := Option.some.inj h; subst h
    exact W.iret hx hb hr (fun t ht hW => ⟨rfl, by rw [ht]; exact hM.moved hW.alike, hS.F ht⟩) hS.2.2 dX10_count_94
  replace h := o_f c1_6 h
  by_cases c1_7 : v1 = (7 : Int32)
  · replace h := o_t c1_7 h
    refine lv_tableIn (tgt := 95) hx hb dX10_count_1 (by rw [c1_7]; decide) (by rw [c1_7]; decide) (by rw [c1_7]; rfl) (by decide) ?_
    refine lv_aload_n hx hb dX10_count_95 rfl (lv_at hl 0 rfl) ?_
    replace h := o_b h; obtain ⟨x96, h96, h⟩ := h
    refine m_get (C := RX10) (T := TX10) (N := 25) (ci := 10) hx hb hts qi_X10_count_X10 hown hK.1 hM 2 (ldI_F h96) rfl (by decide) (hts _ q_X10_count_2) (fun _ h9 => h9) dX10_count_96 ?_
    replace h := Option.some.inj h; subst h
    exact W.iret hx hb hr (fun t ht hW => ⟨rfl, by rw [ht]; exact hM.moved hW.alike, hS.F ht⟩) hS.2.2 dX10_count_99
  replace h := o_f c1_7 h
  by_cases c1_8 : v1 = (8 : Int32)
  · replace h := o_t c1_8 h
    refine lv_tableIn (tgt := 100) hx hb dX10_count_1 (by rw [c1_8]; decide) (by rw [c1_8]; decide) (by rw [c1_8]; rfl) (by decide) ?_
    refine lv_aload_n hx hb dX10_count_100 rfl (lv_at hl 0 rfl) ?_
    replace h := o_b h; obtain ⟨x101, h101, h⟩ := h
    refine m_get (C := RX10) (T := TX10) (N := 25) (ci := 10) hx hb hts qi_X10_count_X10 hown hK.1 hM 7 (ldI_F h101) rfl (by decide) (hts _ q_X10_count_3) (fun _ h9 => h9) dX10_count_101 ?_
    replace h := Option.some.inj h; subst h
    exact W.iret hx hb hr (fun t ht hW => ⟨rfl, by rw [ht]; exact hM.moved hW.alike, hS.F ht⟩) hS.2.2 dX10_count_104
  replace h := o_f c1_8 h
  refine lv_tableOut (tgt := 105) hx hb dX10_count_1 (by have n0 := lv_neT c1_0 (a := 0) (by decide); have n1 := lv_neT c1_1 (a := 1) (by decide); have n2 := lv_neT c1_2 (a := 2) (by decide); have n3 := lv_neT c1_3 (a := 3) (by decide); have n4 := lv_neT c1_4 (a := 4) (by decide); have n5 := lv_neT c1_5 (a := 5) (by decide); have n6 := lv_neT c1_6 (a := 6) (by decide); have n7 := lv_neT c1_7 (a := 7) (by decide); have n8 := lv_neT c1_8 (a := 8) (by decide); omega) (by decide) ?_
  refine lv_bipush (v := (-2 : Int32)) hx hb dX10_count_105 (by decide) ?_
  replace h := Option.some.inj h; subst h
  exact W.iret hx hb hr (fun t ht hW => ⟨rfl, by rw [ht]; exact hM.moved hW.alike, hS.F ht⟩) hS.2.2 dX10_count_107
set_option maxHeartbeats 4000000 in
set_option maxRecDepth 100000 in
theorem c_X10_count (l : Launch) (D : mmD) (b0 sz : Nat) {v0 : Nat} {v1 : Int32} {f : mmF} {res : Int32 × mmF} (h : f_X10_count v0 v1 f = some res) : Met l yX10_count wsX10_count ({ frames := 4, cells := 0, slots := 0, locals := 91 } : Room) (va_Pc [.ref v0, .int v1] (PW D b0 f sz)) (QW D b0 (some (.int res.1)) res.2 sz) 0 0 (fun q => b0 ≤ q) := by
  refine Met.ofW (cc := cX10_count) (maxL := 2) (ret := (some .int)) (by decide) rfl ?_
  intro p e s m args below meth c s₁ B hml hv
  obtain ⟨rfl, hM, hK⟩ := hv
  have hl := lv_entry ([.ref v0, .int v1]) (n := 2) (Nat.le_of_ble_eq_true rfl)
  rw [lg_entry_eq]
  generalize (lg_sl ([.ref v0, .int v1]) ++ List.replicate (2 - (lg_sl ([.ref v0, .int v1])).length) Slot.unset).toArray = ls at hl ⊢
  have hl : lv_has ls 2 [(0, .ref v0), (1, .int v1)] := hl
  exact w_X10_count ⟨B.exec, B.bytes, B.returns, hml, findClass_of_methodNamed B.named, atoms_spec (ws := wsX10_count) B.pre, B.notSynchronized, hK⟩ h s.heap [] ls hM va_S.rf hl
end S_X10_count
