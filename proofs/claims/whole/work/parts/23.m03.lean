/-! X5_init -/
set_option maxRecDepth 20000 in
theorem q_X5_init_0 : Cond.methodLink RX5 5 objectInit ∈ wsX5_init := by decide +kernel
set_option maxRecDepth 20000 in
theorem q_X5_init_1 : Cond.instanceMethod objectInit ∈ wsX5_init := by decide +kernel
set_option maxRecDepth 20000 in
theorem q_X5_init_2 : Cond.code objectInit ⟨#[0xb1]⟩ 1 none ∈ wsX5_init := by decide +kernel
set_option maxRecDepth 20000 in
theorem qi_X5_init_X6 : ∀ w ∈ u_ws RX6 TX6 5, w ∈ wsX5_init := by decide +kernel
set_option maxRecDepth 20000 in
theorem q_X5_init_4 : Cond.classLink RX5 11 RX6 ∈ wsX5_init := by decide +kernel
set_option maxRecDepth 20000 in
theorem q_X5_init_5 : Cond.instantiable RX6 5 ∈ wsX5_init := by decide +kernel
set_option maxRecDepth 20000 in
theorem q_X5_init_6 : Cond.initialized RX6 ∈ wsX5_init := by decide +kernel
set_option maxRecDepth 20000 in
theorem q_X5_init_7 : Cond.methodLink RX5 13 yX6_init ∈ wsX5_init := by decide +kernel
set_option maxRecDepth 20000 in
theorem q_X5_init_8 : Cond.instanceMethod yX6_init ∈ wsX5_init := by decide +kernel
set_option maxRecDepth 20000 in
theorem qi_X5_init_X5 : ∀ w ∈ u_ws RX5 TX5 10, w ∈ wsX5_init := by decide +kernel
set_option maxRecDepth 20000 in
theorem q_X5_init_10 : Cond.fieldLink RX5 14 "StageTruths$Proof" "models" "LStageTruths$SmallModels;" ∈ wsX5_init := by decide +kernel
set_option maxRecDepth 20000 in
theorem q_X5_init_11 : Cond.fieldLink RX5 20 "StageTruths$SmallModels" "parts" "LStageTruths$Parts;" ∈ wsX5_init := by decide +kernel
set_option maxRecDepth 20000 in
theorem q_X5_init_12 : Cond.fieldLink RX5 24 "StageTruths$Proof" "parts" "LStageTruths$Parts;" ∈ wsX5_init := by decide +kernel
set_option maxRecDepth 20000 in
theorem qi_X5_init_X2 : ∀ w ∈ u_ws RX2 TX2 5, w ∈ wsX5_init := by decide +kernel
set_option maxRecDepth 20000 in
theorem q_X5_init_14 : Cond.classLink RX5 25 RX2 ∈ wsX5_init := by decide +kernel
set_option maxRecDepth 20000 in
theorem q_X5_init_15 : Cond.instantiable RX2 5 ∈ wsX5_init := by decide +kernel
set_option maxRecDepth 20000 in
theorem q_X5_init_16 : Cond.initialized RX2 ∈ wsX5_init := by decide +kernel
set_option maxRecDepth 20000 in
theorem q_X5_init_17 : Cond.methodLink RX5 27 yX2_init ∈ wsX5_init := by decide +kernel
set_option maxRecDepth 20000 in
theorem q_X5_init_18 : Cond.instanceMethod yX2_init ∈ wsX5_init := by decide +kernel
set_option maxRecDepth 20000 in
theorem q_X5_init_19 : Cond.fieldLink RX5 30 "StageTruths$Proof" "known" "LStageTruths$Known;" ∈ wsX5_init := by decide +kernel
set_option maxRecDepth 20000 in
theorem q_X5_init_20 : Cond.arrayClass .int ∈ wsX5_init := by decide +kernel
set_option maxRecDepth 20000 in
theorem q_X5_init_21 : Cond.fieldLink RX5 34 "StageTruths$Proof" "starts" "[I" ∈ wsX5_init := by decide +kernel
set_option maxRecDepth 20000 in
theorem qi_X5_init_X3 : ∀ w ∈ u_ws RX3 TX3 1, w ∈ wsX5_init := by decide +kernel
set_option maxRecDepth 20000 in
theorem q_X5_init_23 : Cond.classLink RX5 38 RX3 ∈ wsX5_init := by decide +kernel
set_option maxRecDepth 20000 in
theorem q_X5_init_24 : Cond.instantiable RX3 1 ∈ wsX5_init := by decide +kernel
set_option maxRecDepth 20000 in
theorem q_X5_init_25 : Cond.initialized RX3 ∈ wsX5_init := by decide +kernel
set_option maxRecDepth 20000 in
theorem q_X5_init_26 : Cond.methodLink RX5 40 yX3_init ∈ wsX5_init := by decide +kernel
set_option maxRecDepth 20000 in
theorem q_X5_init_27 : Cond.instanceMethod yX3_init ∈ wsX5_init := by decide +kernel
set_option maxRecDepth 20000 in
theorem q_X5_init_28 : Cond.fieldLink RX5 43 "StageTruths$Proof" "used" "LStageTruths$PartSets;" ∈ wsX5_init := by decide +kernel
set_option maxRecDepth 20000 in
theorem q_X5_init_29 : Cond.fieldLink RX5 47 "StageTruths$Proof" "doubted" "LStageTruths$PartSets;" ∈ wsX5_init := by decide +kernel
set_option maxRecDepth 20000 in
theorem q_X5_init_30 : Cond.fieldLink RX5 50 "StageTruths$Proof" "found" "LStageTruths$PartSets;" ∈ wsX5_init := by decide +kernel
set_option maxRecDepth 20000 in
theorem q_X5_init_31 : Cond.fieldLink RX5 53 "StageTruths$Proof" "singles" "[I" ∈ wsX5_init := by decide +kernel
set_option maxRecDepth 20000 in
theorem qi_X5_init_X1 : ∀ w ∈ u_ws RX1 TX1 4, w ∈ wsX5_init := by decide +kernel
set_option maxRecDepth 20000 in
theorem q_X5_init_33 : Cond.classLink RX5 56 RX1 ∈ wsX5_init := by decide +kernel
set_option maxRecDepth 20000 in
theorem q_X5_init_34 : Cond.instantiable RX1 4 ∈ wsX5_init := by decide +kernel
set_option maxRecDepth 20000 in
theorem q_X5_init_35 : Cond.initialized RX1 ∈ wsX5_init := by decide +kernel
set_option maxRecDepth 20000 in
theorem q_X5_init_36 : Cond.instanceMethod yX1_init ∈ wsX5_init := by decide +kernel
set_option maxRecDepth 20000 in
theorem q_X5_init_37 : Cond.fieldLink RX5 59 "StageTruths$Proof" "met" "LStageTruths$Findings;" ∈ wsX5_init := by decide +kernel
set_option maxRecDepth 20000 in
theorem q_X5_init_38 : Cond.fieldLink RX5 63 "StageTruths$Proof" "proved" "LStageTruths$Findings;" ∈ wsX5_init := by decide +kernel
noncomputable def f_X5_init (v0 : Nat) (f : mmF) (sz : Nat) : Option (mmF × Nat) :=
  (some (va_up f sz (some (.inr (6, [.null, .null, .null, .null, .null]))))).bind fun f5 =>
  (f_X6_init sz f5 (sz + 1)).bind fun q9 =>
  (stF q9.1 v0 5 0 (.ref sz)).bind fun f12 =>
  (ldR f12 v0 5 0).bind fun x17 =>
  (ldR f12 x17 6 0).bind fun x20 =>
  (stF f12 v0 5 1 (.ref x20)).bind fun f23 =>
  (some (va_up f23 q9.2 (some (.inr (2, [.int 0, .null, .null, .null, .null]))))).bind fun f27 =>
  (ldR f27 v0 5 1).bind fun x32 =>
  (f_X2_init q9.2 x32 f27 (q9.2 + 1)).bind fun q35 =>
  (stF q35.1 v0 5 2 (.ref q9.2)).bind fun f38 =>
  (some (va_up f38 q35.2 (some (.inl (0, 153, .inl (fun _ => 0)))))).bind fun f45 =>
  (stF f45 v0 5 3 (.ref q35.2)).bind fun f47 =>
  (some (va_up f47 (q35.2 + 1) (some (.inr (3, [.null]))))).bind fun f51 =>
  (f_X3_init (q35.2 + 1) (153 : Int32) f51 ((q35.2 + 1) + 1)).bind fun q58 =>
  (stF q58.1 v0 5 4 (.ref (q35.2 + 1))).bind fun f61 =>
  (some (va_up f61 q58.2 (some (.inr (3, [.null]))))).bind fun f65 =>
  (f_X3_init q58.2 (153 : Int32) f65 (q58.2 + 1)).bind fun q72 =>
  (stF q72.1 v0 5 5 (.ref q58.2)).bind fun f75 =>
  (some (va_up f75 q72.2 (some (.inr (3, [.null]))))).bind fun f79 =>
  (f_X3_init q72.2 (153 : Int32) f79 (q72.2 + 1)).bind fun q86 =>
  (stF q86.1 v0 5 6 (.ref q72.2)).bind fun f89 =>
  (some (va_up f89 q86.2 (some (.inl (0, 153, .inl (fun _ => 0)))))).bind fun f96 =>
  (stF f96 v0 5 7 (.ref q86.2)).bind fun f98 =>
  (some (va_up f98 (q86.2 + 1) (some (.inr (1, [.int 0, .null, .null, .int 0]))))).bind fun f102 =>
  (f_X1_init (q86.2 + 1) f102 ((q86.2 + 1) + 1)).bind fun q106 =>
  (stF q106.1 v0 5 8 (.ref (q86.2 + 1))).bind fun f109 =>
  (some (va_up f109 q106.2 (some (.inr (1, [.int 0, .null, .null, .int 0]))))).bind fun f113 =>
  (f_X1_init q106.2 f113 (q106.2 + 1)).bind fun q117 =>
  (stF q117.1 v0 5 9 (.ref q106.2)).bind fun f120 =>
  some (f120, q117.2)
section S_X5_init
variable {p : Program} {l : Launch} {e : Env} {s : State} {m : MethodId} {args : Array Value} {below : List Frame} {meth : Method} {c : Code} {D : mmD} {b0 sz : Nat} {f : mmF}
set_option maxHeartbeats 4000000 in
set_option maxRecDepth 100000 in
theorem w_X5_init (C0 : CX cX5_init 1 none wsX5_init RX5 p s m args meth c D b0) (hin : meth.name = "<init>") {v0 : Nat} {res : mmF × Nat} (h : f_X5_init v0 f sz = some res) : ∀ (H : Heap) (locs : List Loc) (ls : Array Slot), MM vwCl D b0 f sz s H → mS b0 s H locs → lv_has ls 1 [(0, .ref v0)] → W p l e ({ frames := 3, cells := 34, slots := 5202, locals := 66 } : Room) s m args below meth c H locs 0 0 (MQ below (QW D b0 none res.1 res.2) args s 34 5202 (fun q => b0 ≤ q)) (F0 m 0 ls []) := by
  obtain ⟨hx, hb, hr, hml, hown, hts, hlocks, hK⟩ := id C0
  intro H locs ls hM hS hl
  unfold f_X5_init at h
  refine lv_aload_n hx hb dX5_init_0 rfl (lv_at hl 0 rfl) ?_
  refine W.objInit hx hb hown (hts _ q_X5_init_0) (hts _ q_X5_init_1) (hts _ q_X5_init_2) rfl (by rw [hml]; exact hl.1) rfl dX5_init_1 (Nat.le_of_ble_eq_true rfl) (Nat.le_of_ble_eq_true rfl) ?_
  refine lv_aload_n hx hb dX5_init_4 rfl (lv_at hl 0 rfl) ?_
  refine m_new (ci := 6) (fs := [.null, .null, .null, .null, .null]) (C := RX6) (T := TX6) (N := 5) hx hb hts qi_X5_init_X6 tyX6 tyX6_ok hown (hts _ q_X5_init_4) (hts _ q_X5_init_5) (hts _ q_X5_init_6) hK.1 hM hS rfl (fun j hj => by match j, hj with | 0, _ => rfl | 1, _ => rfl | 2, _ => rfl | 3, _ => rfl | 4, _ => rfl | j + 5, hj => exact absurd hj (by omega)) (Nat.le_of_ble_eq_true rfl) (Nat.le_of_ble_eq_true rfl) dX5_init_5 (fun H hM hS => ?_)
  replace h := o_b h; obtain ⟨f5, h5, h⟩ := h
  replace h5 := Option.some.inj h5
  subst h5
  refine lv_dup hx hb dX5_init_8 rfl ?_
  replace h := o_b h; obtain ⟨q9, h9, h⟩ := h
  refine m_call (va_runI (As := []) (rest := [.ref sz, .ref v0]) ⟨hx, hb, hml, hown, hts⟩ (c_X6_init l D b0 (sz + 1) h9) (cwI 0 hts gX5_init_X6_init rfl rfl rfl (hts _ q_X5_init_6) (hts _ q_X5_init_7) (hts _ q_X5_init_8) rfl (by decide +kernel) ⟨Nat.le_of_ble_eq_true rfl, Nat.le_of_ble_eq_true rfl⟩) ⟨PW.blind, (fun U hU hW => ⟨rfl, PW.call hK hM hS hU hW⟩)⟩ rfl rfl hl.1 rfl (lv_room (Nat.le_of_ble_eq_true rfl)) dX5_init_9 ⟨(Nat.le_of_ble_eq_true rfl), (Nat.le_of_ble_eq_true rfl)⟩) hS (fun H locs hM hS => ?_)
  replace h := o_b h; obtain ⟨f12, h12, h⟩ := h
  refine m_putF (ty := (.object "StageTruths$SmallModels")) (C := RX5) (T := TX5) (N := 10) (ci := 5) hx hb hts qi_X5_init_X5 tyX5 tyX5_ok nmX5 hown hK.1 hM hS 0 h12 rfl (by decide) (hts _ q_X5_init_10) (fun _ h9 => h9) rfl hin rfl (by decide +kernel) rfl rfl dX5_init_12 (fun H locs hM hS => ?_)
  refine lv_aload_n hx hb dX5_init_15 rfl (lv_at hl 0 rfl) ?_
  refine lv_aload_n hx hb dX5_init_16 rfl (lv_at hl 0 rfl) ?_
  replace h := o_b h; obtain ⟨x17, h17, h⟩ := h
  refine m_get (C := RX5) (T := TX5) (N := 10) (ci := 5) hx hb hts qi_X5_init_X5 hown hK.1 hM 0 (ldR_F h17) rfl (by decide) (hts _ q_X5_init_10) (fun _ h9 => h9) dX5_init_17 ?_
  replace h := o_b h; obtain ⟨x20, h20, h⟩ := h
  refine m_get (C := RX6) (T := TX6) (N := 5) (ci := 6) hx hb hts qi_X5_init_X6 hown hK.1 hM 0 (ldR_F h20) rfl (by decide) (hts _ q_X5_init_11) (fun _ h9 => h9) dX5_init_20 ?_
  replace h := o_b h; obtain ⟨f23, h23, h⟩ := h
  refine m_putF (ty := (.object "StageTruths$Parts")) (C := RX5) (T := TX5) (N := 10) (ci := 5) hx hb hts qi_X5_init_X5 tyX5 tyX5_ok nmX5 hown hK.1 hM hS 1 h23 rfl (by decide) (hts _ q_X5_init_12) (fun _ h9 => h9) rfl hin rfl (by decide +kernel) rfl rfl dX5_init_23 (fun H locs hM hS => ?_)
  refine lv_aload_n hx hb dX5_init_26 rfl (lv_at hl 0 rfl) ?_
  refine m_new (ci := 2) (fs := [.int 0, .null, .null, .null, .null]) (C := RX2) (T := TX2) (N := 5) hx hb hts qi_X5_init_X2 tyX2 tyX2_ok hown (hts _ q_X5_init_14) (hts _ q_X5_init_15) (hts _ q_X5_init_16) hK.1 hM hS rfl (fun j hj => by match j, hj with | 0, _ => rfl | 1, _ => rfl | 2, _ => rfl | 3, _ => rfl | 4, _ => rfl | j + 5, hj => exact absurd hj (by omega)) (Nat.le_of_ble_eq_true rfl) (Nat.le_of_ble_eq_true rfl) dX5_init_27 (fun H hM hS => ?_)
  replace h := o_b h; obtain ⟨f27, h27, h⟩ := h
  replace h27 := Option.some.inj h27
  subst h27
  refine lv_dup hx hb dX5_init_30 rfl ?_
  refine lv_aload_n hx hb dX5_init_31 rfl (lv_at hl 0 rfl) ?_
  replace h := o_b h; obtain ⟨x32, h32, h⟩ := h
  refine m_get (C := RX5) (T := TX5) (N := 10) (ci := 5) hx hb hts qi_X5_init_X5 hown hK.1 hM 1 (ldR_F h32) rfl (by decide) (hts _ q_X5_init_12) (fun _ h9 => h9) dX5_init_32 ?_
  replace h := o_b h; obtain ⟨q35, h35, h⟩ := h
  refine m_call (va_runI (As := [.ref x32]) (rest := [.ref q9.2, .ref v0]) ⟨hx, hb, hml, hown, hts⟩ (c_X2_init l D b0 (q9.2 + 1) h35) (cwI 1 hts gX5_init_X2_init rfl rfl rfl (hts _ q_X5_init_16) (hts _ q_X5_init_17) (hts _ q_X5_init_18) rfl (by decide +kernel) ⟨Nat.le_of_ble_eq_true rfl, Nat.le_of_ble_eq_true rfl⟩) ⟨PW.blind, (fun U hU hW => ⟨rfl, PW.call hK hM hS hU hW⟩)⟩ rfl rfl hl.1 rfl (lv_room (Nat.le_of_ble_eq_true rfl)) dX5_init_35 ⟨(Nat.le_of_ble_eq_true rfl), (Nat.le_of_ble_eq_true rfl)⟩) hS (fun H locs hM hS => ?_)
  replace h := o_b h; obtain ⟨f38, h38, h⟩ := h
  refine m_putF (ty := (.object "StageTruths$Known")) (C := RX5) (T := TX5) (N := 10) (ci := 5) hx hb hts qi_X5_init_X5 tyX5 tyX5_ok nmX5 hown hK.1 hM hS 2 h38 rfl (by decide) (hts _ q_X5_init_19) (fun _ h9 => h9) rfl hin rfl (by decide +kernel) rfl rfl dX5_init_38 (fun H locs hM hS => ?_)
  refine lv_aload_n hx hb dX5_init_41 rfl (lv_at hl 0 rfl) ?_
  refine lv_sipush (v := (153 : Int32)) hx hb dX5_init_42 (by decide) ?_
  refine m_newa 0 (by decide) hx hb (atype := .int) (N' := 153) (hts _ q_X5_init_20) rfl rfl hK.1 hM hS (y := .inl (fun _ => 0)) (fun _ => rfl) (fun _ => Iff.rfl) (by decide) (by decide) (Nat.le_of_ble_eq_true rfl) (Nat.le_of_ble_eq_true rfl) (Nat.le_of_ble_eq_true rfl) dX5_init_45 (fun H hM hS => ?_)
  replace h := o_b h; obtain ⟨f45, h45, h⟩ := h
  replace h45 := Option.some.inj h45
  subst h45
  replace h := o_b h; obtain ⟨f47, h47, h⟩ := h
  refine m_putF (ty := (.array .int)) (C := RX5) (T := TX5) (N := 10) (ci := 5) hx hb hts qi_X5_init_X5 tyX5 tyX5_ok nmX5 hown hK.1 hM hS 3 h47 rfl (by decide) (hts _ q_X5_init_21) (fun _ h9 => h9) rfl hin rfl (by decide +kernel) rfl rfl dX5_init_47 (fun H locs hM hS => ?_)
  refine lv_aload_n hx hb dX5_init_50 rfl (lv_at hl 0 rfl) ?_
  refine m_new (ci := 3) (fs := [.null]) (C := RX3) (T := TX3) (N := 1) hx hb hts qi_X5_init_X3 tyX3 tyX3_ok hown (hts _ q_X5_init_23) (hts _ q_X5_init_24) (hts _ q_X5_init_25) hK.1 hM hS rfl (fun j hj => by match j, hj with | 0, _ => rfl | j + 1, hj => exact absurd hj (by omega)) (Nat.le_of_ble_eq_true rfl) (Nat.le_of_ble_eq_true rfl) dX5_init_51 (fun H hM hS => ?_)
  replace h := o_b h; obtain ⟨f51, h51, h⟩ := h
  replace h51 := Option.some.inj h51
  subst h51
  refine lv_dup hx hb dX5_init_54 rfl ?_
  refine lv_sipush (v := (153 : Int32)) hx hb dX5_init_55 (by decide) ?_
  replace h := o_b h; obtain ⟨q58, h58, h⟩ := h
  refine m_call (va_runI (As := [.int (153 : Int32)]) (rest := [.ref (q35.2 + 1), .ref v0]) ⟨hx, hb, hml, hown, hts⟩ (c_X3_init l D b0 ((q35.2 + 1) + 1) h58) (cwI 1 hts gX5_init_X3_init rfl rfl rfl (hts _ q_X5_init_25) (hts _ q_X5_init_26) (hts _ q_X5_init_27) rfl (by decide +kernel) ⟨Nat.le_of_ble_eq_true rfl, Nat.le_of_ble_eq_true rfl⟩) ⟨PW.blind, (fun U hU hW => ⟨rfl, PW.call hK hM hS hU hW⟩)⟩ rfl rfl hl.1 rfl (lv_room (Nat.le_of_ble_eq_true rfl)) dX5_init_58 ⟨(Nat.le_of_ble_eq_true rfl), (Nat.le_of_ble_eq_true rfl)⟩) hS (fun H locs hM hS => ?_)
  replace h := o_b h; obtain ⟨f61, h61, h⟩ := h
  refine m_putF (ty := (.object "StageTruths$PartSets")) (C := RX5) (T := TX5) (N := 10) (ci := 5) hx hb hts qi_X5_init_X5 tyX5 tyX5_ok nmX5 hown hK.1 hM hS 4 h61 rfl (by decide) (hts _ q_X5_init_28) (fun _ h9 => h9) rfl hin rfl (by decide +kernel) rfl rfl dX5_init_61 (fun H locs hM hS => ?_)
  refine lv_aload_n hx hb dX5_init_64 rfl (lv_at hl 0 rfl) ?_
  refine m_new (ci := 3) (fs := [.null]) (C := RX3) (T := TX3) (N := 1) hx hb hts qi_X5_init_X3 tyX3 tyX3_ok hown (hts _ q_X5_init_23) (hts _ q_X5_init_24) (hts _ q_X5_init_25) hK.1 hM hS rfl (fun j hj => by match j, hj with | 0, _ => rfl | j + 1, hj => exact absurd hj (by omega)) (Nat.le_of_ble_eq_true rfl) (Nat.le_of_ble_eq_true rfl) dX5_init_65 (fun H hM hS => ?_)
  replace h := o_b h; obtain ⟨f65, h65, h⟩ := h
  replace h65 := Option.some.inj h65
  subst h65
  refine lv_dup hx hb dX5_init_68 rfl ?_
  refine lv_sipush (v := (153 : Int32)) hx hb dX5_init_69 (by decide) ?_
  replace h := o_b h; obtain ⟨q72, h72, h⟩ := h
  refine m_call (va_runI (As := [.int (153 : Int32)]) (rest := [.ref q58.2, .ref v0]) ⟨hx, hb, hml, hown, hts⟩ (c_X3_init l D b0 (q58.2 + 1) h72) (cwI 1 hts gX5_init_X3_init rfl rfl rfl (hts _ q_X5_init_25) (hts _ q_X5_init_26) (hts _ q_X5_init_27) rfl (by decide +kernel) ⟨Nat.le_of_ble_eq_true rfl, Nat.le_of_ble_eq_true rfl⟩) ⟨PW.blind, (fun U hU hW => ⟨rfl, PW.call hK hM hS hU hW⟩)⟩ rfl rfl hl.1 rfl (lv_room (Nat.le_of_ble_eq_true rfl)) dX5_init_72 ⟨(Nat.le_of_ble_eq_true rfl), (Nat.le_of_ble_eq_true rfl)⟩) hS (fun H locs hM hS => ?_)
  replace h := o_b h; obtain ⟨f75, h75, h⟩ := h
  refine m_putF (ty := (.object "StageTruths$PartSets")) (C := RX5) (T := TX5) (N := 10) (ci := 5) hx hb hts qi_X5_init_X5 tyX5 tyX5_ok nmX5 hown hK.1 hM hS 5 h75 rfl (by decide) (hts _ q_X5_init_29) (fun _ h9 => h9) rfl hin rfl (by decide +kernel) rfl rfl dX5_init_75 (fun H locs hM hS => ?_)
  refine lv_aload_n hx hb dX5_init_78 rfl (lv_at hl 0 rfl) ?_
  refine m_new (ci := 3) (fs := [.null]) (C := RX3) (T := TX3) (N := 1) hx hb hts qi_X5_init_X3 tyX3 tyX3_ok hown (hts _ q_X5_init_23) (hts _ q_X5_init_24) (hts _ q_X5_init_25) hK.1 hM hS rfl (fun j hj => by match j, hj with | 0, _ => rfl | j + 1, hj => exact absurd hj (by omega)) (Nat.le_of_ble_eq_true rfl) (Nat.le_of_ble_eq_true rfl) dX5_init_79 (fun H hM hS => ?_)
  replace h := o_b h; obtain ⟨f79, h79, h⟩ := h
  replace h79 := Option.some.inj h79
  subst h79
  refine lv_dup hx hb dX5_init_82 rfl ?_
  refine lv_sipush (v := (153 : Int32)) hx hb dX5_init_83 (by decide) ?_
  replace h := o_b h; obtain ⟨q86, h86, h⟩ := h
  refine m_call (va_runI (As := [.int (153 : Int32)]) (rest := [.ref q72.2, .ref v0]) ⟨hx, hb, hml, hown, hts⟩ (c_X3_init l D b0 (q72.2 + 1) h86) (cwI 1 hts gX5_init_X3_init rfl rfl rfl (hts _ q_X5_init_25) (hts _ q_X5_init_26) (hts _ q_X5_init_27) rfl (by decide +kernel) ⟨Nat.le_of_ble_eq_true rfl, Nat.le_of_ble_eq_true rfl⟩) ⟨PW.blind, (fun U hU hW => ⟨rfl, PW.call hK hM hS hU hW⟩)⟩ rfl rfl hl.1 rfl (lv_room (Nat.le_of_ble_eq_true rfl)) dX5_init_86 ⟨(Nat.le_of_ble_eq_true rfl), (Nat.le_of_ble_eq_true rfl)⟩) hS (fun H locs hM hS => ?_)
  replace h := o_b h; obtain ⟨f89, h89, h⟩ := h
  refine m_putF (ty := (.object "StageTruths$PartSets")) (C := RX5) (T := TX5) (N := 10) (ci := 5) hx hb hts qi_X5_init_X5 tyX5 tyX5_ok nmX5 hown hK.1 hM hS 6 h89 rfl (by decide) (hts _ q_X5_init_30) (fun _ h9 => h9) rfl hin rfl (by decide +kernel) rfl rfl dX5_init_89 (fun H locs hM hS => ?_)
  refine lv_aload_n hx hb dX5_init_92 rfl (lv_at hl 0 rfl) ?_
  refine lv_sipush (v := (153 : Int32)) hx hb dX5_init_93 (by decide) ?_
  refine m_newa 0 (by decide) hx hb (atype := .int) (N' := 153) (hts _ q_X5_init_20) rfl rfl hK.1 hM hS (y := .inl (fun _ => 0)) (fun _ => rfl) (fun _ => Iff.rfl) (by decide) (by decide) (Nat.le_of_ble_eq_true rfl) (Nat.le_of_ble_eq_true rfl) (Nat.le_of_ble_eq_true rfl) dX5_init_96 (fun H hM hS => ?_)
  replace h := o_b h; obtain ⟨f96, h96, h⟩ := h
  replace h96 := Option.some.inj h96
  subst h96
  replace h := o_b h; obtain ⟨f98, h98, h⟩ := h
  refine m_putF (ty := (.array .int)) (C := RX5) (T := TX5) (N := 10) (ci := 5) hx hb hts qi_X5_init_X5 tyX5 tyX5_ok nmX5 hown hK.1 hM hS 7 h98 rfl (by decide) (hts _ q_X5_init_31) (fun _ h9 => h9) rfl hin rfl (by decide +kernel) rfl rfl dX5_init_98 (fun H locs hM hS => ?_)
  refine lv_aload_n hx hb dX5_init_101 rfl (lv_at hl 0 rfl) ?_
  refine m_new (ci := 1) (fs := [.int 0, .null, .null, .int 0]) (C := RX1) (T := TX1) (N := 4) hx hb hts qi_X5_init_X1 tyX1 tyX1_ok hown (hts _ q_X5_init_33) (hts _ q_X5_init_34) (hts _ q_X5_init_35) hK.1 hM hS rfl (fun j hj => by match j, hj with | 0, _ => rfl | 1, _ => rfl | 2, _ => rfl | 3, _ => rfl | j + 4, hj => exact absurd hj (by omega)) (Nat.le_of_ble_eq_true rfl) (Nat.le_of_ble_eq_true rfl) dX5_init_102 (fun H hM hS => ?_)
  replace h := o_b h; obtain ⟨f102, h102, h⟩ := h
  replace h102 := Option.some.inj h102
  subst h102
  refine lv_dup hx hb dX5_init_105 rfl ?_
  replace h := o_b h; obtain ⟨q106, h106, h⟩ := h
  refine m_call (va_runIN (As := []) (rest := [.ref (q86.2 + 1), .ref v0]) ⟨hx, hb, hml, hown, hts⟩ (c_X1_init l D b0 ((q86.2 + 1) + 1) h106) ⟨(va_cnB 0 hts gX5_init_X1_init_n58 rfl rfl rfl (hK.2.1 (RX5, 58, yX1_init, "StageTruths") (by decide)) (hts _ q_X5_init_35) (by decide +kernel) ⟨Nat.le_of_ble_eq_true rfl, Nat.le_of_ble_eq_true rfl⟩), rfl, (hts _ q_X5_init_36)⟩ ⟨PW.blind, (fun U hU hW => ⟨rfl, PW.call hK hM hS hU hW⟩)⟩ rfl rfl hl.1 rfl (lv_room (Nat.le_of_ble_eq_true rfl)) dX5_init_106 ⟨(Nat.le_of_ble_eq_true rfl), (Nat.le_of_ble_eq_true rfl)⟩) hS (fun H locs hM hS => ?_)
  replace h := o_b h; obtain ⟨f109, h109, h⟩ := h
  refine m_putF (ty := (.object "StageTruths$Findings")) (C := RX5) (T := TX5) (N := 10) (ci := 5) hx hb hts qi_X5_init_X5 tyX5 tyX5_ok nmX5 hown hK.1 hM hS 8 h109 rfl (by decide) (hts _ q_X5_init_37) (fun _ h9 => h9) rfl hin rfl (by decide +kernel) rfl rfl dX5_init_109 (fun H locs hM hS => ?_)
  refine lv_aload_n hx hb dX5_init_112 rfl (lv_at hl 0 rfl) ?_
  refine m_new (ci := 1) (fs := [.int 0, .null, .null, .int 0]) (C := RX1) (T := TX1) (N := 4) hx hb hts qi_X5_init_X1 tyX1 tyX1_ok hown (hts _ q_X5_init_33) (hts _ q_X5_init_34) (hts _ q_X5_init_35) hK.1 hM hS rfl (fun j hj => by match j, hj with | 0, _ => rfl | 1, _ => rfl | 2, _ => rfl | 3, _ => rfl | j + 4, hj => exact absurd hj (by omega)) (Nat.le_of_ble_eq_true rfl) (Nat.le_of_ble_eq_true rfl) dX5_init_113 (fun H hM hS => ?_)
  replace h := o_b h; obtain ⟨f113, h113, h⟩ := h
  replace h113 := Option.some.inj h113
  subst h113
  refine lv_dup hx hb dX5_init_116 rfl ?_
  replace h := o_b h; obtain ⟨q117, h117, h⟩ := h
  refine m_call (va_runIN (As := []) (rest := [.ref q106.2, .ref v0]) ⟨hx, hb, hml, hown, hts⟩ (c_X1_init l D b0 (q106.2 + 1) h117) ⟨(va_cnB 0 hts gX5_init_X1_init_n58 rfl rfl rfl (hK.2.1 (RX5, 58, yX1_init, "StageTruths") (by decide)) (hts _ q_X5_init_35) (by decide +kernel) ⟨Nat.le_of_ble_eq_true rfl, Nat.le_of_ble_eq_true rfl⟩), rfl, (hts _ q_X5_init_36)⟩ ⟨PW.blind, (fun U hU hW => ⟨rfl, PW.call hK hM hS hU hW⟩)⟩ rfl rfl hl.1 rfl (lv_room (Nat.le_of_ble_eq_true rfl)) dX5_init_117 ⟨(Nat.le_of_ble_eq_true rfl), (Nat.le_of_ble_eq_true rfl)⟩) hS (fun H locs hM hS => ?_)
  replace h := o_b h; obtain ⟨f120, h120, h⟩ := h
  refine m_putF (ty := (.object "StageTruths$Findings")) (C := RX5) (T := TX5) (N := 10) (ci := 5) hx hb hts qi_X5_init_X5 tyX5 tyX5_ok nmX5 hown hK.1 hM hS 9 h120 rfl (by decide) (hts _ q_X5_init_38) (fun _ h9 => h9) rfl hin rfl (by decide +kernel) rfl rfl dX5_init_120 (fun H locs hM hS => ?_)
  refine W.widen (k := 34) (n := 5202) (Nat.le_of_ble_eq_true rfl) (Nat.le_of_ble_eq_true rfl) ?_
  replace h := Option.some.inj h; subst h
  exact W.vret hx hb hr (fun t ht hW => ⟨rfl, by rw [ht]; exact hM.moved hW.alike, hS.F ht⟩) hS.2.2 dX5_init_123
set_option maxHeartbeats 4000000 in
set_option maxRecDepth 100000 in
theorem c_X5_init (l : Launch) (D : mmD) (b0 sz : Nat) {v0 : Nat} {f : mmF} {res : mmF × Nat} (h : f_X5_init v0 f sz = some res) : Met l yX5_init wsX5_init ({ frames := 3, cells := 34, slots := 5202, locals := 66 } : Room) (va_Pc [.ref v0] (PW D b0 f sz)) (QW D b0 none res.1 res.2) 34 5202 (fun q => b0 ≤ q) := by
  refine Met.ofW (cc := cX5_init) (maxL := 1) (ret := none) (by decide) rfl ?_
  intro p e s m args below meth c s₁ B hml hv
  obtain ⟨rfl, hM, hK⟩ := hv
  have hl := lv_entry ([.ref v0]) (n := 1) (Nat.le_of_ble_eq_true rfl)
  rw [lg_entry_eq]
  generalize (lg_sl ([.ref v0]) ++ List.replicate (1 - (lg_sl ([.ref v0])).length) Slot.unset).toArray = ls at hl ⊢
  have hl : lv_has ls 1 [(0, .ref v0)] := hl
  exact w_X5_init ⟨B.exec, B.bytes, B.returns, hml, findClass_of_methodNamed B.named, atoms_spec (ws := wsX5_init) B.pre, B.notSynchronized, hK⟩ (name_of_methodNamed B.named B.method).1 h s.heap [] ls hM va_S.rf hl
end S_X5_init
/-! X5_startAnew -/
set_option maxRecDepth 20000 in
theorem qi_X5_startAnew_X5 : ∀ w ∈ u_ws RX5 TX5 10, w ∈ wsX5_startAnew := by decide +kernel
set_option maxRecDepth 20000 in
theorem q_X5_startAnew_1 : Cond.fieldLink RX5 59 "StageTruths$Proof" "met" "LStageTruths$Findings;" ∈ wsX5_startAnew := by decide +kernel
set_option maxRecDepth 20000 in
theorem q_X5_startAnew_2 : Cond.fieldLink RX5 63 "StageTruths$Proof" "proved" "LStageTruths$Findings;" ∈ wsX5_startAnew := by decide +kernel
noncomputable def f_X5_startAnew (v0 : Nat) (f : mmF) : Option (mmF) :=
  (ldR f v0 5 8).bind fun x1 =>
  (ckO f x1 1).bind fun _ =>
  (f_X1_clear x1 f).bind fun q4 =>
  (ldR q4 v0 5 9).bind fun x8 =>
  (ckO q4 x8 1).bind fun _ =>
  (f_X1_clear x8 q4).bind fun q11 =>
  some (q11)
section S_X5_startAnew
variable {p : Program} {l : Launch} {e : Env} {s : State} {m : MethodId} {args : Array Value} {below : List Frame} {meth : Method} {c : Code} {D : mmD} {b0 sz : Nat} {f : mmF}
set_option maxHeartbeats 4000000 in
set_option maxRecDepth 100000 in
theorem w_X5_startAnew (C0 : CX cX5_startAnew 1 none wsX5_startAnew RX5 p s m args meth c D b0) {v0 : Nat} {res : mmF} (h : f_X5_startAnew v0 f = some res) : ∀ (H : Heap) (locs : List Loc) (ls : Array Slot), MM vwCl D b0 f sz s H → mS b0 s H locs → lv_has ls 1 [(0, .ref v0)] → W p l e ({ frames := 1, cells := 0, slots := 0, locals := 20 } : Room) s m args below meth c H locs 0 0 (MQ below (QW D b0 none res sz) args s 0 0 (fun q => b0 ≤ q)) (F0 m 0 ls []) := by
  obtain ⟨hx, hb, hr, hml, hown, hts, hlocks, hK⟩ := id C0
  intro H locs ls hM hS hl
  unfold f_X5_startAnew at h
  refine lv_aload_n hx hb dX5_startAnew_0 rfl (lv_at hl 0 rfl) ?_
  replace h := o_b h; obtain ⟨x1, h1, h⟩ := h
  refine m_get (C := RX5) (T := TX5) (N := 10) (ci := 5) hx hb hts qi_X5_startAnew_X5 hown hK.1 hM 8 (ldR_F h1) rfl (by decide) (hts _ q_X5_startAnew_1) (fun _ h9 => h9) dX5_startAnew_1 ?_
  replace h := o_b h; obtain ⟨_, k4, h⟩ := h
  replace h := o_b h; obtain ⟨q4, h4, h⟩ := h
  refine m_call (va_runV (As := []) (rest := []) ⟨hx, hb, hml, hown, hts⟩ (c_X1_clear l D b0 sz h4) (cwV 0 hts gX5_startAnew_X1_clear rfl rfl rfl (by decide +kernel) ⟨Nat.le_of_ble_eq_true rfl, Nat.le_of_ble_eq_true rfl⟩) ⟨PW.blind, m_recv (ci := 1) rfl hK hM k4, (fun U hU hW => ⟨rfl, PW.call hK hM hS hU hW⟩)⟩ rfl rfl hl.1 rfl (lv_room (Nat.le_of_ble_eq_true rfl)) dX5_startAnew_4 ⟨(Nat.le_refl _), (Nat.le_refl _)⟩) hS (fun H locs hM hS => ?_)
  refine lv_aload_n hx hb dX5_startAnew_7 rfl (lv_at hl 0 rfl) ?_
  replace h := o_b h; obtain ⟨x8, h8, h⟩ := h
  refine m_get (C := RX5) (T := TX5) (N := 10) (ci := 5) hx hb hts qi_X5_startAnew_X5 hown hK.1 hM 9 (ldR_F h8) rfl (by decide) (hts _ q_X5_startAnew_2) (fun _ h9 => h9) dX5_startAnew_8 ?_
  replace h := o_b h; obtain ⟨_, k11, h⟩ := h
  replace h := o_b h; obtain ⟨q11, h11, h⟩ := h
  refine m_call (va_runV (As := []) (rest := []) ⟨hx, hb, hml, hown, hts⟩ (c_X1_clear l D b0 sz h11) (cwV 0 hts gX5_startAnew_X1_clear rfl rfl rfl (by decide +kernel) ⟨Nat.le_of_ble_eq_true rfl, Nat.le_of_ble_eq_true rfl⟩) ⟨PW.blind, m_recv (ci := 1) rfl hK hM k11, (fun U hU hW => ⟨rfl, PW.call hK hM hS hU hW⟩)⟩ rfl rfl hl.1 rfl (lv_room (Nat.le_of_ble_eq_true rfl)) dX5_startAnew_11 ⟨(Nat.le_refl _), (Nat.le_refl _)⟩) hS (fun H locs hM hS => ?_)
  replace h := Option.some.inj h; subst h
  exact W.vret hx hb hr (fun t ht hW => ⟨rfl, by rw [ht]; exact hM.moved hW.alike, hS.F ht⟩) hS.2.2 dX5_startAnew_14
set_option maxHeartbeats 4000000 in
set_option maxRecDepth 100000 in
theorem c_X5_startAnew (l : Launch) (D : mmD) (b0 sz : Nat) {v0 : Nat} {f : mmF} {res : mmF} (h : f_X5_startAnew v0 f = some res) : Met l yX5_startAnew wsX5_startAnew ({ frames := 1, cells := 0, slots := 0, locals := 20 } : Room) (va_Pc [.ref v0] (PW D b0 f sz)) (QW D b0 none res sz) 0 0 (fun q => b0 ≤ q) := by
  refine Met.ofW (cc := cX5_startAnew) (maxL := 1) (ret := none) (by decide) rfl ?_
  intro p e s m args below meth c s₁ B hml hv
  obtain ⟨rfl, hM, hK⟩ := hv
  have hl := lv_entry ([.ref v0]) (n := 1) (Nat.le_of_ble_eq_true rfl)
  rw [lg_entry_eq]
  generalize (lg_sl ([.ref v0]) ++ List.replicate (1 - (lg_sl ([.ref v0])).length) Slot.unset).toArray = ls at hl ⊢
  have hl : lv_has ls 1 [(0, .ref v0)] := hl
  exact w_X5_startAnew ⟨B.exec, B.bytes, B.returns, hml, findClass_of_methodNamed B.named, atoms_spec (ws := wsX5_startAnew) B.pre, B.notSynchronized, hK⟩ h s.heap [] ls hM va_S.rf hl
end S_X5_startAnew
/-! X6_singles -/
set_option maxRecDepth 20000 in
theorem qi_X6_singles_X6 : ∀ w ∈ u_ws RX6 TX6 5, w ∈ wsX6_singles := by decide +kernel
set_option maxRecDepth 20000 in
theorem q_X6_singles_1 : Cond.fieldLink RX6 22 "StageTruths$SmallModels" "single" "[I" ∈ wsX6_singles := by decide +kernel
set_option maxRecDepth 20000 in
theorem q_X6_singles_2 : Cond.initialized RX9 ∈ wsX6_singles := by decide +kernel
set_option maxRecDepth 20000 in
theorem q_X6_singles_3 : Cond.static yX9_at ∈ wsX6_singles := by decide +kernel
noncomputable def f_X6_singles (v0 : Nat) (v1 : Int32) (f : mmF) : Option (Int32) :=
  (ldR f v0 6 2).bind fun x1 =>
  (f_X9_at x1 v1 f).bind fun q5 =>
  some (q5)
section S_X6_singles
variable {p : Program} {l : Launch} {e : Env} {s : State} {m : MethodId} {args : Array Value} {below : List Frame} {meth : Method} {c : Code} {D : mmD} {b0 sz : Nat} {f : mmF}
set_option maxHeartbeats 4000000 in
set_option maxRecDepth 100000 in
theorem w_X6_singles (C0 : CX cX6_singles 2 (some .int) wsX6_singles RX6 p s m args meth c D b0) {v0 : Nat} {v1 : Int32} {res : Int32} (h : f_X6_singles v0 v1 f = some res) : ∀ (H : Heap) (locs : List Loc) (ls : Array Slot), MM vwCl D b0 f sz s H → mS b0 s H locs → lv_has ls 2 [(0, .ref v0), (1, .int v1)] → W p l e ({ frames := 1, cells := 0, slots := 0, locals := 21 } : Room) s m args below meth c H locs 0 0 (MQ below (QW D b0 (some (.int res)) f sz) args s 0 0 (fun q => b0 ≤ q)) (F0 m 0 ls []) := by
  obtain ⟨hx, hb, hr, hml, hown, hts, hlocks, hK⟩ := id C0
  intro H locs ls hM hS hl
  unfold f_X6_singles at h
  refine lv_aload_n hx hb dX6_singles_0 rfl (lv_at hl 0 rfl) ?_
  replace h := o_b h; obtain ⟨x1, h1, h⟩ := h
  refine m_get (C := RX6) (T := TX6) (N := 5) (ci := 6) hx hb hts qi_X6_singles_X6 hown hK.1 hM 2 (ldR_F h1) rfl (by decide) (hts _ q_X6_singles_1) (fun _ h9 => h9) dX6_singles_1 ?_
  refine lv_iload_n hx hb dX6_singles_4 rfl (lv_at hl 1 rfl) ?_
  replace h := o_b h; obtain ⟨q5, h5, h⟩ := h
  refine m_call (va_runSN (As := [.ref x1, .int v1]) (rest := []) ⟨hx, hb, hml, hown, hts⟩ (c_X9_at l D b0 sz h5) ⟨(va_cnB 2 hts gX6_singles_X9_at_n36 rfl rfl rfl (hK.2.1 (RX6, 36, yX9_at, "StageTruths") (by decide)) (hts _ q_X6_singles_2) (by decide +kernel) ⟨Nat.le_of_ble_eq_true rfl, Nat.le_of_ble_eq_true rfl⟩), (hts _ q_X6_singles_3), trivial⟩ ⟨PW.blind, (fun U hU hW => ⟨rfl, PW.call hK hM hS hU hW⟩)⟩ rfl rfl hl.1 rfl (lv_room (Nat.le_of_ble_eq_true rfl)) dX6_singles_5 ⟨(Nat.le_refl _), (Nat.le_refl _)⟩) hS (fun H locs hM hS => ?_)
  replace h := Option.some.inj h; subst h
  exact W.iret hx hb hr (fun t ht hW => ⟨rfl, by rw [ht]; exact hM.moved hW.alike, hS.F ht⟩) hS.2.2 dX6_singles_8
set_option maxHeartbeats 4000000 in
set_option maxRecDepth 100000 in
theorem c_X6_singles (l : Launch) (D : mmD) (b0 sz : Nat) {v0 : Nat} {v1 : Int32} {f : mmF} {res : Int32} (h : f_X6_singles v0 v1 f = some res) : Met l yX6_singles wsX6_singles ({ frames := 1, cells := 0, slots := 0, locals := 21 } : Room) (va_Pc [.ref v0, .int v1] (PW D b0 f sz)) (QW D b0 (some (.int res)) f sz) 0 0 (fun q => b0 ≤ q) := by
  refine Met.ofW (cc := cX6_singles) (maxL := 2) (ret := (some .int)) (by decide) rfl ?_
  intro p e s m args below meth c s₁ B hml hv
  obtain ⟨rfl, hM, hK⟩ := hv
  have hl := lv_entry ([.ref v0, .int v1]) (n := 2) (Nat.le_of_ble_eq_true rfl)
  rw [lg_entry_eq]
  generalize (lg_sl ([.ref v0, .int v1]) ++ List.replicate (2 - (lg_sl ([.ref v0, .int v1])).length) Slot.unset).toArray = ls at hl ⊢
  have hl : lv_has ls 2 [(0, .ref v0), (1, .int v1)] := hl
  exact w_X6_singles ⟨B.exec, B.bytes, B.returns, hml, findClass_of_methodNamed B.named, atoms_spec (ws := wsX6_singles) B.pre, B.notSynchronized, hK⟩ h s.heap [] ls hM va_S.rf hl
end S_X6_singles
/-! X5_assume -/
set_option maxRecDepth 20000 in
theorem qi_X5_assume_X5 : ∀ w ∈ u_ws RX5 TX5 10, w ∈ wsX5_assume := by decide +kernel
set_option maxRecDepth 20000 in
theorem q_X5_assume_1 : Cond.fieldLink RX5 30 "StageTruths$Proof" "known" "LStageTruths$Known;" ∈ wsX5_assume := by decide +kernel
set_option maxRecDepth 20000 in
theorem q_X5_assume_2 : Cond.fieldLink RX5 53 "StageTruths$Proof" "singles" "[I" ∈ wsX5_assume := by decide +kernel
set_option maxRecDepth 20000 in
theorem q_X5_assume_3 : Cond.fieldLink RX5 14 "StageTruths$Proof" "models" "LStageTruths$SmallModels;" ∈ wsX5_assume := by decide +kernel
noncomputable def f_X5_assume (v0 : Nat) (v1 : Int32) (v2 : Int32) (f : mmF) : Option (mmF) :=
  (ldR f v0 5 2).bind fun x1 =>
  (ckO f x1 2).bind fun _ =>
  (f_X2_assume x1 v2 f).bind fun q5 =>
  if v1 < 0 then
  (some (q5))
  else
  if (153 : Int32) ≤ v1 then
  (some (q5))
  else
  (ldR q5 v0 5 7).bind fun x20 =>
  (ldA 0 q5 x20 v1).bind fun x25 =>
  (ldR q5 v0 5 0).bind fun x27 =>
  (ckO q5 x27 6).bind fun _ =>
  (f_X6_singles x27 v2 q5).bind fun q31 =>
  (stA 0 q5 x20 v1 (x25 &&& q31)).bind fun f35 =>
  some (f35)
section S_X5_assume
variable {p : Program} {l : Launch} {e : Env} {s : State} {m : MethodId} {args : Array Value} {below : List Frame} {meth : Method} {c : Code} {D : mmD} {b0 sz : Nat} {f : mmF}
set_option maxHeartbeats 4000000 in
set_option maxRecDepth 100000 in
theorem w_X5_assume (C0 : CX cX5_assume 3 none wsX5_assume RX5 p s m args meth c D b0) {v0 : Nat} {v1 : Int32} {v2 : Int32} {res : mmF} (h : f_X5_assume v0 v1 v2 f = some res) : ∀ (H : Heap) (locs : List Loc) (ls : Array Slot), MM vwCl D b0 f sz s H → mS b0 s H locs → lv_has ls 3 [(0, .ref v0), (1, .int v1), (2, .int v2)] → W p l e ({ frames := 3, cells := 0, slots := 0, locals := 68 } : Room) s m args below meth c H locs 0 0 (MQ below (QW D b0 none res sz) args s 0 0 (fun q => b0 ≤ q)) (F0 m 0 ls []) := by
  obtain ⟨hx, hb, hr, hml, hown, hts, hlocks, hK⟩ := id C0
  intro H locs ls hM hS hl
  unfold f_X5_assume at h
  refine lv_aload_n hx hb dX5_assume_0 rfl (lv_at hl 0 rfl) ?_
  replace h := o_b h; obtain ⟨x1, h1, h⟩ := h
  refine m_get (C := RX5) (T := TX5) (N := 10) (ci := 5) hx hb hts qi_X5_assume_X5 hown hK.1 hM 2 (ldR_F h1) rfl (by decide) (hts _ q_X5_assume_1) (fun _ h9 => h9) dX5_assume_1 ?_
  refine lv_iload_n hx hb dX5_assume_4 rfl (lv_at hl 2 rfl) ?_
  replace h := o_b h; obtain ⟨_, k5, h⟩ := h
  replace h := o_b h; obtain ⟨q5, h5, h⟩ := h
  refine m_call (va_runV (As := [.int v2]) (rest := []) ⟨hx, hb, hml, hown, hts⟩ (c_X2_assume l D b0 sz h5) (cwV 1 hts gX5_assume_X2_assume rfl rfl rfl (by decide +kernel) ⟨Nat.le_of_ble_eq_true rfl, Nat.le_of_ble_eq_true rfl⟩) ⟨PW.blind, m_recv (ci := 2) rfl hK hM k5, (fun U hU hW => ⟨rfl, PW.call hK hM hS hU hW⟩)⟩ rfl rfl hl.1 rfl (lv_room (Nat.le_of_ble_eq_true rfl)) dX5_assume_5 ⟨(Nat.le_refl _), (Nat.le_refl _)⟩) hS (fun H locs hM hS => ?_)
  refine lv_iload_n hx hb dX5_assume_8 rfl (lv_at hl 1 rfl) ?_
  refine lv_if_lt (tgt := 36) hx hb dX5_assume_9 (by decide) (fun c9 => ?_) (fun c9 => ?_)
  · replace h := o_t c9 h
    replace h := Option.some.inj h; subst h
    exact W.vret hx hb hr (fun t ht hW => ⟨rfl, by rw [ht]; exact hM.moved hW.alike, hS.F ht⟩) hS.2.2 dX5_assume_36
  replace h := o_f c9 h
  refine lv_iload_n hx hb dX5_assume_12 rfl (lv_at hl 1 rfl) ?_
  refine lv_sipush (v := (153 : Int32)) hx hb dX5_assume_13 (by decide) ?_
  refine lv_icmp_ge (tgt := 36) hx hb dX5_assume_16 (by decide) (fun c16 => ?_) (fun c16 => ?_)
  · replace h := o_t c16 h
    replace h := Option.some.inj h; subst h
    exact W.vret hx hb hr (fun t ht hW => ⟨rfl, by rw [ht]; exact hM.moved hW.alike, hS.F ht⟩) hS.2.2 dX5_assume_36
  replace h := o_f c16 h
  refine lv_aload_n hx hb dX5_assume_19 rfl (lv_at hl 0 rfl) ?_
  replace h := o_b h; obtain ⟨x20, h20, h⟩ := h
  refine m_get (C := RX5) (T := TX5) (N := 10) (ci := 5) hx hb hts qi_X5_assume_X5 hown hK.1 hM 7 (ldR_F h20) rfl (by decide) (hts _ q_X5_assume_2) (fun _ h9 => h9) dX5_assume_20 ?_
  refine lv_iload_n hx hb dX5_assume_23 rfl (lv_at hl 1 rfl) ?_
  refine lv_dup2_11 hx hb dX5_assume_24 rfl rfl ?_
  replace h := o_b h; obtain ⟨x25, h25, h⟩ := h
  refine m_iald hx hb hK.1 hM hS rfl h25 dX5_assume_25 ?_
  refine lv_aload_n hx hb dX5_assume_26 rfl (lv_at hl 0 rfl) ?_
  replace h := o_b h; obtain ⟨x27, h27, h⟩ := h
  refine m_get (C := RX5) (T := TX5) (N := 10) (ci := 5) hx hb hts qi_X5_assume_X5 hown hK.1 hM 0 (ldR_F h27) rfl (by decide) (hts _ q_X5_assume_3) (fun _ h9 => h9) dX5_assume_27 ?_
  refine lv_iload_n hx hb dX5_assume_30 rfl (lv_at hl 2 rfl) ?_
  replace h := o_b h; obtain ⟨_, k31, h⟩ := h
  replace h := o_b h; obtain ⟨q31, h31, h⟩ := h
  refine m_call (va_runV (As := [.int v2]) (rest := [.int x25, .int v1, .ref x20]) ⟨hx, hb, hml, hown, hts⟩ (c_X6_singles l D b0 sz h31) (cwV 1 hts gX5_assume_X6_singles rfl rfl rfl (by decide +kernel) ⟨Nat.le_of_ble_eq_true rfl, Nat.le_of_ble_eq_true rfl⟩) ⟨PW.blind, m_recv (ci := 6) rfl hK hM k31, (fun U hU hW => ⟨rfl, PW.call hK hM hS hU hW⟩)⟩ rfl rfl hl.1 rfl (lv_room (Nat.le_of_ble_eq_true rfl)) dX5_assume_31 ⟨(Nat.le_refl _), (Nat.le_refl _)⟩) hS (fun H locs hM hS => ?_)
  refine lv_iand hx hb dX5_assume_34 ?_
  replace h := o_b h; obtain ⟨f35, h35, h⟩ := h
  refine m_iast hx hb hK.1 hM hS rfl h35 dX5_assume_35 (fun H locs hM hS => ?_)
  replace h := Option.some.inj h; subst h
  exact W.vret hx hb hr (fun t ht hW => ⟨rfl, by rw [ht]; exact hM.moved hW.alike, hS.F ht⟩) hS.2.2 dX5_assume_36
set_option maxHeartbeats 4000000 in
set_option maxRecDepth 100000 in
theorem c_X5_assume (l : Launch) (D : mmD) (b0 sz : Nat) {v0 : Nat} {v1 : Int32} {v2 : Int32} {f : mmF} {res : mmF} (h : f_X5_assume v0 v1 v2 f = some res) : Met l yX5_assume wsX5_assume ({ frames := 3, cells := 0, slots := 0, locals := 68 } : Room) (va_Pc [.ref v0, .int v1, .int v2] (PW D b0 f sz)) (QW D b0 none res sz) 0 0 (fun q => b0 ≤ q) := by
  refine Met.ofW (cc := cX5_assume) (maxL := 3) (ret := none) (by decide) rfl ?_
  intro p e s m args below meth c s₁ B hml hv
  obtain ⟨rfl, hM, hK⟩ := hv
  have hl := lv_entry ([.ref v0, .int v1, .int v2]) (n := 3) (Nat.le_of_ble_eq_true rfl)
  rw [lg_entry_eq]
  generalize (lg_sl ([.ref v0, .int v1, .int v2]) ++ List.replicate (3 - (lg_sl ([.ref v0, .int v1, .int v2])).length) Slot.unset).toArray = ls at hl ⊢
  have hl : lv_has ls 3 [(0, .ref v0), (1, .int v1), (2, .int v2)] := hl
  exact w_X5_assume ⟨B.exec, B.bytes, B.returns, hml, findClass_of_methodNamed B.named, atoms_spec (ws := wsX5_assume) B.pre, B.notSynchronized, hK⟩ h s.heap [] ls hM va_S.rf hl
end S_X5_assume
/-! X5_openGoal -/
set_option maxRecDepth 20000 in
theorem qi_X5_openGoal_X5 : ∀ w ∈ u_ws RX5 TX5 10, w ∈ wsX5_openGoal := by decide +kernel
set_option maxRecDepth 20000 in
theorem q_X5_openGoal_1 : Cond.fieldLink RX5 24 "StageTruths$Proof" "parts" "LStageTruths$Parts;" ∈ wsX5_openGoal := by decide +kernel
set_option maxRecDepth 20000 in
theorem qi_X5_openGoal_X4 : ∀ w ∈ u_ws RX4 TX4 8, w ∈ wsX5_openGoal := by decide +kernel
set_option maxRecDepth 20000 in
theorem q_X5_openGoal_3 : Cond.fieldLink RX5 163 "StageTruths$Parts" "size" "I" ∈ wsX5_openGoal := by decide +kernel
set_option maxRecDepth 20000 in
theorem q_X5_openGoal_4 : Cond.fieldLink RX5 115 "StageTruths$Parts" "left" "[I" ∈ wsX5_openGoal := by decide +kernel
set_option maxRecDepth 20000 in
theorem q_X5_openGoal_5 : Cond.initialized RX9 ∈ wsX5_openGoal := by decide +kernel
set_option maxRecDepth 20000 in
theorem q_X5_openGoal_6 : Cond.static yX9_at ∈ wsX5_openGoal := by decide +kernel
set_option maxRecDepth 20000 in
theorem q_X5_openGoal_7 : Cond.fieldLink RX5 118 "StageTruths$Parts" "right" "[I" ∈ wsX5_openGoal := by decide +kernel
noncomputable def f_X5_openGoal_5   : Nat → Nat → Int32 → Int32 → Int32 → mmF → Option (Int32 × mmF)
  | 0, _, _, _, _, _ => none
  | n + 1, v0, v1, v3, v4, f =>
    (ldR f v0 5 1).bind fun x8 =>
    (ldI f x8 4 0).bind fun x11 =>
    if x11 ≤ v4 then
    (some (v3, f))
    else
    (ldR f v0 5 1).bind fun x18 =>
    (ckO f x18 4).bind fun _ =>
    (f_X4_isIf x18 v3 f).bind fun q22 =>
    if q22 = 0 then
    (some (v3, f))
    else
    (ldR f v0 5 1).bind fun x31 =>
    (ldR f x31 4 2).bind fun x34 =>
    (f_X9_at x34 v3 f).bind fun q38 =>
    (ckO f v0 5).bind fun _ =>
    (f_X5_assume v0 v1 q38 f).bind fun q41 =>
    (ldR q41 v0 5 1).bind fun x45 =>
    (ldR q41 x45 4 3).bind fun x48 =>
    (f_X9_at x48 v3 q41).bind fun q52 =>
    f_X5_openGoal_5 n v0 v1 q52 (v4 + (1 : Int32)) q41
noncomputable def f_X5_openGoal (v0 : Nat) (v1 : Int32) (v2 : Int32) (f : mmF) : Option (Int32 × mmF) :=
  f_X5_openGoal_5 FU v0 v1 v2 (0 : Int32) f
section S_X5_openGoal
variable {p : Program} {l : Launch} {e : Env} {s : State} {m : MethodId} {args : Array Value} {below : List Frame} {meth : Method} {c : Code} {D : mmD} {b0 sz : Nat} {f : mmF}
set_option maxHeartbeats 4000000 in
set_option maxRecDepth 100000 in
theorem w_X5_openGoal_5 (C0 : CX cX5_openGoal 5 (some .int) wsX5_openGoal RX5 p s m args meth c D b0) {res : Int32 × mmF} : ∀ (n : Nat), ∀ (v0 : Nat) (v1 : Int32) (v3 : Int32) (v4 : Int32) (f : mmF), f_X5_openGoal_5 n v0 v1 v3 v4 f = some res → ∀ (H : Heap) (locs : List Loc) (ls : Array Slot), MM vwCl D b0 f sz s H → mS b0 s H locs → lv_has ls 5 [(0, .ref v0), (1, .int v1), (3, .int v3), (4, .int v4)] → W p l e ({ frames := 4, cells := 0, slots := 0, locals := 90 } : Room) s m args below meth c H locs 0 0 (MQ below (QW D b0 (some (.int res.1)) res.2 sz) args s 0 0 (fun q => b0 ≤ q)) (F0 m 5 ls []) := by
  obtain ⟨hx, hb, hr, hml, hown, hts, hlocks, hK⟩ := id C0
  intro n
  induction n with
  | zero =>
    intro v0 v1 v3 v4 f h
    have h : (none : Option (Int32 × mmF)) = some res := h
    cases h
  | succ n ih =>
    intro v0 v1 v3 v4 f h H locs ls hM hS hl
    rw [f_X5_openGoal_5] at h
    refine lv_iload hx hb dX5_openGoal_5 (lv_at hl 3 rfl) ?_
    refine lv_aload_n hx hb dX5_openGoal_7 rfl (lv_at hl 0 rfl) ?_
    replace h := o_b h; obtain ⟨x8, h8, h⟩ := h
    refine m_get (C := RX5) (T := TX5) (N := 10) (ci := 5) hx hb hts qi_X5_openGoal_X5 hown hK.1 hM 1 (ldR_F h8) rfl (by decide) (hts _ q_X5_openGoal_1) (fun _ h9 => h9) dX5_openGoal_8 ?_
    replace h := o_b h; obtain ⟨x11, h11, h⟩ := h
    refine m_get (C := RX4) (T := TX4) (N := 8) (ci := 4) hx hb hts qi_X5_openGoal_X4 hown hK.1 hM 0 (ldI_F h11) rfl (by decide) (hts _ q_X5_openGoal_3) (fun _ h9 => h9) dX5_openGoal_11 ?_
    refine lv_icmp_ge (tgt := 62) hx hb dX5_openGoal_14 (by decide) (fun c14 => ?_) (fun c14 => ?_)
    · replace h := o_t c14 h
      refine lv_iload_n hx hb dX5_openGoal_62 rfl (lv_at hl 2 rfl) ?_
      replace h := Option.some.inj h; subst h
      exact W.iret hx hb hr (fun t ht hW => ⟨rfl, by rw [ht]; exact hM.moved hW.alike, hS.F ht⟩) hS.2.2 dX5_openGoal_63
    replace h := o_f c14 h
    refine lv_aload_n hx hb dX5_openGoal_17 rfl (lv_at hl 0 rfl) ?_
    replace h := o_b h; obtain ⟨x18, h18, h⟩ := h
    refine m_get (C := RX5) (T := TX5) (N := 10) (ci := 5) hx hb hts qi_X5_openGoal_X5 hown hK.1 hM 1 (ldR_F h18) rfl (by decide) (hts _ q_X5_openGoal_1) (fun _ h9 => h9) dX5_openGoal_18 ?_
    refine lv_iload_n hx hb dX5_openGoal_21 rfl (lv_at hl 2 rfl) ?_
    replace h := o_b h; obtain ⟨_, k22, h⟩ := h
    replace h := o_b h; obtain ⟨q22, h22, h⟩ := h
    refine m_call (va_runV (As := [.int v3]) (rest := []) ⟨hx, hb, hml, hown, hts⟩ (c_X4_isIf l D b0 sz h22) (cwV 1 hts gX5_openGoal_X4_isIf rfl rfl rfl (by decide +kernel) ⟨Nat.le_of_ble_eq_true rfl, Nat.le_of_ble_eq_true rfl⟩) ⟨PW.blind, m_recv (ci := 4) rfl hK hM k22, (fun U hU hW => ⟨rfl, PW.call hK hM hS hU hW⟩)⟩ rfl rfl hl.1 rfl (lv_room (Nat.le_of_ble_eq_true rfl)) dX5_openGoal_22 ⟨(Nat.le_refl _), (Nat.le_refl _)⟩) hS (fun H locs hM hS => ?_)
    refine lv_if_eq (tgt := 62) hx hb dX5_openGoal_25 (by decide) (fun c25 => ?_) (fun c25 => ?_)
    · replace h := o_t c25 h
      refine lv_iload_n hx hb dX5_openGoal_62 rfl (lv_at hl 2 rfl) ?_
      replace h := Option.some.inj h; subst h
      exact W.iret hx hb hr (fun t ht hW => ⟨rfl, by rw [ht]; exact hM.moved hW.alike, hS.F ht⟩) hS.2.2 dX5_openGoal_63
    replace h := o_f c25 h
    refine lv_aload_n hx hb dX5_openGoal_28 rfl (lv_at hl 0 rfl) ?_
    refine lv_iload_n hx hb dX5_openGoal_29 rfl (lv_at hl 1 rfl) ?_
    refine lv_aload_n hx hb dX5_openGoal_30 rfl (lv_at hl 0 rfl) ?_
    replace h := o_b h; obtain ⟨x31, h31, h⟩ := h
    refine m_get (C := RX5) (T := TX5) (N := 10) (ci := 5) hx hb hts qi_X5_openGoal_X5 hown hK.1 hM 1 (ldR_F h31) rfl (by decide) (hts _ q_X5_openGoal_1) (fun _ h9 => h9) dX5_openGoal_31 ?_
    replace h := o_b h; obtain ⟨x34, h34, h⟩ := h
    refine m_get (C := RX4) (T := TX4) (N := 8) (ci := 4) hx hb hts qi_X5_openGoal_X4 hown hK.1 hM 2 (ldR_F h34) rfl (by decide) (hts _ q_X5_openGoal_4) (fun _ h9 => h9) dX5_openGoal_34 ?_
    refine lv_iload_n hx hb dX5_openGoal_37 rfl (lv_at hl 2 rfl) ?_
    replace h := o_b h; obtain ⟨q38, h38, h⟩ := h
    refine m_call (va_runSN (As := [.ref x34, .int v3]) (rest := [.int v1, .ref v0]) ⟨hx, hb, hml, hown, hts⟩ (c_X9_at l D b0 sz h38) ⟨(va_cnB 2 hts gX5_openGoal_X9_at_n111 rfl rfl rfl (hK.2.1 (RX5, 111, yX9_at, "StageTruths") (by decide)) (hts _ q_X5_openGoal_5) (by decide +kernel) ⟨Nat.le_of_ble_eq_true rfl, Nat.le_of_ble_eq_true rfl⟩), (hts _ q_X5_openGoal_6), trivial⟩ ⟨PW.blind, (fun U hU hW => ⟨rfl, PW.call hK hM hS hU hW⟩)⟩ rfl rfl hl.1 rfl (lv_room (Nat.le_of_ble_eq_true rfl)) dX5_openGoal_38 ⟨(Nat.le_refl _), (Nat.le_refl _)⟩) hS (fun H locs hM hS => ?_)
    replace h := o_b h; obtain ⟨_, k41, h⟩ := h
    replace h := o_b h; obtain ⟨q41, h41, h⟩ := h
    refine m_call (va_runV (As := [.int v1, .int q38]) (rest := []) ⟨hx, hb, hml, hown, hts⟩ (c_X5_assume l D b0 sz h41) (cwV 2 hts gX5_openGoal_X5_assume rfl rfl rfl (by decide +kernel) ⟨Nat.le_of_ble_eq_true rfl, Nat.le_of_ble_eq_true rfl⟩) ⟨PW.blind, m_recv (ci := 5) rfl hK hM k41, (fun U hU hW => ⟨rfl, PW.call hK hM hS hU hW⟩)⟩ rfl rfl hl.1 rfl (lv_room (Nat.le_of_ble_eq_true rfl)) dX5_openGoal_41 ⟨(Nat.le_refl _), (Nat.le_refl _)⟩) hS (fun H locs hM hS => ?_)
    refine lv_aload_n hx hb dX5_openGoal_44 rfl (lv_at hl 0 rfl) ?_
    replace h := o_b h; obtain ⟨x45, h45, h⟩ := h
    refine m_get (C := RX5) (T := TX5) (N := 10) (ci := 5) hx hb hts qi_X5_openGoal_X5 hown hK.1 hM 1 (ldR_F h45) rfl (by decide) (hts _ q_X5_openGoal_1) (fun _ h9 => h9) dX5_openGoal_45 ?_
    replace h := o_b h; obtain ⟨x48, h48, h⟩ := h
    refine m_get (C := RX4) (T := TX4) (N := 8) (ci := 4) hx hb hts qi_X5_openGoal_X4 hown hK.1 hM 3 (ldR_F h48) rfl (by decide) (hts _ q_X5_openGoal_7) (fun _ h9 => h9) dX5_openGoal_48 ?_
    refine lv_iload_n hx hb dX5_openGoal_51 rfl (lv_at hl 2 rfl) ?_
    replace h := o_b h; obtain ⟨q52, h52, h⟩ := h
    refine m_call (va_runSN (As := [.ref x48, .int v3]) (rest := []) ⟨hx, hb, hml, hown, hts⟩ (c_X9_at l D b0 sz h52) ⟨(va_cnB 2 hts gX5_openGoal_X9_at_n111 rfl rfl rfl (hK.2.1 (RX5, 111, yX9_at, "StageTruths") (by decide)) (hts _ q_X5_openGoal_5) (by decide +kernel) ⟨Nat.le_of_ble_eq_true rfl, Nat.le_of_ble_eq_true rfl⟩), (hts _ q_X5_openGoal_6), trivial⟩ ⟨PW.blind, (fun U hU hW => ⟨rfl, PW.call hK hM hS hU hW⟩)⟩ rfl rfl hl.1 rfl (lv_room (Nat.le_of_ble_eq_true rfl)) dX5_openGoal_52 ⟨(Nat.le_refl _), (Nat.le_refl _)⟩) hS (fun H locs hM hS => ?_)
    refine lv_istore_n (lv' := [(3, .int q52), (0, .ref v0), (1, .int v1), (4, .int v4)]) hx hb dX5_openGoal_55 rfl hl (by decide) rfl (fun ls hl => ?_)
    refine lv_iinc (v := (v4 + (1 : Int32))) (lv' := [(4, .int (v4 + (1 : Int32))), (3, .int q52), (0, .ref v0), (1, .int v1)]) hx hb dX5_openGoal_56 hl (k := 3) rfl rfl (by decide) rfl (fun ls hl => ?_)
    refine lv_goto (tgt := 5) hx hb dX5_openGoal_59 (by decide) ?_
    exact ih _ _ _ _ _ h _ _ _ hM hS (lv_sub hl [2, 3, 1, 0] rfl)
set_option maxHeartbeats 4000000 in
set_option maxRecDepth 100000 in
theorem w_X5_openGoal (C0 : CX cX5_openGoal 5 (some .int) wsX5_openGoal RX5 p s m args meth c D b0) {v0 : Nat} {v1 : Int32} {v2 : Int32} {res : Int32 × mmF} (h : f_X5_openGoal v0 v1 v2 f = some res) : ∀ (H : Heap) (locs : List Loc) (ls : Array Slot), MM vwCl D b0 f sz s H → mS b0 s H locs → lv_has ls 5 [(0, .ref v0), (1, .int v1), (2, .int v2)] → W p l e ({ frames := 4, cells := 0, slots := 0, locals := 90 } : Room) s m args below meth c H locs 0 0 (MQ below (QW D b0 (some (.int res.1)) res.2 sz) args s 0 0 (fun q => b0 ≤ q)) (F0 m 0 ls []) := by
  obtain ⟨hx, hb, hr, hml, hown, hts, hlocks, hK⟩ := id C0
  intro H locs ls hM hS hl
  unfold f_X5_openGoal at h
  refine lv_iload_n hx hb dX5_openGoal_0 rfl (lv_at hl 2 rfl) ?_
  refine lv_istore_n (lv' := [(3, .int v2), (0, .ref v0), (1, .int v1), (2, .int v2)]) hx hb dX5_openGoal_1 rfl hl (by decide) rfl (fun ls hl => ?_)
  refine lv_iconst (v := (0 : Int32)) hx hb dX5_openGoal_2 (by decide) ?_
  refine lv_istore (lv' := [(4, .int (0 : Int32)), (3, .int v2), (0, .ref v0), (1, .int v1), (2, .int v2)]) hx hb dX5_openGoal_3 hl (by decide) rfl (fun ls hl => ?_)
  exact w_X5_openGoal_5 C0 FU _ _ _ _ _ h _ _ _ hM hS (lv_sub hl [2, 3, 1, 0] rfl)
set_option maxHeartbeats 4000000 in
set_option maxRecDepth 100000 in
theorem c_X5_openGoal (l : Launch) (D : mmD) (b0 sz : Nat) {v0 : Nat} {v1 : Int32} {v2 : Int32} {f : mmF} {res : Int32 × mmF} (h : f_X5_openGoal v0 v1 v2 f = some res) : Met l yX5_openGoal wsX5_openGoal ({ frames := 4, cells := 0, slots := 0, locals := 90 } : Room) (va_Pc [.ref v0, .int v1, .int v2] (PW D b0 f sz)) (QW D b0 (some (.int res.1)) res.2 sz) 0 0 (fun q => b0 ≤ q) := by
  refine Met.ofW (cc := cX5_openGoal) (maxL := 5) (ret := (some .int)) (by decide) rfl ?_
  intro p e s m args below meth c s₁ B hml hv
  obtain ⟨rfl, hM, hK⟩ := hv
  have hl := lv_entry ([.ref v0, .int v1, .int v2]) (n := 5) (Nat.le_of_ble_eq_true rfl)
  rw [lg_entry_eq]
  generalize (lg_sl ([.ref v0, .int v1, .int v2]) ++ List.replicate (5 - (lg_sl ([.ref v0, .int v1, .int v2])).length) Slot.unset).toArray = ls at hl ⊢
  have hl : lv_has ls 5 [(0, .ref v0), (1, .int v1), (2, .int v2)] := hl
  exact w_X5_openGoal ⟨B.exec, B.bytes, B.returns, hml, findClass_of_methodNamed B.named, atoms_spec (ws := wsX5_openGoal) B.pre, B.notSynchronized, hK⟩ h s.heap [] ls hM va_S.rf hl
end S_X5_openGoal
/-! X5_meetsSingle -/
set_option maxRecDepth 20000 in
theorem qi_X5_meetsSingle_X5 : ∀ w ∈ u_ws RX5 TX5 10, w ∈ wsX5_meetsSingle := by decide +kernel
set_option maxRecDepth 20000 in
theorem q_X5_meetsSingle_1 : Cond.fieldLink RX5 24 "StageTruths$Proof" "parts" "LStageTruths$Parts;" ∈ wsX5_meetsSingle := by decide +kernel
set_option maxRecDepth 20000 in
theorem qi_X5_meetsSingle_X4 : ∀ w ∈ u_ws RX4 TX4 8, w ∈ wsX5_meetsSingle := by decide +kernel
set_option maxRecDepth 20000 in
theorem q_X5_meetsSingle_3 : Cond.fieldLink RX5 163 "StageTruths$Parts" "size" "I" ∈ wsX5_meetsSingle := by decide +kernel
set_option maxRecDepth 20000 in
theorem q_X5_meetsSingle_4 : Cond.fieldLink RX5 14 "StageTruths$Proof" "models" "LStageTruths$SmallModels;" ∈ wsX5_meetsSingle := by decide +kernel
set_option maxRecDepth 20000 in
theorem q_X5_meetsSingle_5 : Cond.fieldLink RX5 50 "StageTruths$Proof" "found" "LStageTruths$PartSets;" ∈ wsX5_meetsSingle := by decide +kernel
set_option maxRecDepth 20000 in
theorem q_X5_meetsSingle_6 : Cond.fieldLink RX5 53 "StageTruths$Proof" "singles" "[I" ∈ wsX5_meetsSingle := by decide +kernel
set_option maxRecDepth 20000 in
theorem q_X5_meetsSingle_7 : Cond.initialized RX9 ∈ wsX5_meetsSingle := by decide +kernel
set_option maxRecDepth 20000 in
theorem q_X5_meetsSingle_8 : Cond.static yX9_at ∈ wsX5_meetsSingle := by decide +kernel
noncomputable def f_X5_meetsSingle_81 (k44 : Nat → Int32 → Int32 → Int32 → mmF → Option (Int32 × mmF))  (v0 : Nat) (v1 : Int32) (v4 : Int32) (v5 : Int32) (f : mmF) : Option (Int32 × mmF) :=
  k44 v0 v1 v4 (v5 + (1 : Int32)) f
noncomputable def f_X5_meetsSingle_44   : Nat → Nat → Int32 → Int32 → Int32 → mmF → Option (Int32 × mmF)
  | 0, _, _, _, _, _ => none
  | n + 1, v0, v1, v4, v5, f =>
    (ldR f v0 5 1).bind fun x47 =>
    (ldI f x47 4 0).bind fun x50 =>
    if x50 ≤ v5 then
    (some ((1 : Int32), f))
    else
    (ldR f v0 5 0).bind fun x57 =>
    (ckO f x57 6).bind fun _ =>
    (f_X6_singles x57 v5 f).bind fun q62 =>
    if (q62 &&& v4) = 0 then
    (f_X5_meetsSingle_81 (fun a0 a1 a2 a3 a4 => f_X5_meetsSingle_44 n a0 a1 a2 a3 a4) v0 v1 v4 v5 f)
    else
    (ldR f v0 5 6).bind fun x72 =>
    (ckO f x72 3).bind fun _ =>
    (f_X3_add x72 v1 v5 f).bind fun q78 =>
    f_X5_meetsSingle_81 (fun a0 a1 a2 a3 a4 => f_X5_meetsSingle_44 n a0 a1 a2 a3 a4) v0 v1 v4 v5 q78
noncomputable def f_X5_meetsSingle (v0 : Nat) (v1 : Int32) (v2 : Int32) (f : mmF) : Option (Int32 × mmF) :=
  (ldR f v0 5 7).bind fun x1 =>
  (f_X9_at x1 v1 f).bind fun q5 =>
  (ldR f v0 5 0).bind fun x9 =>
  (ckO f x9 6).bind fun _ =>
  (f_X6_singles x9 v2 f).bind fun q13 =>
  if (q5 &&& (q13 ^^^ (-1 : Int32))) = 0 then
  (some ((0 : Int32), f))
  else
  (ldR f v0 5 6).bind fun x33 =>
  (ckO f x33 3).bind fun _ =>
  (f_X3_fill x33 v1 (0 : Int32) f).bind fun q38 =>
  f_X5_meetsSingle_44 FU v0 v1 ((q5 &&& (q13 ^^^ (-1 : Int32))) &&& (-(q5 &&& (q13 ^^^ (-1 : Int32))))) (0 : Int32) q38
section S_X5_meetsSingle
variable {p : Program} {l : Launch} {e : Env} {s : State} {m : MethodId} {args : Array Value} {below : List Frame} {meth : Method} {c : Code} {D : mmD} {b0 sz : Nat} {f : mmF}
set_option maxHeartbeats 4000000 in
set_option maxRecDepth 100000 in
theorem w_X5_meetsSingle_81 (C0 : CX cX5_meetsSingle 6 (some .boolean) wsX5_meetsSingle RX5 p s m args meth c D b0) {k44 : Nat → Int32 → Int32 → Int32 → mmF → Option (Int32 × mmF)} {res : Int32 × mmF} (hk44 : ∀ (v0 : Nat) (v1 : Int32) (v4 : Int32) (v5 : Int32) (f : mmF), k44 v0 v1 v4 v5 f = some res → ∀ (H : Heap) (locs : List Loc) (ls : Array Slot), MM vwCl D b0 f sz s H → mS b0 s H locs → lv_has ls 6 [(0, .ref v0), (1, .int v1), (4, .int v4), (5, .int v5)] → W p l e ({ frames := 2, cells := 0, slots := 0, locals := 42 } : Room) s m args below meth c H locs 0 0 (MQ below (QW D b0 (some (.int res.1)) res.2 sz) args s 0 0 (fun q => b0 ≤ q)) (F0 m 44 ls [])) : ∀ (v0 : Nat) (v1 : Int32) (v4 : Int32) (v5 : Int32) (f : mmF), f_X5_meetsSingle_81 k44 v0 v1 v4 v5 f = some res → ∀ (H : Heap) (locs : List Loc) (ls : Array Slot), MM vwCl D b0 f sz s H → mS b0 s H locs → lv_has ls 6 [(0, .ref v0), (1, .int v1), (4, .int v4), (5, .int v5)] → W p l e ({ frames := 2, cells := 0, slots := 0, locals := 42 } : Room) s m args below meth c H locs 0 0 (MQ below (QW D b0 (some (.int res.1)) res.2 sz) args s 0 0 (fun q => b0 ≤ q)) (F0 m 81 ls []) := by
  obtain ⟨hx, hb, hr, hml, hown, hts, hlocks, hK⟩ := id C0
  intro v0 v1 v4 v5 f h H locs ls hM hS hl
  unfold f_X5_meetsSingle_81 at h
  refine lv_iinc (v := (v5 + (1 : Int32))) (lv' := [(5, .int (v5 + (1 : Int32))), (0, .ref v0), (1, .int v1), (4, .int v4)]) hx hb dX5_meetsSingle_81 hl (k := 3) rfl rfl (by decide) rfl (fun ls hl => ?_)
  refine lv_goto (tgt := 44) hx hb dX5_meetsSingle_84 (by decide) ?_
  exact hk44 _ _ _ _ _ h _ _ _ hM hS (lv_sub hl [1, 2, 3, 0] rfl)
set_option maxHeartbeats 4000000 in
set_option maxRecDepth 100000 in
theorem w_X5_meetsSingle_44 (C0 : CX cX5_meetsSingle 6 (some .boolean) wsX5_meetsSingle RX5 p s m args meth c D b0) {res : Int32 × mmF} : ∀ (n : Nat), ∀ (v0 : Nat) (v1 : Int32) (v4 : Int32) (v5 : Int32) (f : mmF), f_X5_meetsSingle_44 n v0 v1 v4 v5 f = some res → ∀ (H : Heap) (locs : List Loc) (ls : Array Slot), MM vwCl D b0 f sz s H → mS b0 s H locs → lv_has ls 6 [(0, .ref v0), (1, .int v1), (4, .int v4), (5, .int v5)] → W p l e ({ frames := 2, cells := 0, slots := 0, locals := 42 } : Room) s m args below meth c H locs 0 0 (MQ below (QW D b0 (some (.int res.1)) res.2 sz) args s 0 0 (fun q => b0 ≤ q)) (F0 m 44 ls []) := by
  obtain ⟨hx, hb, hr, hml, hown, hts, hlocks, hK⟩ := id C0
  intro n
  induction n with
  | zero =>
    intro v0 v1 v4 v5 f h
    have h : (none : Option (Int32 × mmF)) = some res := h
    cases h
  | succ n ih =>
    intro v0 v1 v4 v5 f h H locs ls hM hS hl
    rw [f_X5_meetsSingle_44] at h
    refine lv_iload hx hb dX5_meetsSingle_44 (lv_at hl 3 rfl) ?_
    refine lv_aload_n hx hb dX5_meetsSingle_46 rfl (lv_at hl 0 rfl) ?_
    replace h := o_b h; obtain ⟨x47, h47, h⟩ := h
    refine m_get (C := RX5) (T := TX5) (N := 10) (ci := 5) hx hb hts qi_X5_meetsSingle_X5 hown hK.1 hM 1 (ldR_F h47) rfl (by decide) (hts _ q_X5_meetsSingle_1) (fun _ h9 => h9) dX5_meetsSingle_47 ?_
    replace h := o_b h; obtain ⟨x50, h50, h⟩ := h
    refine m_get (C := RX4) (T := TX4) (N := 8) (ci := 4) hx hb hts qi_X5_meetsSingle_X4 hown hK.1 hM 0 (ldI_F h50) rfl (by decide) (hts _ q_X5_meetsSingle_3) (fun _ h9 => h9) dX5_meetsSingle_50 ?_
    refine lv_icmp_ge (tgt := 87) hx hb dX5_meetsSingle_53 (by decide) (fun c53 => ?_) (fun c53 => ?_)
    · replace h := o_t c53 h
      refine lv_iconst (v := (1 : Int32)) hx hb dX5_meetsSingle_87 (by decide) ?_
      replace h := Option.some.inj h; subst h
      exact W.zret hx hb hr rfl (fun t ht hW => ⟨rfl, by rw [ht]; exact hM.moved hW.alike, hS.F ht⟩) hS.2.2 dX5_meetsSingle_88
    replace h := o_f c53 h
    refine lv_aload_n hx hb dX5_meetsSingle_56 rfl (lv_at hl 0 rfl) ?_
    replace h := o_b h; obtain ⟨x57, h57, h⟩ := h
    refine m_get (C := RX5) (T := TX5) (N := 10) (ci := 5) hx hb hts qi_X5_meetsSingle_X5 hown hK.1 hM 0 (ldR_F h57) rfl (by decide) (hts _ q_X5_meetsSingle_4) (fun _ h9 => h9) dX5_meetsSingle_57 ?_
    refine lv_iload hx hb dX5_meetsSingle_60 (lv_at hl 3 rfl) ?_
    replace h := o_b h; obtain ⟨_, k62, h⟩ := h
    replace h := o_b h; obtain ⟨q62, h62, h⟩ := h
    refine m_call (va_runV (As := [.int v5]) (rest := []) ⟨hx, hb, hml, hown, hts⟩ (c_X6_singles l D b0 sz h62) (cwV 1 hts gX5_meetsSingle_X6_singles rfl rfl rfl (by decide +kernel) ⟨Nat.le_of_ble_eq_true rfl, Nat.le_of_ble_eq_true rfl⟩) ⟨PW.blind, m_recv (ci := 6) rfl hK hM k62, (fun U hU hW => ⟨rfl, PW.call hK hM hS hU hW⟩)⟩ rfl rfl hl.1 rfl (lv_room (Nat.le_of_ble_eq_true rfl)) dX5_meetsSingle_62 ⟨(Nat.le_refl _), (Nat.le_refl _)⟩) hS (fun H locs hM hS => ?_)
    refine lv_iload hx hb dX5_meetsSingle_65 (lv_at hl 2 rfl) ?_
    refine lv_iand hx hb dX5_meetsSingle_67 ?_
    refine lv_if_eq (tgt := 81) hx hb dX5_meetsSingle_68 (by decide) (fun c68 => ?_) (fun c68 => ?_)
    · replace h := o_t c68 h
      exact w_X5_meetsSingle_81 C0 ih _ _ _ _ _ h _ _ _ hM hS (lv_sub hl [0, 1, 2, 3] rfl)
    replace h := o_f c68 h
    refine lv_aload_n hx hb dX5_meetsSingle_71 rfl (lv_at hl 0 rfl) ?_
    replace h := o_b h; obtain ⟨x72, h72, h⟩ := h
    refine m_get (C := RX5) (T := TX5) (N := 10) (ci := 5) hx hb hts qi_X5_meetsSingle_X5 hown hK.1 hM 6 (ldR_F h72) rfl (by decide) (hts _ q_X5_meetsSingle_5) (fun _ h9 => h9) dX5_meetsSingle_72 ?_
    refine lv_iload_n hx hb dX5_meetsSingle_75 rfl (lv_at hl 1 rfl) ?_
    refine lv_iload hx hb dX5_meetsSingle_76 (lv_at hl 3 rfl) ?_
    replace h := o_b h; obtain ⟨_, k78, h⟩ := h
    replace h := o_b h; obtain ⟨q78, h78, h⟩ := h
    refine m_call (va_runV (As := [.int v1, .int v5]) (rest := []) ⟨hx, hb, hml, hown, hts⟩ (c_X3_add l D b0 sz h78) (cwV 2 hts gX5_meetsSingle_X3_add rfl rfl rfl (by decide +kernel) ⟨Nat.le_of_ble_eq_true rfl, Nat.le_of_ble_eq_true rfl⟩) ⟨PW.blind, m_recv (ci := 3) rfl hK hM k78, (fun U hU hW => ⟨rfl, PW.call hK hM hS hU hW⟩)⟩ rfl rfl hl.1 rfl (lv_room (Nat.le_of_ble_eq_true rfl)) dX5_meetsSingle_78 ⟨(Nat.le_refl _), (Nat.le_refl _)⟩) hS (fun H locs hM hS => ?_)
    exact w_X5_meetsSingle_81 C0 ih _ _ _ _ _ h _ _ _ hM hS (lv_sub hl [0, 1, 2, 3] rfl)
set_option maxHeartbeats 4000000 in
set_option maxRecDepth 100000 in
theorem w_X5_meetsSingle (C0 : CX cX5_meetsSingle 6 (some .boolean) wsX5_meetsSingle RX5 p s m args meth c D b0) {v0 : Nat} {v1 : Int32} {v2 : Int32} {res : Int32 × mmF} (h : f_X5_meetsSingle v0 v1 v2 f = some res) : ∀ (H : Heap) (locs : List Loc) (ls : Array Slot), MM vwCl D b0 f sz s H → mS b0 s H locs → lv_has ls 6 [(0, .ref v0), (1, .int v1), (2, .int v2)] → W p l e ({ frames := 2, cells := 0, slots := 0, locals := 42 } : Room) s m args below meth c H locs 0 0 (MQ below (QW D b0 (some (.int res.1)) res.2 sz) args s 0 0 (fun q => b0 ≤ q)) (F0 m 0 ls []) := by
  obtain ⟨hx, hb, hr, hml, hown, hts, hlocks, hK⟩ := id C0
  intro H locs ls hM hS hl
  unfold f_X5_meetsSingle at h
  refine lv_aload_n hx hb dX5_meetsSingle_0 rfl (lv_at hl 0 rfl) ?_
  replace h := o_b h; obtain ⟨x1, h1, h⟩ := h
  refine m_get (C := RX5) (T := TX5) (N := 10) (ci := 5) hx hb hts qi_X5_meetsSingle_X5 hown hK.1 hM 7 (ldR_F h1) rfl (by decide) (hts _ q_X5_meetsSingle_6) (fun _ h9 => h9) dX5_meetsSingle_1 ?_
  refine lv_iload_n hx hb dX5_meetsSingle_4 rfl (lv_at hl 1 rfl) ?_
  replace h := o_b h; obtain ⟨q5, h5, h⟩ := h
  refine m_call (va_runSN (As := [.ref x1, .int v1]) (rest := []) ⟨hx, hb, hml, hown, hts⟩ (c_X9_at l D b0 sz h5) ⟨(va_cnB 2 hts gX5_meetsSingle_X9_at_n111 rfl rfl rfl (hK.2.1 (RX5, 111, yX9_at, "StageTruths") (by decide)) (hts _ q_X5_meetsSingle_7) (by decide +kernel) ⟨Nat.le_of_ble_eq_true rfl, Nat.le_of_ble_eq_true rfl⟩), (hts _ q_X5_meetsSingle_8), trivial⟩ ⟨PW.blind, (fun U hU hW => ⟨rfl, PW.call hK hM hS hU hW⟩)⟩ rfl rfl hl.1 rfl (lv_room (Nat.le_of_ble_eq_true rfl)) dX5_meetsSingle_5 ⟨(Nat.le_refl _), (Nat.le_refl _)⟩) hS (fun H locs hM hS => ?_)
  refine lv_aload_n hx hb dX5_meetsSingle_8 rfl (lv_at hl 0 rfl) ?_
  replace h := o_b h; obtain ⟨x9, h9, h⟩ := h
  refine m_get (C := RX5) (T := TX5) (N := 10) (ci := 5) hx hb hts qi_X5_meetsSingle_X5 hown hK.1 hM 0 (ldR_F h9) rfl (by decide) (hts _ q_X5_meetsSingle_4) (fun _ h9 => h9) dX5_meetsSingle_9 ?_
  refine lv_iload_n hx hb dX5_meetsSingle_12 rfl (lv_at hl 2 rfl) ?_
  replace h := o_b h; obtain ⟨_, k13, h⟩ := h
  replace h := o_b h; obtain ⟨q13, h13, h⟩ := h
  refine m_call (va_runV (As := [.int v2]) (rest := [.int q5]) ⟨hx, hb, hml, hown, hts⟩ (c_X6_singles l D b0 sz h13) (cwV 1 hts gX5_meetsSingle_X6_singles rfl rfl rfl (by decide +kernel) ⟨Nat.le_of_ble_eq_true rfl, Nat.le_of_ble_eq_true rfl⟩) ⟨PW.blind, m_recv (ci := 6) rfl hK hM k13, (fun U hU hW => ⟨rfl, PW.call hK hM hS hU hW⟩)⟩ rfl rfl hl.1 rfl (lv_room (Nat.le_of_ble_eq_true rfl)) dX5_meetsSingle_13 ⟨(Nat.le_refl _), (Nat.le_refl _)⟩) hS (fun H locs hM hS => ?_)
  refine lv_iconst (v := (-1 : Int32)) hx hb dX5_meetsSingle_16 (by decide) ?_
  refine lv_ixor hx hb dX5_meetsSingle_17 ?_
  refine lv_iand hx hb dX5_meetsSingle_18 ?_
  refine lv_istore_n (lv' := [(3, .int (q5 &&& (q13 ^^^ (-1 : Int32)))), (0, .ref v0), (1, .int v1), (2, .int v2)]) hx hb dX5_meetsSingle_19 rfl hl (by decide) rfl (fun ls hl => ?_)
  refine lv_iload_n hx hb dX5_meetsSingle_20 rfl (lv_at hl 0 rfl) ?_
  refine lv_if_ne (tgt := 26) hx hb dX5_meetsSingle_21 (by decide) (fun c21 => ?_) (fun c21 => ?_)
  · replace h := o_f c21 h
    refine lv_iload_n hx hb dX5_meetsSingle_26 rfl (lv_at hl 0 rfl) ?_
    refine lv_iload_n hx hb dX5_meetsSingle_27 rfl (lv_at hl 0 rfl) ?_
    refine lv_ineg hx hb dX5_meetsSingle_28 ?_
    refine lv_iand hx hb dX5_meetsSingle_29 ?_
    refine lv_istore (lv' := [(4, .int ((q5 &&& (q13 ^^^ (-1 : Int32))) &&& (-(q5 &&& (q13 ^^^ (-1 : Int32)))))), (3, .int (q5 &&& (q13 ^^^ (-1 : Int32)))), (0, .ref v0), (1, .int v1), (2, .int v2)]) hx hb dX5_meetsSingle_30 hl (by decide) rfl (fun ls hl => ?_)
    refine lv_aload_n hx hb dX5_meetsSingle_32 rfl (lv_at hl 2 rfl) ?_
    replace h := o_b h; obtain ⟨x33, h33, h⟩ := h
    refine m_get (C := RX5) (T := TX5) (N := 10) (ci := 5) hx hb hts qi_X5_meetsSingle_X5 hown hK.1 hM 6 (ldR_F h33) rfl (by decide) (hts _ q_X5_meetsSingle_5) (fun _ h9 => h9) dX5_meetsSingle_33 ?_
    refine lv_iload_n hx hb dX5_meetsSingle_36 rfl (lv_at hl 3 rfl) ?_
    refine lv_iconst (v := (0 : Int32)) hx hb dX5_meetsSingle_37 (by decide) ?_
    replace h := o_b h; obtain ⟨_, k38, h⟩ := h
    replace h := o_b h; obtain ⟨q38, h38, h⟩ := h
    refine m_call (va_runV (As := [.int v1, .int (0 : Int32)]) (rest := []) ⟨hx, hb, hml, hown, hts⟩ (c_X3_fill l D b0 sz h38) (cwV 2 hts gX5_meetsSingle_X3_fill rfl rfl rfl (by decide +kernel) ⟨Nat.le_of_ble_eq_true rfl, Nat.le_of_ble_eq_true rfl⟩) ⟨PW.blind, m_recv (ci := 3) rfl hK hM k38, (fun U hU hW => ⟨rfl, PW.call hK hM hS hU hW⟩)⟩ rfl rfl hl.1 rfl (lv_room (Nat.le_of_ble_eq_true rfl)) dX5_meetsSingle_38 ⟨(Nat.le_refl _), (Nat.le_refl _)⟩) hS (fun H locs hM hS => ?_)
    refine lv_iconst (v := (0 : Int32)) hx hb dX5_meetsSingle_41 (by decide) ?_
    refine lv_istore (lv' := [(5, .int (0 : Int32)), (4, .int ((q5 &&& (q13 ^^^ (-1 : Int32))) &&& (-(q5 &&& (q13 ^^^ (-1 : Int32)))))), (3, .int (q5 &&& (q13 ^^^ (-1 : Int32)))), (0, .ref v0), (1, .int v1), (2, .int v2)]) hx hb dX5_meetsSingle_42 hl (by decide) rfl (fun ls hl => ?_)
    exact w_X5_meetsSingle_44 C0 FU _ _ _ _ _ h _ _ _ hM hS (lv_sub hl [3, 4, 1, 0] rfl)
  replace h := o_t c21 h
  refine lv_iconst (v := (0 : Int32)) hx hb dX5_meetsSingle_24 (by decide) ?_
  replace h := Option.some.inj h; subst h
  exact W.zret hx hb hr rfl (fun t ht hW => ⟨rfl, by rw [ht]; exact hM.moved hW.alike, hS.F ht⟩) hS.2.2 dX5_meetsSingle_25
set_option maxHeartbeats 4000000 in
set_option maxRecDepth 100000 in
theorem c_X5_meetsSingle (l : Launch) (D : mmD) (b0 sz : Nat) {v0 : Nat} {v1 : Int32} {v2 : Int32} {f : mmF} {res : Int32 × mmF} (h : f_X5_meetsSingle v0 v1 v2 f = some res) : Met l yX5_meetsSingle wsX5_meetsSingle ({ frames := 2, cells := 0, slots := 0, locals := 42 } : Room) (va_Pc [.ref v0, .int v1, .int v2] (PW D b0 f sz)) (QW D b0 (some (.int res.1)) res.2 sz) 0 0 (fun q => b0 ≤ q) := by
  refine Met.ofW (cc := cX5_meetsSingle) (maxL := 6) (ret := (some .boolean)) (by decide) rfl ?_
  intro p e s m args below meth c s₁ B hml hv
  obtain ⟨rfl, hM, hK⟩ := hv
  have hl := lv_entry ([.ref v0, .int v1, .int v2]) (n := 6) (Nat.le_of_ble_eq_true rfl)
  rw [lg_entry_eq]
  generalize (lg_sl ([.ref v0, .int v1, .int v2]) ++ List.replicate (6 - (lg_sl ([.ref v0, .int v1, .int v2])).length) Slot.unset).toArray = ls at hl ⊢
  have hl : lv_has ls 6 [(0, .ref v0), (1, .int v1), (2, .int v2)] := hl
  exact w_X5_meetsSingle ⟨B.exec, B.bytes, B.returns, hml, findClass_of_methodNamed B.named, atoms_spec (ws := wsX5_meetsSingle) B.pre, B.notSynchronized, hK⟩ h s.heap [] ls hM va_S.rf hl
end S_X5_meetsSingle
/-! X5_hasMet -/
set_option maxRecDepth 20000 in
theorem qi_X5_hasMet_X5 : ∀ w ∈ u_ws RX5 TX5 10, w ∈ wsX5_hasMet := by decide +kernel
set_option maxRecDepth 20000 in
theorem q_X5_hasMet_1 : Cond.fieldLink RX5 59 "StageTruths$Proof" "met" "LStageTruths$Findings;" ∈ wsX5_hasMet := by decide +kernel
set_option maxRecDepth 20000 in
theorem qi_X5_hasMet_X1 : ∀ w ∈ u_ws RX1 TX1 4, w ∈ wsX5_hasMet := by decide +kernel
set_option maxRecDepth 20000 in
theorem q_X5_hasMet_3 : Cond.fieldLink RX5 174 "StageTruths$Findings" "size" "I" ∈ wsX5_hasMet := by decide +kernel
set_option maxRecDepth 20000 in
theorem q_X5_hasMet_4 : Cond.fieldLink RX5 30 "StageTruths$Proof" "known" "LStageTruths$Known;" ∈ wsX5_hasMet := by decide +kernel
set_option maxRecDepth 20000 in
theorem qi_X5_hasMet_X2 : ∀ w ∈ u_ws RX2 TX2 5, w ∈ wsX5_hasMet := by decide +kernel
set_option maxRecDepth 20000 in
theorem q_X5_hasMet_6 : Cond.fieldLink RX5 175 "StageTruths$Known" "set" "LStageTruths$PartSets;" ∈ wsX5_hasMet := by decide +kernel
set_option maxRecDepth 20000 in
theorem q_X5_hasMet_7 : Cond.fieldLink RX5 178 "StageTruths$Findings" "sets" "LStageTruths$PartSets;" ∈ wsX5_hasMet := by decide +kernel
set_option maxRecDepth 20000 in
theorem q_X5_hasMet_8 : Cond.fieldLink RX5 50 "StageTruths$Proof" "found" "LStageTruths$PartSets;" ∈ wsX5_hasMet := by decide +kernel
noncomputable def f_X5_hasMet_68 (k2 : Nat → Int32 → Int32 → Int32 → mmF → Option (Int32 × mmF))  (v0 : Nat) (v1 : Int32) (v2 : Int32) (v3 : Int32) (f : mmF) : Option (Int32 × mmF) :=
  k2 v0 v1 v2 (v3 + (1 : Int32)) f
noncomputable def f_X5_hasMet_2   : Nat → Nat → Int32 → Int32 → Int32 → mmF → Option (Int32 × mmF)
  | 0, _, _, _, _, _ => none
  | n + 1, v0, v1, v2, v3, f =>
    (ldR f v0 5 8).bind fun x4 =>
    (ldI f x4 1 0).bind fun x7 =>
    if x7 ≤ v3 then
    (some ((0 : Int32), f))
    else
    (ldR f v0 5 2).bind fun x14 =>
    (ldR f x14 2 1).bind fun x17 =>
    (ldR f v0 5 8).bind fun x22 =>
    (ldR f x22 1 1).bind fun x25 =>
    (ckO f x17 3).bind fun _ =>
    (f_X3_isWithin x17 (0 : Int32) x25 v3 f).bind fun q29 =>
    if q29 = 0 then
    (f_X5_hasMet_68 (fun a0 a1 a2 a3 a4 => f_X5_hasMet_2 n a0 a1 a2 a3 a4) v0 v1 v2 v3 f)
    else
    (ldR f v0 5 8).bind fun x36 =>
    (ldR f x36 1 1).bind fun x39 =>
    (ckO f x39 3).bind fun _ =>
    (f_X3_has x39 v3 v2 f).bind fun q44 =>
    if q44 = 0 then
    ((ldR f v0 5 6).bind fun x51 =>
    (ldR f v0 5 8).bind fun x56 =>
    (ldR f x56 1 1).bind fun x59 =>
    (ckO f x51 3).bind fun _ =>
    (f_X3_copy x51 v1 x59 v3 f).bind fun q63 =>
    some ((1 : Int32), q63))
    else
    f_X5_hasMet_68 (fun a0 a1 a2 a3 a4 => f_X5_hasMet_2 n a0 a1 a2 a3 a4) v0 v1 v2 v3 f
noncomputable def f_X5_hasMet (v0 : Nat) (v1 : Int32) (v2 : Int32) (f : mmF) : Option (Int32 × mmF) :=
  f_X5_hasMet_2 FU v0 v1 v2 (0 : Int32) f
section S_X5_hasMet
variable {p : Program} {l : Launch} {e : Env} {s : State} {m : MethodId} {args : Array Value} {below : List Frame} {meth : Method} {c : Code} {D : mmD} {b0 sz : Nat} {f : mmF}
set_option maxHeartbeats 4000000 in
set_option maxRecDepth 100000 in
theorem w_X5_hasMet_68 (C0 : CX cX5_hasMet 4 (some .boolean) wsX5_hasMet RX5 p s m args meth c D b0) {k2 : Nat → Int32 → Int32 → Int32 → mmF → Option (Int32 × mmF)} {res : Int32 × mmF} (hk2 : ∀ (v0 : Nat) (v1 : Int32) (v2 : Int32) (v3 : Int32) (f : mmF), k2 v0 v1 v2 v3 f = some res → ∀ (H : Heap) (locs : List Loc) (ls : Array Slot), MM vwCl D b0 f sz s H → mS b0 s H locs → lv_has ls 4 [(0, .ref v0), (1, .int v1), (2, .int v2), (3, .int v3)] → W p l e ({ frames := 2, cells := 0, slots := 0, locals := 49 } : Room) s m args below meth c H locs 0 0 (MQ below (QW D b0 (some (.int res.1)) res.2 sz) args s 0 0 (fun q => b0 ≤ q)) (F0 m 2 ls [])) : ∀ (v0 : Nat) (v1 : Int32) (v2 : Int32) (v3 : Int32) (f : mmF), f_X5_hasMet_68 k2 v0 v1 v2 v3 f = some res → ∀ (H : Heap) (locs : List Loc) (ls : Array Slot), MM vwCl D b0 f sz s H → mS b0 s H locs → lv_has ls 4 [(0, .ref v0), (1, .int v1), (2, .int v2), (3, .int v3)] → W p l e ({ frames := 2, cells := 0, slots := 0, locals := 49 } : Room) s m args below meth c H locs 0 0 (MQ below (QW D b0 (some (.int res.1)) res.2 sz) args s 0 0 (fun q => b0 ≤ q)) (F0 m 68 ls []) := by
  obtain ⟨hx, hb, hr, hml, hown, hts, hlocks, hK⟩ := id C0
  intro v0 v1 v2 v3 f h H locs ls hM hS hl
  unfold f_X5_hasMet_68 at h
  refine lv_iinc (v := (v3 + (1 : Int32))) (lv' := [(3, .int (v3 + (1 : Int32))), (0, .ref v0), (1, .int v1), (2, .int v2)]) hx hb dX5_hasMet_68 hl (k := 3) rfl rfl (by decide) rfl (fun ls hl => ?_)
  refine lv_goto (tgt := 2) hx hb dX5_hasMet_71 (by decide) ?_
  exact hk2 _ _ _ _ _ h _ _ _ hM hS (lv_sub hl [1, 2, 3, 0] rfl)
set_option maxHeartbeats 4000000 in
set_option maxRecDepth 100000 in
theorem w_X5_hasMet_2 (C0 : CX cX5_hasMet 4 (some .boolean) wsX5_hasMet RX5 p s m args meth c D b0) {res : Int32 × mmF} : ∀ (n : Nat), ∀ (v0 : Nat) (v1 : Int32) (v2 : Int32) (v3 : Int32) (f : mmF), f_X5_hasMet_2 n v0 v1 v2 v3 f = some res → ∀ (H : Heap) (locs : List Loc) (ls : Array Slot), MM vwCl D b0 f sz s H → mS b0 s H locs → lv_has ls 4 [(0, .ref v0), (1, .int v1), (2, .int v2), (3, .int v3)] → W p l e ({ frames := 2, cells := 0, slots := 0, locals := 49 } : Room) s m args below meth c H locs 0 0 (MQ below (QW D b0 (some (.int res.1)) res.2 sz) args s 0 0 (fun q => b0 ≤ q)) (F0 m 2 ls []) := by
  obtain ⟨hx, hb, hr, hml, hown, hts, hlocks, hK⟩ := id C0
  intro n
  induction n with
  | zero =>
    intro v0 v1 v2 v3 f h
    have h : (none : Option (Int32 × mmF)) = some res := h
    cases h
  | succ n ih =>
    intro v0 v1 v2 v3 f h H locs ls hM hS hl
    rw [f_X5_hasMet_2] at h
    refine lv_iload_n hx hb dX5_hasMet_2 rfl (lv_at hl 3 rfl) ?_
    refine lv_aload_n hx hb dX5_hasMet_3 rfl (lv_at hl 0 rfl) ?_
    replace h := o_b h; obtain ⟨x4, h4, h⟩ := h
    refine m_get (C := RX5) (T := TX5) (N := 10) (ci := 5) hx hb hts qi_X5_hasMet_X5 hown hK.1 hM 8 (ldR_F h4) rfl (by decide) (hts _ q_X5_hasMet_1) (fun _ h9 => h9) dX5_hasMet_4 ?_
    replace h := o_b h; obtain ⟨x7, h7, h⟩ := h
    refine m_get (C := RX1) (T := TX1) (N := 4) (ci := 1) hx hb hts qi_X5_hasMet_X1 hown hK.1 hM 0 (ldI_F h7) rfl (by decide) (hts _ q_X5_hasMet_3) (fun _ h9 => h9) dX5_hasMet_7 ?_
    refine lv_icmp_ge (tgt := 74) hx hb dX5_hasMet_10 (by decide) (fun c10 => ?_) (fun c10 => ?_)
    · replace h := o_t c10 h
      refine lv_iconst (v := (0 : Int32)) hx hb dX5_hasMet_74 (by decide) ?_
      replace h := Option.some.inj h; subst h
      exact W.zret hx hb hr rfl (fun t ht hW => ⟨rfl, by rw [ht]; exact hM.moved hW.alike, hS.F ht⟩) hS.2.2 dX5_hasMet_75
    replace h := o_f c10 h
    refine lv_aload_n hx hb dX5_hasMet_13 rfl (lv_at hl 0 rfl) ?_
    replace h := o_b h; obtain ⟨x14, h14, h⟩ := h
    refine m_get (C := RX5) (T := TX5) (N := 10) (ci := 5) hx hb hts qi_X5_hasMet_X5 hown hK.1 hM 2 (ldR_F h14) rfl (by decide) (hts _ q_X5_hasMet_4) (fun _ h9 => h9) dX5_hasMet_14 ?_
    replace h := o_b h; obtain ⟨x17, h17, h⟩ := h
    refine m_get (C := RX2) (T := TX2) (N := 5) (ci := 2) hx hb hts qi_X5_hasMet_X2 hown hK.1 hM 1 (ldR_F h17) rfl (by decide) (hts _ q_X5_hasMet_6) (fun _ h9 => h9) dX5_hasMet_17 ?_
    refine lv_iconst (v := (0 : Int32)) hx hb dX5_hasMet_20 (by decide) ?_
    refine lv_aload_n hx hb dX5_hasMet_21 rfl (lv_at hl 0 rfl) ?_
    replace h := o_b h; obtain ⟨x22, h22, h⟩ := h
    refine m_get (C := RX5) (T := TX5) (N := 10) (ci := 5) hx hb hts qi_X5_hasMet_X5 hown hK.1 hM 8 (ldR_F h22) rfl (by decide) (hts _ q_X5_hasMet_1) (fun _ h9 => h9) dX5_hasMet_22 ?_
    replace h := o_b h; obtain ⟨x25, h25, h⟩ := h
    refine m_get (C := RX1) (T := TX1) (N := 4) (ci := 1) hx hb hts qi_X5_hasMet_X1 hown hK.1 hM 1 (ldR_F h25) rfl (by decide) (hts _ q_X5_hasMet_7) (fun _ h9 => h9) dX5_hasMet_25 ?_
    refine lv_iload_n hx hb dX5_hasMet_28 rfl (lv_at hl 3 rfl) ?_
    replace h := o_b h; obtain ⟨_, k29, h⟩ := h
    replace h := o_b h; obtain ⟨q29, h29, h⟩ := h
    refine m_call (va_runV (As := [.int (0 : Int32), .ref x25, .int v3]) (rest := []) ⟨hx, hb, hml, hown, hts⟩ (c_X3_isWithin l D b0 sz h29) (cwV 3 hts gX5_hasMet_X3_isWithin rfl rfl rfl (by decide +kernel) ⟨Nat.le_of_ble_eq_true rfl, Nat.le_of_ble_eq_true rfl⟩) ⟨PW.blind, m_recv (ci := 3) rfl hK hM k29, (fun U hU hW => ⟨rfl, PW.call hK hM hS hU hW⟩)⟩ rfl rfl hl.1 rfl (lv_room (Nat.le_of_ble_eq_true rfl)) dX5_hasMet_29 ⟨(Nat.le_refl _), (Nat.le_refl _)⟩) hS (fun H locs hM hS => ?_)
    refine lv_if_eq (tgt := 68) hx hb dX5_hasMet_32 (by decide) (fun c32 => ?_) (fun c32 => ?_)
    · replace h := o_t c32 h
      exact w_X5_hasMet_68 C0 ih _ _ _ _ _ h _ _ _ hM hS (lv_sub hl [0, 1, 2, 3] rfl)
    replace h := o_f c32 h
    refine lv_aload_n hx hb dX5_hasMet_35 rfl (lv_at hl 0 rfl) ?_
    replace h := o_b h; obtain ⟨x36, h36, h⟩ := h
    refine m_get (C := RX5) (T := TX5) (N := 10) (ci := 5) hx hb hts qi_X5_hasMet_X5 hown hK.1 hM 8 (ldR_F h36) rfl (by decide) (hts _ q_X5_hasMet_1) (fun _ h9 => h9) dX5_hasMet_36 ?_
    replace h := o_b h; obtain ⟨x39, h39, h⟩ := h
    refine m_get (C := RX1) (T := TX1) (N := 4) (ci := 1) hx hb hts qi_X5_hasMet_X1 hown hK.1 hM 1 (ldR_F h39) rfl (by decide) (hts _ q_X5_hasMet_7) (fun _ h9 => h9) dX5_hasMet_39 ?_
    refine lv_iload_n hx hb dX5_hasMet_42 rfl (lv_at hl 3 rfl) ?_
    refine lv_iload_n hx hb dX5_hasMet_43 rfl (lv_at hl 2 rfl) ?_
    replace h := o_b h; obtain ⟨_, k44, h⟩ := h
    replace h := o_b h; obtain ⟨q44, h44, h⟩ := h
    refine m_call (va_runV (As := [.int v3, .int v2]) (rest := []) ⟨hx, hb, hml, hown, hts⟩ (c_X3_has l D b0 sz h44) (cwV 2 hts gX5_hasMet_X3_has rfl rfl rfl (by decide +kernel) ⟨Nat.le_of_ble_eq_true rfl, Nat.le_of_ble_eq_true rfl⟩) ⟨PW.blind, m_recv (ci := 3) rfl hK hM k44, (fun U hU hW => ⟨rfl, PW.call hK hM hS hU hW⟩)⟩ rfl rfl hl.1 rfl (lv_room (Nat.le_of_ble_eq_true rfl)) dX5_hasMet_44 ⟨(Nat.le_refl _), (Nat.le_refl _)⟩) hS (fun H locs hM hS => ?_)
    refine lv_if_ne (tgt := 68) hx hb dX5_hasMet_47 (by decide) (fun c47 => ?_) (fun c47 => ?_)
    · replace h := o_f c47 h
      exact w_X5_hasMet_68 C0 ih _ _ _ _ _ h _ _ _ hM hS (lv_sub hl [0, 1, 2, 3] rfl)
    replace h := o_t c47 h
    refine lv_aload_n hx hb dX5_hasMet_50 rfl (lv_at hl 0 rfl) ?_
    replace h := o_b h; obtain ⟨x51, h51, h⟩ := h
    refine m_get (C := RX5) (T := TX5) (N := 10) (ci := 5) hx hb hts qi_X5_hasMet_X5 hown hK.1 hM 6 (ldR_F h51) rfl (by decide) (hts _ q_X5_hasMet_8) (fun _ h9 => h9) dX5_hasMet_51 ?_
    refine lv_iload_n hx hb dX5_hasMet_54 rfl (lv_at hl 1 rfl) ?_
    refine lv_aload_n hx hb dX5_hasMet_55 rfl (lv_at hl 0 rfl) ?_
    replace h := o_b h; obtain ⟨x56, h56, h⟩ := h
    refine m_get (C := RX5) (T := TX5) (N := 10) (ci := 5) hx hb hts qi_X5_hasMet_X5 hown hK.1 hM 8 (ldR_F h56) rfl (by decide) (hts _ q_X5_hasMet_1) (fun _ h9 => h9) dX5_hasMet_56 ?_
    replace h := o_b h; obtain ⟨x59, h59, h⟩ := h
    refine m_get (C := RX1) (T := TX1) (N := 4) (ci := 1) hx hb hts qi_X5_hasMet_X1 hown hK.1 hM 1 (ldR_F h59) rfl (by decide) (hts _ q_X5_hasMet_7) (fun _ h9 => h9) dX5_hasMet_59 ?_
    refine lv_iload_n hx hb dX5_hasMet_62 rfl (lv_at hl 3 rfl) ?_
    replace h := o_b h; obtain ⟨_, k63, h⟩ := h
    replace h := o_b h; obtain ⟨q63, h63, h⟩ := h
    refine m_call (va_runV (As := [.int v1, .ref x59, .int v3]) (rest := []) ⟨hx, hb, hml, hown, hts⟩ (c_X3_copy l D b0 sz h63) (cwV 3 hts gX5_hasMet_X3_copy rfl rfl rfl (by decide +kernel) ⟨Nat.le_of_ble_eq_true rfl, Nat.le_of_ble_eq_true rfl⟩) ⟨PW.blind, m_recv (ci := 3) rfl hK hM k63, (fun U hU hW => ⟨rfl, PW.call hK hM hS hU hW⟩)⟩ rfl rfl hl.1 rfl (lv_room (Nat.le_of_ble_eq_true rfl)) dX5_hasMet_63 ⟨(Nat.le_refl _), (Nat.le_refl _)⟩) hS (fun H locs hM hS => ?_)
    refine lv_iconst (v := (1 : Int32)) hx hb dX5_hasMet_66 (by decide) ?_
    replace h := Option.some.inj h; subst h
    exact W.zret hx hb hr rfl (fun t ht hW => ⟨rfl, by rw [ht]; exact hM.moved hW.alike, hS.F ht⟩) hS.2.2 dX5_hasMet_67
set_option maxHeartbeats 4000000 in
set_option maxRecDepth 100000 in
theorem w_X5_hasMet (C0 : CX cX5_hasMet 4 (some .boolean) wsX5_hasMet RX5 p s m args meth c D b0) {v0 : Nat} {v1 : Int32} {v2 : Int32} {res : Int32 × mmF} (h : f_X5_hasMet v0 v1 v2 f = some res) : ∀ (H : Heap) (locs : List Loc) (ls : Array Slot), MM vwCl D b0 f sz s H → mS b0 s H locs → lv_has ls 4 [(0, .ref v0), (1, .int v1), (2, .int v2)] → W p l e ({ frames := 2, cells := 0, slots := 0, locals := 49 } : Room) s m args below meth c H locs 0 0 (MQ below (QW D b0 (some (.int res.1)) res.2 sz) args s 0 0 (fun q => b0 ≤ q)) (F0 m 0 ls []) := by
  obtain ⟨hx, hb, hr, hml, hown, hts, hlocks, hK⟩ := id C0
  intro H locs ls hM hS hl
  unfold f_X5_hasMet at h
  refine lv_iconst (v := (0 : Int32)) hx hb dX5_hasMet_0 (by decide) ?_
  refine lv_istore_n (lv' := [(3, .int (0 : Int32)), (0, .ref v0), (1, .int v1), (2, .int v2)]) hx hb dX5_hasMet_1 rfl hl (by decide) rfl (fun ls hl => ?_)
  exact w_X5_hasMet_2 C0 FU _ _ _ _ _ h _ _ _ hM hS (lv_sub hl [1, 2, 3, 0] rfl)
set_option maxHeartbeats 4000000 in
set_option maxRecDepth 100000 in
theorem c_X5_hasMet (l : Launch) (D : mmD) (b0 sz : Nat) {v0 : Nat} {v1 : Int32} {v2 : Int32} {f : mmF} {res : Int32 × mmF} (h : f_X5_hasMet v0 v1 v2 f = some res) : Met l yX5_hasMet wsX5_hasMet ({ frames := 2, cells := 0, slots := 0, locals := 49 } : Room) (va_Pc [.ref v0, .int v1, .int v2] (PW D b0 f sz)) (QW D b0 (some (.int res.1)) res.2 sz) 0 0 (fun q => b0 ≤ q) := by
  refine Met.ofW (cc := cX5_hasMet) (maxL := 4) (ret := (some .boolean)) (by decide) rfl ?_
  intro p e s m args below meth c s₁ B hml hv
  obtain ⟨rfl, hM, hK⟩ := hv
  have hl := lv_entry ([.ref v0, .int v1, .int v2]) (n := 4) (Nat.le_of_ble_eq_true rfl)
  rw [lg_entry_eq]
  generalize (lg_sl ([.ref v0, .int v1, .int v2]) ++ List.replicate (4 - (lg_sl ([.ref v0, .int v1, .int v2])).length) Slot.unset).toArray = ls at hl ⊢
  have hl : lv_has ls 4 [(0, .ref v0), (1, .int v1), (2, .int v2)] := hl
  exact w_X5_hasMet ⟨B.exec, B.bytes, B.returns, hml, findClass_of_methodNamed B.named, atoms_spec (ws := wsX5_hasMet) B.pre, B.notSynchronized, hK⟩ h s.heap [] ls hM va_S.rf hl
end S_X5_hasMet
/-! X5_singlesWithout -/
set_option maxRecDepth 20000 in
theorem qi_X5_singlesWithout_X5 : ∀ w ∈ u_ws RX5 TX5 10, w ∈ wsX5_singlesWithout := by decide +kernel
set_option maxRecDepth 20000 in
theorem q_X5_singlesWithout_1 : Cond.fieldLink RX5 30 "StageTruths$Proof" "known" "LStageTruths$Known;" ∈ wsX5_singlesWithout := by decide +kernel
set_option maxRecDepth 20000 in
theorem qi_X5_singlesWithout_X2 : ∀ w ∈ u_ws RX2 TX2 5, w ∈ wsX5_singlesWithout := by decide +kernel
set_option maxRecDepth 20000 in
theorem q_X5_singlesWithout_3 : Cond.fieldLink RX5 152 "StageTruths$Known" "size" "I" ∈ wsX5_singlesWithout := by decide +kernel
set_option maxRecDepth 20000 in
theorem q_X5_singlesWithout_4 : Cond.fieldLink RX5 43 "StageTruths$Proof" "used" "LStageTruths$PartSets;" ∈ wsX5_singlesWithout := by decide +kernel
set_option maxRecDepth 20000 in
theorem q_X5_singlesWithout_5 : Cond.fieldLink RX5 14 "StageTruths$Proof" "models" "LStageTruths$SmallModels;" ∈ wsX5_singlesWithout := by decide +kernel
noncomputable def f_X5_singlesWithout_61 (k5 : Nat → Int32 → Int32 → Int32 → Int32 → Option (Int32)) (f : mmF) (v0 : Nat) (v1 : Int32) (v2 : Int32) (v4 : Int32) (t0 : Int32) (t1 : Int32) : Option (Int32) :=
  k5 v0 v1 v2 (t0 &&& t1) (v4 + (1 : Int32))
noncomputable def f_X5_singlesWithout_60 (k5 : Nat → Int32 → Int32 → Int32 → Int32 → Option (Int32)) (f : mmF) (v0 : Nat) (v1 : Int32) (v2 : Int32) (v4 : Int32) (t0 : Int32) : Option (Int32) :=
  f_X5_singlesWithout_61 k5 f v0 v1 v2 v4 t0 (-1 : Int32)
noncomputable def f_X5_singlesWithout_5  (f : mmF) : Nat → Nat → Int32 → Int32 → Int32 → Int32 → Option (Int32)
  | 0, _, _, _, _, _ => none
  | n + 1, v0, v1, v2, v3, v4 =>
    (ldR f v0 5 2).bind fun x8 =>
    (ldI f x8 2 0).bind fun x11 =>
    if x11 ≤ v4 then
    (some (v3))
    else
    (ldR f v0 5 2).bind fun x18 =>
    (ckO f x18 2).bind fun _ =>
    (f_X2_part x18 v4 f).bind fun q23 =>
    if q23 = v2 then
    (f_X5_singlesWithout_60 (fun a0 a1 a2 a3 a4 => f_X5_singlesWithout_5 f n a0 a1 a2 a3 a4) f v0 v1 v2 v4 v3)
    else
    (ldR f v0 5 4).bind fun x36 =>
    (ckO f x36 3).bind fun _ =>
    (f_X3_has x36 v1 q23 f).bind fun q42 =>
    if q42 = 0 then
    (f_X5_singlesWithout_60 (fun a0 a1 a2 a3 a4 => f_X5_singlesWithout_5 f n a0 a1 a2 a3 a4) f v0 v1 v2 v4 v3)
    else
    (ldR f v0 5 0).bind fun x49 =>
    (ckO f x49 6).bind fun _ =>
    (f_X6_singles x49 q23 f).bind fun q54 =>
    f_X5_singlesWithout_61 (fun a0 a1 a2 a3 a4 => f_X5_singlesWithout_5 f n a0 a1 a2 a3 a4) f v0 v1 v2 v4 v3 q54
noncomputable def f_X5_singlesWithout (v0 : Nat) (v1 : Int32) (v2 : Int32) (f : mmF) : Option (Int32) :=
  f_X5_singlesWithout_5 f FU v0 v1 v2 (-1 : Int32) (0 : Int32)
section S_X5_singlesWithout
variable {p : Program} {l : Launch} {e : Env} {s : State} {m : MethodId} {args : Array Value} {below : List Frame} {meth : Method} {c : Code} {D : mmD} {b0 sz : Nat} {f : mmF}
set_option maxHeartbeats 4000000 in
set_option maxRecDepth 100000 in
theorem w_X5_singlesWithout_61 (C0 : CX cX5_singlesWithout 6 (some .int) wsX5_singlesWithout RX5 p s m args meth c D b0) {k5 : Nat → Int32 → Int32 → Int32 → Int32 → Option (Int32)} {res : Int32} (hk5 : ∀ (v0 : Nat) (v1 : Int32) (v2 : Int32) (v3 : Int32) (v4 : Int32), k5 v0 v1 v2 v3 v4 = some res → ∀ (H : Heap) (locs : List Loc) (ls : Array Slot), MM vwCl D b0 f sz s H → mS b0 s H locs → lv_has ls 6 [(0, .ref v0), (1, .int v1), (2, .int v2), (3, .int v3), (4, .int v4)] → W p l e ({ frames := 2, cells := 0, slots := 0, locals := 42 } : Room) s m args below meth c H locs 0 0 (MQ below (QW D b0 (some (.int res)) f sz) args s 0 0 (fun q => b0 ≤ q)) (F0 m 5 ls [])) : ∀ (v0 : Nat) (v1 : Int32) (v2 : Int32) (v4 : Int32) (t0 : Int32) (t1 : Int32), f_X5_singlesWithout_61 k5 f v0 v1 v2 v4 t0 t1 = some res → ∀ (H : Heap) (locs : List Loc) (ls : Array Slot), MM vwCl D b0 f sz s H → mS b0 s H locs → lv_has ls 6 [(0, .ref v0), (1, .int v1), (2, .int v2), (4, .int v4)] → W p l e ({ frames := 2, cells := 0, slots := 0, locals := 42 } : Room) s m args below meth c H locs 0 0 (MQ below (QW D b0 (some (.int res)) f sz) args s 0 0 (fun q => b0 ≤ q)) (F0 m 61 ls [.int t1, .int t0]) := by
  obtain ⟨hx, hb, hr, hml, hown, hts, hlocks, hK⟩ := id C0
  intro v0 v1 v2 v4 t0 t1 h H locs ls hM hS hl
  unfold f_X5_singlesWithout_61 at h
  refine lv_iand hx hb dX5_singlesWithout_61 ?_
  refine lv_istore_n (lv' := [(3, .int (t0 &&& t1)), (0, .ref v0), (1, .int v1), (2, .int v2), (4, .int v4)]) hx hb dX5_singlesWithout_62 rfl hl (by decide) rfl (fun ls hl => ?_)
  refine lv_iinc (v := (v4 + (1 : Int32))) (lv' := [(4, .int (v4 + (1 : Int32))), (3, .int (t0 &&& t1)), (0, .ref v0), (1, .int v1), (2, .int v2)]) hx hb dX5_singlesWithout_63 hl (k := 4) rfl rfl (by decide) rfl (fun ls hl => ?_)
  refine lv_goto (tgt := 5) hx hb dX5_singlesWithout_66 (by decide) ?_
  exact hk5 _ _ _ _ _ h _ _ _ hM hS (lv_sub hl [2, 3, 4, 1, 0] rfl)
set_option maxHeartbeats 4000000 in
set_option maxRecDepth 100000 in
theorem w_X5_singlesWithout_60 (C0 : CX cX5_singlesWithout 6 (some .int) wsX5_singlesWithout RX5 p s m args meth c D b0) {k5 : Nat → Int32 → Int32 → Int32 → Int32 → Option (Int32)} {res : Int32} (hk5 : ∀ (v0 : Nat) (v1 : Int32) (v2 : Int32) (v3 : Int32) (v4 : Int32), k5 v0 v1 v2 v3 v4 = some res → ∀ (H : Heap) (locs : List Loc) (ls : Array Slot), MM vwCl D b0 f sz s H → mS b0 s H locs → lv_has ls 6 [(0, .ref v0), (1, .int v1), (2, .int v2), (3, .int v3), (4, .int v4)] → W p l e ({ frames := 2, cells := 0, slots := 0, locals := 42 } : Room) s m args below meth c H locs 0 0 (MQ below (QW D b0 (some (.int res)) f sz) args s 0 0 (fun q => b0 ≤ q)) (F0 m 5 ls [])) : ∀ (v0 : Nat) (v1 : Int32) (v2 : Int32) (v4 : Int32) (t0 : Int32), f_X5_singlesWithout_60 k5 f v0 v1 v2 v4 t0 = some res → ∀ (H : Heap) (locs : List Loc) (ls : Array Slot), MM vwCl D b0 f sz s H → mS b0 s H locs → lv_has ls 6 [(0, .ref v0), (1, .int v1), (2, .int v2), (4, .int v4)] → W p l e ({ frames := 2, cells := 0, slots := 0, locals := 42 } : Room) s m args below meth c H locs 0 0 (MQ below (QW D b0 (some (.int res)) f sz) args s 0 0 (fun q => b0 ≤ q)) (F0 m 60 ls [.int t0]) := by
  obtain ⟨hx, hb, hr, hml, hown, hts, hlocks, hK⟩ := id C0
  intro v0 v1 v2 v4 t0 h H locs ls hM hS hl
  unfold f_X5_singlesWithout_60 at h
  refine lv_iconst (v := (-1 : Int32)) hx hb dX5_singlesWithout_60 (by decide) ?_
  exact w_X5_singlesWithout_61 C0 hk5 _ _ _ _ _ _ h _ _ _ hM hS (lv_sub hl [0, 1, 2, 3] rfl)
set_option maxHeartbeats 4000000 in
set_option maxRecDepth 100000 in
theorem w_X5_singlesWithout_5 (C0 : CX cX5_singlesWithout 6 (some .int) wsX5_singlesWithout RX5 p s m args meth c D b0) {res : Int32} : ∀ (n : Nat), ∀ (v0 : Nat) (v1 : Int32) (v2 : Int32) (v3 : Int32) (v4 : Int32), f_X5_singlesWithout_5 f n v0 v1 v2 v3 v4 = some res → ∀ (H : Heap) (locs : List Loc) (ls : Array Slot), MM vwCl D b0 f sz s H → mS b0 s H locs → lv_has ls 6 [(0, .ref v0), (1, .int v1), (2, .int v2), (3, .int v3), (4, .int v4)] → W p l e ({ frames := 2, cells := 0, slots := 0, locals := 42 } : Room) s m args below meth c H locs 0 0 (MQ below (QW D b0 (some (.int res)) f sz) args s 0 0 (fun q => b0 ≤ q)) (F0 m 5 ls []) := by
  obtain ⟨hx, hb, hr, hml, hown, hts, hlocks, hK⟩ := id C0
  intro n
  induction n with
  | zero =>
    intro v0 v1 v2 v3 v4 h
    have h : (none : Option (Int32)) = some res := h
    cases h
  | succ n ih =>
    intro v0 v1 v2 v3 v4 h H locs ls hM hS hl
    rw [f_X5_singlesWithout_5] at h
    refine lv_iload hx hb dX5_singlesWithout_5 (lv_at hl 4 rfl) ?_
    refine lv_aload_n hx hb dX5_singlesWithout_7 rfl (lv_at hl 0 rfl) ?_
    replace h := o_b h; obtain ⟨x8, h8, h⟩ := h
    refine m_get (C := RX5) (T := TX5) (N := 10) (ci := 5) hx hb hts qi_X5_singlesWithout_X5 hown hK.1 hM 2 (ldR_F h8) rfl (by decide) (hts _ q_X5_singlesWithout_1) (fun _ h9 => h9) dX5_singlesWithout_8 ?_
    replace h := o_b h; obtain ⟨x11, h11, h⟩ := h
    refine m_get (C := RX2) (T := TX2) (N := 5) (ci := 2) hx hb hts qi_X5_singlesWithout_X2 hown hK.1 hM 0 (ldI_F h11) rfl (by decide) (hts _ q_X5_singlesWithout_3) (fun _ h9 => h9) dX5_singlesWithout_11 ?_
    refine lv_icmp_ge (tgt := 69) hx hb dX5_singlesWithout_14 (by decide) (fun c14 => ?_) (fun c14 => ?_)
    · replace h := o_t c14 h
      refine lv_iload_n hx hb dX5_singlesWithout_69 rfl (lv_at hl 3 rfl) ?_
      replace h := Option.some.inj h; subst h
      exact W.iret hx hb hr (fun t ht hW => ⟨rfl, by rw [ht]; exact hM.moved hW.alike, hS.F ht⟩) hS.2.2 dX5_singlesWithout_70
    replace h := o_f c14 h
    refine lv_aload_n hx hb dX5_singlesWithout_17 rfl (lv_at hl 0 rfl) ?_
    replace h := o_b h; obtain ⟨x18, h18, h⟩ := h
    refine m_get (C := RX5) (T := TX5) (N := 10) (ci := 5) hx hb hts qi_X5_singlesWithout_X5 hown hK.1 hM 2 (ldR_F h18) rfl (by decide) (hts _ q_X5_singlesWithout_1) (fun _ h9 => h9) dX5_singlesWithout_18 ?_
    refine lv_iload hx hb dX5_singlesWithout_21 (lv_at hl 4 rfl) ?_
    replace h := o_b h; obtain ⟨_, k23, h⟩ := h
    replace h := o_b h; obtain ⟨q23, h23, h⟩ := h
    refine m_call (va_runV (As := [.int v4]) (rest := []) ⟨hx, hb, hml, hown, hts⟩ (c_X2_part l D b0 sz h23) (cwV 1 hts gX5_singlesWithout_X2_part rfl rfl rfl (by decide +kernel) ⟨Nat.le_of_ble_eq_true rfl, Nat.le_of_ble_eq_true rfl⟩) ⟨PW.blind, m_recv (ci := 2) rfl hK hM k23, (fun U hU hW => ⟨rfl, PW.call hK hM hS hU hW⟩)⟩ rfl rfl hl.1 rfl (lv_room (Nat.le_of_ble_eq_true rfl)) dX5_singlesWithout_23 ⟨(Nat.le_refl _), (Nat.le_refl _)⟩) hS (fun H locs hM hS => ?_)
    refine lv_istore (lv' := [(5, .int q23), (0, .ref v0), (1, .int v1), (2, .int v2), (3, .int v3), (4, .int v4)]) hx hb dX5_singlesWithout_26 hl (by decide) rfl (fun ls hl => ?_)
    refine lv_iload_n hx hb dX5_singlesWithout_28 rfl (lv_at hl 4 rfl) ?_
    refine lv_iload hx hb dX5_singlesWithout_29 (lv_at hl 0 rfl) ?_
    refine lv_iload_n hx hb dX5_singlesWithout_31 rfl (lv_at hl 3 rfl) ?_
    refine lv_icmp_eq (tgt := 60) hx hb dX5_singlesWithout_32 (by decide) (fun c32 => ?_) (fun c32 => ?_)
    · replace h := o_t c32 h
      exact w_X5_singlesWithout_60 C0 ih _ _ _ _ _ h _ _ _ hM hS (lv_sub hl [1, 2, 3, 5] rfl)
    replace h := o_f c32 h
    refine lv_aload_n hx hb dX5_singlesWithout_35 rfl (lv_at hl 1 rfl) ?_
    replace h := o_b h; obtain ⟨x36, h36, h⟩ := h
    refine m_get (C := RX5) (T := TX5) (N := 10) (ci := 5) hx hb hts qi_X5_singlesWithout_X5 hown hK.1 hM 4 (ldR_F h36) rfl (by decide) (hts _ q_X5_singlesWithout_4) (fun _ h9 => h9) dX5_singlesWithout_36 ?_
    refine lv_iload_n hx hb dX5_singlesWithout_39 rfl (lv_at hl 2 rfl) ?_
    refine lv_iload hx hb dX5_singlesWithout_40 (lv_at hl 0 rfl) ?_
    replace h := o_b h; obtain ⟨_, k42, h⟩ := h
    replace h := o_b h; obtain ⟨q42, h42, h⟩ := h
    refine m_call (va_runV (As := [.int v1, .int q23]) (rest := [.int v3]) ⟨hx, hb, hml, hown, hts⟩ (c_X3_has l D b0 sz h42) (cwV 2 hts gX5_singlesWithout_X3_has rfl rfl rfl (by decide +kernel) ⟨Nat.le_of_ble_eq_true rfl, Nat.le_of_ble_eq_true rfl⟩) ⟨PW.blind, m_recv (ci := 3) rfl hK hM k42, (fun U hU hW => ⟨rfl, PW.call hK hM hS hU hW⟩)⟩ rfl rfl hl.1 rfl (lv_room (Nat.le_of_ble_eq_true rfl)) dX5_singlesWithout_42 ⟨(Nat.le_refl _), (Nat.le_refl _)⟩) hS (fun H locs hM hS => ?_)
    refine lv_if_eq (tgt := 60) hx hb dX5_singlesWithout_45 (by decide) (fun c45 => ?_) (fun c45 => ?_)
    · replace h := o_t c45 h
      exact w_X5_singlesWithout_60 C0 ih _ _ _ _ _ h _ _ _ hM hS (lv_sub hl [1, 2, 3, 5] rfl)
    replace h := o_f c45 h
    refine lv_aload_n hx hb dX5_singlesWithout_48 rfl (lv_at hl 1 rfl) ?_
    replace h := o_b h; obtain ⟨x49, h49, h⟩ := h
    refine m_get (C := RX5) (T := TX5) (N := 10) (ci := 5) hx hb hts qi_X5_singlesWithout_X5 hown hK.1 hM 0 (ldR_F h49) rfl (by decide) (hts _ q_X5_singlesWithout_5) (fun _ h9 => h9) dX5_singlesWithout_49 ?_
    refine lv_iload hx hb dX5_singlesWithout_52 (lv_at hl 0 rfl) ?_
    replace h := o_b h; obtain ⟨_, k54, h⟩ := h
    replace h := o_b h; obtain ⟨q54, h54, h⟩ := h
    refine m_call (va_runV (As := [.int q23]) (rest := [.int v3]) ⟨hx, hb, hml, hown, hts⟩ (c_X6_singles l D b0 sz h54) (cwV 1 hts gX5_singlesWithout_X6_singles rfl rfl rfl (by decide +kernel) ⟨Nat.le_of_ble_eq_true rfl, Nat.le_of_ble_eq_true rfl⟩) ⟨PW.blind, m_recv (ci := 6) rfl hK hM k54, (fun U hU hW => ⟨rfl, PW.call hK hM hS hU hW⟩)⟩ rfl rfl hl.1 rfl (lv_room (Nat.le_of_ble_eq_true rfl)) dX5_singlesWithout_54 ⟨(Nat.le_refl _), (Nat.le_refl _)⟩) hS (fun H locs hM hS => ?_)
    refine lv_goto (tgt := 61) hx hb dX5_singlesWithout_57 (by decide) ?_
    exact w_X5_singlesWithout_61 C0 ih _ _ _ _ _ _ h _ _ _ hM hS (lv_sub hl [1, 2, 3, 5] rfl)
set_option maxHeartbeats 4000000 in
set_option maxRecDepth 100000 in
theorem w_X5_singlesWithout (C0 : CX cX5_singlesWithout 6 (some .int) wsX5_singlesWithout RX5 p s m args meth c D b0) {v0 : Nat} {v1 : Int32} {v2 : Int32} {res : Int32} (h : f_X5_singlesWithout v0 v1 v2 f = some res) : ∀ (H : Heap) (locs : List Loc) (ls : Array Slot), MM vwCl D b0 f sz s H → mS b0 s H locs → lv_has ls 6 [(0, .ref v0), (1, .int v1), (2, .int v2)] → W p l e ({ frames := 2, cells := 0, slots := 0, locals := 42 } : Room) s m args below meth c H locs 0 0 (MQ below (QW D b0 (some (.int res)) f sz) args s 0 0 (fun q => b0 ≤ q)) (F0 m 0 ls []) := by
  obtain ⟨hx, hb, hr, hml, hown, hts, hlocks, hK⟩ := id C0
  intro H locs ls hM hS hl
  unfold f_X5_singlesWithout at h
  refine lv_iconst (v := (-1 : Int32)) hx hb dX5_singlesWithout_0 (by decide) ?_
  refine lv_istore_n (lv' := [(3, .int (-1 : Int32)), (0, .ref v0), (1, .int v1), (2, .int v2)]) hx hb dX5_singlesWithout_1 rfl hl (by decide) rfl (fun ls hl => ?_)
  refine lv_iconst (v := (0 : Int32)) hx hb dX5_singlesWithout_2 (by decide) ?_
  refine lv_istore (lv' := [(4, .int (0 : Int32)), (3, .int (-1 : Int32)), (0, .ref v0), (1, .int v1), (2, .int v2)]) hx hb dX5_singlesWithout_3 hl (by decide) rfl (fun ls hl => ?_)
  exact w_X5_singlesWithout_5 C0 FU _ _ _ _ _ h _ _ _ hM hS (lv_sub hl [2, 3, 4, 1, 0] rfl)
set_option maxHeartbeats 4000000 in
set_option maxRecDepth 100000 in
theorem c_X5_singlesWithout (l : Launch) (D : mmD) (b0 sz : Nat) {v0 : Nat} {v1 : Int32} {v2 : Int32} {f : mmF} {res : Int32} (h : f_X5_singlesWithout v0 v1 v2 f = some res) : Met l yX5_singlesWithout wsX5_singlesWithout ({ frames := 2, cells := 0, slots := 0, locals := 42 } : Room) (va_Pc [.ref v0, .int v1, .int v2] (PW D b0 f sz)) (QW D b0 (some (.int res)) f sz) 0 0 (fun q => b0 ≤ q) := by
  refine Met.ofW (cc := cX5_singlesWithout) (maxL := 6) (ret := (some .int)) (by decide) rfl ?_
  intro p e s m args below meth c s₁ B hml hv
  obtain ⟨rfl, hM, hK⟩ := hv
  have hl := lv_entry ([.ref v0, .int v1, .int v2]) (n := 6) (Nat.le_of_ble_eq_true rfl)
  rw [lg_entry_eq]
  generalize (lg_sl ([.ref v0, .int v1, .int v2]) ++ List.replicate (6 - (lg_sl ([.ref v0, .int v1, .int v2])).length) Slot.unset).toArray = ls at hl ⊢
  have hl : lv_has ls 6 [(0, .ref v0), (1, .int v1), (2, .int v2)] := hl
  exact w_X5_singlesWithout ⟨B.exec, B.bytes, B.returns, hml, findClass_of_methodNamed B.named, atoms_spec (ws := wsX5_singlesWithout) B.pre, B.notSynchronized, hK⟩ h s.heap [] ls hM va_S.rf hl
end S_X5_singlesWithout
/-! X5_failsAtAllLast -/
set_option maxRecDepth 20000 in
theorem qi_X5_failsAtAllLast_X5 : ∀ w ∈ u_ws RX5 TX5 10, w ∈ wsX5_failsAtAllLast := by decide +kernel
set_option maxRecDepth 20000 in
theorem q_X5_failsAtAllLast_1 : Cond.fieldLink RX5 30 "StageTruths$Proof" "known" "LStageTruths$Known;" ∈ wsX5_failsAtAllLast := by decide +kernel
set_option maxRecDepth 20000 in
theorem q_X5_failsAtAllLast_2 : Cond.fieldLink RX5 43 "StageTruths$Proof" "used" "LStageTruths$PartSets;" ∈ wsX5_failsAtAllLast := by decide +kernel
set_option maxRecDepth 20000 in
theorem qi_X5_failsAtAllLast_X2 : ∀ w ∈ u_ws RX2 TX2 5, w ∈ wsX5_failsAtAllLast := by decide +kernel
set_option maxRecDepth 20000 in
theorem q_X5_failsAtAllLast_4 : Cond.fieldLink RX5 152 "StageTruths$Known" "size" "I" ∈ wsX5_failsAtAllLast := by decide +kernel
set_option maxRecDepth 20000 in
theorem q_X5_failsAtAllLast_5 : Cond.fieldLink RX5 14 "StageTruths$Proof" "models" "LStageTruths$SmallModels;" ∈ wsX5_failsAtAllLast := by decide +kernel
noncomputable def f_X5_failsAtAllLast_152 (k103 : Nat → Int32 → Int32 → mmF → Option (Int32 × mmF))  (v0 : Nat) (v1 : Int32) (v4 : Int32) (f : mmF) : Option (Int32 × mmF) :=
  k103 v0 v1 (v4 + (-1 : Int32)) f
noncomputable def f_X5_failsAtAllLast_103   : Nat → Nat → Int32 → Int32 → mmF → Option (Int32 × mmF)
  | 0, _, _, _, _ => none
  | n + 1, v0, v1, v4, f =>
    if v4 < 0 then
    (some ((1 : Int32), f))
    else
    (ldR f v0 5 2).bind fun x109 =>
    (ckO f x109 2).bind fun _ =>
    (f_X2_part x109 v4 f).bind fun q114 =>
    (ldR f v0 5 4).bind fun x120 =>
    (ckO f x120 3).bind fun _ =>
    (f_X3_has x120 v1 q114 f).bind fun q126 =>
    if q126 = 0 then
    (f_X5_failsAtAllLast_152 (fun a0 a1 a2 a3 => f_X5_failsAtAllLast_103 n a0 a1 a2 a3) v0 v1 v4 f)
    else
    (ckO f v0 5).bind fun _ =>
    (f_X5_singlesWithout v0 v1 q114 f).bind fun q136 =>
    if q136 = 0 then
    ((ldR f v0 5 4).bind fun x143 =>
    (ckO f x143 3).bind fun _ =>
    (f_X3_remove x143 v1 q114 f).bind fun q149 =>
    f_X5_failsAtAllLast_152 (fun a0 a1 a2 a3 => f_X5_failsAtAllLast_103 n a0 a1 a2 a3) v0 v1 v4 q149)
    else
    f_X5_failsAtAllLast_152 (fun a0 a1 a2 a3 => f_X5_failsAtAllLast_103 n a0 a1 a2 a3) v0 v1 v4 f
noncomputable def f_X5_failsAtAllLast_92   (v0 : Nat) (v1 : Int32) (f : mmF) : Option (Int32 × mmF) :=
  (ldR f v0 5 2).bind fun x93 =>
  (ldI f x93 2 0).bind fun x96 =>
  f_X5_failsAtAllLast_103 FU v0 v1 (x96 - (1 : Int32)) f
noncomputable def f_X5_failsAtAllLast_86 (k21 : Nat → Int32 → Int32 → Int32 → mmF → Option (Int32 × mmF))  (v0 : Nat) (v1 : Int32) (v3 : Int32) (v4 : Int32) (f : mmF) : Option (Int32 × mmF) :=
  k21 v0 v1 v3 (v4 + (1 : Int32)) f
noncomputable def f_X5_failsAtAllLast_21   : Nat → Nat → Int32 → Int32 → Int32 → mmF → Option (Int32 × mmF)
  | 0, _, _, _, _, _ => none
  | n + 1, v0, v1, v3, v4, f =>
    (ldR f v0 5 2).bind fun x24 =>
    (ldI f x24 2 0).bind fun x27 =>
    if x27 ≤ v4 then
    (f_X5_failsAtAllLast_92 v0 v1 f)
    else
    if v3 = 0 then
    (f_X5_failsAtAllLast_92 v0 v1 f)
    else
    (ldR f v0 5 2).bind fun x38 =>
    (ckO f x38 2).bind fun _ =>
    (f_X2_part x38 v4 f).bind fun q43 =>
    (ldR f v0 5 0).bind fun x50 =>
    (ckO f x50 6).bind fun _ =>
    (f_X6_singles x50 q43 f).bind fun q55 =>
    if (v3 &&& (q55 ^^^ (-1 : Int32))) = 0 then
    (f_X5_failsAtAllLast_86 (fun a0 a1 a2 a3 a4 => f_X5_failsAtAllLast_21 n a0 a1 a2 a3 a4) v0 v1 v3 v4 f)
    else
    (ldR f v0 5 0).bind fun x66 =>
    (ckO f x66 6).bind fun _ =>
    (f_X6_singles x66 q43 f).bind fun q71 =>
    (ldR f v0 5 4).bind fun x77 =>
    (ckO f x77 3).bind fun _ =>
    (f_X3_add x77 v1 q43 f).bind fun q83 =>
    f_X5_failsAtAllLast_86 (fun a0 a1 a2 a3 a4 => f_X5_failsAtAllLast_21 n a0 a1 a2 a3 a4) v0 v1 (v3 &&& q71) v4 q83
noncomputable def f_X5_failsAtAllLast (v0 : Nat) (v1 : Int32) (v2 : Int32) (f : mmF) : Option (Int32 × mmF) :=
  if v2 = (5 : Int32) then
  ((ldR f v0 5 4).bind fun x8 =>
  (ckO f x8 3).bind fun _ =>
  (f_X3_fill x8 v1 (0 : Int32) f).bind fun q13 =>
  f_X5_failsAtAllLast_21 FU v0 v1 (-1 : Int32) (0 : Int32) q13)
  else
  some ((0 : Int32), f)
section S_X5_failsAtAllLast
variable {p : Program} {l : Launch} {e : Env} {s : State} {m : MethodId} {args : Array Value} {below : List Frame} {meth : Method} {c : Code} {D : mmD} {b0 sz : Nat} {f : mmF}
set_option maxHeartbeats 4000000 in
set_option maxRecDepth 100000 in
theorem w_X5_failsAtAllLast_152 (C0 : CX cX5_failsAtAllLast 6 (some .boolean) wsX5_failsAtAllLast RX5 p s m args meth c D b0) {k103 : Nat → Int32 → Int32 → mmF → Option (Int32 × mmF)} {res : Int32 × mmF} (hk103 : ∀ (v0 : Nat) (v1 : Int32) (v4 : Int32) (f : mmF), k103 v0 v1 v4 f = some res → ∀ (H : Heap) (locs : List Loc) (ls : Array Slot), MM vwCl D b0 f sz s H → mS b0 s H locs → lv_has ls 6 [(0, .ref v0), (1, .int v1), (4, .int v4)] → W p l e ({ frames := 3, cells := 0, slots := 0, locals := 67 } : Room) s m args below meth c H locs 0 0 (MQ below (QW D b0 (some (.int res.1)) res.2 sz) args s 0 0 (fun q => b0 ≤ q)) (F0 m 103 ls [])) : ∀ (v0 : Nat) (v1 : Int32) (v4 : Int32) (f : mmF), f_X5_failsAtAllLast_152 k103 v0 v1 v4 f = some res → ∀ (H : Heap) (locs : List Loc) (ls : Array Slot), MM vwCl D b0 f sz s H → mS b0 s H locs → lv_has ls 6 [(0, .ref v0), (1, .int v1), (4, .int v4)] → W p l e ({ frames := 3, cells := 0, slots := 0, locals := 67 } : Room) s m args below meth c H locs 0 0 (MQ below (QW D b0 (some (.int res.1)) res.2 sz) args s 0 0 (fun q => b0 ≤ q)) (F0 m 152 ls []) := by
  obtain ⟨hx, hb, hr, hml, hown, hts, hlocks, hK⟩ := id C0
  intro v0 v1 v4 f h H locs ls hM hS hl
  unfold f_X5_failsAtAllLast_152 at h
  refine lv_iinc (v := (v4 + (-1 : Int32))) (lv' := [(4, .int (v4 + (-1 : Int32))), (0, .ref v0), (1, .int v1)]) hx hb dX5_failsAtAllLast_152 hl (k := 2) rfl rfl (by decide) rfl (fun ls hl => ?_)
  refine lv_goto (tgt := 103) hx hb dX5_failsAtAllLast_155 (by decide) ?_
  exact hk103 _ _ _ _ h _ _ _ hM hS (lv_sub hl [1, 2, 0] rfl)
set_option maxHeartbeats 4000000 in
set_option maxRecDepth 100000 in
theorem w_X5_failsAtAllLast_103 (C0 : CX cX5_failsAtAllLast 6 (some .boolean) wsX5_failsAtAllLast RX5 p s m args meth c D b0) {res : Int32 × mmF} : ∀ (n : Nat), ∀ (v0 : Nat) (v1 : Int32) (v4 : Int32) (f : mmF), f_X5_failsAtAllLast_103 n v0 v1 v4 f = some res → ∀ (H : Heap) (locs : List Loc) (ls : Array Slot), MM vwCl D b0 f sz s H → mS b0 s H locs → lv_has ls 6 [(0, .ref v0), (1, .int v1), (4, .int v4)] → W p l e ({ frames := 3, cells := 0, slots := 0, locals := 67 } : Room) s m args below meth c H locs 0 0 (MQ below (QW D b0 (some (.int res.1)) res.2 sz) args s 0 0 (fun q => b0 ≤ q)) (F0 m 103 ls []) := by
  obtain ⟨hx, hb, hr, hml, hown, hts, hlocks, hK⟩ := id C0
  intro n
  induction n with
  | zero =>
    intro v0 v1 v4 f h
    have h : (none : Option (Int32 × mmF)) = some res := h
    cases h
  | succ n ih =>
    intro v0 v1 v4 f h H locs ls hM hS hl
    rw [f_X5_failsAtAllLast_103] at h
    refine lv_iload hx hb dX5_failsAtAllLast_103 (lv_at hl 2 rfl) ?_
    refine lv_if_lt (tgt := 158) hx hb dX5_failsAtAllLast_105 (by decide) (fun c105 => ?_) (fun c105 => ?_)
    · replace h := o_t c105 h
      refine lv_iconst (v := (1 : Int32)) hx hb dX5_failsAtAllLast_158 (by decide) ?_
      replace h := Option.some.inj h; subst h
      exact W.zret hx hb hr rfl (fun t ht hW => ⟨rfl, by rw [ht]; exact hM.moved hW.alike, hS.F ht⟩) hS.2.2 dX5_failsAtAllLast_159
    replace h := o_f c105 h
    refine lv_aload_n hx hb dX5_failsAtAllLast_108 rfl (lv_at hl 0 rfl) ?_
    replace h := o_b h; obtain ⟨x109, h109, h⟩ := h
    refine m_get (C := RX5) (T := TX5) (N := 10) (ci := 5) hx hb hts qi_X5_failsAtAllLast_X5 hown hK.1 hM 2 (ldR_F h109) rfl (by decide) (hts _ q_X5_failsAtAllLast_1) (fun _ h9 => h9) dX5_failsAtAllLast_109 ?_
    refine lv_iload hx hb dX5_failsAtAllLast_112 (lv_at hl 2 rfl) ?_
    replace h := o_b h; obtain ⟨_, k114, h⟩ := h
    replace h := o_b h; obtain ⟨q114, h114, h⟩ := h
    refine m_call (va_runV (As := [.int v4]) (rest := []) ⟨hx, hb, hml, hown, hts⟩ (c_X2_part l D b0 sz h114) (cwV 1 hts gX5_failsAtAllLast_X2_part rfl rfl rfl (by decide +kernel) ⟨Nat.le_of_ble_eq_true rfl, Nat.le_of_ble_eq_true rfl⟩) ⟨PW.blind, m_recv (ci := 2) rfl hK hM k114, (fun U hU hW => ⟨rfl, PW.call hK hM hS hU hW⟩)⟩ rfl rfl hl.1 rfl (lv_room (Nat.le_of_ble_eq_true rfl)) dX5_failsAtAllLast_114 ⟨(Nat.le_refl _), (Nat.le_refl _)⟩) hS (fun H locs hM hS => ?_)
    refine lv_istore (lv' := [(5, .int q114), (0, .ref v0), (1, .int v1), (4, .int v4)]) hx hb dX5_failsAtAllLast_117 hl (by decide) rfl (fun ls hl => ?_)
    refine lv_aload_n hx hb dX5_failsAtAllLast_119 rfl (lv_at hl 1 rfl) ?_
    replace h := o_b h; obtain ⟨x120, h120, h⟩ := h
    refine m_get (C := RX5) (T := TX5) (N := 10) (ci := 5) hx hb hts qi_X5_failsAtAllLast_X5 hown hK.1 hM 4 (ldR_F h120) rfl (by decide) (hts _ q_X5_failsAtAllLast_2) (fun _ h9 => h9) dX5_failsAtAllLast_120 ?_
    refine lv_iload_n hx hb dX5_failsAtAllLast_123 rfl (lv_at hl 2 rfl) ?_
    refine lv_iload hx hb dX5_failsAtAllLast_124 (lv_at hl 0 rfl) ?_
    replace h := o_b h; obtain ⟨_, k126, h⟩ := h
    replace h := o_b h; obtain ⟨q126, h126, h⟩ := h
    refine m_call (va_runV (As := [.int v1, .int q114]) (rest := []) ⟨hx, hb, hml, hown, hts⟩ (c_X3_has l D b0 sz h126) (cwV 2 hts gX5_failsAtAllLast_X3_has rfl rfl rfl (by decide +kernel) ⟨Nat.le_of_ble_eq_true rfl, Nat.le_of_ble_eq_true rfl⟩) ⟨PW.blind, m_recv (ci := 3) rfl hK hM k126, (fun U hU hW => ⟨rfl, PW.call hK hM hS hU hW⟩)⟩ rfl rfl hl.1 rfl (lv_room (Nat.le_of_ble_eq_true rfl)) dX5_failsAtAllLast_126 ⟨(Nat.le_refl _), (Nat.le_refl _)⟩) hS (fun H locs hM hS => ?_)
    refine lv_if_eq (tgt := 152) hx hb dX5_failsAtAllLast_129 (by decide) (fun c129 => ?_) (fun c129 => ?_)
    · replace h := o_t c129 h
      exact w_X5_failsAtAllLast_152 C0 ih _ _ _ _ h _ _ _ hM hS (lv_sub hl [1, 2, 3] rfl)
    replace h := o_f c129 h
    refine lv_aload_n hx hb dX5_failsAtAllLast_132 rfl (lv_at hl 1 rfl) ?_
    refine lv_iload_n hx hb dX5_failsAtAllLast_133 rfl (lv_at hl 2 rfl) ?_
    refine lv_iload hx hb dX5_failsAtAllLast_134 (lv_at hl 0 rfl) ?_
    replace h := o_b h; obtain ⟨_, k136, h⟩ := h
    replace h := o_b h; obtain ⟨q136, h136, h⟩ := h
    refine m_call (va_runV (As := [.int v1, .int q114]) (rest := []) ⟨hx, hb, hml, hown, hts⟩ (c_X5_singlesWithout l D b0 sz h136) (cwV 2 hts gX5_failsAtAllLast_X5_singlesWithout rfl rfl rfl (by decide +kernel) ⟨Nat.le_of_ble_eq_true rfl, Nat.le_of_ble_eq_true rfl⟩) ⟨PW.blind, m_recv (ci := 5) rfl hK hM k136, (fun U hU hW => ⟨rfl, PW.call hK hM hS hU hW⟩)⟩ rfl rfl hl.1 rfl (lv_room (Nat.le_of_ble_eq_true rfl)) dX5_failsAtAllLast_136 ⟨(Nat.le_refl _), (Nat.le_refl _)⟩) hS (fun H locs hM hS => ?_)
    refine lv_if_ne (tgt := 152) hx hb dX5_failsAtAllLast_139 (by decide) (fun c139 => ?_) (fun c139 => ?_)
    · replace h := o_f c139 h
      exact w_X5_failsAtAllLast_152 C0 ih _ _ _ _ h _ _ _ hM hS (lv_sub hl [1, 2, 3] rfl)
    replace h := o_t c139 h
    refine lv_aload_n hx hb dX5_failsAtAllLast_142 rfl (lv_at hl 1 rfl) ?_
    replace h := o_b h; obtain ⟨x143, h143, h⟩ := h
    refine m_get (C := RX5) (T := TX5) (N := 10) (ci := 5) hx hb hts qi_X5_failsAtAllLast_X5 hown hK.1 hM 4 (ldR_F h143) rfl (by decide) (hts _ q_X5_failsAtAllLast_2) (fun _ h9 => h9) dX5_failsAtAllLast_143 ?_
    refine lv_iload_n hx hb dX5_failsAtAllLast_146 rfl (lv_at hl 2 rfl) ?_
    refine lv_iload hx hb dX5_failsAtAllLast_147 (lv_at hl 0 rfl) ?_
    replace h := o_b h; obtain ⟨_, k149, h⟩ := h
    replace h := o_b h; obtain ⟨q149, h149, h⟩ := h
    refine m_call (va_runV (As := [.int v1, .int q114]) (rest := []) ⟨hx, hb, hml, hown, hts⟩ (c_X3_remove l D b0 sz h149) (cwV 2 hts gX5_failsAtAllLast_X3_remove rfl rfl rfl (by decide +kernel) ⟨Nat.le_of_ble_eq_true rfl, Nat.le_of_ble_eq_true rfl⟩) ⟨PW.blind, m_recv (ci := 3) rfl hK hM k149, (fun U hU hW => ⟨rfl, PW.call hK hM hS hU hW⟩)⟩ rfl rfl hl.1 rfl (lv_room (Nat.le_of_ble_eq_true rfl)) dX5_failsAtAllLast_149 ⟨(Nat.le_refl _), (Nat.le_refl _)⟩) hS (fun H locs hM hS => ?_)
    exact w_X5_failsAtAllLast_152 C0 ih _ _ _ _ h _ _ _ hM hS (lv_sub hl [1, 2, 3] rfl)
set_option maxHeartbeats 4000000 in
set_option maxRecDepth 100000 in
theorem w_X5_failsAtAllLast_92 (C0 : CX cX5_failsAtAllLast 6 (some .boolean) wsX5_failsAtAllLast RX5 p s m args meth c D b0) {res : Int32 × mmF} : ∀ (v0 : Nat) (v1 : Int32) (f : mmF), f_X5_failsAtAllLast_92 v0 v1 f = some res → ∀ (H : Heap) (locs : List Loc) (ls : Array Slot), MM vwCl D b0 f sz s H → mS b0 s H locs → lv_has ls 6 [(0, .ref v0), (1, .int v1)] → W p l e ({ frames := 3, cells := 0, slots := 0, locals := 67 } : Room) s m args below meth c H locs 0 0 (MQ below (QW D b0 (some (.int res.1)) res.2 sz) args s 0 0 (fun q => b0 ≤ q)) (F0 m 92 ls []) := by
  obtain ⟨hx, hb, hr, hml, hown, hts, hlocks, hK⟩ := id C0
  intro v0 v1 f h H locs ls hM hS hl
  unfold f_X5_failsAtAllLast_92 at h
  refine lv_aload_n hx hb dX5_failsAtAllLast_92 rfl (lv_at hl 0 rfl) ?_
  replace h := o_b h; obtain ⟨x93, h93, h⟩ := h
  refine m_get (C := RX5) (T := TX5) (N := 10) (ci := 5) hx hb hts qi_X5_failsAtAllLast_X5 hown hK.1 hM 2 (ldR_F h93) rfl (by decide) (hts _ q_X5_failsAtAllLast_1) (fun _ h9 => h9) dX5_failsAtAllLast_93 ?_
  replace h := o_b h; obtain ⟨x96, h96, h⟩ := h
  refine m_get (C := RX2) (T := TX2) (N := 5) (ci := 2) hx hb hts qi_X5_failsAtAllLast_X2 hown hK.1 hM 0 (ldI_F h96) rfl (by decide) (hts _ q_X5_failsAtAllLast_4) (fun _ h9 => h9) dX5_failsAtAllLast_96 ?_
  refine lv_iconst (v := (1 : Int32)) hx hb dX5_failsAtAllLast_99 (by decide) ?_
  refine lv_isub hx hb dX5_failsAtAllLast_100 ?_
  refine lv_istore (lv' := [(4, .int (x96 - (1 : Int32))), (0, .ref v0), (1, .int v1)]) hx hb dX5_failsAtAllLast_101 hl (by decide) rfl (fun ls hl => ?_)
  exact w_X5_failsAtAllLast_103 C0 FU _ _ _ _ h _ _ _ hM hS (lv_sub hl [1, 2, 0] rfl)
set_option maxHeartbeats 4000000 in
set_option maxRecDepth 100000 in
theorem w_X5_failsAtAllLast_86 (C0 : CX cX5_failsAtAllLast 6 (some .boolean) wsX5_failsAtAllLast RX5 p s m args meth c D b0) {k21 : Nat → Int32 → Int32 → Int32 → mmF → Option (Int32 × mmF)} {res : Int32 × mmF} (hk21 : ∀ (v0 : Nat) (v1 : Int32) (v3 : Int32) (v4 : Int32) (f : mmF), k21 v0 v1 v3 v4 f = some res → ∀ (H : Heap) (locs : List Loc) (ls : Array Slot), MM vwCl D b0 f sz s H → mS b0 s H locs → lv_has ls 6 [(0, .ref v0), (1, .int v1), (3, .int v3), (4, .int v4)] → W p l e ({ frames := 3, cells := 0, slots := 0, locals := 67 } : Room) s m args below meth c H locs 0 0 (MQ below (QW D b0 (some (.int res.1)) res.2 sz) args s 0 0 (fun q => b0 ≤ q)) (F0 m 21 ls [])) : ∀ (v0 : Nat) (v1 : Int32) (v3 : Int32) (v4 : Int32) (f : mmF), f_X5_failsAtAllLast_86 k21 v0 v1 v3 v4 f = some res → ∀ (H : Heap) (locs : List Loc) (ls : Array Slot), MM vwCl D b0 f sz s H → mS b0 s H locs → lv_has ls 6 [(0, .ref v0), (1, .int v1), (3, .int v3), (4, .int v4)] → W p l e ({ frames := 3, cells := 0, slots := 0, locals := 67 } : Room) s m args below meth c H locs 0 0 (MQ below (QW D b0 (some (.int res.1)) res.2 sz) args s 0 0 (fun q => b0 ≤ q)) (F0 m 86 ls []) := by
  obtain ⟨hx, hb, hr, hml, hown, hts, hlocks, hK⟩ := id C0
  intro v0 v1 v3 v4 f h H locs ls hM hS hl
  unfold f_X5_failsAtAllLast_86 at h
  refine lv_iinc (v := (v4 + (1 : Int32))) (lv' := [(4, .int (v4 + (1 : Int32))), (0, .ref v0), (1, .int v1), (3, .int v3)]) hx hb dX5_failsAtAllLast_86 hl (k := 3) rfl rfl (by decide) rfl (fun ls hl => ?_)
  refine lv_goto (tgt := 21) hx hb dX5_failsAtAllLast_89 (by decide) ?_
  exact hk21 _ _ _ _ _ h _ _ _ hM hS (lv_sub hl [1, 2, 3, 0] rfl)
set_option maxHeartbeats 4000000 in
set_option maxRecDepth 100000 in
theorem w_X5_failsAtAllLast_21 (C0 : CX cX5_failsAtAllLast 6 (some .boolean) wsX5_failsAtAllLast RX5 p s m args meth c D b0) {res : Int32 × mmF} : ∀ (n : Nat), ∀ (v0 : Nat) (v1 : Int32) (v3 : Int32) (v4 : Int32) (f : mmF), f_X5_failsAtAllLast_21 n v0 v1 v3 v4 f = some res → ∀ (H : Heap) (locs : List Loc) (ls : Array Slot), MM vwCl D b0 f sz s H → mS b0 s H locs → lv_has ls 6 [(0, .ref v0), (1, .int v1), (3, .int v3), (4, .int v4)] → W p l e ({ frames := 3, cells := 0, slots := 0, locals := 67 } : Room) s m args below meth c H locs 0 0 (MQ below (QW D b0 (some (.int res.1)) res.2 sz) args s 0 0 (fun q => b0 ≤ q)) (F0 m 21 ls []) := by
  obtain ⟨hx, hb, hr, hml, hown, hts, hlocks, hK⟩ := id C0
  intro n
  induction n with
  | zero =>
    intro v0 v1 v3 v4 f h
    have h : (none : Option (Int32 × mmF)) = some res := h
    cases h
  | succ n ih =>
    intro v0 v1 v3 v4 f h H locs ls hM hS hl
    rw [f_X5_failsAtAllLast_21] at h
    refine lv_iload hx hb dX5_failsAtAllLast_21 (lv_at hl 3 rfl) ?_
    refine lv_aload_n hx hb dX5_failsAtAllLast_23 rfl (lv_at hl 0 rfl) ?_
    replace h := o_b h; obtain ⟨x24, h24, h⟩ := h
    refine m_get (C := RX5) (T := TX5) (N := 10) (ci := 5) hx hb hts qi_X5_failsAtAllLast_X5 hown hK.1 hM 2 (ldR_F h24) rfl (by decide) (hts _ q_X5_failsAtAllLast_1) (fun _ h9 => h9) dX5_failsAtAllLast_24 ?_
    replace h := o_b h; obtain ⟨x27, h27, h⟩ := h
    refine m_get (C := RX2) (T := TX2) (N := 5) (ci := 2) hx hb hts qi_X5_failsAtAllLast_X2 hown hK.1 hM 0 (ldI_F h27) rfl (by decide) (hts _ q_X5_failsAtAllLast_4) (fun _ h9 => h9) dX5_failsAtAllLast_27 ?_
    refine lv_icmp_ge (tgt := 92) hx hb dX5_failsAtAllLast_30 (by decide) (fun c30 => ?_) (fun c30 => ?_)
    · replace h := o_t c30 h
      exact w_X5_failsAtAllLast_92 C0 _ _ _ h _ _ _ hM hS (lv_sub hl [0, 1] rfl)
    replace h := o_f c30 h
    refine lv_iload_n hx hb dX5_failsAtAllLast_33 rfl (lv_at hl 2 rfl) ?_
    refine lv_if_eq (tgt := 92) hx hb dX5_failsAtAllLast_34 (by decide) (fun c34 => ?_) (fun c34 => ?_)
    · replace h := o_t c34 h
      exact w_X5_failsAtAllLast_92 C0 _ _ _ h _ _ _ hM hS (lv_sub hl [0, 1] rfl)
    replace h := o_f c34 h
    refine lv_aload_n hx hb dX5_failsAtAllLast_37 rfl (lv_at hl 0 rfl) ?_
    replace h := o_b h; obtain ⟨x38, h38, h⟩ := h
    refine m_get (C := RX5) (T := TX5) (N := 10) (ci := 5) hx hb hts qi_X5_failsAtAllLast_X5 hown hK.1 hM 2 (ldR_F h38) rfl (by decide) (hts _ q_X5_failsAtAllLast_1) (fun _ h9 => h9) dX5_failsAtAllLast_38 ?_
    refine lv_iload hx hb dX5_failsAtAllLast_41 (lv_at hl 3 rfl) ?_
    replace h := o_b h; obtain ⟨_, k43, h⟩ := h
    replace h := o_b h; obtain ⟨q43, h43, h⟩ := h
    refine m_call (va_runV (As := [.int v4]) (rest := []) ⟨hx, hb, hml, hown, hts⟩ (c_X2_part l D b0 sz h43) (cwV 1 hts gX5_failsAtAllLast_X2_part rfl rfl rfl (by decide +kernel) ⟨Nat.le_of_ble_eq_true rfl, Nat.le_of_ble_eq_true rfl⟩) ⟨PW.blind, m_recv (ci := 2) rfl hK hM k43, (fun U hU hW => ⟨rfl, PW.call hK hM hS hU hW⟩)⟩ rfl rfl hl.1 rfl (lv_room (Nat.le_of_ble_eq_true rfl)) dX5_failsAtAllLast_43 ⟨(Nat.le_refl _), (Nat.le_refl _)⟩) hS (fun H locs hM hS => ?_)
    refine lv_istore (lv' := [(5, .int q43), (0, .ref v0), (1, .int v1), (3, .int v3), (4, .int v4)]) hx hb dX5_failsAtAllLast_46 hl (by decide) rfl (fun ls hl => ?_)
    refine lv_iload_n hx hb dX5_failsAtAllLast_48 rfl (lv_at hl 3 rfl) ?_
    refine lv_aload_n hx hb dX5_failsAtAllLast_49 rfl (lv_at hl 1 rfl) ?_
    replace h := o_b h; obtain ⟨x50, h50, h⟩ := h
    refine m_get (C := RX5) (T := TX5) (N := 10) (ci := 5) hx hb hts qi_X5_failsAtAllLast_X5 hown hK.1 hM 0 (ldR_F h50) rfl (by decide) (hts _ q_X5_failsAtAllLast_5) (fun _ h9 => h9) dX5_failsAtAllLast_50 ?_
    refine lv_iload hx hb dX5_failsAtAllLast_53 (lv_at hl 0 rfl) ?_
    replace h := o_b h; obtain ⟨_, k55, h⟩ := h
    replace h := o_b h; obtain ⟨q55, h55, h⟩ := h
    refine m_call (va_runV (As := [.int q43]) (rest := [.int v3]) ⟨hx, hb, hml, hown, hts⟩ (c_X6_singles l D b0 sz h55) (cwV 1 hts gX5_failsAtAllLast_X6_singles rfl rfl rfl (by decide +kernel) ⟨Nat.le_of_ble_eq_true rfl, Nat.le_of_ble_eq_true rfl⟩) ⟨PW.blind, m_recv (ci := 6) rfl hK hM k55, (fun U hU hW => ⟨rfl, PW.call hK hM hS hU hW⟩)⟩ rfl rfl hl.1 rfl (lv_room (Nat.le_of_ble_eq_true rfl)) dX5_failsAtAllLast_55 ⟨(Nat.le_refl _), (Nat.le_refl _)⟩) hS (fun H locs hM hS => ?_)
    refine lv_iconst (v := (-1 : Int32)) hx hb dX5_failsAtAllLast_58 (by decide) ?_
    refine lv_ixor hx hb dX5_failsAtAllLast_59 ?_
    refine lv_iand hx hb dX5_failsAtAllLast_60 ?_
    refine lv_if_eq (tgt := 86) hx hb dX5_failsAtAllLast_61 (by decide) (fun c61 => ?_) (fun c61 => ?_)
    · replace h := o_t c61 h
      exact w_X5_failsAtAllLast_86 C0 ih _ _ _ _ _ h _ _ _ hM hS (lv_sub hl [1, 2, 3, 4] rfl)
    replace h := o_f c61 h
    refine lv_iload_n hx hb dX5_failsAtAllLast_64 rfl (lv_at hl 3 rfl) ?_
    refine lv_aload_n hx hb dX5_failsAtAllLast_65 rfl (lv_at hl 1 rfl) ?_
    replace h := o_b h; obtain ⟨x66, h66, h⟩ := h
    refine m_get (C := RX5) (T := TX5) (N := 10) (ci := 5) hx hb hts qi_X5_failsAtAllLast_X5 hown hK.1 hM 0 (ldR_F h66) rfl (by decide) (hts _ q_X5_failsAtAllLast_5) (fun _ h9 => h9) dX5_failsAtAllLast_66 ?_
    refine lv_iload hx hb dX5_failsAtAllLast_69 (lv_at hl 0 rfl) ?_
    replace h := o_b h; obtain ⟨_, k71, h⟩ := h
    replace h := o_b h; obtain ⟨q71, h71, h⟩ := h
    refine m_call (va_runV (As := [.int q43]) (rest := [.int v3]) ⟨hx, hb, hml, hown, hts⟩ (c_X6_singles l D b0 sz h71) (cwV 1 hts gX5_failsAtAllLast_X6_singles rfl rfl rfl (by decide +kernel) ⟨Nat.le_of_ble_eq_true rfl, Nat.le_of_ble_eq_true rfl⟩) ⟨PW.blind, m_recv (ci := 6) rfl hK hM k71, (fun U hU hW => ⟨rfl, PW.call hK hM hS hU hW⟩)⟩ rfl rfl hl.1 rfl (lv_room (Nat.le_of_ble_eq_true rfl)) dX5_failsAtAllLast_71 ⟨(Nat.le_refl _), (Nat.le_refl _)⟩) hS (fun H locs hM hS => ?_)
    refine lv_iand hx hb dX5_failsAtAllLast_74 ?_
    refine lv_istore_n (lv' := [(3, .int (v3 &&& q71)), (5, .int q43), (0, .ref v0), (1, .int v1), (4, .int v4)]) hx hb dX5_failsAtAllLast_75 rfl hl (by decide) rfl (fun ls hl => ?_)
    refine lv_aload_n hx hb dX5_failsAtAllLast_76 rfl (lv_at hl 2 rfl) ?_
    replace h := o_b h; obtain ⟨x77, h77, h⟩ := h
    refine m_get (C := RX5) (T := TX5) (N := 10) (ci := 5) hx hb hts qi_X5_failsAtAllLast_X5 hown hK.1 hM 4 (ldR_F h77) rfl (by decide) (hts _ q_X5_failsAtAllLast_2) (fun _ h9 => h9) dX5_failsAtAllLast_77 ?_
    refine lv_iload_n hx hb dX5_failsAtAllLast_80 rfl (lv_at hl 3 rfl) ?_
    refine lv_iload hx hb dX5_failsAtAllLast_81 (lv_at hl 1 rfl) ?_
    replace h := o_b h; obtain ⟨_, k83, h⟩ := h
    replace h := o_b h; obtain ⟨q83, h83, h⟩ := h
    refine m_call (va_runV (As := [.int v1, .int q43]) (rest := []) ⟨hx, hb, hml, hown, hts⟩ (c_X3_add l D b0 sz h83) (cwV 2 hts gX5_failsAtAllLast_X3_add rfl rfl rfl (by decide +kernel) ⟨Nat.le_of_ble_eq_true rfl, Nat.le_of_ble_eq_true rfl⟩) ⟨PW.blind, m_recv (ci := 3) rfl hK hM k83, (fun U hU hW => ⟨rfl, PW.call hK hM hS hU hW⟩)⟩ rfl rfl hl.1 rfl (lv_room (Nat.le_of_ble_eq_true rfl)) dX5_failsAtAllLast_83 ⟨(Nat.le_refl _), (Nat.le_refl _)⟩) hS (fun H locs hM hS => ?_)
    exact w_X5_failsAtAllLast_86 C0 ih _ _ _ _ _ h _ _ _ hM hS (lv_sub hl [2, 3, 0, 4] rfl)
set_option maxHeartbeats 4000000 in
set_option maxRecDepth 100000 in
theorem w_X5_failsAtAllLast (C0 : CX cX5_failsAtAllLast 6 (some .boolean) wsX5_failsAtAllLast RX5 p s m args meth c D b0) {v0 : Nat} {v1 : Int32} {v2 : Int32} {res : Int32 × mmF} (h : f_X5_failsAtAllLast v0 v1 v2 f = some res) : ∀ (H : Heap) (locs : List Loc) (ls : Array Slot), MM vwCl D b0 f sz s H → mS b0 s H locs → lv_has ls 6 [(0, .ref v0), (1, .int v1), (2, .int v2)] → W p l e ({ frames := 3, cells := 0, slots := 0, locals := 67 } : Room) s m args below meth c H locs 0 0 (MQ below (QW D b0 (some (.int res.1)) res.2 sz) args s 0 0 (fun q => b0 ≤ q)) (F0 m 0 ls []) := by
  obtain ⟨hx, hb, hr, hml, hown, hts, hlocks, hK⟩ := id C0
  intro H locs ls hM hS hl
  unfold f_X5_failsAtAllLast at h
  refine lv_iload_n hx hb dX5_failsAtAllLast_0 rfl (lv_at hl 2 rfl) ?_
  refine lv_iconst (v := (5 : Int32)) hx hb dX5_failsAtAllLast_1 (by decide) ?_
  refine lv_icmp_eq (tgt := 7) hx hb dX5_failsAtAllLast_2 (by decide) (fun c2 => ?_) (fun c2 => ?_)
  · replace h := o_t c2 h
    refine lv_aload_n hx hb dX5_failsAtAllLast_7 rfl (lv_at hl 0 rfl) ?_
    replace h := o_b h; obtain ⟨x8, h8, h⟩ := h
    refine m_get (C := RX5) (T := TX5) (N := 10) (ci := 5) hx hb hts qi_X5_failsAtAllLast_X5 hown hK.1 hM 4 (ldR_F h8) rfl (by decide) (hts _ q_X5_failsAtAllLast_2) (fun _ h9 => h9) dX5_failsAtAllLast_8 ?_
    refine lv_iload_n hx hb dX5_failsAtAllLast_11 rfl (lv_at hl 1 rfl) ?_
    refine lv_iconst (v := (0 : Int32)) hx hb dX5_failsAtAllLast_12 (by decide) ?_
    replace h := o_b h; obtain ⟨_, k13, h⟩ := h
    replace h := o_b h; obtain ⟨q13, h13, h⟩ := h
    refine m_call (va_runV (As := [.int v1, .int (0 : Int32)]) (rest := []) ⟨hx, hb, hml, hown, hts⟩ (c_X3_fill l D b0 sz h13) (cwV 2 hts gX5_failsAtAllLast_X3_fill rfl rfl rfl (by decide +kernel) ⟨Nat.le_of_ble_eq_true rfl, Nat.le_of_ble_eq_true rfl⟩) ⟨PW.blind, m_recv (ci := 3) rfl hK hM k13, (fun U hU hW => ⟨rfl, PW.call hK hM hS hU hW⟩)⟩ rfl rfl hl.1 rfl (lv_room (Nat.le_of_ble_eq_true rfl)) dX5_failsAtAllLast_13 ⟨(Nat.le_refl _), (Nat.le_refl _)⟩) hS (fun H locs hM hS => ?_)
    refine lv_iconst (v := (-1 : Int32)) hx hb dX5_failsAtAllLast_16 (by decide) ?_
    refine lv_istore_n (lv' := [(3, .int (-1 : Int32)), (0, .ref v0), (1, .int v1), (2, .int v2)]) hx hb dX5_failsAtAllLast_17 rfl hl (by decide) rfl (fun ls hl => ?_)
    refine lv_iconst (v := (0 : Int32)) hx hb dX5_failsAtAllLast_18 (by decide) ?_
    refine lv_istore (lv' := [(4, .int (0 : Int32)), (3, .int (-1 : Int32)), (0, .ref v0), (1, .int v1), (2, .int v2)]) hx hb dX5_failsAtAllLast_19 hl (by decide) rfl (fun ls hl => ?_)
    exact w_X5_failsAtAllLast_21 C0 FU _ _ _ _ _ h _ _ _ hM hS (lv_sub hl [2, 3, 1, 0] rfl)
  replace h := o_f c2 h
  refine lv_iconst (v := (0 : Int32)) hx hb dX5_failsAtAllLast_5 (by decide) ?_
  replace h := Option.some.inj h; subst h
  exact W.zret hx hb hr rfl (fun t ht hW => ⟨rfl, by rw [ht]; exact hM.moved hW.alike, hS.F ht⟩) hS.2.2 dX5_failsAtAllLast_6
set_option maxHeartbeats 4000000 in
set_option maxRecDepth 100000 in
theorem c_X5_failsAtAllLast (l : Launch) (D : mmD) (b0 sz : Nat) {v0 : Nat} {v1 : Int32} {v2 : Int32} {f : mmF} {res : Int32 × mmF} (h : f_X5_failsAtAllLast v0 v1 v2 f = some res) : Met l yX5_failsAtAllLast wsX5_failsAtAllLast ({ frames := 3, cells := 0, slots := 0, locals := 67 } : Room) (va_Pc [.ref v0, .int v1, .int v2] (PW D b0 f sz)) (QW D b0 (some (.int res.1)) res.2 sz) 0 0 (fun q => b0 ≤ q) := by
  refine Met.ofW (cc := cX5_failsAtAllLast) (maxL := 6) (ret := (some .boolean)) (by decide) rfl ?_
  intro p e s m args below meth c s₁ B hml hv
  obtain ⟨rfl, hM, hK⟩ := hv
  have hl := lv_entry ([.ref v0, .int v1, .int v2]) (n := 6) (Nat.le_of_ble_eq_true rfl)
  rw [lg_entry_eq]
  generalize (lg_sl ([.ref v0, .int v1, .int v2]) ++ List.replicate (6 - (lg_sl ([.ref v0, .int v1, .int v2])).length) Slot.unset).toArray = ls at hl ⊢
  have hl : lv_has ls 6 [(0, .ref v0), (1, .int v1), (2, .int v2)] := hl
  exact w_X5_failsAtAllLast ⟨B.exec, B.bytes, B.returns, hml, findClass_of_methodNamed B.named, atoms_spec (ws := wsX5_failsAtAllLast) B.pre, B.notSynchronized, hK⟩ h s.heap [] ls hM va_S.rf hl
end S_X5_failsAtAllLast
/-! X5_hasProved -/
set_option maxRecDepth 20000 in
theorem qi_X5_hasProved_X5 : ∀ w ∈ u_ws RX5 TX5 10, w ∈ wsX5_hasProved := by decide +kernel
set_option maxRecDepth 20000 in
theorem q_X5_hasProved_1 : Cond.fieldLink RX5 63 "StageTruths$Proof" "proved" "LStageTruths$Findings;" ∈ wsX5_hasProved := by decide +kernel
set_option maxRecDepth 20000 in
theorem qi_X5_hasProved_X1 : ∀ w ∈ u_ws RX1 TX1 4, w ∈ wsX5_hasProved := by decide +kernel
set_option maxRecDepth 20000 in
theorem q_X5_hasProved_3 : Cond.fieldLink RX5 174 "StageTruths$Findings" "size" "I" ∈ wsX5_hasProved := by decide +kernel
set_option maxRecDepth 20000 in
theorem q_X5_hasProved_4 : Cond.fieldLink RX5 178 "StageTruths$Findings" "sets" "LStageTruths$PartSets;" ∈ wsX5_hasProved := by decide +kernel
set_option maxRecDepth 20000 in
theorem q_X5_hasProved_5 : Cond.fieldLink RX5 30 "StageTruths$Proof" "known" "LStageTruths$Known;" ∈ wsX5_hasProved := by decide +kernel
set_option maxRecDepth 20000 in
theorem qi_X5_hasProved_X2 : ∀ w ∈ u_ws RX2 TX2 5, w ∈ wsX5_hasProved := by decide +kernel
set_option maxRecDepth 20000 in
theorem q_X5_hasProved_7 : Cond.fieldLink RX5 175 "StageTruths$Known" "set" "LStageTruths$PartSets;" ∈ wsX5_hasProved := by decide +kernel
set_option maxRecDepth 20000 in
theorem q_X5_hasProved_8 : Cond.fieldLink RX5 43 "StageTruths$Proof" "used" "LStageTruths$PartSets;" ∈ wsX5_hasProved := by decide +kernel
noncomputable def f_X5_hasProved_65 (k2 : Nat → Int32 → Int32 → Int32 → mmF → Option (Int32 × mmF))  (v0 : Nat) (v1 : Int32) (v2 : Int32) (v3 : Int32) (f : mmF) : Option (Int32 × mmF) :=
  k2 v0 v1 v2 (v3 + (1 : Int32)) f
noncomputable def f_X5_hasProved_2   : Nat → Nat → Int32 → Int32 → Int32 → mmF → Option (Int32 × mmF)
  | 0, _, _, _, _, _ => none
  | n + 1, v0, v1, v2, v3, f =>
    (ldR f v0 5 9).bind fun x4 =>
    (ldI f x4 1 0).bind fun x7 =>
    if x7 ≤ v3 then
    (some ((0 : Int32), f))
    else
    (ldR f v0 5 9).bind fun x14 =>
    (ckO f x14 1).bind fun _ =>
    (f_X1_goal x14 v3 f).bind fun q18 =>
    if q18 = v2 then
    ((ldR f v0 5 9).bind fun x26 =>
    (ldR f x26 1 1).bind fun x29 =>
    (ldR f v0 5 2).bind fun x34 =>
    (ldR f x34 2 1).bind fun x37 =>
    (ckO f x29 3).bind fun _ =>
    (f_X3_isWithin x29 v3 x37 (0 : Int32) f).bind fun q41 =>
    if q41 = 0 then
    (f_X5_hasProved_65 (fun a0 a1 a2 a3 a4 => f_X5_hasProved_2 n a0 a1 a2 a3 a4) v0 v1 v2 v3 f)
    else
    (ldR f v0 5 4).bind fun x48 =>
    (ldR f v0 5 9).bind fun x53 =>
    (ldR f x53 1 1).bind fun x56 =>
    (ckO f x48 3).bind fun _ =>
    (f_X3_copy x48 v1 x56 v3 f).bind fun q60 =>
    some ((1 : Int32), q60))
    else
    f_X5_hasProved_65 (fun a0 a1 a2 a3 a4 => f_X5_hasProved_2 n a0 a1 a2 a3 a4) v0 v1 v2 v3 f
noncomputable def f_X5_hasProved (v0 : Nat) (v1 : Int32) (v2 : Int32) (f : mmF) : Option (Int32 × mmF) :=
  f_X5_hasProved_2 FU v0 v1 v2 (0 : Int32) f
section S_X5_hasProved
variable {p : Program} {l : Launch} {e : Env} {s : State} {m : MethodId} {args : Array Value} {below : List Frame} {meth : Method} {c : Code} {D : mmD} {b0 sz : Nat} {f : mmF}
set_option maxHeartbeats 4000000 in
set_option maxRecDepth 100000 in
theorem w_X5_hasProved_65 (C0 : CX cX5_hasProved 4 (some .boolean) wsX5_hasProved RX5 p s m args meth c D b0) {k2 : Nat → Int32 → Int32 → Int32 → mmF → Option (Int32 × mmF)} {res : Int32 × mmF} (hk2 : ∀ (v0 : Nat) (v1 : Int32) (v2 : Int32) (v3 : Int32) (f : mmF), k2 v0 v1 v2 v3 f = some res → ∀ (H : Heap) (locs : List Loc) (ls : Array Slot), MM vwCl D b0 f sz s H → mS b0 s H locs → lv_has ls 4 [(0, .ref v0), (1, .int v1), (2, .int v2), (3, .int v3)] → W p l e ({ frames := 2, cells := 0, slots := 0, locals := 49 } : Room) s m args below meth c H locs 0 0 (MQ below (QW D b0 (some (.int res.1)) res.2 sz) args s 0 0 (fun q => b0 ≤ q)) (F0 m 2 ls [])) : ∀ (v0 : Nat) (v1 : Int32) (v2 : Int32) (v3 : Int32) (f : mmF), f_X5_hasProved_65 k2 v0 v1 v2 v3 f = some res → ∀ (H : Heap) (locs : List Loc) (ls : Array Slot), MM vwCl D b0 f sz s H → mS b0 s H locs → lv_has ls 4 [(0, .ref v0), (1, .int v1), (2, .int v2), (3, .int v3)] → W p l e ({ frames := 2, cells := 0, slots := 0, locals := 49 } : Room) s m args below meth c H locs 0 0 (MQ below (QW D b0 (some (.int res.1)) res.2 sz) args s 0 0 (fun q => b0 ≤ q)) (F0 m 65 ls []) := by
  obtain ⟨hx, hb, hr, hml, hown, hts, hlocks, hK⟩ := id C0
  intro v0 v1 v2 v3 f h H locs ls hM hS hl
  unfold f_X5_hasProved_65 at h
  refine lv_iinc (v := (v3 + (1 : Int32))) (lv' := [(3, .int (v3 + (1 : Int32))), (0, .ref v0), (1, .int v1), (2, .int v2)]) hx hb dX5_hasProved_65 hl (k := 3) rfl rfl (by decide) rfl (fun ls hl => ?_)
  refine lv_goto (tgt := 2) hx hb dX5_hasProved_68 (by decide) ?_
  exact hk2 _ _ _ _ _ h _ _ _ hM hS (lv_sub hl [1, 2, 3, 0] rfl)
set_option maxHeartbeats 4000000 in
set_option maxRecDepth 100000 in
theorem w_X5_hasProved_2 (C0 : CX cX5_hasProved 4 (some .boolean) wsX5_hasProved RX5 p s m args meth c D b0) {res : Int32 × mmF} : ∀ (n : Nat), ∀ (v0 : Nat) (v1 : Int32) (v2 : Int32) (v3 : Int32) (f : mmF), f_X5_hasProved_2 n v0 v1 v2 v3 f = some res → ∀ (H : Heap) (locs : List Loc) (ls : Array Slot), MM vwCl D b0 f sz s H → mS b0 s H locs → lv_has ls 4 [(0, .ref v0), (1, .int v1), (2, .int v2), (3, .int v3)] → W p l e ({ frames := 2, cells := 0, slots := 0, locals := 49 } : Room) s m args below meth c H locs 0 0 (MQ below (QW D b0 (some (.int res.1)) res.2 sz) args s 0 0 (fun q => b0 ≤ q)) (F0 m 2 ls []) := by
  obtain ⟨hx, hb, hr, hml, hown, hts, hlocks, hK⟩ := id C0
  intro n
  induction n with
  | zero =>
    intro v0 v1 v2 v3 f h
    have h : (none : Option (Int32 × mmF)) = some res := h
    cases h
  | succ n ih =>
    intro v0 v1 v2 v3 f h H locs ls hM hS hl
    rw [f_X5_hasProved_2] at h
    refine lv_iload_n hx hb dX5_hasProved_2 rfl (lv_at hl 3 rfl) ?_
    refine lv_aload_n hx hb dX5_hasProved_3 rfl (lv_at hl 0 rfl) ?_
    replace h := o_b h; obtain ⟨x4, h4, h⟩ := h
    refine m_get (C := RX5) (T := TX5) (N := 10) (ci := 5) hx hb hts qi_X5_hasProved_X5 hown hK.1 hM 9 (ldR_F h4) rfl (by decide) (hts _ q_X5_hasProved_1) (fun _ h9 => h9) dX5_hasProved_4 ?_
    replace h := o_b h; obtain ⟨x7, h7, h⟩ := h
    refine m_get (C := RX1) (T := TX1) (N := 4) (ci := 1) hx hb hts qi_X5_hasProved_X1 hown hK.1 hM 0 (ldI_F h7) rfl (by decide) (hts _ q_X5_hasProved_3) (fun _ h9 => h9) dX5_hasProved_7 ?_
    refine lv_icmp_ge (tgt := 71) hx hb dX5_hasProved_10 (by decide) (fun c10 => ?_) (fun c10 => ?_)
    · replace h := o_t c10 h
      refine lv_iconst (v := (0 : Int32)) hx hb dX5_hasProved_71 (by decide) ?_
      replace h := Option.some.inj h; subst h
      exact W.zret hx hb hr rfl (fun t ht hW => ⟨rfl, by rw [ht]; exact hM.moved hW.alike, hS.F ht⟩) hS.2.2 dX5_hasProved_72
    replace h := o_f c10 h
    refine lv_aload_n hx hb dX5_hasProved_13 rfl (lv_at hl 0 rfl) ?_
    replace h := o_b h; obtain ⟨x14, h14, h⟩ := h
    refine m_get (C := RX5) (T := TX5) (N := 10) (ci := 5) hx hb hts qi_X5_hasProved_X5 hown hK.1 hM 9 (ldR_F h14) rfl (by decide) (hts _ q_X5_hasProved_1) (fun _ h9 => h9) dX5_hasProved_14 ?_
    refine lv_iload_n hx hb dX5_hasProved_17 rfl (lv_at hl 3 rfl) ?_
    replace h := o_b h; obtain ⟨_, k18, h⟩ := h
    replace h := o_b h; obtain ⟨q18, h18, h⟩ := h
    refine m_call (va_runV (As := [.int v3]) (rest := []) ⟨hx, hb, hml, hown, hts⟩ (c_X1_goal l D b0 sz h18) (cwV 1 hts gX5_hasProved_X1_goal rfl rfl rfl (by decide +kernel) ⟨Nat.le_of_ble_eq_true rfl, Nat.le_of_ble_eq_true rfl⟩) ⟨PW.blind, m_recv (ci := 1) rfl hK hM k18, (fun U hU hW => ⟨rfl, PW.call hK hM hS hU hW⟩)⟩ rfl rfl hl.1 rfl (lv_room (Nat.le_of_ble_eq_true rfl)) dX5_hasProved_18 ⟨(Nat.le_refl _), (Nat.le_refl _)⟩) hS (fun H locs hM hS => ?_)
    refine lv_iload_n hx hb dX5_hasProved_21 rfl (lv_at hl 2 rfl) ?_
    refine lv_icmp_ne (tgt := 65) hx hb dX5_hasProved_22 (by decide) (fun c22 => ?_) (fun c22 => ?_)
    · replace h := o_f c22 h
      exact w_X5_hasProved_65 C0 ih _ _ _ _ _ h _ _ _ hM hS (lv_sub hl [0, 1, 2, 3] rfl)
    replace h := o_t c22 h
    refine lv_aload_n hx hb dX5_hasProved_25 rfl (lv_at hl 0 rfl) ?_
    replace h := o_b h; obtain ⟨x26, h26, h⟩ := h
    refine m_get (C := RX5) (T := TX5) (N := 10) (ci := 5) hx hb hts qi_X5_hasProved_X5 hown hK.1 hM 9 (ldR_F h26) rfl (by decide) (hts _ q_X5_hasProved_1) (fun _ h9 => h9) dX5_hasProved_26 ?_
    replace h := o_b h; obtain ⟨x29, h29, h⟩ := h
    refine m_get (C := RX1) (T := TX1) (N := 4) (ci := 1) hx hb hts qi_X5_hasProved_X1 hown hK.1 hM 1 (ldR_F h29) rfl (by decide) (hts _ q_X5_hasProved_4) (fun _ h9 => h9) dX5_hasProved_29 ?_
    refine lv_iload_n hx hb dX5_hasProved_32 rfl (lv_at hl 3 rfl) ?_
    refine lv_aload_n hx hb dX5_hasProved_33 rfl (lv_at hl 0 rfl) ?_
    replace h := o_b h; obtain ⟨x34, h34, h⟩ := h
    refine m_get (C := RX5) (T := TX5) (N := 10) (ci := 5) hx hb hts qi_X5_hasProved_X5 hown hK.1 hM 2 (ldR_F h34) rfl (by decide) (hts _ q_X5_hasProved_5) (fun _ h9 => h9) dX5_hasProved_34 ?_
    replace h := o_b h; obtain ⟨x37, h37, h⟩ := h
    refine m_get (C := RX2) (T := TX2) (N := 5) (ci := 2) hx hb hts qi_X5_hasProved_X2 hown hK.1 hM 1 (ldR_F h37) rfl (by decide) (hts _ q_X5_hasProved_7) (fun _ h9 => h9) dX5_hasProved_37 ?_
    refine lv_iconst (v := (0 : Int32)) hx hb dX5_hasProved_40 (by decide) ?_
    replace h := o_b h; obtain ⟨_, k41, h⟩ := h
    replace h := o_b h; obtain ⟨q41, h41, h⟩ := h
    refine m_call (va_runV (As := [.int v3, .ref x37, .int (0 : Int32)]) (rest := []) ⟨hx, hb, hml, hown, hts⟩ (c_X3_isWithin l D b0 sz h41) (cwV 3 hts gX5_hasProved_X3_isWithin rfl rfl rfl (by decide +kernel) ⟨Nat.le_of_ble_eq_true rfl, Nat.le_of_ble_eq_true rfl⟩) ⟨PW.blind, m_recv (ci := 3) rfl hK hM k41, (fun U hU hW => ⟨rfl, PW.call hK hM hS hU hW⟩)⟩ rfl rfl hl.1 rfl (lv_room (Nat.le_of_ble_eq_true rfl)) dX5_hasProved_41 ⟨(Nat.le_refl _), (Nat.le_refl _)⟩) hS (fun H locs hM hS => ?_)
    refine lv_if_eq (tgt := 65) hx hb dX5_hasProved_44 (by decide) (fun c44 => ?_) (fun c44 => ?_)
    · replace h := o_t c44 h
      exact w_X5_hasProved_65 C0 ih _ _ _ _ _ h _ _ _ hM hS (lv_sub hl [0, 1, 2, 3] rfl)
    replace h := o_f c44 h
    refine lv_aload_n hx hb dX5_hasProved_47 rfl (lv_at hl 0 rfl) ?_
    replace h := o_b h; obtain ⟨x48, h48, h⟩ := h
    refine m_get (C := RX5) (T := TX5) (N := 10) (ci := 5) hx hb hts qi_X5_hasProved_X5 hown hK.1 hM 4 (ldR_F h48) rfl (by decide) (hts _ q_X5_hasProved_8) (fun _ h9 => h9) dX5_hasProved_48 ?_
    refine lv_iload_n hx hb dX5_hasProved_51 rfl (lv_at hl 1 rfl) ?_
    refine lv_aload_n hx hb dX5_hasProved_52 rfl (lv_at hl 0 rfl) ?_
    replace h := o_b h; obtain ⟨x53, h53, h⟩ := h
    refine m_get (C := RX5) (T := TX5) (N := 10) (ci := 5) hx hb hts qi_X5_hasProved_X5 hown hK.1 hM 9 (ldR_F h53) rfl (by decide) (hts _ q_X5_hasProved_1) (fun _ h9 => h9) dX5_hasProved_53 ?_
    replace h := o_b h; obtain ⟨x56, h56, h⟩ := h
    refine m_get (C := RX1) (T := TX1) (N := 4) (ci := 1) hx hb hts qi_X5_hasProved_X1 hown hK.1 hM 1 (ldR_F h56) rfl (by decide) (hts _ q_X5_hasProved_4) (fun _ h9 => h9) dX5_hasProved_56 ?_
    refine lv_iload_n hx hb dX5_hasProved_59 rfl (lv_at hl 3 rfl) ?_
    replace h := o_b h; obtain ⟨_, k60, h⟩ := h
    replace h := o_b h; obtain ⟨q60, h60, h⟩ := h
    refine m_call (va_runV (As := [.int v1, .ref x56, .int v3]) (rest := []) ⟨hx, hb, hml, hown, hts⟩ (c_X3_copy l D b0 sz h60) (cwV 3 hts gX5_hasProved_X3_copy rfl rfl rfl (by decide +kernel) ⟨Nat.le_of_ble_eq_true rfl, Nat.le_of_ble_eq_true rfl⟩) ⟨PW.blind, m_recv (ci := 3) rfl hK hM k60, (fun U hU hW => ⟨rfl, PW.call hK hM hS hU hW⟩)⟩ rfl rfl hl.1 rfl (lv_room (Nat.le_of_ble_eq_true rfl)) dX5_hasProved_60 ⟨(Nat.le_refl _), (Nat.le_refl _)⟩) hS (fun H locs hM hS => ?_)
    refine lv_iconst (v := (1 : Int32)) hx hb dX5_hasProved_63 (by decide) ?_
    replace h := Option.some.inj h; subst h
    exact W.zret hx hb hr rfl (fun t ht hW => ⟨rfl, by rw [ht]; exact hM.moved hW.alike, hS.F ht⟩) hS.2.2 dX5_hasProved_64
set_option maxHeartbeats 4000000 in
set_option maxRecDepth 100000 in
theorem w_X5_hasProved (C0 : CX cX5_hasProved 4 (some .boolean) wsX5_hasProved RX5 p s m args meth c D b0) {v0 : Nat} {v1 : Int32} {v2 : Int32} {res : Int32 × mmF} (h : f_X5_hasProved v0 v1 v2 f = some res) : ∀ (H : Heap) (locs : List Loc) (ls : Array Slot), MM vwCl D b0 f sz s H → mS b0 s H locs → lv_has ls 4 [(0, .ref v0), (1, .int v1), (2, .int v2)] → W p l e ({ frames := 2, cells := 0, slots := 0, locals := 49 } : Room) s m args below meth c H locs 0 0 (MQ below (QW D b0 (some (.int res.1)) res.2 sz) args s 0 0 (fun q => b0 ≤ q)) (F0 m 0 ls []) := by
  obtain ⟨hx, hb, hr, hml, hown, hts, hlocks, hK⟩ := id C0
  intro H locs ls hM hS hl
  unfold f_X5_hasProved at h
  refine lv_iconst (v := (0 : Int32)) hx hb dX5_hasProved_0 (by decide) ?_
  refine lv_istore_n (lv' := [(3, .int (0 : Int32)), (0, .ref v0), (1, .int v1), (2, .int v2)]) hx hb dX5_hasProved_1 rfl hl (by decide) rfl (fun ls hl => ?_)
  exact w_X5_hasProved_2 C0 FU _ _ _ _ _ h _ _ _ hM hS (lv_sub hl [1, 2, 3, 0] rfl)
set_option maxHeartbeats 4000000 in
set_option maxRecDepth 100000 in
theorem c_X5_hasProved (l : Launch) (D : mmD) (b0 sz : Nat) {v0 : Nat} {v1 : Int32} {v2 : Int32} {f : mmF} {res : Int32 × mmF} (h : f_X5_hasProved v0 v1 v2 f = some res) : Met l yX5_hasProved wsX5_hasProved ({ frames := 2, cells := 0, slots := 0, locals := 49 } : Room) (va_Pc [.ref v0, .int v1, .int v2] (PW D b0 f sz)) (QW D b0 (some (.int res.1)) res.2 sz) 0 0 (fun q => b0 ≤ q) := by
  refine Met.ofW (cc := cX5_hasProved) (maxL := 4) (ret := (some .boolean)) (by decide) rfl ?_
  intro p e s m args below meth c s₁ B hml hv
  obtain ⟨rfl, hM, hK⟩ := hv
  have hl := lv_entry ([.ref v0, .int v1, .int v2]) (n := 4) (Nat.le_of_ble_eq_true rfl)
  rw [lg_entry_eq]
  generalize (lg_sl ([.ref v0, .int v1, .int v2]) ++ List.replicate (4 - (lg_sl ([.ref v0, .int v1, .int v2])).length) Slot.unset).toArray = ls at hl ⊢
  have hl : lv_has ls 4 [(0, .ref v0), (1, .int v1), (2, .int v2)] := hl
  exact w_X5_hasProved ⟨B.exec, B.bytes, B.returns, hml, findClass_of_methodNamed B.named, atoms_spec (ws := wsX5_hasProved) B.pre, B.notSynchronized, hK⟩ h s.heap [] ls hM va_S.rf hl
end S_X5_hasProved
