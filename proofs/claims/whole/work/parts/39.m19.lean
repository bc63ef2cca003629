/-! X10_begins -/
set_option maxRecDepth 20000 in
theorem qi_X10_begins_X10 : ∀ w ∈ u_ws RX10 TX10 25, w ∈ wsX10_begins := by decide +kernel
set_option maxRecDepth 20000 in
theorem q_X10_begins_1 : Cond.fieldLink RX10 54 "StageTruthsModel" "goal" "[I" ∈ wsX10_begins := by decide +kernel
set_option maxRecDepth 20000 in
theorem q_X10_begins_2 : Cond.fieldLink RX10 38 "StageTruthsModel" "op" "[I" ∈ wsX10_begins := by decide +kernel
set_option maxRecDepth 20000 in
theorem q_X10_begins_3 : Cond.fieldLink RX10 60 "StageTruthsModel" "option" "[I" ∈ wsX10_begins := by decide +kernel
set_option maxRecDepth 20000 in
theorem q_X10_begins_4 : Cond.fieldLink RX10 57 "StageTruthsModel" "phase" "[I" ∈ wsX10_begins := by decide +kernel
set_option maxRecDepth 20000 in
theorem q_X10_begins_5 : Cond.fieldLink RX10 41 "StageTruthsModel" "left" "[I" ∈ wsX10_begins := by decide +kernel
noncomputable def f_X10_begins_118   (v0 : Nat) (v1 : Int32) (t0 : Nat) (t1 : Int32) (t2 : Int32) (f : mmF) : Option (Int32 × mmF) :=
  (stA 0 f t0 t1 t2).bind fun f118 =>
  (ckO f118 v0 10).bind fun _ =>
  (f_X10_tries v0 v1 f118).bind fun q121 =>
  some (q121.1, q121.2)
noncomputable def f_X10_begins (v0 : Nat) (v1 : Int32) (f : mmF) : Option (Int32 × mmF) :=
  (ldR f v0 10 21).bind fun x1 =>
  (ldA 0 f x1 v1).bind fun x5 =>
  (ldR f v0 10 15).bind fun x8 =>
  (ldA 0 f x8 x5).bind fun x12 =>
  if x12 = (7 : Int32) then
  ((ldR f v0 10 22).bind fun x19 =>
  (stA 0 f x19 v1 (1 : Int32)).bind fun f24 =>
  (ldR f24 v0 10 16).bind fun x28 =>
  (ldA 0 f24 x28 x5).bind fun x32 =>
  (ckO f24 v0 10).bind fun _ =>
  (f_X10_leadsOn v0 v1 x32 f24).bind fun q33 =>
  some ((2 : Int32), q33))
  else
  (ckO f v0 10).bind fun _ =>
  (f_X10_next v0 v1 (2 : Int32) (8 : Int32) f).bind fun q43 =>
  if q43 = (-5 : Int32) then
  ((ldR f v0 10 23).bind fun x97 =>
  (ldR f v0 10 15).bind fun x102 =>
  (ldA 0 f x102 x5).bind fun x106 =>
  if x106 = (8 : Int32) then
  (f_X10_begins_118 v0 v1 x97 v1 (-2 : Int32) f)
  else
  f_X10_begins_118 v0 v1 x97 v1 (0 : Int32) f)
  else
  (ldR f v0 10 22).bind fun x54 =>
  (stA 0 f x54 v1 (2 : Int32)).bind fun f59 =>
  (ldR f59 v0 10 23).bind fun x61 =>
  (stA 0 f59 x61 v1 q43).bind fun f66 =>
  (ckO f66 v0 10).bind fun _ =>
  (f_X10_leadsOn v0 v1 x5 f66).bind fun q70 =>
  (ckO q70 v0 10).bind fun _ =>
  (f_X10_loses v0 (v1 + (1 : Int32)) q43 q70).bind fun q78 =>
  (ldR q78 v0 10 16).bind fun x86 =>
  (ldA 0 q78 x86 q43).bind fun x90 =>
  (ckO q78 v0 10).bind fun _ =>
  (f_X10_gets v0 (v1 + (1 : Int32)) x90 q78).bind fun q91 =>
  some ((2 : Int32), q91)
section S_X10_begins
variable {p : Program} {l : Launch} {e : Env} {s : State} {m : MethodId} {args : Array Value} {below : List Frame} {meth : Method} {c : Code} {D : mmD} {b0 sz : Nat} {f : mmF}
set_option maxHeartbeats 4000000 in
set_option maxRecDepth 100000 in
theorem w_X10_begins_118 (C0 : CX cX10_begins 4 (some .int) wsX10_begins RX10 p s m args meth c D b0) {res : Int32 × mmF} : ∀ (v0 : Nat) (v1 : Int32) (t0 : Nat) (t1 : Int32) (t2 : Int32) (f : mmF), f_X10_begins_118 v0 v1 t0 t1 t2 f = some res → ∀ (H : Heap) (locs : List Loc) (ls : Array Slot), MM vwCl D b0 f sz s H → mS b0 s H locs → lv_has ls 4 [(0, .ref v0), (1, .int v1)] → W p l e ({ frames := 7, cells := 0, slots := 0, locals := 169 } : Room) s m args below meth c H locs 0 0 (MQ below (QW D b0 (some (.int res.1)) res.2 sz) args s 0 0 (fun q => b0 ≤ q)) (F0 m 118 ls [.int t2, .int t1, .ref t0]) := by
  obtain ⟨hx, hb, hr, hml, hown, hts, hlocks, hK⟩ := id C0
  intro v0 v1 t0 t1 t2 f h H locs ls hM hS hl
  unfold f_X10_begins_118 at h
  replace h := o_b h; obtain ⟨f118, h118, h⟩ := h
  refine m_iast hx hb hK.1 hM hS rfl h118 dX10_begins_118 (fun H locs hM hS => ?_)
  refine lv_aload_n hx hb dX10_begins_119 rfl (lv_at hl 0 rfl) ?_
  refine lv_iload_n hx hb dX10_begins_120 rfl (lv_at hl 1 rfl) ?_
  replace h := o_b h; obtain ⟨_, k121, h⟩ := h
  replace h := o_b h; obtain ⟨q121, h121, h⟩ := h
  refine m_call (va_runV (As := [.int v1]) (rest := []) ⟨hx, hb, hml, hown, hts⟩ (c_X10_tries l D b0 sz h121) (cwV 1 hts gX10_begins_X10_tries rfl rfl rfl (by decide +kernel) ⟨Nat.le_of_ble_eq_true rfl, Nat.le_of_ble_eq_true rfl⟩) ⟨PW.blind, m_recv (ci := 10) rfl hK hM k121, (fun U hU hW => ⟨rfl, PW.call hK hM hS hU hW⟩)⟩ rfl rfl hl.1 rfl (lv_room (Nat.le_of_ble_eq_true rfl)) dX10_begins_121 ⟨(Nat.le_refl _), (Nat.le_refl _)⟩) hS (fun H locs hM hS => ?_)
  replace h := Option.some.inj h; subst h
  exact W.iret hx hb hr (fun t ht hW => ⟨rfl, by rw [ht]; exact hM.moved hW.alike, hS.F ht⟩) hS.2.2 dX10_begins_124
set_option maxHeartbeats 4000000 in
set_option maxRecDepth 100000 in
theorem w_X10_begins (C0 : CX cX10_begins 4 (some .int) wsX10_begins RX10 p s m args meth c D b0) {v0 : Nat} {v1 : Int32} {res : Int32 × mmF} (h : f_X10_begins v0 v1 f = some res) : ∀ (H : Heap) (locs : List Loc) (ls : Array Slot), MM vwCl D b0 f sz s H → mS b0 s H locs → lv_has ls 4 [(0, .ref v0), (1, .int v1)] → W p l e ({ frames := 7, cells := 0, slots := 0, locals := 169 } : Room) s m args below meth c H locs 0 0 (MQ below (QW D b0 (some (.int res.1)) res.2 sz) args s 0 0 (fun q => b0 ≤ q)) (F0 m 0 ls []) := by
  obtain ⟨hx, hb, hr, hml, hown, hts, hlocks, hK⟩ := id C0
  intro H locs ls hM hS hl
  unfold f_X10_begins at h
  refine lv_aload_n hx hb dX10_begins_0 rfl (lv_at hl 0 rfl) ?_
  replace h := o_b h; obtain ⟨x1, h1, h⟩ := h
  refine m_get (C := RX10) (T := TX10) (N := 25) (ci := 10) hx hb hts qi_X10_begins_X10 hown hK.1 hM 21 (ldR_F h1) rfl (by decide) (hts _ q_X10_begins_1) (fun _ h9 => h9) dX10_begins_1 ?_
  refine lv_iload_n hx hb dX10_begins_4 rfl (lv_at hl 1 rfl) ?_
  replace h := o_b h; obtain ⟨x5, h5, h⟩ := h
  refine m_iald hx hb hK.1 hM hS rfl h5 dX10_begins_5 ?_
  refine lv_istore_n (lv' := [(2, .int x5), (0, .ref v0), (1, .int v1)]) hx hb dX10_begins_6 rfl hl (by decide) rfl (fun ls hl => ?_)
  refine lv_aload_n hx hb dX10_begins_7 rfl (lv_at hl 1 rfl) ?_
  replace h := o_b h; obtain ⟨x8, h8, h⟩ := h
  refine m_get (C := RX10) (T := TX10) (N := 25) (ci := 10) hx hb hts qi_X10_begins_X10 hown hK.1 hM 15 (ldR_F h8) rfl (by decide) (hts _ q_X10_begins_2) (fun _ h9 => h9) dX10_begins_8 ?_
  refine lv_iload_n hx hb dX10_begins_11 rfl (lv_at hl 0 rfl) ?_
  replace h := o_b h; obtain ⟨x12, h12, h⟩ := h
  refine m_iald hx hb hK.1 hM hS rfl h12 dX10_begins_12 ?_
  refine lv_bipush (v := (7 : Int32)) hx hb dX10_begins_13 (by decide) ?_
  refine lv_icmp_ne (tgt := 38) hx hb dX10_begins_15 (by decide) (fun c15 => ?_) (fun c15 => ?_)
  · replace h := o_f c15 h
    refine lv_aload_n hx hb dX10_begins_38 rfl (lv_at hl 1 rfl) ?_
    refine lv_iload_n hx hb dX10_begins_39 rfl (lv_at hl 2 rfl) ?_
    refine lv_iconst (v := (2 : Int32)) hx hb dX10_begins_40 (by decide) ?_
    refine lv_bipush (v := (8 : Int32)) hx hb dX10_begins_41 (by decide) ?_
    replace h := o_b h; obtain ⟨_, k43, h⟩ := h
    replace h := o_b h; obtain ⟨q43, h43, h⟩ := h
    refine m_call (va_runV (As := [.int v1, .int (2 : Int32), .int (8 : Int32)]) (rest := []) ⟨hx, hb, hml, hown, hts⟩ (c_X10_next l D b0 sz h43) (cwV 3 hts gX10_begins_X10_next rfl rfl rfl (by decide +kernel) ⟨Nat.le_of_ble_eq_true rfl, Nat.le_of_ble_eq_true rfl⟩) ⟨PW.blind, m_recv (ci := 10) rfl hK hM k43, (fun U hU hW => ⟨rfl, PW.call hK hM hS hU hW⟩)⟩ rfl rfl hl.1 rfl (lv_room (Nat.le_of_ble_eq_true rfl)) dX10_begins_43 ⟨(Nat.le_refl _), (Nat.le_refl _)⟩) hS (fun H locs hM hS => ?_)
    refine lv_istore_n (lv' := [(3, .int q43), (2, .int x5), (0, .ref v0), (1, .int v1)]) hx hb dX10_begins_46 rfl hl (by decide) rfl (fun ls hl => ?_)
    refine lv_iload_n hx hb dX10_begins_47 rfl (lv_at hl 0 rfl) ?_
    refine lv_bipush (v := (-5 : Int32)) hx hb dX10_begins_48 (by decide) ?_
    refine lv_icmp_eq (tgt := 96) hx hb dX10_begins_50 (by decide) (fun c50 => ?_) (fun c50 => ?_)
    · replace h := o_t c50 h
      refine lv_aload_n hx hb dX10_begins_96 rfl (lv_at hl 2 rfl) ?_
      replace h := o_b h; obtain ⟨x97, h97, h⟩ := h
      refine m_get (C := RX10) (T := TX10) (N := 25) (ci := 10) hx hb hts qi_X10_begins_X10 hown hK.1 hM 23 (ldR_F h97) rfl (by decide) (hts _ q_X10_begins_3) (fun _ h9 => h9) dX10_begins_97 ?_
      refine lv_iload_n hx hb dX10_begins_100 rfl (lv_at hl 3 rfl) ?_
      refine lv_aload_n hx hb dX10_begins_101 rfl (lv_at hl 2 rfl) ?_
      replace h := o_b h; obtain ⟨x102, h102, h⟩ := h
      refine m_get (C := RX10) (T := TX10) (N := 25) (ci := 10) hx hb hts qi_X10_begins_X10 hown hK.1 hM 15 (ldR_F h102) rfl (by decide) (hts _ q_X10_begins_2) (fun _ h9 => h9) dX10_begins_102 ?_
      refine lv_iload_n hx hb dX10_begins_105 rfl (lv_at hl 1 rfl) ?_
      replace h := o_b h; obtain ⟨x106, h106, h⟩ := h
      refine m_iald hx hb hK.1 hM hS rfl h106 dX10_begins_106 ?_
      refine lv_bipush (v := (8 : Int32)) hx hb dX10_begins_107 (by decide) ?_
      refine lv_icmp_ne (tgt := 117) hx hb dX10_begins_109 (by decide) (fun c109 => ?_) (fun c109 => ?_)
      · replace h := o_f c109 h
        refine lv_iconst (v := (0 : Int32)) hx hb dX10_begins_117 (by decide) ?_
        exact w_X10_begins_118 C0 _ _ _ _ _ _ h _ _ _ hM hS (lv_sub hl [2, 3] rfl)
      replace h := o_t c109 h
      refine lv_bipush (v := (-2 : Int32)) hx hb dX10_begins_112 (by decide) ?_
      refine lv_goto (tgt := 118) hx hb dX10_begins_114 (by decide) ?_
      exact w_X10_begins_118 C0 _ _ _ _ _ _ h _ _ _ hM hS (lv_sub hl [2, 3] rfl)
    replace h := o_f c50 h
    refine lv_aload_n hx hb dX10_begins_53 rfl (lv_at hl 2 rfl) ?_
    replace h := o_b h; obtain ⟨x54, h54, h⟩ := h
    refine m_get (C := RX10) (T := TX10) (N := 25) (ci := 10) hx hb hts qi_X10_begins_X10 hown hK.1 hM 22 (ldR_F h54) rfl (by decide) (hts _ q_X10_begins_4) (fun _ h9 => h9) dX10_begins_54 ?_
    refine lv_iload_n hx hb dX10_begins_57 rfl (lv_at hl 3 rfl) ?_
    refine lv_iconst (v := (2 : Int32)) hx hb dX10_begins_58 (by decide) ?_
    replace h := o_b h; obtain ⟨f59, h59, h⟩ := h
    refine m_iast hx hb hK.1 hM hS rfl h59 dX10_begins_59 (fun H locs hM hS => ?_)
    refine lv_aload_n hx hb dX10_begins_60 rfl (lv_at hl 2 rfl) ?_
    replace h := o_b h; obtain ⟨x61, h61, h⟩ := h
    refine m_get (C := RX10) (T := TX10) (N := 25) (ci := 10) hx hb hts qi_X10_begins_X10 hown hK.1 hM 23 (ldR_F h61) rfl (by decide) (hts _ q_X10_begins_3) (fun _ h9 => h9) dX10_begins_61 ?_
    refine lv_iload_n hx hb dX10_begins_64 rfl (lv_at hl 3 rfl) ?_
    refine lv_iload_n hx hb dX10_begins_65 rfl (lv_at hl 0 rfl) ?_
    replace h := o_b h; obtain ⟨f66, h66, h⟩ := h
    refine m_iast hx hb hK.1 hM hS rfl h66 dX10_begins_66 (fun H locs hM hS => ?_)
    refine lv_aload_n hx hb dX10_begins_67 rfl (lv_at hl 2 rfl) ?_
    refine lv_iload_n hx hb dX10_begins_68 rfl (lv_at hl 3 rfl) ?_
    refine lv_iload_n hx hb dX10_begins_69 rfl (lv_at hl 1 rfl) ?_
    replace h := o_b h; obtain ⟨_, k70, h⟩ := h
    replace h := o_b h; obtain ⟨q70, h70, h⟩ := h
    refine m_call (va_runV (As := [.int v1, .int x5]) (rest := []) ⟨hx, hb, hml, hown, hts⟩ (c_X10_leadsOn l D b0 sz h70) (cwV 2 hts gX10_begins_X10_leadsOn rfl rfl rfl (by decide +kernel) ⟨Nat.le_of_ble_eq_true rfl, Nat.le_of_ble_eq_true rfl⟩) ⟨PW.blind, m_recv (ci := 10) rfl hK hM k70, (fun U hU hW => ⟨rfl, PW.call hK hM hS hU hW⟩)⟩ rfl rfl hl.1 rfl (lv_room (Nat.le_of_ble_eq_true rfl)) dX10_begins_70 ⟨(Nat.le_refl _), (Nat.le_refl _)⟩) hS (fun H locs hM hS => ?_)
    refine lv_aload_n hx hb dX10_begins_73 rfl (lv_at hl 2 rfl) ?_
    refine lv_iload_n hx hb dX10_begins_74 rfl (lv_at hl 3 rfl) ?_
    refine lv_iconst (v := (1 : Int32)) hx hb dX10_begins_75 (by decide) ?_
    refine lv_iadd hx hb dX10_begins_76 ?_
    refine lv_iload_n hx hb dX10_begins_77 rfl (lv_at hl 0 rfl) ?_
    replace h := o_b h; obtain ⟨_, k78, h⟩ := h
    replace h := o_b h; obtain ⟨q78, h78, h⟩ := h
    refine m_call (va_runV (As := [.int (v1 + (1 : Int32)), .int q43]) (rest := []) ⟨hx, hb, hml, hown, hts⟩ (c_X10_loses l D b0 sz h78) (cwV 2 hts gX10_begins_X10_loses rfl rfl rfl (by decide +kernel) ⟨Nat.le_of_ble_eq_true rfl, Nat.le_of_ble_eq_true rfl⟩) ⟨PW.blind, m_recv (ci := 10) rfl hK hM k78, (fun U hU hW => ⟨rfl, PW.call hK hM hS hU hW⟩)⟩ rfl rfl hl.1 rfl (lv_room (Nat.le_of_ble_eq_true rfl)) dX10_begins_78 ⟨(Nat.le_refl _), (Nat.le_refl _)⟩) hS (fun H locs hM hS => ?_)
    refine lv_aload_n hx hb dX10_begins_81 rfl (lv_at hl 2 rfl) ?_
    refine lv_iload_n hx hb dX10_begins_82 rfl (lv_at hl 3 rfl) ?_
    refine lv_iconst (v := (1 : Int32)) hx hb dX10_begins_83 (by decide) ?_
    refine lv_iadd hx hb dX10_begins_84 ?_
    refine lv_aload_n hx hb dX10_begins_85 rfl (lv_at hl 2 rfl) ?_
    replace h := o_b h; obtain ⟨x86, h86, h⟩ := h
    refine m_get (C := RX10) (T := TX10) (N := 25) (ci := 10) hx hb hts qi_X10_begins_X10 hown hK.1 hM 16 (ldR_F h86) rfl (by decide) (hts _ q_X10_begins_5) (fun _ h9 => h9) dX10_begins_86 ?_
    refine lv_iload_n hx hb dX10_begins_89 rfl (lv_at hl 0 rfl) ?_
    replace h := o_b h; obtain ⟨x90, h90, h⟩ := h
    refine m_iald hx hb hK.1 hM hS rfl h90 dX10_begins_90 ?_
    replace h := o_b h; obtain ⟨_, k91, h⟩ := h
    replace h := o_b h; obtain ⟨q91, h91, h⟩ := h
    refine m_call (va_runV (As := [.int (v1 + (1 : Int32)), .int x90]) (rest := []) ⟨hx, hb, hml, hown, hts⟩ (c_X10_gets l D b0 sz h91) (cwV 2 hts gX10_begins_X10_gets rfl rfl rfl (by decide +kernel) ⟨Nat.le_of_ble_eq_true rfl, Nat.le_of_ble_eq_true rfl⟩) ⟨PW.blind, m_recv (ci := 10) rfl hK hM k91, (fun U hU hW => ⟨rfl, PW.call hK hM hS hU hW⟩)⟩ rfl rfl hl.1 rfl (lv_room (Nat.le_of_ble_eq_true rfl)) dX10_begins_91 ⟨(Nat.le_refl _), (Nat.le_refl _)⟩) hS (fun H locs hM hS => ?_)
    refine lv_iconst (v := (2 : Int32)) hx hb dX10_begins_94 (by decide) ?_
    replace h := Option.some.inj h; subst h
    exact W.iret hx hb hr (fun t ht hW => ⟨rfl, by rw [ht]; exact hM.moved hW.alike, hS.F ht⟩) hS.2.2 dX10_begins_95
  replace h := o_t c15 h
  refine lv_aload_n hx hb dX10_begins_18 rfl (lv_at hl 1 rfl) ?_
  replace h := o_b h; obtain ⟨x19, h19, h⟩ := h
  refine m_get (C := RX10) (T := TX10) (N := 25) (ci := 10) hx hb hts qi_X10_begins_X10 hown hK.1 hM 22 (ldR_F h19) rfl (by decide) (hts _ q_X10_begins_4) (fun _ h9 => h9) dX10_begins_19 ?_
  refine lv_iload_n hx hb dX10_begins_22 rfl (lv_at hl 2 rfl) ?_
  refine lv_iconst (v := (1 : Int32)) hx hb dX10_begins_23 (by decide) ?_
  replace h := o_b h; obtain ⟨f24, h24, h⟩ := h
  refine m_iast hx hb hK.1 hM hS rfl h24 dX10_begins_24 (fun H locs hM hS => ?_)
  refine lv_aload_n hx hb dX10_begins_25 rfl (lv_at hl 1 rfl) ?_
  refine lv_iload_n hx hb dX10_begins_26 rfl (lv_at hl 2 rfl) ?_
  refine lv_aload_n hx hb dX10_begins_27 rfl (lv_at hl 1 rfl) ?_
  replace h := o_b h; obtain ⟨x28, h28, h⟩ := h
  refine m_get (C := RX10) (T := TX10) (N := 25) (ci := 10) hx hb hts qi_X10_begins_X10 hown hK.1 hM 16 (ldR_F h28) rfl (by decide) (hts _ q_X10_begins_5) (fun _ h9 => h9) dX10_begins_28 ?_
  refine lv_iload_n hx hb dX10_begins_31 rfl (lv_at hl 0 rfl) ?_
  replace h := o_b h; obtain ⟨x32, h32, h⟩ := h
  refine m_iald hx hb hK.1 hM hS rfl h32 dX10_begins_32 ?_
  replace h := o_b h; obtain ⟨_, k33, h⟩ := h
  replace h := o_b h; obtain ⟨q33, h33, h⟩ := h
  refine m_call (va_runV (As := [.int v1, .int x32]) (rest := []) ⟨hx, hb, hml, hown, hts⟩ (c_X10_leadsOn l D b0 sz h33) (cwV 2 hts gX10_begins_X10_leadsOn rfl rfl rfl (by decide +kernel) ⟨Nat.le_of_ble_eq_true rfl, Nat.le_of_ble_eq_true rfl⟩) ⟨PW.blind, m_recv (ci := 10) rfl hK hM k33, (fun U hU hW => ⟨rfl, PW.call hK hM hS hU hW⟩)⟩ rfl rfl hl.1 rfl (lv_room (Nat.le_of_ble_eq_true rfl)) dX10_begins_33 ⟨(Nat.le_refl _), (Nat.le_refl _)⟩) hS (fun H locs hM hS => ?_)
  refine lv_iconst (v := (2 : Int32)) hx hb dX10_begins_36 (by decide) ?_
  replace h := Option.some.inj h; subst h
  exact W.iret hx hb hr (fun t ht hW => ⟨rfl, by rw [ht]; exact hM.moved hW.alike, hS.F ht⟩) hS.2.2 dX10_begins_37
set_option maxHeartbeats 4000000 in
set_option maxRecDepth 100000 in
theorem c_X10_begins (l : Launch) (D : mmD) (b0 sz : Nat) {v0 : Nat} {v1 : Int32} {f : mmF} {res : Int32 × mmF} (h : f_X10_begins v0 v1 f = some res) : Met l yX10_begins wsX10_begins ({ frames := 7, cells := 0, slots := 0, locals := 169 } : Room) (va_Pc [.ref v0, .int v1] (PW D b0 f sz)) (QW D b0 (some (.int res.1)) res.2 sz) 0 0 (fun q => b0 ≤ q) := by
  refine Met.ofW (cc := cX10_begins) (maxL := 4) (ret := (some .int)) (by decide) rfl ?_
  intro p e s m args below meth c s₁ B hml hv
  obtain ⟨rfl, hM, hK⟩ := hv
  have hl := lv_entry ([.ref v0, .int v1]) (n := 4) (Nat.le_of_ble_eq_true rfl)
  rw [lg_entry_eq]
  generalize (lg_sl ([.ref v0, .int v1]) ++ List.replicate (4 - (lg_sl ([.ref v0, .int v1])).length) Slot.unset).toArray = ls at hl ⊢
  have hl : lv_has ls 4 [(0, .ref v0), (1, .int v1)] := hl
  exact w_X10_begins ⟨B.exec, B.bytes, B.returns, hml, findClass_of_methodNamed B.named, atoms_spec (ws := wsX10_begins) B.pre, B.notSynchronized, hK⟩ h s.heap [] ls hM va_S.rf hl
end S_X10_begins
/-! X10_goesOn -/
set_option maxRecDepth 20000 in
theorem qi_X10_goesOn_X10 : ∀ w ∈ u_ws RX10 TX10 25, w ∈ wsX10_goesOn := by decide +kernel
set_option maxRecDepth 20000 in
theorem q_X10_goesOn_1 : Cond.fieldLink RX10 57 "StageTruthsModel" "phase" "[I" ∈ wsX10_goesOn := by decide +kernel
set_option maxRecDepth 20000 in
theorem q_X10_goesOn_2 : Cond.fieldLink RX10 54 "StageTruthsModel" "goal" "[I" ∈ wsX10_goesOn := by decide +kernel
set_option maxRecDepth 20000 in
theorem q_X10_goesOn_3 : Cond.fieldLink RX10 60 "StageTruthsModel" "option" "[I" ∈ wsX10_goesOn := by decide +kernel
set_option maxRecDepth 20000 in
theorem q_X10_goesOn_4 : Cond.fieldLink RX10 44 "StageTruthsModel" "right" "[I" ∈ wsX10_goesOn := by decide +kernel
noncomputable def f_X10_goesOn_181   (v0 : Nat) (v1 : Int32) (f : mmF) : Option (Int32 × mmF) :=
  (ldR f v0 10 22).bind fun x182 =>
  (stA 0 f x182 v1 (5 : Int32)).bind fun f187 =>
  some ((2 : Int32), f187)
noncomputable def f_X10_goesOn (v0 : Nat) (v1 : Int32) (v2 : Int32) (f : mmF) : Option (Int32 × mmF) :=
  (ldR f v0 10 21).bind fun x1 =>
  (ldA 0 f x1 v1).bind fun x5 =>
  (ldR f v0 10 22).bind fun x8 =>
  (ldA 0 f x8 v1).bind fun x12 =>
  if x12 = (5 : Int32) then
  (some (v2, f))
  else
  (ldR f v0 10 22).bind fun x20 =>
  (ldA 0 f x20 v1).bind fun x24 =>
  if x24 = (3 : Int32) then
  (if v2 = (1 : Int32) then
  (some ((1 : Int32), f))
  else
  (ckO f v0 10).bind fun _ =>
  (f_X10_tries v0 v1 f).bind fun q40 =>
  some (q40.1, q40.2))
  else
  if v2 = 0 then
  ((ldR f v0 10 22).bind fun x49 =>
  (ldA 0 f x49 v1).bind fun x53 =>
  if x53 = (4 : Int32) then
  ((ckO f v0 10).bind fun _ =>
  (f_X10_tries v0 v1 f).bind fun q60 =>
  some (q60.1, q60.2))
  else
  some ((0 : Int32), f))
  else
  (ldR f v0 10 22).bind fun x69 =>
  (ldA 0 f x69 v1).bind fun x73 =>
  if x73 = (1 : Int32) then
  ((ldR f v0 10 17).bind fun x81 =>
  (ldA 0 f x81 x5).bind fun x85 =>
  (ckO f v0 10).bind fun _ =>
  (f_X10_leadsOn v0 v1 x85 f).bind fun q86 =>
  f_X10_goesOn_181 v0 v1 q86)
  else
  (ldR f v0 10 22).bind fun x93 =>
  (ldA 0 f x93 v1).bind fun x97 =>
  if x97 = (2 : Int32) then
  ((ckO f v0 10).bind fun _ =>
  (f_X10_leadsOn v0 v1 x5 f).bind fun q105 =>
  (ldR q105 v0 10 23).bind fun x113 =>
  (ldA 0 q105 x113 v1).bind fun x117 =>
  (ckO q105 v0 10).bind fun _ =>
  (f_X10_loses v0 (v1 + (1 : Int32)) x117 q105).bind fun q118 =>
  (ldR q118 v0 10 17).bind fun x126 =>
  (ldR q118 v0 10 23).bind fun x130 =>
  (ldA 0 q118 x130 v1).bind fun x134 =>
  (ldA 0 q118 x126 x134).bind fun x135 =>
  (ckO q118 v0 10).bind fun _ =>
  (f_X10_gets v0 (v1 + (1 : Int32)) x135 q118).bind fun q136 =>
  f_X10_goesOn_181 v0 v1 q136)
  else
  (ldR f v0 10 23).bind fun x143 =>
  (ldA 0 f x143 v1).bind fun x147 =>
  (ckO f v0 10).bind fun _ =>
  (f_X10_leadsOn v0 v1 x5 f).bind fun q155 =>
  (ckO q155 v0 10).bind fun _ =>
  (f_X10_loses v0 (v1 + (1 : Int32)) (x147 - (1 : Int32)) q155).bind fun q164 =>
  (ldR q164 v0 10 17).bind fun x172 =>
  (ldA 0 q164 x172 (x147 - (1 : Int32))).bind fun x177 =>
  (ckO q164 v0 10).bind fun _ =>
  (f_X10_gets v0 (v1 + (1 : Int32)) x177 q164).bind fun q178 =>
  f_X10_goesOn_181 v0 v1 q178
section S_X10_goesOn
variable {p : Program} {l : Launch} {e : Env} {s : State} {m : MethodId} {args : Array Value} {below : List Frame} {meth : Method} {c : Code} {D : mmD} {b0 sz : Nat} {f : mmF}
set_option maxHeartbeats 4000000 in
set_option maxRecDepth 100000 in
theorem w_X10_goesOn_181 (C0 : CX cX10_goesOn 5 (some .int) wsX10_goesOn RX10 p s m args meth c D b0) {res : Int32 × mmF} : ∀ (v0 : Nat) (v1 : Int32) (f : mmF), f_X10_goesOn_181 v0 v1 f = some res → ∀ (H : Heap) (locs : List Loc) (ls : Array Slot), MM vwCl D b0 f sz s H → mS b0 s H locs → lv_has ls 5 [(0, .ref v0), (1, .int v1)] → W p l e ({ frames := 7, cells := 0, slots := 0, locals := 169 } : Room) s m args below meth c H locs 0 0 (MQ below (QW D b0 (some (.int res.1)) res.2 sz) args s 0 0 (fun q => b0 ≤ q)) (F0 m 181 ls []) := by
  obtain ⟨hx, hb, hr, hml, hown, hts, hlocks, hK⟩ := id C0
  intro v0 v1 f h H locs ls hM hS hl
  unfold f_X10_goesOn_181 at h
  refine lv_aload_n hx hb dX10_goesOn_181 rfl (lv_at hl 0 rfl) ?_
  replace h := o_b h; obtain ⟨x182, h182, h⟩ := h
  refine m_get (C := RX10) (T := TX10) (N := 25) (ci := 10) hx hb hts qi_X10_goesOn_X10 hown hK.1 hM 22 (ldR_F h182) rfl (by decide) (hts _ q_X10_goesOn_1) (fun _ h9 => h9) dX10_goesOn_182 ?_
  refine lv_iload_n hx hb dX10_goesOn_185 rfl (lv_at hl 1 rfl) ?_
  refine lv_iconst (v := (5 : Int32)) hx hb dX10_goesOn_186 (by decide) ?_
  replace h := o_b h; obtain ⟨f187, h187, h⟩ := h
  refine m_iast hx hb hK.1 hM hS rfl h187 dX10_goesOn_187 (fun H locs hM hS => ?_)
  refine lv_iconst (v := (2 : Int32)) hx hb dX10_goesOn_188 (by decide) ?_
  replace h := Option.some.inj h; subst h
  exact W.iret hx hb hr (fun t ht hW => ⟨rfl, by rw [ht]; exact hM.moved hW.alike, hS.F ht⟩) hS.2.2 dX10_goesOn_189
set_option maxHeartbeats 4000000 in
set_option maxRecDepth 100000 in
theorem w_X10_goesOn (C0 : CX cX10_goesOn 5 (some .int) wsX10_goesOn RX10 p s m args meth c D b0) {v0 : Nat} {v1 : Int32} {v2 : Int32} {res : Int32 × mmF} (h : f_X10_goesOn v0 v1 v2 f = some res) : ∀ (H : Heap) (locs : List Loc) (ls : Array Slot), MM vwCl D b0 f sz s H → mS b0 s H locs → lv_has ls 5 [(0, .ref v0), (1, .int v1), (2, .int v2)] → W p l e ({ frames := 7, cells := 0, slots := 0, locals := 169 } : Room) s m args below meth c H locs 0 0 (MQ below (QW D b0 (some (.int res.1)) res.2 sz) args s 0 0 (fun q => b0 ≤ q)) (F0 m 0 ls []) := by
  obtain ⟨hx, hb, hr, hml, hown, hts, hlocks, hK⟩ := id C0
  intro H locs ls hM hS hl
  unfold f_X10_goesOn at h
  refine lv_aload_n hx hb dX10_goesOn_0 rfl (lv_at hl 0 rfl) ?_
  replace h := o_b h; obtain ⟨x1, h1, h⟩ := h
  refine m_get (C := RX10) (T := TX10) (N := 25) (ci := 10) hx hb hts qi_X10_goesOn_X10 hown hK.1 hM 21 (ldR_F h1) rfl (by decide) (hts _ q_X10_goesOn_2) (fun _ h9 => h9) dX10_goesOn_1 ?_
  refine lv_iload_n hx hb dX10_goesOn_4 rfl (lv_at hl 1 rfl) ?_
  replace h := o_b h; obtain ⟨x5, h5, h⟩ := h
  refine m_iald hx hb hK.1 hM hS rfl h5 dX10_goesOn_5 ?_
  refine lv_istore_n (lv' := [(3, .int x5), (0, .ref v0), (1, .int v1), (2, .int v2)]) hx hb dX10_goesOn_6 rfl hl (by decide) rfl (fun ls hl => ?_)
  refine lv_aload_n hx hb dX10_goesOn_7 rfl (lv_at hl 1 rfl) ?_
  replace h := o_b h; obtain ⟨x8, h8, h⟩ := h
  refine m_get (C := RX10) (T := TX10) (N := 25) (ci := 10) hx hb hts qi_X10_goesOn_X10 hown hK.1 hM 22 (ldR_F h8) rfl (by decide) (hts _ q_X10_goesOn_1) (fun _ h9 => h9) dX10_goesOn_8 ?_
  refine lv_iload_n hx hb dX10_goesOn_11 rfl (lv_at hl 2 rfl) ?_
  replace h := o_b h; obtain ⟨x12, h12, h⟩ := h
  refine m_iald hx hb hK.1 hM hS rfl h12 dX10_goesOn_12 ?_
  refine lv_iconst (v := (5 : Int32)) hx hb dX10_goesOn_13 (by decide) ?_
  refine lv_icmp_ne (tgt := 19) hx hb dX10_goesOn_14 (by decide) (fun c14 => ?_) (fun c14 => ?_)
  · replace h := o_f c14 h
    refine lv_aload_n hx hb dX10_goesOn_19 rfl (lv_at hl 1 rfl) ?_
    replace h := o_b h; obtain ⟨x20, h20, h⟩ := h
    refine m_get (C := RX10) (T := TX10) (N := 25) (ci := 10) hx hb hts qi_X10_goesOn_X10 hown hK.1 hM 22 (ldR_F h20) rfl (by decide) (hts _ q_X10_goesOn_1) (fun _ h9 => h9) dX10_goesOn_20 ?_
    refine lv_iload_n hx hb dX10_goesOn_23 rfl (lv_at hl 2 rfl) ?_
    replace h := o_b h; obtain ⟨x24, h24, h⟩ := h
    refine m_iald hx hb hK.1 hM hS rfl h24 dX10_goesOn_24 ?_
    refine lv_iconst (v := (3 : Int32)) hx hb dX10_goesOn_25 (by decide) ?_
    refine lv_icmp_ne (tgt := 44) hx hb dX10_goesOn_26 (by decide) (fun c26 => ?_) (fun c26 => ?_)
    · replace h := o_f c26 h
      refine lv_iload_n hx hb dX10_goesOn_44 rfl (lv_at hl 3 rfl) ?_
      refine lv_if_ne (tgt := 68) hx hb dX10_goesOn_45 (by decide) (fun c45 => ?_) (fun c45 => ?_)
      · replace h := o_f c45 h
        refine lv_aload_n hx hb dX10_goesOn_68 rfl (lv_at hl 1 rfl) ?_
        replace h := o_b h; obtain ⟨x69, h69, h⟩ := h
        refine m_get (C := RX10) (T := TX10) (N := 25) (ci := 10) hx hb hts qi_X10_goesOn_X10 hown hK.1 hM 22 (ldR_F h69) rfl (by decide) (hts _ q_X10_goesOn_1) (fun _ h9 => h9) dX10_goesOn_69 ?_
        refine lv_iload_n hx hb dX10_goesOn_72 rfl (lv_at hl 2 rfl) ?_
        replace h := o_b h; obtain ⟨x73, h73, h⟩ := h
        refine m_iald hx hb hK.1 hM hS rfl h73 dX10_goesOn_73 ?_
        refine lv_iconst (v := (1 : Int32)) hx hb dX10_goesOn_74 (by decide) ?_
        refine lv_icmp_ne (tgt := 92) hx hb dX10_goesOn_75 (by decide) (fun c75 => ?_) (fun c75 => ?_)
        · replace h := o_f c75 h
          refine lv_aload_n hx hb dX10_goesOn_92 rfl (lv_at hl 1 rfl) ?_
          replace h := o_b h; obtain ⟨x93, h93, h⟩ := h
          refine m_get (C := RX10) (T := TX10) (N := 25) (ci := 10) hx hb hts qi_X10_goesOn_X10 hown hK.1 hM 22 (ldR_F h93) rfl (by decide) (hts _ q_X10_goesOn_1) (fun _ h9 => h9) dX10_goesOn_93 ?_
          refine lv_iload_n hx hb dX10_goesOn_96 rfl (lv_at hl 2 rfl) ?_
          replace h := o_b h; obtain ⟨x97, h97, h⟩ := h
          refine m_iald hx hb hK.1 hM hS rfl h97 dX10_goesOn_97 ?_
          refine lv_iconst (v := (2 : Int32)) hx hb dX10_goesOn_98 (by decide) ?_
          refine lv_icmp_ne (tgt := 142) hx hb dX10_goesOn_99 (by decide) (fun c99 => ?_) (fun c99 => ?_)
          · replace h := o_f c99 h
            refine lv_aload_n hx hb dX10_goesOn_142 rfl (lv_at hl 1 rfl) ?_
            replace h := o_b h; obtain ⟨x143, h143, h⟩ := h
            refine m_get (C := RX10) (T := TX10) (N := 25) (ci := 10) hx hb hts qi_X10_goesOn_X10 hown hK.1 hM 23 (ldR_F h143) rfl (by decide) (hts _ q_X10_goesOn_3) (fun _ h9 => h9) dX10_goesOn_143 ?_
            refine lv_iload_n hx hb dX10_goesOn_146 rfl (lv_at hl 2 rfl) ?_
            replace h := o_b h; obtain ⟨x147, h147, h⟩ := h
            refine m_iald hx hb hK.1 hM hS rfl h147 dX10_goesOn_147 ?_
            refine lv_iconst (v := (1 : Int32)) hx hb dX10_goesOn_148 (by decide) ?_
            refine lv_isub hx hb dX10_goesOn_149 ?_
            refine lv_istore (lv' := [(4, .int (x147 - (1 : Int32))), (3, .int x5), (0, .ref v0), (1, .int v1), (2, .int v2)]) hx hb dX10_goesOn_150 hl (by decide) rfl (fun ls hl => ?_)
            refine lv_aload_n hx hb dX10_goesOn_152 rfl (lv_at hl 2 rfl) ?_
            refine lv_iload_n hx hb dX10_goesOn_153 rfl (lv_at hl 3 rfl) ?_
            refine lv_iload_n hx hb dX10_goesOn_154 rfl (lv_at hl 1 rfl) ?_
            replace h := o_b h; obtain ⟨_, k155, h⟩ := h
            replace h := o_b h; obtain ⟨q155, h155, h⟩ := h
            refine m_call (va_runV (As := [.int v1, .int x5]) (rest := []) ⟨hx, hb, hml, hown, hts⟩ (c_X10_leadsOn l D b0 sz h155) (cwV 2 hts gX10_goesOn_X10_leadsOn rfl rfl rfl (by decide +kernel) ⟨Nat.le_of_ble_eq_true rfl, Nat.le_of_ble_eq_true rfl⟩) ⟨PW.blind, m_recv (ci := 10) rfl hK hM k155, (fun U hU hW => ⟨rfl, PW.call hK hM hS hU hW⟩)⟩ rfl rfl hl.1 rfl (lv_room (Nat.le_of_ble_eq_true rfl)) dX10_goesOn_155 ⟨(Nat.le_refl _), (Nat.le_refl _)⟩) hS (fun H locs hM hS => ?_)
            refine lv_aload_n hx hb dX10_goesOn_158 rfl (lv_at hl 2 rfl) ?_
            refine lv_iload_n hx hb dX10_goesOn_159 rfl (lv_at hl 3 rfl) ?_
            refine lv_iconst (v := (1 : Int32)) hx hb dX10_goesOn_160 (by decide) ?_
            refine lv_iadd hx hb dX10_goesOn_161 ?_
            refine lv_iload hx hb dX10_goesOn_162 (lv_at hl 0 rfl) ?_
            replace h := o_b h; obtain ⟨_, k164, h⟩ := h
            replace h := o_b h; obtain ⟨q164, h164, h⟩ := h
            refine m_call (va_runV (As := [.int (v1 + (1 : Int32)), .int (x147 - (1 : Int32))]) (rest := []) ⟨hx, hb, hml, hown, hts⟩ (c_X10_loses l D b0 sz h164) (cwV 2 hts gX10_goesOn_X10_loses rfl rfl rfl (by decide +kernel) ⟨Nat.le_of_ble_eq_true rfl, Nat.le_of_ble_eq_true rfl⟩) ⟨PW.blind, m_recv (ci := 10) rfl hK hM k164, (fun U hU hW => ⟨rfl, PW.call hK hM hS hU hW⟩)⟩ rfl rfl hl.1 rfl (lv_room (Nat.le_of_ble_eq_true rfl)) dX10_goesOn_164 ⟨(Nat.le_refl _), (Nat.le_refl _)⟩) hS (fun H locs hM hS => ?_)
            refine lv_aload_n hx hb dX10_goesOn_167 rfl (lv_at hl 2 rfl) ?_
            refine lv_iload_n hx hb dX10_goesOn_168 rfl (lv_at hl 3 rfl) ?_
            refine lv_iconst (v := (1 : Int32)) hx hb dX10_goesOn_169 (by decide) ?_
            refine lv_iadd hx hb dX10_goesOn_170 ?_
            refine lv_aload_n hx hb dX10_goesOn_171 rfl (lv_at hl 2 rfl) ?_
            replace h := o_b h; obtain ⟨x172, h172, h⟩ := h
            refine m_get (C := RX10) (T := TX10) (N := 25) (ci := 10) hx hb hts qi_X10_goesOn_X10 hown hK.1 hM 17 (ldR_F h172) rfl (by decide) (hts _ q_X10_goesOn_4) (fun _ h9 => h9) dX10_goesOn_172 ?_
            refine lv_iload hx hb dX10_goesOn_175 (lv_at hl 0 rfl) ?_
            replace h := o_b h; obtain ⟨x177, h177, h⟩ := h
            refine m_iald hx hb hK.1 hM hS rfl h177 dX10_goesOn_177 ?_
            replace h := o_b h; obtain ⟨_, k178, h⟩ := h
            replace h := o_b h; obtain ⟨q178, h178, h⟩ := h
            refine m_call (va_runV (As := [.int (v1 + (1 : Int32)), .int x177]) (rest := []) ⟨hx, hb, hml, hown, hts⟩ (c_X10_gets l D b0 sz h178) (cwV 2 hts gX10_goesOn_X10_gets rfl rfl rfl (by decide +kernel) ⟨Nat.le_of_ble_eq_true rfl, Nat.le_of_ble_eq_true rfl⟩) ⟨PW.blind, m_recv (ci := 10) rfl hK hM k178, (fun U hU hW => ⟨rfl, PW.call hK hM hS hU hW⟩)⟩ rfl rfl hl.1 rfl (lv_room (Nat.le_of_ble_eq_true rfl)) dX10_goesOn_178 ⟨(Nat.le_refl _), (Nat.le_refl _)⟩) hS (fun H locs hM hS => ?_)
            exact w_X10_goesOn_181 C0 _ _ _ h _ _ _ hM hS (lv_sub hl [2, 3] rfl)
          replace h := o_t c99 h
          refine lv_aload_n hx hb dX10_goesOn_102 rfl (lv_at hl 1 rfl) ?_
          refine lv_iload_n hx hb dX10_goesOn_103 rfl (lv_at hl 2 rfl) ?_
          refine lv_iload_n hx hb dX10_goesOn_104 rfl (lv_at hl 0 rfl) ?_
          replace h := o_b h; obtain ⟨_, k105, h⟩ := h
          replace h := o_b h; obtain ⟨q105, h105, h⟩ := h
          refine m_call (va_runV (As := [.int v1, .int x5]) (rest := []) ⟨hx, hb, hml, hown, hts⟩ (c_X10_leadsOn l D b0 sz h105) (cwV 2 hts gX10_goesOn_X10_leadsOn rfl rfl rfl (by decide +kernel) ⟨Nat.le_of_ble_eq_true rfl, Nat.le_of_ble_eq_true rfl⟩) ⟨PW.blind, m_recv (ci := 10) rfl hK hM k105, (fun U hU hW => ⟨rfl, PW.call hK hM hS hU hW⟩)⟩ rfl rfl hl.1 rfl (lv_room (Nat.le_of_ble_eq_true rfl)) dX10_goesOn_105 ⟨(Nat.le_refl _), (Nat.le_refl _)⟩) hS (fun H locs hM hS => ?_)
          refine lv_aload_n hx hb dX10_goesOn_108 rfl (lv_at hl 1 rfl) ?_
          refine lv_iload_n hx hb dX10_goesOn_109 rfl (lv_at hl 2 rfl) ?_
          refine lv_iconst (v := (1 : Int32)) hx hb dX10_goesOn_110 (by decide) ?_
          refine lv_iadd hx hb dX10_goesOn_111 ?_
          refine lv_aload_n hx hb dX10_goesOn_112 rfl (lv_at hl 1 rfl) ?_
          replace h := o_b h; obtain ⟨x113, h113, h⟩ := h
          refine m_get (C := RX10) (T := TX10) (N := 25) (ci := 10) hx hb hts qi_X10_goesOn_X10 hown hK.1 hM 23 (ldR_F h113) rfl (by decide) (hts _ q_X10_goesOn_3) (fun _ h9 => h9) dX10_goesOn_113 ?_
          refine lv_iload_n hx hb dX10_goesOn_116 rfl (lv_at hl 2 rfl) ?_
          replace h := o_b h; obtain ⟨x117, h117, h⟩ := h
          refine m_iald hx hb hK.1 hM hS rfl h117 dX10_goesOn_117 ?_
          replace h := o_b h; obtain ⟨_, k118, h⟩ := h
          replace h := o_b h; obtain ⟨q118, h118, h⟩ := h
          refine m_call (va_runV (As := [.int (v1 + (1 : Int32)), .int x117]) (rest := []) ⟨hx, hb, hml, hown, hts⟩ (c_X10_loses l D b0 sz h118) (cwV 2 hts gX10_goesOn_X10_loses rfl rfl rfl (by decide +kernel) ⟨Nat.le_of_ble_eq_true rfl, Nat.le_of_ble_eq_true rfl⟩) ⟨PW.blind, m_recv (ci := 10) rfl hK hM k118, (fun U hU hW => ⟨rfl, PW.call hK hM hS hU hW⟩)⟩ rfl rfl hl.1 rfl (lv_room (Nat.le_of_ble_eq_true rfl)) dX10_goesOn_118 ⟨(Nat.le_refl _), (Nat.le_refl _)⟩) hS (fun H locs hM hS => ?_)
          refine lv_aload_n hx hb dX10_goesOn_121 rfl (lv_at hl 1 rfl) ?_
          refine lv_iload_n hx hb dX10_goesOn_122 rfl (lv_at hl 2 rfl) ?_
          refine lv_iconst (v := (1 : Int32)) hx hb dX10_goesOn_123 (by decide) ?_
          refine lv_iadd hx hb dX10_goesOn_124 ?_
          refine lv_aload_n hx hb dX10_goesOn_125 rfl (lv_at hl 1 rfl) ?_
          replace h := o_b h; obtain ⟨x126, h126, h⟩ := h
          refine m_get (C := RX10) (T := TX10) (N := 25) (ci := 10) hx hb hts qi_X10_goesOn_X10 hown hK.1 hM 17 (ldR_F h126) rfl (by decide) (hts _ q_X10_goesOn_4) (fun _ h9 => h9) dX10_goesOn_126 ?_
          refine lv_aload_n hx hb dX10_goesOn_129 rfl (lv_at hl 1 rfl) ?_
          replace h := o_b h; obtain ⟨x130, h130, h⟩ := h
          refine m_get (C := RX10) (T := TX10) (N := 25) (ci := 10) hx hb hts qi_X10_goesOn_X10 hown hK.1 hM 23 (ldR_F h130) rfl (by decide) (hts _ q_X10_goesOn_3) (fun _ h9 => h9) dX10_goesOn_130 ?_
          refine lv_iload_n hx hb dX10_goesOn_133 rfl (lv_at hl 2 rfl) ?_
          replace h := o_b h; obtain ⟨x134, h134, h⟩ := h
          refine m_iald hx hb hK.1 hM hS rfl h134 dX10_goesOn_134 ?_
          replace h := o_b h; obtain ⟨x135, h135, h⟩ := h
          refine m_iald hx hb hK.1 hM hS rfl h135 dX10_goesOn_135 ?_
          replace h := o_b h; obtain ⟨_, k136, h⟩ := h
          replace h := o_b h; obtain ⟨q136, h136, h⟩ := h
          refine m_call (va_runV (As := [.int (v1 + (1 : Int32)), .int x135]) (rest := []) ⟨hx, hb, hml, hown, hts⟩ (c_X10_gets l D b0 sz h136) (cwV 2 hts gX10_goesOn_X10_gets rfl rfl rfl (by decide +kernel) ⟨Nat.le_of_ble_eq_true rfl, Nat.le_of_ble_eq_true rfl⟩) ⟨PW.blind, m_recv (ci := 10) rfl hK hM k136, (fun U hU hW => ⟨rfl, PW.call hK hM hS hU hW⟩)⟩ rfl rfl hl.1 rfl (lv_room (Nat.le_of_ble_eq_true rfl)) dX10_goesOn_136 ⟨(Nat.le_refl _), (Nat.le_refl _)⟩) hS (fun H locs hM hS => ?_)
          refine lv_goto (tgt := 181) hx hb dX10_goesOn_139 (by decide) ?_
          exact w_X10_goesOn_181 C0 _ _ _ h _ _ _ hM hS (lv_sub hl [1, 2] rfl)
        replace h := o_t c75 h
        refine lv_aload_n hx hb dX10_goesOn_78 rfl (lv_at hl 1 rfl) ?_
        refine lv_iload_n hx hb dX10_goesOn_79 rfl (lv_at hl 2 rfl) ?_
        refine lv_aload_n hx hb dX10_goesOn_80 rfl (lv_at hl 1 rfl) ?_
        replace h := o_b h; obtain ⟨x81, h81, h⟩ := h
        refine m_get (C := RX10) (T := TX10) (N := 25) (ci := 10) hx hb hts qi_X10_goesOn_X10 hown hK.1 hM 17 (ldR_F h81) rfl (by decide) (hts _ q_X10_goesOn_4) (fun _ h9 => h9) dX10_goesOn_81 ?_
        refine lv_iload_n hx hb dX10_goesOn_84 rfl (lv_at hl 0 rfl) ?_
        replace h := o_b h; obtain ⟨x85, h85, h⟩ := h
        refine m_iald hx hb hK.1 hM hS rfl h85 dX10_goesOn_85 ?_
        replace h := o_b h; obtain ⟨_, k86, h⟩ := h
        replace h := o_b h; obtain ⟨q86, h86, h⟩ := h
        refine m_call (va_runV (As := [.int v1, .int x85]) (rest := []) ⟨hx, hb, hml, hown, hts⟩ (c_X10_leadsOn l D b0 sz h86) (cwV 2 hts gX10_goesOn_X10_leadsOn rfl rfl rfl (by decide +kernel) ⟨Nat.le_of_ble_eq_true rfl, Nat.le_of_ble_eq_true rfl⟩) ⟨PW.blind, m_recv (ci := 10) rfl hK hM k86, (fun U hU hW => ⟨rfl, PW.call hK hM hS hU hW⟩)⟩ rfl rfl hl.1 rfl (lv_room (Nat.le_of_ble_eq_true rfl)) dX10_goesOn_86 ⟨(Nat.le_refl _), (Nat.le_refl _)⟩) hS (fun H locs hM hS => ?_)
        refine lv_goto (tgt := 181) hx hb dX10_goesOn_89 (by decide) ?_
        exact w_X10_goesOn_181 C0 _ _ _ h _ _ _ hM hS (lv_sub hl [1, 2] rfl)
      replace h := o_t c45 h
      refine lv_aload_n hx hb dX10_goesOn_48 rfl (lv_at hl 1 rfl) ?_
      replace h := o_b h; obtain ⟨x49, h49, h⟩ := h
      refine m_get (C := RX10) (T := TX10) (N := 25) (ci := 10) hx hb hts qi_X10_goesOn_X10 hown hK.1 hM 22 (ldR_F h49) rfl (by decide) (hts _ q_X10_goesOn_1) (fun _ h9 => h9) dX10_goesOn_49 ?_
      refine lv_iload_n hx hb dX10_goesOn_52 rfl (lv_at hl 2 rfl) ?_
      replace h := o_b h; obtain ⟨x53, h53, h⟩ := h
      refine m_iald hx hb hK.1 hM hS rfl h53 dX10_goesOn_53 ?_
      refine lv_iconst (v := (4 : Int32)) hx hb dX10_goesOn_54 (by decide) ?_
      refine lv_icmp_ne (tgt := 66) hx hb dX10_goesOn_55 (by decide) (fun c55 => ?_) (fun c55 => ?_)
      · replace h := o_f c55 h
        refine lv_iconst (v := (0 : Int32)) hx hb dX10_goesOn_66 (by decide) ?_
        replace h := Option.some.inj h; subst h
        exact W.iret hx hb hr (fun t ht hW => ⟨rfl, by rw [ht]; exact hM.moved hW.alike, hS.F ht⟩) hS.2.2 dX10_goesOn_67
      replace h := o_t c55 h
      refine lv_aload_n hx hb dX10_goesOn_58 rfl (lv_at hl 1 rfl) ?_
      refine lv_iload_n hx hb dX10_goesOn_59 rfl (lv_at hl 2 rfl) ?_
      replace h := o_b h; obtain ⟨_, k60, h⟩ := h
      replace h := o_b h; obtain ⟨q60, h60, h⟩ := h
      refine m_call (va_runV (As := [.int v1]) (rest := []) ⟨hx, hb, hml, hown, hts⟩ (c_X10_tries l D b0 sz h60) (cwV 1 hts gX10_goesOn_X10_tries rfl rfl rfl (by decide +kernel) ⟨Nat.le_of_ble_eq_true rfl, Nat.le_of_ble_eq_true rfl⟩) ⟨PW.blind, m_recv (ci := 10) rfl hK hM k60, (fun U hU hW => ⟨rfl, PW.call hK hM hS hU hW⟩)⟩ rfl rfl hl.1 rfl (lv_room (Nat.le_of_ble_eq_true rfl)) dX10_goesOn_60 ⟨(Nat.le_refl _), (Nat.le_refl _)⟩) hS (fun H locs hM hS => ?_)
      refine lv_goto (tgt := 67) hx hb dX10_goesOn_63 (by decide) ?_
      replace h := Option.some.inj h; subst h
      exact W.iret hx hb hr (fun t ht hW => ⟨rfl, by rw [ht]; exact hM.moved hW.alike, hS.F ht⟩) hS.2.2 dX10_goesOn_67
    replace h := o_t c26 h
    refine lv_iload_n hx hb dX10_goesOn_29 rfl (lv_at hl 3 rfl) ?_
    refine lv_iconst (v := (1 : Int32)) hx hb dX10_goesOn_30 (by decide) ?_
    refine lv_icmp_ne (tgt := 38) hx hb dX10_goesOn_31 (by decide) (fun c31 => ?_) (fun c31 => ?_)
    · replace h := o_f c31 h
      refine lv_aload_n hx hb dX10_goesOn_38 rfl (lv_at hl 1 rfl) ?_
      refine lv_iload_n hx hb dX10_goesOn_39 rfl (lv_at hl 2 rfl) ?_
      replace h := o_b h; obtain ⟨_, k40, h⟩ := h
      replace h := o_b h; obtain ⟨q40, h40, h⟩ := h
      refine m_call (va_runV (As := [.int v1]) (rest := []) ⟨hx, hb, hml, hown, hts⟩ (c_X10_tries l D b0 sz h40) (cwV 1 hts gX10_goesOn_X10_tries rfl rfl rfl (by decide +kernel) ⟨Nat.le_of_ble_eq_true rfl, Nat.le_of_ble_eq_true rfl⟩) ⟨PW.blind, m_recv (ci := 10) rfl hK hM k40, (fun U hU hW => ⟨rfl, PW.call hK hM hS hU hW⟩)⟩ rfl rfl hl.1 rfl (lv_room (Nat.le_of_ble_eq_true rfl)) dX10_goesOn_40 ⟨(Nat.le_refl _), (Nat.le_refl _)⟩) hS (fun H locs hM hS => ?_)
      replace h := Option.some.inj h; subst h
      exact W.iret hx hb hr (fun t ht hW => ⟨rfl, by rw [ht]; exact hM.moved hW.alike, hS.F ht⟩) hS.2.2 dX10_goesOn_43
    replace h := o_t c31 h
    refine lv_iconst (v := (1 : Int32)) hx hb dX10_goesOn_34 (by decide) ?_
    refine lv_goto (tgt := 43) hx hb dX10_goesOn_35 (by decide) ?_
    replace h := Option.some.inj h; subst h
    exact W.iret hx hb hr (fun t ht hW => ⟨rfl, by rw [ht]; exact hM.moved hW.alike, hS.F ht⟩) hS.2.2 dX10_goesOn_43
  replace h := o_t c14 h
  refine lv_iload_n hx hb dX10_goesOn_17 rfl (lv_at hl 3 rfl) ?_
  replace h := Option.some.inj h; subst h
  exact W.iret hx hb hr (fun t ht hW => ⟨rfl, by rw [ht]; exact hM.moved hW.alike, hS.F ht⟩) hS.2.2 dX10_goesOn_18
set_option maxHeartbeats 4000000 in
set_option maxRecDepth 100000 in
theorem c_X10_goesOn (l : Launch) (D : mmD) (b0 sz : Nat) {v0 : Nat} {v1 : Int32} {v2 : Int32} {f : mmF} {res : Int32 × mmF} (h : f_X10_goesOn v0 v1 v2 f = some res) : Met l yX10_goesOn wsX10_goesOn ({ frames := 7, cells := 0, slots := 0, locals := 169 } : Room) (va_Pc [.ref v0, .int v1, .int v2] (PW D b0 f sz)) (QW D b0 (some (.int res.1)) res.2 sz) 0 0 (fun q => b0 ≤ q) := by
  refine Met.ofW (cc := cX10_goesOn) (maxL := 5) (ret := (some .int)) (by decide) rfl ?_
  intro p e s m args below meth c s₁ B hml hv
  obtain ⟨rfl, hM, hK⟩ := hv
  have hl := lv_entry ([.ref v0, .int v1, .int v2]) (n := 5) (Nat.le_of_ble_eq_true rfl)
  rw [lg_entry_eq]
  generalize (lg_sl ([.ref v0, .int v1, .int v2]) ++ List.replicate (5 - (lg_sl ([.ref v0, .int v1, .int v2])).length) Slot.unset).toArray = ls at hl ⊢
  have hl : lv_has ls 5 [(0, .ref v0), (1, .int v1), (2, .int v2)] := hl
  exact w_X10_goesOn ⟨B.exec, B.bytes, B.returns, hml, findClass_of_methodNamed B.named, atoms_spec (ws := wsX10_goesOn) B.pre, B.notSynchronized, hK⟩ h s.heap [] ls hM va_S.rf hl
end S_X10_goesOn
/-! X10_isShown -/
set_option maxRecDepth 20000 in
theorem qi_X10_isShown_X10 : ∀ w ∈ u_ws RX10 TX10 25, w ∈ wsX10_isShown := by decide +kernel
set_option maxRecDepth 20000 in
theorem q_X10_isShown_1 : Cond.fieldLink RX10 57 "StageTruthsModel" "phase" "[I" ∈ wsX10_isShown := by decide +kernel
noncomputable def f_X10_isShown_66 (k11 : Nat → Int32 → Int32 → mmF → Option (Int32 × mmF))  (v0 : Nat) (v3 : Int32) (t0 : Int32) (t1 : Int32) (f : mmF) : Option (Int32 × mmF) :=
  k11 v0 (t0 + t1) v3 f
noncomputable def f_X10_isShown_54 (k11 : Nat → Int32 → Int32 → mmF → Option (Int32 × mmF))  (v0 : Nat) (v1 : Int32) (t0 : Int32) (f : mmF) : Option (Int32 × mmF) :=
  if t0 = (2 : Int32) then
  (f_X10_isShown_66 k11 v0 t0 v1 (1 : Int32) f)
  else
  f_X10_isShown_66 k11 v0 t0 v1 (-1 : Int32) f
noncomputable def f_X10_isShown_53 (k11 : Nat → Int32 → Int32 → mmF → Option (Int32 × mmF))  (v0 : Nat) (v1 : Int32) (v3 : Int32) (f : mmF) : Option (Int32 × mmF) :=
  f_X10_isShown_54 k11 v0 v1 v3 f
noncomputable def f_X10_isShown_34 (k11 : Nat → Int32 → Int32 → mmF → Option (Int32 × mmF))  (v0 : Nat) (v1 : Int32) (v2 : Int32) (t0 : Int32) (f : mmF) : Option (Int32 × mmF) :=
  if v2 = (2 : Int32) then
  (if t0 = (2 : Int32) then
  ((ckO f v0 10).bind fun _ =>
  (f_X10_begins v0 v1 f).bind fun q47 =>
  f_X10_isShown_54 k11 v0 v1 q47.1 q47.2)
  else
  f_X10_isShown_53 k11 v0 v1 t0 f)
  else
  f_X10_isShown_53 k11 v0 v1 t0 f
noncomputable def f_X10_isShown_11   : Nat → Nat → Int32 → Int32 → mmF → Option (Int32 × mmF)
  | 0, _, _, _, _ => none
  | n + 1, v0, v1, v2, f =>
    if v1 < 0 then
    (if v2 = (1 : Int32) then
    (some ((1 : Int32), f))
    else
    some ((0 : Int32), f))
    else
    if (2 : Int32) ≤ v2 then
    ((ckO f v0 10).bind fun _ =>
    (f_X10_settles v0 v1 f).bind fun q31 =>
    f_X10_isShown_34 (fun a0 a1 a2 a3 => f_X10_isShown_11 n a0 a1 a2 a3) v0 v1 v2 q31.1 q31.2)
    else
    (ckO f v0 10).bind fun _ =>
    (f_X10_goesOn v0 v1 v2 f).bind fun q23 =>
    f_X10_isShown_34 (fun a0 a1 a2 a3 => f_X10_isShown_11 n a0 a1 a2 a3) v0 v1 v2 q23.1 q23.2
noncomputable def f_X10_isShown (v0 : Nat) (f : mmF) : Option (Int32 × mmF) :=
  (ldR f v0 10 22).bind fun x3 =>
  (stA 0 f x3 (0 : Int32) (0 : Int32)).bind fun f8 =>
  f_X10_isShown_11 FU v0 (0 : Int32) (2 : Int32) f8
section S_X10_isShown
variable {p : Program} {l : Launch} {e : Env} {s : State} {m : MethodId} {args : Array Value} {below : List Frame} {meth : Method} {c : Code} {D : mmD} {b0 sz : Nat} {f : mmF}
set_option maxHeartbeats 4000000 in
set_option maxRecDepth 100000 in
theorem w_X10_isShown_66 (C0 : CX cX10_isShown 4 (some .boolean) wsX10_isShown RX10 p s m args meth c D b0) {k11 : Nat → Int32 → Int32 → mmF → Option (Int32 × mmF)} {res : Int32 × mmF} (hk11 : ∀ (v0 : Nat) (v1 : Int32) (v2 : Int32) (f : mmF), k11 v0 v1 v2 f = some res → ∀ (H : Heap) (locs : List Loc) (ls : Array Slot), MM vwCl D b0 f sz s H → mS b0 s H locs → lv_has ls 4 [(0, .ref v0), (1, .int v1), (2, .int v2)] → W p l e ({ frames := 8, cells := 0, slots := 0, locals := 193 } : Room) s m args below meth c H locs 0 0 (MQ below (QW D b0 (some (.int res.1)) res.2 sz) args s 0 0 (fun q => b0 ≤ q)) (F0 m 11 ls [])) : ∀ (v0 : Nat) (v3 : Int32) (t0 : Int32) (t1 : Int32) (f : mmF), f_X10_isShown_66 k11 v0 v3 t0 t1 f = some res → ∀ (H : Heap) (locs : List Loc) (ls : Array Slot), MM vwCl D b0 f sz s H → mS b0 s H locs → lv_has ls 4 [(0, .ref v0), (3, .int v3)] → W p l e ({ frames := 8, cells := 0, slots := 0, locals := 193 } : Room) s m args below meth c H locs 0 0 (MQ below (QW D b0 (some (.int res.1)) res.2 sz) args s 0 0 (fun q => b0 ≤ q)) (F0 m 66 ls [.int t1, .int t0]) := by
  obtain ⟨hx, hb, hr, hml, hown, hts, hlocks, hK⟩ := id C0
  intro v0 v3 t0 t1 f h H locs ls hM hS hl
  unfold f_X10_isShown_66 at h
  refine lv_iadd hx hb dX10_isShown_66 ?_
  refine lv_istore_n (lv' := [(1, .int (t0 + t1)), (0, .ref v0), (3, .int v3)]) hx hb dX10_isShown_67 rfl hl (by decide) rfl (fun ls hl => ?_)
  refine lv_iload_n hx hb dX10_isShown_68 rfl (lv_at hl 2 rfl) ?_
  refine lv_istore_n (lv' := [(2, .int v3), (1, .int (t0 + t1)), (0, .ref v0), (3, .int v3)]) hx hb dX10_isShown_69 rfl hl (by decide) rfl (fun ls hl => ?_)
  refine lv_goto (tgt := 11) hx hb dX10_isShown_70 (by decide) ?_
  exact hk11 _ _ _ _ h _ _ _ hM hS (lv_sub hl [2, 1, 0] rfl)
set_option maxHeartbeats 4000000 in
set_option maxRecDepth 100000 in
theorem w_X10_isShown_54 (C0 : CX cX10_isShown 4 (some .boolean) wsX10_isShown RX10 p s m args meth c D b0) {k11 : Nat → Int32 → Int32 → mmF → Option (Int32 × mmF)} {res : Int32 × mmF} (hk11 : ∀ (v0 : Nat) (v1 : Int32) (v2 : Int32) (f : mmF), k11 v0 v1 v2 f = some res → ∀ (H : Heap) (locs : List Loc) (ls : Array Slot), MM vwCl D b0 f sz s H → mS b0 s H locs → lv_has ls 4 [(0, .ref v0), (1, .int v1), (2, .int v2)] → W p l e ({ frames := 8, cells := 0, slots := 0, locals := 193 } : Room) s m args below meth c H locs 0 0 (MQ below (QW D b0 (some (.int res.1)) res.2 sz) args s 0 0 (fun q => b0 ≤ q)) (F0 m 11 ls [])) : ∀ (v0 : Nat) (v1 : Int32) (t0 : Int32) (f : mmF), f_X10_isShown_54 k11 v0 v1 t0 f = some res → ∀ (H : Heap) (locs : List Loc) (ls : Array Slot), MM vwCl D b0 f sz s H → mS b0 s H locs → lv_has ls 4 [(0, .ref v0), (1, .int v1)] → W p l e ({ frames := 8, cells := 0, slots := 0, locals := 193 } : Room) s m args below meth c H locs 0 0 (MQ below (QW D b0 (some (.int res.1)) res.2 sz) args s 0 0 (fun q => b0 ≤ q)) (F0 m 54 ls [.int t0]) := by
  obtain ⟨hx, hb, hr, hml, hown, hts, hlocks, hK⟩ := id C0
  intro v0 v1 t0 f h H locs ls hM hS hl
  unfold f_X10_isShown_54 at h
  refine lv_istore_n (lv' := [(3, .int t0), (0, .ref v0), (1, .int v1)]) hx hb dX10_isShown_54 rfl hl (by decide) rfl (fun ls hl => ?_)
  refine lv_iload_n hx hb dX10_isShown_55 rfl (lv_at hl 2 rfl) ?_
  refine lv_iload_n hx hb dX10_isShown_56 rfl (lv_at hl 0 rfl) ?_
  refine lv_iconst (v := (2 : Int32)) hx hb dX10_isShown_57 (by decide) ?_
  refine lv_icmp_ne (tgt := 65) hx hb dX10_isShown_58 (by decide) (fun c58 => ?_) (fun c58 => ?_)
  · replace h := o_f c58 h
    refine lv_iconst (v := (-1 : Int32)) hx hb dX10_isShown_65 (by decide) ?_
    exact w_X10_isShown_66 C0 hk11 _ _ _ _ _ h _ _ _ hM hS (lv_sub hl [1, 0] rfl)
  replace h := o_t c58 h
  refine lv_iconst (v := (1 : Int32)) hx hb dX10_isShown_61 (by decide) ?_
  refine lv_goto (tgt := 66) hx hb dX10_isShown_62 (by decide) ?_
  exact w_X10_isShown_66 C0 hk11 _ _ _ _ _ h _ _ _ hM hS (lv_sub hl [1, 0] rfl)
set_option maxHeartbeats 4000000 in
set_option maxRecDepth 100000 in
theorem w_X10_isShown_53 (C0 : CX cX10_isShown 4 (some .boolean) wsX10_isShown RX10 p s m args meth c D b0) {k11 : Nat → Int32 → Int32 → mmF → Option (Int32 × mmF)} {res : Int32 × mmF} (hk11 : ∀ (v0 : Nat) (v1 : Int32) (v2 : Int32) (f : mmF), k11 v0 v1 v2 f = some res → ∀ (H : Heap) (locs : List Loc) (ls : Array Slot), MM vwCl D b0 f sz s H → mS b0 s H locs → lv_has ls 4 [(0, .ref v0), (1, .int v1), (2, .int v2)] → W p l e ({ frames := 8, cells := 0, slots := 0, locals := 193 } : Room) s m args below meth c H locs 0 0 (MQ below (QW D b0 (some (.int res.1)) res.2 sz) args s 0 0 (fun q => b0 ≤ q)) (F0 m 11 ls [])) : ∀ (v0 : Nat) (v1 : Int32) (v3 : Int32) (f : mmF), f_X10_isShown_53 k11 v0 v1 v3 f = some res → ∀ (H : Heap) (locs : List Loc) (ls : Array Slot), MM vwCl D b0 f sz s H → mS b0 s H locs → lv_has ls 4 [(0, .ref v0), (1, .int v1), (3, .int v3)] → W p l e ({ frames := 8, cells := 0, slots := 0, locals := 193 } : Room) s m args below meth c H locs 0 0 (MQ below (QW D b0 (some (.int res.1)) res.2 sz) args s 0 0 (fun q => b0 ≤ q)) (F0 m 53 ls []) := by
  obtain ⟨hx, hb, hr, hml, hown, hts, hlocks, hK⟩ := id C0
  intro v0 v1 v3 f h H locs ls hM hS hl
  unfold f_X10_isShown_53 at h
  refine lv_iload_n hx hb dX10_isShown_53 rfl (lv_at hl 2 rfl) ?_
  exact w_X10_isShown_54 C0 hk11 _ _ _ _ h _ _ _ hM hS (lv_sub hl [0, 1] rfl)
set_option maxHeartbeats 4000000 in
set_option maxRecDepth 100000 in
theorem w_X10_isShown_34 (C0 : CX cX10_isShown 4 (some .boolean) wsX10_isShown RX10 p s m args meth c D b0) {k11 : Nat → Int32 → Int32 → mmF → Option (Int32 × mmF)} {res : Int32 × mmF} (hk11 : ∀ (v0 : Nat) (v1 : Int32) (v2 : Int32) (f : mmF), k11 v0 v1 v2 f = some res → ∀ (H : Heap) (locs : List Loc) (ls : Array Slot), MM vwCl D b0 f sz s H → mS b0 s H locs → lv_has ls 4 [(0, .ref v0), (1, .int v1), (2, .int v2)] → W p l e ({ frames := 8, cells := 0, slots := 0, locals := 193 } : Room) s m args below meth c H locs 0 0 (MQ below (QW D b0 (some (.int res.1)) res.2 sz) args s 0 0 (fun q => b0 ≤ q)) (F0 m 11 ls [])) : ∀ (v0 : Nat) (v1 : Int32) (v2 : Int32) (t0 : Int32) (f : mmF), f_X10_isShown_34 k11 v0 v1 v2 t0 f = some res → ∀ (H : Heap) (locs : List Loc) (ls : Array Slot), MM vwCl D b0 f sz s H → mS b0 s H locs → lv_has ls 4 [(0, .ref v0), (1, .int v1), (2, .int v2)] → W p l e ({ frames := 8, cells := 0, slots := 0, locals := 193 } : Room) s m args below meth c H locs 0 0 (MQ below (QW D b0 (some (.int res.1)) res.2 sz) args s 0 0 (fun q => b0 ≤ q)) (F0 m 34 ls [.int t0]) := by
  obtain ⟨hx, hb, hr, hml, hown, hts, hlocks, hK⟩ := id C0
  intro v0 v1 v2 t0 f h H locs ls hM hS hl
  unfold f_X10_isShown_34 at h
  refine lv_istore_n (lv' := [(3, .int t0), (0, .ref v0), (1, .int v1), (2, .int v2)]) hx hb dX10_isShown_34 rfl hl (by decide) rfl (fun ls hl => ?_)
  refine lv_iload_n hx hb dX10_isShown_35 rfl (lv_at hl 3 rfl) ?_
  refine lv_iconst (v := (2 : Int32)) hx hb dX10_isShown_36 (by decide) ?_
  refine lv_icmp_ne (tgt := 53) hx hb dX10_isShown_37 (by decide) (fun c37 => ?_) (fun c37 => ?_)
  · replace h := o_f c37 h
    exact w_X10_isShown_53 C0 hk11 _ _ _ _ h _ _ _ hM hS (lv_sub hl [1, 2, 0] rfl)
  replace h := o_t c37 h
  refine lv_iload_n hx hb dX10_isShown_40 rfl (lv_at hl 0 rfl) ?_
  refine lv_iconst (v := (2 : Int32)) hx hb dX10_isShown_41 (by decide) ?_
  refine lv_icmp_ne (tgt := 53) hx hb dX10_isShown_42 (by decide) (fun c42 => ?_) (fun c42 => ?_)
  · replace h := o_f c42 h
    exact w_X10_isShown_53 C0 hk11 _ _ _ _ h _ _ _ hM hS (lv_sub hl [1, 2, 0] rfl)
  replace h := o_t c42 h
  refine lv_aload_n hx hb dX10_isShown_45 rfl (lv_at hl 1 rfl) ?_
  refine lv_iload_n hx hb dX10_isShown_46 rfl (lv_at hl 2 rfl) ?_
  replace h := o_b h; obtain ⟨_, k47, h⟩ := h
  replace h := o_b h; obtain ⟨q47, h47, h⟩ := h
  refine m_call (va_runV (As := [.int v1]) (rest := []) ⟨hx, hb, hml, hown, hts⟩ (c_X10_begins l D b0 sz h47) (cwV 1 hts gX10_isShown_X10_begins rfl rfl rfl (by decide +kernel) ⟨Nat.le_of_ble_eq_true rfl, Nat.le_of_ble_eq_true rfl⟩) ⟨PW.blind, m_recv (ci := 10) rfl hK hM k47, (fun U hU hW => ⟨rfl, PW.call hK hM hS hU hW⟩)⟩ rfl rfl hl.1 rfl (lv_room (Nat.le_of_ble_eq_true rfl)) dX10_isShown_47 ⟨(Nat.le_refl _), (Nat.le_refl _)⟩) hS (fun H locs hM hS => ?_)
  refine lv_goto (tgt := 54) hx hb dX10_isShown_50 (by decide) ?_
  exact w_X10_isShown_54 C0 hk11 _ _ _ _ h _ _ _ hM hS (lv_sub hl [1, 2] rfl)
set_option maxHeartbeats 4000000 in
set_option maxRecDepth 100000 in
theorem w_X10_isShown_11 (C0 : CX cX10_isShown 4 (some .boolean) wsX10_isShown RX10 p s m args meth c D b0) {res : Int32 × mmF} : ∀ (n : Nat), ∀ (v0 : Nat) (v1 : Int32) (v2 : Int32) (f : mmF), f_X10_isShown_11 n v0 v1 v2 f = some res → ∀ (H : Heap) (locs : List Loc) (ls : Array Slot), MM vwCl D b0 f sz s H → mS b0 s H locs → lv_has ls 4 [(0, .ref v0), (1, .int v1), (2, .int v2)] → W p l e ({ frames := 8, cells := 0, slots := 0, locals := 193 } : Room) s m args below meth c H locs 0 0 (MQ below (QW D b0 (some (.int res.1)) res.2 sz) args s 0 0 (fun q => b0 ≤ q)) (F0 m 11 ls []) := by
  obtain ⟨hx, hb, hr, hml, hown, hts, hlocks, hK⟩ := id C0
  intro n
  induction n with
  | zero =>
    intro v0 v1 v2 f h
    have h : (none : Option (Int32 × mmF)) = some res := h
    cases h
  | succ n ih =>
    intro v0 v1 v2 f h H locs ls hM hS hl
    rw [f_X10_isShown_11] at h
    refine lv_iload_n hx hb dX10_isShown_11 rfl (lv_at hl 1 rfl) ?_
    refine lv_if_lt (tgt := 73) hx hb dX10_isShown_12 (by decide) (fun c12 => ?_) (fun c12 => ?_)
    · replace h := o_t c12 h
      refine lv_iload_n hx hb dX10_isShown_73 rfl (lv_at hl 2 rfl) ?_
      refine lv_iconst (v := (1 : Int32)) hx hb dX10_isShown_74 (by decide) ?_
      refine lv_icmp_ne (tgt := 82) hx hb dX10_isShown_75 (by decide) (fun c75 => ?_) (fun c75 => ?_)
      · replace h := o_f c75 h
        refine lv_iconst (v := (0 : Int32)) hx hb dX10_isShown_82 (by decide) ?_
        replace h := Option.some.inj h; subst h
        exact W.zret hx hb hr rfl (fun t ht hW => ⟨rfl, by rw [ht]; exact hM.moved hW.alike, hS.F ht⟩) hS.2.2 dX10_isShown_83
      replace h := o_t c75 h
      refine lv_iconst (v := (1 : Int32)) hx hb dX10_isShown_78 (by decide) ?_
      refine lv_goto (tgt := 83) hx hb dX10_isShown_79 (by decide) ?_
      replace h := Option.some.inj h; subst h
      exact W.zret hx hb hr rfl (fun t ht hW => ⟨rfl, by rw [ht]; exact hM.moved hW.alike, hS.F ht⟩) hS.2.2 dX10_isShown_83
    replace h := o_f c12 h
    refine lv_iload_n hx hb dX10_isShown_15 rfl (lv_at hl 2 rfl) ?_
    refine lv_iconst (v := (2 : Int32)) hx hb dX10_isShown_16 (by decide) ?_
    refine lv_icmp_ge (tgt := 29) hx hb dX10_isShown_17 (by decide) (fun c17 => ?_) (fun c17 => ?_)
    · replace h := o_t c17 h
      refine lv_aload_n hx hb dX10_isShown_29 rfl (lv_at hl 0 rfl) ?_
      refine lv_iload_n hx hb dX10_isShown_30 rfl (lv_at hl 1 rfl) ?_
      replace h := o_b h; obtain ⟨_, k31, h⟩ := h
      replace h := o_b h; obtain ⟨q31, h31, h⟩ := h
      refine m_call (va_runV (As := [.int v1]) (rest := []) ⟨hx, hb, hml, hown, hts⟩ (c_X10_settles l D b0 sz h31) (cwV 1 hts gX10_isShown_X10_settles rfl rfl rfl (by decide +kernel) ⟨Nat.le_of_ble_eq_true rfl, Nat.le_of_ble_eq_true rfl⟩) ⟨PW.blind, m_recv (ci := 10) rfl hK hM k31, (fun U hU hW => ⟨rfl, PW.call hK hM hS hU hW⟩)⟩ rfl rfl hl.1 rfl (lv_room (Nat.le_of_ble_eq_true rfl)) dX10_isShown_31 ⟨(Nat.le_refl _), (Nat.le_refl _)⟩) hS (fun H locs hM hS => ?_)
      exact w_X10_isShown_34 C0 ih _ _ _ _ _ h _ _ _ hM hS (lv_sub hl [0, 1, 2] rfl)
    replace h := o_f c17 h
    refine lv_aload_n hx hb dX10_isShown_20 rfl (lv_at hl 0 rfl) ?_
    refine lv_iload_n hx hb dX10_isShown_21 rfl (lv_at hl 1 rfl) ?_
    refine lv_iload_n hx hb dX10_isShown_22 rfl (lv_at hl 2 rfl) ?_
    replace h := o_b h; obtain ⟨_, k23, h⟩ := h
    replace h := o_b h; obtain ⟨q23, h23, h⟩ := h
    refine m_call (va_runV (As := [.int v1, .int v2]) (rest := []) ⟨hx, hb, hml, hown, hts⟩ (c_X10_goesOn l D b0 sz h23) (cwV 2 hts gX10_isShown_X10_goesOn rfl rfl rfl (by decide +kernel) ⟨Nat.le_of_ble_eq_true rfl, Nat.le_of_ble_eq_true rfl⟩) ⟨PW.blind, m_recv (ci := 10) rfl hK hM k23, (fun U hU hW => ⟨rfl, PW.call hK hM hS hU hW⟩)⟩ rfl rfl hl.1 rfl (lv_room (Nat.le_of_ble_eq_true rfl)) dX10_isShown_23 ⟨(Nat.le_refl _), (Nat.le_refl _)⟩) hS (fun H locs hM hS => ?_)
    refine lv_goto (tgt := 34) hx hb dX10_isShown_26 (by decide) ?_
    exact w_X10_isShown_34 C0 ih _ _ _ _ _ h _ _ _ hM hS (lv_sub hl [0, 1, 2] rfl)
set_option maxHeartbeats 4000000 in
set_option maxRecDepth 100000 in
theorem w_X10_isShown (C0 : CX cX10_isShown 4 (some .boolean) wsX10_isShown RX10 p s m args meth c D b0) {v0 : Nat} {res : Int32 × mmF} (h : f_X10_isShown v0 f = some res) : ∀ (H : Heap) (locs : List Loc) (ls : Array Slot), MM vwCl D b0 f sz s H → mS b0 s H locs → lv_has ls 4 [(0, .ref v0)] → W p l e ({ frames := 8, cells := 0, slots := 0, locals := 193 } : Room) s m args below meth c H locs 0 0 (MQ below (QW D b0 (some (.int res.1)) res.2 sz) args s 0 0 (fun q => b0 ≤ q)) (F0 m 0 ls []) := by
  obtain ⟨hx, hb, hr, hml, hown, hts, hlocks, hK⟩ := id C0
  intro H locs ls hM hS hl
  unfold f_X10_isShown at h
  refine lv_iconst (v := (0 : Int32)) hx hb dX10_isShown_0 (by decide) ?_
  refine lv_istore_n (lv' := [(1, .int (0 : Int32)), (0, .ref v0)]) hx hb dX10_isShown_1 rfl hl (by decide) rfl (fun ls hl => ?_)
  refine lv_aload_n hx hb dX10_isShown_2 rfl (lv_at hl 1 rfl) ?_
  replace h := o_b h; obtain ⟨x3, h3, h⟩ := h
  refine m_get (C := RX10) (T := TX10) (N := 25) (ci := 10) hx hb hts qi_X10_isShown_X10 hown hK.1 hM 22 (ldR_F h3) rfl (by decide) (hts _ q_X10_isShown_1) (fun _ h9 => h9) dX10_isShown_3 ?_
  refine lv_iconst (v := (0 : Int32)) hx hb dX10_isShown_6 (by decide) ?_
  refine lv_iconst (v := (0 : Int32)) hx hb dX10_isShown_7 (by decide) ?_
  replace h := o_b h; obtain ⟨f8, h8, h⟩ := h
  refine m_iast hx hb hK.1 hM hS rfl h8 dX10_isShown_8 (fun H locs hM hS => ?_)
  refine lv_iconst (v := (2 : Int32)) hx hb dX10_isShown_9 (by decide) ?_
  refine lv_istore_n (lv' := [(2, .int (2 : Int32)), (1, .int (0 : Int32)), (0, .ref v0)]) hx hb dX10_isShown_10 rfl hl (by decide) rfl (fun ls hl => ?_)
  exact w_X10_isShown_11 C0 FU _ _ _ _ h _ _ _ hM hS (lv_sub hl [2, 1, 0] rfl)
set_option maxHeartbeats 4000000 in
set_option maxRecDepth 100000 in
theorem c_X10_isShown (l : Launch) (D : mmD) (b0 sz : Nat) {v0 : Nat} {f : mmF} {res : Int32 × mmF} (h : f_X10_isShown v0 f = some res) : Met l yX10_isShown wsX10_isShown ({ frames := 8, cells := 0, slots := 0, locals := 193 } : Room) (va_Pc [.ref v0] (PW D b0 f sz)) (QW D b0 (some (.int res.1)) res.2 sz) 0 0 (fun q => b0 ≤ q) := by
  refine Met.ofW (cc := cX10_isShown) (maxL := 4) (ret := (some .boolean)) (by decide) rfl ?_
  intro p e s m args below meth c s₁ B hml hv
  obtain ⟨rfl, hM, hK⟩ := hv
  have hl := lv_entry ([.ref v0]) (n := 4) (Nat.le_of_ble_eq_true rfl)
  rw [lg_entry_eq]
  generalize (lg_sl ([.ref v0]) ++ List.replicate (4 - (lg_sl ([.ref v0])).length) Slot.unset).toArray = ls at hl ⊢
  have hl : lv_has ls 4 [(0, .ref v0)] := hl
  exact w_X10_isShown ⟨B.exec, B.bytes, B.returns, hml, findClass_of_methodNamed B.named, atoms_spec (ws := wsX10_isShown) B.pre, B.notSynchronized, hK⟩ h s.heap [] ls hM va_S.rf hl
end S_X10_isShown
/-! X10_isBad -/
noncomputable def f_X10_isBad (v0 : Nat) (v1 : Int32) (f : mmF) : Option (Int32) :=
  (f_X10_in v1 (0 : Int32) (31 : Int32) f).bind fun q4 =>
  if q4 = 0 then
  (some ((1 : Int32)))
  else
  (ckO f v0 10).bind fun _ =>
  (f_X10_places v0 f).bind fun q12 =>
  if (v1 &&& (q12 ^^^ (-1 : Int32))) = 0 then
  (some ((0 : Int32)))
  else
  some ((1 : Int32))
section S_X10_isBad
variable {p : Program} {l : Launch} {e : Env} {s : State} {m : MethodId} {args : Array Value} {below : List Frame} {meth : Method} {c : Code} {D : mmD} {b0 sz : Nat} {f : mmF}
set_option maxHeartbeats 4000000 in
set_option maxRecDepth 100000 in
theorem w_X10_isBad (C0 : CX cX10_isBad 2 (some .boolean) wsX10_isBad RX10 p s m args meth c D b0) {v0 : Nat} {v1 : Int32} {res : Int32} (h : f_X10_isBad v0 v1 f = some res) : ∀ (H : Heap) (locs : List Loc) (ls : Array Slot), MM vwCl D b0 f sz s H → mS b0 s H locs → lv_has ls 2 [(0, .ref v0), (1, .int v1)] → W p l e ({ frames := 4, cells := 0, slots := 0, locals := 85 } : Room) s m args below meth c H locs 0 0 (MQ below (QW D b0 (some (.int res)) f sz) args s 0 0 (fun q => b0 ≤ q)) (F0 m 0 ls []) := by
  obtain ⟨hx, hb, hr, hml, hown, hts, hlocks, hK⟩ := id C0
  intro H locs ls hM hS hl
  unfold f_X10_isBad at h
  refine lv_iload_n hx hb dX10_isBad_0 rfl (lv_at hl 1 rfl) ?_
  refine lv_iconst (v := (0 : Int32)) hx hb dX10_isBad_1 (by decide) ?_
  refine lv_bipush (v := (31 : Int32)) hx hb dX10_isBad_2 (by decide) ?_
  replace h := o_b h; obtain ⟨q4, h4, h⟩ := h
  refine m_call (va_runS (As := [.int v1, .int (0 : Int32), .int (31 : Int32)]) (rest := []) ⟨hx, hb, hml, hown, hts⟩ (c_X10_in l D b0 sz h4) (va_cwS 3 hts gX10_isBad_X10_in rfl rfl rfl (by decide +kernel) ⟨Nat.le_of_ble_eq_true rfl, Nat.le_of_ble_eq_true rfl⟩) ⟨PW.blind, (fun U hU hW => ⟨rfl, PW.call hK hM hS hU hW⟩)⟩ rfl rfl hl.1 rfl (lv_room (Nat.le_of_ble_eq_true rfl)) dX10_isBad_4 ⟨(Nat.le_refl _), (Nat.le_refl _)⟩) hS (fun H locs hM hS => ?_)
  refine lv_if_eq (tgt := 21) hx hb dX10_isBad_7 (by decide) (fun c7 => ?_) (fun c7 => ?_)
  · replace h := o_t c7 h
    refine lv_iconst (v := (1 : Int32)) hx hb dX10_isBad_21 (by decide) ?_
    refine lv_goto (tgt := 26) hx hb dX10_isBad_22 (by decide) ?_
    replace h := Option.some.inj h; subst h
    exact W.zret hx hb hr rfl (fun t ht hW => ⟨rfl, by rw [ht]; exact hM.moved hW.alike, hS.F ht⟩) hS.2.2 dX10_isBad_26
  replace h := o_f c7 h
  refine lv_iload_n hx hb dX10_isBad_10 rfl (lv_at hl 1 rfl) ?_
  refine lv_aload_n hx hb dX10_isBad_11 rfl (lv_at hl 0 rfl) ?_
  replace h := o_b h; obtain ⟨_, k12, h⟩ := h
  replace h := o_b h; obtain ⟨q12, h12, h⟩ := h
  refine m_call (va_runV (As := []) (rest := [.int v1]) ⟨hx, hb, hml, hown, hts⟩ (c_X10_places l D b0 sz h12) (cwV 0 hts gX10_isBad_X10_places rfl rfl rfl (by decide +kernel) ⟨Nat.le_of_ble_eq_true rfl, Nat.le_of_ble_eq_true rfl⟩) ⟨PW.blind, m_recv (ci := 10) rfl hK hM k12, (fun U hU hW => ⟨rfl, PW.call hK hM hS hU hW⟩)⟩ rfl rfl hl.1 rfl (lv_room (Nat.le_of_ble_eq_true rfl)) dX10_isBad_12 ⟨(Nat.le_refl _), (Nat.le_refl _)⟩) hS (fun H locs hM hS => ?_)
  refine lv_iconst (v := (-1 : Int32)) hx hb dX10_isBad_15 (by decide) ?_
  refine lv_ixor hx hb dX10_isBad_16 ?_
  refine lv_iand hx hb dX10_isBad_17 ?_
  refine lv_if_eq (tgt := 25) hx hb dX10_isBad_18 (by decide) (fun c18 => ?_) (fun c18 => ?_)
  · replace h := o_t c18 h
    refine lv_iconst (v := (0 : Int32)) hx hb dX10_isBad_25 (by decide) ?_
    replace h := Option.some.inj h; subst h
    exact W.zret hx hb hr rfl (fun t ht hW => ⟨rfl, by rw [ht]; exact hM.moved hW.alike, hS.F ht⟩) hS.2.2 dX10_isBad_26
  replace h := o_f c18 h
  refine lv_iconst (v := (1 : Int32)) hx hb dX10_isBad_21 (by decide) ?_
  refine lv_goto (tgt := 26) hx hb dX10_isBad_22 (by decide) ?_
  replace h := Option.some.inj h; subst h
  exact W.zret hx hb hr rfl (fun t ht hW => ⟨rfl, by rw [ht]; exact hM.moved hW.alike, hS.F ht⟩) hS.2.2 dX10_isBad_26
set_option maxHeartbeats 4000000 in
set_option maxRecDepth 100000 in
theorem c_X10_isBad (l : Launch) (D : mmD) (b0 sz : Nat) {v0 : Nat} {v1 : Int32} {f : mmF} {res : Int32} (h : f_X10_isBad v0 v1 f = some res) : Met l yX10_isBad wsX10_isBad ({ frames := 4, cells := 0, slots := 0, locals := 85 } : Room) (va_Pc [.ref v0, .int v1] (PW D b0 f sz)) (QW D b0 (some (.int res)) f sz) 0 0 (fun q => b0 ≤ q) := by
  refine Met.ofW (cc := cX10_isBad) (maxL := 2) (ret := (some .boolean)) (by decide) rfl ?_
  intro p e s m args below meth c s₁ B hml hv
  obtain ⟨rfl, hM, hK⟩ := hv
  have hl := lv_entry ([.ref v0, .int v1]) (n := 2) (Nat.le_of_ble_eq_true rfl)
  rw [lg_entry_eq]
  generalize (lg_sl ([.ref v0, .int v1]) ++ List.replicate (2 - (lg_sl ([.ref v0, .int v1])).length) Slot.unset).toArray = ls at hl ⊢
  have hl : lv_has ls 2 [(0, .ref v0), (1, .int v1)] := hl
  exact w_X10_isBad ⟨B.exec, B.bytes, B.returns, hml, findClass_of_methodNamed B.named, atoms_spec (ws := wsX10_isBad) B.pre, B.notSynchronized, hK⟩ h s.heap [] ls hM va_S.rf hl
end S_X10_isBad
/-! X10_sets -/
set_option maxRecDepth 20000 in
theorem qi_X10_sets_X10 : ∀ w ∈ u_ws RX10 TX10 25, w ∈ wsX10_sets := by decide +kernel
set_option maxRecDepth 20000 in
theorem q_X10_sets_1 : Cond.fieldLink RX10 54 "StageTruthsModel" "goal" "[I" ∈ wsX10_sets := by decide +kernel
set_option maxRecDepth 20000 in
theorem q_X10_sets_2 : Cond.fieldLink RX10 51 "StageTruthsModel" "given" "[I" ∈ wsX10_sets := by decide +kernel
noncomputable def f_X10_sets_51 (k27 : Nat → Int32 → Int32 → Int32 → mmF → Option (mmF))  (v0 : Nat) (v1 : Int32) (v2 : Int32) (v3 : Int32) (f : mmF) : Option (mmF) :=
  k27 v0 v1 v2 (v3 + (1 : Int32)) f
noncomputable def f_X10_sets_27   : Nat → Nat → Int32 → Int32 → Int32 → mmF → Option (mmF)
  | 0, _, _, _, _, _ => none
  | n + 1, v0, v1, v2, v3, f =>
    if (5 : Int32) ≤ v3 then
    ((ldR f v0 10 21).bind fun x58 =>
    (ckO f v0 10).bind fun _ =>
    (f_X10_partOf v0 v2 f).bind fun q64 =>
    (stA 0 q64.2 x58 (0 : Int32) q64.1).bind fun f67 =>
    some (f67))
    else
    if ((v1 >>> (v3 &&& 31)) &&& (1 : Int32)) = (1 : Int32) then
    ((ckO f v0 10).bind fun _ =>
    (f_X10_partOf v0 v3 f).bind fun q45 =>
    (ckO q45.2 v0 10).bind fun _ =>
    (f_X10_gets v0 (0 : Int32) q45.1 q45.2).bind fun q48 =>
    f_X10_sets_51 (fun a0 a1 a2 a3 a4 => f_X10_sets_27 n a0 a1 a2 a3 a4) v0 v1 v2 v3 q48)
    else
    f_X10_sets_51 (fun a0 a1 a2 a3 a4 => f_X10_sets_27 n a0 a1 a2 a3 a4) v0 v1 v2 v3 f
noncomputable def f_X10_sets_6   : Nat → Nat → Int32 → Int32 → Int32 → mmF → Option (mmF)
  | 0, _, _, _, _, _ => none
  | n + 1, v0, v1, v2, v3, f =>
    if (32 : Int32) ≤ v3 then
    (f_X10_sets_27 FU v0 v1 v2 (0 : Int32) f)
    else
    (ldR f v0 10 20).bind fun x13 =>
    (stA 0 f x13 v3 (0 : Int32)).bind fun f18 =>
    f_X10_sets_6 n v0 v1 v2 (v3 + (1 : Int32)) f18
noncomputable def f_X10_sets (v0 : Nat) (v1 : Int32) (v2 : Int32) (f : mmF) : Option (mmF) :=
  (ckO f v0 10).bind fun _ =>
  (f_X10_clears v0 f).bind fun q1 =>
  f_X10_sets_6 FU v0 v1 v2 (0 : Int32) q1
section S_X10_sets
variable {p : Program} {l : Launch} {e : Env} {s : State} {m : MethodId} {args : Array Value} {below : List Frame} {meth : Method} {c : Code} {D : mmD} {b0 sz : Nat} {f : mmF}
set_option maxHeartbeats 4000000 in
set_option maxRecDepth 100000 in
theorem w_X10_sets_51 (C0 : CX cX10_sets 4 none wsX10_sets RX10 p s m args meth c D b0) {k27 : Nat → Int32 → Int32 → Int32 → mmF → Option (mmF)} {res : mmF} (hk27 : ∀ (v0 : Nat) (v1 : Int32) (v2 : Int32) (v3 : Int32) (f : mmF), k27 v0 v1 v2 v3 f = some res → ∀ (H : Heap) (locs : List Loc) (ls : Array Slot), MM vwCl D b0 f sz s H → mS b0 s H locs → lv_has ls 4 [(0, .ref v0), (1, .int v1), (2, .int v2), (3, .int v3)] → W p l e ({ frames := 7, cells := 0, slots := 0, locals := 172 } : Room) s m args below meth c H locs 0 0 (MQ below (QW D b0 none res sz) args s 0 0 (fun q => b0 ≤ q)) (F0 m 27 ls [])) : ∀ (v0 : Nat) (v1 : Int32) (v2 : Int32) (v3 : Int32) (f : mmF), f_X10_sets_51 k27 v0 v1 v2 v3 f = some res → ∀ (H : Heap) (locs : List Loc) (ls : Array Slot), MM vwCl D b0 f sz s H → mS b0 s H locs → lv_has ls 4 [(0, .ref v0), (1, .int v1), (2, .int v2), (3, .int v3)] → W p l e ({ frames := 7, cells := 0, slots := 0, locals := 172 } : Room) s m args below meth c H locs 0 0 (MQ below (QW D b0 none res sz) args s 0 0 (fun q => b0 ≤ q)) (F0 m 51 ls []) := by
  obtain ⟨hx, hb, hr, hml, hown, hts, hlocks, hK⟩ := id C0
  intro v0 v1 v2 v3 f h H locs ls hM hS hl
  unfold f_X10_sets_51 at h
  refine lv_iinc (v := (v3 + (1 : Int32))) (lv' := [(3, .int (v3 + (1 : Int32))), (0, .ref v0), (1, .int v1), (2, .int v2)]) hx hb dX10_sets_51 hl (k := 3) rfl rfl (by decide) rfl (fun ls hl => ?_)
  refine lv_goto (tgt := 27) hx hb dX10_sets_54 (by decide) ?_
  exact hk27 _ _ _ _ _ h _ _ _ hM hS (lv_sub hl [1, 2, 3, 0] rfl)
set_option maxHeartbeats 4000000 in
set_option maxRecDepth 100000 in
theorem w_X10_sets_27 (C0 : CX cX10_sets 4 none wsX10_sets RX10 p s m args meth c D b0) {res : mmF} : ∀ (n : Nat), ∀ (v0 : Nat) (v1 : Int32) (v2 : Int32) (v3 : Int32) (f : mmF), f_X10_sets_27 n v0 v1 v2 v3 f = some res → ∀ (H : Heap) (locs : List Loc) (ls : Array Slot), MM vwCl D b0 f sz s H → mS b0 s H locs → lv_has ls 4 [(0, .ref v0), (1, .int v1), (2, .int v2), (3, .int v3)] → W p l e ({ frames := 7, cells := 0, slots := 0, locals := 172 } : Room) s m args below meth c H locs 0 0 (MQ below (QW D b0 none res sz) args s 0 0 (fun q => b0 ≤ q)) (F0 m 27 ls []) := by
  obtain ⟨hx, hb, hr, hml, hown, hts, hlocks, hK⟩ := id C0
  intro n
  induction n with
  | zero =>
    intro v0 v1 v2 v3 f h
    have h : (none : Option (mmF)) = some res := h
    cases h
  | succ n ih =>
    intro v0 v1 v2 v3 f h H locs ls hM hS hl
    rw [f_X10_sets_27] at h
    refine lv_iload_n hx hb dX10_sets_27 rfl (lv_at hl 3 rfl) ?_
    refine lv_iconst (v := (5 : Int32)) hx hb dX10_sets_28 (by decide) ?_
    refine lv_icmp_ge (tgt := 57) hx hb dX10_sets_29 (by decide) (fun c29 => ?_) (fun c29 => ?_)
    · replace h := o_t c29 h
      refine lv_aload_n hx hb dX10_sets_57 rfl (lv_at hl 0 rfl) ?_
      replace h := o_b h; obtain ⟨x58, h58, h⟩ := h
      refine m_get (C := RX10) (T := TX10) (N := 25) (ci := 10) hx hb hts qi_X10_sets_X10 hown hK.1 hM 21 (ldR_F h58) rfl (by decide) (hts _ q_X10_sets_1) (fun _ h9 => h9) dX10_sets_58 ?_
      refine lv_iconst (v := (0 : Int32)) hx hb dX10_sets_61 (by decide) ?_
      refine lv_aload_n hx hb dX10_sets_62 rfl (lv_at hl 0 rfl) ?_
      refine lv_iload_n hx hb dX10_sets_63 rfl (lv_at hl 2 rfl) ?_
      replace h := o_b h; obtain ⟨_, k64, h⟩ := h
      replace h := o_b h; obtain ⟨q64, h64, h⟩ := h
      refine m_call (va_runV (As := [.int v2]) (rest := [.int (0 : Int32), .ref x58]) ⟨hx, hb, hml, hown, hts⟩ (c_X10_partOf l D b0 sz h64) (cwV 1 hts gX10_sets_X10_partOf rfl rfl rfl (by decide +kernel) ⟨Nat.le_of_ble_eq_true rfl, Nat.le_of_ble_eq_true rfl⟩) ⟨PW.blind, m_recv (ci := 10) rfl hK hM k64, (fun U hU hW => ⟨rfl, PW.call hK hM hS hU hW⟩)⟩ rfl rfl hl.1 rfl (lv_room (Nat.le_of_ble_eq_true rfl)) dX10_sets_64 ⟨(Nat.le_refl _), (Nat.le_refl _)⟩) hS (fun H locs hM hS => ?_)
      replace h := o_b h; obtain ⟨f67, h67, h⟩ := h
      refine m_iast hx hb hK.1 hM hS rfl h67 dX10_sets_67 (fun H locs hM hS => ?_)
      replace h := Option.some.inj h; subst h
      exact W.vret hx hb hr (fun t ht hW => ⟨rfl, by rw [ht]; exact hM.moved hW.alike, hS.F ht⟩) hS.2.2 dX10_sets_68
    replace h := o_f c29 h
    refine lv_iload_n hx hb dX10_sets_32 rfl (lv_at hl 1 rfl) ?_
    refine lv_iload_n hx hb dX10_sets_33 rfl (lv_at hl 3 rfl) ?_
    refine lv_ishr hx hb dX10_sets_34 ?_
    refine lv_iconst (v := (1 : Int32)) hx hb dX10_sets_35 (by decide) ?_
    refine lv_iand hx hb dX10_sets_36 ?_
    refine lv_iconst (v := (1 : Int32)) hx hb dX10_sets_37 (by decide) ?_
    refine lv_icmp_ne (tgt := 51) hx hb dX10_sets_38 (by decide) (fun c38 => ?_) (fun c38 => ?_)
    · replace h := o_f c38 h
      exact w_X10_sets_51 C0 ih _ _ _ _ _ h _ _ _ hM hS (lv_sub hl [0, 1, 2, 3] rfl)
    replace h := o_t c38 h
    refine lv_aload_n hx hb dX10_sets_41 rfl (lv_at hl 0 rfl) ?_
    refine lv_iconst (v := (0 : Int32)) hx hb dX10_sets_42 (by decide) ?_
    refine lv_aload_n hx hb dX10_sets_43 rfl (lv_at hl 0 rfl) ?_
    refine lv_iload_n hx hb dX10_sets_44 rfl (lv_at hl 3 rfl) ?_
    replace h := o_b h; obtain ⟨_, k45, h⟩ := h
    replace h := o_b h; obtain ⟨q45, h45, h⟩ := h
    refine m_call (va_runV (As := [.int v3]) (rest := [.int (0 : Int32), .ref v0]) ⟨hx, hb, hml, hown, hts⟩ (c_X10_partOf l D b0 sz h45) (cwV 1 hts gX10_sets_X10_partOf rfl rfl rfl (by decide +kernel) ⟨Nat.le_of_ble_eq_true rfl, Nat.le_of_ble_eq_true rfl⟩) ⟨PW.blind, m_recv (ci := 10) rfl hK hM k45, (fun U hU hW => ⟨rfl, PW.call hK hM hS hU hW⟩)⟩ rfl rfl hl.1 rfl (lv_room (Nat.le_of_ble_eq_true rfl)) dX10_sets_45 ⟨(Nat.le_refl _), (Nat.le_refl _)⟩) hS (fun H locs hM hS => ?_)
    replace h := o_b h; obtain ⟨_, k48, h⟩ := h
    replace h := o_b h; obtain ⟨q48, h48, h⟩ := h
    refine m_call (va_runV (As := [.int (0 : Int32), .int q45.1]) (rest := []) ⟨hx, hb, hml, hown, hts⟩ (c_X10_gets l D b0 sz h48) (cwV 2 hts gX10_sets_X10_gets rfl rfl rfl (by decide +kernel) ⟨Nat.le_of_ble_eq_true rfl, Nat.le_of_ble_eq_true rfl⟩) ⟨PW.blind, m_recv (ci := 10) rfl hK hM k48, (fun U hU hW => ⟨rfl, PW.call hK hM hS hU hW⟩)⟩ rfl rfl hl.1 rfl (lv_room (Nat.le_of_ble_eq_true rfl)) dX10_sets_48 ⟨(Nat.le_refl _), (Nat.le_refl _)⟩) hS (fun H locs hM hS => ?_)
    exact w_X10_sets_51 C0 ih _ _ _ _ _ h _ _ _ hM hS (lv_sub hl [0, 1, 2, 3] rfl)
set_option maxHeartbeats 4000000 in
set_option maxRecDepth 100000 in
theorem w_X10_sets_6 (C0 : CX cX10_sets 4 none wsX10_sets RX10 p s m args meth c D b0) {res : mmF} : ∀ (n : Nat), ∀ (v0 : Nat) (v1 : Int32) (v2 : Int32) (v3 : Int32) (f : mmF), f_X10_sets_6 n v0 v1 v2 v3 f = some res → ∀ (H : Heap) (locs : List Loc) (ls : Array Slot), MM vwCl D b0 f sz s H → mS b0 s H locs → lv_has ls 4 [(0, .ref v0), (1, .int v1), (2, .int v2), (3, .int v3)] → W p l e ({ frames := 7, cells := 0, slots := 0, locals := 172 } : Room) s m args below meth c H locs 0 0 (MQ below (QW D b0 none res sz) args s 0 0 (fun q => b0 ≤ q)) (F0 m 6 ls []) := by
  obtain ⟨hx, hb, hr, hml, hown, hts, hlocks, hK⟩ := id C0
  intro n
  induction n with
  | zero =>
    intro v0 v1 v2 v3 f h
    have h : (none : Option (mmF)) = some res := h
    cases h
  | succ n ih =>
    intro v0 v1 v2 v3 f h H locs ls hM hS hl
    rw [f_X10_sets_6] at h
    refine lv_iload_n hx hb dX10_sets_6 rfl (lv_at hl 3 rfl) ?_
    refine lv_bipush (v := (32 : Int32)) hx hb dX10_sets_7 (by decide) ?_
    refine lv_icmp_ge (tgt := 25) hx hb dX10_sets_9 (by decide) (fun c9 => ?_) (fun c9 => ?_)
    · replace h := o_t c9 h
      refine lv_iconst (v := (0 : Int32)) hx hb dX10_sets_25 (by decide) ?_
      refine lv_istore_n (lv' := [(3, .int (0 : Int32)), (0, .ref v0), (1, .int v1), (2, .int v2)]) hx hb dX10_sets_26 rfl hl (by decide) rfl (fun ls hl => ?_)
      exact w_X10_sets_27 C0 FU _ _ _ _ _ h _ _ _ hM hS (lv_sub hl [1, 2, 3, 0] rfl)
    replace h := o_f c9 h
    refine lv_aload_n hx hb dX10_sets_12 rfl (lv_at hl 0 rfl) ?_
    replace h := o_b h; obtain ⟨x13, h13, h⟩ := h
    refine m_get (C := RX10) (T := TX10) (N := 25) (ci := 10) hx hb hts qi_X10_sets_X10 hown hK.1 hM 20 (ldR_F h13) rfl (by decide) (hts _ q_X10_sets_2) (fun _ h9 => h9) dX10_sets_13 ?_
    refine lv_iload_n hx hb dX10_sets_16 rfl (lv_at hl 3 rfl) ?_
    refine lv_iconst (v := (0 : Int32)) hx hb dX10_sets_17 (by decide) ?_
    replace h := o_b h; obtain ⟨f18, h18, h⟩ := h
    refine m_iast hx hb hK.1 hM hS rfl h18 dX10_sets_18 (fun H locs hM hS => ?_)
    refine lv_iinc (v := (v3 + (1 : Int32))) (lv' := [(3, .int (v3 + (1 : Int32))), (0, .ref v0), (1, .int v1), (2, .int v2)]) hx hb dX10_sets_19 hl (k := 3) rfl rfl (by decide) rfl (fun ls hl => ?_)
    refine lv_goto (tgt := 6) hx hb dX10_sets_22 (by decide) ?_
    exact ih _ _ _ _ _ h _ _ _ hM hS (lv_sub hl [1, 2, 3, 0] rfl)
set_option maxHeartbeats 4000000 in
set_option maxRecDepth 100000 in
theorem w_X10_sets (C0 : CX cX10_sets 4 none wsX10_sets RX10 p s m args meth c D b0) {v0 : Nat} {v1 : Int32} {v2 : Int32} {res : mmF} (h : f_X10_sets v0 v1 v2 f = some res) : ∀ (H : Heap) (locs : List Loc) (ls : Array Slot), MM vwCl D b0 f sz s H → mS b0 s H locs → lv_has ls 4 [(0, .ref v0), (1, .int v1), (2, .int v2)] → W p l e ({ frames := 7, cells := 0, slots := 0, locals := 172 } : Room) s m args below meth c H locs 0 0 (MQ below (QW D b0 none res sz) args s 0 0 (fun q => b0 ≤ q)) (F0 m 0 ls []) := by
  obtain ⟨hx, hb, hr, hml, hown, hts, hlocks, hK⟩ := id C0
  intro H locs ls hM hS hl
  unfold f_X10_sets at h
  refine lv_aload_n hx hb dX10_sets_0 rfl (lv_at hl 0 rfl) ?_
  replace h := o_b h; obtain ⟨_, k1, h⟩ := h
  replace h := o_b h; obtain ⟨q1, h1, h⟩ := h
  refine m_call (va_runV (As := []) (rest := []) ⟨hx, hb, hml, hown, hts⟩ (c_X10_clears l D b0 sz h1) (cwV 0 hts gX10_sets_X10_clears rfl rfl rfl (by decide +kernel) ⟨Nat.le_of_ble_eq_true rfl, Nat.le_of_ble_eq_true rfl⟩) ⟨PW.blind, m_recv (ci := 10) rfl hK hM k1, (fun U hU hW => ⟨rfl, PW.call hK hM hS hU hW⟩)⟩ rfl rfl hl.1 rfl (lv_room (Nat.le_of_ble_eq_true rfl)) dX10_sets_1 ⟨(Nat.le_refl _), (Nat.le_refl _)⟩) hS (fun H locs hM hS => ?_)
  refine lv_iconst (v := (0 : Int32)) hx hb dX10_sets_4 (by decide) ?_
  refine lv_istore_n (lv' := [(3, .int (0 : Int32)), (0, .ref v0), (1, .int v1), (2, .int v2)]) hx hb dX10_sets_5 rfl hl (by decide) rfl (fun ls hl => ?_)
  exact w_X10_sets_6 C0 FU _ _ _ _ _ h _ _ _ hM hS (lv_sub hl [1, 2, 3, 0] rfl)
set_option maxHeartbeats 4000000 in
set_option maxRecDepth 100000 in
theorem c_X10_sets (l : Launch) (D : mmD) (b0 sz : Nat) {v0 : Nat} {v1 : Int32} {v2 : Int32} {f : mmF} {res : mmF} (h : f_X10_sets v0 v1 v2 f = some res) : Met l yX10_sets wsX10_sets ({ frames := 7, cells := 0, slots := 0, locals := 172 } : Room) (va_Pc [.ref v0, .int v1, .int v2] (PW D b0 f sz)) (QW D b0 none res sz) 0 0 (fun q => b0 ≤ q) := by
  refine Met.ofW (cc := cX10_sets) (maxL := 4) (ret := none) (by decide) rfl ?_
  intro p e s m args below meth c s₁ B hml hv
  obtain ⟨rfl, hM, hK⟩ := hv
  have hl := lv_entry ([.ref v0, .int v1, .int v2]) (n := 4) (Nat.le_of_ble_eq_true rfl)
  rw [lg_entry_eq]
  generalize (lg_sl ([.ref v0, .int v1, .int v2]) ++ List.replicate (4 - (lg_sl ([.ref v0, .int v1, .int v2])).length) Slot.unset).toArray = ls at hl ⊢
  have hl : lv_has ls 4 [(0, .ref v0), (1, .int v1), (2, .int v2)] := hl
  exact w_X10_sets ⟨B.exec, B.bytes, B.returns, hml, findClass_of_methodNamed B.named, atoms_spec (ws := wsX10_sets) B.pre, B.notSynchronized, hK⟩ h s.heap [] ls hM va_S.rf hl
end S_X10_sets
/-! X10_isFollowing -/
noncomputable def f_X10_isFollowing (v0 : Nat) (v1 : Int32) (v2 : Int32) (f : mmF) : Option (Int32 × mmF) :=
  (ckO f v0 10).bind fun _ =>
  (f_X10_sets v0 v1 v2 f).bind fun q3 =>
  (ckO q3 v0 10).bind fun _ =>
  (f_X10_isShown v0 q3).bind fun q7 =>
  (rz q7.1).bind fun z10 =>
  some (z10, q7.2)
section S_X10_isFollowing
variable {p : Program} {l : Launch} {e : Env} {s : State} {m : MethodId} {args : Array Value} {below : List Frame} {meth : Method} {c : Code} {D : mmD} {b0 sz : Nat} {f : mmF}
set_option maxHeartbeats 4000000 in
set_option maxRecDepth 100000 in
theorem w_X10_isFollowing (C0 : CX cX10_isFollowing 3 (some .boolean) wsX10_isFollowing RX10 p s m args meth c D b0) {v0 : Nat} {v1 : Int32} {v2 : Int32} {res : Int32 × mmF} (h : f_X10_isFollowing v0 v1 v2 f = some res) : ∀ (H : Heap) (locs : List Loc) (ls : Array Slot), MM vwCl D b0 f sz s H → mS b0 s H locs → lv_has ls 3 [(0, .ref v0), (1, .int v1), (2, .int v2)] → W p l e ({ frames := 9, cells := 0, slots := 0, locals := 216 } : Room) s m args below meth c H locs 0 0 (MQ below (QW D b0 (some (.int res.1)) res.2 sz) args s 0 0 (fun q => b0 ≤ q)) (F0 m 0 ls []) := by
  obtain ⟨hx, hb, hr, hml, hown, hts, hlocks, hK⟩ := id C0
  intro H locs ls hM hS hl
  unfold f_X10_isFollowing at h
  refine lv_aload_n hx hb dX10_isFollowing_0 rfl (lv_at hl 0 rfl) ?_
  refine lv_iload_n hx hb dX10_isFollowing_1 rfl (lv_at hl 1 rfl) ?_
  refine lv_iload_n hx hb dX10_isFollowing_2 rfl (lv_at hl 2 rfl) ?_
  replace h := o_b h; obtain ⟨_, k3, h⟩ := h
  replace h := o_b h; obtain ⟨q3, h3, h⟩ := h
  refine m_call (va_runV (As := [.int v1, .int v2]) (rest := []) ⟨hx, hb, hml, hown, hts⟩ (c_X10_sets l D b0 sz h3) (cwV 2 hts gX10_isFollowing_X10_sets rfl rfl rfl (by decide +kernel) ⟨Nat.le_of_ble_eq_true rfl, Nat.le_of_ble_eq_true rfl⟩) ⟨PW.blind, m_recv (ci := 10) rfl hK hM k3, (fun U hU hW => ⟨rfl, PW.call hK hM hS hU hW⟩)⟩ rfl rfl hl.1 rfl (lv_room (Nat.le_of_ble_eq_true rfl)) dX10_isFollowing_3 ⟨(Nat.le_refl _), (Nat.le_refl _)⟩) hS (fun H locs hM hS => ?_)
  refine lv_aload_n hx hb dX10_isFollowing_6 rfl (lv_at hl 0 rfl) ?_
  replace h := o_b h; obtain ⟨_, k7, h⟩ := h
  replace h := o_b h; obtain ⟨q7, h7, h⟩ := h
  refine m_call (va_runV (As := []) (rest := []) ⟨hx, hb, hml, hown, hts⟩ (c_X10_isShown l D b0 sz h7) (cwV 0 hts gX10_isFollowing_X10_isShown rfl rfl rfl (by decide +kernel) ⟨Nat.le_of_ble_eq_true rfl, Nat.le_of_ble_eq_true rfl⟩) ⟨PW.blind, m_recv (ci := 10) rfl hK hM k7, (fun U hU hW => ⟨rfl, PW.call hK hM hS hU hW⟩)⟩ rfl rfl hl.1 rfl (lv_room (Nat.le_of_ble_eq_true rfl)) dX10_isFollowing_7 ⟨(Nat.le_refl _), (Nat.le_refl _)⟩) hS (fun H locs hM hS => ?_)
  replace h := o_b h; obtain ⟨z10, hz10, h⟩ := h
  obtain ⟨ez10, nz10⟩ := rz_at hz10
  subst ez10
  replace h := Option.some.inj h; subst h
  exact W.zret hx hb hr nz10 (fun t ht hW => ⟨rfl, by rw [ht]; exact hM.moved hW.alike, hS.F ht⟩) hS.2.2 dX10_isFollowing_10
set_option maxHeartbeats 4000000 in
set_option maxRecDepth 100000 in
theorem c_X10_isFollowing (l : Launch) (D : mmD) (b0 sz : Nat) {v0 : Nat} {v1 : Int32} {v2 : Int32} {f : mmF} {res : Int32 × mmF} (h : f_X10_isFollowing v0 v1 v2 f = some res) : Met l yX10_isFollowing wsX10_isFollowing ({ frames := 9, cells := 0, slots := 0, locals := 216 } : Room) (va_Pc [.ref v0, .int v1, .int v2] (PW D b0 f sz)) (QW D b0 (some (.int res.1)) res.2 sz) 0 0 (fun q => b0 ≤ q) := by
  refine Met.ofW (cc := cX10_isFollowing) (maxL := 3) (ret := (some .boolean)) (by decide) rfl ?_
  intro p e s m args below meth c s₁ B hml hv
  obtain ⟨rfl, hM, hK⟩ := hv
  have hl := lv_entry ([.ref v0, .int v1, .int v2]) (n := 3) (Nat.le_of_ble_eq_true rfl)
  rw [lg_entry_eq]
  generalize (lg_sl ([.ref v0, .int v1, .int v2]) ++ List.replicate (3 - (lg_sl ([.ref v0, .int v1, .int v2])).length) Slot.unset).toArray = ls at hl ⊢
  have hl : lv_has ls 3 [(0, .ref v0), (1, .int v1), (2, .int v2)] := hl
  exact w_X10_isFollowing ⟨B.exec, B.bytes, B.returns, hml, findClass_of_methodNamed B.named, atoms_spec (ws := wsX10_isFollowing) B.pre, B.notSynchronized, hK⟩ h s.heap [] ls hM va_S.rf hl
end S_X10_isFollowing
/-! X10_isKept -/
set_option maxRecDepth 20000 in
theorem qi_X10_isKept_X10 : ∀ w ∈ u_ws RX10 TX10 25, w ∈ wsX10_isKept := by decide +kernel
set_option maxRecDepth 20000 in
theorem q_X10_isKept_1 : Cond.fieldLink RX10 172 "StageTruthsModel" "parts" "I" ∈ wsX10_isKept := by decide +kernel
set_option maxRecDepth 20000 in
theorem q_X10_isKept_2 : Cond.fieldLink RX10 48 "StageTruthsModel" "where" "[I" ∈ wsX10_isKept := by decide +kernel
set_option maxRecDepth 20000 in
theorem q_X10_isKept_3 : Cond.fieldLink RX10 54 "StageTruthsModel" "goal" "[I" ∈ wsX10_isKept := by decide +kernel
noncomputable def f_X10_isKept_88 (k20 : Nat → Int32 → Int32 → Int32 → Option (Int32)) (k50 : Nat → Int32 → Int32 → Int32 → Int32 → Int32 → Int32 → Option (Int32)) (f : mmF) (v0 : Nat) (v1 : Int32) (v2 : Int32) (v3 : Int32) (v4 : Int32) (v6 : Int32) (t0 : Int32) (t1 : Int32) : Option (Int32) :=
  k50 v0 v1 v2 v3 v4 (t0 &&& t1) (v6 + (1 : Int32))
noncomputable def f_X10_isKept_50 (k20 : Nat → Int32 → Int32 → Int32 → Option (Int32)) (f : mmF) : Nat → Nat → Int32 → Int32 → Int32 → Int32 → Int32 → Int32 → Option (Int32)
  | 0, _, _, _, _, _, _, _ => none
  | n + 1, v0, v1, v2, v3, v4, v5, v6 =>
    (ldI f v0 10 19).bind fun x53 =>
    if x53 ≤ v6 then
    ((ldR f v0 10 18).bind fun x100 =>
    (ldR f v0 10 21).bind fun x106 =>
    (ldA 0 f x106 (0 : Int32)).bind fun x110 =>
    (ldA 0 f x100 (((91 : Int32) * x110) + v4)).bind fun x115 =>
    if (v5 &&& (x115 ^^^ (-1 : Int32))) = 0 then
    (k20 v0 v1 v2 (v3 + (1 : Int32)))
    else
    some ((0 : Int32)))
    else
    (ckO f v0 10).bind fun _ =>
    (f_X10_has v0 (0 : Int32) v6 f).bind fun q65 =>
    if q65 = 0 then
    (f_X10_isKept_88 k20 (fun a0 a1 a2 a3 a4 a5 a6 => f_X10_isKept_50 k20 f n a0 a1 a2 a3 a4 a5 a6) f v0 v1 v2 v3 v4 v6 v5 (-1 : Int32))
    else
    (ldR f v0 10 18).bind fun x72 =>
    (ldA 0 f x72 (((91 : Int32) * v6) + v4)).bind fun x83 =>
    f_X10_isKept_88 k20 (fun a0 a1 a2 a3 a4 a5 a6 => f_X10_isKept_50 k20 f n a0 a1 a2 a3 a4 a5 a6) f v0 v1 v2 v3 v4 v6 v5 x83
noncomputable def f_X10_isKept_20  (f : mmF) : Nat → Nat → Int32 → Int32 → Int32 → Option (Int32)
  | 0, _, _, _, _ => none
  | n + 1, v0, v1, v2, v3 =>
    if v2 ≤ v3 then
    (some ((1 : Int32)))
    else
    (f_X10_begin v1 f).bind fun q26 =>
    (f_X10_wordsOf v1 f).bind fun q35 =>
    (f_X10_models v1 f).bind fun q39 =>
    (f_X10_wordEnd v3 q35 q39 f).bind fun q42 =>
    f_X10_isKept_50 (fun a0 a1 a2 a3 => f_X10_isKept_20 f n a0 a1 a2 a3) f FU v0 v1 v2 v3 (q26 + v3) q42 (0 : Int32)
noncomputable def f_X10_isKept_16  (f : mmF) (v0 : Nat) (v1 : Int32) (t0 : Int32) (t1 : Int32) : Option (Int32) :=
  f_X10_isKept_20 f FU v0 v1 (t0 * t1) (0 : Int32)
noncomputable def f_X10_isKept (v0 : Nat) (v1 : Int32) (f : mmF) : Option (Int32) :=
  (f_X10_wordsOf v1 f).bind fun q1 =>
  if (3 : Int32) ≤ v1 then
  (f_X10_isKept_16 f v0 v1 q1 (3 : Int32))
  else
  f_X10_isKept_16 f v0 v1 q1 (v1 + (1 : Int32))
section S_X10_isKept
variable {p : Program} {l : Launch} {e : Env} {s : State} {m : MethodId} {args : Array Value} {below : List Frame} {meth : Method} {c : Code} {D : mmD} {b0 sz : Nat} {f : mmF}
set_option maxHeartbeats 4000000 in
set_option maxRecDepth 100000 in
theorem w_X10_isKept_88 (C0 : CX cX10_isKept 7 (some .boolean) wsX10_isKept RX10 p s m args meth c D b0) {k20 : Nat → Int32 → Int32 → Int32 → Option (Int32)} {k50 : Nat → Int32 → Int32 → Int32 → Int32 → Int32 → Int32 → Option (Int32)} {res : Int32} (hk20 : ∀ (v0 : Nat) (v1 : Int32) (v2 : Int32) (v3 : Int32), k20 v0 v1 v2 v3 = some res → ∀ (H : Heap) (locs : List Loc) (ls : Array Slot), MM vwCl D b0 f sz s H → mS b0 s H locs → lv_has ls 7 [(0, .ref v0), (1, .int v1), (2, .int v2), (3, .int v3)] → W p l e ({ frames := 1, cells := 0, slots := 0, locals := 23 } : Room) s m args below meth c H locs 0 0 (MQ below (QW D b0 (some (.int res)) f sz) args s 0 0 (fun q => b0 ≤ q)) (F0 m 20 ls [])) (hk50 : ∀ (v0 : Nat) (v1 : Int32) (v2 : Int32) (v3 : Int32) (v4 : Int32) (v5 : Int32) (v6 : Int32), k50 v0 v1 v2 v3 v4 v5 v6 = some res → ∀ (H : Heap) (locs : List Loc) (ls : Array Slot), MM vwCl D b0 f sz s H → mS b0 s H locs → lv_has ls 7 [(0, .ref v0), (1, .int v1), (2, .int v2), (3, .int v3), (4, .int v4), (5, .int v5), (6, .int v6)] → W p l e ({ frames := 1, cells := 0, slots := 0, locals := 23 } : Room) s m args below meth c H locs 0 0 (MQ below (QW D b0 (some (.int res)) f sz) args s 0 0 (fun q => b0 ≤ q)) (F0 m 50 ls [])) : ∀ (v0 : Nat) (v1 : Int32) (v2 : Int32) (v3 : Int32) (v4 : Int32) (v6 : Int32) (t0 : Int32) (t1 : Int32), f_X10_isKept_88 k20 k50 f v0 v1 v2 v3 v4 v6 t0 t1 = some res → ∀ (H : Heap) (locs : List Loc) (ls : Array Slot), MM vwCl D b0 f sz s H → mS b0 s H locs → lv_has ls 7 [(0, .ref v0), (1, .int v1), (2, .int v2), (3, .int v3), (4, .int v4), (6, .int v6)] → W p l e ({ frames := 1, cells := 0, slots := 0, locals := 23 } : Room) s m args below meth c H locs 0 0 (MQ below (QW D b0 (some (.int res)) f sz) args s 0 0 (fun q => b0 ≤ q)) (F0 m 88 ls [.int t1, .int t0]) := by
  obtain ⟨hx, hb, hr, hml, hown, hts, hlocks, hK⟩ := id C0
  intro v0 v1 v2 v3 v4 v6 t0 t1 h H locs ls hM hS hl
  unfold f_X10_isKept_88 at h
  refine lv_iand hx hb dX10_isKept_88 ?_
  refine lv_istore (lv' := [(5, .int (t0 &&& t1)), (0, .ref v0), (1, .int v1), (2, .int v2), (3, .int v3), (4, .int v4), (6, .int v6)]) hx hb dX10_isKept_89 hl (by decide) rfl (fun ls hl => ?_)
  refine lv_iinc (v := (v6 + (1 : Int32))) (lv' := [(6, .int (v6 + (1 : Int32))), (5, .int (t0 &&& t1)), (0, .ref v0), (1, .int v1), (2, .int v2), (3, .int v3), (4, .int v4)]) hx hb dX10_isKept_91 hl (k := 6) rfl rfl (by decide) rfl (fun ls hl => ?_)
  refine lv_goto (tgt := 50) hx hb dX10_isKept_94 (by decide) ?_
  exact hk50 _ _ _ _ _ _ _ h _ _ _ hM hS (lv_sub hl [2, 3, 4, 5, 6, 1, 0] rfl)
set_option maxHeartbeats 4000000 in
set_option maxRecDepth 100000 in
theorem w_X10_isKept_50 (C0 : CX cX10_isKept 7 (some .boolean) wsX10_isKept RX10 p s m args meth c D b0) {k20 : Nat → Int32 → Int32 → Int32 → Option (Int32)} {res : Int32} (hk20 : ∀ (v0 : Nat) (v1 : Int32) (v2 : Int32) (v3 : Int32), k20 v0 v1 v2 v3 = some res → ∀ (H : Heap) (locs : List Loc) (ls : Array Slot), MM vwCl D b0 f sz s H → mS b0 s H locs → lv_has ls 7 [(0, .ref v0), (1, .int v1), (2, .int v2), (3, .int v3)] → W p l e ({ frames := 1, cells := 0, slots := 0, locals := 23 } : Room) s m args below meth c H locs 0 0 (MQ below (QW D b0 (some (.int res)) f sz) args s 0 0 (fun q => b0 ≤ q)) (F0 m 20 ls [])) : ∀ (n : Nat), ∀ (v0 : Nat) (v1 : Int32) (v2 : Int32) (v3 : Int32) (v4 : Int32) (v5 : Int32) (v6 : Int32), f_X10_isKept_50 k20 f n v0 v1 v2 v3 v4 v5 v6 = some res → ∀ (H : Heap) (locs : List Loc) (ls : Array Slot), MM vwCl D b0 f sz s H → mS b0 s H locs → lv_has ls 7 [(0, .ref v0), (1, .int v1), (2, .int v2), (3, .int v3), (4, .int v4), (5, .int v5), (6, .int v6)] → W p l e ({ frames := 1, cells := 0, slots := 0, locals := 23 } : Room) s m args below meth c H locs 0 0 (MQ below (QW D b0 (some (.int res)) f sz) args s 0 0 (fun q => b0 ≤ q)) (F0 m 50 ls []) := by
  obtain ⟨hx, hb, hr, hml, hown, hts, hlocks, hK⟩ := id C0
  intro n
  induction n with
  | zero =>
    intro v0 v1 v2 v3 v4 v5 v6 h
    have h : (none : Option (Int32)) = some res := h
    cases h
  | succ n ih =>
    intro v0 v1 v2 v3 v4 v5 v6 h H locs ls hM hS hl
    rw [f_X10_isKept_50] at h
    refine lv_iload hx hb dX10_isKept_50 (lv_at hl 6 rfl) ?_
    refine lv_aload_n hx hb dX10_isKept_52 rfl (lv_at hl 0 rfl) ?_
    replace h := o_b h; obtain ⟨x53, h53, h⟩ := h
    refine m_get (C := RX10) (T := TX10) (N := 25) (ci := 10) hx hb hts qi_X10_isKept_X10 hown hK.1 hM 19 (ldI_F h53) rfl (by decide) (hts _ q_X10_isKept_1) (fun _ h9 => h9) dX10_isKept_53 ?_
    refine lv_icmp_ge (tgt := 97) hx hb dX10_isKept_56 (by decide) (fun c56 => ?_) (fun c56 => ?_)
    · replace h := o_t c56 h
      refine lv_iload hx hb dX10_isKept_97 (lv_at hl 5 rfl) ?_
      refine lv_aload_n hx hb dX10_isKept_99 rfl (lv_at hl 0 rfl) ?_
      replace h := o_b h; obtain ⟨x100, h100, h⟩ := h
      refine m_get (C := RX10) (T := TX10) (N := 25) (ci := 10) hx hb hts qi_X10_isKept_X10 hown hK.1 hM 18 (ldR_F h100) rfl (by decide) (hts _ q_X10_isKept_2) (fun _ h9 => h9) dX10_isKept_100 ?_
      refine lv_bipush (v := (91 : Int32)) hx hb dX10_isKept_103 (by decide) ?_
      refine lv_aload_n hx hb dX10_isKept_105 rfl (lv_at hl 0 rfl) ?_
      replace h := o_b h; obtain ⟨x106, h106, h⟩ := h
      refine m_get (C := RX10) (T := TX10) (N := 25) (ci := 10) hx hb hts qi_X10_isKept_X10 hown hK.1 hM 21 (ldR_F h106) rfl (by decide) (hts _ q_X10_isKept_3) (fun _ h9 => h9) dX10_isKept_106 ?_
      refine lv_iconst (v := (0 : Int32)) hx hb dX10_isKept_109 (by decide) ?_
      replace h := o_b h; obtain ⟨x110, h110, h⟩ := h
      refine m_iald hx hb hK.1 hM hS rfl h110 dX10_isKept_110 ?_
      refine lv_imul hx hb dX10_isKept_111 ?_
      refine lv_iload hx hb dX10_isKept_112 (lv_at hl 4 rfl) ?_
      refine lv_iadd hx hb dX10_isKept_114 ?_
      replace h := o_b h; obtain ⟨x115, h115, h⟩ := h
      refine m_iald hx hb hK.1 hM hS rfl h115 dX10_isKept_115 ?_
      refine lv_iconst (v := (-1 : Int32)) hx hb dX10_isKept_116 (by decide) ?_
      refine lv_ixor hx hb dX10_isKept_117 ?_
      refine lv_iand hx hb dX10_isKept_118 ?_
      refine lv_if_eq (tgt := 124) hx hb dX10_isKept_119 (by decide) (fun c119 => ?_) (fun c119 => ?_)
      · replace h := o_t c119 h
        refine lv_iinc (v := (v3 + (1 : Int32))) (lv' := [(3, .int (v3 + (1 : Int32))), (0, .ref v0), (1, .int v1), (2, .int v2), (4, .int v4), (5, .int v5), (6, .int v6)]) hx hb dX10_isKept_124 hl (k := 3) rfl rfl (by decide) rfl (fun ls hl => ?_)
        refine lv_goto (tgt := 20) hx hb dX10_isKept_127 (by decide) ?_
        exact hk20 _ _ _ _ h _ _ _ hM hS (lv_sub hl [1, 2, 3, 0] rfl)
      replace h := o_f c119 h
      refine lv_iconst (v := (0 : Int32)) hx hb dX10_isKept_122 (by decide) ?_
      replace h := Option.some.inj h; subst h
      exact W.zret hx hb hr rfl (fun t ht hW => ⟨rfl, by rw [ht]; exact hM.moved hW.alike, hS.F ht⟩) hS.2.2 dX10_isKept_123
    replace h := o_f c56 h
    refine lv_iload hx hb dX10_isKept_59 (lv_at hl 5 rfl) ?_
    refine lv_aload_n hx hb dX10_isKept_61 rfl (lv_at hl 0 rfl) ?_
    refine lv_iconst (v := (0 : Int32)) hx hb dX10_isKept_62 (by decide) ?_
    refine lv_iload hx hb dX10_isKept_63 (lv_at hl 6 rfl) ?_
    replace h := o_b h; obtain ⟨_, k65, h⟩ := h
    replace h := o_b h; obtain ⟨q65, h65, h⟩ := h
    refine m_call (va_runV (As := [.int (0 : Int32), .int v6]) (rest := [.int v5]) ⟨hx, hb, hml, hown, hts⟩ (c_X10_has l D b0 sz h65) (cwV 2 hts gX10_isKept_X10_has rfl rfl rfl (by decide +kernel) ⟨Nat.le_of_ble_eq_true rfl, Nat.le_of_ble_eq_true rfl⟩) ⟨PW.blind, m_recv (ci := 10) rfl hK hM k65, (fun U hU hW => ⟨rfl, PW.call hK hM hS hU hW⟩)⟩ rfl rfl hl.1 rfl (lv_room (Nat.le_of_ble_eq_true rfl)) dX10_isKept_65 ⟨(Nat.le_refl _), (Nat.le_refl _)⟩) hS (fun H locs hM hS => ?_)
    refine lv_if_eq (tgt := 87) hx hb dX10_isKept_68 (by decide) (fun c68 => ?_) (fun c68 => ?_)
    · replace h := o_t c68 h
      refine lv_iconst (v := (-1 : Int32)) hx hb dX10_isKept_87 (by decide) ?_
      exact w_X10_isKept_88 C0 hk20 ih _ _ _ _ _ _ _ _ h _ _ _ hM hS (lv_sub hl [0, 1, 2, 3, 4, 6] rfl)
    replace h := o_f c68 h
    refine lv_aload_n hx hb dX10_isKept_71 rfl (lv_at hl 0 rfl) ?_
    replace h := o_b h; obtain ⟨x72, h72, h⟩ := h
    refine m_get (C := RX10) (T := TX10) (N := 25) (ci := 10) hx hb hts qi_X10_isKept_X10 hown hK.1 hM 18 (ldR_F h72) rfl (by decide) (hts _ q_X10_isKept_2) (fun _ h9 => h9) dX10_isKept_72 ?_
    refine lv_bipush (v := (91 : Int32)) hx hb dX10_isKept_75 (by decide) ?_
    refine lv_iload hx hb dX10_isKept_77 (lv_at hl 6 rfl) ?_
    refine lv_imul hx hb dX10_isKept_79 ?_
    refine lv_iload hx hb dX10_isKept_80 (lv_at hl 4 rfl) ?_
    refine lv_iadd hx hb dX10_isKept_82 ?_
    replace h := o_b h; obtain ⟨x83, h83, h⟩ := h
    refine m_iald hx hb hK.1 hM hS rfl h83 dX10_isKept_83 ?_
    refine lv_goto (tgt := 88) hx hb dX10_isKept_84 (by decide) ?_
    exact w_X10_isKept_88 C0 hk20 ih _ _ _ _ _ _ _ _ h _ _ _ hM hS (lv_sub hl [0, 1, 2, 3, 4, 6] rfl)
set_option maxHeartbeats 4000000 in
set_option maxRecDepth 100000 in
theorem w_X10_isKept_20 (C0 : CX cX10_isKept 7 (some .boolean) wsX10_isKept RX10 p s m args meth c D b0) {res : Int32} : ∀ (n : Nat), ∀ (v0 : Nat) (v1 : Int32) (v2 : Int32) (v3 : Int32), f_X10_isKept_20 f n v0 v1 v2 v3 = some res → ∀ (H : Heap) (locs : List Loc) (ls : Array Slot), MM vwCl D b0 f sz s H → mS b0 s H locs → lv_has ls 7 [(0, .ref v0), (1, .int v1), (2, .int v2), (3, .int v3)] → W p l e ({ frames := 1, cells := 0, slots := 0, locals := 23 } : Room) s m args below meth c H locs 0 0 (MQ below (QW D b0 (some (.int res)) f sz) args s 0 0 (fun q => b0 ≤ q)) (F0 m 20 ls []) := by
  obtain ⟨hx, hb, hr, hml, hown, hts, hlocks, hK⟩ := id C0
  intro n
  induction n with
  | zero =>
    intro v0 v1 v2 v3 h
    have h : (none : Option (Int32)) = some res := h
    cases h
  | succ n ih =>
    intro v0 v1 v2 v3 h H locs ls hM hS hl
    rw [f_X10_isKept_20] at h
    refine lv_iload_n hx hb dX10_isKept_20 rfl (lv_at hl 3 rfl) ?_
    refine lv_iload_n hx hb dX10_isKept_21 rfl (lv_at hl 2 rfl) ?_
    refine lv_icmp_ge (tgt := 130) hx hb dX10_isKept_22 (by decide) (fun c22 => ?_) (fun c22 => ?_)
    · replace h := o_t c22 h
      refine lv_iconst (v := (1 : Int32)) hx hb dX10_isKept_130 (by decide) ?_
      replace h := Option.some.inj h; subst h
      exact W.zret hx hb hr rfl (fun t ht hW => ⟨rfl, by rw [ht]; exact hM.moved hW.alike, hS.F ht⟩) hS.2.2 dX10_isKept_131
    replace h := o_f c22 h
    refine lv_iload_n hx hb dX10_isKept_25 rfl (lv_at hl 1 rfl) ?_
    replace h := o_b h; obtain ⟨q26, h26, h⟩ := h
    refine m_call (va_runS (As := [.int v1]) (rest := []) ⟨hx, hb, hml, hown, hts⟩ (c_X10_begin l D b0 sz h26) (va_cwS 1 hts gX10_isKept_X10_begin rfl rfl rfl (by decide +kernel) ⟨Nat.le_of_ble_eq_true rfl, Nat.le_of_ble_eq_true rfl⟩) ⟨PW.blind, (fun U hU hW => ⟨rfl, PW.call hK hM hS hU hW⟩)⟩ rfl rfl hl.1 rfl (lv_room (Nat.le_of_ble_eq_true rfl)) dX10_isKept_26 ⟨(Nat.le_refl _), (Nat.le_refl _)⟩) hS (fun H locs hM hS => ?_)
    refine lv_iload_n hx hb dX10_isKept_29 rfl (lv_at hl 3 rfl) ?_
    refine lv_iadd hx hb dX10_isKept_30 ?_
    refine lv_istore (lv' := [(4, .int (q26 + v3)), (0, .ref v0), (1, .int v1), (2, .int v2), (3, .int v3)]) hx hb dX10_isKept_31 hl (by decide) rfl (fun ls hl => ?_)
    refine lv_iload_n hx hb dX10_isKept_33 rfl (lv_at hl 4 rfl) ?_
    refine lv_iload_n hx hb dX10_isKept_34 rfl (lv_at hl 2 rfl) ?_
    replace h := o_b h; obtain ⟨q35, h35, h⟩ := h
    refine m_call (va_runS (As := [.int v1]) (rest := [.int v3]) ⟨hx, hb, hml, hown, hts⟩ (c_X10_wordsOf l D b0 sz h35) (va_cwS 1 hts gX10_isKept_X10_wordsOf rfl rfl rfl (by decide +kernel) ⟨Nat.le_of_ble_eq_true rfl, Nat.le_of_ble_eq_true rfl⟩) ⟨PW.blind, (fun U hU hW => ⟨rfl, PW.call hK hM hS hU hW⟩)⟩ rfl rfl hl.1 rfl (lv_room (Nat.le_of_ble_eq_true rfl)) dX10_isKept_35 ⟨(Nat.le_refl _), (Nat.le_refl _)⟩) hS (fun H locs hM hS => ?_)
    refine lv_iload_n hx hb dX10_isKept_38 rfl (lv_at hl 2 rfl) ?_
    replace h := o_b h; obtain ⟨q39, h39, h⟩ := h
    refine m_call (va_runS (As := [.int v1]) (rest := [.int q35, .int v3]) ⟨hx, hb, hml, hown, hts⟩ (c_X10_models l D b0 sz h39) (va_cwS 1 hts gX10_isKept_X10_models rfl rfl rfl (by decide +kernel) ⟨Nat.le_of_ble_eq_true rfl, Nat.le_of_ble_eq_true rfl⟩) ⟨PW.blind, (fun U hU hW => ⟨rfl, PW.call hK hM hS hU hW⟩)⟩ rfl rfl hl.1 rfl (lv_room (Nat.le_of_ble_eq_true rfl)) dX10_isKept_39 ⟨(Nat.le_refl _), (Nat.le_refl _)⟩) hS (fun H locs hM hS => ?_)
    replace h := o_b h; obtain ⟨q42, h42, h⟩ := h
    refine m_call (va_runS (As := [.int v3, .int q35, .int q39]) (rest := []) ⟨hx, hb, hml, hown, hts⟩ (c_X10_wordEnd l D b0 sz h42) (va_cwS 3 hts gX10_isKept_X10_wordEnd rfl rfl rfl (by decide +kernel) ⟨Nat.le_of_ble_eq_true rfl, Nat.le_of_ble_eq_true rfl⟩) ⟨PW.blind, (fun U hU hW => ⟨rfl, PW.call hK hM hS hU hW⟩)⟩ rfl rfl hl.1 rfl (lv_room (Nat.le_of_ble_eq_true rfl)) dX10_isKept_42 ⟨(Nat.le_refl _), (Nat.le_refl _)⟩) hS (fun H locs hM hS => ?_)
    refine lv_istore (lv' := [(5, .int q42), (4, .int (q26 + v3)), (0, .ref v0), (1, .int v1), (2, .int v2), (3, .int v3)]) hx hb dX10_isKept_45 hl (by decide) rfl (fun ls hl => ?_)
    refine lv_iconst (v := (0 : Int32)) hx hb dX10_isKept_47 (by decide) ?_
    refine lv_istore (lv' := [(6, .int (0 : Int32)), (5, .int q42), (4, .int (q26 + v3)), (0, .ref v0), (1, .int v1), (2, .int v2), (3, .int v3)]) hx hb dX10_isKept_48 hl (by decide) rfl (fun ls hl => ?_)
    exact w_X10_isKept_50 C0 ih FU _ _ _ _ _ _ _ h _ _ _ hM hS (lv_sub hl [3, 4, 5, 6, 2, 1, 0] rfl)
set_option maxHeartbeats 4000000 in
set_option maxRecDepth 100000 in
theorem w_X10_isKept_16 (C0 : CX cX10_isKept 7 (some .boolean) wsX10_isKept RX10 p s m args meth c D b0) {res : Int32} : ∀ (v0 : Nat) (v1 : Int32) (t0 : Int32) (t1 : Int32), f_X10_isKept_16 f v0 v1 t0 t1 = some res → ∀ (H : Heap) (locs : List Loc) (ls : Array Slot), MM vwCl D b0 f sz s H → mS b0 s H locs → lv_has ls 7 [(0, .ref v0), (1, .int v1)] → W p l e ({ frames := 1, cells := 0, slots := 0, locals := 23 } : Room) s m args below meth c H locs 0 0 (MQ below (QW D b0 (some (.int res)) f sz) args s 0 0 (fun q => b0 ≤ q)) (F0 m 16 ls [.int t1, .int t0]) := by
  obtain ⟨hx, hb, hr, hml, hown, hts, hlocks, hK⟩ := id C0
  intro v0 v1 t0 t1 h H locs ls hM hS hl
  unfold f_X10_isKept_16 at h
  refine lv_imul hx hb dX10_isKept_16 ?_
  refine lv_istore_n (lv' := [(2, .int (t0 * t1)), (0, .ref v0), (1, .int v1)]) hx hb dX10_isKept_17 rfl hl (by decide) rfl (fun ls hl => ?_)
  refine lv_iconst (v := (0 : Int32)) hx hb dX10_isKept_18 (by decide) ?_
  refine lv_istore_n (lv' := [(3, .int (0 : Int32)), (2, .int (t0 * t1)), (0, .ref v0), (1, .int v1)]) hx hb dX10_isKept_19 rfl hl (by decide) rfl (fun ls hl => ?_)
  exact w_X10_isKept_20 C0 FU _ _ _ _ h _ _ _ hM hS (lv_sub hl [2, 3, 1, 0] rfl)
set_option maxHeartbeats 4000000 in
set_option maxRecDepth 100000 in
theorem w_X10_isKept (C0 : CX cX10_isKept 7 (some .boolean) wsX10_isKept RX10 p s m args meth c D b0) {v0 : Nat} {v1 : Int32} {res : Int32} (h : f_X10_isKept v0 v1 f = some res) : ∀ (H : Heap) (locs : List Loc) (ls : Array Slot), MM vwCl D b0 f sz s H → mS b0 s H locs → lv_has ls 7 [(0, .ref v0), (1, .int v1)] → W p l e ({ frames := 1, cells := 0, slots := 0, locals := 23 } : Room) s m args below meth c H locs 0 0 (MQ below (QW D b0 (some (.int res)) f sz) args s 0 0 (fun q => b0 ≤ q)) (F0 m 0 ls []) := by
  obtain ⟨hx, hb, hr, hml, hown, hts, hlocks, hK⟩ := id C0
  intro H locs ls hM hS hl
  unfold f_X10_isKept at h
  refine lv_iload_n hx hb dX10_isKept_0 rfl (lv_at hl 1 rfl) ?_
  replace h := o_b h; obtain ⟨q1, h1, h⟩ := h
  refine m_call (va_runS (As := [.int v1]) (rest := []) ⟨hx, hb, hml, hown, hts⟩ (c_X10_wordsOf l D b0 sz h1) (va_cwS 1 hts gX10_isKept_X10_wordsOf rfl rfl rfl (by decide +kernel) ⟨Nat.le_of_ble_eq_true rfl, Nat.le_of_ble_eq_true rfl⟩) ⟨PW.blind, (fun U hU hW => ⟨rfl, PW.call hK hM hS hU hW⟩)⟩ rfl rfl hl.1 rfl (lv_room (Nat.le_of_ble_eq_true rfl)) dX10_isKept_1 ⟨(Nat.le_refl _), (Nat.le_refl _)⟩) hS (fun H locs hM hS => ?_)
  refine lv_iload_n hx hb dX10_isKept_4 rfl (lv_at hl 1 rfl) ?_
  refine lv_iconst (v := (3 : Int32)) hx hb dX10_isKept_5 (by decide) ?_
  refine lv_icmp_ge (tgt := 15) hx hb dX10_isKept_6 (by decide) (fun c6 => ?_) (fun c6 => ?_)
  · replace h := o_t c6 h
    refine lv_iconst (v := (3 : Int32)) hx hb dX10_isKept_15 (by decide) ?_
    exact w_X10_isKept_16 C0 _ _ _ _ h _ _ _ hM hS (lv_sub hl [0, 1] rfl)
  replace h := o_f c6 h
  refine lv_iload_n hx hb dX10_isKept_9 rfl (lv_at hl 1 rfl) ?_
  refine lv_iconst (v := (1 : Int32)) hx hb dX10_isKept_10 (by decide) ?_
  refine lv_iadd hx hb dX10_isKept_11 ?_
  refine lv_goto (tgt := 16) hx hb dX10_isKept_12 (by decide) ?_
  exact w_X10_isKept_16 C0 _ _ _ _ h _ _ _ hM hS (lv_sub hl [0, 1] rfl)
set_option maxHeartbeats 4000000 in
set_option maxRecDepth 100000 in
theorem c_X10_isKept (l : Launch) (D : mmD) (b0 sz : Nat) {v0 : Nat} {v1 : Int32} {f : mmF} {res : Int32} (h : f_X10_isKept v0 v1 f = some res) : Met l yX10_isKept wsX10_isKept ({ frames := 1, cells := 0, slots := 0, locals := 23 } : Room) (va_Pc [.ref v0, .int v1] (PW D b0 f sz)) (QW D b0 (some (.int res)) f sz) 0 0 (fun q => b0 ≤ q) := by
  refine Met.ofW (cc := cX10_isKept) (maxL := 7) (ret := (some .boolean)) (by decide) rfl ?_
  intro p e s m args below meth c s₁ B hml hv
  obtain ⟨rfl, hM, hK⟩ := hv
  have hl := lv_entry ([.ref v0, .int v1]) (n := 7) (Nat.le_of_ble_eq_true rfl)
  rw [lg_entry_eq]
  generalize (lg_sl ([.ref v0, .int v1]) ++ List.replicate (7 - (lg_sl ([.ref v0, .int v1])).length) Slot.unset).toArray = ls at hl ⊢
  have hl : lv_has ls 7 [(0, .ref v0), (1, .int v1)] := hl
  exact w_X10_isKept ⟨B.exec, B.bytes, B.returns, hml, findClass_of_methodNamed B.named, atoms_spec (ws := wsX10_isKept) B.pre, B.notSynchronized, hK⟩ h s.heap [] ls hM va_S.rf hl
end S_X10_isKept
/-! X10_follows -/
noncomputable def f_X10_follows (v0 : Nat) (v1 : Int32) (v2 : Int32) (f : mmF) : Option (Int32 × mmF) :=
  (ckO f v0 10).bind fun _ =>
  (f_X10_isBad v0 v1 f).bind fun q2 =>
  if q2 = 0 then
  ((ckO f v0 10).bind fun _ =>
  (f_X10_noClaim v0 v2 f).bind fun q13 =>
  if q13 = 0 then
  ((ckO f v0 10).bind fun _ =>
  (f_X10_isFollowing v0 v1 v2 f).bind fun q24 =>
  if q24.1 = 0 then
  (some ((0 : Int32), q24.2))
  else
  some ((1 : Int32), q24.2))
  else
  some ((-1 : Int32), f))
  else
  some ((-2 : Int32), f)
section S_X10_follows
variable {p : Program} {l : Launch} {e : Env} {s : State} {m : MethodId} {args : Array Value} {below : List Frame} {meth : Method} {c : Code} {D : mmD} {b0 sz : Nat} {f : mmF}
set_option maxHeartbeats 4000000 in
set_option maxRecDepth 100000 in
theorem w_X10_follows (C0 : CX cX10_follows 3 (some .int) wsX10_follows RX10 p s m args meth c D b0) {v0 : Nat} {v1 : Int32} {v2 : Int32} {res : Int32 × mmF} (h : f_X10_follows v0 v1 v2 f = some res) : ∀ (H : Heap) (locs : List Loc) (ls : Array Slot), MM vwCl D b0 f sz s H → mS b0 s H locs → lv_has ls 3 [(0, .ref v0), (1, .int v1), (2, .int v2)] → W p l e ({ frames := 10, cells := 0, slots := 0, locals := 238 } : Room) s m args below meth c H locs 0 0 (MQ below (QW D b0 (some (.int res.1)) res.2 sz) args s 0 0 (fun q => b0 ≤ q)) (F0 m 0 ls []) := by
  obtain ⟨hx, hb, hr, hml, hown, hts, hlocks, hK⟩ := id C0
  intro H locs ls hM hS hl
  unfold f_X10_follows at h
  refine lv_aload_n hx hb dX10_follows_0 rfl (lv_at hl 0 rfl) ?_
  refine lv_iload_n hx hb dX10_follows_1 rfl (lv_at hl 1 rfl) ?_
  replace h := o_b h; obtain ⟨_, k2, h⟩ := h
  replace h := o_b h; obtain ⟨q2, h2, h⟩ := h
  refine m_call (va_runV (As := [.int v1]) (rest := []) ⟨hx, hb, hml, hown, hts⟩ (c_X10_isBad l D b0 sz h2) (cwV 1 hts gX10_follows_X10_isBad rfl rfl rfl (by decide +kernel) ⟨Nat.le_of_ble_eq_true rfl, Nat.le_of_ble_eq_true rfl⟩) ⟨PW.blind, m_recv (ci := 10) rfl hK hM k2, (fun U hU hW => ⟨rfl, PW.call hK hM hS hU hW⟩)⟩ rfl rfl hl.1 rfl (lv_room (Nat.le_of_ble_eq_true rfl)) dX10_follows_2 ⟨(Nat.le_refl _), (Nat.le_refl _)⟩) hS (fun H locs hM hS => ?_)
  refine lv_if_eq (tgt := 11) hx hb dX10_follows_5 (by decide) (fun c5 => ?_) (fun c5 => ?_)
  · replace h := o_t c5 h
    refine lv_aload_n hx hb dX10_follows_11 rfl (lv_at hl 0 rfl) ?_
    refine lv_iload_n hx hb dX10_follows_12 rfl (lv_at hl 2 rfl) ?_
    replace h := o_b h; obtain ⟨_, k13, h⟩ := h
    replace h := o_b h; obtain ⟨q13, h13, h⟩ := h
    refine m_call (va_runV (As := [.int v2]) (rest := []) ⟨hx, hb, hml, hown, hts⟩ (c_X10_noClaim l D b0 sz h13) (cwV 1 hts gX10_follows_X10_noClaim rfl rfl rfl (by decide +kernel) ⟨Nat.le_of_ble_eq_true rfl, Nat.le_of_ble_eq_true rfl⟩) ⟨PW.blind, m_recv (ci := 10) rfl hK hM k13, (fun U hU hW => ⟨rfl, PW.call hK hM hS hU hW⟩)⟩ rfl rfl hl.1 rfl (lv_room (Nat.le_of_ble_eq_true rfl)) dX10_follows_13 ⟨(Nat.le_refl _), (Nat.le_refl _)⟩) hS (fun H locs hM hS => ?_)
    refine lv_if_eq (tgt := 21) hx hb dX10_follows_16 (by decide) (fun c16 => ?_) (fun c16 => ?_)
    · replace h := o_t c16 h
      refine lv_aload_n hx hb dX10_follows_21 rfl (lv_at hl 0 rfl) ?_
      refine lv_iload_n hx hb dX10_follows_22 rfl (lv_at hl 1 rfl) ?_
      refine lv_iload_n hx hb dX10_follows_23 rfl (lv_at hl 2 rfl) ?_
      replace h := o_b h; obtain ⟨_, k24, h⟩ := h
      replace h := o_b h; obtain ⟨q24, h24, h⟩ := h
      refine m_call (va_runV (As := [.int v1, .int v2]) (rest := []) ⟨hx, hb, hml, hown, hts⟩ (c_X10_isFollowing l D b0 sz h24) (cwV 2 hts gX10_follows_X10_isFollowing rfl rfl rfl (by decide +kernel) ⟨Nat.le_of_ble_eq_true rfl, Nat.le_of_ble_eq_true rfl⟩) ⟨PW.blind, m_recv (ci := 10) rfl hK hM k24, (fun U hU hW => ⟨rfl, PW.call hK hM hS hU hW⟩)⟩ rfl rfl hl.1 rfl (lv_room (Nat.le_of_ble_eq_true rfl)) dX10_follows_24 ⟨(Nat.le_refl _), (Nat.le_refl _)⟩) hS (fun H locs hM hS => ?_)
      refine lv_if_eq (tgt := 34) hx hb dX10_follows_27 (by decide) (fun c27 => ?_) (fun c27 => ?_)
      · replace h := o_t c27 h
        refine lv_iconst (v := (0 : Int32)) hx hb dX10_follows_34 (by decide) ?_
        replace h := Option.some.inj h; subst h
        exact W.iret hx hb hr (fun t ht hW => ⟨rfl, by rw [ht]; exact hM.moved hW.alike, hS.F ht⟩) hS.2.2 dX10_follows_35
      replace h := o_f c27 h
      refine lv_iconst (v := (1 : Int32)) hx hb dX10_follows_30 (by decide) ?_
      refine lv_goto (tgt := 35) hx hb dX10_follows_31 (by decide) ?_
      replace h := Option.some.inj h; subst h
      exact W.iret hx hb hr (fun t ht hW => ⟨rfl, by rw [ht]; exact hM.moved hW.alike, hS.F ht⟩) hS.2.2 dX10_follows_35
    replace h := o_f c16 h
    refine lv_iconst (v := (-1 : Int32)) hx hb dX10_follows_19 (by decide) ?_
    replace h := Option.some.inj h; subst h
    exact W.iret hx hb hr (fun t ht hW => ⟨rfl, by rw [ht]; exact hM.moved hW.alike, hS.F ht⟩) hS.2.2 dX10_follows_20
  replace h := o_f c5 h
  refine lv_bipush (v := (-2 : Int32)) hx hb dX10_follows_8 (by decide) ?_
  replace h := Option.some.inj h; subst h
  exact W.iret hx hb hr (fun t ht hW => ⟨rfl, by rw [ht]; exact hM.moved hW.alike, hS.F ht⟩) hS.2.2 dX10_follows_10
set_option maxHeartbeats 4000000 in
set_option maxRecDepth 100000 in
theorem c_X10_follows (l : Launch) (D : mmD) (b0 sz : Nat) {v0 : Nat} {v1 : Int32} {v2 : Int32} {f : mmF} {res : Int32 × mmF} (h : f_X10_follows v0 v1 v2 f = some res) : Met l yX10_follows wsX10_follows ({ frames := 10, cells := 0, slots := 0, locals := 238 } : Room) (va_Pc [.ref v0, .int v1, .int v2] (PW D b0 f sz)) (QW D b0 (some (.int res.1)) res.2 sz) 0 0 (fun q => b0 ≤ q) := by
  refine Met.ofW (cc := cX10_follows) (maxL := 3) (ret := (some .int)) (by decide) rfl ?_
  intro p e s m args below meth c s₁ B hml hv
  obtain ⟨rfl, hM, hK⟩ := hv
  have hl := lv_entry ([.ref v0, .int v1, .int v2]) (n := 3) (Nat.le_of_ble_eq_true rfl)
  rw [lg_entry_eq]
  generalize (lg_sl ([.ref v0, .int v1, .int v2]) ++ List.replicate (3 - (lg_sl ([.ref v0, .int v1, .int v2])).length) Slot.unset).toArray = ls at hl ⊢
  have hl : lv_has ls 3 [(0, .ref v0), (1, .int v1), (2, .int v2)] := hl
  exact w_X10_follows ⟨B.exec, B.bytes, B.returns, hml, findClass_of_methodNamed B.named, atoms_spec (ws := wsX10_follows) B.pre, B.notSynchronized, hK⟩ h s.heap [] ls hM va_S.rf hl
end S_X10_follows
