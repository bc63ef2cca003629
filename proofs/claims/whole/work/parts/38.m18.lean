/-! X10_loosens -/
set_option maxRecDepth 20000 in
theorem qi_X10_loosens_X10 : ∀ w ∈ u_ws RX10 TX10 25, w ∈ wsX10_loosens := by decide +kernel
set_option maxRecDepth 20000 in
theorem q_X10_loosens_1 : Cond.fieldLink RX10 41 "StageTruthsModel" "left" "[I" ∈ wsX10_loosens := by decide +kernel
set_option maxRecDepth 20000 in
theorem q_X10_loosens_2 : Cond.fieldLink RX10 44 "StageTruthsModel" "right" "[I" ∈ wsX10_loosens := by decide +kernel
set_option maxRecDepth 20000 in
theorem q_X10_loosens_3 : Cond.fieldLink RX10 38 "StageTruthsModel" "op" "[I" ∈ wsX10_loosens := by decide +kernel
noncomputable def f_X10_loosens_130   (v0 : Nat) (v1 : Int32) (v2 : Int32) (v4 : Int32) (f : mmF) : Option (Int32 × mmF) :=
  (ckO f v0 10).bind fun _ =>
  (f_X10_loses v0 v1 v2 f).bind fun q133 =>
  (ckO q133 v0 10).bind fun _ =>
  (f_X10_gets v0 v1 v4 q133).bind fun q140 =>
  some ((1 : Int32), q140)
noncomputable def f_X10_loosens_82   (v0 : Nat) (v1 : Int32) (v2 : Int32) (t0 : Int32) (f : mmF) : Option (Int32 × mmF) :=
  if t0 = 0 then
  ((rz t0).bind fun z97 =>
  some (z97, f))
  else
  (ckO f v0 10).bind fun _ =>
  (f_X10_loses v0 v1 v2 f).bind fun q92 =>
  (rz t0).bind fun z97 =>
  some (z97, q92)
noncomputable def f_X10_loosens_77   (v0 : Nat) (v1 : Int32) (v2 : Int32) (f : mmF) : Option (Int32 × mmF) :=
  f_X10_loosens_82 v0 v1 v2 (1 : Int32) f
noncomputable def f_X10_loosens (v0 : Nat) (v1 : Int32) (v2 : Int32) (f : mmF) : Option (Int32 × mmF) :=
  (ldR f v0 10 16).bind fun x1 =>
  (ldA 0 f x1 v2).bind fun x5 =>
  (ldR f v0 10 17).bind fun x8 =>
  (ldA 0 f x8 v2).bind fun x12 =>
  (ldR f v0 10 15).bind fun x16 =>
  (ldA 0 f x16 v2).bind fun x20 =>
  if x20 = (7 : Int32) then
  ((ckO f v0 10).bind fun _ =>
  (f_X10_loses v0 v1 v2 f).bind fun q29 =>
  (ckO q29 v0 10).bind fun _ =>
  (f_X10_gets v0 v1 x5 q29).bind fun q35 =>
  (ckO q35 v0 10).bind fun _ =>
  (f_X10_gets v0 v1 x12 q35).bind fun q42 =>
  some ((1 : Int32), q42))
  else
  (ldR f v0 10 15).bind fun x48 =>
  (ldA 0 f x48 v2).bind fun x52 =>
  if x52 = (8 : Int32) then
  ((ckO f v0 10).bind fun _ =>
  (f_X10_has v0 v1 x5 f).bind fun q61 =>
  if q61 = 0 then
  ((ckO f v0 10).bind fun _ =>
  (f_X10_has v0 v1 x12 f).bind fun q71 =>
  if q71 = 0 then
  (f_X10_loosens_82 v0 v1 v2 (0 : Int32) f)
  else
  f_X10_loosens_77 v0 v1 v2 f)
  else
  f_X10_loosens_77 v0 v1 v2 f)
  else
  (ldR f v0 10 15).bind fun x99 =>
  (ldA 0 f x99 v2).bind fun x103 =>
  if x103 = (9 : Int32) then
  ((ckO f v0 10).bind fun _ =>
  (f_X10_has v0 v1 x5 f).bind fun q114 =>
  if q114 = 0 then
  ((ckO f v0 10).bind fun _ =>
  (f_X10_has v0 v1 x12 f).bind fun q124 =>
  if q124 = 0 then
  ((ldR f v0 10 15).bind fun x146 =>
  (ldA 0 f x146 x5).bind fun x150 =>
  if x150 = (7 : Int32) then
  ((ckO f v0 10).bind fun _ =>
  (f_X10_loses v0 v1 v2 f).bind fun q159 =>
  (ldR q159 v0 10 16).bind fun x166 =>
  (ldA 0 q159 x166 x5).bind fun x170 =>
  (ldR q159 v0 10 17).bind fun x173 =>
  (ldA 0 q159 x173 x5).bind fun x177 =>
  (ckO q159 v0 10).bind fun _ =>
  (f_X10_implies v0 x177 x12 q159).bind fun q180 =>
  (ckO q180.2 v0 10).bind fun _ =>
  (f_X10_implies v0 x170 q180.1 q180.2).bind fun q183 =>
  (ckO q183.2 v0 10).bind fun _ =>
  (f_X10_gets v0 v1 q183.1 q183.2).bind fun q186 =>
  some ((1 : Int32), q186))
  else
  (ldR f v0 10 15).bind fun x192 =>
  (ldA 0 f x192 x5).bind fun x196 =>
  if x196 = (8 : Int32) then
  ((ckO f v0 10).bind fun _ =>
  (f_X10_loses v0 v1 v2 f).bind fun q205 =>
  (ldR q205 v0 10 16).bind fun x212 =>
  (ldA 0 q205 x212 x5).bind fun x216 =>
  (ckO q205 v0 10).bind fun _ =>
  (f_X10_implies v0 x216 x12 q205).bind fun q219 =>
  (ckO q219.2 v0 10).bind fun _ =>
  (f_X10_gets v0 v1 q219.1 q219.2).bind fun q222 =>
  (ldR q222 v0 10 17).bind fun x229 =>
  (ldA 0 q222 x229 x5).bind fun x233 =>
  (ckO q222 v0 10).bind fun _ =>
  (f_X10_implies v0 x233 x12 q222).bind fun q236 =>
  (ckO q236.2 v0 10).bind fun _ =>
  (f_X10_gets v0 v1 q236.1 q236.2).bind fun q239 =>
  some ((1 : Int32), q239))
  else
  some ((0 : Int32), f))
  else
  f_X10_loosens_130 v0 v1 v2 x12 f)
  else
  f_X10_loosens_130 v0 v1 v2 x12 f)
  else
  some ((0 : Int32), f)
section S_X10_loosens
variable {p : Program} {l : Launch} {e : Env} {s : State} {m : MethodId} {args : Array Value} {below : List Frame} {meth : Method} {c : Code} {D : mmD} {b0 sz : Nat} {f : mmF}
set_option maxHeartbeats 4000000 in
set_option maxRecDepth 100000 in
theorem w_X10_loosens_130 (C0 : CX cX10_loosens 6 (some .boolean) wsX10_loosens RX10 p s m args meth c D b0) {res : Int32 × mmF} : ∀ (v0 : Nat) (v1 : Int32) (v2 : Int32) (v4 : Int32) (f : mmF), f_X10_loosens_130 v0 v1 v2 v4 f = some res → ∀ (H : Heap) (locs : List Loc) (ls : Array Slot), MM vwCl D b0 f sz s H → mS b0 s H locs → lv_has ls 6 [(0, .ref v0), (1, .int v1), (2, .int v2), (4, .int v4)] → W p l e ({ frames := 6, cells := 0, slots := 0, locals := 145 } : Room) s m args below meth c H locs 0 0 (MQ below (QW D b0 (some (.int res.1)) res.2 sz) args s 0 0 (fun q => b0 ≤ q)) (F0 m 130 ls []) := by
  obtain ⟨hx, hb, hr, hml, hown, hts, hlocks, hK⟩ := id C0
  intro v0 v1 v2 v4 f h H locs ls hM hS hl
  unfold f_X10_loosens_130 at h
  refine lv_aload_n hx hb dX10_loosens_130 rfl (lv_at hl 0 rfl) ?_
  refine lv_iload_n hx hb dX10_loosens_131 rfl (lv_at hl 1 rfl) ?_
  refine lv_iload_n hx hb dX10_loosens_132 rfl (lv_at hl 2 rfl) ?_
  replace h := o_b h; obtain ⟨_, k133, h⟩ := h
  replace h := o_b h; obtain ⟨q133, h133, h⟩ := h
  refine m_call (va_runV (As := [.int v1, .int v2]) (rest := []) ⟨hx, hb, hml, hown, hts⟩ (c_X10_loses l D b0 sz h133) (cwV 2 hts gX10_loosens_X10_loses rfl rfl rfl (by decide +kernel) ⟨Nat.le_of_ble_eq_true rfl, Nat.le_of_ble_eq_true rfl⟩) ⟨PW.blind, m_recv (ci := 10) rfl hK hM k133, (fun U hU hW => ⟨rfl, PW.call hK hM hS hU hW⟩)⟩ rfl rfl hl.1 rfl (lv_room (Nat.le_of_ble_eq_true rfl)) dX10_loosens_133 ⟨(Nat.le_refl _), (Nat.le_refl _)⟩) hS (fun H locs hM hS => ?_)
  refine lv_aload_n hx hb dX10_loosens_136 rfl (lv_at hl 0 rfl) ?_
  refine lv_iload_n hx hb dX10_loosens_137 rfl (lv_at hl 1 rfl) ?_
  refine lv_iload hx hb dX10_loosens_138 (lv_at hl 3 rfl) ?_
  replace h := o_b h; obtain ⟨_, k140, h⟩ := h
  replace h := o_b h; obtain ⟨q140, h140, h⟩ := h
  refine m_call (va_runV (As := [.int v1, .int v4]) (rest := []) ⟨hx, hb, hml, hown, hts⟩ (c_X10_gets l D b0 sz h140) (cwV 2 hts gX10_loosens_X10_gets rfl rfl rfl (by decide +kernel) ⟨Nat.le_of_ble_eq_true rfl, Nat.le_of_ble_eq_true rfl⟩) ⟨PW.blind, m_recv (ci := 10) rfl hK hM k140, (fun U hU hW => ⟨rfl, PW.call hK hM hS hU hW⟩)⟩ rfl rfl hl.1 rfl (lv_room (Nat.le_of_ble_eq_true rfl)) dX10_loosens_140 ⟨(Nat.le_refl _), (Nat.le_refl _)⟩) hS (fun H locs hM hS => ?_)
  refine lv_iconst (v := (1 : Int32)) hx hb dX10_loosens_143 (by decide) ?_
  replace h := Option.some.inj h; subst h
  exact W.zret hx hb hr rfl (fun t ht hW => ⟨rfl, by rw [ht]; exact hM.moved hW.alike, hS.F ht⟩) hS.2.2 dX10_loosens_144
set_option maxHeartbeats 4000000 in
set_option maxRecDepth 100000 in
theorem w_X10_loosens_82 (C0 : CX cX10_loosens 6 (some .boolean) wsX10_loosens RX10 p s m args meth c D b0) {res : Int32 × mmF} : ∀ (v0 : Nat) (v1 : Int32) (v2 : Int32) (t0 : Int32) (f : mmF), f_X10_loosens_82 v0 v1 v2 t0 f = some res → ∀ (H : Heap) (locs : List Loc) (ls : Array Slot), MM vwCl D b0 f sz s H → mS b0 s H locs → lv_has ls 6 [(0, .ref v0), (1, .int v1), (2, .int v2)] → W p l e ({ frames := 6, cells := 0, slots := 0, locals := 145 } : Room) s m args below meth c H locs 0 0 (MQ below (QW D b0 (some (.int res.1)) res.2 sz) args s 0 0 (fun q => b0 ≤ q)) (F0 m 82 ls [.int t0]) := by
  obtain ⟨hx, hb, hr, hml, hown, hts, hlocks, hK⟩ := id C0
  intro v0 v1 v2 t0 f h H locs ls hM hS hl
  unfold f_X10_loosens_82 at h
  refine lv_istore (lv' := [(5, .int t0), (0, .ref v0), (1, .int v1), (2, .int v2)]) hx hb dX10_loosens_82 hl (by decide) rfl (fun ls hl => ?_)
  refine lv_iload hx hb dX10_loosens_84 (lv_at hl 0 rfl) ?_
  refine lv_if_eq (tgt := 95) hx hb dX10_loosens_86 (by decide) (fun c86 => ?_) (fun c86 => ?_)
  · replace h := o_t c86 h
    refine lv_iload hx hb dX10_loosens_95 (lv_at hl 0 rfl) ?_
    replace h := o_b h; obtain ⟨z97, hz97, h⟩ := h
    obtain ⟨ez97, nz97⟩ := rz_at hz97
    subst ez97
    replace h := Option.some.inj h; subst h
    exact W.zret hx hb hr nz97 (fun t ht hW => ⟨rfl, by rw [ht]; exact hM.moved hW.alike, hS.F ht⟩) hS.2.2 dX10_loosens_97
  replace h := o_f c86 h
  refine lv_aload_n hx hb dX10_loosens_89 rfl (lv_at hl 1 rfl) ?_
  refine lv_iload_n hx hb dX10_loosens_90 rfl (lv_at hl 2 rfl) ?_
  refine lv_iload_n hx hb dX10_loosens_91 rfl (lv_at hl 3 rfl) ?_
  replace h := o_b h; obtain ⟨_, k92, h⟩ := h
  replace h := o_b h; obtain ⟨q92, h92, h⟩ := h
  refine m_call (va_runV (As := [.int v1, .int v2]) (rest := []) ⟨hx, hb, hml, hown, hts⟩ (c_X10_loses l D b0 sz h92) (cwV 2 hts gX10_loosens_X10_loses rfl rfl rfl (by decide +kernel) ⟨Nat.le_of_ble_eq_true rfl, Nat.le_of_ble_eq_true rfl⟩) ⟨PW.blind, m_recv (ci := 10) rfl hK hM k92, (fun U hU hW => ⟨rfl, PW.call hK hM hS hU hW⟩)⟩ rfl rfl hl.1 rfl (lv_room (Nat.le_of_ble_eq_true rfl)) dX10_loosens_92 ⟨(Nat.le_refl _), (Nat.le_refl _)⟩) hS (fun H locs hM hS => ?_)
  refine lv_iload hx hb dX10_loosens_95 (lv_at hl 0 rfl) ?_
  replace h := o_b h; obtain ⟨z97, hz97, h⟩ := h
  obtain ⟨ez97, nz97⟩ := rz_at hz97
  subst ez97
  replace h := Option.some.inj h; subst h
  exact W.zret hx hb hr nz97 (fun t ht hW => ⟨rfl, by rw [ht]; exact hM.moved hW.alike, hS.F ht⟩) hS.2.2 dX10_loosens_97
set_option maxHeartbeats 4000000 in
set_option maxRecDepth 100000 in
theorem w_X10_loosens_77 (C0 : CX cX10_loosens 6 (some .boolean) wsX10_loosens RX10 p s m args meth c D b0) {res : Int32 × mmF} : ∀ (v0 : Nat) (v1 : Int32) (v2 : Int32) (f : mmF), f_X10_loosens_77 v0 v1 v2 f = some res → ∀ (H : Heap) (locs : List Loc) (ls : Array Slot), MM vwCl D b0 f sz s H → mS b0 s H locs → lv_has ls 6 [(0, .ref v0), (1, .int v1), (2, .int v2)] → W p l e ({ frames := 6, cells := 0, slots := 0, locals := 145 } : Room) s m args below meth c H locs 0 0 (MQ below (QW D b0 (some (.int res.1)) res.2 sz) args s 0 0 (fun q => b0 ≤ q)) (F0 m 77 ls []) := by
  obtain ⟨hx, hb, hr, hml, hown, hts, hlocks, hK⟩ := id C0
  intro v0 v1 v2 f h H locs ls hM hS hl
  unfold f_X10_loosens_77 at h
  refine lv_iconst (v := (1 : Int32)) hx hb dX10_loosens_77 (by decide) ?_
  refine lv_goto (tgt := 82) hx hb dX10_loosens_78 (by decide) ?_
  exact w_X10_loosens_82 C0 _ _ _ _ _ h _ _ _ hM hS (lv_sub hl [0, 1, 2] rfl)
set_option maxHeartbeats 4000000 in
set_option maxRecDepth 100000 in
theorem w_X10_loosens (C0 : CX cX10_loosens 6 (some .boolean) wsX10_loosens RX10 p s m args meth c D b0) {v0 : Nat} {v1 : Int32} {v2 : Int32} {res : Int32 × mmF} (h : f_X10_loosens v0 v1 v2 f = some res) : ∀ (H : Heap) (locs : List Loc) (ls : Array Slot), MM vwCl D b0 f sz s H → mS b0 s H locs → lv_has ls 6 [(0, .ref v0), (1, .int v1), (2, .int v2)] → W p l e ({ frames := 6, cells := 0, slots := 0, locals := 145 } : Room) s m args below meth c H locs 0 0 (MQ below (QW D b0 (some (.int res.1)) res.2 sz) args s 0 0 (fun q => b0 ≤ q)) (F0 m 0 ls []) := by
  obtain ⟨hx, hb, hr, hml, hown, hts, hlocks, hK⟩ := id C0
  intro H locs ls hM hS hl
  unfold f_X10_loosens at h
  refine lv_aload_n hx hb dX10_loosens_0 rfl (lv_at hl 0 rfl) ?_
  replace h := o_b h; obtain ⟨x1, h1, h⟩ := h
  refine m_get (C := RX10) (T := TX10) (N := 25) (ci := 10) hx hb hts qi_X10_loosens_X10 hown hK.1 hM 16 (ldR_F h1) rfl (by decide) (hts _ q_X10_loosens_1) (fun _ h9 => h9) dX10_loosens_1 ?_
  refine lv_iload_n hx hb dX10_loosens_4 rfl (lv_at hl 2 rfl) ?_
  replace h := o_b h; obtain ⟨x5, h5, h⟩ := h
  refine m_iald hx hb hK.1 hM hS rfl h5 dX10_loosens_5 ?_
  refine lv_istore_n (lv' := [(3, .int x5), (0, .ref v0), (1, .int v1), (2, .int v2)]) hx hb dX10_loosens_6 rfl hl (by decide) rfl (fun ls hl => ?_)
  refine lv_aload_n hx hb dX10_loosens_7 rfl (lv_at hl 1 rfl) ?_
  replace h := o_b h; obtain ⟨x8, h8, h⟩ := h
  refine m_get (C := RX10) (T := TX10) (N := 25) (ci := 10) hx hb hts qi_X10_loosens_X10 hown hK.1 hM 17 (ldR_F h8) rfl (by decide) (hts _ q_X10_loosens_2) (fun _ h9 => h9) dX10_loosens_8 ?_
  refine lv_iload_n hx hb dX10_loosens_11 rfl (lv_at hl 3 rfl) ?_
  replace h := o_b h; obtain ⟨x12, h12, h⟩ := h
  refine m_iald hx hb hK.1 hM hS rfl h12 dX10_loosens_12 ?_
  refine lv_istore (lv' := [(4, .int x12), (3, .int x5), (0, .ref v0), (1, .int v1), (2, .int v2)]) hx hb dX10_loosens_13 hl (by decide) rfl (fun ls hl => ?_)
  refine lv_aload_n hx hb dX10_loosens_15 rfl (lv_at hl 2 rfl) ?_
  replace h := o_b h; obtain ⟨x16, h16, h⟩ := h
  refine m_get (C := RX10) (T := TX10) (N := 25) (ci := 10) hx hb hts qi_X10_loosens_X10 hown hK.1 hM 15 (ldR_F h16) rfl (by decide) (hts _ q_X10_loosens_3) (fun _ h9 => h9) dX10_loosens_16 ?_
  refine lv_iload_n hx hb dX10_loosens_19 rfl (lv_at hl 4 rfl) ?_
  replace h := o_b h; obtain ⟨x20, h20, h⟩ := h
  refine m_iald hx hb hK.1 hM hS rfl h20 dX10_loosens_20 ?_
  refine lv_bipush (v := (7 : Int32)) hx hb dX10_loosens_21 (by decide) ?_
  refine lv_icmp_ne (tgt := 47) hx hb dX10_loosens_23 (by decide) (fun c23 => ?_) (fun c23 => ?_)
  · replace h := o_f c23 h
    refine lv_aload_n hx hb dX10_loosens_47 rfl (lv_at hl 2 rfl) ?_
    replace h := o_b h; obtain ⟨x48, h48, h⟩ := h
    refine m_get (C := RX10) (T := TX10) (N := 25) (ci := 10) hx hb hts qi_X10_loosens_X10 hown hK.1 hM 15 (ldR_F h48) rfl (by decide) (hts _ q_X10_loosens_3) (fun _ h9 => h9) dX10_loosens_48 ?_
    refine lv_iload_n hx hb dX10_loosens_51 rfl (lv_at hl 4 rfl) ?_
    replace h := o_b h; obtain ⟨x52, h52, h⟩ := h
    refine m_iald hx hb hK.1 hM hS rfl h52 dX10_loosens_52 ?_
    refine lv_bipush (v := (8 : Int32)) hx hb dX10_loosens_53 (by decide) ?_
    refine lv_icmp_ne (tgt := 98) hx hb dX10_loosens_55 (by decide) (fun c55 => ?_) (fun c55 => ?_)
    · replace h := o_f c55 h
      refine lv_aload_n hx hb dX10_loosens_98 rfl (lv_at hl 2 rfl) ?_
      replace h := o_b h; obtain ⟨x99, h99, h⟩ := h
      refine m_get (C := RX10) (T := TX10) (N := 25) (ci := 10) hx hb hts qi_X10_loosens_X10 hown hK.1 hM 15 (ldR_F h99) rfl (by decide) (hts _ q_X10_loosens_3) (fun _ h9 => h9) dX10_loosens_99 ?_
      refine lv_iload_n hx hb dX10_loosens_102 rfl (lv_at hl 4 rfl) ?_
      replace h := o_b h; obtain ⟨x103, h103, h⟩ := h
      refine m_iald hx hb hK.1 hM hS rfl h103 dX10_loosens_103 ?_
      refine lv_bipush (v := (9 : Int32)) hx hb dX10_loosens_104 (by decide) ?_
      refine lv_icmp_eq (tgt := 111) hx hb dX10_loosens_106 (by decide) (fun c106 => ?_) (fun c106 => ?_)
      · replace h := o_t c106 h
        refine lv_aload_n hx hb dX10_loosens_111 rfl (lv_at hl 2 rfl) ?_
        refine lv_iload_n hx hb dX10_loosens_112 rfl (lv_at hl 3 rfl) ?_
        refine lv_iload_n hx hb dX10_loosens_113 rfl (lv_at hl 1 rfl) ?_
        replace h := o_b h; obtain ⟨_, k114, h⟩ := h
        replace h := o_b h; obtain ⟨q114, h114, h⟩ := h
        refine m_call (va_runV (As := [.int v1, .int x5]) (rest := []) ⟨hx, hb, hml, hown, hts⟩ (c_X10_has l D b0 sz h114) (cwV 2 hts gX10_loosens_X10_has rfl rfl rfl (by decide +kernel) ⟨Nat.le_of_ble_eq_true rfl, Nat.le_of_ble_eq_true rfl⟩) ⟨PW.blind, m_recv (ci := 10) rfl hK hM k114, (fun U hU hW => ⟨rfl, PW.call hK hM hS hU hW⟩)⟩ rfl rfl hl.1 rfl (lv_room (Nat.le_of_ble_eq_true rfl)) dX10_loosens_114 ⟨(Nat.le_refl _), (Nat.le_refl _)⟩) hS (fun H locs hM hS => ?_)
        refine lv_if_ne (tgt := 130) hx hb dX10_loosens_117 (by decide) (fun c117 => ?_) (fun c117 => ?_)
        · replace h := o_f c117 h
          exact w_X10_loosens_130 C0 _ _ _ _ _ h _ _ _ hM hS (lv_sub hl [2, 3, 4, 0] rfl)
        replace h := o_t c117 h
        refine lv_aload_n hx hb dX10_loosens_120 rfl (lv_at hl 2 rfl) ?_
        refine lv_iload_n hx hb dX10_loosens_121 rfl (lv_at hl 3 rfl) ?_
        refine lv_iload hx hb dX10_loosens_122 (lv_at hl 0 rfl) ?_
        replace h := o_b h; obtain ⟨_, k124, h⟩ := h
        replace h := o_b h; obtain ⟨q124, h124, h⟩ := h
        refine m_call (va_runV (As := [.int v1, .int x12]) (rest := []) ⟨hx, hb, hml, hown, hts⟩ (c_X10_has l D b0 sz h124) (cwV 2 hts gX10_loosens_X10_has rfl rfl rfl (by decide +kernel) ⟨Nat.le_of_ble_eq_true rfl, Nat.le_of_ble_eq_true rfl⟩) ⟨PW.blind, m_recv (ci := 10) rfl hK hM k124, (fun U hU hW => ⟨rfl, PW.call hK hM hS hU hW⟩)⟩ rfl rfl hl.1 rfl (lv_room (Nat.le_of_ble_eq_true rfl)) dX10_loosens_124 ⟨(Nat.le_refl _), (Nat.le_refl _)⟩) hS (fun H locs hM hS => ?_)
        refine lv_if_eq (tgt := 145) hx hb dX10_loosens_127 (by decide) (fun c127 => ?_) (fun c127 => ?_)
        · replace h := o_t c127 h
          refine lv_aload_n hx hb dX10_loosens_145 rfl (lv_at hl 2 rfl) ?_
          replace h := o_b h; obtain ⟨x146, h146, h⟩ := h
          refine m_get (C := RX10) (T := TX10) (N := 25) (ci := 10) hx hb hts qi_X10_loosens_X10 hown hK.1 hM 15 (ldR_F h146) rfl (by decide) (hts _ q_X10_loosens_3) (fun _ h9 => h9) dX10_loosens_146 ?_
          refine lv_iload_n hx hb dX10_loosens_149 rfl (lv_at hl 1 rfl) ?_
          replace h := o_b h; obtain ⟨x150, h150, h⟩ := h
          refine m_iald hx hb hK.1 hM hS rfl h150 dX10_loosens_150 ?_
          refine lv_bipush (v := (7 : Int32)) hx hb dX10_loosens_151 (by decide) ?_
          refine lv_icmp_ne (tgt := 191) hx hb dX10_loosens_153 (by decide) (fun c153 => ?_) (fun c153 => ?_)
          · replace h := o_f c153 h
            refine lv_aload_n hx hb dX10_loosens_191 rfl (lv_at hl 2 rfl) ?_
            replace h := o_b h; obtain ⟨x192, h192, h⟩ := h
            refine m_get (C := RX10) (T := TX10) (N := 25) (ci := 10) hx hb hts qi_X10_loosens_X10 hown hK.1 hM 15 (ldR_F h192) rfl (by decide) (hts _ q_X10_loosens_3) (fun _ h9 => h9) dX10_loosens_192 ?_
            refine lv_iload_n hx hb dX10_loosens_195 rfl (lv_at hl 1 rfl) ?_
            replace h := o_b h; obtain ⟨x196, h196, h⟩ := h
            refine m_iald hx hb hK.1 hM hS rfl h196 dX10_loosens_196 ?_
            refine lv_bipush (v := (8 : Int32)) hx hb dX10_loosens_197 (by decide) ?_
            refine lv_icmp_ne (tgt := 244) hx hb dX10_loosens_199 (by decide) (fun c199 => ?_) (fun c199 => ?_)
            · replace h := o_f c199 h
              refine lv_iconst (v := (0 : Int32)) hx hb dX10_loosens_244 (by decide) ?_
              replace h := Option.some.inj h; subst h
              exact W.zret hx hb hr rfl (fun t ht hW => ⟨rfl, by rw [ht]; exact hM.moved hW.alike, hS.F ht⟩) hS.2.2 dX10_loosens_245
            replace h := o_t c199 h
            refine lv_aload_n hx hb dX10_loosens_202 rfl (lv_at hl 2 rfl) ?_
            refine lv_iload_n hx hb dX10_loosens_203 rfl (lv_at hl 3 rfl) ?_
            refine lv_iload_n hx hb dX10_loosens_204 rfl (lv_at hl 4 rfl) ?_
            replace h := o_b h; obtain ⟨_, k205, h⟩ := h
            replace h := o_b h; obtain ⟨q205, h205, h⟩ := h
            refine m_call (va_runV (As := [.int v1, .int v2]) (rest := []) ⟨hx, hb, hml, hown, hts⟩ (c_X10_loses l D b0 sz h205) (cwV 2 hts gX10_loosens_X10_loses rfl rfl rfl (by decide +kernel) ⟨Nat.le_of_ble_eq_true rfl, Nat.le_of_ble_eq_true rfl⟩) ⟨PW.blind, m_recv (ci := 10) rfl hK hM k205, (fun U hU hW => ⟨rfl, PW.call hK hM hS hU hW⟩)⟩ rfl rfl hl.1 rfl (lv_room (Nat.le_of_ble_eq_true rfl)) dX10_loosens_205 ⟨(Nat.le_refl _), (Nat.le_refl _)⟩) hS (fun H locs hM hS => ?_)
            refine lv_aload_n hx hb dX10_loosens_208 rfl (lv_at hl 2 rfl) ?_
            refine lv_iload_n hx hb dX10_loosens_209 rfl (lv_at hl 3 rfl) ?_
            refine lv_aload_n hx hb dX10_loosens_210 rfl (lv_at hl 2 rfl) ?_
            refine lv_aload_n hx hb dX10_loosens_211 rfl (lv_at hl 2 rfl) ?_
            replace h := o_b h; obtain ⟨x212, h212, h⟩ := h
            refine m_get (C := RX10) (T := TX10) (N := 25) (ci := 10) hx hb hts qi_X10_loosens_X10 hown hK.1 hM 16 (ldR_F h212) rfl (by decide) (hts _ q_X10_loosens_1) (fun _ h9 => h9) dX10_loosens_212 ?_
            refine lv_iload_n hx hb dX10_loosens_215 rfl (lv_at hl 1 rfl) ?_
            replace h := o_b h; obtain ⟨x216, h216, h⟩ := h
            refine m_iald hx hb hK.1 hM hS rfl h216 dX10_loosens_216 ?_
            refine lv_iload hx hb dX10_loosens_217 (lv_at hl 0 rfl) ?_
            replace h := o_b h; obtain ⟨_, k219, h⟩ := h
            replace h := o_b h; obtain ⟨q219, h219, h⟩ := h
            refine m_call (va_runV (As := [.int x216, .int x12]) (rest := [.int v1, .ref v0]) ⟨hx, hb, hml, hown, hts⟩ (c_X10_implies l D b0 sz h219) (cwV 2 hts gX10_loosens_X10_implies rfl rfl rfl (by decide +kernel) ⟨Nat.le_of_ble_eq_true rfl, Nat.le_of_ble_eq_true rfl⟩) ⟨PW.blind, m_recv (ci := 10) rfl hK hM k219, (fun U hU hW => ⟨rfl, PW.call hK hM hS hU hW⟩)⟩ rfl rfl hl.1 rfl (lv_room (Nat.le_of_ble_eq_true rfl)) dX10_loosens_219 ⟨(Nat.le_refl _), (Nat.le_refl _)⟩) hS (fun H locs hM hS => ?_)
            replace h := o_b h; obtain ⟨_, k222, h⟩ := h
            replace h := o_b h; obtain ⟨q222, h222, h⟩ := h
            refine m_call (va_runV (As := [.int v1, .int q219.1]) (rest := []) ⟨hx, hb, hml, hown, hts⟩ (c_X10_gets l D b0 sz h222) (cwV 2 hts gX10_loosens_X10_gets rfl rfl rfl (by decide +kernel) ⟨Nat.le_of_ble_eq_true rfl, Nat.le_of_ble_eq_true rfl⟩) ⟨PW.blind, m_recv (ci := 10) rfl hK hM k222, (fun U hU hW => ⟨rfl, PW.call hK hM hS hU hW⟩)⟩ rfl rfl hl.1 rfl (lv_room (Nat.le_of_ble_eq_true rfl)) dX10_loosens_222 ⟨(Nat.le_refl _), (Nat.le_refl _)⟩) hS (fun H locs hM hS => ?_)
            refine lv_aload_n hx hb dX10_loosens_225 rfl (lv_at hl 2 rfl) ?_
            refine lv_iload_n hx hb dX10_loosens_226 rfl (lv_at hl 3 rfl) ?_
            refine lv_aload_n hx hb dX10_loosens_227 rfl (lv_at hl 2 rfl) ?_
            refine lv_aload_n hx hb dX10_loosens_228 rfl (lv_at hl 2 rfl) ?_
            replace h := o_b h; obtain ⟨x229, h229, h⟩ := h
            refine m_get (C := RX10) (T := TX10) (N := 25) (ci := 10) hx hb hts qi_X10_loosens_X10 hown hK.1 hM 17 (ldR_F h229) rfl (by decide) (hts _ q_X10_loosens_2) (fun _ h9 => h9) dX10_loosens_229 ?_
            refine lv_iload_n hx hb dX10_loosens_232 rfl (lv_at hl 1 rfl) ?_
            replace h := o_b h; obtain ⟨x233, h233, h⟩ := h
            refine m_iald hx hb hK.1 hM hS rfl h233 dX10_loosens_233 ?_
            refine lv_iload hx hb dX10_loosens_234 (lv_at hl 0 rfl) ?_
            replace h := o_b h; obtain ⟨_, k236, h⟩ := h
            replace h := o_b h; obtain ⟨q236, h236, h⟩ := h
            refine m_call (va_runV (As := [.int x233, .int x12]) (rest := [.int v1, .ref v0]) ⟨hx, hb, hml, hown, hts⟩ (c_X10_implies l D b0 sz h236) (cwV 2 hts gX10_loosens_X10_implies rfl rfl rfl (by decide +kernel) ⟨Nat.le_of_ble_eq_true rfl, Nat.le_of_ble_eq_true rfl⟩) ⟨PW.blind, m_recv (ci := 10) rfl hK hM k236, (fun U hU hW => ⟨rfl, PW.call hK hM hS hU hW⟩)⟩ rfl rfl hl.1 rfl (lv_room (Nat.le_of_ble_eq_true rfl)) dX10_loosens_236 ⟨(Nat.le_refl _), (Nat.le_refl _)⟩) hS (fun H locs hM hS => ?_)
            replace h := o_b h; obtain ⟨_, k239, h⟩ := h
            replace h := o_b h; obtain ⟨q239, h239, h⟩ := h
            refine m_call (va_runV (As := [.int v1, .int q236.1]) (rest := []) ⟨hx, hb, hml, hown, hts⟩ (c_X10_gets l D b0 sz h239) (cwV 2 hts gX10_loosens_X10_gets rfl rfl rfl (by decide +kernel) ⟨Nat.le_of_ble_eq_true rfl, Nat.le_of_ble_eq_true rfl⟩) ⟨PW.blind, m_recv (ci := 10) rfl hK hM k239, (fun U hU hW => ⟨rfl, PW.call hK hM hS hU hW⟩)⟩ rfl rfl hl.1 rfl (lv_room (Nat.le_of_ble_eq_true rfl)) dX10_loosens_239 ⟨(Nat.le_refl _), (Nat.le_refl _)⟩) hS (fun H locs hM hS => ?_)
            refine lv_iconst (v := (1 : Int32)) hx hb dX10_loosens_242 (by decide) ?_
            replace h := Option.some.inj h; subst h
            exact W.zret hx hb hr rfl (fun t ht hW => ⟨rfl, by rw [ht]; exact hM.moved hW.alike, hS.F ht⟩) hS.2.2 dX10_loosens_243
          replace h := o_t c153 h
          refine lv_aload_n hx hb dX10_loosens_156 rfl (lv_at hl 2 rfl) ?_
          refine lv_iload_n hx hb dX10_loosens_157 rfl (lv_at hl 3 rfl) ?_
          refine lv_iload_n hx hb dX10_loosens_158 rfl (lv_at hl 4 rfl) ?_
          replace h := o_b h; obtain ⟨_, k159, h⟩ := h
          replace h := o_b h; obtain ⟨q159, h159, h⟩ := h
          refine m_call (va_runV (As := [.int v1, .int v2]) (rest := []) ⟨hx, hb, hml, hown, hts⟩ (c_X10_loses l D b0 sz h159) (cwV 2 hts gX10_loosens_X10_loses rfl rfl rfl (by decide +kernel) ⟨Nat.le_of_ble_eq_true rfl, Nat.le_of_ble_eq_true rfl⟩) ⟨PW.blind, m_recv (ci := 10) rfl hK hM k159, (fun U hU hW => ⟨rfl, PW.call hK hM hS hU hW⟩)⟩ rfl rfl hl.1 rfl (lv_room (Nat.le_of_ble_eq_true rfl)) dX10_loosens_159 ⟨(Nat.le_refl _), (Nat.le_refl _)⟩) hS (fun H locs hM hS => ?_)
          refine lv_aload_n hx hb dX10_loosens_162 rfl (lv_at hl 2 rfl) ?_
          refine lv_iload_n hx hb dX10_loosens_163 rfl (lv_at hl 3 rfl) ?_
          refine lv_aload_n hx hb dX10_loosens_164 rfl (lv_at hl 2 rfl) ?_
          refine lv_aload_n hx hb dX10_loosens_165 rfl (lv_at hl 2 rfl) ?_
          replace h := o_b h; obtain ⟨x166, h166, h⟩ := h
          refine m_get (C := RX10) (T := TX10) (N := 25) (ci := 10) hx hb hts qi_X10_loosens_X10 hown hK.1 hM 16 (ldR_F h166) rfl (by decide) (hts _ q_X10_loosens_1) (fun _ h9 => h9) dX10_loosens_166 ?_
          refine lv_iload_n hx hb dX10_loosens_169 rfl (lv_at hl 1 rfl) ?_
          replace h := o_b h; obtain ⟨x170, h170, h⟩ := h
          refine m_iald hx hb hK.1 hM hS rfl h170 dX10_loosens_170 ?_
          refine lv_aload_n hx hb dX10_loosens_171 rfl (lv_at hl 2 rfl) ?_
          refine lv_aload_n hx hb dX10_loosens_172 rfl (lv_at hl 2 rfl) ?_
          replace h := o_b h; obtain ⟨x173, h173, h⟩ := h
          refine m_get (C := RX10) (T := TX10) (N := 25) (ci := 10) hx hb hts qi_X10_loosens_X10 hown hK.1 hM 17 (ldR_F h173) rfl (by decide) (hts _ q_X10_loosens_2) (fun _ h9 => h9) dX10_loosens_173 ?_
          refine lv_iload_n hx hb dX10_loosens_176 rfl (lv_at hl 1 rfl) ?_
          replace h := o_b h; obtain ⟨x177, h177, h⟩ := h
          refine m_iald hx hb hK.1 hM hS rfl h177 dX10_loosens_177 ?_
          refine lv_iload hx hb dX10_loosens_178 (lv_at hl 0 rfl) ?_
          replace h := o_b h; obtain ⟨_, k180, h⟩ := h
          replace h := o_b h; obtain ⟨q180, h180, h⟩ := h
          refine m_call (va_runV (As := [.int x177, .int x12]) (rest := [.int x170, .ref v0, .int v1, .ref v0]) ⟨hx, hb, hml, hown, hts⟩ (c_X10_implies l D b0 sz h180) (cwV 2 hts gX10_loosens_X10_implies rfl rfl rfl (by decide +kernel) ⟨Nat.le_of_ble_eq_true rfl, Nat.le_of_ble_eq_true rfl⟩) ⟨PW.blind, m_recv (ci := 10) rfl hK hM k180, (fun U hU hW => ⟨rfl, PW.call hK hM hS hU hW⟩)⟩ rfl rfl hl.1 rfl (lv_room (Nat.le_of_ble_eq_true rfl)) dX10_loosens_180 ⟨(Nat.le_refl _), (Nat.le_refl _)⟩) hS (fun H locs hM hS => ?_)
          replace h := o_b h; obtain ⟨_, k183, h⟩ := h
          replace h := o_b h; obtain ⟨q183, h183, h⟩ := h
          refine m_call (va_runV (As := [.int x170, .int q180.1]) (rest := [.int v1, .ref v0]) ⟨hx, hb, hml, hown, hts⟩ (c_X10_implies l D b0 sz h183) (cwV 2 hts gX10_loosens_X10_implies rfl rfl rfl (by decide +kernel) ⟨Nat.le_of_ble_eq_true rfl, Nat.le_of_ble_eq_true rfl⟩) ⟨PW.blind, m_recv (ci := 10) rfl hK hM k183, (fun U hU hW => ⟨rfl, PW.call hK hM hS hU hW⟩)⟩ rfl rfl hl.1 rfl (lv_room (Nat.le_of_ble_eq_true rfl)) dX10_loosens_183 ⟨(Nat.le_refl _), (Nat.le_refl _)⟩) hS (fun H locs hM hS => ?_)
          replace h := o_b h; obtain ⟨_, k186, h⟩ := h
          replace h := o_b h; obtain ⟨q186, h186, h⟩ := h
          refine m_call (va_runV (As := [.int v1, .int q183.1]) (rest := []) ⟨hx, hb, hml, hown, hts⟩ (c_X10_gets l D b0 sz h186) (cwV 2 hts gX10_loosens_X10_gets rfl rfl rfl (by decide +kernel) ⟨Nat.le_of_ble_eq_true rfl, Nat.le_of_ble_eq_true rfl⟩) ⟨PW.blind, m_recv (ci := 10) rfl hK hM k186, (fun U hU hW => ⟨rfl, PW.call hK hM hS hU hW⟩)⟩ rfl rfl hl.1 rfl (lv_room (Nat.le_of_ble_eq_true rfl)) dX10_loosens_186 ⟨(Nat.le_refl _), (Nat.le_refl _)⟩) hS (fun H locs hM hS => ?_)
          refine lv_iconst (v := (1 : Int32)) hx hb dX10_loosens_189 (by decide) ?_
          replace h := Option.some.inj h; subst h
          exact W.zret hx hb hr rfl (fun t ht hW => ⟨rfl, by rw [ht]; exact hM.moved hW.alike, hS.F ht⟩) hS.2.2 dX10_loosens_190
        replace h := o_f c127 h
        exact w_X10_loosens_130 C0 _ _ _ _ _ h _ _ _ hM hS (lv_sub hl [2, 3, 4, 0] rfl)
      replace h := o_f c106 h
      refine lv_iconst (v := (0 : Int32)) hx hb dX10_loosens_109 (by decide) ?_
      replace h := Option.some.inj h; subst h
      exact W.zret hx hb hr rfl (fun t ht hW => ⟨rfl, by rw [ht]; exact hM.moved hW.alike, hS.F ht⟩) hS.2.2 dX10_loosens_110
    replace h := o_t c55 h
    refine lv_aload_n hx hb dX10_loosens_58 rfl (lv_at hl 2 rfl) ?_
    refine lv_iload_n hx hb dX10_loosens_59 rfl (lv_at hl 3 rfl) ?_
    refine lv_iload_n hx hb dX10_loosens_60 rfl (lv_at hl 1 rfl) ?_
    replace h := o_b h; obtain ⟨_, k61, h⟩ := h
    replace h := o_b h; obtain ⟨q61, h61, h⟩ := h
    refine m_call (va_runV (As := [.int v1, .int x5]) (rest := []) ⟨hx, hb, hml, hown, hts⟩ (c_X10_has l D b0 sz h61) (cwV 2 hts gX10_loosens_X10_has rfl rfl rfl (by decide +kernel) ⟨Nat.le_of_ble_eq_true rfl, Nat.le_of_ble_eq_true rfl⟩) ⟨PW.blind, m_recv (ci := 10) rfl hK hM k61, (fun U hU hW => ⟨rfl, PW.call hK hM hS hU hW⟩)⟩ rfl rfl hl.1 rfl (lv_room (Nat.le_of_ble_eq_true rfl)) dX10_loosens_61 ⟨(Nat.le_refl _), (Nat.le_refl _)⟩) hS (fun H locs hM hS => ?_)
    refine lv_if_ne (tgt := 77) hx hb dX10_loosens_64 (by decide) (fun c64 => ?_) (fun c64 => ?_)
    · replace h := o_f c64 h
      exact w_X10_loosens_77 C0 _ _ _ _ h _ _ _ hM hS (lv_sub hl [2, 3, 4] rfl)
    replace h := o_t c64 h
    refine lv_aload_n hx hb dX10_loosens_67 rfl (lv_at hl 2 rfl) ?_
    refine lv_iload_n hx hb dX10_loosens_68 rfl (lv_at hl 3 rfl) ?_
    refine lv_iload hx hb dX10_loosens_69 (lv_at hl 0 rfl) ?_
    replace h := o_b h; obtain ⟨_, k71, h⟩ := h
    replace h := o_b h; obtain ⟨q71, h71, h⟩ := h
    refine m_call (va_runV (As := [.int v1, .int x12]) (rest := []) ⟨hx, hb, hml, hown, hts⟩ (c_X10_has l D b0 sz h71) (cwV 2 hts gX10_loosens_X10_has rfl rfl rfl (by decide +kernel) ⟨Nat.le_of_ble_eq_true rfl, Nat.le_of_ble_eq_true rfl⟩) ⟨PW.blind, m_recv (ci := 10) rfl hK hM k71, (fun U hU hW => ⟨rfl, PW.call hK hM hS hU hW⟩)⟩ rfl rfl hl.1 rfl (lv_room (Nat.le_of_ble_eq_true rfl)) dX10_loosens_71 ⟨(Nat.le_refl _), (Nat.le_refl _)⟩) hS (fun H locs hM hS => ?_)
    refine lv_if_eq (tgt := 81) hx hb dX10_loosens_74 (by decide) (fun c74 => ?_) (fun c74 => ?_)
    · replace h := o_t c74 h
      refine lv_iconst (v := (0 : Int32)) hx hb dX10_loosens_81 (by decide) ?_
      exact w_X10_loosens_82 C0 _ _ _ _ _ h _ _ _ hM hS (lv_sub hl [2, 3, 4] rfl)
    replace h := o_f c74 h
    exact w_X10_loosens_77 C0 _ _ _ _ h _ _ _ hM hS (lv_sub hl [2, 3, 4] rfl)
  replace h := o_t c23 h
  refine lv_aload_n hx hb dX10_loosens_26 rfl (lv_at hl 2 rfl) ?_
  refine lv_iload_n hx hb dX10_loosens_27 rfl (lv_at hl 3 rfl) ?_
  refine lv_iload_n hx hb dX10_loosens_28 rfl (lv_at hl 4 rfl) ?_
  replace h := o_b h; obtain ⟨_, k29, h⟩ := h
  replace h := o_b h; obtain ⟨q29, h29, h⟩ := h
  refine m_call (va_runV (As := [.int v1, .int v2]) (rest := []) ⟨hx, hb, hml, hown, hts⟩ (c_X10_loses l D b0 sz h29) (cwV 2 hts gX10_loosens_X10_loses rfl rfl rfl (by decide +kernel) ⟨Nat.le_of_ble_eq_true rfl, Nat.le_of_ble_eq_true rfl⟩) ⟨PW.blind, m_recv (ci := 10) rfl hK hM k29, (fun U hU hW => ⟨rfl, PW.call hK hM hS hU hW⟩)⟩ rfl rfl hl.1 rfl (lv_room (Nat.le_of_ble_eq_true rfl)) dX10_loosens_29 ⟨(Nat.le_refl _), (Nat.le_refl _)⟩) hS (fun H locs hM hS => ?_)
  refine lv_aload_n hx hb dX10_loosens_32 rfl (lv_at hl 2 rfl) ?_
  refine lv_iload_n hx hb dX10_loosens_33 rfl (lv_at hl 3 rfl) ?_
  refine lv_iload_n hx hb dX10_loosens_34 rfl (lv_at hl 1 rfl) ?_
  replace h := o_b h; obtain ⟨_, k35, h⟩ := h
  replace h := o_b h; obtain ⟨q35, h35, h⟩ := h
  refine m_call (va_runV (As := [.int v1, .int x5]) (rest := []) ⟨hx, hb, hml, hown, hts⟩ (c_X10_gets l D b0 sz h35) (cwV 2 hts gX10_loosens_X10_gets rfl rfl rfl (by decide +kernel) ⟨Nat.le_of_ble_eq_true rfl, Nat.le_of_ble_eq_true rfl⟩) ⟨PW.blind, m_recv (ci := 10) rfl hK hM k35, (fun U hU hW => ⟨rfl, PW.call hK hM hS hU hW⟩)⟩ rfl rfl hl.1 rfl (lv_room (Nat.le_of_ble_eq_true rfl)) dX10_loosens_35 ⟨(Nat.le_refl _), (Nat.le_refl _)⟩) hS (fun H locs hM hS => ?_)
  refine lv_aload_n hx hb dX10_loosens_38 rfl (lv_at hl 2 rfl) ?_
  refine lv_iload_n hx hb dX10_loosens_39 rfl (lv_at hl 3 rfl) ?_
  refine lv_iload hx hb dX10_loosens_40 (lv_at hl 0 rfl) ?_
  replace h := o_b h; obtain ⟨_, k42, h⟩ := h
  replace h := o_b h; obtain ⟨q42, h42, h⟩ := h
  refine m_call (va_runV (As := [.int v1, .int x12]) (rest := []) ⟨hx, hb, hml, hown, hts⟩ (c_X10_gets l D b0 sz h42) (cwV 2 hts gX10_loosens_X10_gets rfl rfl rfl (by decide +kernel) ⟨Nat.le_of_ble_eq_true rfl, Nat.le_of_ble_eq_true rfl⟩) ⟨PW.blind, m_recv (ci := 10) rfl hK hM k42, (fun U hU hW => ⟨rfl, PW.call hK hM hS hU hW⟩)⟩ rfl rfl hl.1 rfl (lv_room (Nat.le_of_ble_eq_true rfl)) dX10_loosens_42 ⟨(Nat.le_refl _), (Nat.le_refl _)⟩) hS (fun H locs hM hS => ?_)
  refine lv_iconst (v := (1 : Int32)) hx hb dX10_loosens_45 (by decide) ?_
  replace h := Option.some.inj h; subst h
  exact W.zret hx hb hr rfl (fun t ht hW => ⟨rfl, by rw [ht]; exact hM.moved hW.alike, hS.F ht⟩) hS.2.2 dX10_loosens_46
set_option maxHeartbeats 4000000 in
set_option maxRecDepth 100000 in
theorem c_X10_loosens (l : Launch) (D : mmD) (b0 sz : Nat) {v0 : Nat} {v1 : Int32} {v2 : Int32} {f : mmF} {res : Int32 × mmF} (h : f_X10_loosens v0 v1 v2 f = some res) : Met l yX10_loosens wsX10_loosens ({ frames := 6, cells := 0, slots := 0, locals := 145 } : Room) (va_Pc [.ref v0, .int v1, .int v2] (PW D b0 f sz)) (QW D b0 (some (.int res.1)) res.2 sz) 0 0 (fun q => b0 ≤ q) := by
  refine Met.ofW (cc := cX10_loosens) (maxL := 6) (ret := (some .boolean)) (by decide) rfl ?_
  intro p e s m args below meth c s₁ B hml hv
  obtain ⟨rfl, hM, hK⟩ := hv
  have hl := lv_entry ([.ref v0, .int v1, .int v2]) (n := 6) (Nat.le_of_ble_eq_true rfl)
  rw [lg_entry_eq]
  generalize (lg_sl ([.ref v0, .int v1, .int v2]) ++ List.replicate (6 - (lg_sl ([.ref v0, .int v1, .int v2])).length) Slot.unset).toArray = ls at hl ⊢
  have hl : lv_has ls 6 [(0, .ref v0), (1, .int v1), (2, .int v2)] := hl
  exact w_X10_loosens ⟨B.exec, B.bytes, B.returns, hml, findClass_of_methodNamed B.named, atoms_spec (ws := wsX10_loosens) B.pre, B.notSynchronized, hK⟩ h s.heap [] ls hM va_S.rf hl
end S_X10_loosens
/-! X10_settles -/
set_option maxRecDepth 20000 in
theorem qi_X10_settles_X10 : ∀ w ∈ u_ws RX10 TX10 25, w ∈ wsX10_settles := by decide +kernel
set_option maxRecDepth 20000 in
theorem q_X10_settles_1 : Cond.fieldLink RX10 172 "StageTruthsModel" "parts" "I" ∈ wsX10_settles := by decide +kernel
set_option maxRecDepth 20000 in
theorem q_X10_settles_2 : Cond.fieldLink RX10 38 "StageTruthsModel" "op" "[I" ∈ wsX10_settles := by decide +kernel
set_option maxRecDepth 20000 in
theorem q_X10_settles_3 : Cond.fieldLink RX10 54 "StageTruthsModel" "goal" "[I" ∈ wsX10_settles := by decide +kernel
set_option maxRecDepth 20000 in
theorem q_X10_settles_4 : Cond.fieldLink RX10 41 "StageTruthsModel" "left" "[I" ∈ wsX10_settles := by decide +kernel
set_option maxRecDepth 20000 in
theorem q_X10_settles_5 : Cond.fieldLink RX10 44 "StageTruthsModel" "right" "[I" ∈ wsX10_settles := by decide +kernel
noncomputable def f_X10_settles_140 (k2 : Nat → Int32 → Int32 → mmF → Option (Int32 × mmF)) (k108 : Nat → Int32 → Int32 → Int32 → mmF → Option (Int32 × mmF))  (v0 : Nat) (v1 : Int32) (v3 : Int32) (t0 : Int32) (t1 : Int32) (f : mmF) : Option (Int32 × mmF) :=
  k108 v0 v1 (t0 ||| t1) (v3 + (1 : Int32)) f
noncomputable def f_X10_settles_139 (k2 : Nat → Int32 → Int32 → mmF → Option (Int32 × mmF)) (k108 : Nat → Int32 → Int32 → Int32 → mmF → Option (Int32 × mmF))  (v0 : Nat) (v1 : Int32) (v3 : Int32) (t0 : Int32) (f : mmF) : Option (Int32 × mmF) :=
  f_X10_settles_140 k2 k108 v0 v1 v3 t0 (0 : Int32) f
noncomputable def f_X10_settles_108 (k2 : Nat → Int32 → Int32 → mmF → Option (Int32 × mmF))  : Nat → Nat → Int32 → Int32 → Int32 → mmF → Option (Int32 × mmF)
  | 0, _, _, _, _, _ => none
  | n + 1, v0, v1, v2, v3, f =>
    (ldI f v0 10 19).bind fun x110 =>
    if x110 ≤ v3 then
    (k2 v0 v1 v2 f)
    else
    (ckO f v0 10).bind fun _ =>
    (f_X10_has v0 v1 v3 f).bind fun q120 =>
    if q120 = 0 then
    (f_X10_settles_139 k2 (fun a0 a1 a2 a3 a4 => f_X10_settles_108 k2 n a0 a1 a2 a3 a4) v0 v1 v3 v2 f)
    else
    (ckO f v0 10).bind fun _ =>
    (f_X10_loosens v0 v1 v3 f).bind fun q129 =>
    if q129.1 = 0 then
    (f_X10_settles_139 k2 (fun a0 a1 a2 a3 a4 => f_X10_settles_108 k2 n a0 a1 a2 a3 a4) v0 v1 v3 v2 q129.2)
    else
    f_X10_settles_140 k2 (fun a0 a1 a2 a3 a4 => f_X10_settles_108 k2 n a0 a1 a2 a3 a4) v0 v1 v3 v2 (1 : Int32) q129.2
noncomputable def f_X10_settles_14 (k2 : Nat → Int32 → Int32 → mmF → Option (Int32 × mmF))  : Nat → Nat → Int32 → Int32 → mmF → Option (Int32 × mmF)
  | 0, _, _, _, _ => none
  | n + 1, v0, v1, v2, f =>
    (ldR f v0 10 15).bind fun x15 =>
    (ldR f v0 10 21).bind fun x19 =>
    (ldA 0 f x19 v1).bind fun x23 =>
    (ldA 0 f x15 x23).bind fun x24 =>
    if x24 = (9 : Int32) then
    ((ldR f v0 10 16).bind fun x33 =>
    (ldR f v0 10 21).bind fun x37 =>
    (ldA 0 f x37 v1).bind fun x41 =>
    (ldA 0 f x33 x41).bind fun x42 =>
    (ckO f v0 10).bind fun _ =>
    (f_X10_gets v0 v1 x42 f).bind fun q43 =>
    (ldR q43 v0 10 21).bind fun x47 =>
    (ldR q43 v0 10 17).bind fun x52 =>
    (ldR q43 v0 10 21).bind fun x56 =>
    (ldA 0 q43 x56 v1).bind fun x60 =>
    (ldA 0 q43 x52 x60).bind fun x61 =>
    (stA 0 q43 x47 v1 x61).bind fun f62 =>
    (ckO f62 v0 10).bind fun _ =>
    (f_X10_loses v0 v1 (0 : Int32) f62).bind fun q66 =>
    f_X10_settles_14 k2 n v0 v1 v2 q66)
    else
    (ldR f v0 10 21).bind fun x73 =>
    (ldA 0 f x73 v1).bind fun x77 =>
    if x77 = 0 then
    (some ((1 : Int32), f))
    else
    (ckO f v0 10).bind fun _ =>
    (f_X10_has v0 v1 (1 : Int32) f).bind fun q84 =>
    if q84 = 0 then
    ((ldR f v0 10 21).bind fun x93 =>
    (ldA 0 f x93 v1).bind fun x97 =>
    (ckO f v0 10).bind fun _ =>
    (f_X10_has v0 v1 x97 f).bind fun q98 =>
    if q98 = 0 then
    (f_X10_settles_108 k2 FU v0 v1 v2 (2 : Int32) f)
    else
    some ((1 : Int32), f))
    else
    some ((1 : Int32), f)
noncomputable def f_X10_settles_2   : Nat → Nat → Int32 → Int32 → mmF → Option (Int32 × mmF)
  | 0, _, _, _, _ => none
  | n + 1, v0, v1, v2, f =>
    if v2 = 0 then
    ((ckO f v0 10).bind fun _ =>
    (f_X10_refutes v0 v1 f).bind fun q153 =>
    if q153 = (2 : Int32) then
    (some ((1 : Int32), f))
    else
    if q153 = (1 : Int32) then
    (some ((0 : Int32), f))
    else
    some ((2 : Int32), f))
    else
    (ckO f v0 10).bind fun _ =>
    (f_X10_loses v0 v1 (0 : Int32) f).bind fun q11 =>
    f_X10_settles_14 (fun a0 a1 a2 a3 => f_X10_settles_2 n a0 a1 a2 a3) FU v0 v1 (0 : Int32) q11
noncomputable def f_X10_settles (v0 : Nat) (v1 : Int32) (f : mmF) : Option (Int32 × mmF) :=
  f_X10_settles_2 FU v0 v1 (1 : Int32) f
section S_X10_settles
variable {p : Program} {l : Launch} {e : Env} {s : State} {m : MethodId} {args : Array Value} {below : List Frame} {meth : Method} {c : Code} {D : mmD} {b0 sz : Nat} {f : mmF}
set_option maxHeartbeats 4000000 in
set_option maxRecDepth 100000 in
theorem w_X10_settles_140 (C0 : CX cX10_settles 4 (some .int) wsX10_settles RX10 p s m args meth c D b0) {k2 : Nat → Int32 → Int32 → mmF → Option (Int32 × mmF)} {k108 : Nat → Int32 → Int32 → Int32 → mmF → Option (Int32 × mmF)} {res : Int32 × mmF} (hk2 : ∀ (v0 : Nat) (v1 : Int32) (v2 : Int32) (f : mmF), k2 v0 v1 v2 f = some res → ∀ (H : Heap) (locs : List Loc) (ls : Array Slot), MM vwCl D b0 f sz s H → mS b0 s H locs → lv_has ls 4 [(0, .ref v0), (1, .int v1), (2, .int v2)] → W p l e ({ frames := 7, cells := 0, slots := 0, locals := 170 } : Room) s m args below meth c H locs 0 0 (MQ below (QW D b0 (some (.int res.1)) res.2 sz) args s 0 0 (fun q => b0 ≤ q)) (F0 m 2 ls [])) (hk108 : ∀ (v0 : Nat) (v1 : Int32) (v2 : Int32) (v3 : Int32) (f : mmF), k108 v0 v1 v2 v3 f = some res → ∀ (H : Heap) (locs : List Loc) (ls : Array Slot), MM vwCl D b0 f sz s H → mS b0 s H locs → lv_has ls 4 [(0, .ref v0), (1, .int v1), (2, .int v2), (3, .int v3)] → W p l e ({ frames := 7, cells := 0, slots := 0, locals := 170 } : Room) s m args below meth c H locs 0 0 (MQ below (QW D b0 (some (.int res.1)) res.2 sz) args s 0 0 (fun q => b0 ≤ q)) (F0 m 108 ls [])) : ∀ (v0 : Nat) (v1 : Int32) (v3 : Int32) (t0 : Int32) (t1 : Int32) (f : mmF), f_X10_settles_140 k2 k108 v0 v1 v3 t0 t1 f = some res → ∀ (H : Heap) (locs : List Loc) (ls : Array Slot), MM vwCl D b0 f sz s H → mS b0 s H locs → lv_has ls 4 [(0, .ref v0), (1, .int v1), (3, .int v3)] → W p l e ({ frames := 7, cells := 0, slots := 0, locals := 170 } : Room) s m args below meth c H locs 0 0 (MQ below (QW D b0 (some (.int res.1)) res.2 sz) args s 0 0 (fun q => b0 ≤ q)) (F0 m 140 ls [.int t1, .int t0]) := by
  obtain ⟨hx, hb, hr, hml, hown, hts, hlocks, hK⟩ := id C0
  intro v0 v1 v3 t0 t1 f h H locs ls hM hS hl
  unfold f_X10_settles_140 at h
  refine lv_ior hx hb dX10_settles_140 ?_
  refine lv_istore_n (lv' := [(2, .int (t0 ||| t1)), (0, .ref v0), (1, .int v1), (3, .int v3)]) hx hb dX10_settles_141 rfl hl (by decide) rfl (fun ls hl => ?_)
  refine lv_iinc (v := (v3 + (1 : Int32))) (lv' := [(3, .int (v3 + (1 : Int32))), (2, .int (t0 ||| t1)), (0, .ref v0), (1, .int v1)]) hx hb dX10_settles_142 hl (k := 3) rfl rfl (by decide) rfl (fun ls hl => ?_)
  refine lv_goto (tgt := 108) hx hb dX10_settles_145 (by decide) ?_
  exact hk108 _ _ _ _ _ h _ _ _ hM hS (lv_sub hl [2, 3, 1, 0] rfl)
set_option maxHeartbeats 4000000 in
set_option maxRecDepth 100000 in
theorem w_X10_settles_139 (C0 : CX cX10_settles 4 (some .int) wsX10_settles RX10 p s m args meth c D b0) {k2 : Nat → Int32 → Int32 → mmF → Option (Int32 × mmF)} {k108 : Nat → Int32 → Int32 → Int32 → mmF → Option (Int32 × mmF)} {res : Int32 × mmF} (hk2 : ∀ (v0 : Nat) (v1 : Int32) (v2 : Int32) (f : mmF), k2 v0 v1 v2 f = some res → ∀ (H : Heap) (locs : List Loc) (ls : Array Slot), MM vwCl D b0 f sz s H → mS b0 s H locs → lv_has ls 4 [(0, .ref v0), (1, .int v1), (2, .int v2)] → W p l e ({ frames := 7, cells := 0, slots := 0, locals := 170 } : Room) s m args below meth c H locs 0 0 (MQ below (QW D b0 (some (.int res.1)) res.2 sz) args s 0 0 (fun q => b0 ≤ q)) (F0 m 2 ls [])) (hk108 : ∀ (v0 : Nat) (v1 : Int32) (v2 : Int32) (v3 : Int32) (f : mmF), k108 v0 v1 v2 v3 f = some res → ∀ (H : Heap) (locs : List Loc) (ls : Array Slot), MM vwCl D b0 f sz s H → mS b0 s H locs → lv_has ls 4 [(0, .ref v0), (1, .int v1), (2, .int v2), (3, .int v3)] → W p l e ({ frames := 7, cells := 0, slots := 0, locals := 170 } : Room) s m args below meth c H locs 0 0 (MQ below (QW D b0 (some (.int res.1)) res.2 sz) args s 0 0 (fun q => b0 ≤ q)) (F0 m 108 ls [])) : ∀ (v0 : Nat) (v1 : Int32) (v3 : Int32) (t0 : Int32) (f : mmF), f_X10_settles_139 k2 k108 v0 v1 v3 t0 f = some res → ∀ (H : Heap) (locs : List Loc) (ls : Array Slot), MM vwCl D b0 f sz s H → mS b0 s H locs → lv_has ls 4 [(0, .ref v0), (1, .int v1), (3, .int v3)] → W p l e ({ frames := 7, cells := 0, slots := 0, locals := 170 } : Room) s m args below meth c H locs 0 0 (MQ below (QW D b0 (some (.int res.1)) res.2 sz) args s 0 0 (fun q => b0 ≤ q)) (F0 m 139 ls [.int t0]) := by
  obtain ⟨hx, hb, hr, hml, hown, hts, hlocks, hK⟩ := id C0
  intro v0 v1 v3 t0 f h H locs ls hM hS hl
  unfold f_X10_settles_139 at h
  refine lv_iconst (v := (0 : Int32)) hx hb dX10_settles_139 (by decide) ?_
  exact w_X10_settles_140 C0 hk2 hk108 _ _ _ _ _ _ h _ _ _ hM hS (lv_sub hl [0, 1, 2] rfl)
set_option maxHeartbeats 4000000 in
set_option maxRecDepth 100000 in
theorem w_X10_settles_108 (C0 : CX cX10_settles 4 (some .int) wsX10_settles RX10 p s m args meth c D b0) {k2 : Nat → Int32 → Int32 → mmF → Option (Int32 × mmF)} {res : Int32 × mmF} (hk2 : ∀ (v0 : Nat) (v1 : Int32) (v2 : Int32) (f : mmF), k2 v0 v1 v2 f = some res → ∀ (H : Heap) (locs : List Loc) (ls : Array Slot), MM vwCl D b0 f sz s H → mS b0 s H locs → lv_has ls 4 [(0, .ref v0), (1, .int v1), (2, .int v2)] → W p l e ({ frames := 7, cells := 0, slots := 0, locals := 170 } : Room) s m args below meth c H locs 0 0 (MQ below (QW D b0 (some (.int res.1)) res.2 sz) args s 0 0 (fun q => b0 ≤ q)) (F0 m 2 ls [])) : ∀ (n : Nat), ∀ (v0 : Nat) (v1 : Int32) (v2 : Int32) (v3 : Int32) (f : mmF), f_X10_settles_108 k2 n v0 v1 v2 v3 f = some res → ∀ (H : Heap) (locs : List Loc) (ls : Array Slot), MM vwCl D b0 f sz s H → mS b0 s H locs → lv_has ls 4 [(0, .ref v0), (1, .int v1), (2, .int v2), (3, .int v3)] → W p l e ({ frames := 7, cells := 0, slots := 0, locals := 170 } : Room) s m args below meth c H locs 0 0 (MQ below (QW D b0 (some (.int res.1)) res.2 sz) args s 0 0 (fun q => b0 ≤ q)) (F0 m 108 ls []) := by
  obtain ⟨hx, hb, hr, hml, hown, hts, hlocks, hK⟩ := id C0
  intro n
  induction n with
  | zero =>
    intro v0 v1 v2 v3 f h
    have h : (none : Option (Int32 × mmF)) = some res := h
    cases h
  | succ n ih =>
    intro v0 v1 v2 v3 f h H locs ls hM hS hl
    rw [f_X10_settles_108] at h
    refine lv_iload_n hx hb dX10_settles_108 rfl (lv_at hl 3 rfl) ?_
    refine lv_aload_n hx hb dX10_settles_109 rfl (lv_at hl 0 rfl) ?_
    replace h := o_b h; obtain ⟨x110, h110, h⟩ := h
    refine m_get (C := RX10) (T := TX10) (N := 25) (ci := 10) hx hb hts qi_X10_settles_X10 hown hK.1 hM 19 (ldI_F h110) rfl (by decide) (hts _ q_X10_settles_1) (fun _ h9 => h9) dX10_settles_110 ?_
    refine lv_icmp_ge (tgt := 148) hx hb dX10_settles_113 (by decide) (fun c113 => ?_) (fun c113 => ?_)
    · replace h := o_t c113 h
      refine lv_goto (tgt := 2) hx hb dX10_settles_148 (by decide) ?_
      exact hk2 _ _ _ _ h _ _ _ hM hS (lv_sub hl [0, 1, 2] rfl)
    replace h := o_f c113 h
    refine lv_iload_n hx hb dX10_settles_116 rfl (lv_at hl 2 rfl) ?_
    refine lv_aload_n hx hb dX10_settles_117 rfl (lv_at hl 0 rfl) ?_
    refine lv_iload_n hx hb dX10_settles_118 rfl (lv_at hl 1 rfl) ?_
    refine lv_iload_n hx hb dX10_settles_119 rfl (lv_at hl 3 rfl) ?_
    replace h := o_b h; obtain ⟨_, k120, h⟩ := h
    replace h := o_b h; obtain ⟨q120, h120, h⟩ := h
    refine m_call (va_runV (As := [.int v1, .int v3]) (rest := [.int v2]) ⟨hx, hb, hml, hown, hts⟩ (c_X10_has l D b0 sz h120) (cwV 2 hts gX10_settles_X10_has rfl rfl rfl (by decide +kernel) ⟨Nat.le_of_ble_eq_true rfl, Nat.le_of_ble_eq_true rfl⟩) ⟨PW.blind, m_recv (ci := 10) rfl hK hM k120, (fun U hU hW => ⟨rfl, PW.call hK hM hS hU hW⟩)⟩ rfl rfl hl.1 rfl (lv_room (Nat.le_of_ble_eq_true rfl)) dX10_settles_120 ⟨(Nat.le_refl _), (Nat.le_refl _)⟩) hS (fun H locs hM hS => ?_)
    refine lv_if_eq (tgt := 139) hx hb dX10_settles_123 (by decide) (fun c123 => ?_) (fun c123 => ?_)
    · replace h := o_t c123 h
      exact w_X10_settles_139 C0 hk2 ih _ _ _ _ _ h _ _ _ hM hS (lv_sub hl [0, 1, 3] rfl)
    replace h := o_f c123 h
    refine lv_aload_n hx hb dX10_settles_126 rfl (lv_at hl 0 rfl) ?_
    refine lv_iload_n hx hb dX10_settles_127 rfl (lv_at hl 1 rfl) ?_
    refine lv_iload_n hx hb dX10_settles_128 rfl (lv_at hl 3 rfl) ?_
    replace h := o_b h; obtain ⟨_, k129, h⟩ := h
    replace h := o_b h; obtain ⟨q129, h129, h⟩ := h
    refine m_call (va_runV (As := [.int v1, .int v3]) (rest := [.int v2]) ⟨hx, hb, hml, hown, hts⟩ (c_X10_loosens l D b0 sz h129) (cwV 2 hts gX10_settles_X10_loosens rfl rfl rfl (by decide +kernel) ⟨Nat.le_of_ble_eq_true rfl, Nat.le_of_ble_eq_true rfl⟩) ⟨PW.blind, m_recv (ci := 10) rfl hK hM k129, (fun U hU hW => ⟨rfl, PW.call hK hM hS hU hW⟩)⟩ rfl rfl hl.1 rfl (lv_room (Nat.le_of_ble_eq_true rfl)) dX10_settles_129 ⟨(Nat.le_refl _), (Nat.le_refl _)⟩) hS (fun H locs hM hS => ?_)
    refine lv_if_eq (tgt := 139) hx hb dX10_settles_132 (by decide) (fun c132 => ?_) (fun c132 => ?_)
    · replace h := o_t c132 h
      exact w_X10_settles_139 C0 hk2 ih _ _ _ _ _ h _ _ _ hM hS (lv_sub hl [0, 1, 3] rfl)
    replace h := o_f c132 h
    refine lv_iconst (v := (1 : Int32)) hx hb dX10_settles_135 (by decide) ?_
    refine lv_goto (tgt := 140) hx hb dX10_settles_136 (by decide) ?_
    exact w_X10_settles_140 C0 hk2 ih _ _ _ _ _ _ h _ _ _ hM hS (lv_sub hl [0, 1, 3] rfl)
set_option maxHeartbeats 4000000 in
set_option maxRecDepth 100000 in
theorem w_X10_settles_14 (C0 : CX cX10_settles 4 (some .int) wsX10_settles RX10 p s m args meth c D b0) {k2 : Nat → Int32 → Int32 → mmF → Option (Int32 × mmF)} {res : Int32 × mmF} (hk2 : ∀ (v0 : Nat) (v1 : Int32) (v2 : Int32) (f : mmF), k2 v0 v1 v2 f = some res → ∀ (H : Heap) (locs : List Loc) (ls : Array Slot), MM vwCl D b0 f sz s H → mS b0 s H locs → lv_has ls 4 [(0, .ref v0), (1, .int v1), (2, .int v2)] → W p l e ({ frames := 7, cells := 0, slots := 0, locals := 170 } : Room) s m args below meth c H locs 0 0 (MQ below (QW D b0 (some (.int res.1)) res.2 sz) args s 0 0 (fun q => b0 ≤ q)) (F0 m 2 ls [])) : ∀ (n : Nat), ∀ (v0 : Nat) (v1 : Int32) (v2 : Int32) (f : mmF), f_X10_settles_14 k2 n v0 v1 v2 f = some res → ∀ (H : Heap) (locs : List Loc) (ls : Array Slot), MM vwCl D b0 f sz s H → mS b0 s H locs → lv_has ls 4 [(0, .ref v0), (1, .int v1), (2, .int v2)] → W p l e ({ frames := 7, cells := 0, slots := 0, locals := 170 } : Room) s m args below meth c H locs 0 0 (MQ below (QW D b0 (some (.int res.1)) res.2 sz) args s 0 0 (fun q => b0 ≤ q)) (F0 m 14 ls []) := by
  obtain ⟨hx, hb, hr, hml, hown, hts, hlocks, hK⟩ := id C0
  intro n
  induction n with
  | zero =>
    intro v0 v1 v2 f h
    have h : (none : Option (Int32 × mmF)) = some res := h
    cases h
  | succ n ih =>
    intro v0 v1 v2 f h H locs ls hM hS hl
    rw [f_X10_settles_14] at h
    refine lv_aload_n hx hb dX10_settles_14 rfl (lv_at hl 0 rfl) ?_
    replace h := o_b h; obtain ⟨x15, h15, h⟩ := h
    refine m_get (C := RX10) (T := TX10) (N := 25) (ci := 10) hx hb hts qi_X10_settles_X10 hown hK.1 hM 15 (ldR_F h15) rfl (by decide) (hts _ q_X10_settles_2) (fun _ h9 => h9) dX10_settles_15 ?_
    refine lv_aload_n hx hb dX10_settles_18 rfl (lv_at hl 0 rfl) ?_
    replace h := o_b h; obtain ⟨x19, h19, h⟩ := h
    refine m_get (C := RX10) (T := TX10) (N := 25) (ci := 10) hx hb hts qi_X10_settles_X10 hown hK.1 hM 21 (ldR_F h19) rfl (by decide) (hts _ q_X10_settles_3) (fun _ h9 => h9) dX10_settles_19 ?_
    refine lv_iload_n hx hb dX10_settles_22 rfl (lv_at hl 1 rfl) ?_
    replace h := o_b h; obtain ⟨x23, h23, h⟩ := h
    refine m_iald hx hb hK.1 hM hS rfl h23 dX10_settles_23 ?_
    replace h := o_b h; obtain ⟨x24, h24, h⟩ := h
    refine m_iald hx hb hK.1 hM hS rfl h24 dX10_settles_24 ?_
    refine lv_bipush (v := (9 : Int32)) hx hb dX10_settles_25 (by decide) ?_
    refine lv_icmp_ne (tgt := 72) hx hb dX10_settles_27 (by decide) (fun c27 => ?_) (fun c27 => ?_)
    · replace h := o_f c27 h
      refine lv_aload_n hx hb dX10_settles_72 rfl (lv_at hl 0 rfl) ?_
      replace h := o_b h; obtain ⟨x73, h73, h⟩ := h
      refine m_get (C := RX10) (T := TX10) (N := 25) (ci := 10) hx hb hts qi_X10_settles_X10 hown hK.1 hM 21 (ldR_F h73) rfl (by decide) (hts _ q_X10_settles_3) (fun _ h9 => h9) dX10_settles_73 ?_
      refine lv_iload_n hx hb dX10_settles_76 rfl (lv_at hl 1 rfl) ?_
      replace h := o_b h; obtain ⟨x77, h77, h⟩ := h
      refine m_iald hx hb hK.1 hM hS rfl h77 dX10_settles_77 ?_
      refine lv_if_eq (tgt := 104) hx hb dX10_settles_78 (by decide) (fun c78 => ?_) (fun c78 => ?_)
      · replace h := o_t c78 h
        refine lv_iconst (v := (1 : Int32)) hx hb dX10_settles_104 (by decide) ?_
        replace h := Option.some.inj h; subst h
        exact W.iret hx hb hr (fun t ht hW => ⟨rfl, by rw [ht]; exact hM.moved hW.alike, hS.F ht⟩) hS.2.2 dX10_settles_105
      replace h := o_f c78 h
      refine lv_aload_n hx hb dX10_settles_81 rfl (lv_at hl 0 rfl) ?_
      refine lv_iload_n hx hb dX10_settles_82 rfl (lv_at hl 1 rfl) ?_
      refine lv_iconst (v := (1 : Int32)) hx hb dX10_settles_83 (by decide) ?_
      replace h := o_b h; obtain ⟨_, k84, h⟩ := h
      replace h := o_b h; obtain ⟨q84, h84, h⟩ := h
      refine m_call (va_runV (As := [.int v1, .int (1 : Int32)]) (rest := []) ⟨hx, hb, hml, hown, hts⟩ (c_X10_has l D b0 sz h84) (cwV 2 hts gX10_settles_X10_has rfl rfl rfl (by decide +kernel) ⟨Nat.le_of_ble_eq_true rfl, Nat.le_of_ble_eq_true rfl⟩) ⟨PW.blind, m_recv (ci := 10) rfl hK hM k84, (fun U hU hW => ⟨rfl, PW.call hK hM hS hU hW⟩)⟩ rfl rfl hl.1 rfl (lv_room (Nat.le_of_ble_eq_true rfl)) dX10_settles_84 ⟨(Nat.le_refl _), (Nat.le_refl _)⟩) hS (fun H locs hM hS => ?_)
      refine lv_if_ne (tgt := 104) hx hb dX10_settles_87 (by decide) (fun c87 => ?_) (fun c87 => ?_)
      · replace h := o_f c87 h
        refine lv_iconst (v := (1 : Int32)) hx hb dX10_settles_104 (by decide) ?_
        replace h := Option.some.inj h; subst h
        exact W.iret hx hb hr (fun t ht hW => ⟨rfl, by rw [ht]; exact hM.moved hW.alike, hS.F ht⟩) hS.2.2 dX10_settles_105
      replace h := o_t c87 h
      refine lv_aload_n hx hb dX10_settles_90 rfl (lv_at hl 0 rfl) ?_
      refine lv_iload_n hx hb dX10_settles_91 rfl (lv_at hl 1 rfl) ?_
      refine lv_aload_n hx hb dX10_settles_92 rfl (lv_at hl 0 rfl) ?_
      replace h := o_b h; obtain ⟨x93, h93, h⟩ := h
      refine m_get (C := RX10) (T := TX10) (N := 25) (ci := 10) hx hb hts qi_X10_settles_X10 hown hK.1 hM 21 (ldR_F h93) rfl (by decide) (hts _ q_X10_settles_3) (fun _ h9 => h9) dX10_settles_93 ?_
      refine lv_iload_n hx hb dX10_settles_96 rfl (lv_at hl 1 rfl) ?_
      replace h := o_b h; obtain ⟨x97, h97, h⟩ := h
      refine m_iald hx hb hK.1 hM hS rfl h97 dX10_settles_97 ?_
      replace h := o_b h; obtain ⟨_, k98, h⟩ := h
      replace h := o_b h; obtain ⟨q98, h98, h⟩ := h
      refine m_call (va_runV (As := [.int v1, .int x97]) (rest := []) ⟨hx, hb, hml, hown, hts⟩ (c_X10_has l D b0 sz h98) (cwV 2 hts gX10_settles_X10_has rfl rfl rfl (by decide +kernel) ⟨Nat.le_of_ble_eq_true rfl, Nat.le_of_ble_eq_true rfl⟩) ⟨PW.blind, m_recv (ci := 10) rfl hK hM k98, (fun U hU hW => ⟨rfl, PW.call hK hM hS hU hW⟩)⟩ rfl rfl hl.1 rfl (lv_room (Nat.le_of_ble_eq_true rfl)) dX10_settles_98 ⟨(Nat.le_refl _), (Nat.le_refl _)⟩) hS (fun H locs hM hS => ?_)
      refine lv_if_eq (tgt := 106) hx hb dX10_settles_101 (by decide) (fun c101 => ?_) (fun c101 => ?_)
      · replace h := o_t c101 h
        refine lv_iconst (v := (2 : Int32)) hx hb dX10_settles_106 (by decide) ?_
        refine lv_istore_n (lv' := [(3, .int (2 : Int32)), (0, .ref v0), (1, .int v1), (2, .int v2)]) hx hb dX10_settles_107 rfl hl (by decide) rfl (fun ls hl => ?_)
        exact w_X10_settles_108 C0 hk2 FU _ _ _ _ _ h _ _ _ hM hS (lv_sub hl [1, 2, 3, 0] rfl)
      replace h := o_f c101 h
      refine lv_iconst (v := (1 : Int32)) hx hb dX10_settles_104 (by decide) ?_
      replace h := Option.some.inj h; subst h
      exact W.iret hx hb hr (fun t ht hW => ⟨rfl, by rw [ht]; exact hM.moved hW.alike, hS.F ht⟩) hS.2.2 dX10_settles_105
    replace h := o_t c27 h
    refine lv_aload_n hx hb dX10_settles_30 rfl (lv_at hl 0 rfl) ?_
    refine lv_iload_n hx hb dX10_settles_31 rfl (lv_at hl 1 rfl) ?_
    refine lv_aload_n hx hb dX10_settles_32 rfl (lv_at hl 0 rfl) ?_
    replace h := o_b h; obtain ⟨x33, h33, h⟩ := h
    refine m_get (C := RX10) (T := TX10) (N := 25) (ci := 10) hx hb hts qi_X10_settles_X10 hown hK.1 hM 16 (ldR_F h33) rfl (by decide) (hts _ q_X10_settles_4) (fun _ h9 => h9) dX10_settles_33 ?_
    refine lv_aload_n hx hb dX10_settles_36 rfl (lv_at hl 0 rfl) ?_
    replace h := o_b h; obtain ⟨x37, h37, h⟩ := h
    refine m_get (C := RX10) (T := TX10) (N := 25) (ci := 10) hx hb hts qi_X10_settles_X10 hown hK.1 hM 21 (ldR_F h37) rfl (by decide) (hts _ q_X10_settles_3) (fun _ h9 => h9) dX10_settles_37 ?_
    refine lv_iload_n hx hb dX10_settles_40 rfl (lv_at hl 1 rfl) ?_
    replace h := o_b h; obtain ⟨x41, h41, h⟩ := h
    refine m_iald hx hb hK.1 hM hS rfl h41 dX10_settles_41 ?_
    replace h := o_b h; obtain ⟨x42, h42, h⟩ := h
    refine m_iald hx hb hK.1 hM hS rfl h42 dX10_settles_42 ?_
    replace h := o_b h; obtain ⟨_, k43, h⟩ := h
    replace h := o_b h; obtain ⟨q43, h43, h⟩ := h
    refine m_call (va_runV (As := [.int v1, .int x42]) (rest := []) ⟨hx, hb, hml, hown, hts⟩ (c_X10_gets l D b0 sz h43) (cwV 2 hts gX10_settles_X10_gets rfl rfl rfl (by decide +kernel) ⟨Nat.le_of_ble_eq_true rfl, Nat.le_of_ble_eq_true rfl⟩) ⟨PW.blind, m_recv (ci := 10) rfl hK hM k43, (fun U hU hW => ⟨rfl, PW.call hK hM hS hU hW⟩)⟩ rfl rfl hl.1 rfl (lv_room (Nat.le_of_ble_eq_true rfl)) dX10_settles_43 ⟨(Nat.le_refl _), (Nat.le_refl _)⟩) hS (fun H locs hM hS => ?_)
    refine lv_aload_n hx hb dX10_settles_46 rfl (lv_at hl 0 rfl) ?_
    replace h := o_b h; obtain ⟨x47, h47, h⟩ := h
    refine m_get (C := RX10) (T := TX10) (N := 25) (ci := 10) hx hb hts qi_X10_settles_X10 hown hK.1 hM 21 (ldR_F h47) rfl (by decide) (hts _ q_X10_settles_3) (fun _ h9 => h9) dX10_settles_47 ?_
    refine lv_iload_n hx hb dX10_settles_50 rfl (lv_at hl 1 rfl) ?_
    refine lv_aload_n hx hb dX10_settles_51 rfl (lv_at hl 0 rfl) ?_
    replace h := o_b h; obtain ⟨x52, h52, h⟩ := h
    refine m_get (C := RX10) (T := TX10) (N := 25) (ci := 10) hx hb hts qi_X10_settles_X10 hown hK.1 hM 17 (ldR_F h52) rfl (by decide) (hts _ q_X10_settles_5) (fun _ h9 => h9) dX10_settles_52 ?_
    refine lv_aload_n hx hb dX10_settles_55 rfl (lv_at hl 0 rfl) ?_
    replace h := o_b h; obtain ⟨x56, h56, h⟩ := h
    refine m_get (C := RX10) (T := TX10) (N := 25) (ci := 10) hx hb hts qi_X10_settles_X10 hown hK.1 hM 21 (ldR_F h56) rfl (by decide) (hts _ q_X10_settles_3) (fun _ h9 => h9) dX10_settles_56 ?_
    refine lv_iload_n hx hb dX10_settles_59 rfl (lv_at hl 1 rfl) ?_
    replace h := o_b h; obtain ⟨x60, h60, h⟩ := h
    refine m_iald hx hb hK.1 hM hS rfl h60 dX10_settles_60 ?_
    replace h := o_b h; obtain ⟨x61, h61, h⟩ := h
    refine m_iald hx hb hK.1 hM hS rfl h61 dX10_settles_61 ?_
    replace h := o_b h; obtain ⟨f62, h62, h⟩ := h
    refine m_iast hx hb hK.1 hM hS rfl h62 dX10_settles_62 (fun H locs hM hS => ?_)
    refine lv_aload_n hx hb dX10_settles_63 rfl (lv_at hl 0 rfl) ?_
    refine lv_iload_n hx hb dX10_settles_64 rfl (lv_at hl 1 rfl) ?_
    refine lv_iconst (v := (0 : Int32)) hx hb dX10_settles_65 (by decide) ?_
    replace h := o_b h; obtain ⟨_, k66, h⟩ := h
    replace h := o_b h; obtain ⟨q66, h66, h⟩ := h
    refine m_call (va_runV (As := [.int v1, .int (0 : Int32)]) (rest := []) ⟨hx, hb, hml, hown, hts⟩ (c_X10_loses l D b0 sz h66) (cwV 2 hts gX10_settles_X10_loses rfl rfl rfl (by decide +kernel) ⟨Nat.le_of_ble_eq_true rfl, Nat.le_of_ble_eq_true rfl⟩) ⟨PW.blind, m_recv (ci := 10) rfl hK hM k66, (fun U hU hW => ⟨rfl, PW.call hK hM hS hU hW⟩)⟩ rfl rfl hl.1 rfl (lv_room (Nat.le_of_ble_eq_true rfl)) dX10_settles_66 ⟨(Nat.le_refl _), (Nat.le_refl _)⟩) hS (fun H locs hM hS => ?_)
    refine lv_goto (tgt := 14) hx hb dX10_settles_69 (by decide) ?_
    exact ih _ _ _ _ h _ _ _ hM hS (lv_sub hl [0, 1, 2] rfl)
set_option maxHeartbeats 4000000 in
set_option maxRecDepth 100000 in
theorem w_X10_settles_2 (C0 : CX cX10_settles 4 (some .int) wsX10_settles RX10 p s m args meth c D b0) {res : Int32 × mmF} : ∀ (n : Nat), ∀ (v0 : Nat) (v1 : Int32) (v2 : Int32) (f : mmF), f_X10_settles_2 n v0 v1 v2 f = some res → ∀ (H : Heap) (locs : List Loc) (ls : Array Slot), MM vwCl D b0 f sz s H → mS b0 s H locs → lv_has ls 4 [(0, .ref v0), (1, .int v1), (2, .int v2)] → W p l e ({ frames := 7, cells := 0, slots := 0, locals := 170 } : Room) s m args below meth c H locs 0 0 (MQ below (QW D b0 (some (.int res.1)) res.2 sz) args s 0 0 (fun q => b0 ≤ q)) (F0 m 2 ls []) := by
  obtain ⟨hx, hb, hr, hml, hown, hts, hlocks, hK⟩ := id C0
  intro n
  induction n with
  | zero =>
    intro v0 v1 v2 f h
    have h : (none : Option (Int32 × mmF)) = some res := h
    cases h
  | succ n ih =>
    intro v0 v1 v2 f h H locs ls hM hS hl
    rw [f_X10_settles_2] at h
    refine lv_iload_n hx hb dX10_settles_2 rfl (lv_at hl 2 rfl) ?_
    refine lv_if_eq (tgt := 151) hx hb dX10_settles_3 (by decide) (fun c3 => ?_) (fun c3 => ?_)
    · replace h := o_t c3 h
      refine lv_aload_n hx hb dX10_settles_151 rfl (lv_at hl 0 rfl) ?_
      refine lv_iload_n hx hb dX10_settles_152 rfl (lv_at hl 1 rfl) ?_
      replace h := o_b h; obtain ⟨_, k153, h⟩ := h
      replace h := o_b h; obtain ⟨q153, h153, h⟩ := h
      refine m_call (va_runV (As := [.int v1]) (rest := []) ⟨hx, hb, hml, hown, hts⟩ (c_X10_refutes l D b0 sz h153) (cwV 1 hts gX10_settles_X10_refutes rfl rfl rfl (by decide +kernel) ⟨Nat.le_of_ble_eq_true rfl, Nat.le_of_ble_eq_true rfl⟩) ⟨PW.blind, m_recv (ci := 10) rfl hK hM k153, (fun U hU hW => ⟨rfl, PW.call hK hM hS hU hW⟩)⟩ rfl rfl hl.1 rfl (lv_room (Nat.le_of_ble_eq_true rfl)) dX10_settles_153 ⟨(Nat.le_refl _), (Nat.le_refl _)⟩) hS (fun H locs hM hS => ?_)
      refine lv_istore_n (lv' := [(3, .int q153), (0, .ref v0), (1, .int v1), (2, .int v2)]) hx hb dX10_settles_156 rfl hl (by decide) rfl (fun ls hl => ?_)
      refine lv_iload_n hx hb dX10_settles_157 rfl (lv_at hl 0 rfl) ?_
      refine lv_iconst (v := (2 : Int32)) hx hb dX10_settles_158 (by decide) ?_
      refine lv_icmp_ne (tgt := 166) hx hb dX10_settles_159 (by decide) (fun c159 => ?_) (fun c159 => ?_)
      · replace h := o_f c159 h
        refine lv_iload_n hx hb dX10_settles_166 rfl (lv_at hl 0 rfl) ?_
        refine lv_iconst (v := (1 : Int32)) hx hb dX10_settles_167 (by decide) ?_
        refine lv_icmp_ne (tgt := 175) hx hb dX10_settles_168 (by decide) (fun c168 => ?_) (fun c168 => ?_)
        · replace h := o_f c168 h
          refine lv_iconst (v := (2 : Int32)) hx hb dX10_settles_175 (by decide) ?_
          replace h := Option.some.inj h; subst h
          exact W.iret hx hb hr (fun t ht hW => ⟨rfl, by rw [ht]; exact hM.moved hW.alike, hS.F ht⟩) hS.2.2 dX10_settles_176
        replace h := o_t c168 h
        refine lv_iconst (v := (0 : Int32)) hx hb dX10_settles_171 (by decide) ?_
        refine lv_goto (tgt := 176) hx hb dX10_settles_172 (by decide) ?_
        replace h := Option.some.inj h; subst h
        exact W.iret hx hb hr (fun t ht hW => ⟨rfl, by rw [ht]; exact hM.moved hW.alike, hS.F ht⟩) hS.2.2 dX10_settles_176
      replace h := o_t c159 h
      refine lv_iconst (v := (1 : Int32)) hx hb dX10_settles_162 (by decide) ?_
      refine lv_goto (tgt := 176) hx hb dX10_settles_163 (by decide) ?_
      replace h := Option.some.inj h; subst h
      exact W.iret hx hb hr (fun t ht hW => ⟨rfl, by rw [ht]; exact hM.moved hW.alike, hS.F ht⟩) hS.2.2 dX10_settles_176
    replace h := o_f c3 h
    refine lv_iconst (v := (0 : Int32)) hx hb dX10_settles_6 (by decide) ?_
    refine lv_istore_n (lv' := [(2, .int (0 : Int32)), (0, .ref v0), (1, .int v1)]) hx hb dX10_settles_7 rfl hl (by decide) rfl (fun ls hl => ?_)
    refine lv_aload_n hx hb dX10_settles_8 rfl (lv_at hl 1 rfl) ?_
    refine lv_iload_n hx hb dX10_settles_9 rfl (lv_at hl 2 rfl) ?_
    refine lv_iconst (v := (0 : Int32)) hx hb dX10_settles_10 (by decide) ?_
    replace h := o_b h; obtain ⟨_, k11, h⟩ := h
    replace h := o_b h; obtain ⟨q11, h11, h⟩ := h
    refine m_call (va_runV (As := [.int v1, .int (0 : Int32)]) (rest := []) ⟨hx, hb, hml, hown, hts⟩ (c_X10_loses l D b0 sz h11) (cwV 2 hts gX10_settles_X10_loses rfl rfl rfl (by decide +kernel) ⟨Nat.le_of_ble_eq_true rfl, Nat.le_of_ble_eq_true rfl⟩) ⟨PW.blind, m_recv (ci := 10) rfl hK hM k11, (fun U hU hW => ⟨rfl, PW.call hK hM hS hU hW⟩)⟩ rfl rfl hl.1 rfl (lv_room (Nat.le_of_ble_eq_true rfl)) dX10_settles_11 ⟨(Nat.le_refl _), (Nat.le_refl _)⟩) hS (fun H locs hM hS => ?_)
    exact w_X10_settles_14 C0 ih FU _ _ _ _ h _ _ _ hM hS (lv_sub hl [1, 2, 0] rfl)
set_option maxHeartbeats 4000000 in
set_option maxRecDepth 100000 in
theorem w_X10_settles (C0 : CX cX10_settles 4 (some .int) wsX10_settles RX10 p s m args meth c D b0) {v0 : Nat} {v1 : Int32} {res : Int32 × mmF} (h : f_X10_settles v0 v1 f = some res) : ∀ (H : Heap) (locs : List Loc) (ls : Array Slot), MM vwCl D b0 f sz s H → mS b0 s H locs → lv_has ls 4 [(0, .ref v0), (1, .int v1)] → W p l e ({ frames := 7, cells := 0, slots := 0, locals := 170 } : Room) s m args below meth c H locs 0 0 (MQ below (QW D b0 (some (.int res.1)) res.2 sz) args s 0 0 (fun q => b0 ≤ q)) (F0 m 0 ls []) := by
  obtain ⟨hx, hb, hr, hml, hown, hts, hlocks, hK⟩ := id C0
  intro H locs ls hM hS hl
  unfold f_X10_settles at h
  refine lv_iconst (v := (1 : Int32)) hx hb dX10_settles_0 (by decide) ?_
  refine lv_istore_n (lv' := [(2, .int (1 : Int32)), (0, .ref v0), (1, .int v1)]) hx hb dX10_settles_1 rfl hl (by decide) rfl (fun ls hl => ?_)
  exact w_X10_settles_2 C0 FU _ _ _ _ h _ _ _ hM hS (lv_sub hl [1, 2, 0] rfl)
set_option maxHeartbeats 4000000 in
set_option maxRecDepth 100000 in
theorem c_X10_settles (l : Launch) (D : mmD) (b0 sz : Nat) {v0 : Nat} {v1 : Int32} {f : mmF} {res : Int32 × mmF} (h : f_X10_settles v0 v1 f = some res) : Met l yX10_settles wsX10_settles ({ frames := 7, cells := 0, slots := 0, locals := 170 } : Room) (va_Pc [.ref v0, .int v1] (PW D b0 f sz)) (QW D b0 (some (.int res.1)) res.2 sz) 0 0 (fun q => b0 ≤ q) := by
  refine Met.ofW (cc := cX10_settles) (maxL := 4) (ret := (some .int)) (by decide) rfl ?_
  intro p e s m args below meth c s₁ B hml hv
  obtain ⟨rfl, hM, hK⟩ := hv
  have hl := lv_entry ([.ref v0, .int v1]) (n := 4) (Nat.le_of_ble_eq_true rfl)
  rw [lg_entry_eq]
  generalize (lg_sl ([.ref v0, .int v1]) ++ List.replicate (4 - (lg_sl ([.ref v0, .int v1])).length) Slot.unset).toArray = ls at hl ⊢
  have hl : lv_has ls 4 [(0, .ref v0), (1, .int v1)] := hl
  exact w_X10_settles ⟨B.exec, B.bytes, B.returns, hml, findClass_of_methodNamed B.named, atoms_spec (ws := wsX10_settles) B.pre, B.notSynchronized, hK⟩ h s.heap [] ls hM va_S.rf hl
end S_X10_settles
/-! X10_next -/
set_option maxRecDepth 20000 in
theorem qi_X10_next_X10 : ∀ w ∈ u_ws RX10 TX10 25, w ∈ wsX10_next := by decide +kernel
set_option maxRecDepth 20000 in
theorem q_X10_next_1 : Cond.fieldLink RX10 172 "StageTruthsModel" "parts" "I" ∈ wsX10_next := by decide +kernel
set_option maxRecDepth 20000 in
theorem q_X10_next_2 : Cond.fieldLink RX10 38 "StageTruthsModel" "op" "[I" ∈ wsX10_next := by decide +kernel
set_option maxRecDepth 20000 in
theorem q_X10_next_3 : Cond.fieldLink RX10 41 "StageTruthsModel" "left" "[I" ∈ wsX10_next := by decide +kernel
noncomputable def f_X10_next_59 (k3 : Nat → Int32 → Int32 → Int32 → Option (Int32)) (f : mmF) (v0 : Nat) (v1 : Int32) (v3 : Int32) (v4 : Int32) : Option (Int32) :=
  k3 v0 v1 v3 (v4 + (1 : Int32))
noncomputable def f_X10_next_3  (f : mmF) : Nat → Nat → Int32 → Int32 → Int32 → Option (Int32)
  | 0, _, _, _, _ => none
  | n + 1, v0, v1, v3, v4 =>
    (ldI f v0 10 19).bind fun x6 =>
    if x6 ≤ v4 then
    (some ((-5 : Int32)))
    else
    (ldR f v0 10 15).bind fun x13 =>
    (ldA 0 f x13 v4).bind fun x18 =>
    if x18 = v3 then
    ((ckO f v0 10).bind fun _ =>
    (f_X10_has v0 v1 v4 f).bind fun q27 =>
    if q27 = 0 then
    (f_X10_next_59 (fun a0 a1 a2 a3 => f_X10_next_3 f n a0 a1 a2 a3) f v0 v1 v3 v4)
    else
    if v3 = (9 : Int32) then
    ((ldR f v0 10 15).bind fun x40 =>
    (ldR f v0 10 16).bind fun x44 =>
    (ldA 0 f x44 v4).bind fun x49 =>
    (ldA 0 f x40 x49).bind fun x50 =>
    if x50 = (9 : Int32) then
    (some (v4))
    else
    f_X10_next_59 (fun a0 a1 a2 a3 => f_X10_next_3 f n a0 a1 a2 a3) f v0 v1 v3 v4)
    else
    some (v4))
    else
    f_X10_next_59 (fun a0 a1 a2 a3 => f_X10_next_3 f n a0 a1 a2 a3) f v0 v1 v3 v4
noncomputable def f_X10_next (v0 : Nat) (v1 : Int32) (v2 : Int32) (v3 : Int32) (f : mmF) : Option (Int32) :=
  f_X10_next_3 f FU v0 v1 v3 v2
section S_X10_next
variable {p : Program} {l : Launch} {e : Env} {s : State} {m : MethodId} {args : Array Value} {below : List Frame} {meth : Method} {c : Code} {D : mmD} {b0 sz : Nat} {f : mmF}
set_option maxHeartbeats 4000000 in
set_option maxRecDepth 100000 in
theorem w_X10_next_59 (C0 : CX cX10_next 5 (some .int) wsX10_next RX10 p s m args meth c D b0) {k3 : Nat → Int32 → Int32 → Int32 → Option (Int32)} {res : Int32} (hk3 : ∀ (v0 : Nat) (v1 : Int32) (v3 : Int32) (v4 : Int32), k3 v0 v1 v3 v4 = some res → ∀ (H : Heap) (locs : List Loc) (ls : Array Slot), MM vwCl D b0 f sz s H → mS b0 s H locs → lv_has ls 5 [(0, .ref v0), (1, .int v1), (3, .int v3), (4, .int v4)] → W p l e ({ frames := 1, cells := 0, slots := 0, locals := 22 } : Room) s m args below meth c H locs 0 0 (MQ below (QW D b0 (some (.int res)) f sz) args s 0 0 (fun q => b0 ≤ q)) (F0 m 3 ls [])) : ∀ (v0 : Nat) (v1 : Int32) (v3 : Int32) (v4 : Int32), f_X10_next_59 k3 f v0 v1 v3 v4 = some res → ∀ (H : Heap) (locs : List Loc) (ls : Array Slot), MM vwCl D b0 f sz s H → mS b0 s H locs → lv_has ls 5 [(0, .ref v0), (1, .int v1), (3, .int v3), (4, .int v4)] → W p l e ({ frames := 1, cells := 0, slots := 0, locals := 22 } : Room) s m args below meth c H locs 0 0 (MQ below (QW D b0 (some (.int res)) f sz) args s 0 0 (fun q => b0 ≤ q)) (F0 m 59 ls []) := by
  obtain ⟨hx, hb, hr, hml, hown, hts, hlocks, hK⟩ := id C0
  intro v0 v1 v3 v4 h H locs ls hM hS hl
  unfold f_X10_next_59 at h
  refine lv_iinc (v := (v4 + (1 : Int32))) (lv' := [(4, .int (v4 + (1 : Int32))), (0, .ref v0), (1, .int v1), (3, .int v3)]) hx hb dX10_next_59 hl (k := 3) rfl rfl (by decide) rfl (fun ls hl => ?_)
  refine lv_goto (tgt := 3) hx hb dX10_next_62 (by decide) ?_
  exact hk3 _ _ _ _ h _ _ _ hM hS (lv_sub hl [1, 2, 3, 0] rfl)
set_option maxHeartbeats 4000000 in
set_option maxRecDepth 100000 in
theorem w_X10_next_3 (C0 : CX cX10_next 5 (some .int) wsX10_next RX10 p s m args meth c D b0) {res : Int32} : ∀ (n : Nat), ∀ (v0 : Nat) (v1 : Int32) (v3 : Int32) (v4 : Int32), f_X10_next_3 f n v0 v1 v3 v4 = some res → ∀ (H : Heap) (locs : List Loc) (ls : Array Slot), MM vwCl D b0 f sz s H → mS b0 s H locs → lv_has ls 5 [(0, .ref v0), (1, .int v1), (3, .int v3), (4, .int v4)] → W p l e ({ frames := 1, cells := 0, slots := 0, locals := 22 } : Room) s m args below meth c H locs 0 0 (MQ below (QW D b0 (some (.int res)) f sz) args s 0 0 (fun q => b0 ≤ q)) (F0 m 3 ls []) := by
  obtain ⟨hx, hb, hr, hml, hown, hts, hlocks, hK⟩ := id C0
  intro n
  induction n with
  | zero =>
    intro v0 v1 v3 v4 h
    have h : (none : Option (Int32)) = some res := h
    cases h
  | succ n ih =>
    intro v0 v1 v3 v4 h H locs ls hM hS hl
    rw [f_X10_next_3] at h
    refine lv_iload hx hb dX10_next_3 (lv_at hl 3 rfl) ?_
    refine lv_aload_n hx hb dX10_next_5 rfl (lv_at hl 0 rfl) ?_
    replace h := o_b h; obtain ⟨x6, h6, h⟩ := h
    refine m_get (C := RX10) (T := TX10) (N := 25) (ci := 10) hx hb hts qi_X10_next_X10 hown hK.1 hM 19 (ldI_F h6) rfl (by decide) (hts _ q_X10_next_1) (fun _ h9 => h9) dX10_next_6 ?_
    refine lv_icmp_ge (tgt := 65) hx hb dX10_next_9 (by decide) (fun c9 => ?_) (fun c9 => ?_)
    · replace h := o_t c9 h
      refine lv_bipush (v := (-5 : Int32)) hx hb dX10_next_65 (by decide) ?_
      replace h := Option.some.inj h; subst h
      exact W.iret hx hb hr (fun t ht hW => ⟨rfl, by rw [ht]; exact hM.moved hW.alike, hS.F ht⟩) hS.2.2 dX10_next_67
    replace h := o_f c9 h
    refine lv_aload_n hx hb dX10_next_12 rfl (lv_at hl 0 rfl) ?_
    replace h := o_b h; obtain ⟨x13, h13, h⟩ := h
    refine m_get (C := RX10) (T := TX10) (N := 25) (ci := 10) hx hb hts qi_X10_next_X10 hown hK.1 hM 15 (ldR_F h13) rfl (by decide) (hts _ q_X10_next_2) (fun _ h9 => h9) dX10_next_13 ?_
    refine lv_iload hx hb dX10_next_16 (lv_at hl 3 rfl) ?_
    replace h := o_b h; obtain ⟨x18, h18, h⟩ := h
    refine m_iald hx hb hK.1 hM hS rfl h18 dX10_next_18 ?_
    refine lv_iload_n hx hb dX10_next_19 rfl (lv_at hl 2 rfl) ?_
    refine lv_icmp_ne (tgt := 59) hx hb dX10_next_20 (by decide) (fun c20 => ?_) (fun c20 => ?_)
    · replace h := o_f c20 h
      exact w_X10_next_59 C0 ih _ _ _ _ h _ _ _ hM hS (lv_sub hl [0, 1, 2, 3] rfl)
    replace h := o_t c20 h
    refine lv_aload_n hx hb dX10_next_23 rfl (lv_at hl 0 rfl) ?_
    refine lv_iload_n hx hb dX10_next_24 rfl (lv_at hl 1 rfl) ?_
    refine lv_iload hx hb dX10_next_25 (lv_at hl 3 rfl) ?_
    replace h := o_b h; obtain ⟨_, k27, h⟩ := h
    replace h := o_b h; obtain ⟨q27, h27, h⟩ := h
    refine m_call (va_runV (As := [.int v1, .int v4]) (rest := []) ⟨hx, hb, hml, hown, hts⟩ (c_X10_has l D b0 sz h27) (cwV 2 hts gX10_next_X10_has rfl rfl rfl (by decide +kernel) ⟨Nat.le_of_ble_eq_true rfl, Nat.le_of_ble_eq_true rfl⟩) ⟨PW.blind, m_recv (ci := 10) rfl hK hM k27, (fun U hU hW => ⟨rfl, PW.call hK hM hS hU hW⟩)⟩ rfl rfl hl.1 rfl (lv_room (Nat.le_of_ble_eq_true rfl)) dX10_next_27 ⟨(Nat.le_refl _), (Nat.le_refl _)⟩) hS (fun H locs hM hS => ?_)
    refine lv_if_eq (tgt := 59) hx hb dX10_next_30 (by decide) (fun c30 => ?_) (fun c30 => ?_)
    · replace h := o_t c30 h
      exact w_X10_next_59 C0 ih _ _ _ _ h _ _ _ hM hS (lv_sub hl [0, 1, 2, 3] rfl)
    replace h := o_f c30 h
    refine lv_iload_n hx hb dX10_next_33 rfl (lv_at hl 2 rfl) ?_
    refine lv_bipush (v := (9 : Int32)) hx hb dX10_next_34 (by decide) ?_
    refine lv_icmp_ne (tgt := 56) hx hb dX10_next_36 (by decide) (fun c36 => ?_) (fun c36 => ?_)
    · replace h := o_f c36 h
      refine lv_iload hx hb dX10_next_56 (lv_at hl 3 rfl) ?_
      replace h := Option.some.inj h; subst h
      exact W.iret hx hb hr (fun t ht hW => ⟨rfl, by rw [ht]; exact hM.moved hW.alike, hS.F ht⟩) hS.2.2 dX10_next_58
    replace h := o_t c36 h
    refine lv_aload_n hx hb dX10_next_39 rfl (lv_at hl 0 rfl) ?_
    replace h := o_b h; obtain ⟨x40, h40, h⟩ := h
    refine m_get (C := RX10) (T := TX10) (N := 25) (ci := 10) hx hb hts qi_X10_next_X10 hown hK.1 hM 15 (ldR_F h40) rfl (by decide) (hts _ q_X10_next_2) (fun _ h9 => h9) dX10_next_40 ?_
    refine lv_aload_n hx hb dX10_next_43 rfl (lv_at hl 0 rfl) ?_
    replace h := o_b h; obtain ⟨x44, h44, h⟩ := h
    refine m_get (C := RX10) (T := TX10) (N := 25) (ci := 10) hx hb hts qi_X10_next_X10 hown hK.1 hM 16 (ldR_F h44) rfl (by decide) (hts _ q_X10_next_3) (fun _ h9 => h9) dX10_next_44 ?_
    refine lv_iload hx hb dX10_next_47 (lv_at hl 3 rfl) ?_
    replace h := o_b h; obtain ⟨x49, h49, h⟩ := h
    refine m_iald hx hb hK.1 hM hS rfl h49 dX10_next_49 ?_
    replace h := o_b h; obtain ⟨x50, h50, h⟩ := h
    refine m_iald hx hb hK.1 hM hS rfl h50 dX10_next_50 ?_
    refine lv_bipush (v := (9 : Int32)) hx hb dX10_next_51 (by decide) ?_
    refine lv_icmp_ne (tgt := 59) hx hb dX10_next_53 (by decide) (fun c53 => ?_) (fun c53 => ?_)
    · replace h := o_f c53 h
      exact w_X10_next_59 C0 ih _ _ _ _ h _ _ _ hM hS (lv_sub hl [0, 1, 2, 3] rfl)
    replace h := o_t c53 h
    refine lv_iload hx hb dX10_next_56 (lv_at hl 3 rfl) ?_
    replace h := Option.some.inj h; subst h
    exact W.iret hx hb hr (fun t ht hW => ⟨rfl, by rw [ht]; exact hM.moved hW.alike, hS.F ht⟩) hS.2.2 dX10_next_58
set_option maxHeartbeats 4000000 in
set_option maxRecDepth 100000 in
theorem w_X10_next (C0 : CX cX10_next 5 (some .int) wsX10_next RX10 p s m args meth c D b0) {v0 : Nat} {v1 : Int32} {v2 : Int32} {v3 : Int32} {res : Int32} (h : f_X10_next v0 v1 v2 v3 f = some res) : ∀ (H : Heap) (locs : List Loc) (ls : Array Slot), MM vwCl D b0 f sz s H → mS b0 s H locs → lv_has ls 5 [(0, .ref v0), (1, .int v1), (2, .int v2), (3, .int v3)] → W p l e ({ frames := 1, cells := 0, slots := 0, locals := 22 } : Room) s m args below meth c H locs 0 0 (MQ below (QW D b0 (some (.int res)) f sz) args s 0 0 (fun q => b0 ≤ q)) (F0 m 0 ls []) := by
  obtain ⟨hx, hb, hr, hml, hown, hts, hlocks, hK⟩ := id C0
  intro H locs ls hM hS hl
  unfold f_X10_next at h
  refine lv_iload_n hx hb dX10_next_0 rfl (lv_at hl 2 rfl) ?_
  refine lv_istore (lv' := [(4, .int v2), (0, .ref v0), (1, .int v1), (2, .int v2), (3, .int v3)]) hx hb dX10_next_1 hl (by decide) rfl (fun ls hl => ?_)
  exact w_X10_next_3 C0 FU _ _ _ _ h _ _ _ hM hS (lv_sub hl [1, 2, 4, 0] rfl)
set_option maxHeartbeats 4000000 in
set_option maxRecDepth 100000 in
theorem c_X10_next (l : Launch) (D : mmD) (b0 sz : Nat) {v0 : Nat} {v1 : Int32} {v2 : Int32} {v3 : Int32} {f : mmF} {res : Int32} (h : f_X10_next v0 v1 v2 v3 f = some res) : Met l yX10_next wsX10_next ({ frames := 1, cells := 0, slots := 0, locals := 22 } : Room) (va_Pc [.ref v0, .int v1, .int v2, .int v3] (PW D b0 f sz)) (QW D b0 (some (.int res)) f sz) 0 0 (fun q => b0 ≤ q) := by
  refine Met.ofW (cc := cX10_next) (maxL := 5) (ret := (some .int)) (by decide) rfl ?_
  intro p e s m args below meth c s₁ B hml hv
  obtain ⟨rfl, hM, hK⟩ := hv
  have hl := lv_entry ([.ref v0, .int v1, .int v2, .int v3]) (n := 5) (Nat.le_of_ble_eq_true rfl)
  rw [lg_entry_eq]
  generalize (lg_sl ([.ref v0, .int v1, .int v2, .int v3]) ++ List.replicate (5 - (lg_sl ([.ref v0, .int v1, .int v2, .int v3])).length) Slot.unset).toArray = ls at hl ⊢
  have hl : lv_has ls 5 [(0, .ref v0), (1, .int v1), (2, .int v2), (3, .int v3)] := hl
  exact w_X10_next ⟨B.exec, B.bytes, B.returns, hml, findClass_of_methodNamed B.named, atoms_spec (ws := wsX10_next) B.pre, B.notSynchronized, hK⟩ h s.heap [] ls hM va_S.rf hl
end S_X10_next
/-! X10_tries -/
set_option maxRecDepth 20000 in
theorem qi_X10_tries_X10 : ∀ w ∈ u_ws RX10 TX10 25, w ∈ wsX10_tries := by decide +kernel
set_option maxRecDepth 20000 in
theorem q_X10_tries_1 : Cond.fieldLink RX10 60 "StageTruthsModel" "option" "[I" ∈ wsX10_tries := by decide +kernel
set_option maxRecDepth 20000 in
theorem q_X10_tries_2 : Cond.fieldLink RX10 54 "StageTruthsModel" "goal" "[I" ∈ wsX10_tries := by decide +kernel
set_option maxRecDepth 20000 in
theorem q_X10_tries_3 : Cond.fieldLink RX10 57 "StageTruthsModel" "phase" "[I" ∈ wsX10_tries := by decide +kernel
set_option maxRecDepth 20000 in
theorem q_X10_tries_4 : Cond.fieldLink RX10 41 "StageTruthsModel" "left" "[I" ∈ wsX10_tries := by decide +kernel
set_option maxRecDepth 20000 in
theorem q_X10_tries_5 : Cond.fieldLink RX10 44 "StageTruthsModel" "right" "[I" ∈ wsX10_tries := by decide +kernel
noncomputable def f_X10_tries_51   (v0 : Nat) (v1 : Int32) (t0 : Nat) (t1 : Int32) (t2 : Int32) (f : mmF) : Option (Int32 × mmF) :=
  (ckO f t0 10).bind fun _ =>
  (f_X10_leadsOn t0 t1 t2 f).bind fun q51 =>
  (ldR q51 v0 10 23).bind fun x55 =>
  (ldA 0 q51 x55 v1).bind fun x60 =>
  (stA 0 q51 x55 v1 (x60 + (1 : Int32))).bind fun f63 =>
  some ((2 : Int32), f63)
noncomputable def f_X10_tries (v0 : Nat) (v1 : Int32) (f : mmF) : Option (Int32 × mmF) :=
  (ldR f v0 10 21).bind fun x1 =>
  (ldA 0 f x1 v1).bind fun x5 =>
  (ldR f v0 10 23).bind fun x8 =>
  (ldA 0 f x8 v1).bind fun x12 =>
  if 0 ≤ x12 then
  ((ldR f v0 10 23).bind fun x69 =>
  (ldA 0 f x69 v1).bind fun x73 =>
  (ckO f v0 10).bind fun _ =>
  (f_X10_next v0 v1 x73 (9 : Int32) f).bind fun q76 =>
  if q76 = (-5 : Int32) then
  (some ((0 : Int32), f))
  else
  (ldR f v0 10 22).bind fun x89 =>
  (stA 0 f x89 v1 (4 : Int32)).bind fun f94 =>
  (ldR f94 v0 10 23).bind fun x96 =>
  (stA 0 f94 x96 v1 (q76 + (1 : Int32))).bind fun f103 =>
  (ldR f103 v0 10 16).bind fun x105 =>
  (ldA 0 f103 x105 q76).bind fun x109 =>
  (ldR f103 v0 10 17).bind fun x115 =>
  (ldA 0 f103 x115 x109).bind fun x120 =>
  (ckO f103 v0 10).bind fun _ =>
  (f_X10_leadsOn v0 v1 x120 f103).bind fun q121 =>
  (ckO q121 v0 10).bind fun _ =>
  (f_X10_loses v0 (v1 + (1 : Int32)) q76 q121).bind fun q129 =>
  (ldR q129 v0 10 16).bind fun x137 =>
  (ldA 0 q129 x137 x109).bind fun x142 =>
  (ckO q129 v0 10).bind fun _ =>
  (f_X10_gets v0 (v1 + (1 : Int32)) x142 q129).bind fun q143 =>
  (ldR q143 v0 10 17).bind fun x152 =>
  (ldA 0 q143 x152 x109).bind fun x157 =>
  (ldR q143 v0 10 17).bind fun x159 =>
  (ldA 0 q143 x159 q76).bind fun x163 =>
  (ckO q143 v0 10).bind fun _ =>
  (f_X10_implies v0 x157 x163 q143).bind fun q164 =>
  (ckO q164.2 v0 10).bind fun _ =>
  (f_X10_gets v0 (v1 + (1 : Int32)) q164.1 q164.2).bind fun q167 =>
  some ((2 : Int32), q167))
  else
  (ldR f v0 10 22).bind fun x17 =>
  (stA 0 f x17 v1 (3 : Int32)).bind fun f22 =>
  (ldR f22 v0 10 23).bind fun x26 =>
  (ldA 0 f22 x26 v1).bind fun x30 =>
  if x30 = (-2 : Int32) then
  ((ldR f22 v0 10 16).bind fun x37 =>
  (ldA 0 f22 x37 x5).bind fun x41 =>
  f_X10_tries_51 v0 v1 v0 v1 x41 f22)
  else
  (ldR f22 v0 10 17).bind fun x46 =>
  (ldA 0 f22 x46 x5).bind fun x50 =>
  f_X10_tries_51 v0 v1 v0 v1 x50 f22
section S_X10_tries
variable {p : Program} {l : Launch} {e : Env} {s : State} {m : MethodId} {args : Array Value} {below : List Frame} {meth : Method} {c : Code} {D : mmD} {b0 sz : Nat} {f : mmF}
set_option maxHeartbeats 4000000 in
set_option maxRecDepth 100000 in
theorem w_X10_tries_51 (C0 : CX cX10_tries 5 (some .int) wsX10_tries RX10 p s m args meth c D b0) {res : Int32 × mmF} : ∀ (v0 : Nat) (v1 : Int32) (t0 : Nat) (t1 : Int32) (t2 : Int32) (f : mmF), f_X10_tries_51 v0 v1 t0 t1 t2 f = some res → ∀ (H : Heap) (locs : List Loc) (ls : Array Slot), MM vwCl D b0 f sz s H → mS b0 s H locs → lv_has ls 5 [(0, .ref v0), (1, .int v1)] → W p l e ({ frames := 6, cells := 0, slots := 0, locals := 145 } : Room) s m args below meth c H locs 0 0 (MQ below (QW D b0 (some (.int res.1)) res.2 sz) args s 0 0 (fun q => b0 ≤ q)) (F0 m 51 ls [.int t2, .int t1, .ref t0]) := by
  obtain ⟨hx, hb, hr, hml, hown, hts, hlocks, hK⟩ := id C0
  intro v0 v1 t0 t1 t2 f h H locs ls hM hS hl
  unfold f_X10_tries_51 at h
  replace h := o_b h; obtain ⟨_, k51, h⟩ := h
  replace h := o_b h; obtain ⟨q51, h51, h⟩ := h
  refine m_call (va_runV (As := [.int t1, .int t2]) (rest := []) ⟨hx, hb, hml, hown, hts⟩ (c_X10_leadsOn l D b0 sz h51) (cwV 2 hts gX10_tries_X10_leadsOn rfl rfl rfl (by decide +kernel) ⟨Nat.le_of_ble_eq_true rfl, Nat.le_of_ble_eq_true rfl⟩) ⟨PW.blind, m_recv (ci := 10) rfl hK hM k51, (fun U hU hW => ⟨rfl, PW.call hK hM hS hU hW⟩)⟩ rfl rfl hl.1 rfl (lv_room (Nat.le_of_ble_eq_true rfl)) dX10_tries_51 ⟨(Nat.le_refl _), (Nat.le_refl _)⟩) hS (fun H locs hM hS => ?_)
  refine lv_aload_n hx hb dX10_tries_54 rfl (lv_at hl 0 rfl) ?_
  replace h := o_b h; obtain ⟨x55, h55, h⟩ := h
  refine m_get (C := RX10) (T := TX10) (N := 25) (ci := 10) hx hb hts qi_X10_tries_X10 hown hK.1 hM 23 (ldR_F h55) rfl (by decide) (hts _ q_X10_tries_1) (fun _ h9 => h9) dX10_tries_55 ?_
  refine lv_iload_n hx hb dX10_tries_58 rfl (lv_at hl 1 rfl) ?_
  refine lv_dup2_11 hx hb dX10_tries_59 rfl rfl ?_
  replace h := o_b h; obtain ⟨x60, h60, h⟩ := h
  refine m_iald hx hb hK.1 hM hS rfl h60 dX10_tries_60 ?_
  refine lv_iconst (v := (1 : Int32)) hx hb dX10_tries_61 (by decide) ?_
  refine lv_iadd hx hb dX10_tries_62 ?_
  replace h := o_b h; obtain ⟨f63, h63, h⟩ := h
  refine m_iast hx hb hK.1 hM hS rfl h63 dX10_tries_63 (fun H locs hM hS => ?_)
  refine lv_iconst (v := (2 : Int32)) hx hb dX10_tries_64 (by decide) ?_
  replace h := Option.some.inj h; subst h
  exact W.iret hx hb hr (fun t ht hW => ⟨rfl, by rw [ht]; exact hM.moved hW.alike, hS.F ht⟩) hS.2.2 dX10_tries_65
set_option maxHeartbeats 4000000 in
set_option maxRecDepth 100000 in
theorem w_X10_tries (C0 : CX cX10_tries 5 (some .int) wsX10_tries RX10 p s m args meth c D b0) {v0 : Nat} {v1 : Int32} {res : Int32 × mmF} (h : f_X10_tries v0 v1 f = some res) : ∀ (H : Heap) (locs : List Loc) (ls : Array Slot), MM vwCl D b0 f sz s H → mS b0 s H locs → lv_has ls 5 [(0, .ref v0), (1, .int v1)] → W p l e ({ frames := 6, cells := 0, slots := 0, locals := 145 } : Room) s m args below meth c H locs 0 0 (MQ below (QW D b0 (some (.int res.1)) res.2 sz) args s 0 0 (fun q => b0 ≤ q)) (F0 m 0 ls []) := by
  obtain ⟨hx, hb, hr, hml, hown, hts, hlocks, hK⟩ := id C0
  intro H locs ls hM hS hl
  unfold f_X10_tries at h
  refine lv_aload_n hx hb dX10_tries_0 rfl (lv_at hl 0 rfl) ?_
  replace h := o_b h; obtain ⟨x1, h1, h⟩ := h
  refine m_get (C := RX10) (T := TX10) (N := 25) (ci := 10) hx hb hts qi_X10_tries_X10 hown hK.1 hM 21 (ldR_F h1) rfl (by decide) (hts _ q_X10_tries_2) (fun _ h9 => h9) dX10_tries_1 ?_
  refine lv_iload_n hx hb dX10_tries_4 rfl (lv_at hl 1 rfl) ?_
  replace h := o_b h; obtain ⟨x5, h5, h⟩ := h
  refine m_iald hx hb hK.1 hM hS rfl h5 dX10_tries_5 ?_
  refine lv_istore_n (lv' := [(2, .int x5), (0, .ref v0), (1, .int v1)]) hx hb dX10_tries_6 rfl hl (by decide) rfl (fun ls hl => ?_)
  refine lv_aload_n hx hb dX10_tries_7 rfl (lv_at hl 1 rfl) ?_
  replace h := o_b h; obtain ⟨x8, h8, h⟩ := h
  refine m_get (C := RX10) (T := TX10) (N := 25) (ci := 10) hx hb hts qi_X10_tries_X10 hown hK.1 hM 23 (ldR_F h8) rfl (by decide) (hts _ q_X10_tries_1) (fun _ h9 => h9) dX10_tries_8 ?_
  refine lv_iload_n hx hb dX10_tries_11 rfl (lv_at hl 2 rfl) ?_
  replace h := o_b h; obtain ⟨x12, h12, h⟩ := h
  refine m_iald hx hb hK.1 hM hS rfl h12 dX10_tries_12 ?_
  refine lv_if_ge (tgt := 66) hx hb dX10_tries_13 (by decide) (fun c13 => ?_) (fun c13 => ?_)
  · replace h := o_t c13 h
    refine lv_aload_n hx hb dX10_tries_66 rfl (lv_at hl 1 rfl) ?_
    refine lv_iload_n hx hb dX10_tries_67 rfl (lv_at hl 2 rfl) ?_
    refine lv_aload_n hx hb dX10_tries_68 rfl (lv_at hl 1 rfl) ?_
    replace h := o_b h; obtain ⟨x69, h69, h⟩ := h
    refine m_get (C := RX10) (T := TX10) (N := 25) (ci := 10) hx hb hts qi_X10_tries_X10 hown hK.1 hM 23 (ldR_F h69) rfl (by decide) (hts _ q_X10_tries_1) (fun _ h9 => h9) dX10_tries_69 ?_
    refine lv_iload_n hx hb dX10_tries_72 rfl (lv_at hl 2 rfl) ?_
    replace h := o_b h; obtain ⟨x73, h73, h⟩ := h
    refine m_iald hx hb hK.1 hM hS rfl h73 dX10_tries_73 ?_
    refine lv_bipush (v := (9 : Int32)) hx hb dX10_tries_74 (by decide) ?_
    replace h := o_b h; obtain ⟨_, k76, h⟩ := h
    replace h := o_b h; obtain ⟨q76, h76, h⟩ := h
    refine m_call (va_runV (As := [.int v1, .int x73, .int (9 : Int32)]) (rest := []) ⟨hx, hb, hml, hown, hts⟩ (c_X10_next l D b0 sz h76) (cwV 3 hts gX10_tries_X10_next rfl rfl rfl (by decide +kernel) ⟨Nat.le_of_ble_eq_true rfl, Nat.le_of_ble_eq_true rfl⟩) ⟨PW.blind, m_recv (ci := 10) rfl hK hM k76, (fun U hU hW => ⟨rfl, PW.call hK hM hS hU hW⟩)⟩ rfl rfl hl.1 rfl (lv_room (Nat.le_of_ble_eq_true rfl)) dX10_tries_76 ⟨(Nat.le_refl _), (Nat.le_refl _)⟩) hS (fun H locs hM hS => ?_)
    refine lv_istore_n (lv' := [(3, .int q76), (2, .int x5), (0, .ref v0), (1, .int v1)]) hx hb dX10_tries_79 rfl hl (by decide) rfl (fun ls hl => ?_)
    refine lv_iload_n hx hb dX10_tries_80 rfl (lv_at hl 0 rfl) ?_
    refine lv_bipush (v := (-5 : Int32)) hx hb dX10_tries_81 (by decide) ?_
    refine lv_icmp_ne (tgt := 88) hx hb dX10_tries_83 (by decide) (fun c83 => ?_) (fun c83 => ?_)
    · replace h := o_f c83 h
      refine lv_aload_n hx hb dX10_tries_88 rfl (lv_at hl 2 rfl) ?_
      replace h := o_b h; obtain ⟨x89, h89, h⟩ := h
      refine m_get (C := RX10) (T := TX10) (N := 25) (ci := 10) hx hb hts qi_X10_tries_X10 hown hK.1 hM 22 (ldR_F h89) rfl (by decide) (hts _ q_X10_tries_3) (fun _ h9 => h9) dX10_tries_89 ?_
      refine lv_iload_n hx hb dX10_tries_92 rfl (lv_at hl 3 rfl) ?_
      refine lv_iconst (v := (4 : Int32)) hx hb dX10_tries_93 (by decide) ?_
      replace h := o_b h; obtain ⟨f94, h94, h⟩ := h
      refine m_iast hx hb hK.1 hM hS rfl h94 dX10_tries_94 (fun H locs hM hS => ?_)
      refine lv_aload_n hx hb dX10_tries_95 rfl (lv_at hl 2 rfl) ?_
      replace h := o_b h; obtain ⟨x96, h96, h⟩ := h
      refine m_get (C := RX10) (T := TX10) (N := 25) (ci := 10) hx hb hts qi_X10_tries_X10 hown hK.1 hM 23 (ldR_F h96) rfl (by decide) (hts _ q_X10_tries_1) (fun _ h9 => h9) dX10_tries_96 ?_
      refine lv_iload_n hx hb dX10_tries_99 rfl (lv_at hl 3 rfl) ?_
      refine lv_iload_n hx hb dX10_tries_100 rfl (lv_at hl 0 rfl) ?_
      refine lv_iconst (v := (1 : Int32)) hx hb dX10_tries_101 (by decide) ?_
      refine lv_iadd hx hb dX10_tries_102 ?_
      replace h := o_b h; obtain ⟨f103, h103, h⟩ := h
      refine m_iast hx hb hK.1 hM hS rfl h103 dX10_tries_103 (fun H locs hM hS => ?_)
      refine lv_aload_n hx hb dX10_tries_104 rfl (lv_at hl 2 rfl) ?_
      replace h := o_b h; obtain ⟨x105, h105, h⟩ := h
      refine m_get (C := RX10) (T := TX10) (N := 25) (ci := 10) hx hb hts qi_X10_tries_X10 hown hK.1 hM 16 (ldR_F h105) rfl (by decide) (hts _ q_X10_tries_4) (fun _ h9 => h9) dX10_tries_105 ?_
      refine lv_iload_n hx hb dX10_tries_108 rfl (lv_at hl 0 rfl) ?_
      replace h := o_b h; obtain ⟨x109, h109, h⟩ := h
      refine m_iald hx hb hK.1 hM hS rfl h109 dX10_tries_109 ?_
      refine lv_istore (lv' := [(4, .int x109), (3, .int q76), (2, .int x5), (0, .ref v0), (1, .int v1)]) hx hb dX10_tries_110 hl (by decide) rfl (fun ls hl => ?_)
      refine lv_aload_n hx hb dX10_tries_112 rfl (lv_at hl 3 rfl) ?_
      refine lv_iload_n hx hb dX10_tries_113 rfl (lv_at hl 4 rfl) ?_
      refine lv_aload_n hx hb dX10_tries_114 rfl (lv_at hl 3 rfl) ?_
      replace h := o_b h; obtain ⟨x115, h115, h⟩ := h
      refine m_get (C := RX10) (T := TX10) (N := 25) (ci := 10) hx hb hts qi_X10_tries_X10 hown hK.1 hM 17 (ldR_F h115) rfl (by decide) (hts _ q_X10_tries_5) (fun _ h9 => h9) dX10_tries_115 ?_
      refine lv_iload hx hb dX10_tries_118 (lv_at hl 0 rfl) ?_
      replace h := o_b h; obtain ⟨x120, h120, h⟩ := h
      refine m_iald hx hb hK.1 hM hS rfl h120 dX10_tries_120 ?_
      replace h := o_b h; obtain ⟨_, k121, h⟩ := h
      replace h := o_b h; obtain ⟨q121, h121, h⟩ := h
      refine m_call (va_runV (As := [.int v1, .int x120]) (rest := []) ⟨hx, hb, hml, hown, hts⟩ (c_X10_leadsOn l D b0 sz h121) (cwV 2 hts gX10_tries_X10_leadsOn rfl rfl rfl (by decide +kernel) ⟨Nat.le_of_ble_eq_true rfl, Nat.le_of_ble_eq_true rfl⟩) ⟨PW.blind, m_recv (ci := 10) rfl hK hM k121, (fun U hU hW => ⟨rfl, PW.call hK hM hS hU hW⟩)⟩ rfl rfl hl.1 rfl (lv_room (Nat.le_of_ble_eq_true rfl)) dX10_tries_121 ⟨(Nat.le_refl _), (Nat.le_refl _)⟩) hS (fun H locs hM hS => ?_)
      refine lv_aload_n hx hb dX10_tries_124 rfl (lv_at hl 3 rfl) ?_
      refine lv_iload_n hx hb dX10_tries_125 rfl (lv_at hl 4 rfl) ?_
      refine lv_iconst (v := (1 : Int32)) hx hb dX10_tries_126 (by decide) ?_
      refine lv_iadd hx hb dX10_tries_127 ?_
      refine lv_iload_n hx hb dX10_tries_128 rfl (lv_at hl 1 rfl) ?_
      replace h := o_b h; obtain ⟨_, k129, h⟩ := h
      replace h := o_b h; obtain ⟨q129, h129, h⟩ := h
      refine m_call (va_runV (As := [.int (v1 + (1 : Int32)), .int q76]) (rest := []) ⟨hx, hb, hml, hown, hts⟩ (c_X10_loses l D b0 sz h129) (cwV 2 hts gX10_tries_X10_loses rfl rfl rfl (by decide +kernel) ⟨Nat.le_of_ble_eq_true rfl, Nat.le_of_ble_eq_true rfl⟩) ⟨PW.blind, m_recv (ci := 10) rfl hK hM k129, (fun U hU hW => ⟨rfl, PW.call hK hM hS hU hW⟩)⟩ rfl rfl hl.1 rfl (lv_room (Nat.le_of_ble_eq_true rfl)) dX10_tries_129 ⟨(Nat.le_refl _), (Nat.le_refl _)⟩) hS (fun H locs hM hS => ?_)
      refine lv_aload_n hx hb dX10_tries_132 rfl (lv_at hl 3 rfl) ?_
      refine lv_iload_n hx hb dX10_tries_133 rfl (lv_at hl 4 rfl) ?_
      refine lv_iconst (v := (1 : Int32)) hx hb dX10_tries_134 (by decide) ?_
      refine lv_iadd hx hb dX10_tries_135 ?_
      refine lv_aload_n hx hb dX10_tries_136 rfl (lv_at hl 3 rfl) ?_
      replace h := o_b h; obtain ⟨x137, h137, h⟩ := h
      refine m_get (C := RX10) (T := TX10) (N := 25) (ci := 10) hx hb hts qi_X10_tries_X10 hown hK.1 hM 16 (ldR_F h137) rfl (by decide) (hts _ q_X10_tries_4) (fun _ h9 => h9) dX10_tries_137 ?_
      refine lv_iload hx hb dX10_tries_140 (lv_at hl 0 rfl) ?_
      replace h := o_b h; obtain ⟨x142, h142, h⟩ := h
      refine m_iald hx hb hK.1 hM hS rfl h142 dX10_tries_142 ?_
      replace h := o_b h; obtain ⟨_, k143, h⟩ := h
      replace h := o_b h; obtain ⟨q143, h143, h⟩ := h
      refine m_call (va_runV (As := [.int (v1 + (1 : Int32)), .int x142]) (rest := []) ⟨hx, hb, hml, hown, hts⟩ (c_X10_gets l D b0 sz h143) (cwV 2 hts gX10_tries_X10_gets rfl rfl rfl (by decide +kernel) ⟨Nat.le_of_ble_eq_true rfl, Nat.le_of_ble_eq_true rfl⟩) ⟨PW.blind, m_recv (ci := 10) rfl hK hM k143, (fun U hU hW => ⟨rfl, PW.call hK hM hS hU hW⟩)⟩ rfl rfl hl.1 rfl (lv_room (Nat.le_of_ble_eq_true rfl)) dX10_tries_143 ⟨(Nat.le_refl _), (Nat.le_refl _)⟩) hS (fun H locs hM hS => ?_)
      refine lv_aload_n hx hb dX10_tries_146 rfl (lv_at hl 3 rfl) ?_
      refine lv_iload_n hx hb dX10_tries_147 rfl (lv_at hl 4 rfl) ?_
      refine lv_iconst (v := (1 : Int32)) hx hb dX10_tries_148 (by decide) ?_
      refine lv_iadd hx hb dX10_tries_149 ?_
      refine lv_aload_n hx hb dX10_tries_150 rfl (lv_at hl 3 rfl) ?_
      refine lv_aload_n hx hb dX10_tries_151 rfl (lv_at hl 3 rfl) ?_
      replace h := o_b h; obtain ⟨x152, h152, h⟩ := h
      refine m_get (C := RX10) (T := TX10) (N := 25) (ci := 10) hx hb hts qi_X10_tries_X10 hown hK.1 hM 17 (ldR_F h152) rfl (by decide) (hts _ q_X10_tries_5) (fun _ h9 => h9) dX10_tries_152 ?_
      refine lv_iload hx hb dX10_tries_155 (lv_at hl 0 rfl) ?_
      replace h := o_b h; obtain ⟨x157, h157, h⟩ := h
      refine m_iald hx hb hK.1 hM hS rfl h157 dX10_tries_157 ?_
      refine lv_aload_n hx hb dX10_tries_158 rfl (lv_at hl 3 rfl) ?_
      replace h := o_b h; obtain ⟨x159, h159, h⟩ := h
      refine m_get (C := RX10) (T := TX10) (N := 25) (ci := 10) hx hb hts qi_X10_tries_X10 hown hK.1 hM 17 (ldR_F h159) rfl (by decide) (hts _ q_X10_tries_5) (fun _ h9 => h9) dX10_tries_159 ?_
      refine lv_iload_n hx hb dX10_tries_162 rfl (lv_at hl 1 rfl) ?_
      replace h := o_b h; obtain ⟨x163, h163, h⟩ := h
      refine m_iald hx hb hK.1 hM hS rfl h163 dX10_tries_163 ?_
      replace h := o_b h; obtain ⟨_, k164, h⟩ := h
      replace h := o_b h; obtain ⟨q164, h164, h⟩ := h
      refine m_call (va_runV (As := [.int x157, .int x163]) (rest := [.int (v1 + (1 : Int32)), .ref v0]) ⟨hx, hb, hml, hown, hts⟩ (c_X10_implies l D b0 sz h164) (cwV 2 hts gX10_tries_X10_implies rfl rfl rfl (by decide +kernel) ⟨Nat.le_of_ble_eq_true rfl, Nat.le_of_ble_eq_true rfl⟩) ⟨PW.blind, m_recv (ci := 10) rfl hK hM k164, (fun U hU hW => ⟨rfl, PW.call hK hM hS hU hW⟩)⟩ rfl rfl hl.1 rfl (lv_room (Nat.le_of_ble_eq_true rfl)) dX10_tries_164 ⟨(Nat.le_refl _), (Nat.le_refl _)⟩) hS (fun H locs hM hS => ?_)
      replace h := o_b h; obtain ⟨_, k167, h⟩ := h
      replace h := o_b h; obtain ⟨q167, h167, h⟩ := h
      refine m_call (va_runV (As := [.int (v1 + (1 : Int32)), .int q164.1]) (rest := []) ⟨hx, hb, hml, hown, hts⟩ (c_X10_gets l D b0 sz h167) (cwV 2 hts gX10_tries_X10_gets rfl rfl rfl (by decide +kernel) ⟨Nat.le_of_ble_eq_true rfl, Nat.le_of_ble_eq_true rfl⟩) ⟨PW.blind, m_recv (ci := 10) rfl hK hM k167, (fun U hU hW => ⟨rfl, PW.call hK hM hS hU hW⟩)⟩ rfl rfl hl.1 rfl (lv_room (Nat.le_of_ble_eq_true rfl)) dX10_tries_167 ⟨(Nat.le_refl _), (Nat.le_refl _)⟩) hS (fun H locs hM hS => ?_)
      refine lv_iconst (v := (2 : Int32)) hx hb dX10_tries_170 (by decide) ?_
      replace h := Option.some.inj h; subst h
      exact W.iret hx hb hr (fun t ht hW => ⟨rfl, by rw [ht]; exact hM.moved hW.alike, hS.F ht⟩) hS.2.2 dX10_tries_171
    replace h := o_t c83 h
    refine lv_iconst (v := (0 : Int32)) hx hb dX10_tries_86 (by decide) ?_
    replace h := Option.some.inj h; subst h
    exact W.iret hx hb hr (fun t ht hW => ⟨rfl, by rw [ht]; exact hM.moved hW.alike, hS.F ht⟩) hS.2.2 dX10_tries_87
  replace h := o_f c13 h
  refine lv_aload_n hx hb dX10_tries_16 rfl (lv_at hl 1 rfl) ?_
  replace h := o_b h; obtain ⟨x17, h17, h⟩ := h
  refine m_get (C := RX10) (T := TX10) (N := 25) (ci := 10) hx hb hts qi_X10_tries_X10 hown hK.1 hM 22 (ldR_F h17) rfl (by decide) (hts _ q_X10_tries_3) (fun _ h9 => h9) dX10_tries_17 ?_
  refine lv_iload_n hx hb dX10_tries_20 rfl (lv_at hl 2 rfl) ?_
  refine lv_iconst (v := (3 : Int32)) hx hb dX10_tries_21 (by decide) ?_
  replace h := o_b h; obtain ⟨f22, h22, h⟩ := h
  refine m_iast hx hb hK.1 hM hS rfl h22 dX10_tries_22 (fun H locs hM hS => ?_)
  refine lv_aload_n hx hb dX10_tries_23 rfl (lv_at hl 1 rfl) ?_
  refine lv_iload_n hx hb dX10_tries_24 rfl (lv_at hl 2 rfl) ?_
  refine lv_aload_n hx hb dX10_tries_25 rfl (lv_at hl 1 rfl) ?_
  replace h := o_b h; obtain ⟨x26, h26, h⟩ := h
  refine m_get (C := RX10) (T := TX10) (N := 25) (ci := 10) hx hb hts qi_X10_tries_X10 hown hK.1 hM 23 (ldR_F h26) rfl (by decide) (hts _ q_X10_tries_1) (fun _ h9 => h9) dX10_tries_26 ?_
  refine lv_iload_n hx hb dX10_tries_29 rfl (lv_at hl 2 rfl) ?_
  replace h := o_b h; obtain ⟨x30, h30, h⟩ := h
  refine m_iald hx hb hK.1 hM hS rfl h30 dX10_tries_30 ?_
  refine lv_bipush (v := (-2 : Int32)) hx hb dX10_tries_31 (by decide) ?_
  refine lv_icmp_ne (tgt := 45) hx hb dX10_tries_33 (by decide) (fun c33 => ?_) (fun c33 => ?_)
  · replace h := o_f c33 h
    refine lv_aload_n hx hb dX10_tries_45 rfl (lv_at hl 1 rfl) ?_
    replace h := o_b h; obtain ⟨x46, h46, h⟩ := h
    refine m_get (C := RX10) (T := TX10) (N := 25) (ci := 10) hx hb hts qi_X10_tries_X10 hown hK.1 hM 17 (ldR_F h46) rfl (by decide) (hts _ q_X10_tries_5) (fun _ h9 => h9) dX10_tries_46 ?_
    refine lv_iload_n hx hb dX10_tries_49 rfl (lv_at hl 0 rfl) ?_
    replace h := o_b h; obtain ⟨x50, h50, h⟩ := h
    refine m_iald hx hb hK.1 hM hS rfl h50 dX10_tries_50 ?_
    exact w_X10_tries_51 C0 _ _ _ _ _ _ h _ _ _ hM hS (lv_sub hl [1, 2] rfl)
  replace h := o_t c33 h
  refine lv_aload_n hx hb dX10_tries_36 rfl (lv_at hl 1 rfl) ?_
  replace h := o_b h; obtain ⟨x37, h37, h⟩ := h
  refine m_get (C := RX10) (T := TX10) (N := 25) (ci := 10) hx hb hts qi_X10_tries_X10 hown hK.1 hM 16 (ldR_F h37) rfl (by decide) (hts _ q_X10_tries_4) (fun _ h9 => h9) dX10_tries_37 ?_
  refine lv_iload_n hx hb dX10_tries_40 rfl (lv_at hl 0 rfl) ?_
  replace h := o_b h; obtain ⟨x41, h41, h⟩ := h
  refine m_iald hx hb hK.1 hM hS rfl h41 dX10_tries_41 ?_
  refine lv_goto (tgt := 51) hx hb dX10_tries_42 (by decide) ?_
  exact w_X10_tries_51 C0 _ _ _ _ _ _ h _ _ _ hM hS (lv_sub hl [1, 2] rfl)
set_option maxHeartbeats 4000000 in
set_option maxRecDepth 100000 in
theorem c_X10_tries (l : Launch) (D : mmD) (b0 sz : Nat) {v0 : Nat} {v1 : Int32} {f : mmF} {res : Int32 × mmF} (h : f_X10_tries v0 v1 f = some res) : Met l yX10_tries wsX10_tries ({ frames := 6, cells := 0, slots := 0, locals := 145 } : Room) (va_Pc [.ref v0, .int v1] (PW D b0 f sz)) (QW D b0 (some (.int res.1)) res.2 sz) 0 0 (fun q => b0 ≤ q) := by
  refine Met.ofW (cc := cX10_tries) (maxL := 5) (ret := (some .int)) (by decide) rfl ?_
  intro p e s m args below meth c s₁ B hml hv
  obtain ⟨rfl, hM, hK⟩ := hv
  have hl := lv_entry ([.ref v0, .int v1]) (n := 5) (Nat.le_of_ble_eq_true rfl)
  rw [lg_entry_eq]
  generalize (lg_sl ([.ref v0, .int v1]) ++ List.replicate (5 - (lg_sl ([.ref v0, .int v1])).length) Slot.unset).toArray = ls at hl ⊢
  have hl : lv_has ls 5 [(0, .ref v0), (1, .int v1)] := hl
  exact w_X10_tries ⟨B.exec, B.bytes, B.returns, hml, findClass_of_methodNamed B.named, atoms_spec (ws := wsX10_tries) B.pre, B.notSynchronized, hK⟩ h s.heap [] ls hM va_S.rf hl
end S_X10_tries
