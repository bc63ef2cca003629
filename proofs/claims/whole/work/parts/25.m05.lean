/-! X5_proves -/
set_option maxRecDepth 20000 in
theorem qi_X5_proves_X5 : ∀ w ∈ u_ws RX5 TX5 10, w ∈ wsX5_proves := by decide +kernel
set_option maxRecDepth 20000 in
theorem q_X5_proves_1 : Cond.fieldLink RX5 30 "StageTruths$Proof" "known" "LStageTruths$Known;" ∈ wsX5_proves := by decide +kernel
set_option maxRecDepth 20000 in
theorem q_X5_proves_2 : Cond.fieldLink RX5 43 "StageTruths$Proof" "used" "LStageTruths$PartSets;" ∈ wsX5_proves := by decide +kernel
set_option maxRecDepth 20000 in
theorem q_X5_proves_3 : Cond.fieldLink RX5 34 "StageTruths$Proof" "starts" "[I" ∈ wsX5_proves := by decide +kernel
set_option maxRecDepth 20000 in
theorem q_X5_proves_4 : Cond.fieldLink RX5 63 "StageTruths$Proof" "proved" "LStageTruths$Findings;" ∈ wsX5_proves := by decide +kernel
set_option maxRecDepth 20000 in
theorem q_X5_proves_5 : Cond.fieldLink RX5 50 "StageTruths$Proof" "found" "LStageTruths$PartSets;" ∈ wsX5_proves := by decide +kernel
set_option maxRecDepth 20000 in
theorem q_X5_proves_6 : Cond.fieldLink RX5 47 "StageTruths$Proof" "doubted" "LStageTruths$PartSets;" ∈ wsX5_proves := by decide +kernel
set_option maxRecDepth 20000 in
theorem q_X5_proves_7 : Cond.fieldLink RX5 24 "StageTruths$Proof" "parts" "LStageTruths$Parts;" ∈ wsX5_proves := by decide +kernel
set_option maxRecDepth 20000 in
theorem qi_X5_proves_X4 : ∀ w ∈ u_ws RX4 TX4 8, w ∈ wsX5_proves := by decide +kernel
set_option maxRecDepth 20000 in
theorem q_X5_proves_9 : Cond.fieldLink RX5 115 "StageTruths$Parts" "left" "[I" ∈ wsX5_proves := by decide +kernel
set_option maxRecDepth 20000 in
theorem q_X5_proves_10 : Cond.initialized RX9 ∈ wsX5_proves := by decide +kernel
set_option maxRecDepth 20000 in
theorem q_X5_proves_11 : Cond.static yX9_at ∈ wsX5_proves := by decide +kernel
set_option maxRecDepth 20000 in
theorem q_X5_proves_12 : Cond.fieldLink RX5 118 "StageTruths$Parts" "right" "[I" ∈ wsX5_proves := by decide +kernel
set_option maxRecDepth 20000 in
theorem q_X5_proves_13 : Cond.constant RX5 107 (1000000) ∈ wsX5_proves := by decide +kernel
set_option maxRecDepth 20000 in
theorem q_X5_proves_14 : Cond.fieldLink RX5 108 "StageTruths$Parts" "kinds" "[I" ∈ wsX5_proves := by decide +kernel
noncomputable def f_X5_proves_329 (rc : Nat → Int32 → Int32 → mmF → Option (Int32 × mmF))   (v0 : Nat) (v1 : Int32) (v3 : Int32) (v4 : Int32) (f : mmF) : Option (Int32 × mmF) :=
  if v4 = (-1 : Int32) then
  ((ldR f v0 5 2).bind fun x336 =>
  (ldR f v0 5 4).bind fun x340 =>
  (ldR f v0 5 3).bind fun x345 =>
  (ldA 0 f x345 v1).bind fun x349 =>
  (ckO f x336 2).bind fun _ =>
  (f_X2_explain x336 x340 v1 x349 f).bind fun q350 =>
  (ldR q350 v0 5 9).bind fun x354 =>
  (ldR q350 v0 5 4).bind fun x358 =>
  (ckO q350 x354 1).bind fun _ =>
  (f_X1_add x354 x358 v1 v3 q350).bind fun q363 =>
  some ((1 : Int32), q363))
  else
  (ckO f v0 5).bind fun _ =>
  (f_X5_meet v0 v1 f).bind fun q370 =>
  some ((0 : Int32), q370)
noncomputable def f_X5_proves_323 (rc : Nat → Int32 → Int32 → mmF → Option (Int32 × mmF)) (k73 : Nat → Int32 → Int32 → Int32 → Int32 → mmF → Option (Int32 × mmF))  (v0 : Nat) (v1 : Int32) (v3 : Int32) (v4 : Int32) (v5 : Int32) (f : mmF) : Option (Int32 × mmF) :=
  k73 v0 v1 v3 v4 (v5 + (1 : Int32)) f
noncomputable def f_X5_proves_255 (rc : Nat → Int32 → Int32 → mmF → Option (Int32 × mmF)) (k73 : Nat → Int32 → Int32 → Int32 → Int32 → mmF → Option (Int32 × mmF))  (v0 : Nat) (v1 : Int32) (v3 : Int32) (v5 : Int32) (t0 : Nat) (t1 : Int32) (t2 : Int32) (t3 : Int32) (f : mmF) : Option (Int32 × mmF) :=
  (ckO f t0 5).bind fun _ =>
  (f_X5_conclude t0 t1 t2 t3 f).bind fun q255 =>
  (ckO q255 v0 5).bind fun _ =>
  (f_X5_firstTrial v0 v1 v3 q255).bind fun q261 =>
  f_X5_proves_323 rc k73 v0 v1 v3 q261.1 v5 q261.2
noncomputable def f_X5_proves_244 (rc : Nat → Int32 → Int32 → mmF → Option (Int32 × mmF)) (k73 : Nat → Int32 → Int32 → Int32 → Int32 → mmF → Option (Int32 × mmF))  (v0 : Nat) (v1 : Int32) (v3 : Int32) (v4 : Int32) (v5 : Int32) (v6 : Int32) (t0 : Nat) (t1 : Int32) (t2 : Int32) (f : mmF) : Option (Int32 × mmF) :=
  if v6 = 0 then
  (f_X5_proves_255 rc k73 v0 v1 v3 v5 t0 t1 t2 (4 : Int32) f)
  else
  f_X5_proves_255 rc k73 v0 v1 v3 v5 t0 t1 t2 v4 f
noncomputable def f_X5_proves_225 (rc : Nat → Int32 → Int32 → mmF → Option (Int32 × mmF)) (k73 : Nat → Int32 → Int32 → Int32 → Int32 → mmF → Option (Int32 × mmF))  (v0 : Nat) (v1 : Int32) (v3 : Int32) (v4 : Int32) (v5 : Int32) (v6 : Int32) (v8 : Int32) (v9 : Int32) (f : mmF) : Option (Int32 × mmF) :=
  if v9 = 0 then
  (if v6 = 0 then
  ((ldR f v0 5 6).bind fun x292 =>
  (ldR f v0 5 6).bind fun x297 =>
  (ckO f x292 3).bind fun _ =>
  (f_X3_keepOnly x292 v1 x297 (v1 + (1 : Int32)) f).bind fun q303 =>
  (ldR q303 v0 5 5).bind fun x307 =>
  (ckO q303 x307 3).bind fun _ =>
  (f_X3_remove x307 v1 v4 q303).bind fun q313 =>
  (ckO q313 v0 5).bind fun _ =>
  (f_X5_nextTrial v0 v1 q313).bind fun q318 =>
  f_X5_proves_323 rc k73 v0 v1 v3 q318 v5 q313)
  else
  (ldR f v0 5 6).bind fun x275 =>
  (ldR f v0 5 6).bind fun x280 =>
  (ckO f x275 3).bind fun _ =>
  (f_X3_copy x275 v1 x280 (v1 + (1 : Int32)) f).bind fun q286 =>
  some ((0 : Int32), q286))
  else
  if v6 = 0 then
  (f_X5_proves_244 rc k73 v0 v1 v3 v4 v5 v6 v0 v1 v4 f)
  else
  f_X5_proves_244 rc k73 v0 v1 v3 v4 v5 v6 v0 v1 v8 f
noncomputable def f_X5_proves_159 (rc : Nat → Int32 → Int32 → mmF → Option (Int32 × mmF)) (k73 : Nat → Int32 → Int32 → Int32 → Int32 → mmF → Option (Int32 × mmF))  (v0 : Nat) (v1 : Int32) (v3 : Int32) (v4 : Int32) (v5 : Int32) (v6 : Int32) (v7 : Int32) (v8 : Int32) (t0 : Nat) (t1 : Int32) (t2 : Int32) (f : mmF) : Option (Int32 × mmF) :=
  (rc t0 t1 t2 f).bind fun q159 =>
  (ldR q159.2 v0 5 2).bind fun x165 =>
  (ldR q159.2 v0 5 3).bind fun x169 =>
  (ldA 0 q159.2 x169 (v1 + (1 : Int32))).bind fun x175 =>
  (ckO q159.2 x165 2).bind fun _ =>
  (f_X2_cutTo x165 x175 q159.2).bind fun q176 =>
  if q159.1 = 0 then
  (f_X5_proves_225 rc k73 v0 v1 v3 v4 v5 v6 v8 q159.1 q176)
  else
  if v6 = 0 then
  (f_X5_proves_225 rc k73 v0 v1 v3 v4 v5 v6 v8 q159.1 q176)
  else
  (ldR q176 v0 5 4).bind fun x190 =>
  (ckO q176 x190 3).bind fun _ =>
  (f_X3_has x190 (v1 + (1 : Int32)) v7 q176).bind fun q198 =>
  if q198 = 0 then
  ((ldR q176 v0 5 4).bind fun x205 =>
  (ldR q176 v0 5 4).bind fun x210 =>
  (ckO q176 x205 3).bind fun _ =>
  (f_X3_copy x205 v1 x210 (v1 + (1 : Int32)) q176).bind fun q216 =>
  f_X5_proves_323 rc k73 v0 v1 v3 (-1 : Int32) v5 q216)
  else
  f_X5_proves_225 rc k73 v0 v1 v3 v4 v5 v6 v8 q159.1 q176
noncomputable def f_X5_proves_107 (rc : Nat → Int32 → Int32 → mmF → Option (Int32 × mmF)) (k73 : Nat → Int32 → Int32 → Int32 → Int32 → mmF → Option (Int32 × mmF))  (v0 : Nat) (v1 : Int32) (v3 : Int32) (v4 : Int32) (v5 : Int32) (t0 : Int32) (f : mmF) : Option (Int32 × mmF) :=
  (ldR f v0 5 1).bind fun x110 =>
  (ldR f x110 4 2).bind fun x113 =>
  (f_X9_at x113 v4 f).bind fun q118 =>
  (ldR f v0 5 1).bind fun x124 =>
  (ldR f x124 4 3).bind fun x127 =>
  (f_X9_at x127 v4 f).bind fun q132 =>
  (ckO f v0 5).bind fun _ =>
  (f_X5_goDeeper v0 v1 q118 f).bind fun q141 =>
  if t0 = 0 then
  (f_X5_proves_159 rc k73 v0 v1 v3 v4 v5 t0 q118 q132 v0 (v1 + (1 : Int32)) q132 q141)
  else
  f_X5_proves_159 rc k73 v0 v1 v3 v4 v5 t0 q118 q132 v0 (v1 + (1 : Int32)) v3 q141
noncomputable def f_X5_proves_73 (rc : Nat → Int32 → Int32 → mmF → Option (Int32 × mmF))   : Nat → Nat → Int32 → Int32 → Int32 → Int32 → mmF → Option (Int32 × mmF)
  | 0, _, _, _, _, _, _ => none
  | n + 1, v0, v1, v3, v4, v5, f =>
    if v4 < 0 then
    (f_X5_proves_329 rc v0 v1 v3 v4 f)
    else
    if (1000000 : Int32) ≤ v5 then
    (f_X5_proves_329 rc v0 v1 v3 v4 f)
    else
    (ldR f v0 5 1).bind fun x86 =>
    (ldR f x86 4 1).bind fun x89 =>
    (f_X9_at x89 v4 f).bind fun q94 =>
    if q94 = (8 : Int32) then
    (f_X5_proves_107 rc (fun a0 a1 a2 a3 a4 a5 => f_X5_proves_73 rc n a0 a1 a2 a3 a4 a5) v0 v1 v3 v4 v5 (1 : Int32) f)
    else
    f_X5_proves_107 rc (fun a0 a1 a2 a3 a4 a5 => f_X5_proves_73 rc n a0 a1 a2 a3 a4 a5) v0 v1 v3 v4 v5 (0 : Int32) f
noncomputable def f_X5_proves : Nat → Nat → Int32 → Int32 → mmF → Option (Int32 × mmF)
  | 0, _, _, _, _ => none
  | n + 1, v0, v1, v2, f =>
    if v1 < 0 then
    (some ((0 : Int32), f))
    else
    if (v1 + (1 : Int32)) < (153 : Int32) then
    ((ckO f v0 5).bind fun _ =>
    (f_X5_openGoal v0 v1 v2 f).bind fun q18 =>
    (ckO q18.2 v0 5).bind fun _ =>
    (f_X5_meetsSingle v0 v1 q18.1 q18.2).bind fun q25 =>
    if q25.1 = 0 then
    ((ckO q25.2 v0 5).bind fun _ =>
    (f_X5_hasMet v0 v1 q18.1 q25.2).bind fun q34 =>
    if q34.1 = 0 then
    ((ckO q34.2 v0 5).bind fun _ =>
    (f_X5_failsAtAllLast v0 v1 q18.1 q34.2).bind fun q45 =>
    if q45.1 = 0 then
    ((ckO q45.2 v0 5).bind fun _ =>
    (f_X5_hasProved v0 v1 q18.1 q45.2).bind fun q54 =>
    if q54.1 = 0 then
    ((ckO q54.2 v0 5).bind fun _ =>
    (f_X5_firstTrial v0 v1 q18.1 q54.2).bind fun q65 =>
    f_X5_proves_73 (fun u0 u1 u2 g => f_X5_proves n u0 u1 u2 g) FU v0 v1 q18.1 q65.1 (0 : Int32) q65.2)
    else
    some ((1 : Int32), q54.2))
    else
    some ((1 : Int32), q45.2))
    else
    some ((0 : Int32), q34.2))
    else
    some ((0 : Int32), q25.2))
    else
    some ((0 : Int32), f)
section S_X5_proves
variable {p : Program} {l : Launch} {e : Env} {s : State} {m : MethodId} {args : Array Value} {below : List Frame} {meth : Method} {c : Code} {D : mmD} {b0 sz : Nat} {f : mmF}
set_option maxHeartbeats 4000000 in
set_option maxRecDepth 100000 in
theorem w_X5_proves_329 (C0 : CX cX5_proves 10 (some .boolean) wsX5_proves RX5 p s m args meth c D b0) {dd : Nat} {rc : Nat → Int32 → Int32 → mmF → Option (Int32 × mmF)} (hrc : ∀ (u0 : Nat) (u1 : Int32) (u2 : Int32) (f : mmF) (r : Int32 × mmF), rc u0 u1 u2 f = some r → Met l yX5_proves wsX5_proves ({ frames := dd + 5, cells := 0, slots := 0, locals := dd * 30 + 119 } : Room) (va_Pc [.ref u0, .int u1, .int u2] (PW D b0 f sz)) (QW D b0 (some (.int r.1)) r.2 sz) 0 0 (fun q => b0 ≤ q)) {res : Int32 × mmF} : ∀ (v0 : Nat) (v1 : Int32) (v3 : Int32) (v4 : Int32) (f : mmF), f_X5_proves_329 rc v0 v1 v3 v4 f = some res → ∀ (H : Heap) (locs : List Loc) (ls : Array Slot), MM vwCl D b0 f sz s H → mS b0 s H locs → lv_has ls 10 [(0, .ref v0), (1, .int v1), (3, .int v3), (4, .int v4)] → W p l e ({ frames := (dd + 1) + 5, cells := 0, slots := 0, locals := (dd + 1) * 30 + 119 } : Room) s m args below meth c H locs 0 0 (MQ below (QW D b0 (some (.int res.1)) res.2 sz) args s 0 0 (fun q => b0 ≤ q)) (F0 m 329 ls []) := by
  obtain ⟨hx, hb, hr, hml, hown, hts, hlocks, hK⟩ := id C0
  intro v0 v1 v3 v4 f h H locs ls hM hS hl
  unfold f_X5_proves_329 at h
  refine lv_iload hx hb dX5_proves_329 (lv_at hl 3 rfl) ?_
  refine lv_iconst (v := (-1 : Int32)) hx hb dX5_proves_331 (by decide) ?_
  refine lv_icmp_ne (tgt := 368) hx hb dX5_proves_332 (by decide) (fun c332 => ?_) (fun c332 => ?_)
  · replace h := o_f c332 h
    refine lv_aload_n hx hb dX5_proves_368 rfl (lv_at hl 0 rfl) ?_
    refine lv_iload_n hx hb dX5_proves_369 rfl (lv_at hl 1 rfl) ?_
    replace h := o_b h; obtain ⟨_, k370, h⟩ := h
    replace h := o_b h; obtain ⟨q370, h370, h⟩ := h
    refine m_call (va_runV (As := [.int v1]) (rest := []) ⟨hx, hb, hml, hown, hts⟩ (c_X5_meet l D b0 sz h370) (cwV 1 hts gX5_proves_X5_meet rfl rfl rfl (by decide +kernel) ⟨(by show 3 + 1 ≤ dd + 1 + 5; omega), (by show 8 + (7 + 11) + (72) ≤ (dd + 1) * 30 + 119; omega)⟩) ⟨PW.blind, m_recv (ci := 5) rfl hK hM k370, (fun U hU hW => ⟨rfl, PW.call hK hM hS hU hW⟩)⟩ rfl rfl hl.1 rfl (lv_room (Nat.le_of_ble_eq_true rfl)) dX5_proves_370 ⟨(Nat.le_refl _), (Nat.le_refl _)⟩) hS (fun H locs hM hS => ?_)
    refine lv_iconst (v := (0 : Int32)) hx hb dX5_proves_373 (by decide) ?_
    replace h := Option.some.inj h; subst h
    exact W.zret hx hb hr rfl (fun t ht hW => ⟨rfl, by rw [ht]; exact hM.moved hW.alike, hS.F ht⟩) hS.2.2 dX5_proves_374
  replace h := o_t c332 h
  refine lv_aload_n hx hb dX5_proves_335 rfl (lv_at hl 0 rfl) ?_
  replace h := o_b h; obtain ⟨x336, h336, h⟩ := h
  refine m_get (C := RX5) (T := TX5) (N := 10) (ci := 5) hx hb hts qi_X5_proves_X5 hown hK.1 hM 2 (ldR_F h336) rfl (by decide) (hts _ q_X5_proves_1) (fun _ h9 => h9) dX5_proves_336 ?_
  refine lv_aload_n hx hb dX5_proves_339 rfl (lv_at hl 0 rfl) ?_
  replace h := o_b h; obtain ⟨x340, h340, h⟩ := h
  refine m_get (C := RX5) (T := TX5) (N := 10) (ci := 5) hx hb hts qi_X5_proves_X5 hown hK.1 hM 4 (ldR_F h340) rfl (by decide) (hts _ q_X5_proves_2) (fun _ h9 => h9) dX5_proves_340 ?_
  refine lv_iload_n hx hb dX5_proves_343 rfl (lv_at hl 1 rfl) ?_
  refine lv_aload_n hx hb dX5_proves_344 rfl (lv_at hl 0 rfl) ?_
  replace h := o_b h; obtain ⟨x345, h345, h⟩ := h
  refine m_get (C := RX5) (T := TX5) (N := 10) (ci := 5) hx hb hts qi_X5_proves_X5 hown hK.1 hM 3 (ldR_F h345) rfl (by decide) (hts _ q_X5_proves_3) (fun _ h9 => h9) dX5_proves_345 ?_
  refine lv_iload_n hx hb dX5_proves_348 rfl (lv_at hl 1 rfl) ?_
  replace h := o_b h; obtain ⟨x349, h349, h⟩ := h
  refine m_iald hx hb hK.1 hM hS rfl h349 dX5_proves_349 ?_
  replace h := o_b h; obtain ⟨_, k350, h⟩ := h
  replace h := o_b h; obtain ⟨q350, h350, h⟩ := h
  refine m_call (va_runV (As := [.ref x340, .int v1, .int x349]) (rest := []) ⟨hx, hb, hml, hown, hts⟩ (c_X2_explain l D b0 sz h350) (cwV 3 hts gX5_proves_X2_explain rfl rfl rfl (by decide +kernel) ⟨(by show 2 + 1 ≤ dd + 1 + 5; omega), (by show 8 + (6 + 11) + (49) ≤ (dd + 1) * 30 + 119; omega)⟩) ⟨PW.blind, m_recv (ci := 2) rfl hK hM k350, (fun U hU hW => ⟨rfl, PW.call hK hM hS hU hW⟩)⟩ rfl rfl hl.1 rfl (lv_room (Nat.le_of_ble_eq_true rfl)) dX5_proves_350 ⟨(Nat.le_refl _), (Nat.le_refl _)⟩) hS (fun H locs hM hS => ?_)
  refine lv_aload_n hx hb dX5_proves_353 rfl (lv_at hl 0 rfl) ?_
  replace h := o_b h; obtain ⟨x354, h354, h⟩ := h
  refine m_get (C := RX5) (T := TX5) (N := 10) (ci := 5) hx hb hts qi_X5_proves_X5 hown hK.1 hM 9 (ldR_F h354) rfl (by decide) (hts _ q_X5_proves_4) (fun _ h9 => h9) dX5_proves_354 ?_
  refine lv_aload_n hx hb dX5_proves_357 rfl (lv_at hl 0 rfl) ?_
  replace h := o_b h; obtain ⟨x358, h358, h⟩ := h
  refine m_get (C := RX5) (T := TX5) (N := 10) (ci := 5) hx hb hts qi_X5_proves_X5 hown hK.1 hM 4 (ldR_F h358) rfl (by decide) (hts _ q_X5_proves_2) (fun _ h9 => h9) dX5_proves_358 ?_
  refine lv_iload_n hx hb dX5_proves_361 rfl (lv_at hl 1 rfl) ?_
  refine lv_iload_n hx hb dX5_proves_362 rfl (lv_at hl 2 rfl) ?_
  replace h := o_b h; obtain ⟨_, k363, h⟩ := h
  replace h := o_b h; obtain ⟨q363, h363, h⟩ := h
  refine m_call (va_runV (As := [.ref x358, .int v1, .int v3]) (rest := []) ⟨hx, hb, hml, hown, hts⟩ (c_X1_add l D b0 sz h363) (cwV 3 hts gX5_proves_X1_add rfl rfl rfl (by decide +kernel) ⟨(by show 2 + 1 ≤ dd + 1 + 5; omega), (by show 8 + (4 + 11) + (49) ≤ (dd + 1) * 30 + 119; omega)⟩) ⟨PW.blind, m_recv (ci := 1) rfl hK hM k363, (fun U hU hW => ⟨rfl, PW.call hK hM hS hU hW⟩)⟩ rfl rfl hl.1 rfl (lv_room (Nat.le_of_ble_eq_true rfl)) dX5_proves_363 ⟨(Nat.le_refl _), (Nat.le_refl _)⟩) hS (fun H locs hM hS => ?_)
  refine lv_iconst (v := (1 : Int32)) hx hb dX5_proves_366 (by decide) ?_
  replace h := Option.some.inj h; subst h
  exact W.zret hx hb hr rfl (fun t ht hW => ⟨rfl, by rw [ht]; exact hM.moved hW.alike, hS.F ht⟩) hS.2.2 dX5_proves_367
set_option maxHeartbeats 4000000 in
set_option maxRecDepth 100000 in
theorem w_X5_proves_323 (C0 : CX cX5_proves 10 (some .boolean) wsX5_proves RX5 p s m args meth c D b0) {dd : Nat} {rc : Nat → Int32 → Int32 → mmF → Option (Int32 × mmF)} (hrc : ∀ (u0 : Nat) (u1 : Int32) (u2 : Int32) (f : mmF) (r : Int32 × mmF), rc u0 u1 u2 f = some r → Met l yX5_proves wsX5_proves ({ frames := dd + 5, cells := 0, slots := 0, locals := dd * 30 + 119 } : Room) (va_Pc [.ref u0, .int u1, .int u2] (PW D b0 f sz)) (QW D b0 (some (.int r.1)) r.2 sz) 0 0 (fun q => b0 ≤ q)) {k73 : Nat → Int32 → Int32 → Int32 → Int32 → mmF → Option (Int32 × mmF)} {res : Int32 × mmF} (hk73 : ∀ (v0 : Nat) (v1 : Int32) (v3 : Int32) (v4 : Int32) (v5 : Int32) (f : mmF), k73 v0 v1 v3 v4 v5 f = some res → ∀ (H : Heap) (locs : List Loc) (ls : Array Slot), MM vwCl D b0 f sz s H → mS b0 s H locs → lv_has ls 10 [(0, .ref v0), (1, .int v1), (3, .int v3), (4, .int v4), (5, .int v5)] → W p l e ({ frames := (dd + 1) + 5, cells := 0, slots := 0, locals := (dd + 1) * 30 + 119 } : Room) s m args below meth c H locs 0 0 (MQ below (QW D b0 (some (.int res.1)) res.2 sz) args s 0 0 (fun q => b0 ≤ q)) (F0 m 73 ls [])) : ∀ (v0 : Nat) (v1 : Int32) (v3 : Int32) (v4 : Int32) (v5 : Int32) (f : mmF), f_X5_proves_323 rc k73 v0 v1 v3 v4 v5 f = some res → ∀ (H : Heap) (locs : List Loc) (ls : Array Slot), MM vwCl D b0 f sz s H → mS b0 s H locs → lv_has ls 10 [(0, .ref v0), (1, .int v1), (3, .int v3), (4, .int v4), (5, .int v5)] → W p l e ({ frames := (dd + 1) + 5, cells := 0, slots := 0, locals := (dd + 1) * 30 + 119 } : Room) s m args below meth c H locs 0 0 (MQ below (QW D b0 (some (.int res.1)) res.2 sz) args s 0 0 (fun q => b0 ≤ q)) (F0 m 323 ls []) := by
  obtain ⟨hx, hb, hr, hml, hown, hts, hlocks, hK⟩ := id C0
  intro v0 v1 v3 v4 v5 f h H locs ls hM hS hl
  unfold f_X5_proves_323 at h
  refine lv_iinc (v := (v5 + (1 : Int32))) (lv' := [(5, .int (v5 + (1 : Int32))), (0, .ref v0), (1, .int v1), (3, .int v3), (4, .int v4)]) hx hb dX5_proves_323 hl (k := 4) rfl rfl (by decide) rfl (fun ls hl => ?_)
  refine lv_goto (tgt := 73) hx hb dX5_proves_326 (by decide) ?_
  exact hk73 _ _ _ _ _ _ h _ _ _ hM hS (lv_sub hl [1, 2, 3, 4, 0] rfl)
set_option maxHeartbeats 4000000 in
set_option maxRecDepth 100000 in
theorem w_X5_proves_255 (C0 : CX cX5_proves 10 (some .boolean) wsX5_proves RX5 p s m args meth c D b0) {dd : Nat} {rc : Nat → Int32 → Int32 → mmF → Option (Int32 × mmF)} (hrc : ∀ (u0 : Nat) (u1 : Int32) (u2 : Int32) (f : mmF) (r : Int32 × mmF), rc u0 u1 u2 f = some r → Met l yX5_proves wsX5_proves ({ frames := dd + 5, cells := 0, slots := 0, locals := dd * 30 + 119 } : Room) (va_Pc [.ref u0, .int u1, .int u2] (PW D b0 f sz)) (QW D b0 (some (.int r.1)) r.2 sz) 0 0 (fun q => b0 ≤ q)) {k73 : Nat → Int32 → Int32 → Int32 → Int32 → mmF → Option (Int32 × mmF)} {res : Int32 × mmF} (hk73 : ∀ (v0 : Nat) (v1 : Int32) (v3 : Int32) (v4 : Int32) (v5 : Int32) (f : mmF), k73 v0 v1 v3 v4 v5 f = some res → ∀ (H : Heap) (locs : List Loc) (ls : Array Slot), MM vwCl D b0 f sz s H → mS b0 s H locs → lv_has ls 10 [(0, .ref v0), (1, .int v1), (3, .int v3), (4, .int v4), (5, .int v5)] → W p l e ({ frames := (dd + 1) + 5, cells := 0, slots := 0, locals := (dd + 1) * 30 + 119 } : Room) s m args below meth c H locs 0 0 (MQ below (QW D b0 (some (.int res.1)) res.2 sz) args s 0 0 (fun q => b0 ≤ q)) (F0 m 73 ls [])) : ∀ (v0 : Nat) (v1 : Int32) (v3 : Int32) (v5 : Int32) (t0 : Nat) (t1 : Int32) (t2 : Int32) (t3 : Int32) (f : mmF), f_X5_proves_255 rc k73 v0 v1 v3 v5 t0 t1 t2 t3 f = some res → ∀ (H : Heap) (locs : List Loc) (ls : Array Slot), MM vwCl D b0 f sz s H → mS b0 s H locs → lv_has ls 10 [(0, .ref v0), (1, .int v1), (3, .int v3), (5, .int v5)] → W p l e ({ frames := (dd + 1) + 5, cells := 0, slots := 0, locals := (dd + 1) * 30 + 119 } : Room) s m args below meth c H locs 0 0 (MQ below (QW D b0 (some (.int res.1)) res.2 sz) args s 0 0 (fun q => b0 ≤ q)) (F0 m 255 ls [.int t3, .int t2, .int t1, .ref t0]) := by
  obtain ⟨hx, hb, hr, hml, hown, hts, hlocks, hK⟩ := id C0
  intro v0 v1 v3 v5 t0 t1 t2 t3 f h H locs ls hM hS hl
  unfold f_X5_proves_255 at h
  replace h := o_b h; obtain ⟨_, k255, h⟩ := h
  replace h := o_b h; obtain ⟨q255, h255, h⟩ := h
  refine m_call (va_runV (As := [.int t1, .int t2, .int t3]) (rest := []) ⟨hx, hb, hml, hown, hts⟩ (c_X5_conclude l D b0 sz h255) (cwV 3 hts gX5_proves_X5_conclude rfl rfl rfl (by decide +kernel) ⟨(by show 3 + 1 ≤ dd + 1 + 5; omega), (by show 8 + (4 + 11) + (73) ≤ (dd + 1) * 30 + 119; omega)⟩) ⟨PW.blind, m_recv (ci := 5) rfl hK hM k255, (fun U hU hW => ⟨rfl, PW.call hK hM hS hU hW⟩)⟩ rfl rfl hl.1 rfl (lv_room (Nat.le_of_ble_eq_true rfl)) dX5_proves_255 ⟨(Nat.le_refl _), (Nat.le_refl _)⟩) hS (fun H locs hM hS => ?_)
  refine lv_aload_n hx hb dX5_proves_258 rfl (lv_at hl 0 rfl) ?_
  refine lv_iload_n hx hb dX5_proves_259 rfl (lv_at hl 1 rfl) ?_
  refine lv_iload_n hx hb dX5_proves_260 rfl (lv_at hl 2 rfl) ?_
  replace h := o_b h; obtain ⟨_, k261, h⟩ := h
  replace h := o_b h; obtain ⟨q261, h261, h⟩ := h
  refine m_call (va_runV (As := [.int v1, .int v3]) (rest := []) ⟨hx, hb, hml, hown, hts⟩ (c_X5_firstTrial l D b0 sz h261) (cwV 2 hts gX5_proves_X5_firstTrial rfl rfl rfl (by decide +kernel) ⟨(by show 4 + 1 ≤ dd + 1 + 5; omega), (by show 8 + (4 + 11) + (96) ≤ (dd + 1) * 30 + 119; omega)⟩) ⟨PW.blind, m_recv (ci := 5) rfl hK hM k261, (fun U hU hW => ⟨rfl, PW.call hK hM hS hU hW⟩)⟩ rfl rfl hl.1 rfl (lv_room (Nat.le_of_ble_eq_true rfl)) dX5_proves_261 ⟨(Nat.le_refl _), (Nat.le_refl _)⟩) hS (fun H locs hM hS => ?_)
  refine lv_istore (lv' := [(4, .int q261.1), (0, .ref v0), (1, .int v1), (3, .int v3), (5, .int v5)]) hx hb dX5_proves_264 hl (by decide) rfl (fun ls hl => ?_)
  refine lv_goto (tgt := 323) hx hb dX5_proves_266 (by decide) ?_
  exact w_X5_proves_323 C0 hrc hk73 _ _ _ _ _ _ h _ _ _ hM hS (lv_sub hl [1, 2, 3, 0, 4] rfl)
set_option maxHeartbeats 4000000 in
set_option maxRecDepth 100000 in
theorem w_X5_proves_244 (C0 : CX cX5_proves 10 (some .boolean) wsX5_proves RX5 p s m args meth c D b0) {dd : Nat} {rc : Nat → Int32 → Int32 → mmF → Option (Int32 × mmF)} (hrc : ∀ (u0 : Nat) (u1 : Int32) (u2 : Int32) (f : mmF) (r : Int32 × mmF), rc u0 u1 u2 f = some r → Met l yX5_proves wsX5_proves ({ frames := dd + 5, cells := 0, slots := 0, locals := dd * 30 + 119 } : Room) (va_Pc [.ref u0, .int u1, .int u2] (PW D b0 f sz)) (QW D b0 (some (.int r.1)) r.2 sz) 0 0 (fun q => b0 ≤ q)) {k73 : Nat → Int32 → Int32 → Int32 → Int32 → mmF → Option (Int32 × mmF)} {res : Int32 × mmF} (hk73 : ∀ (v0 : Nat) (v1 : Int32) (v3 : Int32) (v4 : Int32) (v5 : Int32) (f : mmF), k73 v0 v1 v3 v4 v5 f = some res → ∀ (H : Heap) (locs : List Loc) (ls : Array Slot), MM vwCl D b0 f sz s H → mS b0 s H locs → lv_has ls 10 [(0, .ref v0), (1, .int v1), (3, .int v3), (4, .int v4), (5, .int v5)] → W p l e ({ frames := (dd + 1) + 5, cells := 0, slots := 0, locals := (dd + 1) * 30 + 119 } : Room) s m args below meth c H locs 0 0 (MQ below (QW D b0 (some (.int res.1)) res.2 sz) args s 0 0 (fun q => b0 ≤ q)) (F0 m 73 ls [])) : ∀ (v0 : Nat) (v1 : Int32) (v3 : Int32) (v4 : Int32) (v5 : Int32) (v6 : Int32) (t0 : Nat) (t1 : Int32) (t2 : Int32) (f : mmF), f_X5_proves_244 rc k73 v0 v1 v3 v4 v5 v6 t0 t1 t2 f = some res → ∀ (H : Heap) (locs : List Loc) (ls : Array Slot), MM vwCl D b0 f sz s H → mS b0 s H locs → lv_has ls 10 [(0, .ref v0), (1, .int v1), (3, .int v3), (4, .int v4), (5, .int v5), (6, .int v6)] → W p l e ({ frames := (dd + 1) + 5, cells := 0, slots := 0, locals := (dd + 1) * 30 + 119 } : Room) s m args below meth c H locs 0 0 (MQ below (QW D b0 (some (.int res.1)) res.2 sz) args s 0 0 (fun q => b0 ≤ q)) (F0 m 244 ls [.int t2, .int t1, .ref t0]) := by
  obtain ⟨hx, hb, hr, hml, hown, hts, hlocks, hK⟩ := id C0
  intro v0 v1 v3 v4 v5 v6 t0 t1 t2 f h H locs ls hM hS hl
  unfold f_X5_proves_244 at h
  refine lv_iload hx hb dX5_proves_244 (lv_at hl 5 rfl) ?_
  refine lv_if_eq (tgt := 254) hx hb dX5_proves_246 (by decide) (fun c246 => ?_) (fun c246 => ?_)
  · replace h := o_t c246 h
    refine lv_iconst (v := (4 : Int32)) hx hb dX5_proves_254 (by decide) ?_
    exact w_X5_proves_255 C0 hrc hk73 _ _ _ _ _ _ _ _ _ h _ _ _ hM hS (lv_sub hl [0, 1, 2, 4] rfl)
  replace h := o_f c246 h
  refine lv_iload hx hb dX5_proves_249 (lv_at hl 3 rfl) ?_
  refine lv_goto (tgt := 255) hx hb dX5_proves_251 (by decide) ?_
  exact w_X5_proves_255 C0 hrc hk73 _ _ _ _ _ _ _ _ _ h _ _ _ hM hS (lv_sub hl [0, 1, 2, 4] rfl)
set_option maxHeartbeats 4000000 in
set_option maxRecDepth 100000 in
theorem w_X5_proves_225 (C0 : CX cX5_proves 10 (some .boolean) wsX5_proves RX5 p s m args meth c D b0) {dd : Nat} {rc : Nat → Int32 → Int32 → mmF → Option (Int32 × mmF)} (hrc : ∀ (u0 : Nat) (u1 : Int32) (u2 : Int32) (f : mmF) (r : Int32 × mmF), rc u0 u1 u2 f = some r → Met l yX5_proves wsX5_proves ({ frames := dd + 5, cells := 0, slots := 0, locals := dd * 30 + 119 } : Room) (va_Pc [.ref u0, .int u1, .int u2] (PW D b0 f sz)) (QW D b0 (some (.int r.1)) r.2 sz) 0 0 (fun q => b0 ≤ q)) {k73 : Nat → Int32 → Int32 → Int32 → Int32 → mmF → Option (Int32 × mmF)} {res : Int32 × mmF} (hk73 : ∀ (v0 : Nat) (v1 : Int32) (v3 : Int32) (v4 : Int32) (v5 : Int32) (f : mmF), k73 v0 v1 v3 v4 v5 f = some res → ∀ (H : Heap) (locs : List Loc) (ls : Array Slot), MM vwCl D b0 f sz s H → mS b0 s H locs → lv_has ls 10 [(0, .ref v0), (1, .int v1), (3, .int v3), (4, .int v4), (5, .int v5)] → W p l e ({ frames := (dd + 1) + 5, cells := 0, slots := 0, locals := (dd + 1) * 30 + 119 } : Room) s m args below meth c H locs 0 0 (MQ below (QW D b0 (some (.int res.1)) res.2 sz) args s 0 0 (fun q => b0 ≤ q)) (F0 m 73 ls [])) : ∀ (v0 : Nat) (v1 : Int32) (v3 : Int32) (v4 : Int32) (v5 : Int32) (v6 : Int32) (v8 : Int32) (v9 : Int32) (f : mmF), f_X5_proves_225 rc k73 v0 v1 v3 v4 v5 v6 v8 v9 f = some res → ∀ (H : Heap) (locs : List Loc) (ls : Array Slot), MM vwCl D b0 f sz s H → mS b0 s H locs → lv_has ls 10 [(0, .ref v0), (1, .int v1), (3, .int v3), (4, .int v4), (5, .int v5), (6, .int v6), (8, .int v8), (9, .int v9)] → W p l e ({ frames := (dd + 1) + 5, cells := 0, slots := 0, locals := (dd + 1) * 30 + 119 } : Room) s m args below meth c H locs 0 0 (MQ below (QW D b0 (some (.int res.1)) res.2 sz) args s 0 0 (fun q => b0 ≤ q)) (F0 m 225 ls []) := by
  obtain ⟨hx, hb, hr, hml, hown, hts, hlocks, hK⟩ := id C0
  intro v0 v1 v3 v4 v5 v6 v8 v9 f h H locs ls hM hS hl
  unfold f_X5_proves_225 at h
  refine lv_iload hx hb dX5_proves_225 (lv_at hl 7 rfl) ?_
  refine lv_if_eq (tgt := 269) hx hb dX5_proves_227 (by decide) (fun c227 => ?_) (fun c227 => ?_)
  · replace h := o_t c227 h
    refine lv_iload hx hb dX5_proves_269 (lv_at hl 5 rfl) ?_
    refine lv_if_eq (tgt := 291) hx hb dX5_proves_271 (by decide) (fun c271 => ?_) (fun c271 => ?_)
    · replace h := o_t c271 h
      refine lv_aload_n hx hb dX5_proves_291 rfl (lv_at hl 0 rfl) ?_
      replace h := o_b h; obtain ⟨x292, h292, h⟩ := h
      refine m_get (C := RX5) (T := TX5) (N := 10) (ci := 5) hx hb hts qi_X5_proves_X5 hown hK.1 hM 6 (ldR_F h292) rfl (by decide) (hts _ q_X5_proves_5) (fun _ h9 => h9) dX5_proves_292 ?_
      refine lv_iload_n hx hb dX5_proves_295 rfl (lv_at hl 1 rfl) ?_
      refine lv_aload_n hx hb dX5_proves_296 rfl (lv_at hl 0 rfl) ?_
      replace h := o_b h; obtain ⟨x297, h297, h⟩ := h
      refine m_get (C := RX5) (T := TX5) (N := 10) (ci := 5) hx hb hts qi_X5_proves_X5 hown hK.1 hM 6 (ldR_F h297) rfl (by decide) (hts _ q_X5_proves_5) (fun _ h9 => h9) dX5_proves_297 ?_
      refine lv_iload_n hx hb dX5_proves_300 rfl (lv_at hl 1 rfl) ?_
      refine lv_iconst (v := (1 : Int32)) hx hb dX5_proves_301 (by decide) ?_
      refine lv_iadd hx hb dX5_proves_302 ?_
      replace h := o_b h; obtain ⟨_, k303, h⟩ := h
      replace h := o_b h; obtain ⟨q303, h303, h⟩ := h
      refine m_call (va_runV (As := [.int v1, .ref x297, .int (v1 + (1 : Int32))]) (rest := []) ⟨hx, hb, hml, hown, hts⟩ (c_X3_keepOnly l D b0 sz h303) (cwV 3 hts gX5_proves_X3_keepOnly rfl rfl rfl (by decide +kernel) ⟨(by show 1 + 1 ≤ dd + 1 + 5; omega), (by show 8 + (5 + 11) + (25) ≤ (dd + 1) * 30 + 119; omega)⟩) ⟨PW.blind, m_recv (ci := 3) rfl hK hM k303, (fun U hU hW => ⟨rfl, PW.call hK hM hS hU hW⟩)⟩ rfl rfl hl.1 rfl (lv_room (Nat.le_of_ble_eq_true rfl)) dX5_proves_303 ⟨(Nat.le_refl _), (Nat.le_refl _)⟩) hS (fun H locs hM hS => ?_)
      refine lv_aload_n hx hb dX5_proves_306 rfl (lv_at hl 0 rfl) ?_
      replace h := o_b h; obtain ⟨x307, h307, h⟩ := h
      refine m_get (C := RX5) (T := TX5) (N := 10) (ci := 5) hx hb hts qi_X5_proves_X5 hown hK.1 hM 5 (ldR_F h307) rfl (by decide) (hts _ q_X5_proves_6) (fun _ h9 => h9) dX5_proves_307 ?_
      refine lv_iload_n hx hb dX5_proves_310 rfl (lv_at hl 1 rfl) ?_
      refine lv_iload hx hb dX5_proves_311 (lv_at hl 3 rfl) ?_
      replace h := o_b h; obtain ⟨_, k313, h⟩ := h
      replace h := o_b h; obtain ⟨q313, h313, h⟩ := h
      refine m_call (va_runV (As := [.int v1, .int v4]) (rest := []) ⟨hx, hb, hml, hown, hts⟩ (c_X3_remove l D b0 sz h313) (cwV 2 hts gX5_proves_X3_remove rfl rfl rfl (by decide +kernel) ⟨(by show 0 + 1 ≤ dd + 1 + 5; omega), (by show 8 + (4 + 11) + (0) ≤ (dd + 1) * 30 + 119; omega)⟩) ⟨PW.blind, m_recv (ci := 3) rfl hK hM k313, (fun U hU hW => ⟨rfl, PW.call hK hM hS hU hW⟩)⟩ rfl rfl hl.1 rfl (lv_room (Nat.le_of_ble_eq_true rfl)) dX5_proves_313 ⟨(Nat.le_refl _), (Nat.le_refl _)⟩) hS (fun H locs hM hS => ?_)
      refine lv_aload_n hx hb dX5_proves_316 rfl (lv_at hl 0 rfl) ?_
      refine lv_iload_n hx hb dX5_proves_317 rfl (lv_at hl 1 rfl) ?_
      replace h := o_b h; obtain ⟨_, k318, h⟩ := h
      replace h := o_b h; obtain ⟨q318, h318, h⟩ := h
      refine m_call (va_runV (As := [.int v1]) (rest := []) ⟨hx, hb, hml, hown, hts⟩ (c_X5_nextTrial l D b0 sz h318) (cwV 1 hts gX5_proves_X5_nextTrial rfl rfl rfl (by decide +kernel) ⟨(by show 2 + 1 ≤ dd + 1 + 5; omega), (by show 8 + (3 + 11) + (44) ≤ (dd + 1) * 30 + 119; omega)⟩) ⟨PW.blind, m_recv (ci := 5) rfl hK hM k318, (fun U hU hW => ⟨rfl, PW.call hK hM hS hU hW⟩)⟩ rfl rfl hl.1 rfl (lv_room (Nat.le_of_ble_eq_true rfl)) dX5_proves_318 ⟨(Nat.le_refl _), (Nat.le_refl _)⟩) hS (fun H locs hM hS => ?_)
      refine lv_istore (lv' := [(4, .int q318), (0, .ref v0), (1, .int v1), (3, .int v3), (5, .int v5), (6, .int v6), (8, .int v8), (9, .int v9)]) hx hb dX5_proves_321 hl (by decide) rfl (fun ls hl => ?_)
      exact w_X5_proves_323 C0 hrc hk73 _ _ _ _ _ _ h _ _ _ hM hS (lv_sub hl [1, 2, 3, 0, 4] rfl)
    replace h := o_f c271 h
    refine lv_aload_n hx hb dX5_proves_274 rfl (lv_at hl 0 rfl) ?_
    replace h := o_b h; obtain ⟨x275, h275, h⟩ := h
    refine m_get (C := RX5) (T := TX5) (N := 10) (ci := 5) hx hb hts qi_X5_proves_X5 hown hK.1 hM 6 (ldR_F h275) rfl (by decide) (hts _ q_X5_proves_5) (fun _ h9 => h9) dX5_proves_275 ?_
    refine lv_iload_n hx hb dX5_proves_278 rfl (lv_at hl 1 rfl) ?_
    refine lv_aload_n hx hb dX5_proves_279 rfl (lv_at hl 0 rfl) ?_
    replace h := o_b h; obtain ⟨x280, h280, h⟩ := h
    refine m_get (C := RX5) (T := TX5) (N := 10) (ci := 5) hx hb hts qi_X5_proves_X5 hown hK.1 hM 6 (ldR_F h280) rfl (by decide) (hts _ q_X5_proves_5) (fun _ h9 => h9) dX5_proves_280 ?_
    refine lv_iload_n hx hb dX5_proves_283 rfl (lv_at hl 1 rfl) ?_
    refine lv_iconst (v := (1 : Int32)) hx hb dX5_proves_284 (by decide) ?_
    refine lv_iadd hx hb dX5_proves_285 ?_
    replace h := o_b h; obtain ⟨_, k286, h⟩ := h
    replace h := o_b h; obtain ⟨q286, h286, h⟩ := h
    refine m_call (va_runV (As := [.int v1, .ref x280, .int (v1 + (1 : Int32))]) (rest := []) ⟨hx, hb, hml, hown, hts⟩ (c_X3_copy l D b0 sz h286) (cwV 3 hts gX5_proves_X3_copy rfl rfl rfl (by decide +kernel) ⟨(by show 1 + 1 ≤ dd + 1 + 5; omega), (by show 8 + (5 + 11) + (25) ≤ (dd + 1) * 30 + 119; omega)⟩) ⟨PW.blind, m_recv (ci := 3) rfl hK hM k286, (fun U hU hW => ⟨rfl, PW.call hK hM hS hU hW⟩)⟩ rfl rfl hl.1 rfl (lv_room (Nat.le_of_ble_eq_true rfl)) dX5_proves_286 ⟨(Nat.le_refl _), (Nat.le_refl _)⟩) hS (fun H locs hM hS => ?_)
    refine lv_iconst (v := (0 : Int32)) hx hb dX5_proves_289 (by decide) ?_
    replace h := Option.some.inj h; subst h
    exact W.zret hx hb hr rfl (fun t ht hW => ⟨rfl, by rw [ht]; exact hM.moved hW.alike, hS.F ht⟩) hS.2.2 dX5_proves_290
  replace h := o_f c227 h
  refine lv_aload_n hx hb dX5_proves_230 rfl (lv_at hl 0 rfl) ?_
  refine lv_iload_n hx hb dX5_proves_231 rfl (lv_at hl 1 rfl) ?_
  refine lv_iload hx hb dX5_proves_232 (lv_at hl 5 rfl) ?_
  refine lv_if_eq (tgt := 242) hx hb dX5_proves_234 (by decide) (fun c234 => ?_) (fun c234 => ?_)
  · replace h := o_t c234 h
    refine lv_iload hx hb dX5_proves_242 (lv_at hl 3 rfl) ?_
    exact w_X5_proves_244 C0 hrc hk73 _ _ _ _ _ _ _ _ _ _ h _ _ _ hM hS (lv_sub hl [0, 1, 2, 3, 4, 5] rfl)
  replace h := o_f c234 h
  refine lv_iload hx hb dX5_proves_237 (lv_at hl 6 rfl) ?_
  refine lv_goto (tgt := 244) hx hb dX5_proves_239 (by decide) ?_
  exact w_X5_proves_244 C0 hrc hk73 _ _ _ _ _ _ _ _ _ _ h _ _ _ hM hS (lv_sub hl [0, 1, 2, 3, 4, 5] rfl)
set_option maxHeartbeats 4000000 in
set_option maxRecDepth 100000 in
theorem w_X5_proves_159 (C0 : CX cX5_proves 10 (some .boolean) wsX5_proves RX5 p s m args meth c D b0) {dd : Nat} {rc : Nat → Int32 → Int32 → mmF → Option (Int32 × mmF)} (hrc : ∀ (u0 : Nat) (u1 : Int32) (u2 : Int32) (f : mmF) (r : Int32 × mmF), rc u0 u1 u2 f = some r → Met l yX5_proves wsX5_proves ({ frames := dd + 5, cells := 0, slots := 0, locals := dd * 30 + 119 } : Room) (va_Pc [.ref u0, .int u1, .int u2] (PW D b0 f sz)) (QW D b0 (some (.int r.1)) r.2 sz) 0 0 (fun q => b0 ≤ q)) {k73 : Nat → Int32 → Int32 → Int32 → Int32 → mmF → Option (Int32 × mmF)} {res : Int32 × mmF} (hk73 : ∀ (v0 : Nat) (v1 : Int32) (v3 : Int32) (v4 : Int32) (v5 : Int32) (f : mmF), k73 v0 v1 v3 v4 v5 f = some res → ∀ (H : Heap) (locs : List Loc) (ls : Array Slot), MM vwCl D b0 f sz s H → mS b0 s H locs → lv_has ls 10 [(0, .ref v0), (1, .int v1), (3, .int v3), (4, .int v4), (5, .int v5)] → W p l e ({ frames := (dd + 1) + 5, cells := 0, slots := 0, locals := (dd + 1) * 30 + 119 } : Room) s m args below meth c H locs 0 0 (MQ below (QW D b0 (some (.int res.1)) res.2 sz) args s 0 0 (fun q => b0 ≤ q)) (F0 m 73 ls [])) : ∀ (v0 : Nat) (v1 : Int32) (v3 : Int32) (v4 : Int32) (v5 : Int32) (v6 : Int32) (v7 : Int32) (v8 : Int32) (t0 : Nat) (t1 : Int32) (t2 : Int32) (f : mmF), f_X5_proves_159 rc k73 v0 v1 v3 v4 v5 v6 v7 v8 t0 t1 t2 f = some res → ∀ (H : Heap) (locs : List Loc) (ls : Array Slot), MM vwCl D b0 f sz s H → mS b0 s H locs → lv_has ls 10 [(0, .ref v0), (1, .int v1), (3, .int v3), (4, .int v4), (5, .int v5), (6, .int v6), (7, .int v7), (8, .int v8)] → W p l e ({ frames := (dd + 1) + 5, cells := 0, slots := 0, locals := (dd + 1) * 30 + 119 } : Room) s m args below meth c H locs 0 0 (MQ below (QW D b0 (some (.int res.1)) res.2 sz) args s 0 0 (fun q => b0 ≤ q)) (F0 m 159 ls [.int t2, .int t1, .ref t0]) := by
  obtain ⟨hx, hb, hr, hml, hown, hts, hlocks, hK⟩ := id C0
  intro v0 v1 v3 v4 v5 v6 v7 v8 t0 t1 t2 f h H locs ls hM hS hl
  unfold f_X5_proves_159 at h
  replace h := o_b h; obtain ⟨q159, h159, h⟩ := h
  refine m_call (va_runS (As := [.ref t0, .int t1, .int t2]) (rest := []) ⟨hx, hb, hml, hown, hts⟩ (hrc _ _ _ _ _ h159) (va_cwS 3 hts gX5_proves_X5_proves rfl rfl rfl (by decide +kernel) ⟨(by show dd + 5 + 1 ≤ dd + 1 + 5; omega), (by show 8 + (10 + 11) + (dd * 30 + 119) ≤ (dd + 1) * 30 + 119; omega)⟩) ⟨PW.blind, (fun U hU hW => ⟨rfl, PW.call hK hM hS hU hW⟩)⟩ rfl rfl hl.1 rfl (lv_room (Nat.le_of_ble_eq_true rfl)) dX5_proves_159 ⟨(Nat.le_refl _), (Nat.le_refl _)⟩) hS (fun H locs hM hS => ?_)
  refine lv_istore (lv' := [(9, .int q159.1), (0, .ref v0), (1, .int v1), (3, .int v3), (4, .int v4), (5, .int v5), (6, .int v6), (7, .int v7), (8, .int v8)]) hx hb dX5_proves_162 hl (by decide) rfl (fun ls hl => ?_)
  refine lv_aload_n hx hb dX5_proves_164 rfl (lv_at hl 1 rfl) ?_
  replace h := o_b h; obtain ⟨x165, h165, h⟩ := h
  refine m_get (C := RX5) (T := TX5) (N := 10) (ci := 5) hx hb hts qi_X5_proves_X5 hown hK.1 hM 2 (ldR_F h165) rfl (by decide) (hts _ q_X5_proves_1) (fun _ h9 => h9) dX5_proves_165 ?_
  refine lv_aload_n hx hb dX5_proves_168 rfl (lv_at hl 1 rfl) ?_
  replace h := o_b h; obtain ⟨x169, h169, h⟩ := h
  refine m_get (C := RX5) (T := TX5) (N := 10) (ci := 5) hx hb hts qi_X5_proves_X5 hown hK.1 hM 3 (ldR_F h169) rfl (by decide) (hts _ q_X5_proves_3) (fun _ h9 => h9) dX5_proves_169 ?_
  refine lv_iload_n hx hb dX5_proves_172 rfl (lv_at hl 2 rfl) ?_
  refine lv_iconst (v := (1 : Int32)) hx hb dX5_proves_173 (by decide) ?_
  refine lv_iadd hx hb dX5_proves_174 ?_
  replace h := o_b h; obtain ⟨x175, h175, h⟩ := h
  refine m_iald hx hb hK.1 hM hS rfl h175 dX5_proves_175 ?_
  replace h := o_b h; obtain ⟨_, k176, h⟩ := h
  replace h := o_b h; obtain ⟨q176, h176, h⟩ := h
  refine m_call (va_runV (As := [.int x175]) (rest := []) ⟨hx, hb, hml, hown, hts⟩ (c_X2_cutTo l D b0 sz h176) (cwV 1 hts gX5_proves_X2_cutTo rfl rfl rfl (by decide +kernel) ⟨(by show 2 + 1 ≤ dd + 1 + 5; omega), (by show 8 + (3 + 11) + (42) ≤ (dd + 1) * 30 + 119; omega)⟩) ⟨PW.blind, m_recv (ci := 2) rfl hK hM k176, (fun U hU hW => ⟨rfl, PW.call hK hM hS hU hW⟩)⟩ rfl rfl hl.1 rfl (lv_room (Nat.le_of_ble_eq_true rfl)) dX5_proves_176 ⟨(Nat.le_refl _), (Nat.le_refl _)⟩) hS (fun H locs hM hS => ?_)
  refine lv_iload hx hb dX5_proves_179 (lv_at hl 0 rfl) ?_
  refine lv_if_eq (tgt := 225) hx hb dX5_proves_181 (by decide) (fun c181 => ?_) (fun c181 => ?_)
  · replace h := o_t c181 h
    exact w_X5_proves_225 C0 hrc hk73 _ _ _ _ _ _ _ _ _ h _ _ _ hM hS (lv_sub hl [1, 2, 3, 4, 5, 6, 8, 0] rfl)
  replace h := o_f c181 h
  refine lv_iload hx hb dX5_proves_184 (lv_at hl 6 rfl) ?_
  refine lv_if_eq (tgt := 225) hx hb dX5_proves_186 (by decide) (fun c186 => ?_) (fun c186 => ?_)
  · replace h := o_t c186 h
    exact w_X5_proves_225 C0 hrc hk73 _ _ _ _ _ _ _ _ _ h _ _ _ hM hS (lv_sub hl [1, 2, 3, 4, 5, 6, 8, 0] rfl)
  replace h := o_f c186 h
  refine lv_aload_n hx hb dX5_proves_189 rfl (lv_at hl 1 rfl) ?_
  replace h := o_b h; obtain ⟨x190, h190, h⟩ := h
  refine m_get (C := RX5) (T := TX5) (N := 10) (ci := 5) hx hb hts qi_X5_proves_X5 hown hK.1 hM 4 (ldR_F h190) rfl (by decide) (hts _ q_X5_proves_2) (fun _ h9 => h9) dX5_proves_190 ?_
  refine lv_iload_n hx hb dX5_proves_193 rfl (lv_at hl 2 rfl) ?_
  refine lv_iconst (v := (1 : Int32)) hx hb dX5_proves_194 (by decide) ?_
  refine lv_iadd hx hb dX5_proves_195 ?_
  refine lv_iload hx hb dX5_proves_196 (lv_at hl 7 rfl) ?_
  replace h := o_b h; obtain ⟨_, k198, h⟩ := h
  replace h := o_b h; obtain ⟨q198, h198, h⟩ := h
  refine m_call (va_runV (As := [.int (v1 + (1 : Int32)), .int v7]) (rest := []) ⟨hx, hb, hml, hown, hts⟩ (c_X3_has l D b0 sz h198) (cwV 2 hts gX5_proves_X3_has rfl rfl rfl (by decide +kernel) ⟨(by show 0 + 1 ≤ dd + 1 + 5; omega), (by show 8 + (4 + 11) + (0) ≤ (dd + 1) * 30 + 119; omega)⟩) ⟨PW.blind, m_recv (ci := 3) rfl hK hM k198, (fun U hU hW => ⟨rfl, PW.call hK hM hS hU hW⟩)⟩ rfl rfl hl.1 rfl (lv_room (Nat.le_of_ble_eq_true rfl)) dX5_proves_198 ⟨(Nat.le_refl _), (Nat.le_refl _)⟩) hS (fun H locs hM hS => ?_)
  refine lv_if_ne (tgt := 225) hx hb dX5_proves_201 (by decide) (fun c201 => ?_) (fun c201 => ?_)
  · replace h := o_f c201 h
    exact w_X5_proves_225 C0 hrc hk73 _ _ _ _ _ _ _ _ _ h _ _ _ hM hS (lv_sub hl [1, 2, 3, 4, 5, 6, 8, 0] rfl)
  replace h := o_t c201 h
  refine lv_aload_n hx hb dX5_proves_204 rfl (lv_at hl 1 rfl) ?_
  replace h := o_b h; obtain ⟨x205, h205, h⟩ := h
  refine m_get (C := RX5) (T := TX5) (N := 10) (ci := 5) hx hb hts qi_X5_proves_X5 hown hK.1 hM 4 (ldR_F h205) rfl (by decide) (hts _ q_X5_proves_2) (fun _ h9 => h9) dX5_proves_205 ?_
  refine lv_iload_n hx hb dX5_proves_208 rfl (lv_at hl 2 rfl) ?_
  refine lv_aload_n hx hb dX5_proves_209 rfl (lv_at hl 1 rfl) ?_
  replace h := o_b h; obtain ⟨x210, h210, h⟩ := h
  refine m_get (C := RX5) (T := TX5) (N := 10) (ci := 5) hx hb hts qi_X5_proves_X5 hown hK.1 hM 4 (ldR_F h210) rfl (by decide) (hts _ q_X5_proves_2) (fun _ h9 => h9) dX5_proves_210 ?_
  refine lv_iload_n hx hb dX5_proves_213 rfl (lv_at hl 2 rfl) ?_
  refine lv_iconst (v := (1 : Int32)) hx hb dX5_proves_214 (by decide) ?_
  refine lv_iadd hx hb dX5_proves_215 ?_
  replace h := o_b h; obtain ⟨_, k216, h⟩ := h
  replace h := o_b h; obtain ⟨q216, h216, h⟩ := h
  refine m_call (va_runV (As := [.int v1, .ref x210, .int (v1 + (1 : Int32))]) (rest := []) ⟨hx, hb, hml, hown, hts⟩ (c_X3_copy l D b0 sz h216) (cwV 3 hts gX5_proves_X3_copy rfl rfl rfl (by decide +kernel) ⟨(by show 1 + 1 ≤ dd + 1 + 5; omega), (by show 8 + (5 + 11) + (25) ≤ (dd + 1) * 30 + 119; omega)⟩) ⟨PW.blind, m_recv (ci := 3) rfl hK hM k216, (fun U hU hW => ⟨rfl, PW.call hK hM hS hU hW⟩)⟩ rfl rfl hl.1 rfl (lv_room (Nat.le_of_ble_eq_true rfl)) dX5_proves_216 ⟨(Nat.le_refl _), (Nat.le_refl _)⟩) hS (fun H locs hM hS => ?_)
  refine lv_iconst (v := (-1 : Int32)) hx hb dX5_proves_219 (by decide) ?_
  refine lv_istore (lv' := [(4, .int (-1 : Int32)), (9, .int q159.1), (0, .ref v0), (1, .int v1), (3, .int v3), (5, .int v5), (6, .int v6), (7, .int v7), (8, .int v8)]) hx hb dX5_proves_220 hl (by decide) rfl (fun ls hl => ?_)
  refine lv_goto (tgt := 323) hx hb dX5_proves_222 (by decide) ?_
  exact w_X5_proves_323 C0 hrc hk73 _ _ _ _ _ _ h _ _ _ hM hS (lv_sub hl [2, 3, 4, 0, 5] rfl)
set_option maxHeartbeats 4000000 in
set_option maxRecDepth 100000 in
theorem w_X5_proves_107 (C0 : CX cX5_proves 10 (some .boolean) wsX5_proves RX5 p s m args meth c D b0) {dd : Nat} {rc : Nat → Int32 → Int32 → mmF → Option (Int32 × mmF)} (hrc : ∀ (u0 : Nat) (u1 : Int32) (u2 : Int32) (f : mmF) (r : Int32 × mmF), rc u0 u1 u2 f = some r → Met l yX5_proves wsX5_proves ({ frames := dd + 5, cells := 0, slots := 0, locals := dd * 30 + 119 } : Room) (va_Pc [.ref u0, .int u1, .int u2] (PW D b0 f sz)) (QW D b0 (some (.int r.1)) r.2 sz) 0 0 (fun q => b0 ≤ q)) {k73 : Nat → Int32 → Int32 → Int32 → Int32 → mmF → Option (Int32 × mmF)} {res : Int32 × mmF} (hk73 : ∀ (v0 : Nat) (v1 : Int32) (v3 : Int32) (v4 : Int32) (v5 : Int32) (f : mmF), k73 v0 v1 v3 v4 v5 f = some res → ∀ (H : Heap) (locs : List Loc) (ls : Array Slot), MM vwCl D b0 f sz s H → mS b0 s H locs → lv_has ls 10 [(0, .ref v0), (1, .int v1), (3, .int v3), (4, .int v4), (5, .int v5)] → W p l e ({ frames := (dd + 1) + 5, cells := 0, slots := 0, locals := (dd + 1) * 30 + 119 } : Room) s m args below meth c H locs 0 0 (MQ below (QW D b0 (some (.int res.1)) res.2 sz) args s 0 0 (fun q => b0 ≤ q)) (F0 m 73 ls [])) : ∀ (v0 : Nat) (v1 : Int32) (v3 : Int32) (v4 : Int32) (v5 : Int32) (t0 : Int32) (f : mmF), f_X5_proves_107 rc k73 v0 v1 v3 v4 v5 t0 f = some res → ∀ (H : Heap) (locs : List Loc) (ls : Array Slot), MM vwCl D b0 f sz s H → mS b0 s H locs → lv_has ls 10 [(0, .ref v0), (1, .int v1), (3, .int v3), (4, .int v4), (5, .int v5)] → W p l e ({ frames := (dd + 1) + 5, cells := 0, slots := 0, locals := (dd + 1) * 30 + 119 } : Room) s m args below meth c H locs 0 0 (MQ below (QW D b0 (some (.int res.1)) res.2 sz) args s 0 0 (fun q => b0 ≤ q)) (F0 m 107 ls [.int t0]) := by
  obtain ⟨hx, hb, hr, hml, hown, hts, hlocks, hK⟩ := id C0
  intro v0 v1 v3 v4 v5 t0 f h H locs ls hM hS hl
  unfold f_X5_proves_107 at h
  refine lv_istore (lv' := [(6, .int t0), (0, .ref v0), (1, .int v1), (3, .int v3), (4, .int v4), (5, .int v5)]) hx hb dX5_proves_107 hl (by decide) rfl (fun ls hl => ?_)
  refine lv_aload_n hx hb dX5_proves_109 rfl (lv_at hl 1 rfl) ?_
  replace h := o_b h; obtain ⟨x110, h110, h⟩ := h
  refine m_get (C := RX5) (T := TX5) (N := 10) (ci := 5) hx hb hts qi_X5_proves_X5 hown hK.1 hM 1 (ldR_F h110) rfl (by decide) (hts _ q_X5_proves_7) (fun _ h9 => h9) dX5_proves_110 ?_
  replace h := o_b h; obtain ⟨x113, h113, h⟩ := h
  refine m_get (C := RX4) (T := TX4) (N := 8) (ci := 4) hx hb hts qi_X5_proves_X4 hown hK.1 hM 2 (ldR_F h113) rfl (by decide) (hts _ q_X5_proves_9) (fun _ h9 => h9) dX5_proves_113 ?_
  refine lv_iload hx hb dX5_proves_116 (lv_at hl 4 rfl) ?_
  replace h := o_b h; obtain ⟨q118, h118, h⟩ := h
  refine m_call (va_runSN (As := [.ref x113, .int v4]) (rest := []) ⟨hx, hb, hml, hown, hts⟩ (c_X9_at l D b0 sz h118) ⟨(va_cnB 2 hts gX5_proves_X9_at_n111 rfl rfl rfl (hK.2.1 (RX5, 111, yX9_at, "StageTruths") (by decide)) (hts _ q_X5_proves_10) (by decide +kernel) ⟨(by show 0 + 1 ≤ dd + 1 + 5; omega), (by show 8 + (2 + 11) + (0) ≤ (dd + 1) * 30 + 119; omega)⟩), (hts _ q_X5_proves_11), trivial⟩ ⟨PW.blind, (fun U hU hW => ⟨rfl, PW.call hK hM hS hU hW⟩)⟩ rfl rfl hl.1 rfl (lv_room (Nat.le_of_ble_eq_true rfl)) dX5_proves_118 ⟨(Nat.le_refl _), (Nat.le_refl _)⟩) hS (fun H locs hM hS => ?_)
  refine lv_istore (lv' := [(7, .int q118), (6, .int t0), (0, .ref v0), (1, .int v1), (3, .int v3), (4, .int v4), (5, .int v5)]) hx hb dX5_proves_121 hl (by decide) rfl (fun ls hl => ?_)
  refine lv_aload_n hx hb dX5_proves_123 rfl (lv_at hl 2 rfl) ?_
  replace h := o_b h; obtain ⟨x124, h124, h⟩ := h
  refine m_get (C := RX5) (T := TX5) (N := 10) (ci := 5) hx hb hts qi_X5_proves_X5 hown hK.1 hM 1 (ldR_F h124) rfl (by decide) (hts _ q_X5_proves_7) (fun _ h9 => h9) dX5_proves_124 ?_
  replace h := o_b h; obtain ⟨x127, h127, h⟩ := h
  refine m_get (C := RX4) (T := TX4) (N := 8) (ci := 4) hx hb hts qi_X5_proves_X4 hown hK.1 hM 3 (ldR_F h127) rfl (by decide) (hts _ q_X5_proves_12) (fun _ h9 => h9) dX5_proves_127 ?_
  refine lv_iload hx hb dX5_proves_130 (lv_at hl 5 rfl) ?_
  replace h := o_b h; obtain ⟨q132, h132, h⟩ := h
  refine m_call (va_runSN (As := [.ref x127, .int v4]) (rest := []) ⟨hx, hb, hml, hown, hts⟩ (c_X9_at l D b0 sz h132) ⟨(va_cnB 2 hts gX5_proves_X9_at_n111 rfl rfl rfl (hK.2.1 (RX5, 111, yX9_at, "StageTruths") (by decide)) (hts _ q_X5_proves_10) (by decide +kernel) ⟨(by show 0 + 1 ≤ dd + 1 + 5; omega), (by show 8 + (2 + 11) + (0) ≤ (dd + 1) * 30 + 119; omega)⟩), (hts _ q_X5_proves_11), trivial⟩ ⟨PW.blind, (fun U hU hW => ⟨rfl, PW.call hK hM hS hU hW⟩)⟩ rfl rfl hl.1 rfl (lv_room (Nat.le_of_ble_eq_true rfl)) dX5_proves_132 ⟨(Nat.le_refl _), (Nat.le_refl _)⟩) hS (fun H locs hM hS => ?_)
  refine lv_istore (lv' := [(8, .int q132), (7, .int q118), (6, .int t0), (0, .ref v0), (1, .int v1), (3, .int v3), (4, .int v4), (5, .int v5)]) hx hb dX5_proves_135 hl (by decide) rfl (fun ls hl => ?_)
  refine lv_aload_n hx hb dX5_proves_137 rfl (lv_at hl 3 rfl) ?_
  refine lv_iload_n hx hb dX5_proves_138 rfl (lv_at hl 4 rfl) ?_
  refine lv_iload hx hb dX5_proves_139 (lv_at hl 1 rfl) ?_
  replace h := o_b h; obtain ⟨_, k141, h⟩ := h
  replace h := o_b h; obtain ⟨q141, h141, h⟩ := h
  refine m_call (va_runV (As := [.int v1, .int q118]) (rest := []) ⟨hx, hb, hml, hown, hts⟩ (c_X5_goDeeper l D b0 sz h141) (cwV 2 hts gX5_proves_X5_goDeeper rfl rfl rfl (by decide +kernel) ⟨(by show 4 + 1 ≤ dd + 1 + 5; omega), (by show 8 + (3 + 11) + (90) ≤ (dd + 1) * 30 + 119; omega)⟩) ⟨PW.blind, m_recv (ci := 5) rfl hK hM k141, (fun U hU hW => ⟨rfl, PW.call hK hM hS hU hW⟩)⟩ rfl rfl hl.1 rfl (lv_room (Nat.le_of_ble_eq_true rfl)) dX5_proves_141 ⟨(Nat.le_refl _), (Nat.le_refl _)⟩) hS (fun H locs hM hS => ?_)
  refine lv_aload_n hx hb dX5_proves_144 rfl (lv_at hl 3 rfl) ?_
  refine lv_iload_n hx hb dX5_proves_145 rfl (lv_at hl 4 rfl) ?_
  refine lv_iconst (v := (1 : Int32)) hx hb dX5_proves_146 (by decide) ?_
  refine lv_iadd hx hb dX5_proves_147 ?_
  refine lv_iload hx hb dX5_proves_148 (lv_at hl 2 rfl) ?_
  refine lv_if_eq (tgt := 157) hx hb dX5_proves_150 (by decide) (fun c150 => ?_) (fun c150 => ?_)
  · replace h := o_t c150 h
    refine lv_iload hx hb dX5_proves_157 (lv_at hl 0 rfl) ?_
    exact w_X5_proves_159 C0 hrc hk73 _ _ _ _ _ _ _ _ _ _ _ _ h _ _ _ hM hS (lv_sub hl [3, 4, 5, 6, 7, 2, 1, 0] rfl)
  replace h := o_f c150 h
  refine lv_iload_n hx hb dX5_proves_153 rfl (lv_at hl 5 rfl) ?_
  refine lv_goto (tgt := 159) hx hb dX5_proves_154 (by decide) ?_
  exact w_X5_proves_159 C0 hrc hk73 _ _ _ _ _ _ _ _ _ _ _ _ h _ _ _ hM hS (lv_sub hl [3, 4, 5, 6, 7, 2, 1, 0] rfl)
set_option maxHeartbeats 4000000 in
set_option maxRecDepth 100000 in
theorem w_X5_proves_73 (C0 : CX cX5_proves 10 (some .boolean) wsX5_proves RX5 p s m args meth c D b0) {dd : Nat} {rc : Nat → Int32 → Int32 → mmF → Option (Int32 × mmF)} (hrc : ∀ (u0 : Nat) (u1 : Int32) (u2 : Int32) (f : mmF) (r : Int32 × mmF), rc u0 u1 u2 f = some r → Met l yX5_proves wsX5_proves ({ frames := dd + 5, cells := 0, slots := 0, locals := dd * 30 + 119 } : Room) (va_Pc [.ref u0, .int u1, .int u2] (PW D b0 f sz)) (QW D b0 (some (.int r.1)) r.2 sz) 0 0 (fun q => b0 ≤ q)) {res : Int32 × mmF} : ∀ (n : Nat), ∀ (v0 : Nat) (v1 : Int32) (v3 : Int32) (v4 : Int32) (v5 : Int32) (f : mmF), f_X5_proves_73 rc n v0 v1 v3 v4 v5 f = some res → ∀ (H : Heap) (locs : List Loc) (ls : Array Slot), MM vwCl D b0 f sz s H → mS b0 s H locs → lv_has ls 10 [(0, .ref v0), (1, .int v1), (3, .int v3), (4, .int v4), (5, .int v5)] → W p l e ({ frames := (dd + 1) + 5, cells := 0, slots := 0, locals := (dd + 1) * 30 + 119 } : Room) s m args below meth c H locs 0 0 (MQ below (QW D b0 (some (.int res.1)) res.2 sz) args s 0 0 (fun q => b0 ≤ q)) (F0 m 73 ls []) := by
  obtain ⟨hx, hb, hr, hml, hown, hts, hlocks, hK⟩ := id C0
  intro n
  induction n with
  | zero =>
    intro v0 v1 v3 v4 v5 f h
    have h : (none : Option (Int32 × mmF)) = some res := h
    cases h
  | succ n ih =>
    intro v0 v1 v3 v4 v5 f h H locs ls hM hS hl
    rw [f_X5_proves_73] at h
    refine lv_iload hx hb dX5_proves_73 (lv_at hl 3 rfl) ?_
    refine lv_if_lt (tgt := 329) hx hb dX5_proves_75 (by decide) (fun c75 => ?_) (fun c75 => ?_)
    · replace h := o_t c75 h
      exact w_X5_proves_329 C0 hrc _ _ _ _ _ h _ _ _ hM hS (lv_sub hl [0, 1, 2, 3] rfl)
    replace h := o_f c75 h
    refine lv_iload hx hb dX5_proves_78 (lv_at hl 4 rfl) ?_
    refine lv_ldc (v := (1000000 : Int32)) hx hb hown (hts _ q_X5_proves_13) dX5_proves_80 ?_
    refine lv_icmp_ge (tgt := 329) hx hb dX5_proves_82 (by decide) (fun c82 => ?_) (fun c82 => ?_)
    · replace h := o_t c82 h
      exact w_X5_proves_329 C0 hrc _ _ _ _ _ h _ _ _ hM hS (lv_sub hl [0, 1, 2, 3] rfl)
    replace h := o_f c82 h
    refine lv_aload_n hx hb dX5_proves_85 rfl (lv_at hl 0 rfl) ?_
    replace h := o_b h; obtain ⟨x86, h86, h⟩ := h
    refine m_get (C := RX5) (T := TX5) (N := 10) (ci := 5) hx hb hts qi_X5_proves_X5 hown hK.1 hM 1 (ldR_F h86) rfl (by decide) (hts _ q_X5_proves_7) (fun _ h9 => h9) dX5_proves_86 ?_
    replace h := o_b h; obtain ⟨x89, h89, h⟩ := h
    refine m_get (C := RX4) (T := TX4) (N := 8) (ci := 4) hx hb hts qi_X5_proves_X4 hown hK.1 hM 1 (ldR_F h89) rfl (by decide) (hts _ q_X5_proves_14) (fun _ h9 => h9) dX5_proves_89 ?_
    refine lv_iload hx hb dX5_proves_92 (lv_at hl 3 rfl) ?_
    replace h := o_b h; obtain ⟨q94, h94, h⟩ := h
    refine m_call (va_runSN (As := [.ref x89, .int v4]) (rest := []) ⟨hx, hb, hml, hown, hts⟩ (c_X9_at l D b0 sz h94) ⟨(va_cnB 2 hts gX5_proves_X9_at_n111 rfl rfl rfl (hK.2.1 (RX5, 111, yX9_at, "StageTruths") (by decide)) (hts _ q_X5_proves_10) (by decide +kernel) ⟨(by show 0 + 1 ≤ dd + 1 + 5; omega), (by show 8 + (2 + 11) + (0) ≤ (dd + 1) * 30 + 119; omega)⟩), (hts _ q_X5_proves_11), trivial⟩ ⟨PW.blind, (fun U hU hW => ⟨rfl, PW.call hK hM hS hU hW⟩)⟩ rfl rfl hl.1 rfl (lv_room (Nat.le_of_ble_eq_true rfl)) dX5_proves_94 ⟨(Nat.le_refl _), (Nat.le_refl _)⟩) hS (fun H locs hM hS => ?_)
    refine lv_bipush (v := (8 : Int32)) hx hb dX5_proves_97 (by decide) ?_
    refine lv_icmp_ne (tgt := 106) hx hb dX5_proves_99 (by decide) (fun c99 => ?_) (fun c99 => ?_)
    · replace h := o_f c99 h
      refine lv_iconst (v := (0 : Int32)) hx hb dX5_proves_106 (by decide) ?_
      exact w_X5_proves_107 C0 hrc ih _ _ _ _ _ _ _ h _ _ _ hM hS (lv_sub hl [0, 1, 2, 3, 4] rfl)
    replace h := o_t c99 h
    refine lv_iconst (v := (1 : Int32)) hx hb dX5_proves_102 (by decide) ?_
    refine lv_goto (tgt := 107) hx hb dX5_proves_103 (by decide) ?_
    exact w_X5_proves_107 C0 hrc ih _ _ _ _ _ _ _ h _ _ _ hM hS (lv_sub hl [0, 1, 2, 3, 4] rfl)
set_option maxHeartbeats 4000000 in
set_option maxRecDepth 100000 in
theorem w_X5_proves (C0 : CX cX5_proves 10 (some .boolean) wsX5_proves RX5 p s m args meth c D b0) {dd : Nat} (hrc : ∀ (u0 : Nat) (u1 : Int32) (u2 : Int32) (f : mmF) (r : Int32 × mmF), f_X5_proves dd u0 u1 u2 f = some r → Met l yX5_proves wsX5_proves ({ frames := dd + 5, cells := 0, slots := 0, locals := dd * 30 + 119 } : Room) (va_Pc [.ref u0, .int u1, .int u2] (PW D b0 f sz)) (QW D b0 (some (.int r.1)) r.2 sz) 0 0 (fun q => b0 ≤ q)){v0 : Nat} {v1 : Int32} {v2 : Int32} {res : Int32 × mmF} (h : f_X5_proves (dd + 1) v0 v1 v2 f = some res) : ∀ (H : Heap) (locs : List Loc) (ls : Array Slot), MM vwCl D b0 f sz s H → mS b0 s H locs → lv_has ls 10 [(0, .ref v0), (1, .int v1), (2, .int v2)] → W p l e ({ frames := (dd + 1) + 5, cells := 0, slots := 0, locals := (dd + 1) * 30 + 119 } : Room) s m args below meth c H locs 0 0 (MQ below (QW D b0 (some (.int res.1)) res.2 sz) args s 0 0 (fun q => b0 ≤ q)) (F0 m 0 ls []) := by
  obtain ⟨hx, hb, hr, hml, hown, hts, hlocks, hK⟩ := id C0
  intro H locs ls hM hS hl
  rw [f_X5_proves] at h
  refine lv_iload_n hx hb dX5_proves_0 rfl (lv_at hl 1 rfl) ?_
  refine lv_if_lt (tgt := 13) hx hb dX5_proves_1 (by decide) (fun c1 => ?_) (fun c1 => ?_)
  · replace h := o_t c1 h
    refine lv_iconst (v := (0 : Int32)) hx hb dX5_proves_13 (by decide) ?_
    replace h := Option.some.inj h; subst h
    exact W.zret hx hb hr rfl (fun t ht hW => ⟨rfl, by rw [ht]; exact hM.moved hW.alike, hS.F ht⟩) hS.2.2 dX5_proves_14
  replace h := o_f c1 h
  refine lv_iload_n hx hb dX5_proves_4 rfl (lv_at hl 1 rfl) ?_
  refine lv_iconst (v := (1 : Int32)) hx hb dX5_proves_5 (by decide) ?_
  refine lv_iadd hx hb dX5_proves_6 ?_
  refine lv_sipush (v := (153 : Int32)) hx hb dX5_proves_7 (by decide) ?_
  refine lv_icmp_lt (tgt := 15) hx hb dX5_proves_10 (by decide) (fun c10 => ?_) (fun c10 => ?_)
  · replace h := o_t c10 h
    refine lv_aload_n hx hb dX5_proves_15 rfl (lv_at hl 0 rfl) ?_
    refine lv_iload_n hx hb dX5_proves_16 rfl (lv_at hl 1 rfl) ?_
    refine lv_iload_n hx hb dX5_proves_17 rfl (lv_at hl 2 rfl) ?_
    replace h := o_b h; obtain ⟨_, k18, h⟩ := h
    replace h := o_b h; obtain ⟨q18, h18, h⟩ := h
    refine m_call (va_runV (As := [.int v1, .int v2]) (rest := []) ⟨hx, hb, hml, hown, hts⟩ (c_X5_openGoal l D b0 sz h18) (cwV 2 hts gX5_proves_X5_openGoal rfl rfl rfl (by decide +kernel) ⟨(by show 4 + 1 ≤ dd + 1 + 5; omega), (by show 8 + (5 + 11) + (90) ≤ (dd + 1) * 30 + 119; omega)⟩) ⟨PW.blind, m_recv (ci := 5) rfl hK hM k18, (fun U hU hW => ⟨rfl, PW.call hK hM hS hU hW⟩)⟩ rfl rfl hl.1 rfl (lv_room (Nat.le_of_ble_eq_true rfl)) dX5_proves_18 ⟨(Nat.le_refl _), (Nat.le_refl _)⟩) hS (fun H locs hM hS => ?_)
    refine lv_istore_n (lv' := [(3, .int q18.1), (0, .ref v0), (1, .int v1), (2, .int v2)]) hx hb dX5_proves_21 rfl hl (by decide) rfl (fun ls hl => ?_)
    refine lv_aload_n hx hb dX5_proves_22 rfl (lv_at hl 1 rfl) ?_
    refine lv_iload_n hx hb dX5_proves_23 rfl (lv_at hl 2 rfl) ?_
    refine lv_iload_n hx hb dX5_proves_24 rfl (lv_at hl 0 rfl) ?_
    replace h := o_b h; obtain ⟨_, k25, h⟩ := h
    replace h := o_b h; obtain ⟨q25, h25, h⟩ := h
    refine m_call (va_runV (As := [.int v1, .int q18.1]) (rest := []) ⟨hx, hb, hml, hown, hts⟩ (c_X5_meetsSingle l D b0 sz h25) (cwV 2 hts gX5_proves_X5_meetsSingle rfl rfl rfl (by decide +kernel) ⟨(by show 2 + 1 ≤ dd + 1 + 5; omega), (by show 8 + (6 + 11) + (42) ≤ (dd + 1) * 30 + 119; omega)⟩) ⟨PW.blind, m_recv (ci := 5) rfl hK hM k25, (fun U hU hW => ⟨rfl, PW.call hK hM hS hU hW⟩)⟩ rfl rfl hl.1 rfl (lv_room (Nat.le_of_ble_eq_true rfl)) dX5_proves_25 ⟨(Nat.le_refl _), (Nat.le_refl _)⟩) hS (fun H locs hM hS => ?_)
    refine lv_if_ne (tgt := 40) hx hb dX5_proves_28 (by decide) (fun c28 => ?_) (fun c28 => ?_)
    · replace h := o_f c28 h
      refine lv_iconst (v := (0 : Int32)) hx hb dX5_proves_40 (by decide) ?_
      replace h := Option.some.inj h; subst h
      exact W.zret hx hb hr rfl (fun t ht hW => ⟨rfl, by rw [ht]; exact hM.moved hW.alike, hS.F ht⟩) hS.2.2 dX5_proves_41
    replace h := o_t c28 h
    refine lv_aload_n hx hb dX5_proves_31 rfl (lv_at hl 1 rfl) ?_
    refine lv_iload_n hx hb dX5_proves_32 rfl (lv_at hl 2 rfl) ?_
    refine lv_iload_n hx hb dX5_proves_33 rfl (lv_at hl 0 rfl) ?_
    replace h := o_b h; obtain ⟨_, k34, h⟩ := h
    replace h := o_b h; obtain ⟨q34, h34, h⟩ := h
    refine m_call (va_runV (As := [.int v1, .int q18.1]) (rest := []) ⟨hx, hb, hml, hown, hts⟩ (c_X5_hasMet l D b0 sz h34) (cwV 2 hts gX5_proves_X5_hasMet rfl rfl rfl (by decide +kernel) ⟨(by show 2 + 1 ≤ dd + 1 + 5; omega), (by show 8 + (4 + 11) + (49) ≤ (dd + 1) * 30 + 119; omega)⟩) ⟨PW.blind, m_recv (ci := 5) rfl hK hM k34, (fun U hU hW => ⟨rfl, PW.call hK hM hS hU hW⟩)⟩ rfl rfl hl.1 rfl (lv_room (Nat.le_of_ble_eq_true rfl)) dX5_proves_34 ⟨(Nat.le_refl _), (Nat.le_refl _)⟩) hS (fun H locs hM hS => ?_)
    refine lv_if_eq (tgt := 42) hx hb dX5_proves_37 (by decide) (fun c37 => ?_) (fun c37 => ?_)
    · replace h := o_t c37 h
      refine lv_aload_n hx hb dX5_proves_42 rfl (lv_at hl 1 rfl) ?_
      refine lv_iload_n hx hb dX5_proves_43 rfl (lv_at hl 2 rfl) ?_
      refine lv_iload_n hx hb dX5_proves_44 rfl (lv_at hl 0 rfl) ?_
      replace h := o_b h; obtain ⟨_, k45, h⟩ := h
      replace h := o_b h; obtain ⟨q45, h45, h⟩ := h
      refine m_call (va_runV (As := [.int v1, .int q18.1]) (rest := []) ⟨hx, hb, hml, hown, hts⟩ (c_X5_failsAtAllLast l D b0 sz h45) (cwV 2 hts gX5_proves_X5_failsAtAllLast rfl rfl rfl (by decide +kernel) ⟨(by show 3 + 1 ≤ dd + 1 + 5; omega), (by show 8 + (6 + 11) + (67) ≤ (dd + 1) * 30 + 119; omega)⟩) ⟨PW.blind, m_recv (ci := 5) rfl hK hM k45, (fun U hU hW => ⟨rfl, PW.call hK hM hS hU hW⟩)⟩ rfl rfl hl.1 rfl (lv_room (Nat.le_of_ble_eq_true rfl)) dX5_proves_45 ⟨(Nat.le_refl _), (Nat.le_refl _)⟩) hS (fun H locs hM hS => ?_)
      refine lv_if_ne (tgt := 60) hx hb dX5_proves_48 (by decide) (fun c48 => ?_) (fun c48 => ?_)
      · replace h := o_f c48 h
        refine lv_iconst (v := (1 : Int32)) hx hb dX5_proves_60 (by decide) ?_
        replace h := Option.some.inj h; subst h
        exact W.zret hx hb hr rfl (fun t ht hW => ⟨rfl, by rw [ht]; exact hM.moved hW.alike, hS.F ht⟩) hS.2.2 dX5_proves_61
      replace h := o_t c48 h
      refine lv_aload_n hx hb dX5_proves_51 rfl (lv_at hl 1 rfl) ?_
      refine lv_iload_n hx hb dX5_proves_52 rfl (lv_at hl 2 rfl) ?_
      refine lv_iload_n hx hb dX5_proves_53 rfl (lv_at hl 0 rfl) ?_
      replace h := o_b h; obtain ⟨_, k54, h⟩ := h
      replace h := o_b h; obtain ⟨q54, h54, h⟩ := h
      refine m_call (va_runV (As := [.int v1, .int q18.1]) (rest := []) ⟨hx, hb, hml, hown, hts⟩ (c_X5_hasProved l D b0 sz h54) (cwV 2 hts gX5_proves_X5_hasProved rfl rfl rfl (by decide +kernel) ⟨(by show 2 + 1 ≤ dd + 1 + 5; omega), (by show 8 + (4 + 11) + (49) ≤ (dd + 1) * 30 + 119; omega)⟩) ⟨PW.blind, m_recv (ci := 5) rfl hK hM k54, (fun U hU hW => ⟨rfl, PW.call hK hM hS hU hW⟩)⟩ rfl rfl hl.1 rfl (lv_room (Nat.le_of_ble_eq_true rfl)) dX5_proves_54 ⟨(Nat.le_refl _), (Nat.le_refl _)⟩) hS (fun H locs hM hS => ?_)
      refine lv_if_eq (tgt := 62) hx hb dX5_proves_57 (by decide) (fun c57 => ?_) (fun c57 => ?_)
      · replace h := o_t c57 h
        refine lv_aload_n hx hb dX5_proves_62 rfl (lv_at hl 1 rfl) ?_
        refine lv_iload_n hx hb dX5_proves_63 rfl (lv_at hl 2 rfl) ?_
        refine lv_iload_n hx hb dX5_proves_64 rfl (lv_at hl 0 rfl) ?_
        replace h := o_b h; obtain ⟨_, k65, h⟩ := h
        replace h := o_b h; obtain ⟨q65, h65, h⟩ := h
        refine m_call (va_runV (As := [.int v1, .int q18.1]) (rest := []) ⟨hx, hb, hml, hown, hts⟩ (c_X5_firstTrial l D b0 sz h65) (cwV 2 hts gX5_proves_X5_firstTrial rfl rfl rfl (by decide +kernel) ⟨(by show 4 + 1 ≤ dd + 1 + 5; omega), (by show 8 + (4 + 11) + (96) ≤ (dd + 1) * 30 + 119; omega)⟩) ⟨PW.blind, m_recv (ci := 5) rfl hK hM k65, (fun U hU hW => ⟨rfl, PW.call hK hM hS hU hW⟩)⟩ rfl rfl hl.1 rfl (lv_room (Nat.le_of_ble_eq_true rfl)) dX5_proves_65 ⟨(Nat.le_refl _), (Nat.le_refl _)⟩) hS (fun H locs hM hS => ?_)
        refine lv_istore (lv' := [(4, .int q65.1), (3, .int q18.1), (0, .ref v0), (1, .int v1), (2, .int v2)]) hx hb dX5_proves_68 hl (by decide) rfl (fun ls hl => ?_)
        refine lv_iconst (v := (0 : Int32)) hx hb dX5_proves_70 (by decide) ?_
        refine lv_istore (lv' := [(5, .int (0 : Int32)), (4, .int q65.1), (3, .int q18.1), (0, .ref v0), (1, .int v1), (2, .int v2)]) hx hb dX5_proves_71 hl (by decide) rfl (fun ls hl => ?_)
        exact w_X5_proves_73 C0 hrc FU _ _ _ _ _ _ h _ _ _ hM hS (lv_sub hl [3, 4, 2, 1, 0] rfl)
      replace h := o_f c57 h
      refine lv_iconst (v := (1 : Int32)) hx hb dX5_proves_60 (by decide) ?_
      replace h := Option.some.inj h; subst h
      exact W.zret hx hb hr rfl (fun t ht hW => ⟨rfl, by rw [ht]; exact hM.moved hW.alike, hS.F ht⟩) hS.2.2 dX5_proves_61
    replace h := o_f c37 h
    refine lv_iconst (v := (0 : Int32)) hx hb dX5_proves_40 (by decide) ?_
    replace h := Option.some.inj h; subst h
    exact W.zret hx hb hr rfl (fun t ht hW => ⟨rfl, by rw [ht]; exact hM.moved hW.alike, hS.F ht⟩) hS.2.2 dX5_proves_41
  replace h := o_f c10 h
  refine lv_iconst (v := (0 : Int32)) hx hb dX5_proves_13 (by decide) ?_
  replace h := Option.some.inj h; subst h
  exact W.zret hx hb hr rfl (fun t ht hW => ⟨rfl, by rw [ht]; exact hM.moved hW.alike, hS.F ht⟩) hS.2.2 dX5_proves_14
set_option maxHeartbeats 4000000 in
set_option maxRecDepth 100000 in
theorem c_X5_proves_n (l : Launch) (D : mmD) (b0 sz : Nat) : ∀ (n : Nat) (v0 : Nat) (v1 : Int32) (v2 : Int32) (f : mmF) (res : Int32 × mmF), f_X5_proves n v0 v1 v2 f = some res → Met l yX5_proves wsX5_proves ({ frames := n + 5, cells := 0, slots := 0, locals := n * 30 + 119 } : Room) (va_Pc [.ref v0, .int v1, .int v2] (PW D b0 f sz)) (QW D b0 (some (.int res.1)) res.2 sz) 0 0 (fun q => b0 ≤ q) := by
  intro n
  induction n with
  | zero =>
    intro v0 v1 v2 f res h
    have h : (none : Option (Int32 × mmF)) = some res := h
    cases h
  | succ n ih =>
    intro v0 v1 v2 f res h
    refine Met.ofW (cc := cX5_proves) (maxL := 10) (ret := (some .boolean)) (by decide) rfl ?_
    intro p e s m args below meth c s₁ B hml hv
    obtain ⟨rfl, hM, hK⟩ := hv
    have hl := lv_entry ([.ref v0, .int v1, .int v2]) (n := 10) (Nat.le_of_ble_eq_true rfl)
    rw [lg_entry_eq]
    generalize (lg_sl ([.ref v0, .int v1, .int v2]) ++ List.replicate (10 - (lg_sl ([.ref v0, .int v1, .int v2])).length) Slot.unset).toArray = ls at hl ⊢
    have hl : lv_has ls 10 [(0, .ref v0), (1, .int v1), (2, .int v2)] := hl
    exact w_X5_proves ⟨B.exec, B.bytes, B.returns, hml, findClass_of_methodNamed B.named, atoms_spec (ws := wsX5_proves) B.pre, B.notSynchronized, hK⟩ ih h s.heap [] ls hM va_S.rf hl
theorem c_X5_proves (l : Launch) (D : mmD) (b0 sz : Nat) {v0 : Nat} {v1 : Int32} {v2 : Int32} {f : mmF} {res : Int32 × mmF} (h : f_X5_proves 160 v0 v1 v2 f = some res) : Met l yX5_proves wsX5_proves ({ frames := 160 + 5, cells := 0, slots := 0, locals := 160 * 30 + 119 } : Room) (va_Pc [.ref v0, .int v1, .int v2] (PW D b0 f sz)) (QW D b0 (some (.int res.1)) res.2 sz) 0 0 (fun q => b0 ≤ q) := c_X5_proves_n l D b0 sz 160 v0 v1 v2 f res h
end S_X5_proves
/-! X5_isFound -/
set_option maxRecDepth 20000 in
theorem qi_X5_isFound_X5 : ∀ w ∈ u_ws RX5 TX5 10, w ∈ wsX5_isFound := by decide +kernel
set_option maxRecDepth 20000 in
theorem q_X5_isFound_1 : Cond.fieldLink RX5 24 "StageTruths$Proof" "parts" "LStageTruths$Parts;" ∈ wsX5_isFound := by decide +kernel
set_option maxRecDepth 20000 in
theorem q_X5_isFound_2 : Cond.initialized RX9 ∈ wsX5_isFound := by decide +kernel
set_option maxRecDepth 20000 in
theorem q_X5_isFound_3 : Cond.static yX9_has ∈ wsX5_isFound := by decide +kernel
set_option maxRecDepth 20000 in
theorem q_X5_isFound_4 : Cond.fieldLink RX5 30 "StageTruths$Proof" "known" "LStageTruths$Known;" ∈ wsX5_isFound := by decide +kernel
set_option maxRecDepth 20000 in
theorem q_X5_isFound_5 : Cond.fieldLink RX5 34 "StageTruths$Proof" "starts" "[I" ∈ wsX5_isFound := by decide +kernel
set_option maxRecDepth 20000 in
theorem q_X5_isFound_6 : Cond.fieldLink RX5 53 "StageTruths$Proof" "singles" "[I" ∈ wsX5_isFound := by decide +kernel
noncomputable def f_X5_isFound_56 (k30 : Nat → Int32 → Int32 → Int32 → mmF → Option (Int32 × mmF))  (v0 : Nat) (v1 : Int32) (v2 : Int32) (v3 : Int32) (f : mmF) : Option (Int32 × mmF) :=
  k30 v0 v1 v2 (v3 + (1 : Int32)) f
noncomputable def f_X5_isFound_30   : Nat → Nat → Int32 → Int32 → Int32 → mmF → Option (Int32 × mmF)
  | 0, _, _, _, _, _ => none
  | n + 1, v0, v1, v2, v3, f =>
    if (5 : Int32) ≤ v3 then
    ((ldR f v0 5 1).bind fun x65 =>
    (ckO f x65 4).bind fun _ =>
    (f_X4_whole x65 v2 f).bind fun q69 =>
    (f_X5_proves 160 v0 (0 : Int32) q69 f).bind fun q72 =>
    (rz q72.1).bind fun z75 =>
    some (z75, q72.2))
    else
    (f_X9_has v1 v3 f).bind fun q37 =>
    if q37 = 0 then
    (f_X5_isFound_56 (fun a0 a1 a2 a3 a4 => f_X5_isFound_30 n a0 a1 a2 a3 a4) v0 v1 v2 v3 f)
    else
    (ldR f v0 5 1).bind fun x46 =>
    (ckO f x46 4).bind fun _ =>
    (f_X4_whole x46 v3 f).bind fun q50 =>
    (ckO f v0 5).bind fun _ =>
    (f_X5_assume v0 (0 : Int32) q50 f).bind fun q53 =>
    f_X5_isFound_56 (fun a0 a1 a2 a3 a4 => f_X5_isFound_30 n a0 a1 a2 a3 a4) v0 v1 v2 v3 q53
noncomputable def f_X5_isFound (v0 : Nat) (v1 : Int32) (v2 : Int32) (f : mmF) : Option (Int32 × mmF) :=
  (ldR f v0 5 2).bind fun x1 =>
  (ckO f x1 2).bind fun _ =>
  (f_X2_cutTo x1 (0 : Int32) f).bind fun q5 =>
  (ldR q5 v0 5 3).bind fun x9 =>
  (stA 0 q5 x9 (0 : Int32) (0 : Int32)).bind fun f14 =>
  (ldR f14 v0 5 7).bind fun x16 =>
  (stA 0 f14 x16 (0 : Int32) (-1 : Int32)).bind fun f21 =>
  (ckO f21 v0 5).bind fun _ =>
  (f_X5_assume v0 (0 : Int32) (4 : Int32) f21).bind fun q25 =>
  f_X5_isFound_30 FU v0 v1 v2 (0 : Int32) q25
section S_X5_isFound
variable {p : Program} {l : Launch} {e : Env} {s : State} {m : MethodId} {args : Array Value} {below : List Frame} {meth : Method} {c : Code} {D : mmD} {b0 sz : Nat} {f : mmF}
set_option maxHeartbeats 4000000 in
set_option maxRecDepth 100000 in
theorem w_X5_isFound_56 (C0 : CX cX5_isFound 4 (some .boolean) wsX5_isFound RX5 p s m args meth c D b0) {k30 : Nat → Int32 → Int32 → Int32 → mmF → Option (Int32 × mmF)} {res : Int32 × mmF} (hk30 : ∀ (v0 : Nat) (v1 : Int32) (v2 : Int32) (v3 : Int32) (f : mmF), k30 v0 v1 v2 v3 f = some res → ∀ (H : Heap) (locs : List Loc) (ls : Array Slot), MM vwCl D b0 f sz s H → mS b0 s H locs → lv_has ls 4 [(0, .ref v0), (1, .int v1), (2, .int v2), (3, .int v3)] → W p l e ({ frames := 166, cells := 0, slots := 0, locals := 4948 } : Room) s m args below meth c H locs 0 0 (MQ below (QW D b0 (some (.int res.1)) res.2 sz) args s 0 0 (fun q => b0 ≤ q)) (F0 m 30 ls [])) : ∀ (v0 : Nat) (v1 : Int32) (v2 : Int32) (v3 : Int32) (f : mmF), f_X5_isFound_56 k30 v0 v1 v2 v3 f = some res → ∀ (H : Heap) (locs : List Loc) (ls : Array Slot), MM vwCl D b0 f sz s H → mS b0 s H locs → lv_has ls 4 [(0, .ref v0), (1, .int v1), (2, .int v2), (3, .int v3)] → W p l e ({ frames := 166, cells := 0, slots := 0, locals := 4948 } : Room) s m args below meth c H locs 0 0 (MQ below (QW D b0 (some (.int res.1)) res.2 sz) args s 0 0 (fun q => b0 ≤ q)) (F0 m 56 ls []) := by
  obtain ⟨hx, hb, hr, hml, hown, hts, hlocks, hK⟩ := id C0
  intro v0 v1 v2 v3 f h H locs ls hM hS hl
  unfold f_X5_isFound_56 at h
  refine lv_iinc (v := (v3 + (1 : Int32))) (lv' := [(3, .int (v3 + (1 : Int32))), (0, .ref v0), (1, .int v1), (2, .int v2)]) hx hb dX5_isFound_56 hl (k := 3) rfl rfl (by decide) rfl (fun ls hl => ?_)
  refine lv_goto (tgt := 30) hx hb dX5_isFound_59 (by decide) ?_
  exact hk30 _ _ _ _ _ h _ _ _ hM hS (lv_sub hl [1, 2, 3, 0] rfl)
set_option maxHeartbeats 4000000 in
set_option maxRecDepth 100000 in
theorem w_X5_isFound_30 (C0 : CX cX5_isFound 4 (some .boolean) wsX5_isFound RX5 p s m args meth c D b0) {res : Int32 × mmF} : ∀ (n : Nat), ∀ (v0 : Nat) (v1 : Int32) (v2 : Int32) (v3 : Int32) (f : mmF), f_X5_isFound_30 n v0 v1 v2 v3 f = some res → ∀ (H : Heap) (locs : List Loc) (ls : Array Slot), MM vwCl D b0 f sz s H → mS b0 s H locs → lv_has ls 4 [(0, .ref v0), (1, .int v1), (2, .int v2), (3, .int v3)] → W p l e ({ frames := 166, cells := 0, slots := 0, locals := 4948 } : Room) s m args below meth c H locs 0 0 (MQ below (QW D b0 (some (.int res.1)) res.2 sz) args s 0 0 (fun q => b0 ≤ q)) (F0 m 30 ls []) := by
  obtain ⟨hx, hb, hr, hml, hown, hts, hlocks, hK⟩ := id C0
  intro n
  induction n with
  | zero =>
    intro v0 v1 v2 v3 f h
    have h : (none : Option (Int32 × mmF)) = some res := h
    cases h
  | succ n ih =>
    intro v0 v1 v2 v3 f h H locs ls hM hS hl
    rw [f_X5_isFound_30] at h
    refine lv_iload_n hx hb dX5_isFound_30 rfl (lv_at hl 3 rfl) ?_
    refine lv_iconst (v := (5 : Int32)) hx hb dX5_isFound_31 (by decide) ?_
    refine lv_icmp_ge (tgt := 62) hx hb dX5_isFound_32 (by decide) (fun c32 => ?_) (fun c32 => ?_)
    · replace h := o_t c32 h
      refine lv_aload_n hx hb dX5_isFound_62 rfl (lv_at hl 0 rfl) ?_
      refine lv_iconst (v := (0 : Int32)) hx hb dX5_isFound_63 (by decide) ?_
      refine lv_aload_n hx hb dX5_isFound_64 rfl (lv_at hl 0 rfl) ?_
      replace h := o_b h; obtain ⟨x65, h65, h⟩ := h
      refine m_get (C := RX5) (T := TX5) (N := 10) (ci := 5) hx hb hts qi_X5_isFound_X5 hown hK.1 hM 1 (ldR_F h65) rfl (by decide) (hts _ q_X5_isFound_1) (fun _ h9 => h9) dX5_isFound_65 ?_
      refine lv_iload_n hx hb dX5_isFound_68 rfl (lv_at hl 2 rfl) ?_
      replace h := o_b h; obtain ⟨_, k69, h⟩ := h
      replace h := o_b h; obtain ⟨q69, h69, h⟩ := h
      refine m_call (va_runV (As := [.int v2]) (rest := [.int (0 : Int32), .ref v0]) ⟨hx, hb, hml, hown, hts⟩ (c_X4_whole l D b0 sz h69) (cwV 1 hts gX5_isFound_X4_whole rfl rfl rfl (by decide +kernel) ⟨Nat.le_of_ble_eq_true rfl, Nat.le_of_ble_eq_true rfl⟩) ⟨PW.blind, m_recv (ci := 4) rfl hK hM k69, (fun U hU hW => ⟨rfl, PW.call hK hM hS hU hW⟩)⟩ rfl rfl hl.1 rfl (lv_room (Nat.le_of_ble_eq_true rfl)) dX5_isFound_69 ⟨(Nat.le_refl _), (Nat.le_refl _)⟩) hS (fun H locs hM hS => ?_)
      replace h := o_b h; obtain ⟨q72, h72, h⟩ := h
      refine m_call (va_runS (As := [.ref v0, .int (0 : Int32), .int q69]) (rest := []) ⟨hx, hb, hml, hown, hts⟩ (c_X5_proves l D b0 sz h72) (va_cwS 3 hts gX5_isFound_X5_proves rfl rfl rfl (by decide +kernel) ⟨Nat.le_of_ble_eq_true rfl, Nat.le_of_ble_eq_true rfl⟩) ⟨PW.blind, (fun U hU hW => ⟨rfl, PW.call hK hM hS hU hW⟩)⟩ rfl rfl hl.1 rfl (lv_room (Nat.le_of_ble_eq_true rfl)) dX5_isFound_72 ⟨(Nat.le_refl _), (Nat.le_refl _)⟩) hS (fun H locs hM hS => ?_)
      replace h := o_b h; obtain ⟨z75, hz75, h⟩ := h
      obtain ⟨ez75, nz75⟩ := rz_at hz75
      subst ez75
      replace h := Option.some.inj h; subst h
      exact W.zret hx hb hr nz75 (fun t ht hW => ⟨rfl, by rw [ht]; exact hM.moved hW.alike, hS.F ht⟩) hS.2.2 dX5_isFound_75
    replace h := o_f c32 h
    refine lv_iload_n hx hb dX5_isFound_35 rfl (lv_at hl 1 rfl) ?_
    refine lv_iload_n hx hb dX5_isFound_36 rfl (lv_at hl 3 rfl) ?_
    replace h := o_b h; obtain ⟨q37, h37, h⟩ := h
    refine m_call (va_runSN (As := [.int v1, .int v3]) (rest := []) ⟨hx, hb, hml, hown, hts⟩ (c_X9_has l D b0 sz h37) ⟨(va_cnB 2 hts gX5_isFound_X9_has_n76 rfl rfl rfl (hK.2.1 (RX5, 76, yX9_has, "StageTruths") (by decide)) (hts _ q_X5_isFound_2) (by decide +kernel) ⟨Nat.le_of_ble_eq_true rfl, Nat.le_of_ble_eq_true rfl⟩), (hts _ q_X5_isFound_3), trivial⟩ ⟨PW.blind, (fun U hU hW => ⟨rfl, PW.call hK hM hS hU hW⟩)⟩ rfl rfl hl.1 rfl (lv_room (Nat.le_of_ble_eq_true rfl)) dX5_isFound_37 ⟨(Nat.le_refl _), (Nat.le_refl _)⟩) hS (fun H locs hM hS => ?_)
    refine lv_if_eq (tgt := 56) hx hb dX5_isFound_40 (by decide) (fun c40 => ?_) (fun c40 => ?_)
    · replace h := o_t c40 h
      exact w_X5_isFound_56 C0 ih _ _ _ _ _ h _ _ _ hM hS (lv_sub hl [0, 1, 2, 3] rfl)
    replace h := o_f c40 h
    refine lv_aload_n hx hb dX5_isFound_43 rfl (lv_at hl 0 rfl) ?_
    refine lv_iconst (v := (0 : Int32)) hx hb dX5_isFound_44 (by decide) ?_
    refine lv_aload_n hx hb dX5_isFound_45 rfl (lv_at hl 0 rfl) ?_
    replace h := o_b h; obtain ⟨x46, h46, h⟩ := h
    refine m_get (C := RX5) (T := TX5) (N := 10) (ci := 5) hx hb hts qi_X5_isFound_X5 hown hK.1 hM 1 (ldR_F h46) rfl (by decide) (hts _ q_X5_isFound_1) (fun _ h9 => h9) dX5_isFound_46 ?_
    refine lv_iload_n hx hb dX5_isFound_49 rfl (lv_at hl 3 rfl) ?_
    replace h := o_b h; obtain ⟨_, k50, h⟩ := h
    replace h := o_b h; obtain ⟨q50, h50, h⟩ := h
    refine m_call (va_runV (As := [.int v3]) (rest := [.int (0 : Int32), .ref v0]) ⟨hx, hb, hml, hown, hts⟩ (c_X4_whole l D b0 sz h50) (cwV 1 hts gX5_isFound_X4_whole rfl rfl rfl (by decide +kernel) ⟨Nat.le_of_ble_eq_true rfl, Nat.le_of_ble_eq_true rfl⟩) ⟨PW.blind, m_recv (ci := 4) rfl hK hM k50, (fun U hU hW => ⟨rfl, PW.call hK hM hS hU hW⟩)⟩ rfl rfl hl.1 rfl (lv_room (Nat.le_of_ble_eq_true rfl)) dX5_isFound_50 ⟨(Nat.le_refl _), (Nat.le_refl _)⟩) hS (fun H locs hM hS => ?_)
    replace h := o_b h; obtain ⟨_, k53, h⟩ := h
    replace h := o_b h; obtain ⟨q53, h53, h⟩ := h
    refine m_call (va_runV (As := [.int (0 : Int32), .int q50]) (rest := []) ⟨hx, hb, hml, hown, hts⟩ (c_X5_assume l D b0 sz h53) (cwV 2 hts gX5_isFound_X5_assume rfl rfl rfl (by decide +kernel) ⟨Nat.le_of_ble_eq_true rfl, Nat.le_of_ble_eq_true rfl⟩) ⟨PW.blind, m_recv (ci := 5) rfl hK hM k53, (fun U hU hW => ⟨rfl, PW.call hK hM hS hU hW⟩)⟩ rfl rfl hl.1 rfl (lv_room (Nat.le_of_ble_eq_true rfl)) dX5_isFound_53 ⟨(Nat.le_refl _), (Nat.le_refl _)⟩) hS (fun H locs hM hS => ?_)
    exact w_X5_isFound_56 C0 ih _ _ _ _ _ h _ _ _ hM hS (lv_sub hl [0, 1, 2, 3] rfl)
set_option maxHeartbeats 4000000 in
set_option maxRecDepth 100000 in
theorem w_X5_isFound (C0 : CX cX5_isFound 4 (some .boolean) wsX5_isFound RX5 p s m args meth c D b0) {v0 : Nat} {v1 : Int32} {v2 : Int32} {res : Int32 × mmF} (h : f_X5_isFound v0 v1 v2 f = some res) : ∀ (H : Heap) (locs : List Loc) (ls : Array Slot), MM vwCl D b0 f sz s H → mS b0 s H locs → lv_has ls 4 [(0, .ref v0), (1, .int v1), (2, .int v2)] → W p l e ({ frames := 166, cells := 0, slots := 0, locals := 4948 } : Room) s m args below meth c H locs 0 0 (MQ below (QW D b0 (some (.int res.1)) res.2 sz) args s 0 0 (fun q => b0 ≤ q)) (F0 m 0 ls []) := by
  obtain ⟨hx, hb, hr, hml, hown, hts, hlocks, hK⟩ := id C0
  intro H locs ls hM hS hl
  unfold f_X5_isFound at h
  refine lv_aload_n hx hb dX5_isFound_0 rfl (lv_at hl 0 rfl) ?_
  replace h := o_b h; obtain ⟨x1, h1, h⟩ := h
  refine m_get (C := RX5) (T := TX5) (N := 10) (ci := 5) hx hb hts qi_X5_isFound_X5 hown hK.1 hM 2 (ldR_F h1) rfl (by decide) (hts _ q_X5_isFound_4) (fun _ h9 => h9) dX5_isFound_1 ?_
  refine lv_iconst (v := (0 : Int32)) hx hb dX5_isFound_4 (by decide) ?_
  replace h := o_b h; obtain ⟨_, k5, h⟩ := h
  replace h := o_b h; obtain ⟨q5, h5, h⟩ := h
  refine m_call (va_runV (As := [.int (0 : Int32)]) (rest := []) ⟨hx, hb, hml, hown, hts⟩ (c_X2_cutTo l D b0 sz h5) (cwV 1 hts gX5_isFound_X2_cutTo rfl rfl rfl (by decide +kernel) ⟨Nat.le_of_ble_eq_true rfl, Nat.le_of_ble_eq_true rfl⟩) ⟨PW.blind, m_recv (ci := 2) rfl hK hM k5, (fun U hU hW => ⟨rfl, PW.call hK hM hS hU hW⟩)⟩ rfl rfl hl.1 rfl (lv_room (Nat.le_of_ble_eq_true rfl)) dX5_isFound_5 ⟨(Nat.le_refl _), (Nat.le_refl _)⟩) hS (fun H locs hM hS => ?_)
  refine lv_aload_n hx hb dX5_isFound_8 rfl (lv_at hl 0 rfl) ?_
  replace h := o_b h; obtain ⟨x9, h9, h⟩ := h
  refine m_get (C := RX5) (T := TX5) (N := 10) (ci := 5) hx hb hts qi_X5_isFound_X5 hown hK.1 hM 3 (ldR_F h9) rfl (by decide) (hts _ q_X5_isFound_5) (fun _ h9 => h9) dX5_isFound_9 ?_
  refine lv_iconst (v := (0 : Int32)) hx hb dX5_isFound_12 (by decide) ?_
  refine lv_iconst (v := (0 : Int32)) hx hb dX5_isFound_13 (by decide) ?_
  replace h := o_b h; obtain ⟨f14, h14, h⟩ := h
  refine m_iast hx hb hK.1 hM hS rfl h14 dX5_isFound_14 (fun H locs hM hS => ?_)
  refine lv_aload_n hx hb dX5_isFound_15 rfl (lv_at hl 0 rfl) ?_
  replace h := o_b h; obtain ⟨x16, h16, h⟩ := h
  refine m_get (C := RX5) (T := TX5) (N := 10) (ci := 5) hx hb hts qi_X5_isFound_X5 hown hK.1 hM 7 (ldR_F h16) rfl (by decide) (hts _ q_X5_isFound_6) (fun _ h9 => h9) dX5_isFound_16 ?_
  refine lv_iconst (v := (0 : Int32)) hx hb dX5_isFound_19 (by decide) ?_
  refine lv_iconst (v := (-1 : Int32)) hx hb dX5_isFound_20 (by decide) ?_
  replace h := o_b h; obtain ⟨f21, h21, h⟩ := h
  refine m_iast hx hb hK.1 hM hS rfl h21 dX5_isFound_21 (fun H locs hM hS => ?_)
  refine lv_aload_n hx hb dX5_isFound_22 rfl (lv_at hl 0 rfl) ?_
  refine lv_iconst (v := (0 : Int32)) hx hb dX5_isFound_23 (by decide) ?_
  refine lv_iconst (v := (4 : Int32)) hx hb dX5_isFound_24 (by decide) ?_
  replace h := o_b h; obtain ⟨_, k25, h⟩ := h
  replace h := o_b h; obtain ⟨q25, h25, h⟩ := h
  refine m_call (va_runV (As := [.int (0 : Int32), .int (4 : Int32)]) (rest := []) ⟨hx, hb, hml, hown, hts⟩ (c_X5_assume l D b0 sz h25) (cwV 2 hts gX5_isFound_X5_assume rfl rfl rfl (by decide +kernel) ⟨Nat.le_of_ble_eq_true rfl, Nat.le_of_ble_eq_true rfl⟩) ⟨PW.blind, m_recv (ci := 5) rfl hK hM k25, (fun U hU hW => ⟨rfl, PW.call hK hM hS hU hW⟩)⟩ rfl rfl hl.1 rfl (lv_room (Nat.le_of_ble_eq_true rfl)) dX5_isFound_25 ⟨(Nat.le_refl _), (Nat.le_refl _)⟩) hS (fun H locs hM hS => ?_)
  refine lv_iconst (v := (0 : Int32)) hx hb dX5_isFound_28 (by decide) ?_
  refine lv_istore_n (lv' := [(3, .int (0 : Int32)), (0, .ref v0), (1, .int v1), (2, .int v2)]) hx hb dX5_isFound_29 rfl hl (by decide) rfl (fun ls hl => ?_)
  exact w_X5_isFound_30 C0 FU _ _ _ _ _ h _ _ _ hM hS (lv_sub hl [1, 2, 3, 0] rfl)
set_option maxHeartbeats 4000000 in
set_option maxRecDepth 100000 in
theorem c_X5_isFound (l : Launch) (D : mmD) (b0 sz : Nat) {v0 : Nat} {v1 : Int32} {v2 : Int32} {f : mmF} {res : Int32 × mmF} (h : f_X5_isFound v0 v1 v2 f = some res) : Met l yX5_isFound wsX5_isFound ({ frames := 166, cells := 0, slots := 0, locals := 4948 } : Room) (va_Pc [.ref v0, .int v1, .int v2] (PW D b0 f sz)) (QW D b0 (some (.int res.1)) res.2 sz) 0 0 (fun q => b0 ≤ q) := by
  refine Met.ofW (cc := cX5_isFound) (maxL := 4) (ret := (some .boolean)) (by decide) rfl ?_
  intro p e s m args below meth c s₁ B hml hv
  obtain ⟨rfl, hM, hK⟩ := hv
  have hl := lv_entry ([.ref v0, .int v1, .int v2]) (n := 4) (Nat.le_of_ble_eq_true rfl)
  rw [lg_entry_eq]
  generalize (lg_sl ([.ref v0, .int v1, .int v2]) ++ List.replicate (4 - (lg_sl ([.ref v0, .int v1, .int v2])).length) Slot.unset).toArray = ls at hl ⊢
  have hl : lv_has ls 4 [(0, .ref v0), (1, .int v1), (2, .int v2)] := hl
  exact w_X5_isFound ⟨B.exec, B.bytes, B.returns, hml, findClass_of_methodNamed B.named, atoms_spec (ws := wsX5_isFound) B.pre, B.notSynchronized, hK⟩ h s.heap [] ls hM va_S.rf hl
end S_X5_isFound
/-! X6_fill -/
set_option maxRecDepth 20000 in
theorem qi_X6_fill_X6 : ∀ w ∈ u_ws RX6 TX6 5, w ∈ wsX6_fill := by decide +kernel
set_option maxRecDepth 20000 in
theorem q_X6_fill_1 : Cond.fieldLink RX6 12 "StageTruths$SmallModels" "parts" "LStageTruths$Parts;" ∈ wsX6_fill := by decide +kernel
set_option maxRecDepth 20000 in
theorem qi_X6_fill_X4 : ∀ w ∈ u_ws RX4 TX4 8, w ∈ wsX6_fill := by decide +kernel
set_option maxRecDepth 20000 in
theorem q_X6_fill_3 : Cond.fieldLink RX6 74 "StageTruths$Parts" "size" "I" ∈ wsX6_fill := by decide +kernel
set_option maxRecDepth 20000 in
theorem q_X6_fill_4 : Cond.fieldLink RX6 78 "StageTruths$Parts" "kinds" "[I" ∈ wsX6_fill := by decide +kernel
set_option maxRecDepth 20000 in
theorem q_X6_fill_5 : Cond.fieldLink RX6 81 "StageTruths$Parts" "left" "[I" ∈ wsX6_fill := by decide +kernel
set_option maxRecDepth 20000 in
theorem q_X6_fill_6 : Cond.initialized RX9 ∈ wsX6_fill := by decide +kernel
set_option maxRecDepth 20000 in
theorem q_X6_fill_7 : Cond.static yX9_at ∈ wsX6_fill := by decide +kernel
set_option maxRecDepth 20000 in
theorem q_X6_fill_8 : Cond.fieldLink RX6 84 "StageTruths$Parts" "right" "[I" ∈ wsX6_fill := by decide +kernel
set_option maxRecDepth 20000 in
theorem q_X6_fill_9 : Cond.static yX9_has ∈ wsX6_fill := by decide +kernel
set_option maxRecDepth 20000 in
theorem q_X6_fill_10 : Cond.constant RX6 31 (65535) ∈ wsX6_fill := by decide +kernel
set_option maxRecDepth 20000 in
theorem q_X6_fill_11 : Cond.fieldLink RX6 87 "StageTruths$SmallModels" "KNOWN" "[I" ∈ wsX6_fill := by decide +kernel
noncomputable def f_X6_fill_178 (kn : Nat) (k3 : Nat → Nat → Nat → Int32 → Int32 → Int32 → mmF → Option (mmF))  (v0 : Nat) (v1 : Nat) (v2 : Nat) (v3 : Int32) (v4 : Int32) (v5 : Int32) (t0 : Nat) (t1 : Int32) (t2 : Int32) (f : mmF) : Option (mmF) :=
  (stA 0 f t0 t1 t2).bind fun f178 =>
  k3 v0 v1 v2 v3 v4 (v5 + (1 : Int32)) f178
noncomputable def f_X6_fill_177 (kn : Nat) (k3 : Nat → Nat → Nat → Int32 → Int32 → Int32 → mmF → Option (mmF))  (v0 : Nat) (v1 : Nat) (v2 : Nat) (v3 : Int32) (v4 : Int32) (v5 : Int32) (t0 : Nat) (t1 : Int32) (f : mmF) : Option (mmF) :=
  f_X6_fill_178 kn k3 v0 v1 v2 v3 v4 v5 t0 t1 (0 : Int32) f
noncomputable def f_X6_fill_3 (kn : Nat)   : Nat → Nat → Nat → Nat → Int32 → Int32 → Int32 → mmF → Option (mmF)
  | 0, _, _, _, _, _, _, _ => none
  | n + 1, v0, v1, v2, v3, v4, v5, f =>
    (ldR f v0 6 0).bind fun x6 =>
    (ldI f x6 4 0).bind fun x9 =>
    if x9 ≤ v5 then
    (some (f))
    else
    (lenA f v1).bind fun x18 =>
    if x18 ≤ v5 then
    (some (f))
    else
    (ldR f v0 6 0).bind fun x23 =>
    (ldR f x23 4 1).bind fun x26 =>
    (ldA 0 f x26 v5).bind fun x31 =>
    (ldR f v0 6 0).bind fun x36 =>
    (ldR f x36 4 2).bind fun x39 =>
    (ldA 0 f x39 v5).bind fun x44 =>
    (f_X9_at v1 x44 f).bind fun q45 =>
    (ldR f v0 6 0).bind fun x52 =>
    (ldR f x52 4 3).bind fun x55 =>
    (ldA 0 f x55 v5).bind fun x60 =>
    (f_X9_at v1 x60 f).bind fun q61 =>
    if (4 : Int32) ≤ x31 then
    (if x31 = (4 : Int32) then
    (f_X6_fill_178 kn (fun a0 a1 a2 a3 a4 a5 a6 => f_X6_fill_3 kn n a0 a1 a2 a3 a4 a5 a6) v0 v1 v2 v3 v4 v5 v1 v5 (65535 : Int32) f)
    else
    if x31 = (5 : Int32) then
    (f_X6_fill_178 kn (fun a0 a1 a2 a3 a4 a5 a6 => f_X6_fill_3 kn n a0 a1 a2 a3 a4 a5 a6) v0 v1 v2 v3 v4 v5 v1 v5 (0 : Int32) f)
    else
    if x31 = (7 : Int32) then
    (f_X6_fill_178 kn (fun a0 a1 a2 a3 a4 a5 a6 => f_X6_fill_3 kn n a0 a1 a2 a3 a4 a5 a6) v0 v1 v2 v3 v4 v5 v1 v5 (q45 &&& q61) f)
    else
    if x31 = (8 : Int32) then
    (f_X6_fill_178 kn (fun a0 a1 a2 a3 a4 a5 a6 => f_X6_fill_3 kn n a0 a1 a2 a3 a4 a5 a6) v0 v1 v2 v3 v4 v5 v1 v5 (q45 ||| q61) f)
    else
    (f_X9_at v2 v5 f).bind fun q140 =>
    (f_X9_has q140 v3 f).bind fun q144 =>
    if q144 = 0 then
    (f_X6_fill_177 kn (fun a0 a1 a2 a3 a4 a5 a6 => f_X6_fill_3 kn n a0 a1 a2 a3 a4 a5 a6) v0 v1 v2 v3 v4 v5 v1 v5 f)
    else
    (f_X9_at v2 v5 f).bind fun q153 =>
    (f_X9_has q153 v4 f).bind fun q158 =>
    if q158 = 0 then
    (f_X6_fill_177 kn (fun a0 a1 a2 a3 a4 a5 a6 => f_X6_fill_3 kn n a0 a1 a2 a3 a4 a5 a6) v0 v1 v2 v3 v4 v5 v1 v5 f)
    else
    f_X6_fill_178 kn (fun a0 a1 a2 a3 a4 a5 a6 => f_X6_fill_3 kn n a0 a1 a2 a3 a4 a5 a6) v0 v1 v2 v3 v4 v5 v1 v5 (((q45 ^^^ (-1 : Int32)) &&& (65535 : Int32)) ||| q61) f)
    else
    (f_X9_at kn x31 f).bind fun q80 =>
    f_X6_fill_178 kn (fun a0 a1 a2 a3 a4 a5 a6 => f_X6_fill_3 kn n a0 a1 a2 a3 a4 a5 a6) v0 v1 v2 v3 v4 v5 v1 v5 q80 f
noncomputable def f_X6_fill (kn : Nat) (v0 : Nat) (v1 : Nat) (v2 : Nat) (v3 : Int32) (v4 : Int32) (f : mmF) : Option (mmF) :=
  f_X6_fill_3 kn FU v0 v1 v2 v3 v4 (0 : Int32) f
section S_X6_fill
variable {p : Program} {l : Launch} {e : Env} {s : State} {m : MethodId} {args : Array Value} {below : List Frame} {meth : Method} {c : Code} {D : mmD} {b0 sz : Nat} {f : mmF}
set_option maxHeartbeats 4000000 in
set_option maxRecDepth 100000 in
theorem w_X6_fill_178 (C0 : CX cX6_fill 9 none wsX6_fill RX6 p s m args meth c D b0) {kn : Nat} (ek : kn = D.2 9) {k3 : Nat → Nat → Nat → Int32 → Int32 → Int32 → mmF → Option (mmF)} {res : mmF} (hk3 : ∀ (v0 : Nat) (v1 : Nat) (v2 : Nat) (v3 : Int32) (v4 : Int32) (v5 : Int32) (f : mmF), k3 v0 v1 v2 v3 v4 v5 f = some res → ∀ (H : Heap) (locs : List Loc) (ls : Array Slot), MM vwCl D b0 f sz s H → mS b0 s H locs → lv_has ls 9 [(0, .ref v0), (1, .ref v1), (2, .ref v2), (3, .int v3), (4, .int v4), (5, .int v5)] → W p l e ({ frames := 1, cells := 0, slots := 0, locals := 21 } : Room) s m args below meth c H locs 0 0 (MQ below (QW D b0 none res sz) args s 0 0 (fun q => b0 ≤ q)) (F0 m 3 ls [])) : ∀ (v0 : Nat) (v1 : Nat) (v2 : Nat) (v3 : Int32) (v4 : Int32) (v5 : Int32) (t0 : Nat) (t1 : Int32) (t2 : Int32) (f : mmF), f_X6_fill_178 kn k3 v0 v1 v2 v3 v4 v5 t0 t1 t2 f = some res → ∀ (H : Heap) (locs : List Loc) (ls : Array Slot), MM vwCl D b0 f sz s H → mS b0 s H locs → lv_has ls 9 [(0, .ref v0), (1, .ref v1), (2, .ref v2), (3, .int v3), (4, .int v4), (5, .int v5)] → W p l e ({ frames := 1, cells := 0, slots := 0, locals := 21 } : Room) s m args below meth c H locs 0 0 (MQ below (QW D b0 none res sz) args s 0 0 (fun q => b0 ≤ q)) (F0 m 178 ls [.int t2, .int t1, .ref t0]) := by
  obtain ⟨hx, hb, hr, hml, hown, hts, hlocks, hK⟩ := id C0
  intro v0 v1 v2 v3 v4 v5 t0 t1 t2 f h H locs ls hM hS hl
  unfold f_X6_fill_178 at h
  replace h := o_b h; obtain ⟨f178, h178, h⟩ := h
  refine m_iast hx hb hK.1 hM hS rfl h178 dX6_fill_178 (fun H locs hM hS => ?_)
  refine lv_iinc (v := (v5 + (1 : Int32))) (lv' := [(5, .int (v5 + (1 : Int32))), (0, .ref v0), (1, .ref v1), (2, .ref v2), (3, .int v3), (4, .int v4)]) hx hb dX6_fill_179 hl (k := 5) rfl rfl (by decide) rfl (fun ls hl => ?_)
  refine lv_goto (tgt := 3) hx hb dX6_fill_182 (by decide) ?_
  exact hk3 _ _ _ _ _ _ _ h _ _ _ hM hS (lv_sub hl [1, 2, 3, 4, 5, 0] rfl)
set_option maxHeartbeats 4000000 in
set_option maxRecDepth 100000 in
theorem w_X6_fill_177 (C0 : CX cX6_fill 9 none wsX6_fill RX6 p s m args meth c D b0) {kn : Nat} (ek : kn = D.2 9) {k3 : Nat → Nat → Nat → Int32 → Int32 → Int32 → mmF → Option (mmF)} {res : mmF} (hk3 : ∀ (v0 : Nat) (v1 : Nat) (v2 : Nat) (v3 : Int32) (v4 : Int32) (v5 : Int32) (f : mmF), k3 v0 v1 v2 v3 v4 v5 f = some res → ∀ (H : Heap) (locs : List Loc) (ls : Array Slot), MM vwCl D b0 f sz s H → mS b0 s H locs → lv_has ls 9 [(0, .ref v0), (1, .ref v1), (2, .ref v2), (3, .int v3), (4, .int v4), (5, .int v5)] → W p l e ({ frames := 1, cells := 0, slots := 0, locals := 21 } : Room) s m args below meth c H locs 0 0 (MQ below (QW D b0 none res sz) args s 0 0 (fun q => b0 ≤ q)) (F0 m 3 ls [])) : ∀ (v0 : Nat) (v1 : Nat) (v2 : Nat) (v3 : Int32) (v4 : Int32) (v5 : Int32) (t0 : Nat) (t1 : Int32) (f : mmF), f_X6_fill_177 kn k3 v0 v1 v2 v3 v4 v5 t0 t1 f = some res → ∀ (H : Heap) (locs : List Loc) (ls : Array Slot), MM vwCl D b0 f sz s H → mS b0 s H locs → lv_has ls 9 [(0, .ref v0), (1, .ref v1), (2, .ref v2), (3, .int v3), (4, .int v4), (5, .int v5)] → W p l e ({ frames := 1, cells := 0, slots := 0, locals := 21 } : Room) s m args below meth c H locs 0 0 (MQ below (QW D b0 none res sz) args s 0 0 (fun q => b0 ≤ q)) (F0 m 177 ls [.int t1, .ref t0]) := by
  obtain ⟨hx, hb, hr, hml, hown, hts, hlocks, hK⟩ := id C0
  intro v0 v1 v2 v3 v4 v5 t0 t1 f h H locs ls hM hS hl
  unfold f_X6_fill_177 at h
  refine lv_iconst (v := (0 : Int32)) hx hb dX6_fill_177 (by decide) ?_
  exact w_X6_fill_178 C0 ek hk3 _ _ _ _ _ _ _ _ _ _ h _ _ _ hM hS (lv_sub hl [0, 1, 2, 3, 4, 5] rfl)
set_option maxHeartbeats 4000000 in
set_option maxRecDepth 100000 in
theorem w_X6_fill_3 (C0 : CX cX6_fill 9 none wsX6_fill RX6 p s m args meth c D b0) {kn : Nat} (ek : kn = D.2 9) {res : mmF} : ∀ (n : Nat), ∀ (v0 : Nat) (v1 : Nat) (v2 : Nat) (v3 : Int32) (v4 : Int32) (v5 : Int32) (f : mmF), f_X6_fill_3 kn n v0 v1 v2 v3 v4 v5 f = some res → ∀ (H : Heap) (locs : List Loc) (ls : Array Slot), MM vwCl D b0 f sz s H → mS b0 s H locs → lv_has ls 9 [(0, .ref v0), (1, .ref v1), (2, .ref v2), (3, .int v3), (4, .int v4), (5, .int v5)] → W p l e ({ frames := 1, cells := 0, slots := 0, locals := 21 } : Room) s m args below meth c H locs 0 0 (MQ below (QW D b0 none res sz) args s 0 0 (fun q => b0 ≤ q)) (F0 m 3 ls []) := by
  obtain ⟨hx, hb, hr, hml, hown, hts, hlocks, hK⟩ := id C0
  intro n
  induction n with
  | zero =>
    intro v0 v1 v2 v3 v4 v5 f h
    have h : (none : Option (mmF)) = some res := h
    cases h
  | succ n ih =>
    intro v0 v1 v2 v3 v4 v5 f h H locs ls hM hS hl
    rw [f_X6_fill_3] at h
    refine lv_iload hx hb dX6_fill_3 (lv_at hl 5 rfl) ?_
    refine lv_aload_n hx hb dX6_fill_5 rfl (lv_at hl 0 rfl) ?_
    replace h := o_b h; obtain ⟨x6, h6, h⟩ := h
    refine m_get (C := RX6) (T := TX6) (N := 5) (ci := 6) hx hb hts qi_X6_fill_X6 hown hK.1 hM 0 (ldR_F h6) rfl (by decide) (hts _ q_X6_fill_1) (fun _ h9 => h9) dX6_fill_6 ?_
    replace h := o_b h; obtain ⟨x9, h9, h⟩ := h
    refine m_get (C := RX4) (T := TX4) (N := 8) (ci := 4) hx hb hts qi_X6_fill_X4 hown hK.1 hM 0 (ldI_F h9) rfl (by decide) (hts _ q_X6_fill_3) (fun _ h9 => h9) dX6_fill_9 ?_
    refine lv_icmp_ge (tgt := 185) hx hb dX6_fill_12 (by decide) (fun c12 => ?_) (fun c12 => ?_)
    · replace h := o_t c12 h
      replace h := Option.some.inj h; subst h
      exact W.vret hx hb hr (fun t ht hW => ⟨rfl, by rw [ht]; exact hM.moved hW.alike, hS.F ht⟩) hS.2.2 dX6_fill_185
    replace h := o_f c12 h
    refine lv_iload hx hb dX6_fill_15 (lv_at hl 5 rfl) ?_
    refine lv_aload_n hx hb dX6_fill_17 rfl (lv_at hl 1 rfl) ?_
    replace h := o_b h; obtain ⟨x18, h18, h⟩ := h
    refine m_alen hx hb hK.1 hM h18 dX6_fill_18 ?_
    refine lv_icmp_ge (tgt := 185) hx hb dX6_fill_19 (by decide) (fun c19 => ?_) (fun c19 => ?_)
    · replace h := o_t c19 h
      replace h := Option.some.inj h; subst h
      exact W.vret hx hb hr (fun t ht hW => ⟨rfl, by rw [ht]; exact hM.moved hW.alike, hS.F ht⟩) hS.2.2 dX6_fill_185
    replace h := o_f c19 h
    refine lv_aload_n hx hb dX6_fill_22 rfl (lv_at hl 0 rfl) ?_
    replace h := o_b h; obtain ⟨x23, h23, h⟩ := h
    refine m_get (C := RX6) (T := TX6) (N := 5) (ci := 6) hx hb hts qi_X6_fill_X6 hown hK.1 hM 0 (ldR_F h23) rfl (by decide) (hts _ q_X6_fill_1) (fun _ h9 => h9) dX6_fill_23 ?_
    replace h := o_b h; obtain ⟨x26, h26, h⟩ := h
    refine m_get (C := RX4) (T := TX4) (N := 8) (ci := 4) hx hb hts qi_X6_fill_X4 hown hK.1 hM 1 (ldR_F h26) rfl (by decide) (hts _ q_X6_fill_4) (fun _ h9 => h9) dX6_fill_26 ?_
    refine lv_iload hx hb dX6_fill_29 (lv_at hl 5 rfl) ?_
    replace h := o_b h; obtain ⟨x31, h31, h⟩ := h
    refine m_iald hx hb hK.1 hM hS rfl h31 dX6_fill_31 ?_
    refine lv_istore (lv' := [(6, .int x31), (0, .ref v0), (1, .ref v1), (2, .ref v2), (3, .int v3), (4, .int v4), (5, .int v5)]) hx hb dX6_fill_32 hl (by decide) rfl (fun ls hl => ?_)
    refine lv_aload_n hx hb dX6_fill_34 rfl (lv_at hl 2 rfl) ?_
    refine lv_aload_n hx hb dX6_fill_35 rfl (lv_at hl 1 rfl) ?_
    replace h := o_b h; obtain ⟨x36, h36, h⟩ := h
    refine m_get (C := RX6) (T := TX6) (N := 5) (ci := 6) hx hb hts qi_X6_fill_X6 hown hK.1 hM 0 (ldR_F h36) rfl (by decide) (hts _ q_X6_fill_1) (fun _ h9 => h9) dX6_fill_36 ?_
    replace h := o_b h; obtain ⟨x39, h39, h⟩ := h
    refine m_get (C := RX4) (T := TX4) (N := 8) (ci := 4) hx hb hts qi_X6_fill_X4 hown hK.1 hM 2 (ldR_F h39) rfl (by decide) (hts _ q_X6_fill_5) (fun _ h9 => h9) dX6_fill_39 ?_
    refine lv_iload hx hb dX6_fill_42 (lv_at hl 6 rfl) ?_
    replace h := o_b h; obtain ⟨x44, h44, h⟩ := h
    refine m_iald hx hb hK.1 hM hS rfl h44 dX6_fill_44 ?_
    replace h := o_b h; obtain ⟨q45, h45, h⟩ := h
    refine m_call (va_runSN (As := [.ref v1, .int x44]) (rest := []) ⟨hx, hb, hml, hown, hts⟩ (c_X9_at l D b0 sz h45) ⟨(va_cnB 2 hts gX6_fill_X9_at_n36 rfl rfl rfl (hK.2.1 (RX6, 36, yX9_at, "StageTruths") (by decide)) (hts _ q_X6_fill_6) (by decide +kernel) ⟨Nat.le_of_ble_eq_true rfl, Nat.le_of_ble_eq_true rfl⟩), (hts _ q_X6_fill_7), trivial⟩ ⟨PW.blind, (fun U hU hW => ⟨rfl, PW.call hK hM hS hU hW⟩)⟩ rfl rfl hl.1 rfl (lv_room (Nat.le_of_ble_eq_true rfl)) dX6_fill_45 ⟨(Nat.le_refl _), (Nat.le_refl _)⟩) hS (fun H locs hM hS => ?_)
    refine lv_istore (lv' := [(7, .int q45), (6, .int x31), (0, .ref v0), (1, .ref v1), (2, .ref v2), (3, .int v3), (4, .int v4), (5, .int v5)]) hx hb dX6_fill_48 hl (by decide) rfl (fun ls hl => ?_)
    refine lv_aload_n hx hb dX6_fill_50 rfl (lv_at hl 3 rfl) ?_
    refine lv_aload_n hx hb dX6_fill_51 rfl (lv_at hl 2 rfl) ?_
    replace h := o_b h; obtain ⟨x52, h52, h⟩ := h
    refine m_get (C := RX6) (T := TX6) (N := 5) (ci := 6) hx hb hts qi_X6_fill_X6 hown hK.1 hM 0 (ldR_F h52) rfl (by decide) (hts _ q_X6_fill_1) (fun _ h9 => h9) dX6_fill_52 ?_
    replace h := o_b h; obtain ⟨x55, h55, h⟩ := h
    refine m_get (C := RX4) (T := TX4) (N := 8) (ci := 4) hx hb hts qi_X6_fill_X4 hown hK.1 hM 3 (ldR_F h55) rfl (by decide) (hts _ q_X6_fill_8) (fun _ h9 => h9) dX6_fill_55 ?_
    refine lv_iload hx hb dX6_fill_58 (lv_at hl 7 rfl) ?_
    replace h := o_b h; obtain ⟨x60, h60, h⟩ := h
    refine m_iald hx hb hK.1 hM hS rfl h60 dX6_fill_60 ?_
    replace h := o_b h; obtain ⟨q61, h61, h⟩ := h
    refine m_call (va_runSN (As := [.ref v1, .int x60]) (rest := []) ⟨hx, hb, hml, hown, hts⟩ (c_X9_at l D b0 sz h61) ⟨(va_cnB 2 hts gX6_fill_X9_at_n36 rfl rfl rfl (hK.2.1 (RX6, 36, yX9_at, "StageTruths") (by decide)) (hts _ q_X6_fill_6) (by decide +kernel) ⟨Nat.le_of_ble_eq_true rfl, Nat.le_of_ble_eq_true rfl⟩), (hts _ q_X6_fill_7), trivial⟩ ⟨PW.blind, (fun U hU hW => ⟨rfl, PW.call hK hM hS hU hW⟩)⟩ rfl rfl hl.1 rfl (lv_room (Nat.le_of_ble_eq_true rfl)) dX6_fill_61 ⟨(Nat.le_refl _), (Nat.le_refl _)⟩) hS (fun H locs hM hS => ?_)
    refine lv_istore (lv' := [(8, .int q61), (7, .int q45), (6, .int x31), (0, .ref v0), (1, .ref v1), (2, .ref v2), (3, .int v3), (4, .int v4), (5, .int v5)]) hx hb dX6_fill_64 hl (by decide) rfl (fun ls hl => ?_)
    refine lv_aload_n hx hb dX6_fill_66 rfl (lv_at hl 4 rfl) ?_
    refine lv_iload hx hb dX6_fill_67 (lv_at hl 8 rfl) ?_
    refine lv_iload hx hb dX6_fill_69 (lv_at hl 2 rfl) ?_
    refine lv_iconst (v := (4 : Int32)) hx hb dX6_fill_71 (by decide) ?_
    refine lv_icmp_ge (tgt := 86) hx hb dX6_fill_72 (by decide) (fun c72 => ?_) (fun c72 => ?_)
    · replace h := o_t c72 h
      refine lv_iload hx hb dX6_fill_86 (lv_at hl 2 rfl) ?_
      refine lv_iconst (v := (4 : Int32)) hx hb dX6_fill_88 (by decide) ?_
      refine lv_icmp_ne (tgt := 97) hx hb dX6_fill_89 (by decide) (fun c89 => ?_) (fun c89 => ?_)
      · replace h := o_f c89 h
        refine lv_iload hx hb dX6_fill_97 (lv_at hl 2 rfl) ?_
        refine lv_iconst (v := (5 : Int32)) hx hb dX6_fill_99 (by decide) ?_
        refine lv_icmp_ne (tgt := 107) hx hb dX6_fill_100 (by decide) (fun c100 => ?_) (fun c100 => ?_)
        · replace h := o_f c100 h
          refine lv_iload hx hb dX6_fill_107 (lv_at hl 2 rfl) ?_
          refine lv_bipush (v := (7 : Int32)) hx hb dX6_fill_109 (by decide) ?_
          refine lv_icmp_ne (tgt := 122) hx hb dX6_fill_111 (by decide) (fun c111 => ?_) (fun c111 => ?_)
          · replace h := o_f c111 h
            refine lv_iload hx hb dX6_fill_122 (lv_at hl 2 rfl) ?_
            refine lv_bipush (v := (8 : Int32)) hx hb dX6_fill_124 (by decide) ?_
            refine lv_icmp_ne (tgt := 137) hx hb dX6_fill_126 (by decide) (fun c126 => ?_) (fun c126 => ?_)
            · replace h := o_f c126 h
              refine lv_aload_n hx hb dX6_fill_137 rfl (lv_at hl 5 rfl) ?_
              refine lv_iload hx hb dX6_fill_138 (lv_at hl 8 rfl) ?_
              replace h := o_b h; obtain ⟨q140, h140, h⟩ := h
              refine m_call (va_runSN (As := [.ref v2, .int v5]) (rest := [.int v5, .ref v1]) ⟨hx, hb, hml, hown, hts⟩ (c_X9_at l D b0 sz h140) ⟨(va_cnB 2 hts gX6_fill_X9_at_n36 rfl rfl rfl (hK.2.1 (RX6, 36, yX9_at, "StageTruths") (by decide)) (hts _ q_X6_fill_6) (by decide +kernel) ⟨Nat.le_of_ble_eq_true rfl, Nat.le_of_ble_eq_true rfl⟩), (hts _ q_X6_fill_7), trivial⟩ ⟨PW.blind, (fun U hU hW => ⟨rfl, PW.call hK hM hS hU hW⟩)⟩ rfl rfl hl.1 rfl (lv_room (Nat.le_of_ble_eq_true rfl)) dX6_fill_140 ⟨(Nat.le_refl _), (Nat.le_refl _)⟩) hS (fun H locs hM hS => ?_)
              refine lv_iload_n hx hb dX6_fill_143 rfl (lv_at hl 6 rfl) ?_
              replace h := o_b h; obtain ⟨q144, h144, h⟩ := h
              refine m_call (va_runSN (As := [.int q140, .int v3]) (rest := [.int v5, .ref v1]) ⟨hx, hb, hml, hown, hts⟩ (c_X9_has l D b0 sz h144) ⟨(va_cnB 2 hts gX6_fill_X9_has_n48 rfl rfl rfl (hK.2.1 (RX6, 48, yX9_has, "StageTruths") (by decide)) (hts _ q_X6_fill_6) (by decide +kernel) ⟨Nat.le_of_ble_eq_true rfl, Nat.le_of_ble_eq_true rfl⟩), (hts _ q_X6_fill_9), trivial⟩ ⟨PW.blind, (fun U hU hW => ⟨rfl, PW.call hK hM hS hU hW⟩)⟩ rfl rfl hl.1 rfl (lv_room (Nat.le_of_ble_eq_true rfl)) dX6_fill_144 ⟨(Nat.le_refl _), (Nat.le_refl _)⟩) hS (fun H locs hM hS => ?_)
              refine lv_if_eq (tgt := 177) hx hb dX6_fill_147 (by decide) (fun c147 => ?_) (fun c147 => ?_)
              · replace h := o_t c147 h
                exact w_X6_fill_177 C0 ek ih _ _ _ _ _ _ _ _ _ h _ _ _ hM hS (lv_sub hl [3, 4, 5, 6, 7, 8] rfl)
              replace h := o_f c147 h
              refine lv_aload_n hx hb dX6_fill_150 rfl (lv_at hl 5 rfl) ?_
              refine lv_iload hx hb dX6_fill_151 (lv_at hl 8 rfl) ?_
              replace h := o_b h; obtain ⟨q153, h153, h⟩ := h
              refine m_call (va_runSN (As := [.ref v2, .int v5]) (rest := [.int v5, .ref v1]) ⟨hx, hb, hml, hown, hts⟩ (c_X9_at l D b0 sz h153) ⟨(va_cnB 2 hts gX6_fill_X9_at_n36 rfl rfl rfl (hK.2.1 (RX6, 36, yX9_at, "StageTruths") (by decide)) (hts _ q_X6_fill_6) (by decide +kernel) ⟨Nat.le_of_ble_eq_true rfl, Nat.le_of_ble_eq_true rfl⟩), (hts _ q_X6_fill_7), trivial⟩ ⟨PW.blind, (fun U hU hW => ⟨rfl, PW.call hK hM hS hU hW⟩)⟩ rfl rfl hl.1 rfl (lv_room (Nat.le_of_ble_eq_true rfl)) dX6_fill_153 ⟨(Nat.le_refl _), (Nat.le_refl _)⟩) hS (fun H locs hM hS => ?_)
              refine lv_iload hx hb dX6_fill_156 (lv_at hl 7 rfl) ?_
              replace h := o_b h; obtain ⟨q158, h158, h⟩ := h
              refine m_call (va_runSN (As := [.int q153, .int v4]) (rest := [.int v5, .ref v1]) ⟨hx, hb, hml, hown, hts⟩ (c_X9_has l D b0 sz h158) ⟨(va_cnB 2 hts gX6_fill_X9_has_n48 rfl rfl rfl (hK.2.1 (RX6, 48, yX9_has, "StageTruths") (by decide)) (hts _ q_X6_fill_6) (by decide +kernel) ⟨Nat.le_of_ble_eq_true rfl, Nat.le_of_ble_eq_true rfl⟩), (hts _ q_X6_fill_9), trivial⟩ ⟨PW.blind, (fun U hU hW => ⟨rfl, PW.call hK hM hS hU hW⟩)⟩ rfl rfl hl.1 rfl (lv_room (Nat.le_of_ble_eq_true rfl)) dX6_fill_158 ⟨(Nat.le_refl _), (Nat.le_refl _)⟩) hS (fun H locs hM hS => ?_)
              refine lv_if_eq (tgt := 177) hx hb dX6_fill_161 (by decide) (fun c161 => ?_) (fun c161 => ?_)
              · replace h := o_t c161 h
                exact w_X6_fill_177 C0 ek ih _ _ _ _ _ _ _ _ _ h _ _ _ hM hS (lv_sub hl [3, 4, 5, 6, 7, 8] rfl)
              replace h := o_f c161 h
              refine lv_iload hx hb dX6_fill_164 (lv_at hl 1 rfl) ?_
              refine lv_iconst (v := (-1 : Int32)) hx hb dX6_fill_166 (by decide) ?_
              refine lv_ixor hx hb dX6_fill_167 ?_
              refine lv_ldc (v := (65535 : Int32)) hx hb hown (hts _ q_X6_fill_10) dX6_fill_168 ?_
              refine lv_iand hx hb dX6_fill_170 ?_
              refine lv_iload hx hb dX6_fill_171 (lv_at hl 0 rfl) ?_
              refine lv_ior hx hb dX6_fill_173 ?_
              refine lv_goto (tgt := 178) hx hb dX6_fill_174 (by decide) ?_
              exact w_X6_fill_178 C0 ek ih _ _ _ _ _ _ _ _ _ _ h _ _ _ hM hS (lv_sub hl [3, 4, 5, 6, 7, 8] rfl)
            replace h := o_t c126 h
            refine lv_iload hx hb dX6_fill_129 (lv_at hl 1 rfl) ?_
            refine lv_iload hx hb dX6_fill_131 (lv_at hl 0 rfl) ?_
            refine lv_ior hx hb dX6_fill_133 ?_
            refine lv_goto (tgt := 178) hx hb dX6_fill_134 (by decide) ?_
            exact w_X6_fill_178 C0 ek ih _ _ _ _ _ _ _ _ _ _ h _ _ _ hM hS (lv_sub hl [3, 4, 5, 6, 7, 8] rfl)
          replace h := o_t c111 h
          refine lv_iload hx hb dX6_fill_114 (lv_at hl 1 rfl) ?_
          refine lv_iload hx hb dX6_fill_116 (lv_at hl 0 rfl) ?_
          refine lv_iand hx hb dX6_fill_118 ?_
          refine lv_goto (tgt := 178) hx hb dX6_fill_119 (by decide) ?_
          exact w_X6_fill_178 C0 ek ih _ _ _ _ _ _ _ _ _ _ h _ _ _ hM hS (lv_sub hl [3, 4, 5, 6, 7, 8] rfl)
        replace h := o_t c100 h
        refine lv_iconst (v := (0 : Int32)) hx hb dX6_fill_103 (by decide) ?_
        refine lv_goto (tgt := 178) hx hb dX6_fill_104 (by decide) ?_
        exact w_X6_fill_178 C0 ek ih _ _ _ _ _ _ _ _ _ _ h _ _ _ hM hS (lv_sub hl [3, 4, 5, 6, 7, 8] rfl)
      replace h := o_t c89 h
      refine lv_ldc (v := (65535 : Int32)) hx hb hown (hts _ q_X6_fill_10) dX6_fill_92 ?_
      refine lv_goto (tgt := 178) hx hb dX6_fill_94 (by decide) ?_
      exact w_X6_fill_178 C0 ek ih _ _ _ _ _ _ _ _ _ _ h _ _ _ hM hS (lv_sub hl [3, 4, 5, 6, 7, 8] rfl)
    replace h := o_f c72 h
    refine m_getsK ek hx hb hK hS hown (hts _ q_X6_fill_11) dX6_fill_75 ?_
    refine lv_iload hx hb dX6_fill_78 (lv_at hl 2 rfl) ?_
    replace h := o_b h; obtain ⟨q80, h80, h⟩ := h
    refine m_call (va_runSN (As := [.ref kn, .int x31]) (rest := [.int v5, .ref v1]) ⟨hx, hb, hml, hown, hts⟩ (c_X9_at l D b0 sz h80) ⟨(va_cnB 2 hts gX6_fill_X9_at_n36 rfl rfl rfl (hK.2.1 (RX6, 36, yX9_at, "StageTruths") (by decide)) (hts _ q_X6_fill_6) (by decide +kernel) ⟨Nat.le_of_ble_eq_true rfl, Nat.le_of_ble_eq_true rfl⟩), (hts _ q_X6_fill_7), trivial⟩ ⟨PW.blind, (fun U hU hW => ⟨rfl, PW.call hK hM hS hU hW⟩)⟩ rfl rfl hl.1 rfl (lv_room (Nat.le_of_ble_eq_true rfl)) dX6_fill_80 ⟨(Nat.le_refl _), (Nat.le_refl _)⟩) hS (fun H locs hM hS => ?_)
    refine lv_goto (tgt := 178) hx hb dX6_fill_83 (by decide) ?_
    exact w_X6_fill_178 C0 ek ih _ _ _ _ _ _ _ _ _ _ h _ _ _ hM hS (lv_sub hl [3, 4, 5, 6, 7, 8] rfl)
set_option maxHeartbeats 4000000 in
set_option maxRecDepth 100000 in
theorem w_X6_fill (C0 : CX cX6_fill 9 none wsX6_fill RX6 p s m args meth c D b0) {v0 : Nat} {v1 : Nat} {v2 : Nat} {v3 : Int32} {v4 : Int32} {kn : Nat} (ek : kn = D.2 9) {res : mmF} (h : f_X6_fill kn v0 v1 v2 v3 v4 f = some res) : ∀ (H : Heap) (locs : List Loc) (ls : Array Slot), MM vwCl D b0 f sz s H → mS b0 s H locs → lv_has ls 9 [(0, .ref v0), (1, .ref v1), (2, .ref v2), (3, .int v3), (4, .int v4)] → W p l e ({ frames := 1, cells := 0, slots := 0, locals := 21 } : Room) s m args below meth c H locs 0 0 (MQ below (QW D b0 none res sz) args s 0 0 (fun q => b0 ≤ q)) (F0 m 0 ls []) := by
  obtain ⟨hx, hb, hr, hml, hown, hts, hlocks, hK⟩ := id C0
  intro H locs ls hM hS hl
  unfold f_X6_fill at h
  refine lv_iconst (v := (0 : Int32)) hx hb dX6_fill_0 (by decide) ?_
  refine lv_istore (lv' := [(5, .int (0 : Int32)), (0, .ref v0), (1, .ref v1), (2, .ref v2), (3, .int v3), (4, .int v4)]) hx hb dX6_fill_1 hl (by decide) rfl (fun ls hl => ?_)
  exact w_X6_fill_3 C0 ek FU _ _ _ _ _ _ _ h _ _ _ hM hS (lv_sub hl [1, 2, 3, 4, 5, 0] rfl)
set_option maxHeartbeats 4000000 in
set_option maxRecDepth 100000 in
theorem c_X6_fill (l : Launch) (D : mmD) (b0 sz : Nat) {kn : Nat} (ek : kn = D.2 9) {v0 : Nat} {v1 : Nat} {v2 : Nat} {v3 : Int32} {v4 : Int32} {f : mmF} {res : mmF} (h : f_X6_fill kn v0 v1 v2 v3 v4 f = some res) : Met l yX6_fill wsX6_fill ({ frames := 1, cells := 0, slots := 0, locals := 21 } : Room) (va_Pc [.ref v0, .ref v1, .ref v2, .int v3, .int v4] (PW D b0 f sz)) (QW D b0 none res sz) 0 0 (fun q => b0 ≤ q) := by
  refine Met.ofW (cc := cX6_fill) (maxL := 9) (ret := none) (by decide) rfl ?_
  intro p e s m args below meth c s₁ B hml hv
  obtain ⟨rfl, hM, hK⟩ := hv
  have hl := lv_entry ([.ref v0, .ref v1, .ref v2, .int v3, .int v4]) (n := 9) (Nat.le_of_ble_eq_true rfl)
  rw [lg_entry_eq]
  generalize (lg_sl ([.ref v0, .ref v1, .ref v2, .int v3, .int v4]) ++ List.replicate (9 - (lg_sl ([.ref v0, .ref v1, .ref v2, .int v3, .int v4])).length) Slot.unset).toArray = ls at hl ⊢
  have hl : lv_has ls 9 [(0, .ref v0), (1, .ref v1), (2, .ref v2), (3, .int v3), (4, .int v4)] := hl
  exact w_X6_fill ⟨B.exec, B.bytes, B.returns, hml, findClass_of_methodNamed B.named, atoms_spec (ws := wsX6_fill) B.pre, B.notSynchronized, hK⟩ ek h s.heap [] ls hM va_S.rf hl
end S_X6_fill
/-! X6_fillSingle -/
set_option maxRecDepth 20000 in
theorem qi_X6_fillSingle_X6 : ∀ w ∈ u_ws RX6 TX6 5, w ∈ wsX6_fillSingle := by decide +kernel
set_option maxRecDepth 20000 in
theorem q_X6_fillSingle_1 : Cond.fieldLink RX6 22 "StageTruths$SmallModels" "single" "[I" ∈ wsX6_fillSingle := by decide +kernel
set_option maxRecDepth 20000 in
theorem q_X6_fillSingle_2 : Cond.fieldLink RX6 18 "StageTruths$SmallModels" "nothing" "[I" ∈ wsX6_fillSingle := by decide +kernel
noncomputable def f_X6_fillSingle (kn : Nat) (v0 : Nat) (f : mmF) : Option (mmF) :=
  (ldR f v0 6 2).bind fun x2 =>
  (ldR f v0 6 1).bind fun x6 =>
  (ckO f v0 6).bind fun _ =>
  (f_X6_fill kn v0 x2 x6 (0 : Int32) (0 : Int32) f).bind fun q11 =>
  some (q11)
section S_X6_fillSingle
variable {p : Program} {l : Launch} {e : Env} {s : State} {m : MethodId} {args : Array Value} {below : List Frame} {meth : Method} {c : Code} {D : mmD} {b0 sz : Nat} {f : mmF}
set_option maxHeartbeats 4000000 in
set_option maxRecDepth 100000 in
theorem w_X6_fillSingle (C0 : CX cX6_fillSingle 1 none wsX6_fillSingle RX6 p s m args meth c D b0) {v0 : Nat} {kn : Nat} (ek : kn = D.2 9) {res : mmF} (h : f_X6_fillSingle kn v0 f = some res) : ∀ (H : Heap) (locs : List Loc) (ls : Array Slot), MM vwCl D b0 f sz s H → mS b0 s H locs → lv_has ls 1 [(0, .ref v0)] → W p l e ({ frames := 2, cells := 0, slots := 0, locals := 49 } : Room) s m args below meth c H locs 0 0 (MQ below (QW D b0 none res sz) args s 0 0 (fun q => b0 ≤ q)) (F0 m 0 ls []) := by
  obtain ⟨hx, hb, hr, hml, hown, hts, hlocks, hK⟩ := id C0
  intro H locs ls hM hS hl
  unfold f_X6_fillSingle at h
  refine lv_aload_n hx hb dX6_fillSingle_0 rfl (lv_at hl 0 rfl) ?_
  refine lv_aload_n hx hb dX6_fillSingle_1 rfl (lv_at hl 0 rfl) ?_
  replace h := o_b h; obtain ⟨x2, h2, h⟩ := h
  refine m_get (C := RX6) (T := TX6) (N := 5) (ci := 6) hx hb hts qi_X6_fillSingle_X6 hown hK.1 hM 2 (ldR_F h2) rfl (by decide) (hts _ q_X6_fillSingle_1) (fun _ h9 => h9) dX6_fillSingle_2 ?_
  refine lv_aload_n hx hb dX6_fillSingle_5 rfl (lv_at hl 0 rfl) ?_
  replace h := o_b h; obtain ⟨x6, h6, h⟩ := h
  refine m_get (C := RX6) (T := TX6) (N := 5) (ci := 6) hx hb hts qi_X6_fillSingle_X6 hown hK.1 hM 1 (ldR_F h6) rfl (by decide) (hts _ q_X6_fillSingle_2) (fun _ h9 => h9) dX6_fillSingle_6 ?_
  refine lv_iconst (v := (0 : Int32)) hx hb dX6_fillSingle_9 (by decide) ?_
  refine lv_iconst (v := (0 : Int32)) hx hb dX6_fillSingle_10 (by decide) ?_
  replace h := o_b h; obtain ⟨_, k11, h⟩ := h
  replace h := o_b h; obtain ⟨q11, h11, h⟩ := h
  refine m_call (va_runV (As := [.ref x2, .ref x6, .int (0 : Int32), .int (0 : Int32)]) (rest := []) ⟨hx, hb, hml, hown, hts⟩ (c_X6_fill l D b0 sz ek h11) (cwV 4 hts gX6_fillSingle_X6_fill rfl rfl rfl (by decide +kernel) ⟨Nat.le_of_ble_eq_true rfl, Nat.le_of_ble_eq_true rfl⟩) ⟨PW.blind, m_recv (ci := 6) rfl hK hM k11, (fun U hU hW => ⟨rfl, PW.call hK hM hS hU hW⟩)⟩ rfl rfl hl.1 rfl (lv_room (Nat.le_of_ble_eq_true rfl)) dX6_fillSingle_11 ⟨(Nat.le_refl _), (Nat.le_refl _)⟩) hS (fun H locs hM hS => ?_)
  replace h := Option.some.inj h; subst h
  exact W.vret hx hb hr (fun t ht hW => ⟨rfl, by rw [ht]; exact hM.moved hW.alike, hS.F ht⟩) hS.2.2 dX6_fillSingle_14
set_option maxHeartbeats 4000000 in
set_option maxRecDepth 100000 in
theorem c_X6_fillSingle (l : Launch) (D : mmD) (b0 sz : Nat) {kn : Nat} (ek : kn = D.2 9) {v0 : Nat} {f : mmF} {res : mmF} (h : f_X6_fillSingle kn v0 f = some res) : Met l yX6_fillSingle wsX6_fillSingle ({ frames := 2, cells := 0, slots := 0, locals := 49 } : Room) (va_Pc [.ref v0] (PW D b0 f sz)) (QW D b0 none res sz) 0 0 (fun q => b0 ≤ q) := by
  refine Met.ofW (cc := cX6_fillSingle) (maxL := 1) (ret := none) (by decide) rfl ?_
  intro p e s m args below meth c s₁ B hml hv
  obtain ⟨rfl, hM, hK⟩ := hv
  have hl := lv_entry ([.ref v0]) (n := 1) (Nat.le_of_ble_eq_true rfl)
  rw [lg_entry_eq]
  generalize (lg_sl ([.ref v0]) ++ List.replicate (1 - (lg_sl ([.ref v0])).length) Slot.unset).toArray = ls at hl ⊢
  have hl : lv_has ls 1 [(0, .ref v0)] := hl
  exact w_X6_fillSingle ⟨B.exec, B.bytes, B.returns, hml, findClass_of_methodNamed B.named, atoms_spec (ws := wsX6_fillSingle) B.pre, B.notSynchronized, hK⟩ ek h s.heap [] ls hM va_S.rf hl
end S_X6_fillSingle
/-! X6_supporting -/
set_option maxRecDepth 20000 in
theorem q_X6_supporting_0 : Cond.initialized RX9 ∈ wsX6_supporting := by decide +kernel
set_option maxRecDepth 20000 in
theorem q_X6_supporting_1 : Cond.static yX9_has ∈ wsX6_supporting := by decide +kernel
set_option maxRecDepth 20000 in
theorem q_X6_supporting_2 : Cond.constant RX6 31 (65535) ∈ wsX6_supporting := by decide +kernel
set_option maxRecDepth 20000 in
theorem qi_X6_supporting_X6 : ∀ w ∈ u_ws RX6 TX6 5, w ∈ wsX6_supporting := by decide +kernel
set_option maxRecDepth 20000 in
theorem q_X6_supporting_4 : Cond.fieldLink RX6 12 "StageTruths$SmallModels" "parts" "LStageTruths$Parts;" ∈ wsX6_supporting := by decide +kernel
set_option maxRecDepth 20000 in
theorem q_X6_supporting_5 : Cond.static yX9_at ∈ wsX6_supporting := by decide +kernel
noncomputable def f_X6_supporting_40 (k6 : Nat → Nat → Int32 → Int32 → Int32 → Option (Int32)) (f : mmF) (v0 : Nat) (v1 : Nat) (v2 : Int32) (v4 : Int32) (t0 : Int32) (t1 : Int32) : Option (Int32) :=
  k6 v0 v1 v2 (t0 &&& t1) (v4 + (1 : Int32))
noncomputable def f_X6_supporting_6  (f : mmF) : Nat → Nat → Nat → Int32 → Int32 → Int32 → Option (Int32)
  | 0, _, _, _, _, _ => none
  | n + 1, v0, v1, v2, v3, v4 =>
    if (5 : Int32) ≤ v4 then
    (some (v3))
    else
    (f_X9_has v2 v4 f).bind fun q16 =>
    if q16 = 0 then
    (f_X6_supporting_40 (fun a0 a1 a2 a3 a4 => f_X6_supporting_6 f n a0 a1 a2 a3 a4) f v0 v1 v2 v4 v3 (65535 : Int32))
    else
    (ldR f v0 6 0).bind fun x24 =>
    (ckO f x24 4).bind fun _ =>
    (f_X4_whole x24 v4 f).bind fun q29 =>
    (f_X9_at v1 q29 f).bind fun q32 =>
    f_X6_supporting_40 (fun a0 a1 a2 a3 a4 => f_X6_supporting_6 f n a0 a1 a2 a3 a4) f v0 v1 v2 v4 v3 q32
noncomputable def f_X6_supporting (v0 : Nat) (v1 : Nat) (v2 : Int32) (f : mmF) : Option (Int32) :=
  f_X6_supporting_6 f FU v0 v1 v2 (65535 : Int32) (0 : Int32)
section S_X6_supporting
variable {p : Program} {l : Launch} {e : Env} {s : State} {m : MethodId} {args : Array Value} {below : List Frame} {meth : Method} {c : Code} {D : mmD} {b0 sz : Nat} {f : mmF}
set_option maxHeartbeats 4000000 in
set_option maxRecDepth 100000 in
theorem w_X6_supporting_40 (C0 : CX cX6_supporting 5 (some .int) wsX6_supporting RX6 p s m args meth c D b0) {k6 : Nat → Nat → Int32 → Int32 → Int32 → Option (Int32)} {res : Int32} (hk6 : ∀ (v0 : Nat) (v1 : Nat) (v2 : Int32) (v3 : Int32) (v4 : Int32), k6 v0 v1 v2 v3 v4 = some res → ∀ (H : Heap) (locs : List Loc) (ls : Array Slot), MM vwCl D b0 f sz s H → mS b0 s H locs → lv_has ls 5 [(0, .ref v0), (1, .ref v1), (2, .int v2), (3, .int v3), (4, .int v4)] → W p l e ({ frames := 2, cells := 0, slots := 0, locals := 42 } : Room) s m args below meth c H locs 0 0 (MQ below (QW D b0 (some (.int res)) f sz) args s 0 0 (fun q => b0 ≤ q)) (F0 m 6 ls [])) : ∀ (v0 : Nat) (v1 : Nat) (v2 : Int32) (v4 : Int32) (t0 : Int32) (t1 : Int32), f_X6_supporting_40 k6 f v0 v1 v2 v4 t0 t1 = some res → ∀ (H : Heap) (locs : List Loc) (ls : Array Slot), MM vwCl D b0 f sz s H → mS b0 s H locs → lv_has ls 5 [(0, .ref v0), (1, .ref v1), (2, .int v2), (4, .int v4)] → W p l e ({ frames := 2, cells := 0, slots := 0, locals := 42 } : Room) s m args below meth c H locs 0 0 (MQ below (QW D b0 (some (.int res)) f sz) args s 0 0 (fun q => b0 ≤ q)) (F0 m 40 ls [.int t1, .int t0]) := by
  obtain ⟨hx, hb, hr, hml, hown, hts, hlocks, hK⟩ := id C0
  intro v0 v1 v2 v4 t0 t1 h H locs ls hM hS hl
  unfold f_X6_supporting_40 at h
  refine lv_iand hx hb dX6_supporting_40 ?_
  refine lv_istore_n (lv' := [(3, .int (t0 &&& t1)), (0, .ref v0), (1, .ref v1), (2, .int v2), (4, .int v4)]) hx hb dX6_supporting_41 rfl hl (by decide) rfl (fun ls hl => ?_)
  refine lv_iinc (v := (v4 + (1 : Int32))) (lv' := [(4, .int (v4 + (1 : Int32))), (3, .int (t0 &&& t1)), (0, .ref v0), (1, .ref v1), (2, .int v2)]) hx hb dX6_supporting_42 hl (k := 4) rfl rfl (by decide) rfl (fun ls hl => ?_)
  refine lv_goto (tgt := 6) hx hb dX6_supporting_45 (by decide) ?_
  exact hk6 _ _ _ _ _ h _ _ _ hM hS (lv_sub hl [2, 3, 4, 1, 0] rfl)
set_option maxHeartbeats 4000000 in
set_option maxRecDepth 100000 in
theorem w_X6_supporting_6 (C0 : CX cX6_supporting 5 (some .int) wsX6_supporting RX6 p s m args meth c D b0) {res : Int32} : ∀ (n : Nat), ∀ (v0 : Nat) (v1 : Nat) (v2 : Int32) (v3 : Int32) (v4 : Int32), f_X6_supporting_6 f n v0 v1 v2 v3 v4 = some res → ∀ (H : Heap) (locs : List Loc) (ls : Array Slot), MM vwCl D b0 f sz s H → mS b0 s H locs → lv_has ls 5 [(0, .ref v0), (1, .ref v1), (2, .int v2), (3, .int v3), (4, .int v4)] → W p l e ({ frames := 2, cells := 0, slots := 0, locals := 42 } : Room) s m args below meth c H locs 0 0 (MQ below (QW D b0 (some (.int res)) f sz) args s 0 0 (fun q => b0 ≤ q)) (F0 m 6 ls []) := by
  obtain ⟨hx, hb, hr, hml, hown, hts, hlocks, hK⟩ := id C0
  intro n
  induction n with
  | zero =>
    intro v0 v1 v2 v3 v4 h
    have h : (none : Option (Int32)) = some res := h
    cases h
  | succ n ih =>
    intro v0 v1 v2 v3 v4 h H locs ls hM hS hl
    rw [f_X6_supporting_6] at h
    refine lv_iload hx hb dX6_supporting_6 (lv_at hl 4 rfl) ?_
    refine lv_iconst (v := (5 : Int32)) hx hb dX6_supporting_8 (by decide) ?_
    refine lv_icmp_ge (tgt := 48) hx hb dX6_supporting_9 (by decide) (fun c9 => ?_) (fun c9 => ?_)
    · replace h := o_t c9 h
      refine lv_iload_n hx hb dX6_supporting_48 rfl (lv_at hl 3 rfl) ?_
      replace h := Option.some.inj h; subst h
      exact W.iret hx hb hr (fun t ht hW => ⟨rfl, by rw [ht]; exact hM.moved hW.alike, hS.F ht⟩) hS.2.2 dX6_supporting_49
    replace h := o_f c9 h
    refine lv_iload_n hx hb dX6_supporting_12 rfl (lv_at hl 3 rfl) ?_
    refine lv_iload_n hx hb dX6_supporting_13 rfl (lv_at hl 2 rfl) ?_
    refine lv_iload hx hb dX6_supporting_14 (lv_at hl 4 rfl) ?_
    replace h := o_b h; obtain ⟨q16, h16, h⟩ := h
    refine m_call (va_runSN (As := [.int v2, .int v4]) (rest := [.int v3]) ⟨hx, hb, hml, hown, hts⟩ (c_X9_has l D b0 sz h16) ⟨(va_cnB 2 hts gX6_supporting_X9_has_n48 rfl rfl rfl (hK.2.1 (RX6, 48, yX9_has, "StageTruths") (by decide)) (hts _ q_X6_supporting_0) (by decide +kernel) ⟨Nat.le_of_ble_eq_true rfl, Nat.le_of_ble_eq_true rfl⟩), (hts _ q_X6_supporting_1), trivial⟩ ⟨PW.blind, (fun U hU hW => ⟨rfl, PW.call hK hM hS hU hW⟩)⟩ rfl rfl hl.1 rfl (lv_room (Nat.le_of_ble_eq_true rfl)) dX6_supporting_16 ⟨(Nat.le_refl _), (Nat.le_refl _)⟩) hS (fun H locs hM hS => ?_)
    refine lv_if_eq (tgt := 38) hx hb dX6_supporting_19 (by decide) (fun c19 => ?_) (fun c19 => ?_)
    · replace h := o_t c19 h
      refine lv_ldc (v := (65535 : Int32)) hx hb hown (hts _ q_X6_supporting_2) dX6_supporting_38 ?_
      exact w_X6_supporting_40 C0 ih _ _ _ _ _ _ h _ _ _ hM hS (lv_sub hl [0, 1, 2, 4] rfl)
    replace h := o_f c19 h
    refine lv_aload_n hx hb dX6_supporting_22 rfl (lv_at hl 1 rfl) ?_
    refine lv_aload_n hx hb dX6_supporting_23 rfl (lv_at hl 0 rfl) ?_
    replace h := o_b h; obtain ⟨x24, h24, h⟩ := h
    refine m_get (C := RX6) (T := TX6) (N := 5) (ci := 6) hx hb hts qi_X6_supporting_X6 hown hK.1 hM 0 (ldR_F h24) rfl (by decide) (hts _ q_X6_supporting_4) (fun _ h9 => h9) dX6_supporting_24 ?_
    refine lv_iload hx hb dX6_supporting_27 (lv_at hl 4 rfl) ?_
    replace h := o_b h; obtain ⟨_, k29, h⟩ := h
    replace h := o_b h; obtain ⟨q29, h29, h⟩ := h
    refine m_call (va_runV (As := [.int v4]) (rest := [.ref v1, .int v3]) ⟨hx, hb, hml, hown, hts⟩ (c_X4_whole l D b0 sz h29) (cwV 1 hts gX6_supporting_X4_whole rfl rfl rfl (by decide +kernel) ⟨Nat.le_of_ble_eq_true rfl, Nat.le_of_ble_eq_true rfl⟩) ⟨PW.blind, m_recv (ci := 4) rfl hK hM k29, (fun U hU hW => ⟨rfl, PW.call hK hM hS hU hW⟩)⟩ rfl rfl hl.1 rfl (lv_room (Nat.le_of_ble_eq_true rfl)) dX6_supporting_29 ⟨(Nat.le_refl _), (Nat.le_refl _)⟩) hS (fun H locs hM hS => ?_)
    replace h := o_b h; obtain ⟨q32, h32, h⟩ := h
    refine m_call (va_runSN (As := [.ref v1, .int q29]) (rest := [.int v3]) ⟨hx, hb, hml, hown, hts⟩ (c_X9_at l D b0 sz h32) ⟨(va_cnB 2 hts gX6_supporting_X9_at_n36 rfl rfl rfl (hK.2.1 (RX6, 36, yX9_at, "StageTruths") (by decide)) (hts _ q_X6_supporting_0) (by decide +kernel) ⟨Nat.le_of_ble_eq_true rfl, Nat.le_of_ble_eq_true rfl⟩), (hts _ q_X6_supporting_5), trivial⟩ ⟨PW.blind, (fun U hU hW => ⟨rfl, PW.call hK hM hS hU hW⟩)⟩ rfl rfl hl.1 rfl (lv_room (Nat.le_of_ble_eq_true rfl)) dX6_supporting_32 ⟨(Nat.le_refl _), (Nat.le_refl _)⟩) hS (fun H locs hM hS => ?_)
    refine lv_goto (tgt := 40) hx hb dX6_supporting_35 (by decide) ?_
    exact w_X6_supporting_40 C0 ih _ _ _ _ _ _ h _ _ _ hM hS (lv_sub hl [0, 1, 2, 4] rfl)
set_option maxHeartbeats 4000000 in
set_option maxRecDepth 100000 in
theorem w_X6_supporting (C0 : CX cX6_supporting 5 (some .int) wsX6_supporting RX6 p s m args meth c D b0) {v0 : Nat} {v1 : Nat} {v2 : Int32} {res : Int32} (h : f_X6_supporting v0 v1 v2 f = some res) : ∀ (H : Heap) (locs : List Loc) (ls : Array Slot), MM vwCl D b0 f sz s H → mS b0 s H locs → lv_has ls 5 [(0, .ref v0), (1, .ref v1), (2, .int v2)] → W p l e ({ frames := 2, cells := 0, slots := 0, locals := 42 } : Room) s m args below meth c H locs 0 0 (MQ below (QW D b0 (some (.int res)) f sz) args s 0 0 (fun q => b0 ≤ q)) (F0 m 0 ls []) := by
  obtain ⟨hx, hb, hr, hml, hown, hts, hlocks, hK⟩ := id C0
  intro H locs ls hM hS hl
  unfold f_X6_supporting at h
  refine lv_ldc (v := (65535 : Int32)) hx hb hown (hts _ q_X6_supporting_2) dX6_supporting_0 ?_
  refine lv_istore_n (lv' := [(3, .int (65535 : Int32)), (0, .ref v0), (1, .ref v1), (2, .int v2)]) hx hb dX6_supporting_2 rfl hl (by decide) rfl (fun ls hl => ?_)
  refine lv_iconst (v := (0 : Int32)) hx hb dX6_supporting_3 (by decide) ?_
  refine lv_istore (lv' := [(4, .int (0 : Int32)), (3, .int (65535 : Int32)), (0, .ref v0), (1, .ref v1), (2, .int v2)]) hx hb dX6_supporting_4 hl (by decide) rfl (fun ls hl => ?_)
  exact w_X6_supporting_6 C0 FU _ _ _ _ _ h _ _ _ hM hS (lv_sub hl [2, 3, 4, 1, 0] rfl)
set_option maxHeartbeats 4000000 in
set_option maxRecDepth 100000 in
theorem c_X6_supporting (l : Launch) (D : mmD) (b0 sz : Nat) {v0 : Nat} {v1 : Nat} {v2 : Int32} {f : mmF} {res : Int32} (h : f_X6_supporting v0 v1 v2 f = some res) : Met l yX6_supporting wsX6_supporting ({ frames := 2, cells := 0, slots := 0, locals := 42 } : Room) (va_Pc [.ref v0, .ref v1, .int v2] (PW D b0 f sz)) (QW D b0 (some (.int res)) f sz) 0 0 (fun q => b0 ≤ q) := by
  refine Met.ofW (cc := cX6_supporting) (maxL := 5) (ret := (some .int)) (by decide) rfl ?_
  intro p e s m args below meth c s₁ B hml hv
  obtain ⟨rfl, hM, hK⟩ := hv
  have hl := lv_entry ([.ref v0, .ref v1, .int v2]) (n := 5) (Nat.le_of_ble_eq_true rfl)
  rw [lg_entry_eq]
  generalize (lg_sl ([.ref v0, .ref v1, .int v2]) ++ List.replicate (5 - (lg_sl ([.ref v0, .ref v1, .int v2])).length) Slot.unset).toArray = ls at hl ⊢
  have hl : lv_has ls 5 [(0, .ref v0), (1, .ref v1), (2, .int v2)] := hl
  exact w_X6_supporting ⟨B.exec, B.bytes, B.returns, hml, findClass_of_methodNamed B.named, atoms_spec (ws := wsX6_supporting) B.pre, B.notSynchronized, hK⟩ h s.heap [] ls hM va_S.rf hl
end S_X6_supporting
/-! X6_refuting -/
set_option maxRecDepth 20000 in
theorem qi_X6_refuting_X6 : ∀ w ∈ u_ws RX6 TX6 5, w ∈ wsX6_refuting := by decide +kernel
set_option maxRecDepth 20000 in
theorem q_X6_refuting_1 : Cond.fieldLink RX6 12 "StageTruths$SmallModels" "parts" "LStageTruths$Parts;" ∈ wsX6_refuting := by decide +kernel
set_option maxRecDepth 20000 in
theorem q_X6_refuting_2 : Cond.initialized RX9 ∈ wsX6_refuting := by decide +kernel
set_option maxRecDepth 20000 in
theorem q_X6_refuting_3 : Cond.static yX9_at ∈ wsX6_refuting := by decide +kernel
noncomputable def f_X6_refuting (v0 : Nat) (v1 : Nat) (v2 : Int32) (v3 : Int32) (f : mmF) : Option (Int32) :=
  (ckO f v0 6).bind fun _ =>
  (f_X6_supporting v0 v1 v2 f).bind fun q3 =>
  (ldR f v0 6 0).bind fun x8 =>
  (ckO f x8 4).bind fun _ =>
  (f_X4_whole x8 v3 f).bind fun q12 =>
  (f_X9_at v1 q12 f).bind fun q15 =>
  some ((q3 &&& (q15 ^^^ (-1 : Int32))))
section S_X6_refuting
variable {p : Program} {l : Launch} {e : Env} {s : State} {m : MethodId} {args : Array Value} {below : List Frame} {meth : Method} {c : Code} {D : mmD} {b0 sz : Nat} {f : mmF}
set_option maxHeartbeats 4000000 in
set_option maxRecDepth 100000 in
theorem w_X6_refuting (C0 : CX cX6_refuting 4 (some .int) wsX6_refuting RX6 p s m args meth c D b0) {v0 : Nat} {v1 : Nat} {v2 : Int32} {v3 : Int32} {res : Int32} (h : f_X6_refuting v0 v1 v2 v3 f = some res) : ∀ (H : Heap) (locs : List Loc) (ls : Array Slot), MM vwCl D b0 f sz s H → mS b0 s H locs → lv_has ls 4 [(0, .ref v0), (1, .ref v1), (2, .int v2), (3, .int v3)] → W p l e ({ frames := 3, cells := 0, slots := 0, locals := 66 } : Room) s m args below meth c H locs 0 0 (MQ below (QW D b0 (some (.int res)) f sz) args s 0 0 (fun q => b0 ≤ q)) (F0 m 0 ls []) := by
  obtain ⟨hx, hb, hr, hml, hown, hts, hlocks, hK⟩ := id C0
  intro H locs ls hM hS hl
  unfold f_X6_refuting at h
  refine lv_aload_n hx hb dX6_refuting_0 rfl (lv_at hl 0 rfl) ?_
  refine lv_aload_n hx hb dX6_refuting_1 rfl (lv_at hl 1 rfl) ?_
  refine lv_iload_n hx hb dX6_refuting_2 rfl (lv_at hl 2 rfl) ?_
  replace h := o_b h; obtain ⟨_, k3, h⟩ := h
  replace h := o_b h; obtain ⟨q3, h3, h⟩ := h
  refine m_call (va_runV (As := [.ref v1, .int v2]) (rest := []) ⟨hx, hb, hml, hown, hts⟩ (c_X6_supporting l D b0 sz h3) (cwV 2 hts gX6_refuting_X6_supporting rfl rfl rfl (by decide +kernel) ⟨Nat.le_of_ble_eq_true rfl, Nat.le_of_ble_eq_true rfl⟩) ⟨PW.blind, m_recv (ci := 6) rfl hK hM k3, (fun U hU hW => ⟨rfl, PW.call hK hM hS hU hW⟩)⟩ rfl rfl hl.1 rfl (lv_room (Nat.le_of_ble_eq_true rfl)) dX6_refuting_3 ⟨(Nat.le_refl _), (Nat.le_refl _)⟩) hS (fun H locs hM hS => ?_)
  refine lv_aload_n hx hb dX6_refuting_6 rfl (lv_at hl 1 rfl) ?_
  refine lv_aload_n hx hb dX6_refuting_7 rfl (lv_at hl 0 rfl) ?_
  replace h := o_b h; obtain ⟨x8, h8, h⟩ := h
  refine m_get (C := RX6) (T := TX6) (N := 5) (ci := 6) hx hb hts qi_X6_refuting_X6 hown hK.1 hM 0 (ldR_F h8) rfl (by decide) (hts _ q_X6_refuting_1) (fun _ h9 => h9) dX6_refuting_8 ?_
  refine lv_iload_n hx hb dX6_refuting_11 rfl (lv_at hl 3 rfl) ?_
  replace h := o_b h; obtain ⟨_, k12, h⟩ := h
  replace h := o_b h; obtain ⟨q12, h12, h⟩ := h
  refine m_call (va_runV (As := [.int v3]) (rest := [.ref v1, .int q3]) ⟨hx, hb, hml, hown, hts⟩ (c_X4_whole l D b0 sz h12) (cwV 1 hts gX6_refuting_X4_whole rfl rfl rfl (by decide +kernel) ⟨Nat.le_of_ble_eq_true rfl, Nat.le_of_ble_eq_true rfl⟩) ⟨PW.blind, m_recv (ci := 4) rfl hK hM k12, (fun U hU hW => ⟨rfl, PW.call hK hM hS hU hW⟩)⟩ rfl rfl hl.1 rfl (lv_room (Nat.le_of_ble_eq_true rfl)) dX6_refuting_12 ⟨(Nat.le_refl _), (Nat.le_refl _)⟩) hS (fun H locs hM hS => ?_)
  replace h := o_b h; obtain ⟨q15, h15, h⟩ := h
  refine m_call (va_runSN (As := [.ref v1, .int q12]) (rest := [.int q3]) ⟨hx, hb, hml, hown, hts⟩ (c_X9_at l D b0 sz h15) ⟨(va_cnB 2 hts gX6_refuting_X9_at_n36 rfl rfl rfl (hK.2.1 (RX6, 36, yX9_at, "StageTruths") (by decide)) (hts _ q_X6_refuting_2) (by decide +kernel) ⟨Nat.le_of_ble_eq_true rfl, Nat.le_of_ble_eq_true rfl⟩), (hts _ q_X6_refuting_3), trivial⟩ ⟨PW.blind, (fun U hU hW => ⟨rfl, PW.call hK hM hS hU hW⟩)⟩ rfl rfl hl.1 rfl (lv_room (Nat.le_of_ble_eq_true rfl)) dX6_refuting_15 ⟨(Nat.le_refl _), (Nat.le_refl _)⟩) hS (fun H locs hM hS => ?_)
  refine lv_iconst (v := (-1 : Int32)) hx hb dX6_refuting_18 (by decide) ?_
  refine lv_ixor hx hb dX6_refuting_19 ?_
  refine lv_iand hx hb dX6_refuting_20 ?_
  replace h := Option.some.inj h; subst h
  exact W.iret hx hb hr (fun t ht hW => ⟨rfl, by rw [ht]; exact hM.moved hW.alike, hS.F ht⟩) hS.2.2 dX6_refuting_21
set_option maxHeartbeats 4000000 in
set_option maxRecDepth 100000 in
theorem c_X6_refuting (l : Launch) (D : mmD) (b0 sz : Nat) {v0 : Nat} {v1 : Nat} {v2 : Int32} {v3 : Int32} {f : mmF} {res : Int32} (h : f_X6_refuting v0 v1 v2 v3 f = some res) : Met l yX6_refuting wsX6_refuting ({ frames := 3, cells := 0, slots := 0, locals := 66 } : Room) (va_Pc [.ref v0, .ref v1, .int v2, .int v3] (PW D b0 f sz)) (QW D b0 (some (.int res)) f sz) 0 0 (fun q => b0 ≤ q) := by
  refine Met.ofW (cc := cX6_refuting) (maxL := 4) (ret := (some .int)) (by decide) rfl ?_
  intro p e s m args below meth c s₁ B hml hv
  obtain ⟨rfl, hM, hK⟩ := hv
  have hl := lv_entry ([.ref v0, .ref v1, .int v2, .int v3]) (n := 4) (Nat.le_of_ble_eq_true rfl)
  rw [lg_entry_eq]
  generalize (lg_sl ([.ref v0, .ref v1, .int v2, .int v3]) ++ List.replicate (4 - (lg_sl ([.ref v0, .ref v1, .int v2, .int v3])).length) Slot.unset).toArray = ls at hl ⊢
  have hl : lv_has ls 4 [(0, .ref v0), (1, .ref v1), (2, .int v2), (3, .int v3)] := hl
  exact w_X6_refuting ⟨B.exec, B.bytes, B.returns, hml, findClass_of_methodNamed B.named, atoms_spec (ws := wsX6_refuting) B.pre, B.notSynchronized, hK⟩ h s.heap [] ls hM va_S.rf hl
end S_X6_refuting
/-! X6_entailsPlainly -/
set_option maxRecDepth 20000 in
theorem qi_X6_entailsPlainly_X6 : ∀ w ∈ u_ws RX6 TX6 5, w ∈ wsX6_entailsPlainly := by decide +kernel
set_option maxRecDepth 20000 in
theorem q_X6_entailsPlainly_1 : Cond.fieldLink RX6 22 "StageTruths$SmallModels" "single" "[I" ∈ wsX6_entailsPlainly := by decide +kernel
noncomputable def f_X6_entailsPlainly (v0 : Nat) (v1 : Int32) (v2 : Int32) (f : mmF) : Option (Int32) :=
  (ldR f v0 6 2).bind fun x2 =>
  (ckO f v0 6).bind fun _ =>
  (f_X6_refuting v0 x2 v1 v2 f).bind fun q7 =>
  if q7 = 0 then
  (some ((1 : Int32)))
  else
  some ((0 : Int32))
section S_X6_entailsPlainly
variable {p : Program} {l : Launch} {e : Env} {s : State} {m : MethodId} {args : Array Value} {below : List Frame} {meth : Method} {c : Code} {D : mmD} {b0 sz : Nat} {f : mmF}
set_option maxHeartbeats 4000000 in
set_option maxRecDepth 100000 in
theorem w_X6_entailsPlainly (C0 : CX cX6_entailsPlainly 3 (some .boolean) wsX6_entailsPlainly RX6 p s m args meth c D b0) {v0 : Nat} {v1 : Int32} {v2 : Int32} {res : Int32} (h : f_X6_entailsPlainly v0 v1 v2 f = some res) : ∀ (H : Heap) (locs : List Loc) (ls : Array Slot), MM vwCl D b0 f sz s H → mS b0 s H locs → lv_has ls 3 [(0, .ref v0), (1, .int v1), (2, .int v2)] → W p l e ({ frames := 4, cells := 0, slots := 0, locals := 89 } : Room) s m args below meth c H locs 0 0 (MQ below (QW D b0 (some (.int res)) f sz) args s 0 0 (fun q => b0 ≤ q)) (F0 m 0 ls []) := by
  obtain ⟨hx, hb, hr, hml, hown, hts, hlocks, hK⟩ := id C0
  intro H locs ls hM hS hl
  unfold f_X6_entailsPlainly at h
  refine lv_aload_n hx hb dX6_entailsPlainly_0 rfl (lv_at hl 0 rfl) ?_
  refine lv_aload_n hx hb dX6_entailsPlainly_1 rfl (lv_at hl 0 rfl) ?_
  replace h := o_b h; obtain ⟨x2, h2, h⟩ := h
  refine m_get (C := RX6) (T := TX6) (N := 5) (ci := 6) hx hb hts qi_X6_entailsPlainly_X6 hown hK.1 hM 2 (ldR_F h2) rfl (by decide) (hts _ q_X6_entailsPlainly_1) (fun _ h9 => h9) dX6_entailsPlainly_2 ?_
  refine lv_iload_n hx hb dX6_entailsPlainly_5 rfl (lv_at hl 1 rfl) ?_
  refine lv_iload_n hx hb dX6_entailsPlainly_6 rfl (lv_at hl 2 rfl) ?_
  replace h := o_b h; obtain ⟨_, k7, h⟩ := h
  replace h := o_b h; obtain ⟨q7, h7, h⟩ := h
  refine m_call (va_runV (As := [.ref x2, .int v1, .int v2]) (rest := []) ⟨hx, hb, hml, hown, hts⟩ (c_X6_refuting l D b0 sz h7) (cwV 3 hts gX6_entailsPlainly_X6_refuting rfl rfl rfl (by decide +kernel) ⟨Nat.le_of_ble_eq_true rfl, Nat.le_of_ble_eq_true rfl⟩) ⟨PW.blind, m_recv (ci := 6) rfl hK hM k7, (fun U hU hW => ⟨rfl, PW.call hK hM hS hU hW⟩)⟩ rfl rfl hl.1 rfl (lv_room (Nat.le_of_ble_eq_true rfl)) dX6_entailsPlainly_7 ⟨(Nat.le_refl _), (Nat.le_refl _)⟩) hS (fun H locs hM hS => ?_)
  refine lv_if_ne (tgt := 17) hx hb dX6_entailsPlainly_10 (by decide) (fun c10 => ?_) (fun c10 => ?_)
  · replace h := o_f c10 h
    refine lv_iconst (v := (0 : Int32)) hx hb dX6_entailsPlainly_17 (by decide) ?_
    replace h := Option.some.inj h; subst h
    exact W.zret hx hb hr rfl (fun t ht hW => ⟨rfl, by rw [ht]; exact hM.moved hW.alike, hS.F ht⟩) hS.2.2 dX6_entailsPlainly_18
  replace h := o_t c10 h
  refine lv_iconst (v := (1 : Int32)) hx hb dX6_entailsPlainly_13 (by decide) ?_
  refine lv_goto (tgt := 18) hx hb dX6_entailsPlainly_14 (by decide) ?_
  replace h := Option.some.inj h; subst h
  exact W.zret hx hb hr rfl (fun t ht hW => ⟨rfl, by rw [ht]; exact hM.moved hW.alike, hS.F ht⟩) hS.2.2 dX6_entailsPlainly_18
set_option maxHeartbeats 4000000 in
set_option maxRecDepth 100000 in
theorem c_X6_entailsPlainly (l : Launch) (D : mmD) (b0 sz : Nat) {v0 : Nat} {v1 : Int32} {v2 : Int32} {f : mmF} {res : Int32} (h : f_X6_entailsPlainly v0 v1 v2 f = some res) : Met l yX6_entailsPlainly wsX6_entailsPlainly ({ frames := 4, cells := 0, slots := 0, locals := 89 } : Room) (va_Pc [.ref v0, .int v1, .int v2] (PW D b0 f sz)) (QW D b0 (some (.int res)) f sz) 0 0 (fun q => b0 ≤ q) := by
  refine Met.ofW (cc := cX6_entailsPlainly) (maxL := 3) (ret := (some .boolean)) (by decide) rfl ?_
  intro p e s m args below meth c s₁ B hml hv
  obtain ⟨rfl, hM, hK⟩ := hv
  have hl := lv_entry ([.ref v0, .int v1, .int v2]) (n := 3) (Nat.le_of_ble_eq_true rfl)
  rw [lg_entry_eq]
  generalize (lg_sl ([.ref v0, .int v1, .int v2]) ++ List.replicate (3 - (lg_sl ([.ref v0, .int v1, .int v2])).length) Slot.unset).toArray = ls at hl ⊢
  have hl : lv_has ls 3 [(0, .ref v0), (1, .int v1), (2, .int v2)] := hl
  exact w_X6_entailsPlainly ⟨B.exec, B.bytes, B.returns, hml, findClass_of_methodNamed B.named, atoms_spec (ws := wsX6_entailsPlainly) B.pre, B.notSynchronized, hK⟩ h s.heap [] ls hM va_S.rf hl
end S_X6_entailsPlainly
