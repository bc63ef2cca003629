/-! X10_followsPlainly -/
noncomputable def f_X10_followsPlainly (v0 : Nat) (v1 : Int32) (v2 : Int32) (f : mmF) : Option (Int32 × mmF) :=
  (ckO f v0 10).bind fun _ =>
  (f_X10_isBad v0 v1 f).bind fun q2 =>
  if q2 = 0 then
  ((ckO f v0 10).bind fun _ =>
  (f_X10_noClaim v0 v2 f).bind fun q13 =>
  if q13 = 0 then
  ((ckO f v0 10).bind fun _ =>
  (f_X10_sets v0 v1 v2 f).bind fun q24 =>
  (ckO q24 v0 10).bind fun _ =>
  (f_X10_isKept v0 (0 : Int32) q24).bind fun q29 =>
  if q29 = 0 then
  (some ((0 : Int32), q24))
  else
  some ((1 : Int32), q24))
  else
  some ((-1 : Int32), f))
  else
  some ((-2 : Int32), f)
section S_X10_followsPlainly
variable {p : Program} {l : Launch} {e : Env} {s : State} {m : MethodId} {args : Array Value} {below : List Frame} {meth : Method} {c : Code} {D : mmD} {b0 sz : Nat} {f : mmF}
set_option maxHeartbeats 4000000 in
set_option maxRecDepth 100000 in
theorem w_X10_followsPlainly (C0 : CX cX10_followsPlainly 3 (some .int) wsX10_followsPlainly RX10 p s m args meth c D b0) {v0 : Nat} {v1 : Int32} {v2 : Int32} {res : Int32 × mmF} (h : f_X10_followsPlainly v0 v1 v2 f = some res) : ∀ (H : Heap) (locs : List Loc) (ls : Array Slot), MM vwCl D b0 f sz s H → mS b0 s H locs → lv_has ls 3 [(0, .ref v0), (1, .int v1), (2, .int v2)] → W p l e ({ frames := 8, cells := 0, slots := 0, locals := 195 } : Room) s m args below meth c H locs 0 0 (MQ below (QW D b0 (some (.int res.1)) res.2 sz) args s 0 0 (fun q => b0 ≤ q)) (F0 m 0 ls []) := by
  obtain ⟨hx, hb, hr, hml, hown, hts, hlocks, hK⟩ := id C0
  intro H locs ls hM hS hl
  unfold f_X10_followsPlainly at h
  refine lv_aload_n hx hb dX10_followsPlainly_0 rfl (lv_at hl 0 rfl) ?_
  refine lv_iload_n hx hb dX10_followsPlainly_1 rfl (lv_at hl 1 rfl) ?_
  replace h := o_b h; obtain ⟨_, k2, h⟩ := h
  replace h := o_b h; obtain ⟨q2, h2, h⟩ := h
  refine m_call (va_runV (As := [.int v1]) (rest := []) ⟨hx, hb, hml, hown, hts⟩ (c_X10_isBad l D b0 sz h2) (cwV 1 hts gX10_followsPlainly_X10_isBad rfl rfl rfl (by decide +kernel) ⟨Nat.le_of_ble_eq_true rfl, Nat.le_of_ble_eq_true rfl⟩) ⟨PW.blind, m_recv (ci := 10) rfl hK hM k2, (fun U hU hW => ⟨rfl, PW.call hK hM hS hU hW⟩)⟩ rfl rfl hl.1 rfl (lv_room (Nat.le_of_ble_eq_true rfl)) dX10_followsPlainly_2 ⟨(Nat.le_refl _), (Nat.le_refl _)⟩) hS (fun H locs hM hS => ?_)
  refine lv_if_eq (tgt := 11) hx hb dX10_followsPlainly_5 (by decide) (fun c5 => ?_) (fun c5 => ?_)
  · replace h := o_t c5 h
    refine lv_aload_n hx hb dX10_followsPlainly_11 rfl (lv_at hl 0 rfl) ?_
    refine lv_iload_n hx hb dX10_followsPlainly_12 rfl (lv_at hl 2 rfl) ?_
    replace h := o_b h; obtain ⟨_, k13, h⟩ := h
    replace h := o_b h; obtain ⟨q13, h13, h⟩ := h
    refine m_call (va_runV (As := [.int v2]) (rest := []) ⟨hx, hb, hml, hown, hts⟩ (c_X10_noClaim l D b0 sz h13) (cwV 1 hts gX10_followsPlainly_X10_noClaim rfl rfl rfl (by decide +kernel) ⟨Nat.le_of_ble_eq_true rfl, Nat.le_of_ble_eq_true rfl⟩) ⟨PW.blind, m_recv (ci := 10) rfl hK hM k13, (fun U hU hW => ⟨rfl, PW.call hK hM hS hU hW⟩)⟩ rfl rfl hl.1 rfl (lv_room (Nat.le_of_ble_eq_true rfl)) dX10_followsPlainly_13 ⟨(Nat.le_refl _), (Nat.le_refl _)⟩) hS (fun H locs hM hS => ?_)
    refine lv_if_eq (tgt := 21) hx hb dX10_followsPlainly_16 (by decide) (fun c16 => ?_) (fun c16 => ?_)
    · replace h := o_t c16 h
      refine lv_aload_n hx hb dX10_followsPlainly_21 rfl (lv_at hl 0 rfl) ?_
      refine lv_iload_n hx hb dX10_followsPlainly_22 rfl (lv_at hl 1 rfl) ?_
      refine lv_iload_n hx hb dX10_followsPlainly_23 rfl (lv_at hl 2 rfl) ?_
      replace h := o_b h; obtain ⟨_, k24, h⟩ := h
      replace h := o_b h; obtain ⟨q24, h24, h⟩ := h
      refine m_call (va_runV (As := [.int v1, .int v2]) (rest := []) ⟨hx, hb, hml, hown, hts⟩ (c_X10_sets l D b0 sz h24) (cwV 2 hts gX10_followsPlainly_X10_sets rfl rfl rfl (by decide +kernel) ⟨Nat.le_of_ble_eq_true rfl, Nat.le_of_ble_eq_true rfl⟩) ⟨PW.blind, m_recv (ci := 10) rfl hK hM k24, (fun U hU hW => ⟨rfl, PW.call hK hM hS hU hW⟩)⟩ rfl rfl hl.1 rfl (lv_room (Nat.le_of_ble_eq_true rfl)) dX10_followsPlainly_24 ⟨(Nat.le_refl _), (Nat.le_refl _)⟩) hS (fun H locs hM hS => ?_)
      refine lv_aload_n hx hb dX10_followsPlainly_27 rfl (lv_at hl 0 rfl) ?_
      refine lv_iconst (v := (0 : Int32)) hx hb dX10_followsPlainly_28 (by decide) ?_
      replace h := o_b h; obtain ⟨_, k29, h⟩ := h
      replace h := o_b h; obtain ⟨q29, h29, h⟩ := h
      refine m_call (va_runV (As := [.int (0 : Int32)]) (rest := []) ⟨hx, hb, hml, hown, hts⟩ (c_X10_isKept l D b0 sz h29) (cwV 1 hts gX10_followsPlainly_X10_isKept rfl rfl rfl (by decide +kernel) ⟨Nat.le_of_ble_eq_true rfl, Nat.le_of_ble_eq_true rfl⟩) ⟨PW.blind, m_recv (ci := 10) rfl hK hM k29, (fun U hU hW => ⟨rfl, PW.call hK hM hS hU hW⟩)⟩ rfl rfl hl.1 rfl (lv_room (Nat.le_of_ble_eq_true rfl)) dX10_followsPlainly_29 ⟨(Nat.le_refl _), (Nat.le_refl _)⟩) hS (fun H locs hM hS => ?_)
      refine lv_if_eq (tgt := 39) hx hb dX10_followsPlainly_32 (by decide) (fun c32 => ?_) (fun c32 => ?_)
      · replace h := o_t c32 h
        refine lv_iconst (v := (0 : Int32)) hx hb dX10_followsPlainly_39 (by decide) ?_
        replace h := Option.some.inj h; subst h
        exact W.iret hx hb hr (fun t ht hW => ⟨rfl, by rw [ht]; exact hM.moved hW.alike, hS.F ht⟩) hS.2.2 dX10_followsPlainly_40
      replace h := o_f c32 h
      refine lv_iconst (v := (1 : Int32)) hx hb dX10_followsPlainly_35 (by decide) ?_
      refine lv_goto (tgt := 40) hx hb dX10_followsPlainly_36 (by decide) ?_
      replace h := Option.some.inj h; subst h
      exact W.iret hx hb hr (fun t ht hW => ⟨rfl, by rw [ht]; exact hM.moved hW.alike, hS.F ht⟩) hS.2.2 dX10_followsPlainly_40
    replace h := o_f c16 h
    refine lv_iconst (v := (-1 : Int32)) hx hb dX10_followsPlainly_19 (by decide) ?_
    replace h := Option.some.inj h; subst h
    exact W.iret hx hb hr (fun t ht hW => ⟨rfl, by rw [ht]; exact hM.moved hW.alike, hS.F ht⟩) hS.2.2 dX10_followsPlainly_20
  replace h := o_f c5 h
  refine lv_bipush (v := (-2 : Int32)) hx hb dX10_followsPlainly_8 (by decide) ?_
  replace h := Option.some.inj h; subst h
  exact W.iret hx hb hr (fun t ht hW => ⟨rfl, by rw [ht]; exact hM.moved hW.alike, hS.F ht⟩) hS.2.2 dX10_followsPlainly_10
set_option maxHeartbeats 4000000 in
set_option maxRecDepth 100000 in
theorem c_X10_followsPlainly (l : Launch) (D : mmD) (b0 sz : Nat) {v0 : Nat} {v1 : Int32} {v2 : Int32} {f : mmF} {res : Int32 × mmF} (h : f_X10_followsPlainly v0 v1 v2 f = some res) : Met l yX10_followsPlainly wsX10_followsPlainly ({ frames := 8, cells := 0, slots := 0, locals := 195 } : Room) (va_Pc [.ref v0, .int v1, .int v2] (PW D b0 f sz)) (QW D b0 (some (.int res.1)) res.2 sz) 0 0 (fun q => b0 ≤ q) := by
  refine Met.ofW (cc := cX10_followsPlainly) (maxL := 3) (ret := (some .int)) (by decide) rfl ?_
  intro p e s m args below meth c s₁ B hml hv
  obtain ⟨rfl, hM, hK⟩ := hv
  have hl := lv_entry ([.ref v0, .int v1, .int v2]) (n := 3) (Nat.le_of_ble_eq_true rfl)
  rw [lg_entry_eq]
  generalize (lg_sl ([.ref v0, .int v1, .int v2]) ++ List.replicate (3 - (lg_sl ([.ref v0, .int v1, .int v2])).length) Slot.unset).toArray = ls at hl ⊢
  have hl : lv_has ls 3 [(0, .ref v0), (1, .int v1), (2, .int v2)] := hl
  exact w_X10_followsPlainly ⟨B.exec, B.bytes, B.returns, hml, findClass_of_methodNamed B.named, atoms_spec (ws := wsX10_followsPlainly) B.pre, B.notSynchronized, hK⟩ h s.heap [] ls hM va_S.rf hl
end S_X10_followsPlainly
/-! X10_fewestStages -/
noncomputable def f_X10_fewestStages (v0 : Nat) (v1 : Int32) (v2 : Int32) (f : mmF) : Option (Int32 × mmF) :=
  (ckO f v0 10).bind fun _ =>
  (f_X10_isBad v0 v1 f).bind fun q2 =>
  if q2 = 0 then
  ((ckO f v0 10).bind fun _ =>
  (f_X10_noClaim v0 v2 f).bind fun q13 =>
  if q13 = 0 then
  ((ckO f v0 10).bind fun _ =>
  (f_X10_sets v0 v1 v2 f).bind fun q24 =>
  (ckO q24 v0 10).bind fun _ =>
  (f_X10_isKept v0 (0 : Int32) q24).bind fun q29 =>
  if q29 = 0 then
  (some ((1 : Int32), q24))
  else
  (ckO q24 v0 10).bind fun _ =>
  (f_X10_isKept v0 (1 : Int32) q24).bind fun q41 =>
  if q41 = 0 then
  (some ((2 : Int32), q24))
  else
  (ckO q24 v0 10).bind fun _ =>
  (f_X10_isKept v0 (2 : Int32) q24).bind fun q53 =>
  if q53 = 0 then
  (some ((3 : Int32), q24))
  else
  (ckO q24 v0 10).bind fun _ =>
  (f_X10_isKept v0 (3 : Int32) q24).bind fun q61 =>
  if q61 = 0 then
  (some ((3 : Int32), q24))
  else
  some ((-5 : Int32), q24))
  else
  some ((-1 : Int32), f))
  else
  some ((-2 : Int32), f)
section S_X10_fewestStages
variable {p : Program} {l : Launch} {e : Env} {s : State} {m : MethodId} {args : Array Value} {below : List Frame} {meth : Method} {c : Code} {D : mmD} {b0 sz : Nat} {f : mmF}
set_option maxHeartbeats 4000000 in
set_option maxRecDepth 100000 in
theorem w_X10_fewestStages (C0 : CX cX10_fewestStages 3 (some .int) wsX10_fewestStages RX10 p s m args meth c D b0) {v0 : Nat} {v1 : Int32} {v2 : Int32} {res : Int32 × mmF} (h : f_X10_fewestStages v0 v1 v2 f = some res) : ∀ (H : Heap) (locs : List Loc) (ls : Array Slot), MM vwCl D b0 f sz s H → mS b0 s H locs → lv_has ls 3 [(0, .ref v0), (1, .int v1), (2, .int v2)] → W p l e ({ frames := 8, cells := 0, slots := 0, locals := 195 } : Room) s m args below meth c H locs 0 0 (MQ below (QW D b0 (some (.int res.1)) res.2 sz) args s 0 0 (fun q => b0 ≤ q)) (F0 m 0 ls []) := by
  obtain ⟨hx, hb, hr, hml, hown, hts, hlocks, hK⟩ := id C0
  intro H locs ls hM hS hl
  unfold f_X10_fewestStages at h
  refine lv_aload_n hx hb dX10_fewestStages_0 rfl (lv_at hl 0 rfl) ?_
  refine lv_iload_n hx hb dX10_fewestStages_1 rfl (lv_at hl 1 rfl) ?_
  replace h := o_b h; obtain ⟨_, k2, h⟩ := h
  replace h := o_b h; obtain ⟨q2, h2, h⟩ := h
  refine m_call (va_runV (As := [.int v1]) (rest := []) ⟨hx, hb, hml, hown, hts⟩ (c_X10_isBad l D b0 sz h2) (cwV 1 hts gX10_fewestStages_X10_isBad rfl rfl rfl (by decide +kernel) ⟨Nat.le_of_ble_eq_true rfl, Nat.le_of_ble_eq_true rfl⟩) ⟨PW.blind, m_recv (ci := 10) rfl hK hM k2, (fun U hU hW => ⟨rfl, PW.call hK hM hS hU hW⟩)⟩ rfl rfl hl.1 rfl (lv_room (Nat.le_of_ble_eq_true rfl)) dX10_fewestStages_2 ⟨(Nat.le_refl _), (Nat.le_refl _)⟩) hS (fun H locs hM hS => ?_)
  refine lv_if_eq (tgt := 11) hx hb dX10_fewestStages_5 (by decide) (fun c5 => ?_) (fun c5 => ?_)
  · replace h := o_t c5 h
    refine lv_aload_n hx hb dX10_fewestStages_11 rfl (lv_at hl 0 rfl) ?_
    refine lv_iload_n hx hb dX10_fewestStages_12 rfl (lv_at hl 2 rfl) ?_
    replace h := o_b h; obtain ⟨_, k13, h⟩ := h
    replace h := o_b h; obtain ⟨q13, h13, h⟩ := h
    refine m_call (va_runV (As := [.int v2]) (rest := []) ⟨hx, hb, hml, hown, hts⟩ (c_X10_noClaim l D b0 sz h13) (cwV 1 hts gX10_fewestStages_X10_noClaim rfl rfl rfl (by decide +kernel) ⟨Nat.le_of_ble_eq_true rfl, Nat.le_of_ble_eq_true rfl⟩) ⟨PW.blind, m_recv (ci := 10) rfl hK hM k13, (fun U hU hW => ⟨rfl, PW.call hK hM hS hU hW⟩)⟩ rfl rfl hl.1 rfl (lv_room (Nat.le_of_ble_eq_true rfl)) dX10_fewestStages_13 ⟨(Nat.le_refl _), (Nat.le_refl _)⟩) hS (fun H locs hM hS => ?_)
    refine lv_if_eq (tgt := 21) hx hb dX10_fewestStages_16 (by decide) (fun c16 => ?_) (fun c16 => ?_)
    · replace h := o_t c16 h
      refine lv_aload_n hx hb dX10_fewestStages_21 rfl (lv_at hl 0 rfl) ?_
      refine lv_iload_n hx hb dX10_fewestStages_22 rfl (lv_at hl 1 rfl) ?_
      refine lv_iload_n hx hb dX10_fewestStages_23 rfl (lv_at hl 2 rfl) ?_
      replace h := o_b h; obtain ⟨_, k24, h⟩ := h
      replace h := o_b h; obtain ⟨q24, h24, h⟩ := h
      refine m_call (va_runV (As := [.int v1, .int v2]) (rest := []) ⟨hx, hb, hml, hown, hts⟩ (c_X10_sets l D b0 sz h24) (cwV 2 hts gX10_fewestStages_X10_sets rfl rfl rfl (by decide +kernel) ⟨Nat.le_of_ble_eq_true rfl, Nat.le_of_ble_eq_true rfl⟩) ⟨PW.blind, m_recv (ci := 10) rfl hK hM k24, (fun U hU hW => ⟨rfl, PW.call hK hM hS hU hW⟩)⟩ rfl rfl hl.1 rfl (lv_room (Nat.le_of_ble_eq_true rfl)) dX10_fewestStages_24 ⟨(Nat.le_refl _), (Nat.le_refl _)⟩) hS (fun H locs hM hS => ?_)
      refine lv_aload_n hx hb dX10_fewestStages_27 rfl (lv_at hl 0 rfl) ?_
      refine lv_iconst (v := (0 : Int32)) hx hb dX10_fewestStages_28 (by decide) ?_
      replace h := o_b h; obtain ⟨_, k29, h⟩ := h
      replace h := o_b h; obtain ⟨q29, h29, h⟩ := h
      refine m_call (va_runV (As := [.int (0 : Int32)]) (rest := []) ⟨hx, hb, hml, hown, hts⟩ (c_X10_isKept l D b0 sz h29) (cwV 1 hts gX10_fewestStages_X10_isKept rfl rfl rfl (by decide +kernel) ⟨Nat.le_of_ble_eq_true rfl, Nat.le_of_ble_eq_true rfl⟩) ⟨PW.blind, m_recv (ci := 10) rfl hK hM k29, (fun U hU hW => ⟨rfl, PW.call hK hM hS hU hW⟩)⟩ rfl rfl hl.1 rfl (lv_room (Nat.le_of_ble_eq_true rfl)) dX10_fewestStages_29 ⟨(Nat.le_refl _), (Nat.le_refl _)⟩) hS (fun H locs hM hS => ?_)
      refine lv_if_ne (tgt := 39) hx hb dX10_fewestStages_32 (by decide) (fun c32 => ?_) (fun c32 => ?_)
      · replace h := o_f c32 h
        refine lv_aload_n hx hb dX10_fewestStages_39 rfl (lv_at hl 0 rfl) ?_
        refine lv_iconst (v := (1 : Int32)) hx hb dX10_fewestStages_40 (by decide) ?_
        replace h := o_b h; obtain ⟨_, k41, h⟩ := h
        replace h := o_b h; obtain ⟨q41, h41, h⟩ := h
        refine m_call (va_runV (As := [.int (1 : Int32)]) (rest := []) ⟨hx, hb, hml, hown, hts⟩ (c_X10_isKept l D b0 sz h41) (cwV 1 hts gX10_fewestStages_X10_isKept rfl rfl rfl (by decide +kernel) ⟨Nat.le_of_ble_eq_true rfl, Nat.le_of_ble_eq_true rfl⟩) ⟨PW.blind, m_recv (ci := 10) rfl hK hM k41, (fun U hU hW => ⟨rfl, PW.call hK hM hS hU hW⟩)⟩ rfl rfl hl.1 rfl (lv_room (Nat.le_of_ble_eq_true rfl)) dX10_fewestStages_41 ⟨(Nat.le_refl _), (Nat.le_refl _)⟩) hS (fun H locs hM hS => ?_)
        refine lv_if_ne (tgt := 51) hx hb dX10_fewestStages_44 (by decide) (fun c44 => ?_) (fun c44 => ?_)
        · replace h := o_f c44 h
          refine lv_aload_n hx hb dX10_fewestStages_51 rfl (lv_at hl 0 rfl) ?_
          refine lv_iconst (v := (2 : Int32)) hx hb dX10_fewestStages_52 (by decide) ?_
          replace h := o_b h; obtain ⟨_, k53, h⟩ := h
          replace h := o_b h; obtain ⟨q53, h53, h⟩ := h
          refine m_call (va_runV (As := [.int (2 : Int32)]) (rest := []) ⟨hx, hb, hml, hown, hts⟩ (c_X10_isKept l D b0 sz h53) (cwV 1 hts gX10_fewestStages_X10_isKept rfl rfl rfl (by decide +kernel) ⟨Nat.le_of_ble_eq_true rfl, Nat.le_of_ble_eq_true rfl⟩) ⟨PW.blind, m_recv (ci := 10) rfl hK hM k53, (fun U hU hW => ⟨rfl, PW.call hK hM hS hU hW⟩)⟩ rfl rfl hl.1 rfl (lv_room (Nat.le_of_ble_eq_true rfl)) dX10_fewestStages_53 ⟨(Nat.le_refl _), (Nat.le_refl _)⟩) hS (fun H locs hM hS => ?_)
          refine lv_if_eq (tgt := 67) hx hb dX10_fewestStages_56 (by decide) (fun c56 => ?_) (fun c56 => ?_)
          · replace h := o_t c56 h
            refine lv_iconst (v := (3 : Int32)) hx hb dX10_fewestStages_67 (by decide) ?_
            refine lv_goto (tgt := 73) hx hb dX10_fewestStages_68 (by decide) ?_
            replace h := Option.some.inj h; subst h
            exact W.iret hx hb hr (fun t ht hW => ⟨rfl, by rw [ht]; exact hM.moved hW.alike, hS.F ht⟩) hS.2.2 dX10_fewestStages_73
          replace h := o_f c56 h
          refine lv_aload_n hx hb dX10_fewestStages_59 rfl (lv_at hl 0 rfl) ?_
          refine lv_iconst (v := (3 : Int32)) hx hb dX10_fewestStages_60 (by decide) ?_
          replace h := o_b h; obtain ⟨_, k61, h⟩ := h
          replace h := o_b h; obtain ⟨q61, h61, h⟩ := h
          refine m_call (va_runV (As := [.int (3 : Int32)]) (rest := []) ⟨hx, hb, hml, hown, hts⟩ (c_X10_isKept l D b0 sz h61) (cwV 1 hts gX10_fewestStages_X10_isKept rfl rfl rfl (by decide +kernel) ⟨Nat.le_of_ble_eq_true rfl, Nat.le_of_ble_eq_true rfl⟩) ⟨PW.blind, m_recv (ci := 10) rfl hK hM k61, (fun U hU hW => ⟨rfl, PW.call hK hM hS hU hW⟩)⟩ rfl rfl hl.1 rfl (lv_room (Nat.le_of_ble_eq_true rfl)) dX10_fewestStages_61 ⟨(Nat.le_refl _), (Nat.le_refl _)⟩) hS (fun H locs hM hS => ?_)
          refine lv_if_ne (tgt := 71) hx hb dX10_fewestStages_64 (by decide) (fun c64 => ?_) (fun c64 => ?_)
          · replace h := o_f c64 h
            refine lv_bipush (v := (-5 : Int32)) hx hb dX10_fewestStages_71 (by decide) ?_
            replace h := Option.some.inj h; subst h
            exact W.iret hx hb hr (fun t ht hW => ⟨rfl, by rw [ht]; exact hM.moved hW.alike, hS.F ht⟩) hS.2.2 dX10_fewestStages_73
          replace h := o_t c64 h
          refine lv_iconst (v := (3 : Int32)) hx hb dX10_fewestStages_67 (by decide) ?_
          refine lv_goto (tgt := 73) hx hb dX10_fewestStages_68 (by decide) ?_
          replace h := Option.some.inj h; subst h
          exact W.iret hx hb hr (fun t ht hW => ⟨rfl, by rw [ht]; exact hM.moved hW.alike, hS.F ht⟩) hS.2.2 dX10_fewestStages_73
        replace h := o_t c44 h
        refine lv_iconst (v := (2 : Int32)) hx hb dX10_fewestStages_47 (by decide) ?_
        refine lv_goto (tgt := 73) hx hb dX10_fewestStages_48 (by decide) ?_
        replace h := Option.some.inj h; subst h
        exact W.iret hx hb hr (fun t ht hW => ⟨rfl, by rw [ht]; exact hM.moved hW.alike, hS.F ht⟩) hS.2.2 dX10_fewestStages_73
      replace h := o_t c32 h
      refine lv_iconst (v := (1 : Int32)) hx hb dX10_fewestStages_35 (by decide) ?_
      refine lv_goto (tgt := 73) hx hb dX10_fewestStages_36 (by decide) ?_
      replace h := Option.some.inj h; subst h
      exact W.iret hx hb hr (fun t ht hW => ⟨rfl, by rw [ht]; exact hM.moved hW.alike, hS.F ht⟩) hS.2.2 dX10_fewestStages_73
    replace h := o_f c16 h
    refine lv_iconst (v := (-1 : Int32)) hx hb dX10_fewestStages_19 (by decide) ?_
    replace h := Option.some.inj h; subst h
    exact W.iret hx hb hr (fun t ht hW => ⟨rfl, by rw [ht]; exact hM.moved hW.alike, hS.F ht⟩) hS.2.2 dX10_fewestStages_20
  replace h := o_f c5 h
  refine lv_bipush (v := (-2 : Int32)) hx hb dX10_fewestStages_8 (by decide) ?_
  replace h := Option.some.inj h; subst h
  exact W.iret hx hb hr (fun t ht hW => ⟨rfl, by rw [ht]; exact hM.moved hW.alike, hS.F ht⟩) hS.2.2 dX10_fewestStages_10
set_option maxHeartbeats 4000000 in
set_option maxRecDepth 100000 in
theorem c_X10_fewestStages (l : Launch) (D : mmD) (b0 sz : Nat) {v0 : Nat} {v1 : Int32} {v2 : Int32} {f : mmF} {res : Int32 × mmF} (h : f_X10_fewestStages v0 v1 v2 f = some res) : Met l yX10_fewestStages wsX10_fewestStages ({ frames := 8, cells := 0, slots := 0, locals := 195 } : Room) (va_Pc [.ref v0, .int v1, .int v2] (PW D b0 f sz)) (QW D b0 (some (.int res.1)) res.2 sz) 0 0 (fun q => b0 ≤ q) := by
  refine Met.ofW (cc := cX10_fewestStages) (maxL := 3) (ret := (some .int)) (by decide) rfl ?_
  intro p e s m args below meth c s₁ B hml hv
  obtain ⟨rfl, hM, hK⟩ := hv
  have hl := lv_entry ([.ref v0, .int v1, .int v2]) (n := 3) (Nat.le_of_ble_eq_true rfl)
  rw [lg_entry_eq]
  generalize (lg_sl ([.ref v0, .int v1, .int v2]) ++ List.replicate (3 - (lg_sl ([.ref v0, .int v1, .int v2])).length) Slot.unset).toArray = ls at hl ⊢
  have hl : lv_has ls 3 [(0, .ref v0), (1, .int v1), (2, .int v2)] := hl
  exact w_X10_fewestStages ⟨B.exec, B.bytes, B.returns, hml, findClass_of_methodNamed B.named, atoms_spec (ws := wsX10_fewestStages) B.pre, B.notSynchronized, hK⟩ h s.heap [] ls hM va_S.rf hl
end S_X10_fewestStages
/-! X10_fewestPremises -/
noncomputable def f_X10_fewestPremises_78 (k38 : Nat → Int32 → Int32 → Int32 → Int32 → mmF → Option (Int32 × mmF))  (v0 : Nat) (v1 : Int32) (v2 : Int32) (v3 : Int32) (v4 : Int32) (f : mmF) : Option (Int32 × mmF) :=
  k38 v0 v1 v2 v3 (v4 + (1 : Int32)) f
noncomputable def f_X10_fewestPremises_38   : Nat → Nat → Int32 → Int32 → Int32 → Int32 → mmF → Option (Int32 × mmF)
  | 0, _, _, _, _, _, _ => none
  | n + 1, v0, v1, v2, v3, v4, f =>
    if v1 ≤ v4 then
    (some (v3, f))
    else
    if (v4 &&& (v1 ^^^ (-1 : Int32))) = 0 then
    ((f_X10_bits v4 f).bind fun q55 =>
    (f_X10_bits v3 f).bind fun q59 =>
    if q59 ≤ q55 then
    (f_X10_fewestPremises_78 (fun a0 a1 a2 a3 a4 a5 => f_X10_fewestPremises_38 n a0 a1 a2 a3 a4 a5) v0 v1 v2 v3 v4 f)
    else
    (ckO f v0 10).bind fun _ =>
    (f_X10_isFollowing v0 v4 v2 f).bind fun q69 =>
    if q69.1 = 0 then
    (f_X10_fewestPremises_78 (fun a0 a1 a2 a3 a4 a5 => f_X10_fewestPremises_38 n a0 a1 a2 a3 a4 a5) v0 v1 v2 v3 v4 q69.2)
    else
    f_X10_fewestPremises_78 (fun a0 a1 a2 a3 a4 a5 => f_X10_fewestPremises_38 n a0 a1 a2 a3 a4 a5) v0 v1 v2 v4 v4 q69.2)
    else
    f_X10_fewestPremises_78 (fun a0 a1 a2 a3 a4 a5 => f_X10_fewestPremises_38 n a0 a1 a2 a3 a4 a5) v0 v1 v2 v3 v4 f
noncomputable def f_X10_fewestPremises (v0 : Nat) (v1 : Int32) (v2 : Int32) (f : mmF) : Option (Int32 × mmF) :=
  (ckO f v0 10).bind fun _ =>
  (f_X10_isBad v0 v1 f).bind fun q2 =>
  if q2 = 0 then
  ((ckO f v0 10).bind fun _ =>
  (f_X10_noClaim v0 v2 f).bind fun q13 =>
  if q13 = 0 then
  ((ckO f v0 10).bind fun _ =>
  (f_X10_isFollowing v0 v1 v2 f).bind fun q24 =>
  if q24.1 = 0 then
  (some ((-4 : Int32), q24.2))
  else
  f_X10_fewestPremises_38 FU v0 v1 v2 v1 (0 : Int32) q24.2)
  else
  some ((-1 : Int32), f))
  else
  some ((-2 : Int32), f)
section S_X10_fewestPremises
variable {p : Program} {l : Launch} {e : Env} {s : State} {m : MethodId} {args : Array Value} {below : List Frame} {meth : Method} {c : Code} {D : mmD} {b0 sz : Nat} {f : mmF}
set_option maxHeartbeats 4000000 in
set_option maxRecDepth 100000 in
theorem w_X10_fewestPremises_78 (C0 : CX cX10_fewestPremises 5 (some .int) wsX10_fewestPremises RX10 p s m args meth c D b0) {k38 : Nat → Int32 → Int32 → Int32 → Int32 → mmF → Option (Int32 × mmF)} {res : Int32 × mmF} (hk38 : ∀ (v0 : Nat) (v1 : Int32) (v2 : Int32) (v3 : Int32) (v4 : Int32) (f : mmF), k38 v0 v1 v2 v3 v4 f = some res → ∀ (H : Heap) (locs : List Loc) (ls : Array Slot), MM vwCl D b0 f sz s H → mS b0 s H locs → lv_has ls 5 [(0, .ref v0), (1, .int v1), (2, .int v2), (3, .int v3), (4, .int v4)] → W p l e ({ frames := 10, cells := 0, slots := 0, locals := 238 } : Room) s m args below meth c H locs 0 0 (MQ below (QW D b0 (some (.int res.1)) res.2 sz) args s 0 0 (fun q => b0 ≤ q)) (F0 m 38 ls [])) : ∀ (v0 : Nat) (v1 : Int32) (v2 : Int32) (v3 : Int32) (v4 : Int32) (f : mmF), f_X10_fewestPremises_78 k38 v0 v1 v2 v3 v4 f = some res → ∀ (H : Heap) (locs : List Loc) (ls : Array Slot), MM vwCl D b0 f sz s H → mS b0 s H locs → lv_has ls 5 [(0, .ref v0), (1, .int v1), (2, .int v2), (3, .int v3), (4, .int v4)] → W p l e ({ frames := 10, cells := 0, slots := 0, locals := 238 } : Room) s m args below meth c H locs 0 0 (MQ below (QW D b0 (some (.int res.1)) res.2 sz) args s 0 0 (fun q => b0 ≤ q)) (F0 m 78 ls []) := by
  obtain ⟨hx, hb, hr, hml, hown, hts, hlocks, hK⟩ := id C0
  intro v0 v1 v2 v3 v4 f h H locs ls hM hS hl
  unfold f_X10_fewestPremises_78 at h
  refine lv_iinc (v := (v4 + (1 : Int32))) (lv' := [(4, .int (v4 + (1 : Int32))), (0, .ref v0), (1, .int v1), (2, .int v2), (3, .int v3)]) hx hb dX10_fewestPremises_78 hl (k := 4) rfl rfl (by decide) rfl (fun ls hl => ?_)
  refine lv_goto (tgt := 38) hx hb dX10_fewestPremises_81 (by decide) ?_
  exact hk38 _ _ _ _ _ _ h _ _ _ hM hS (lv_sub hl [1, 2, 3, 4, 0] rfl)
set_option maxHeartbeats 4000000 in
set_option maxRecDepth 100000 in
theorem w_X10_fewestPremises_38 (C0 : CX cX10_fewestPremises 5 (some .int) wsX10_fewestPremises RX10 p s m args meth c D b0) {res : Int32 × mmF} : ∀ (n : Nat), ∀ (v0 : Nat) (v1 : Int32) (v2 : Int32) (v3 : Int32) (v4 : Int32) (f : mmF), f_X10_fewestPremises_38 n v0 v1 v2 v3 v4 f = some res → ∀ (H : Heap) (locs : List Loc) (ls : Array Slot), MM vwCl D b0 f sz s H → mS b0 s H locs → lv_has ls 5 [(0, .ref v0), (1, .int v1), (2, .int v2), (3, .int v3), (4, .int v4)] → W p l e ({ frames := 10, cells := 0, slots := 0, locals := 238 } : Room) s m args below meth c H locs 0 0 (MQ below (QW D b0 (some (.int res.1)) res.2 sz) args s 0 0 (fun q => b0 ≤ q)) (F0 m 38 ls []) := by
  obtain ⟨hx, hb, hr, hml, hown, hts, hlocks, hK⟩ := id C0
  intro n
  induction n with
  | zero =>
    intro v0 v1 v2 v3 v4 f h
    have h : (none : Option (Int32 × mmF)) = some res := h
    cases h
  | succ n ih =>
    intro v0 v1 v2 v3 v4 f h H locs ls hM hS hl
    rw [f_X10_fewestPremises_38] at h
    refine lv_iload hx hb dX10_fewestPremises_38 (lv_at hl 4 rfl) ?_
    refine lv_iload_n hx hb dX10_fewestPremises_40 rfl (lv_at hl 1 rfl) ?_
    refine lv_icmp_ge (tgt := 84) hx hb dX10_fewestPremises_41 (by decide) (fun c41 => ?_) (fun c41 => ?_)
    · replace h := o_t c41 h
      refine lv_iload_n hx hb dX10_fewestPremises_84 rfl (lv_at hl 3 rfl) ?_
      replace h := Option.some.inj h; subst h
      exact W.iret hx hb hr (fun t ht hW => ⟨rfl, by rw [ht]; exact hM.moved hW.alike, hS.F ht⟩) hS.2.2 dX10_fewestPremises_85
    replace h := o_f c41 h
    refine lv_iload hx hb dX10_fewestPremises_44 (lv_at hl 4 rfl) ?_
    refine lv_iload_n hx hb dX10_fewestPremises_46 rfl (lv_at hl 1 rfl) ?_
    refine lv_iconst (v := (-1 : Int32)) hx hb dX10_fewestPremises_47 (by decide) ?_
    refine lv_ixor hx hb dX10_fewestPremises_48 ?_
    refine lv_iand hx hb dX10_fewestPremises_49 ?_
    refine lv_if_ne (tgt := 78) hx hb dX10_fewestPremises_50 (by decide) (fun c50 => ?_) (fun c50 => ?_)
    · replace h := o_f c50 h
      exact w_X10_fewestPremises_78 C0 ih _ _ _ _ _ _ h _ _ _ hM hS (lv_sub hl [0, 1, 2, 3, 4] rfl)
    replace h := o_t c50 h
    refine lv_iload hx hb dX10_fewestPremises_53 (lv_at hl 4 rfl) ?_
    replace h := o_b h; obtain ⟨q55, h55, h⟩ := h
    refine m_call (va_runS (As := [.int v4]) (rest := []) ⟨hx, hb, hml, hown, hts⟩ (c_X10_bits l D b0 sz h55) (va_cwS 1 hts gX10_fewestPremises_X10_bits rfl rfl rfl (by decide +kernel) ⟨Nat.le_of_ble_eq_true rfl, Nat.le_of_ble_eq_true rfl⟩) ⟨PW.blind, (fun U hU hW => ⟨rfl, PW.call hK hM hS hU hW⟩)⟩ rfl rfl hl.1 rfl (lv_room (Nat.le_of_ble_eq_true rfl)) dX10_fewestPremises_55 ⟨(Nat.le_refl _), (Nat.le_refl _)⟩) hS (fun H locs hM hS => ?_)
    refine lv_iload_n hx hb dX10_fewestPremises_58 rfl (lv_at hl 3 rfl) ?_
    replace h := o_b h; obtain ⟨q59, h59, h⟩ := h
    refine m_call (va_runS (As := [.int v3]) (rest := [.int q55]) ⟨hx, hb, hml, hown, hts⟩ (c_X10_bits l D b0 sz h59) (va_cwS 1 hts gX10_fewestPremises_X10_bits rfl rfl rfl (by decide +kernel) ⟨Nat.le_of_ble_eq_true rfl, Nat.le_of_ble_eq_true rfl⟩) ⟨PW.blind, (fun U hU hW => ⟨rfl, PW.call hK hM hS hU hW⟩)⟩ rfl rfl hl.1 rfl (lv_room (Nat.le_of_ble_eq_true rfl)) dX10_fewestPremises_59 ⟨(Nat.le_refl _), (Nat.le_refl _)⟩) hS (fun H locs hM hS => ?_)
    refine lv_icmp_ge (tgt := 78) hx hb dX10_fewestPremises_62 (by decide) (fun c62 => ?_) (fun c62 => ?_)
    · replace h := o_t c62 h
      exact w_X10_fewestPremises_78 C0 ih _ _ _ _ _ _ h _ _ _ hM hS (lv_sub hl [0, 1, 2, 3, 4] rfl)
    replace h := o_f c62 h
    refine lv_aload_n hx hb dX10_fewestPremises_65 rfl (lv_at hl 0 rfl) ?_
    refine lv_iload hx hb dX10_fewestPremises_66 (lv_at hl 4 rfl) ?_
    refine lv_iload_n hx hb dX10_fewestPremises_68 rfl (lv_at hl 2 rfl) ?_
    replace h := o_b h; obtain ⟨_, k69, h⟩ := h
    replace h := o_b h; obtain ⟨q69, h69, h⟩ := h
    refine m_call (va_runV (As := [.int v4, .int v2]) (rest := []) ⟨hx, hb, hml, hown, hts⟩ (c_X10_isFollowing l D b0 sz h69) (cwV 2 hts gX10_fewestPremises_X10_isFollowing rfl rfl rfl (by decide +kernel) ⟨Nat.le_of_ble_eq_true rfl, Nat.le_of_ble_eq_true rfl⟩) ⟨PW.blind, m_recv (ci := 10) rfl hK hM k69, (fun U hU hW => ⟨rfl, PW.call hK hM hS hU hW⟩)⟩ rfl rfl hl.1 rfl (lv_room (Nat.le_of_ble_eq_true rfl)) dX10_fewestPremises_69 ⟨(Nat.le_refl _), (Nat.le_refl _)⟩) hS (fun H locs hM hS => ?_)
    refine lv_if_eq (tgt := 78) hx hb dX10_fewestPremises_72 (by decide) (fun c72 => ?_) (fun c72 => ?_)
    · replace h := o_t c72 h
      exact w_X10_fewestPremises_78 C0 ih _ _ _ _ _ _ h _ _ _ hM hS (lv_sub hl [0, 1, 2, 3, 4] rfl)
    replace h := o_f c72 h
    refine lv_iload hx hb dX10_fewestPremises_75 (lv_at hl 4 rfl) ?_
    refine lv_istore_n (lv' := [(3, .int v4), (0, .ref v0), (1, .int v1), (2, .int v2), (4, .int v4)]) hx hb dX10_fewestPremises_77 rfl hl (by decide) rfl (fun ls hl => ?_)
    exact w_X10_fewestPremises_78 C0 ih _ _ _ _ _ _ h _ _ _ hM hS (lv_sub hl [1, 2, 3, 0, 4] rfl)
set_option maxHeartbeats 4000000 in
set_option maxRecDepth 100000 in
theorem w_X10_fewestPremises (C0 : CX cX10_fewestPremises 5 (some .int) wsX10_fewestPremises RX10 p s m args meth c D b0) {v0 : Nat} {v1 : Int32} {v2 : Int32} {res : Int32 × mmF} (h : f_X10_fewestPremises v0 v1 v2 f = some res) : ∀ (H : Heap) (locs : List Loc) (ls : Array Slot), MM vwCl D b0 f sz s H → mS b0 s H locs → lv_has ls 5 [(0, .ref v0), (1, .int v1), (2, .int v2)] → W p l e ({ frames := 10, cells := 0, slots := 0, locals := 238 } : Room) s m args below meth c H locs 0 0 (MQ below (QW D b0 (some (.int res.1)) res.2 sz) args s 0 0 (fun q => b0 ≤ q)) (F0 m 0 ls []) := by
  obtain ⟨hx, hb, hr, hml, hown, hts, hlocks, hK⟩ := id C0
  intro H locs ls hM hS hl
  unfold f_X10_fewestPremises at h
  refine lv_aload_n hx hb dX10_fewestPremises_0 rfl (lv_at hl 0 rfl) ?_
  refine lv_iload_n hx hb dX10_fewestPremises_1 rfl (lv_at hl 1 rfl) ?_
  replace h := o_b h; obtain ⟨_, k2, h⟩ := h
  replace h := o_b h; obtain ⟨q2, h2, h⟩ := h
  refine m_call (va_runV (As := [.int v1]) (rest := []) ⟨hx, hb, hml, hown, hts⟩ (c_X10_isBad l D b0 sz h2) (cwV 1 hts gX10_fewestPremises_X10_isBad rfl rfl rfl (by decide +kernel) ⟨Nat.le_of_ble_eq_true rfl, Nat.le_of_ble_eq_true rfl⟩) ⟨PW.blind, m_recv (ci := 10) rfl hK hM k2, (fun U hU hW => ⟨rfl, PW.call hK hM hS hU hW⟩)⟩ rfl rfl hl.1 rfl (lv_room (Nat.le_of_ble_eq_true rfl)) dX10_fewestPremises_2 ⟨(Nat.le_refl _), (Nat.le_refl _)⟩) hS (fun H locs hM hS => ?_)
  refine lv_if_eq (tgt := 11) hx hb dX10_fewestPremises_5 (by decide) (fun c5 => ?_) (fun c5 => ?_)
  · replace h := o_t c5 h
    refine lv_aload_n hx hb dX10_fewestPremises_11 rfl (lv_at hl 0 rfl) ?_
    refine lv_iload_n hx hb dX10_fewestPremises_12 rfl (lv_at hl 2 rfl) ?_
    replace h := o_b h; obtain ⟨_, k13, h⟩ := h
    replace h := o_b h; obtain ⟨q13, h13, h⟩ := h
    refine m_call (va_runV (As := [.int v2]) (rest := []) ⟨hx, hb, hml, hown, hts⟩ (c_X10_noClaim l D b0 sz h13) (cwV 1 hts gX10_fewestPremises_X10_noClaim rfl rfl rfl (by decide +kernel) ⟨Nat.le_of_ble_eq_true rfl, Nat.le_of_ble_eq_true rfl⟩) ⟨PW.blind, m_recv (ci := 10) rfl hK hM k13, (fun U hU hW => ⟨rfl, PW.call hK hM hS hU hW⟩)⟩ rfl rfl hl.1 rfl (lv_room (Nat.le_of_ble_eq_true rfl)) dX10_fewestPremises_13 ⟨(Nat.le_refl _), (Nat.le_refl _)⟩) hS (fun H locs hM hS => ?_)
    refine lv_if_eq (tgt := 21) hx hb dX10_fewestPremises_16 (by decide) (fun c16 => ?_) (fun c16 => ?_)
    · replace h := o_t c16 h
      refine lv_aload_n hx hb dX10_fewestPremises_21 rfl (lv_at hl 0 rfl) ?_
      refine lv_iload_n hx hb dX10_fewestPremises_22 rfl (lv_at hl 1 rfl) ?_
      refine lv_iload_n hx hb dX10_fewestPremises_23 rfl (lv_at hl 2 rfl) ?_
      replace h := o_b h; obtain ⟨_, k24, h⟩ := h
      replace h := o_b h; obtain ⟨q24, h24, h⟩ := h
      refine m_call (va_runV (As := [.int v1, .int v2]) (rest := []) ⟨hx, hb, hml, hown, hts⟩ (c_X10_isFollowing l D b0 sz h24) (cwV 2 hts gX10_fewestPremises_X10_isFollowing rfl rfl rfl (by decide +kernel) ⟨Nat.le_of_ble_eq_true rfl, Nat.le_of_ble_eq_true rfl⟩) ⟨PW.blind, m_recv (ci := 10) rfl hK hM k24, (fun U hU hW => ⟨rfl, PW.call hK hM hS hU hW⟩)⟩ rfl rfl hl.1 rfl (lv_room (Nat.le_of_ble_eq_true rfl)) dX10_fewestPremises_24 ⟨(Nat.le_refl _), (Nat.le_refl _)⟩) hS (fun H locs hM hS => ?_)
      refine lv_if_ne (tgt := 33) hx hb dX10_fewestPremises_27 (by decide) (fun c27 => ?_) (fun c27 => ?_)
      · replace h := o_f c27 h
        refine lv_iload_n hx hb dX10_fewestPremises_33 rfl (lv_at hl 1 rfl) ?_
        refine lv_istore_n (lv' := [(3, .int v1), (0, .ref v0), (1, .int v1), (2, .int v2)]) hx hb dX10_fewestPremises_34 rfl hl (by decide) rfl (fun ls hl => ?_)
        refine lv_iconst (v := (0 : Int32)) hx hb dX10_fewestPremises_35 (by decide) ?_
        refine lv_istore (lv' := [(4, .int (0 : Int32)), (3, .int v1), (0, .ref v0), (1, .int v1), (2, .int v2)]) hx hb dX10_fewestPremises_36 hl (by decide) rfl (fun ls hl => ?_)
        exact w_X10_fewestPremises_38 C0 FU _ _ _ _ _ _ h _ _ _ hM hS (lv_sub hl [2, 3, 4, 1, 0] rfl)
      replace h := o_t c27 h
      refine lv_bipush (v := (-4 : Int32)) hx hb dX10_fewestPremises_30 (by decide) ?_
      replace h := Option.some.inj h; subst h
      exact W.iret hx hb hr (fun t ht hW => ⟨rfl, by rw [ht]; exact hM.moved hW.alike, hS.F ht⟩) hS.2.2 dX10_fewestPremises_32
    replace h := o_f c16 h
    refine lv_iconst (v := (-1 : Int32)) hx hb dX10_fewestPremises_19 (by decide) ?_
    replace h := Option.some.inj h; subst h
    exact W.iret hx hb hr (fun t ht hW => ⟨rfl, by rw [ht]; exact hM.moved hW.alike, hS.F ht⟩) hS.2.2 dX10_fewestPremises_20
  replace h := o_f c5 h
  refine lv_bipush (v := (-2 : Int32)) hx hb dX10_fewestPremises_8 (by decide) ?_
  replace h := Option.some.inj h; subst h
  exact W.iret hx hb hr (fun t ht hW => ⟨rfl, by rw [ht]; exact hM.moved hW.alike, hS.F ht⟩) hS.2.2 dX10_fewestPremises_10
set_option maxHeartbeats 4000000 in
set_option maxRecDepth 100000 in
theorem c_X10_fewestPremises (l : Launch) (D : mmD) (b0 sz : Nat) {v0 : Nat} {v1 : Int32} {v2 : Int32} {f : mmF} {res : Int32 × mmF} (h : f_X10_fewestPremises v0 v1 v2 f = some res) : Met l yX10_fewestPremises wsX10_fewestPremises ({ frames := 10, cells := 0, slots := 0, locals := 238 } : Room) (va_Pc [.ref v0, .int v1, .int v2] (PW D b0 f sz)) (QW D b0 (some (.int res.1)) res.2 sz) 0 0 (fun q => b0 ≤ q) := by
  refine Met.ofW (cc := cX10_fewestPremises) (maxL := 5) (ret := (some .int)) (by decide) rfl ?_
  intro p e s m args below meth c s₁ B hml hv
  obtain ⟨rfl, hM, hK⟩ := hv
  have hl := lv_entry ([.ref v0, .int v1, .int v2]) (n := 5) (Nat.le_of_ble_eq_true rfl)
  rw [lg_entry_eq]
  generalize (lg_sl ([.ref v0, .int v1, .int v2]) ++ List.replicate (5 - (lg_sl ([.ref v0, .int v1, .int v2])).length) Slot.unset).toArray = ls at hl ⊢
  have hl : lv_has ls 5 [(0, .ref v0), (1, .int v1), (2, .int v2)] := hl
  exact w_X10_fewestPremises ⟨B.exec, B.bytes, B.returns, hml, findClass_of_methodNamed B.named, atoms_spec (ws := wsX10_fewestPremises) B.pre, B.notSynchronized, hK⟩ h s.heap [] ls hM va_S.rf hl
end S_X10_fewestPremises
/-! X10_relation -/
noncomputable def f_X10_relation_34   (v0 : Nat) (v1 : Int32) (v2 : Int32) (t0 : Int32) (f : mmF) : Option (Int32 × mmF) :=
  (ckO f v0 10).bind fun _ =>
  (f_X10_isFollowing v0 ((1 : Int32) <<< (v2 &&& 31)) v1 f).bind fun q39 =>
  if q39.1 = 0 then
  (some ((t0 + (0 : Int32)), q39.2))
  else
  some ((t0 + (2 : Int32)), q39.2)
noncomputable def f_X10_relation (v0 : Nat) (v1 : Int32) (v2 : Int32) (f : mmF) : Option (Int32 × mmF) :=
  (ckO f v0 10).bind fun _ =>
  (f_X10_noClaim v0 v1 f).bind fun q2 =>
  if q2 = 0 then
  ((ckO f v0 10).bind fun _ =>
  (f_X10_noClaim v0 v2 f).bind fun q10 =>
  if q10 = 0 then
  ((ckO f v0 10).bind fun _ =>
  (f_X10_isFollowing v0 ((1 : Int32) <<< (v1 &&& 31)) v2 f).bind fun q23 =>
  if q23.1 = 0 then
  (f_X10_relation_34 v0 v1 v2 (0 : Int32) q23.2)
  else
  f_X10_relation_34 v0 v1 v2 (1 : Int32) q23.2)
  else
  some ((-1 : Int32), f))
  else
  some ((-1 : Int32), f)
section S_X10_relation
variable {p : Program} {l : Launch} {e : Env} {s : State} {m : MethodId} {args : Array Value} {below : List Frame} {meth : Method} {c : Code} {D : mmD} {b0 sz : Nat} {f : mmF}
set_option maxHeartbeats 4000000 in
set_option maxRecDepth 100000 in
theorem w_X10_relation_34 (C0 : CX cX10_relation 3 (some .int) wsX10_relation RX10 p s m args meth c D b0) {res : Int32 × mmF} : ∀ (v0 : Nat) (v1 : Int32) (v2 : Int32) (t0 : Int32) (f : mmF), f_X10_relation_34 v0 v1 v2 t0 f = some res → ∀ (H : Heap) (locs : List Loc) (ls : Array Slot), MM vwCl D b0 f sz s H → mS b0 s H locs → lv_has ls 3 [(0, .ref v0), (1, .int v1), (2, .int v2)] → W p l e ({ frames := 10, cells := 0, slots := 0, locals := 238 } : Room) s m args below meth c H locs 0 0 (MQ below (QW D b0 (some (.int res.1)) res.2 sz) args s 0 0 (fun q => b0 ≤ q)) (F0 m 34 ls [.int t0]) := by
  obtain ⟨hx, hb, hr, hml, hown, hts, hlocks, hK⟩ := id C0
  intro v0 v1 v2 t0 f h H locs ls hM hS hl
  unfold f_X10_relation_34 at h
  refine lv_aload_n hx hb dX10_relation_34 rfl (lv_at hl 0 rfl) ?_
  refine lv_iconst (v := (1 : Int32)) hx hb dX10_relation_35 (by decide) ?_
  refine lv_iload_n hx hb dX10_relation_36 rfl (lv_at hl 2 rfl) ?_
  refine lv_ishl hx hb dX10_relation_37 ?_
  refine lv_iload_n hx hb dX10_relation_38 rfl (lv_at hl 1 rfl) ?_
  replace h := o_b h; obtain ⟨_, k39, h⟩ := h
  replace h := o_b h; obtain ⟨q39, h39, h⟩ := h
  refine m_call (va_runV (As := [.int ((1 : Int32) <<< (v2 &&& 31)), .int v1]) (rest := [.int t0]) ⟨hx, hb, hml, hown, hts⟩ (c_X10_isFollowing l D b0 sz h39) (cwV 2 hts gX10_relation_X10_isFollowing rfl rfl rfl (by decide +kernel) ⟨Nat.le_of_ble_eq_true rfl, Nat.le_of_ble_eq_true rfl⟩) ⟨PW.blind, m_recv (ci := 10) rfl hK hM k39, (fun U hU hW => ⟨rfl, PW.call hK hM hS hU hW⟩)⟩ rfl rfl hl.1 rfl (lv_room (Nat.le_of_ble_eq_true rfl)) dX10_relation_39 ⟨(Nat.le_refl _), (Nat.le_refl _)⟩) hS (fun H locs hM hS => ?_)
  refine lv_if_eq (tgt := 49) hx hb dX10_relation_42 (by decide) (fun c42 => ?_) (fun c42 => ?_)
  · replace h := o_t c42 h
    refine lv_iconst (v := (0 : Int32)) hx hb dX10_relation_49 (by decide) ?_
    refine lv_iadd hx hb dX10_relation_50 ?_
    replace h := Option.some.inj h; subst h
    exact W.iret hx hb hr (fun t ht hW => ⟨rfl, by rw [ht]; exact hM.moved hW.alike, hS.F ht⟩) hS.2.2 dX10_relation_51
  replace h := o_f c42 h
  refine lv_iconst (v := (2 : Int32)) hx hb dX10_relation_45 (by decide) ?_
  refine lv_goto (tgt := 50) hx hb dX10_relation_46 (by decide) ?_
  refine lv_iadd hx hb dX10_relation_50 ?_
  replace h := Option.some.inj h; subst h
  exact W.iret hx hb hr (fun t ht hW => ⟨rfl, by rw [ht]; exact hM.moved hW.alike, hS.F ht⟩) hS.2.2 dX10_relation_51
set_option maxHeartbeats 4000000 in
set_option maxRecDepth 100000 in
theorem w_X10_relation (C0 : CX cX10_relation 3 (some .int) wsX10_relation RX10 p s m args meth c D b0) {v0 : Nat} {v1 : Int32} {v2 : Int32} {res : Int32 × mmF} (h : f_X10_relation v0 v1 v2 f = some res) : ∀ (H : Heap) (locs : List Loc) (ls : Array Slot), MM vwCl D b0 f sz s H → mS b0 s H locs → lv_has ls 3 [(0, .ref v0), (1, .int v1), (2, .int v2)] → W p l e ({ frames := 10, cells := 0, slots := 0, locals := 238 } : Room) s m args below meth c H locs 0 0 (MQ below (QW D b0 (some (.int res.1)) res.2 sz) args s 0 0 (fun q => b0 ≤ q)) (F0 m 0 ls []) := by
  obtain ⟨hx, hb, hr, hml, hown, hts, hlocks, hK⟩ := id C0
  intro H locs ls hM hS hl
  unfold f_X10_relation at h
  refine lv_aload_n hx hb dX10_relation_0 rfl (lv_at hl 0 rfl) ?_
  refine lv_iload_n hx hb dX10_relation_1 rfl (lv_at hl 1 rfl) ?_
  replace h := o_b h; obtain ⟨_, k2, h⟩ := h
  replace h := o_b h; obtain ⟨q2, h2, h⟩ := h
  refine m_call (va_runV (As := [.int v1]) (rest := []) ⟨hx, hb, hml, hown, hts⟩ (c_X10_noClaim l D b0 sz h2) (cwV 1 hts gX10_relation_X10_noClaim rfl rfl rfl (by decide +kernel) ⟨Nat.le_of_ble_eq_true rfl, Nat.le_of_ble_eq_true rfl⟩) ⟨PW.blind, m_recv (ci := 10) rfl hK hM k2, (fun U hU hW => ⟨rfl, PW.call hK hM hS hU hW⟩)⟩ rfl rfl hl.1 rfl (lv_room (Nat.le_of_ble_eq_true rfl)) dX10_relation_2 ⟨(Nat.le_refl _), (Nat.le_refl _)⟩) hS (fun H locs hM hS => ?_)
  refine lv_if_ne (tgt := 16) hx hb dX10_relation_5 (by decide) (fun c5 => ?_) (fun c5 => ?_)
  · replace h := o_f c5 h
    refine lv_iconst (v := (-1 : Int32)) hx hb dX10_relation_16 (by decide) ?_
    replace h := Option.some.inj h; subst h
    exact W.iret hx hb hr (fun t ht hW => ⟨rfl, by rw [ht]; exact hM.moved hW.alike, hS.F ht⟩) hS.2.2 dX10_relation_17
  replace h := o_t c5 h
  refine lv_aload_n hx hb dX10_relation_8 rfl (lv_at hl 0 rfl) ?_
  refine lv_iload_n hx hb dX10_relation_9 rfl (lv_at hl 2 rfl) ?_
  replace h := o_b h; obtain ⟨_, k10, h⟩ := h
  replace h := o_b h; obtain ⟨q10, h10, h⟩ := h
  refine m_call (va_runV (As := [.int v2]) (rest := []) ⟨hx, hb, hml, hown, hts⟩ (c_X10_noClaim l D b0 sz h10) (cwV 1 hts gX10_relation_X10_noClaim rfl rfl rfl (by decide +kernel) ⟨Nat.le_of_ble_eq_true rfl, Nat.le_of_ble_eq_true rfl⟩) ⟨PW.blind, m_recv (ci := 10) rfl hK hM k10, (fun U hU hW => ⟨rfl, PW.call hK hM hS hU hW⟩)⟩ rfl rfl hl.1 rfl (lv_room (Nat.le_of_ble_eq_true rfl)) dX10_relation_10 ⟨(Nat.le_refl _), (Nat.le_refl _)⟩) hS (fun H locs hM hS => ?_)
  refine lv_if_eq (tgt := 18) hx hb dX10_relation_13 (by decide) (fun c13 => ?_) (fun c13 => ?_)
  · replace h := o_t c13 h
    refine lv_aload_n hx hb dX10_relation_18 rfl (lv_at hl 0 rfl) ?_
    refine lv_iconst (v := (1 : Int32)) hx hb dX10_relation_19 (by decide) ?_
    refine lv_iload_n hx hb dX10_relation_20 rfl (lv_at hl 1 rfl) ?_
    refine lv_ishl hx hb dX10_relation_21 ?_
    refine lv_iload_n hx hb dX10_relation_22 rfl (lv_at hl 2 rfl) ?_
    replace h := o_b h; obtain ⟨_, k23, h⟩ := h
    replace h := o_b h; obtain ⟨q23, h23, h⟩ := h
    refine m_call (va_runV (As := [.int ((1 : Int32) <<< (v1 &&& 31)), .int v2]) (rest := []) ⟨hx, hb, hml, hown, hts⟩ (c_X10_isFollowing l D b0 sz h23) (cwV 2 hts gX10_relation_X10_isFollowing rfl rfl rfl (by decide +kernel) ⟨Nat.le_of_ble_eq_true rfl, Nat.le_of_ble_eq_true rfl⟩) ⟨PW.blind, m_recv (ci := 10) rfl hK hM k23, (fun U hU hW => ⟨rfl, PW.call hK hM hS hU hW⟩)⟩ rfl rfl hl.1 rfl (lv_room (Nat.le_of_ble_eq_true rfl)) dX10_relation_23 ⟨(Nat.le_refl _), (Nat.le_refl _)⟩) hS (fun H locs hM hS => ?_)
    refine lv_if_eq (tgt := 33) hx hb dX10_relation_26 (by decide) (fun c26 => ?_) (fun c26 => ?_)
    · replace h := o_t c26 h
      refine lv_iconst (v := (0 : Int32)) hx hb dX10_relation_33 (by decide) ?_
      exact w_X10_relation_34 C0 _ _ _ _ _ h _ _ _ hM hS (lv_sub hl [0, 1, 2] rfl)
    replace h := o_f c26 h
    refine lv_iconst (v := (1 : Int32)) hx hb dX10_relation_29 (by decide) ?_
    refine lv_goto (tgt := 34) hx hb dX10_relation_30 (by decide) ?_
    exact w_X10_relation_34 C0 _ _ _ _ _ h _ _ _ hM hS (lv_sub hl [0, 1, 2] rfl)
  replace h := o_f c13 h
  refine lv_iconst (v := (-1 : Int32)) hx hb dX10_relation_16 (by decide) ?_
  replace h := Option.some.inj h; subst h
  exact W.iret hx hb hr (fun t ht hW => ⟨rfl, by rw [ht]; exact hM.moved hW.alike, hS.F ht⟩) hS.2.2 dX10_relation_17
set_option maxHeartbeats 4000000 in
set_option maxRecDepth 100000 in
theorem c_X10_relation (l : Launch) (D : mmD) (b0 sz : Nat) {v0 : Nat} {v1 : Int32} {v2 : Int32} {f : mmF} {res : Int32 × mmF} (h : f_X10_relation v0 v1 v2 f = some res) : Met l yX10_relation wsX10_relation ({ frames := 10, cells := 0, slots := 0, locals := 238 } : Room) (va_Pc [.ref v0, .int v1, .int v2] (PW D b0 f sz)) (QW D b0 (some (.int res.1)) res.2 sz) 0 0 (fun q => b0 ≤ q) := by
  refine Met.ofW (cc := cX10_relation) (maxL := 3) (ret := (some .int)) (by decide) rfl ?_
  intro p e s m args below meth c s₁ B hml hv
  obtain ⟨rfl, hM, hK⟩ := hv
  have hl := lv_entry ([.ref v0, .int v1, .int v2]) (n := 3) (Nat.le_of_ble_eq_true rfl)
  rw [lg_entry_eq]
  generalize (lg_sl ([.ref v0, .int v1, .int v2]) ++ List.replicate (3 - (lg_sl ([.ref v0, .int v1, .int v2])).length) Slot.unset).toArray = ls at hl ⊢
  have hl : lv_has ls 3 [(0, .ref v0), (1, .int v1), (2, .int v2)] := hl
  exact w_X10_relation ⟨B.exec, B.bytes, B.returns, hml, findClass_of_methodNamed B.named, atoms_spec (ws := wsX10_relation) B.pre, B.notSynchronized, hK⟩ h s.heap [] ls hM va_S.rf hl
end S_X10_relation
/-! X10_undo -/
set_option maxRecDepth 20000 in
theorem qi_X10_undo_X10 : ∀ w ∈ u_ws RX10 TX10 25, w ∈ wsX10_undo := by decide +kernel
set_option maxRecDepth 20000 in
theorem q_X10_undo_1 : Cond.fieldLink RX10 74 "StageTruthsModel" "kept" "I" ∈ wsX10_undo := by decide +kernel
set_option maxRecDepth 20000 in
theorem q_X10_undo_2 : Cond.fieldLink RX10 7 "StageTruthsModel" "now" "[I" ∈ wsX10_undo := by decide +kernel
set_option maxRecDepth 20000 in
theorem q_X10_undo_3 : Cond.fieldLink RX10 13 "StageTruthsModel" "history" "[I" ∈ wsX10_undo := by decide +kernel
noncomputable def f_X10_undo_22   : Nat → Nat → Int32 → mmF → Option (Int32 × mmF)
  | 0, _, _, _ => none
  | n + 1, v0, v1, f =>
    if (172 : Int32) ≤ v1 then
    ((ldI f v0 10 2).bind fun x57 =>
    some (x57, f))
    else
    (ldR f v0 10 0).bind fun x30 =>
    (ldR f v0 10 1).bind fun x35 =>
    (ldI f v0 10 2).bind fun x42 =>
    (ldA 0 f x35 (((172 : Int32) * x42) + v1)).bind fun x48 =>
    (stA 0 f x30 v1 x48).bind fun f49 =>
    f_X10_undo_22 n v0 (v1 + (1 : Int32)) f49
noncomputable def f_X10_undo (v0 : Nat) (f : mmF) : Option (Int32 × mmF) :=
  (ldI f v0 10 2).bind fun x1 =>
  if x1 = 0 then
  (some ((-5 : Int32), f))
  else
  (ldI f v0 10 2).bind fun x12 =>
  (stF f v0 10 2 (.int (x12 - (1 : Int32)))).bind fun f17 =>
  f_X10_undo_22 FU v0 (0 : Int32) f17
section S_X10_undo
variable {p : Program} {l : Launch} {e : Env} {s : State} {m : MethodId} {args : Array Value} {below : List Frame} {meth : Method} {c : Code} {D : mmD} {b0 sz : Nat} {f : mmF}
set_option maxHeartbeats 4000000 in
set_option maxRecDepth 100000 in
theorem w_X10_undo_22 (C0 : CX cX10_undo 2 (some .int) wsX10_undo RX10 p s m args meth c D b0) {res : Int32 × mmF} : ∀ (n : Nat), ∀ (v0 : Nat) (v1 : Int32) (f : mmF), f_X10_undo_22 n v0 v1 f = some res → ∀ (H : Heap) (locs : List Loc) (ls : Array Slot), MM vwCl D b0 f sz s H → mS b0 s H locs → lv_has ls 2 [(0, .ref v0), (1, .int v1)] → W p l e ({ frames := 0, cells := 0, slots := 0, locals := 0 } : Room) s m args below meth c H locs 0 0 (MQ below (QW D b0 (some (.int res.1)) res.2 sz) args s 0 0 (fun q => b0 ≤ q)) (F0 m 22 ls []) := by
  obtain ⟨hx, hb, hr, hml, hown, hts, hlocks, hK⟩ := id C0
  intro n
  induction n with
  | zero =>
    intro v0 v1 f h
    have h : (none : Option (Int32 × mmF)) = some res := h
    cases h
  | succ n ih =>
    intro v0 v1 f h H locs ls hM hS hl
    rw [f_X10_undo_22] at h
    refine lv_iload_n hx hb dX10_undo_22 rfl (lv_at hl 1 rfl) ?_
    refine lv_sipush (v := (172 : Int32)) hx hb dX10_undo_23 (by decide) ?_
    refine lv_icmp_ge (tgt := 56) hx hb dX10_undo_26 (by decide) (fun c26 => ?_) (fun c26 => ?_)
    · replace h := o_t c26 h
      refine lv_aload_n hx hb dX10_undo_56 rfl (lv_at hl 0 rfl) ?_
      replace h := o_b h; obtain ⟨x57, h57, h⟩ := h
      refine m_get (C := RX10) (T := TX10) (N := 25) (ci := 10) hx hb hts qi_X10_undo_X10 hown hK.1 hM 2 (ldI_F h57) rfl (by decide) (hts _ q_X10_undo_1) (fun _ h9 => h9) dX10_undo_57 ?_
      replace h := Option.some.inj h; subst h
      exact W.iret hx hb hr (fun t ht hW => ⟨rfl, by rw [ht]; exact hM.moved hW.alike, hS.F ht⟩) hS.2.2 dX10_undo_60
    replace h := o_f c26 h
    refine lv_aload_n hx hb dX10_undo_29 rfl (lv_at hl 0 rfl) ?_
    replace h := o_b h; obtain ⟨x30, h30, h⟩ := h
    refine m_get (C := RX10) (T := TX10) (N := 25) (ci := 10) hx hb hts qi_X10_undo_X10 hown hK.1 hM 0 (ldR_F h30) rfl (by decide) (hts _ q_X10_undo_2) (fun _ h9 => h9) dX10_undo_30 ?_
    refine lv_iload_n hx hb dX10_undo_33 rfl (lv_at hl 1 rfl) ?_
    refine lv_aload_n hx hb dX10_undo_34 rfl (lv_at hl 0 rfl) ?_
    replace h := o_b h; obtain ⟨x35, h35, h⟩ := h
    refine m_get (C := RX10) (T := TX10) (N := 25) (ci := 10) hx hb hts qi_X10_undo_X10 hown hK.1 hM 1 (ldR_F h35) rfl (by decide) (hts _ q_X10_undo_3) (fun _ h9 => h9) dX10_undo_35 ?_
    refine lv_sipush (v := (172 : Int32)) hx hb dX10_undo_38 (by decide) ?_
    refine lv_aload_n hx hb dX10_undo_41 rfl (lv_at hl 0 rfl) ?_
    replace h := o_b h; obtain ⟨x42, h42, h⟩ := h
    refine m_get (C := RX10) (T := TX10) (N := 25) (ci := 10) hx hb hts qi_X10_undo_X10 hown hK.1 hM 2 (ldI_F h42) rfl (by decide) (hts _ q_X10_undo_1) (fun _ h9 => h9) dX10_undo_42 ?_
    refine lv_imul hx hb dX10_undo_45 ?_
    refine lv_iload_n hx hb dX10_undo_46 rfl (lv_at hl 1 rfl) ?_
    refine lv_iadd hx hb dX10_undo_47 ?_
    replace h := o_b h; obtain ⟨x48, h48, h⟩ := h
    refine m_iald hx hb hK.1 hM hS rfl h48 dX10_undo_48 ?_
    replace h := o_b h; obtain ⟨f49, h49, h⟩ := h
    refine m_iast hx hb hK.1 hM hS rfl h49 dX10_undo_49 (fun H locs hM hS => ?_)
    refine lv_iinc (v := (v1 + (1 : Int32))) (lv' := [(1, .int (v1 + (1 : Int32))), (0, .ref v0)]) hx hb dX10_undo_50 hl (k := 1) rfl rfl (by decide) rfl (fun ls hl => ?_)
    refine lv_goto (tgt := 22) hx hb dX10_undo_53 (by decide) ?_
    exact ih _ _ _ h _ _ _ hM hS (lv_sub hl [1, 0] rfl)
set_option maxHeartbeats 4000000 in
set_option maxRecDepth 100000 in
theorem w_X10_undo (C0 : CX cX10_undo 2 (some .int) wsX10_undo RX10 p s m args meth c D b0) {v0 : Nat} {res : Int32 × mmF} (h : f_X10_undo v0 f = some res) : ∀ (H : Heap) (locs : List Loc) (ls : Array Slot), MM vwCl D b0 f sz s H → mS b0 s H locs → lv_has ls 2 [(0, .ref v0)] → W p l e ({ frames := 0, cells := 0, slots := 0, locals := 0 } : Room) s m args below meth c H locs 0 0 (MQ below (QW D b0 (some (.int res.1)) res.2 sz) args s 0 0 (fun q => b0 ≤ q)) (F0 m 0 ls []) := by
  obtain ⟨hx, hb, hr, hml, hown, hts, hlocks, hK⟩ := id C0
  intro H locs ls hM hS hl
  unfold f_X10_undo at h
  refine lv_aload_n hx hb dX10_undo_0 rfl (lv_at hl 0 rfl) ?_
  replace h := o_b h; obtain ⟨x1, h1, h⟩ := h
  refine m_get (C := RX10) (T := TX10) (N := 25) (ci := 10) hx hb hts qi_X10_undo_X10 hown hK.1 hM 2 (ldI_F h1) rfl (by decide) (hts _ q_X10_undo_1) (fun _ h9 => h9) dX10_undo_1 ?_
  refine lv_if_ne (tgt := 10) hx hb dX10_undo_4 (by decide) (fun c4 => ?_) (fun c4 => ?_)
  · replace h := o_f c4 h
    refine lv_aload_n hx hb dX10_undo_10 rfl (lv_at hl 0 rfl) ?_
    refine lv_dup hx hb dX10_undo_11 rfl ?_
    replace h := o_b h; obtain ⟨x12, h12, h⟩ := h
    refine m_get (C := RX10) (T := TX10) (N := 25) (ci := 10) hx hb hts qi_X10_undo_X10 hown hK.1 hM 2 (ldI_F h12) rfl (by decide) (hts _ q_X10_undo_1) (fun _ h9 => h9) dX10_undo_12 ?_
    refine lv_iconst (v := (1 : Int32)) hx hb dX10_undo_15 (by decide) ?_
    refine lv_isub hx hb dX10_undo_16 ?_
    replace h := o_b h; obtain ⟨f17, h17, h⟩ := h
    refine m_put (ty := .int) (C := RX10) (T := TX10) (N := 25) (ci := 10) hx hb hts qi_X10_undo_X10 tyX10 tyX10_ok nmX10 hown hK.1 hM hS 2 h17 rfl (by decide) (hts _ q_X10_undo_1) (fun _ h9 => h9) rfl (by decide +kernel) rfl rfl dX10_undo_17 (fun H locs hM hS => ?_)
    refine lv_iconst (v := (0 : Int32)) hx hb dX10_undo_20 (by decide) ?_
    refine lv_istore_n (lv' := [(1, .int (0 : Int32)), (0, .ref v0)]) hx hb dX10_undo_21 rfl hl (by decide) rfl (fun ls hl => ?_)
    exact w_X10_undo_22 C0 FU _ _ _ h _ _ _ hM hS (lv_sub hl [1, 0] rfl)
  replace h := o_t c4 h
  refine lv_bipush (v := (-5 : Int32)) hx hb dX10_undo_7 (by decide) ?_
  replace h := Option.some.inj h; subst h
  exact W.iret hx hb hr (fun t ht hW => ⟨rfl, by rw [ht]; exact hM.moved hW.alike, hS.F ht⟩) hS.2.2 dX10_undo_9
set_option maxHeartbeats 4000000 in
set_option maxRecDepth 100000 in
theorem c_X10_undo (l : Launch) (D : mmD) (b0 sz : Nat) {v0 : Nat} {f : mmF} {res : Int32 × mmF} (h : f_X10_undo v0 f = some res) : Met l yX10_undo wsX10_undo ({ frames := 0, cells := 0, slots := 0, locals := 0 } : Room) (va_Pc [.ref v0] (PW D b0 f sz)) (QW D b0 (some (.int res.1)) res.2 sz) 0 0 (fun q => b0 ≤ q) := by
  refine Met.ofW (cc := cX10_undo) (maxL := 2) (ret := (some .int)) (by decide) rfl ?_
  intro p e s m args below meth c s₁ B hml hv
  obtain ⟨rfl, hM, hK⟩ := hv
  have hl := lv_entry ([.ref v0]) (n := 2) (Nat.le_of_ble_eq_true rfl)
  rw [lg_entry_eq]
  generalize (lg_sl ([.ref v0]) ++ List.replicate (2 - (lg_sl ([.ref v0])).length) Slot.unset).toArray = ls at hl ⊢
  have hl : lv_has ls 2 [(0, .ref v0)] := hl
  exact w_X10_undo ⟨B.exec, B.bytes, B.returns, hml, findClass_of_methodNamed B.named, atoms_spec (ws := wsX10_undo) B.pre, B.notSynchronized, hK⟩ h s.heap [] ls hM va_S.rf hl
end S_X10_undo
/-! X10_keep -/
set_option maxRecDepth 20000 in
theorem qi_X10_keep_X10 : ∀ w ∈ u_ws RX10 TX10 25, w ∈ wsX10_keep := by decide +kernel
set_option maxRecDepth 20000 in
theorem q_X10_keep_1 : Cond.fieldLink RX10 273 "StageTruthsModel" "isFilled" "Z" ∈ wsX10_keep := by decide +kernel
set_option maxRecDepth 20000 in
theorem q_X10_keep_2 : Cond.fieldLink RX10 7 "StageTruthsModel" "now" "[I" ∈ wsX10_keep := by decide +kernel
set_option maxRecDepth 20000 in
theorem q_X10_keep_3 : Cond.fieldLink RX10 16 "StageTruthsModel" "slot" "[I" ∈ wsX10_keep := by decide +kernel
noncomputable def f_X10_keep_2   : Nat → Nat → Int32 → mmF → Option (Int32 × mmF)
  | 0, _, _, _ => none
  | n + 1, v0, v1, f =>
    if (172 : Int32) ≤ v1 then
    ((stF f v0 10 4 (.int (1 : Int32))).bind fun f29 =>
    (ldR f29 v0 10 0).bind fun x33 =>
    (ldA 0 f29 x33 (16 : Int32)).bind fun x38 =>
    some (x38, f29))
    else
    (ldR f v0 10 3).bind fun x10 =>
    (ldR f v0 10 0).bind fun x15 =>
    (ldA 0 f x15 v1).bind fun x19 =>
    (stA 0 f x10 v1 x19).bind fun f20 =>
    f_X10_keep_2 n v0 (v1 + (1 : Int32)) f20
noncomputable def f_X10_keep (v0 : Nat) (f : mmF) : Option (Int32 × mmF) :=
  f_X10_keep_2 FU v0 (0 : Int32) f
section S_X10_keep
variable {p : Program} {l : Launch} {e : Env} {s : State} {m : MethodId} {args : Array Value} {below : List Frame} {meth : Method} {c : Code} {D : mmD} {b0 sz : Nat} {f : mmF}
set_option maxHeartbeats 4000000 in
set_option maxRecDepth 100000 in
theorem w_X10_keep_2 (C0 : CX cX10_keep 2 (some .int) wsX10_keep RX10 p s m args meth c D b0) {res : Int32 × mmF} : ∀ (n : Nat), ∀ (v0 : Nat) (v1 : Int32) (f : mmF), f_X10_keep_2 n v0 v1 f = some res → ∀ (H : Heap) (locs : List Loc) (ls : Array Slot), MM vwCl D b0 f sz s H → mS b0 s H locs → lv_has ls 2 [(0, .ref v0), (1, .int v1)] → W p l e ({ frames := 0, cells := 0, slots := 0, locals := 0 } : Room) s m args below meth c H locs 0 0 (MQ below (QW D b0 (some (.int res.1)) res.2 sz) args s 0 0 (fun q => b0 ≤ q)) (F0 m 2 ls []) := by
  obtain ⟨hx, hb, hr, hml, hown, hts, hlocks, hK⟩ := id C0
  intro n
  induction n with
  | zero =>
    intro v0 v1 f h
    have h : (none : Option (Int32 × mmF)) = some res := h
    cases h
  | succ n ih =>
    intro v0 v1 f h H locs ls hM hS hl
    rw [f_X10_keep_2] at h
    refine lv_iload_n hx hb dX10_keep_2 rfl (lv_at hl 1 rfl) ?_
    refine lv_sipush (v := (172 : Int32)) hx hb dX10_keep_3 (by decide) ?_
    refine lv_icmp_ge (tgt := 27) hx hb dX10_keep_6 (by decide) (fun c6 => ?_) (fun c6 => ?_)
    · replace h := o_t c6 h
      refine lv_aload_n hx hb dX10_keep_27 rfl (lv_at hl 0 rfl) ?_
      refine lv_iconst (v := (1 : Int32)) hx hb dX10_keep_28 (by decide) ?_
      replace h := o_b h; obtain ⟨f29, h29, h⟩ := h
      refine m_put (ty := .boolean) (C := RX10) (T := TX10) (N := 25) (ci := 10) hx hb hts qi_X10_keep_X10 tyX10 tyX10_ok nmX10 hown hK.1 hM hS 4 h29 rfl (by decide) (hts _ q_X10_keep_1) (fun _ h9 => h9) rfl (by decide +kernel) rfl rfl dX10_keep_29 (fun H locs hM hS => ?_)
      refine lv_aload_n hx hb dX10_keep_32 rfl (lv_at hl 0 rfl) ?_
      replace h := o_b h; obtain ⟨x33, h33, h⟩ := h
      refine m_get (C := RX10) (T := TX10) (N := 25) (ci := 10) hx hb hts qi_X10_keep_X10 hown hK.1 hM 0 (ldR_F h33) rfl (by decide) (hts _ q_X10_keep_2) (fun _ h9 => h9) dX10_keep_33 ?_
      refine lv_bipush (v := (16 : Int32)) hx hb dX10_keep_36 (by decide) ?_
      replace h := o_b h; obtain ⟨x38, h38, h⟩ := h
      refine m_iald hx hb hK.1 hM hS rfl h38 dX10_keep_38 ?_
      replace h := Option.some.inj h; subst h
      exact W.iret hx hb hr (fun t ht hW => ⟨rfl, by rw [ht]; exact hM.moved hW.alike, hS.F ht⟩) hS.2.2 dX10_keep_39
    replace h := o_f c6 h
    refine lv_aload_n hx hb dX10_keep_9 rfl (lv_at hl 0 rfl) ?_
    replace h := o_b h; obtain ⟨x10, h10, h⟩ := h
    refine m_get (C := RX10) (T := TX10) (N := 25) (ci := 10) hx hb hts qi_X10_keep_X10 hown hK.1 hM 3 (ldR_F h10) rfl (by decide) (hts _ q_X10_keep_3) (fun _ h9 => h9) dX10_keep_10 ?_
    refine lv_iload_n hx hb dX10_keep_13 rfl (lv_at hl 1 rfl) ?_
    refine lv_aload_n hx hb dX10_keep_14 rfl (lv_at hl 0 rfl) ?_
    replace h := o_b h; obtain ⟨x15, h15, h⟩ := h
    refine m_get (C := RX10) (T := TX10) (N := 25) (ci := 10) hx hb hts qi_X10_keep_X10 hown hK.1 hM 0 (ldR_F h15) rfl (by decide) (hts _ q_X10_keep_2) (fun _ h9 => h9) dX10_keep_15 ?_
    refine lv_iload_n hx hb dX10_keep_18 rfl (lv_at hl 1 rfl) ?_
    replace h := o_b h; obtain ⟨x19, h19, h⟩ := h
    refine m_iald hx hb hK.1 hM hS rfl h19 dX10_keep_19 ?_
    replace h := o_b h; obtain ⟨f20, h20, h⟩ := h
    refine m_iast hx hb hK.1 hM hS rfl h20 dX10_keep_20 (fun H locs hM hS => ?_)
    refine lv_iinc (v := (v1 + (1 : Int32))) (lv' := [(1, .int (v1 + (1 : Int32))), (0, .ref v0)]) hx hb dX10_keep_21 hl (k := 1) rfl rfl (by decide) rfl (fun ls hl => ?_)
    refine lv_goto (tgt := 2) hx hb dX10_keep_24 (by decide) ?_
    exact ih _ _ _ h _ _ _ hM hS (lv_sub hl [1, 0] rfl)
set_option maxHeartbeats 4000000 in
set_option maxRecDepth 100000 in
theorem w_X10_keep (C0 : CX cX10_keep 2 (some .int) wsX10_keep RX10 p s m args meth c D b0) {v0 : Nat} {res : Int32 × mmF} (h : f_X10_keep v0 f = some res) : ∀ (H : Heap) (locs : List Loc) (ls : Array Slot), MM vwCl D b0 f sz s H → mS b0 s H locs → lv_has ls 2 [(0, .ref v0)] → W p l e ({ frames := 0, cells := 0, slots := 0, locals := 0 } : Room) s m args below meth c H locs 0 0 (MQ below (QW D b0 (some (.int res.1)) res.2 sz) args s 0 0 (fun q => b0 ≤ q)) (F0 m 0 ls []) := by
  obtain ⟨hx, hb, hr, hml, hown, hts, hlocks, hK⟩ := id C0
  intro H locs ls hM hS hl
  unfold f_X10_keep at h
  refine lv_iconst (v := (0 : Int32)) hx hb dX10_keep_0 (by decide) ?_
  refine lv_istore_n (lv' := [(1, .int (0 : Int32)), (0, .ref v0)]) hx hb dX10_keep_1 rfl hl (by decide) rfl (fun ls hl => ?_)
  exact w_X10_keep_2 C0 FU _ _ _ h _ _ _ hM hS (lv_sub hl [1, 0] rfl)
set_option maxHeartbeats 4000000 in
set_option maxRecDepth 100000 in
theorem c_X10_keep (l : Launch) (D : mmD) (b0 sz : Nat) {v0 : Nat} {f : mmF} {res : Int32 × mmF} (h : f_X10_keep v0 f = some res) : Met l yX10_keep wsX10_keep ({ frames := 0, cells := 0, slots := 0, locals := 0 } : Room) (va_Pc [.ref v0] (PW D b0 f sz)) (QW D b0 (some (.int res.1)) res.2 sz) 0 0 (fun q => b0 ≤ q) := by
  refine Met.ofW (cc := cX10_keep) (maxL := 2) (ret := (some .int)) (by decide) rfl ?_
  intro p e s m args below meth c s₁ B hml hv
  obtain ⟨rfl, hM, hK⟩ := hv
  have hl := lv_entry ([.ref v0]) (n := 2) (Nat.le_of_ble_eq_true rfl)
  rw [lg_entry_eq]
  generalize (lg_sl ([.ref v0]) ++ List.replicate (2 - (lg_sl ([.ref v0])).length) Slot.unset).toArray = ls at hl ⊢
  have hl : lv_has ls 2 [(0, .ref v0)] := hl
  exact w_X10_keep ⟨B.exec, B.bytes, B.returns, hml, findClass_of_methodNamed B.named, atoms_spec (ws := wsX10_keep) B.pre, B.notSynchronized, hK⟩ h s.heap [] ls hM va_S.rf hl
end S_X10_keep
/-! X10_restore -/
set_option maxRecDepth 20000 in
theorem qi_X10_restore_X10 : ∀ w ∈ u_ws RX10 TX10 25, w ∈ wsX10_restore := by decide +kernel
set_option maxRecDepth 20000 in
theorem q_X10_restore_1 : Cond.fieldLink RX10 7 "StageTruthsModel" "now" "[I" ∈ wsX10_restore := by decide +kernel
set_option maxRecDepth 20000 in
theorem q_X10_restore_2 : Cond.fieldLink RX10 16 "StageTruthsModel" "slot" "[I" ∈ wsX10_restore := by decide +kernel
set_option maxRecDepth 20000 in
theorem q_X10_restore_3 : Cond.fieldLink RX10 273 "StageTruthsModel" "isFilled" "Z" ∈ wsX10_restore := by decide +kernel
noncomputable def f_X10_restore_16   : Nat → Nat → Int32 → mmF → Option (Int32 × mmF)
  | 0, _, _, _ => none
  | n + 1, v0, v1, f =>
    if (172 : Int32) ≤ v1 then
    ((ldR f v0 10 0).bind fun x42 =>
    (ldA 0 f x42 (16 : Int32)).bind fun x47 =>
    some (x47, f))
    else
    (ldR f v0 10 0).bind fun x24 =>
    (ldR f v0 10 3).bind fun x29 =>
    (ldA 0 f x29 v1).bind fun x33 =>
    (stA 0 f x24 v1 x33).bind fun f34 =>
    f_X10_restore_16 n v0 (v1 + (1 : Int32)) f34
noncomputable def f_X10_restore (v0 : Nat) (f : mmF) : Option (Int32 × mmF) :=
  (ldI f v0 10 4).bind fun x1 =>
  if x1 = 0 then
  (some ((-5 : Int32), f))
  else
  (ckO f v0 10).bind fun _ =>
  (f_X10_record v0 f).bind fun q11 =>
  f_X10_restore_16 FU v0 (0 : Int32) q11
section S_X10_restore
variable {p : Program} {l : Launch} {e : Env} {s : State} {m : MethodId} {args : Array Value} {below : List Frame} {meth : Method} {c : Code} {D : mmD} {b0 sz : Nat} {f : mmF}
set_option maxHeartbeats 4000000 in
set_option maxRecDepth 100000 in
theorem w_X10_restore_16 (C0 : CX cX10_restore 2 (some .int) wsX10_restore RX10 p s m args meth c D b0) {res : Int32 × mmF} : ∀ (n : Nat), ∀ (v0 : Nat) (v1 : Int32) (f : mmF), f_X10_restore_16 n v0 v1 f = some res → ∀ (H : Heap) (locs : List Loc) (ls : Array Slot), MM vwCl D b0 f sz s H → mS b0 s H locs → lv_has ls 2 [(0, .ref v0), (1, .int v1)] → W p l e ({ frames := 1, cells := 0, slots := 0, locals := 21 } : Room) s m args below meth c H locs 0 0 (MQ below (QW D b0 (some (.int res.1)) res.2 sz) args s 0 0 (fun q => b0 ≤ q)) (F0 m 16 ls []) := by
  obtain ⟨hx, hb, hr, hml, hown, hts, hlocks, hK⟩ := id C0
  intro n
  induction n with
  | zero =>
    intro v0 v1 f h
    have h : (none : Option (Int32 × mmF)) = some res := h
    cases h
  | succ n ih =>
    intro v0 v1 f h H locs ls hM hS hl
    rw [f_X10_restore_16] at h
    refine lv_iload_n hx hb dX10_restore_16 rfl (lv_at hl 1 rfl) ?_
    refine lv_sipush (v := (172 : Int32)) hx hb dX10_restore_17 (by decide) ?_
    refine lv_icmp_ge (tgt := 41) hx hb dX10_restore_20 (by decide) (fun c20 => ?_) (fun c20 => ?_)
    · replace h := o_t c20 h
      refine lv_aload_n hx hb dX10_restore_41 rfl (lv_at hl 0 rfl) ?_
      replace h := o_b h; obtain ⟨x42, h42, h⟩ := h
      refine m_get (C := RX10) (T := TX10) (N := 25) (ci := 10) hx hb hts qi_X10_restore_X10 hown hK.1 hM 0 (ldR_F h42) rfl (by decide) (hts _ q_X10_restore_1) (fun _ h9 => h9) dX10_restore_42 ?_
      refine lv_bipush (v := (16 : Int32)) hx hb dX10_restore_45 (by decide) ?_
      replace h := o_b h; obtain ⟨x47, h47, h⟩ := h
      refine m_iald hx hb hK.1 hM hS rfl h47 dX10_restore_47 ?_
      replace h := Option.some.inj h; subst h
      exact W.iret hx hb hr (fun t ht hW => ⟨rfl, by rw [ht]; exact hM.moved hW.alike, hS.F ht⟩) hS.2.2 dX10_restore_48
    replace h := o_f c20 h
    refine lv_aload_n hx hb dX10_restore_23 rfl (lv_at hl 0 rfl) ?_
    replace h := o_b h; obtain ⟨x24, h24, h⟩ := h
    refine m_get (C := RX10) (T := TX10) (N := 25) (ci := 10) hx hb hts qi_X10_restore_X10 hown hK.1 hM 0 (ldR_F h24) rfl (by decide) (hts _ q_X10_restore_1) (fun _ h9 => h9) dX10_restore_24 ?_
    refine lv_iload_n hx hb dX10_restore_27 rfl (lv_at hl 1 rfl) ?_
    refine lv_aload_n hx hb dX10_restore_28 rfl (lv_at hl 0 rfl) ?_
    replace h := o_b h; obtain ⟨x29, h29, h⟩ := h
    refine m_get (C := RX10) (T := TX10) (N := 25) (ci := 10) hx hb hts qi_X10_restore_X10 hown hK.1 hM 3 (ldR_F h29) rfl (by decide) (hts _ q_X10_restore_2) (fun _ h9 => h9) dX10_restore_29 ?_
    refine lv_iload_n hx hb dX10_restore_32 rfl (lv_at hl 1 rfl) ?_
    replace h := o_b h; obtain ⟨x33, h33, h⟩ := h
    refine m_iald hx hb hK.1 hM hS rfl h33 dX10_restore_33 ?_
    replace h := o_b h; obtain ⟨f34, h34, h⟩ := h
    refine m_iast hx hb hK.1 hM hS rfl h34 dX10_restore_34 (fun H locs hM hS => ?_)
    refine lv_iinc (v := (v1 + (1 : Int32))) (lv' := [(1, .int (v1 + (1 : Int32))), (0, .ref v0)]) hx hb dX10_restore_35 hl (k := 1) rfl rfl (by decide) rfl (fun ls hl => ?_)
    refine lv_goto (tgt := 16) hx hb dX10_restore_38 (by decide) ?_
    exact ih _ _ _ h _ _ _ hM hS (lv_sub hl [1, 0] rfl)
set_option maxHeartbeats 4000000 in
set_option maxRecDepth 100000 in
theorem w_X10_restore (C0 : CX cX10_restore 2 (some .int) wsX10_restore RX10 p s m args meth c D b0) {v0 : Nat} {res : Int32 × mmF} (h : f_X10_restore v0 f = some res) : ∀ (H : Heap) (locs : List Loc) (ls : Array Slot), MM vwCl D b0 f sz s H → mS b0 s H locs → lv_has ls 2 [(0, .ref v0)] → W p l e ({ frames := 1, cells := 0, slots := 0, locals := 21 } : Room) s m args below meth c H locs 0 0 (MQ below (QW D b0 (some (.int res.1)) res.2 sz) args s 0 0 (fun q => b0 ≤ q)) (F0 m 0 ls []) := by
  obtain ⟨hx, hb, hr, hml, hown, hts, hlocks, hK⟩ := id C0
  intro H locs ls hM hS hl
  unfold f_X10_restore at h
  refine lv_aload_n hx hb dX10_restore_0 rfl (lv_at hl 0 rfl) ?_
  replace h := o_b h; obtain ⟨x1, h1, h⟩ := h
  refine m_get (C := RX10) (T := TX10) (N := 25) (ci := 10) hx hb hts qi_X10_restore_X10 hown hK.1 hM 4 (ldI_F h1) rfl (by decide) (hts _ q_X10_restore_3) (fun _ h9 => h9) dX10_restore_1 ?_
  refine lv_if_ne (tgt := 10) hx hb dX10_restore_4 (by decide) (fun c4 => ?_) (fun c4 => ?_)
  · replace h := o_f c4 h
    refine lv_aload_n hx hb dX10_restore_10 rfl (lv_at hl 0 rfl) ?_
    replace h := o_b h; obtain ⟨_, k11, h⟩ := h
    replace h := o_b h; obtain ⟨q11, h11, h⟩ := h
    refine m_call (va_runV (As := []) (rest := []) ⟨hx, hb, hml, hown, hts⟩ (c_X10_record l D b0 sz h11) (cwV 0 hts gX10_restore_X10_record rfl rfl rfl (by decide +kernel) ⟨Nat.le_of_ble_eq_true rfl, Nat.le_of_ble_eq_true rfl⟩) ⟨PW.blind, m_recv (ci := 10) rfl hK hM k11, (fun U hU hW => ⟨rfl, PW.call hK hM hS hU hW⟩)⟩ rfl rfl hl.1 rfl (lv_room (Nat.le_of_ble_eq_true rfl)) dX10_restore_11 ⟨(Nat.le_refl _), (Nat.le_refl _)⟩) hS (fun H locs hM hS => ?_)
    refine lv_iconst (v := (0 : Int32)) hx hb dX10_restore_14 (by decide) ?_
    refine lv_istore_n (lv' := [(1, .int (0 : Int32)), (0, .ref v0)]) hx hb dX10_restore_15 rfl hl (by decide) rfl (fun ls hl => ?_)
    exact w_X10_restore_16 C0 FU _ _ _ h _ _ _ hM hS (lv_sub hl [1, 0] rfl)
  replace h := o_t c4 h
  refine lv_bipush (v := (-5 : Int32)) hx hb dX10_restore_7 (by decide) ?_
  replace h := Option.some.inj h; subst h
  exact W.iret hx hb hr (fun t ht hW => ⟨rfl, by rw [ht]; exact hM.moved hW.alike, hS.F ht⟩) hS.2.2 dX10_restore_9
set_option maxHeartbeats 4000000 in
set_option maxRecDepth 100000 in
theorem c_X10_restore (l : Launch) (D : mmD) (b0 sz : Nat) {v0 : Nat} {f : mmF} {res : Int32 × mmF} (h : f_X10_restore v0 f = some res) : Met l yX10_restore wsX10_restore ({ frames := 1, cells := 0, slots := 0, locals := 21 } : Room) (va_Pc [.ref v0] (PW D b0 f sz)) (QW D b0 (some (.int res.1)) res.2 sz) 0 0 (fun q => b0 ≤ q) := by
  refine Met.ofW (cc := cX10_restore) (maxL := 2) (ret := (some .int)) (by decide) rfl ?_
  intro p e s m args below meth c s₁ B hml hv
  obtain ⟨rfl, hM, hK⟩ := hv
  have hl := lv_entry ([.ref v0]) (n := 2) (Nat.le_of_ble_eq_true rfl)
  rw [lg_entry_eq]
  generalize (lg_sl ([.ref v0]) ++ List.replicate (2 - (lg_sl ([.ref v0])).length) Slot.unset).toArray = ls at hl ⊢
  have hl : lv_has ls 2 [(0, .ref v0)] := hl
  exact w_X10_restore ⟨B.exec, B.bytes, B.returns, hml, findClass_of_methodNamed B.named, atoms_spec (ws := wsX10_restore) B.pre, B.notSynchronized, hK⟩ h s.heap [] ls hM va_S.rf hl
end S_X10_restore
/-! X10_stage -/
set_option maxRecDepth 20000 in
theorem qi_X10_stage_X10 : ∀ w ∈ u_ws RX10 TX10 25, w ∈ wsX10_stage := by decide +kernel
set_option maxRecDepth 20000 in
theorem q_X10_stage_1 : Cond.fieldLink RX10 7 "StageTruthsModel" "now" "[I" ∈ wsX10_stage := by decide +kernel
set_option maxRecDepth 20000 in
theorem q_X10_stage_2 : Cond.fieldLink RX10 19 "StageTruthsModel" "like" "[I" ∈ wsX10_stage := by decide +kernel
noncomputable def f_X10_stage (v0 : Nat) (v1 : Int32) (v2 : Int32) (f : mmF) : Option (Int32 × mmF) :=
  (ckO f v0 10).bind fun _ =>
  (f_X10_noStage v0 v1 f).bind fun q2 =>
  if q2 = 0 then
  (if v2 = (0 : Int32) then
  ((ldR f v0 10 0).bind fun x41 =>
  (ldA 0 f x41 ((0 : Int32) + v1)).bind fun x47 =>
  some (x47, f))
  else
  if v2 = (1 : Int32) then
  ((ckO f v0 10).bind fun _ =>
  (f_X10_leadingTo v0 v1 f).bind fun q51 =>
  some (q51, f))
  else
  if v2 = (2 : Int32) then
  ((ldR f v0 10 0).bind fun x56 =>
  (ldA 0 f x56 ((8 : Int32) + v1)).bind fun x63 =>
  some (x63, f))
  else
  if v2 = (3 : Int32) then
  ((ckO f v0 10).bind fun _ =>
  (f_X10_findsLike v0 f).bind fun q66 =>
  (ldR q66 v0 10 5).bind fun x70 =>
  (ldA 0 q66 x70 v1).bind fun x74 =>
  (f_X10_lowest x74 q66).bind fun q75 =>
  some (q75, q66))
  else
  some ((-2 : Int32), f))
  else
  some ((-1 : Int32), f)
section S_X10_stage
variable {p : Program} {l : Launch} {e : Env} {s : State} {m : MethodId} {args : Array Value} {below : List Frame} {meth : Method} {c : Code} {D : mmD} {b0 sz : Nat} {f : mmF}
set_option maxHeartbeats 4000000 in
set_option maxRecDepth 100000 in
theorem w_X10_stage (C0 : CX cX10_stage 3 (some .int) wsX10_stage RX10 p s m args meth c D b0) {v0 : Nat} {v1 : Int32} {v2 : Int32} {res : Int32 × mmF} (h : f_X10_stage v0 v1 v2 f = some res) : ∀ (H : Heap) (locs : List Loc) (ls : Array Slot), MM vwCl D b0 f sz s H → mS b0 s H locs → lv_has ls 3 [(0, .ref v0), (1, .int v1), (2, .int v2)] → W p l e ({ frames := 3, cells := 0, slots := 0, locals := 69 } : Room) s m args below meth c H locs 0 0 (MQ below (QW D b0 (some (.int res.1)) res.2 sz) args s 0 0 (fun q => b0 ≤ q)) (F0 m 0 ls []) := by
  obtain ⟨hx, hb, hr, hml, hown, hts, hlocks, hK⟩ := id C0
  intro H locs ls hM hS hl
  unfold f_X10_stage at h
  refine lv_aload_n hx hb dX10_stage_0 rfl (lv_at hl 0 rfl) ?_
  refine lv_iload_n hx hb dX10_stage_1 rfl (lv_at hl 1 rfl) ?_
  replace h := o_b h; obtain ⟨_, k2, h⟩ := h
  replace h := o_b h; obtain ⟨q2, h2, h⟩ := h
  refine m_call (va_runV (As := [.int v1]) (rest := []) ⟨hx, hb, hml, hown, hts⟩ (c_X10_noStage l D b0 sz h2) (cwV 1 hts gX10_stage_X10_noStage rfl rfl rfl (by decide +kernel) ⟨Nat.le_of_ble_eq_true rfl, Nat.le_of_ble_eq_true rfl⟩) ⟨PW.blind, m_recv (ci := 10) rfl hK hM k2, (fun U hU hW => ⟨rfl, PW.call hK hM hS hU hW⟩)⟩ rfl rfl hl.1 rfl (lv_room (Nat.le_of_ble_eq_true rfl)) dX10_stage_2 ⟨(Nat.le_refl _), (Nat.le_refl _)⟩) hS (fun H locs hM hS => ?_)
  refine lv_if_eq (tgt := 10) hx hb dX10_stage_5 (by decide) (fun c5 => ?_) (fun c5 => ?_)
  · replace h := o_t c5 h
    refine lv_iload_n hx hb dX10_stage_10 rfl (lv_at hl 2 rfl) ?_
    by_cases c11_0 : v2 = (0 : Int32)
    · replace h := o_t c11_0 h
      refine lv_tableIn (tgt := 40) hx hb dX10_stage_11 (by rw [c11_0]; decide) (by rw [c11_0]; decide) (by rw [c11_0]; rfl) (by decide) ?_
      refine lv_aload_n hx hb dX10_stage_40 rfl (lv_at hl 0 rfl) ?_
      replace h := o_b h; obtain ⟨x41, h41, h⟩ := h
      refine m_get (C := RX10) (T := TX10) (N := 25) (ci := 10) hx hb hts qi_X10_stage_X10 hown hK.1 hM 0 (ldR_F h41) rfl (by decide) (hts _ q_X10_stage_1) (fun _ h9 => h9) dX10_stage_41 ?_
      refine lv_iconst (v := (0 : Int32)) hx hb dX10_stage_44 (by decide) ?_
      refine lv_iload_n hx hb dX10_stage_45 rfl (lv_at hl 1 rfl) ?_
      refine lv_iadd hx hb dX10_stage_46 ?_
      replace h := o_b h; obtain ⟨x47, h47, h⟩ := h
      refine m_iald hx hb hK.1 hM hS rfl h47 dX10_stage_47 ?_
      replace h := Option.some.inj h; subst h
      exact W.iret hx hb hr (fun t ht hW => ⟨rfl, by rw [ht]; exact hM.moved hW.alike, hS.F ht⟩) hS.2.2 dX10_stage_48
    replace h := o_f c11_0 h
    by_cases c11_1 : v2 = (1 : Int32)
    · replace h := o_t c11_1 h
      refine lv_tableIn (tgt := 49) hx hb dX10_stage_11 (by rw [c11_1]; decide) (by rw [c11_1]; decide) (by rw [c11_1]; rfl) (by decide) ?_
      refine lv_aload_n hx hb dX10_stage_49 rfl (lv_at hl 0 rfl) ?_
      refine lv_iload_n hx hb dX10_stage_50 rfl (lv_at hl 1 rfl) ?_
      replace h := o_b h; obtain ⟨_, k51, h⟩ := h
      replace h := o_b h; obtain ⟨q51, h51, h⟩ := h
      refine m_call (va_runV (As := [.int v1]) (rest := []) ⟨hx, hb, hml, hown, hts⟩ (c_X10_leadingTo l D b0 sz h51) (cwV 1 hts gX10_stage_X10_leadingTo rfl rfl rfl (by decide +kernel) ⟨Nat.le_of_ble_eq_true rfl, Nat.le_of_ble_eq_true rfl⟩) ⟨PW.blind, m_recv (ci := 10) rfl hK hM k51, (fun U hU hW => ⟨rfl, PW.call hK hM hS hU hW⟩)⟩ rfl rfl hl.1 rfl (lv_room (Nat.le_of_ble_eq_true rfl)) dX10_stage_51 ⟨(Nat.le_refl _), (Nat.le_refl _)⟩) hS (fun H locs hM hS => ?_)
      replace h := Option.some.inj h; subst h
      exact W.iret hx hb hr (fun t ht hW => ⟨rfl, by rw [ht]; exact hM.moved hW.alike, hS.F ht⟩) hS.2.2 dX10_stage_54
    replace h := o_f c11_1 h
    by_cases c11_2 : v2 = (2 : Int32)
    · replace h := o_t c11_2 h
      refine lv_tableIn (tgt := 55) hx hb dX10_stage_11 (by rw [c11_2]; decide) (by rw [c11_2]; decide) (by rw [c11_2]; rfl) (by decide) ?_
      refine lv_aload_n hx hb dX10_stage_55 rfl (lv_at hl 0 rfl) ?_
      replace h := o_b h; obtain ⟨x56, h56, h⟩ := h
      refine m_get (C := RX10) (T := TX10) (N := 25) (ci := 10) hx hb hts qi_X10_stage_X10 hown hK.1 hM 0 (ldR_F h56) rfl (by decide) (hts _ q_X10_stage_1) (fun _ h9 => h9) dX10_stage_56 ?_
      refine lv_bipush (v := (8 : Int32)) hx hb dX10_stage_59 (by decide) ?_
      refine lv_iload_n hx hb dX10_stage_61 rfl (lv_at hl 1 rfl) ?_
      refine lv_iadd hx hb dX10_stage_62 ?_
      replace h := o_b h; obtain ⟨x63, h63, h⟩ := h
      refine m_iald hx hb hK.1 hM hS rfl h63 dX10_stage_63 ?_
      replace h := Option.some.inj h; subst h
      exact W.iret hx hb hr (fun t ht hW => ⟨rfl, by rw [ht]; exact hM.moved hW.alike, hS.F ht⟩) hS.2.2 dX10_stage_64
    replace h := o_f c11_2 h
    by_cases c11_3 : v2 = (3 : Int32)
    · replace h := o_t c11_3 h
      refine lv_tableIn (tgt := 65) hx hb dX10_stage_11 (by rw [c11_3]; decide) (by rw [c11_3]; decide) (by rw [c11_3]; rfl) (by decide) ?_
      refine lv_aload_n hx hb dX10_stage_65 rfl (lv_at hl 0 rfl) ?_
      replace h := o_b h; obtain ⟨_, k66, h⟩ := h
      replace h := o_b h; obtain ⟨q66, h66, h⟩ := h
      refine m_call (va_runV (As := []) (rest := []) ⟨hx, hb, hml, hown, hts⟩ (c_X10_findsLike l D b0 sz h66) (cwV 0 hts gX10_stage_X10_findsLike rfl rfl rfl (by decide +kernel) ⟨Nat.le_of_ble_eq_true rfl, Nat.le_of_ble_eq_true rfl⟩) ⟨PW.blind, m_recv (ci := 10) rfl hK hM k66, (fun U hU hW => ⟨rfl, PW.call hK hM hS hU hW⟩)⟩ rfl rfl hl.1 rfl (lv_room (Nat.le_of_ble_eq_true rfl)) dX10_stage_66 ⟨(Nat.le_refl _), (Nat.le_refl _)⟩) hS (fun H locs hM hS => ?_)
      refine lv_aload_n hx hb dX10_stage_69 rfl (lv_at hl 0 rfl) ?_
      replace h := o_b h; obtain ⟨x70, h70, h⟩ := h
      refine m_get (C := RX10) (T := TX10) (N := 25) (ci := 10) hx hb hts qi_X10_stage_X10 hown hK.1 hM 5 (ldR_F h70) rfl (by decide) (hts _ q_X10_stage_2) (fun _ h9 => h9) dX10_stage_70 ?_
      refine lv_iload_n hx hb dX10_stage_73 rfl (lv_at hl 1 rfl) ?_
      replace h := o_b h; obtain ⟨x74, h74, h⟩ := h
      refine m_iald hx hb hK.1 hM hS rfl h74 dX10_stage_74 ?_
      replace h := o_b h; obtain ⟨q75, h75, h⟩ := h
      refine m_call (va_runS (As := [.int x74]) (rest := []) ⟨hx, hb, hml, hown, hts⟩ (c_X10_lowest l D b0 sz h75) (va_cwS 1 hts gX10_stage_X10_lowest rfl rfl rfl (by decide +kernel) ⟨Nat.le_of_ble_eq_true rfl, Nat.le_of_ble_eq_true rfl⟩) ⟨PW.blind, (fun U hU hW => ⟨rfl, PW.call hK hM hS hU hW⟩)⟩ rfl rfl hl.1 rfl (lv_room (Nat.le_of_ble_eq_true rfl)) dX10_stage_75 ⟨(Nat.le_refl _), (Nat.le_refl _)⟩) hS (fun H locs hM hS => ?_)
      replace h := Option.some.inj h; subst h
      exact W.iret hx hb hr (fun t ht hW => ⟨rfl, by rw [ht]; exact hM.moved hW.alike, hS.F ht⟩) hS.2.2 dX10_stage_78
    replace h := o_f c11_3 h
    refine lv_tableOut (tgt := 79) hx hb dX10_stage_11 (by have n0 := lv_neT c11_0 (a := 0) (by decide); have n1 := lv_neT c11_1 (a := 1) (by decide); have n2 := lv_neT c11_2 (a := 2) (by decide); have n3 := lv_neT c11_3 (a := 3) (by decide); omega) (by decide) ?_
    refine lv_bipush (v := (-2 : Int32)) hx hb dX10_stage_79 (by decide) ?_
    replace h := Option.some.inj h; subst h
    exact W.iret hx hb hr (fun t ht hW => ⟨rfl, by rw [ht]; exact hM.moved hW.alike, hS.F ht⟩) hS.2.2 dX10_stage_81
  replace h := o_f c5 h
  refine lv_iconst (v := (-1 : Int32)) hx hb dX10_stage_8 (by decide) ?_
  replace h := Option.some.inj h; subst h
  exact W.iret hx hb hr (fun t ht hW => ⟨rfl, by rw [ht]; exact hM.moved hW.alike, hS.F ht⟩) hS.2.2 dX10_stage_9
set_option maxHeartbeats 4000000 in
set_option maxRecDepth 100000 in
theorem c_X10_stage (l : Launch) (D : mmD) (b0 sz : Nat) {v0 : Nat} {v1 : Int32} {v2 : Int32} {f : mmF} {res : Int32 × mmF} (h : f_X10_stage v0 v1 v2 f = some res) : Met l yX10_stage wsX10_stage ({ frames := 3, cells := 0, slots := 0, locals := 69 } : Room) (va_Pc [.ref v0, .int v1, .int v2] (PW D b0 f sz)) (QW D b0 (some (.int res.1)) res.2 sz) 0 0 (fun q => b0 ≤ q) := by
  refine Met.ofW (cc := cX10_stage) (maxL := 3) (ret := (some .int)) (by decide) rfl ?_
  intro p e s m args below meth c s₁ B hml hv
  obtain ⟨rfl, hM, hK⟩ := hv
  have hl := lv_entry ([.ref v0, .int v1, .int v2]) (n := 3) (Nat.le_of_ble_eq_true rfl)
  rw [lg_entry_eq]
  generalize (lg_sl ([.ref v0, .int v1, .int v2]) ++ List.replicate (3 - (lg_sl ([.ref v0, .int v1, .int v2])).length) Slot.unset).toArray = ls at hl ⊢
  have hl : lv_has ls 3 [(0, .ref v0), (1, .int v1), (2, .int v2)] := hl
  exact w_X10_stage ⟨B.exec, B.bytes, B.returns, hml, findClass_of_methodNamed B.named, atoms_spec (ws := wsX10_stage) B.pre, B.notSynchronized, hK⟩ h s.heap [] ls hM va_S.rf hl
end S_X10_stage
/-! X10_alike -/
set_option maxRecDepth 20000 in
theorem qi_X10_alike_X10 : ∀ w ∈ u_ws RX10 TX10 25, w ∈ wsX10_alike := by decide +kernel
set_option maxRecDepth 20000 in
theorem q_X10_alike_1 : Cond.fieldLink RX10 19 "StageTruthsModel" "like" "[I" ∈ wsX10_alike := by decide +kernel
noncomputable def f_X10_alike (v0 : Nat) (v1 : Int32) (v2 : Int32) (f : mmF) : Option (Int32 × mmF) :=
  (ckO f v0 10).bind fun _ =>
  (f_X10_noStage v0 v1 f).bind fun q2 =>
  if q2 = 0 then
  ((ckO f v0 10).bind fun _ =>
  (f_X10_noStage v0 v2 f).bind fun q10 =>
  if q10 = 0 then
  ((ckO f v0 10).bind fun _ =>
  (f_X10_findsLike v0 f).bind fun q19 =>
  (ldR q19 v0 10 5).bind fun x23 =>
  (ldA 0 q19 x23 v1).bind fun x27 =>
  some (((x27 >>> (v2 &&& 31)) &&& (1 : Int32)), q19))
  else
  some ((-1 : Int32), f))
  else
  some ((-1 : Int32), f)
section S_X10_alike
variable {p : Program} {l : Launch} {e : Env} {s : State} {m : MethodId} {args : Array Value} {below : List Frame} {meth : Method} {c : Code} {D : mmD} {b0 sz : Nat} {f : mmF}
set_option maxHeartbeats 4000000 in
set_option maxRecDepth 100000 in
theorem w_X10_alike (C0 : CX cX10_alike 3 (some .int) wsX10_alike RX10 p s m args meth c D b0) {v0 : Nat} {v1 : Int32} {v2 : Int32} {res : Int32 × mmF} (h : f_X10_alike v0 v1 v2 f = some res) : ∀ (H : Heap) (locs : List Loc) (ls : Array Slot), MM vwCl D b0 f sz s H → mS b0 s H locs → lv_has ls 3 [(0, .ref v0), (1, .int v1), (2, .int v2)] → W p l e ({ frames := 3, cells := 0, slots := 0, locals := 69 } : Room) s m args below meth c H locs 0 0 (MQ below (QW D b0 (some (.int res.1)) res.2 sz) args s 0 0 (fun q => b0 ≤ q)) (F0 m 0 ls []) := by
  obtain ⟨hx, hb, hr, hml, hown, hts, hlocks, hK⟩ := id C0
  intro H locs ls hM hS hl
  unfold f_X10_alike at h
  refine lv_aload_n hx hb dX10_alike_0 rfl (lv_at hl 0 rfl) ?_
  refine lv_iload_n hx hb dX10_alike_1 rfl (lv_at hl 1 rfl) ?_
  replace h := o_b h; obtain ⟨_, k2, h⟩ := h
  replace h := o_b h; obtain ⟨q2, h2, h⟩ := h
  refine m_call (va_runV (As := [.int v1]) (rest := []) ⟨hx, hb, hml, hown, hts⟩ (c_X10_noStage l D b0 sz h2) (cwV 1 hts gX10_alike_X10_noStage rfl rfl rfl (by decide +kernel) ⟨Nat.le_of_ble_eq_true rfl, Nat.le_of_ble_eq_true rfl⟩) ⟨PW.blind, m_recv (ci := 10) rfl hK hM k2, (fun U hU hW => ⟨rfl, PW.call hK hM hS hU hW⟩)⟩ rfl rfl hl.1 rfl (lv_room (Nat.le_of_ble_eq_true rfl)) dX10_alike_2 ⟨(Nat.le_refl _), (Nat.le_refl _)⟩) hS (fun H locs hM hS => ?_)
  refine lv_if_ne (tgt := 16) hx hb dX10_alike_5 (by decide) (fun c5 => ?_) (fun c5 => ?_)
  · replace h := o_f c5 h
    refine lv_iconst (v := (-1 : Int32)) hx hb dX10_alike_16 (by decide) ?_
    replace h := Option.some.inj h; subst h
    exact W.iret hx hb hr (fun t ht hW => ⟨rfl, by rw [ht]; exact hM.moved hW.alike, hS.F ht⟩) hS.2.2 dX10_alike_17
  replace h := o_t c5 h
  refine lv_aload_n hx hb dX10_alike_8 rfl (lv_at hl 0 rfl) ?_
  refine lv_iload_n hx hb dX10_alike_9 rfl (lv_at hl 2 rfl) ?_
  replace h := o_b h; obtain ⟨_, k10, h⟩ := h
  replace h := o_b h; obtain ⟨q10, h10, h⟩ := h
  refine m_call (va_runV (As := [.int v2]) (rest := []) ⟨hx, hb, hml, hown, hts⟩ (c_X10_noStage l D b0 sz h10) (cwV 1 hts gX10_alike_X10_noStage rfl rfl rfl (by decide +kernel) ⟨Nat.le_of_ble_eq_true rfl, Nat.le_of_ble_eq_true rfl⟩) ⟨PW.blind, m_recv (ci := 10) rfl hK hM k10, (fun U hU hW => ⟨rfl, PW.call hK hM hS hU hW⟩)⟩ rfl rfl hl.1 rfl (lv_room (Nat.le_of_ble_eq_true rfl)) dX10_alike_10 ⟨(Nat.le_refl _), (Nat.le_refl _)⟩) hS (fun H locs hM hS => ?_)
  refine lv_if_eq (tgt := 18) hx hb dX10_alike_13 (by decide) (fun c13 => ?_) (fun c13 => ?_)
  · replace h := o_t c13 h
    refine lv_aload_n hx hb dX10_alike_18 rfl (lv_at hl 0 rfl) ?_
    replace h := o_b h; obtain ⟨_, k19, h⟩ := h
    replace h := o_b h; obtain ⟨q19, h19, h⟩ := h
    refine m_call (va_runV (As := []) (rest := []) ⟨hx, hb, hml, hown, hts⟩ (c_X10_findsLike l D b0 sz h19) (cwV 0 hts gX10_alike_X10_findsLike rfl rfl rfl (by decide +kernel) ⟨Nat.le_of_ble_eq_true rfl, Nat.le_of_ble_eq_true rfl⟩) ⟨PW.blind, m_recv (ci := 10) rfl hK hM k19, (fun U hU hW => ⟨rfl, PW.call hK hM hS hU hW⟩)⟩ rfl rfl hl.1 rfl (lv_room (Nat.le_of_ble_eq_true rfl)) dX10_alike_19 ⟨(Nat.le_refl _), (Nat.le_refl _)⟩) hS (fun H locs hM hS => ?_)
    refine lv_aload_n hx hb dX10_alike_22 rfl (lv_at hl 0 rfl) ?_
    replace h := o_b h; obtain ⟨x23, h23, h⟩ := h
    refine m_get (C := RX10) (T := TX10) (N := 25) (ci := 10) hx hb hts qi_X10_alike_X10 hown hK.1 hM 5 (ldR_F h23) rfl (by decide) (hts _ q_X10_alike_1) (fun _ h9 => h9) dX10_alike_23 ?_
    refine lv_iload_n hx hb dX10_alike_26 rfl (lv_at hl 1 rfl) ?_
    replace h := o_b h; obtain ⟨x27, h27, h⟩ := h
    refine m_iald hx hb hK.1 hM hS rfl h27 dX10_alike_27 ?_
    refine lv_iload_n hx hb dX10_alike_28 rfl (lv_at hl 2 rfl) ?_
    refine lv_ishr hx hb dX10_alike_29 ?_
    refine lv_iconst (v := (1 : Int32)) hx hb dX10_alike_30 (by decide) ?_
    refine lv_iand hx hb dX10_alike_31 ?_
    replace h := Option.some.inj h; subst h
    exact W.iret hx hb hr (fun t ht hW => ⟨rfl, by rw [ht]; exact hM.moved hW.alike, hS.F ht⟩) hS.2.2 dX10_alike_32
  replace h := o_f c13 h
  refine lv_iconst (v := (-1 : Int32)) hx hb dX10_alike_16 (by decide) ?_
  replace h := Option.some.inj h; subst h
  exact W.iret hx hb hr (fun t ht hW => ⟨rfl, by rw [ht]; exact hM.moved hW.alike, hS.F ht⟩) hS.2.2 dX10_alike_17
set_option maxHeartbeats 4000000 in
set_option maxRecDepth 100000 in
theorem c_X10_alike (l : Launch) (D : mmD) (b0 sz : Nat) {v0 : Nat} {v1 : Int32} {v2 : Int32} {f : mmF} {res : Int32 × mmF} (h : f_X10_alike v0 v1 v2 f = some res) : Met l yX10_alike wsX10_alike ({ frames := 3, cells := 0, slots := 0, locals := 69 } : Room) (va_Pc [.ref v0, .int v1, .int v2] (PW D b0 f sz)) (QW D b0 (some (.int res.1)) res.2 sz) 0 0 (fun q => b0 ≤ q) := by
  refine Met.ofW (cc := cX10_alike) (maxL := 3) (ret := (some .int)) (by decide) rfl ?_
  intro p e s m args below meth c s₁ B hml hv
  obtain ⟨rfl, hM, hK⟩ := hv
  have hl := lv_entry ([.ref v0, .int v1, .int v2]) (n := 3) (Nat.le_of_ble_eq_true rfl)
  rw [lg_entry_eq]
  generalize (lg_sl ([.ref v0, .int v1, .int v2]) ++ List.replicate (3 - (lg_sl ([.ref v0, .int v1, .int v2])).length) Slot.unset).toArray = ls at hl ⊢
  have hl : lv_has ls 3 [(0, .ref v0), (1, .int v1), (2, .int v2)] := hl
  exact w_X10_alike ⟨B.exec, B.bytes, B.returns, hml, findClass_of_methodNamed B.named, atoms_spec (ws := wsX10_alike) B.pre, B.notSynchronized, hK⟩ h s.heap [] ls hM va_S.rf hl
end S_X10_alike
/-! X10_finds -/
set_option maxRecDepth 20000 in
theorem qi_X10_finds_X10 : ∀ w ∈ u_ws RX10 TX10 25, w ∈ wsX10_finds := by decide +kernel
set_option maxRecDepth 20000 in
theorem q_X10_finds_1 : Cond.fieldLink RX10 7 "StageTruthsModel" "now" "[I" ∈ wsX10_finds := by decide +kernel
set_option maxRecDepth 20000 in
theorem q_X10_finds_2 : Cond.fieldLink RX10 63 "StageTruthsModel" "start" "[I" ∈ wsX10_finds := by decide +kernel
noncomputable def f_X10_finds_79 (k10 : Nat → Int32 → Int32 → mmF → Option (mmF))  (v0 : Nat) (v2 : Int32) (v3 : Int32) (t0 : Nat) (t1 : Int32) (t2 : Int32) (f : mmF) : Option (mmF) :=
  (stA 0 f t0 t1 t2).bind fun f79 =>
  k10 v0 v2 (v3 + (1 : Int32)) f79
noncomputable def f_X10_finds_10   : Nat → Nat → Int32 → Int32 → mmF → Option (mmF)
  | 0, _, _, _, _ => none
  | n + 1, v0, v2, v3, f =>
    (ldR f v0 10 0).bind fun x12 =>
    (ldA 0 f x12 v2).bind fun x16 =>
    if x16 < v3 then
    (some (f))
    else
    (ldR f v0 10 0).bind fun x21 =>
    (ldA 0 f x21 (v2 + v3)).bind fun x27 =>
    (ldR f v0 10 24).bind fun x31 =>
    if (6 : Int32) ≤ x27 then
    (if x27 = (6 : Int32) then
    ((ldR f v0 10 24).bind fun x54 =>
    (ldA 0 f x54 (v3 - (1 : Int32))).bind fun x60 =>
    f_X10_finds_79 (fun a0 a1 a2 a3 => f_X10_finds_10 n a0 a1 a2 a3) v0 v2 v3 x31 v3 x60 f)
    else
    (ldR f v0 10 24).bind fun x65 =>
    (ldR f v0 10 24).bind fun x69 =>
    (ldA 0 f x69 (v3 - (1 : Int32))).bind fun x75 =>
    (ldA 0 f x65 (x75 - (1 : Int32))).bind fun x78 =>
    f_X10_finds_79 (fun a0 a1 a2 a3 => f_X10_finds_10 n a0 a1 a2 a3) v0 v2 v3 x31 v3 x78 f)
    else
    f_X10_finds_79 (fun a0 a1 a2 a3 => f_X10_finds_10 n a0 a1 a2 a3) v0 v2 v3 x31 v3 v3 f
noncomputable def f_X10_finds (v0 : Nat) (v1 : Int32) (f : mmF) : Option (mmF) :=
  f_X10_finds_10 FU v0 ((17 : Int32) + ((31 : Int32) * v1)) (1 : Int32) f
section S_X10_finds
variable {p : Program} {l : Launch} {e : Env} {s : State} {m : MethodId} {args : Array Value} {below : List Frame} {meth : Method} {c : Code} {D : mmD} {b0 sz : Nat} {f : mmF}
set_option maxHeartbeats 4000000 in
set_option maxRecDepth 100000 in
theorem w_X10_finds_79 (C0 : CX cX10_finds 5 none wsX10_finds RX10 p s m args meth c D b0) {k10 : Nat → Int32 → Int32 → mmF → Option (mmF)} {res : mmF} (hk10 : ∀ (v0 : Nat) (v2 : Int32) (v3 : Int32) (f : mmF), k10 v0 v2 v3 f = some res → ∀ (H : Heap) (locs : List Loc) (ls : Array Slot), MM vwCl D b0 f sz s H → mS b0 s H locs → lv_has ls 5 [(0, .ref v0), (2, .int v2), (3, .int v3)] → W p l e ({ frames := 0, cells := 0, slots := 0, locals := 0 } : Room) s m args below meth c H locs 0 0 (MQ below (QW D b0 none res sz) args s 0 0 (fun q => b0 ≤ q)) (F0 m 10 ls [])) : ∀ (v0 : Nat) (v2 : Int32) (v3 : Int32) (t0 : Nat) (t1 : Int32) (t2 : Int32) (f : mmF), f_X10_finds_79 k10 v0 v2 v3 t0 t1 t2 f = some res → ∀ (H : Heap) (locs : List Loc) (ls : Array Slot), MM vwCl D b0 f sz s H → mS b0 s H locs → lv_has ls 5 [(0, .ref v0), (2, .int v2), (3, .int v3)] → W p l e ({ frames := 0, cells := 0, slots := 0, locals := 0 } : Room) s m args below meth c H locs 0 0 (MQ below (QW D b0 none res sz) args s 0 0 (fun q => b0 ≤ q)) (F0 m 79 ls [.int t2, .int t1, .ref t0]) := by
  obtain ⟨hx, hb, hr, hml, hown, hts, hlocks, hK⟩ := id C0
  intro v0 v2 v3 t0 t1 t2 f h H locs ls hM hS hl
  unfold f_X10_finds_79 at h
  replace h := o_b h; obtain ⟨f79, h79, h⟩ := h
  refine m_iast hx hb hK.1 hM hS rfl h79 dX10_finds_79 (fun H locs hM hS => ?_)
  refine lv_iinc (v := (v3 + (1 : Int32))) (lv' := [(3, .int (v3 + (1 : Int32))), (0, .ref v0), (2, .int v2)]) hx hb dX10_finds_80 hl (k := 2) rfl rfl (by decide) rfl (fun ls hl => ?_)
  refine lv_goto (tgt := 10) hx hb dX10_finds_83 (by decide) ?_
  exact hk10 _ _ _ _ h _ _ _ hM hS (lv_sub hl [1, 2, 0] rfl)
set_option maxHeartbeats 4000000 in
set_option maxRecDepth 100000 in
theorem w_X10_finds_10 (C0 : CX cX10_finds 5 none wsX10_finds RX10 p s m args meth c D b0) {res : mmF} : ∀ (n : Nat), ∀ (v0 : Nat) (v2 : Int32) (v3 : Int32) (f : mmF), f_X10_finds_10 n v0 v2 v3 f = some res → ∀ (H : Heap) (locs : List Loc) (ls : Array Slot), MM vwCl D b0 f sz s H → mS b0 s H locs → lv_has ls 5 [(0, .ref v0), (2, .int v2), (3, .int v3)] → W p l e ({ frames := 0, cells := 0, slots := 0, locals := 0 } : Room) s m args below meth c H locs 0 0 (MQ below (QW D b0 none res sz) args s 0 0 (fun q => b0 ≤ q)) (F0 m 10 ls []) := by
  obtain ⟨hx, hb, hr, hml, hown, hts, hlocks, hK⟩ := id C0
  intro n
  induction n with
  | zero =>
    intro v0 v2 v3 f h
    have h : (none : Option (mmF)) = some res := h
    cases h
  | succ n ih =>
    intro v0 v2 v3 f h H locs ls hM hS hl
    rw [f_X10_finds_10] at h
    refine lv_iload_n hx hb dX10_finds_10 rfl (lv_at hl 2 rfl) ?_
    refine lv_aload_n hx hb dX10_finds_11 rfl (lv_at hl 0 rfl) ?_
    replace h := o_b h; obtain ⟨x12, h12, h⟩ := h
    refine m_get (C := RX10) (T := TX10) (N := 25) (ci := 10) hx hb hts qi_X10_finds_X10 hown hK.1 hM 0 (ldR_F h12) rfl (by decide) (hts _ q_X10_finds_1) (fun _ h9 => h9) dX10_finds_12 ?_
    refine lv_iload_n hx hb dX10_finds_15 rfl (lv_at hl 1 rfl) ?_
    replace h := o_b h; obtain ⟨x16, h16, h⟩ := h
    refine m_iald hx hb hK.1 hM hS rfl h16 dX10_finds_16 ?_
    refine lv_icmp_gt (tgt := 86) hx hb dX10_finds_17 (by decide) (fun c17 => ?_) (fun c17 => ?_)
    · replace h := o_t c17 h
      replace h := Option.some.inj h; subst h
      exact W.vret hx hb hr (fun t ht hW => ⟨rfl, by rw [ht]; exact hM.moved hW.alike, hS.F ht⟩) hS.2.2 dX10_finds_86
    replace h := o_f c17 h
    refine lv_aload_n hx hb dX10_finds_20 rfl (lv_at hl 0 rfl) ?_
    replace h := o_b h; obtain ⟨x21, h21, h⟩ := h
    refine m_get (C := RX10) (T := TX10) (N := 25) (ci := 10) hx hb hts qi_X10_finds_X10 hown hK.1 hM 0 (ldR_F h21) rfl (by decide) (hts _ q_X10_finds_1) (fun _ h9 => h9) dX10_finds_21 ?_
    refine lv_iload_n hx hb dX10_finds_24 rfl (lv_at hl 1 rfl) ?_
    refine lv_iload_n hx hb dX10_finds_25 rfl (lv_at hl 2 rfl) ?_
    refine lv_iadd hx hb dX10_finds_26 ?_
    replace h := o_b h; obtain ⟨x27, h27, h⟩ := h
    refine m_iald hx hb hK.1 hM hS rfl h27 dX10_finds_27 ?_
    refine lv_istore (lv' := [(4, .int x27), (0, .ref v0), (2, .int v2), (3, .int v3)]) hx hb dX10_finds_28 hl (by decide) rfl (fun ls hl => ?_)
    refine lv_aload_n hx hb dX10_finds_30 rfl (lv_at hl 1 rfl) ?_
    replace h := o_b h; obtain ⟨x31, h31, h⟩ := h
    refine m_get (C := RX10) (T := TX10) (N := 25) (ci := 10) hx hb hts qi_X10_finds_X10 hown hK.1 hM 24 (ldR_F h31) rfl (by decide) (hts _ q_X10_finds_2) (fun _ h9 => h9) dX10_finds_31 ?_
    refine lv_iload_n hx hb dX10_finds_34 rfl (lv_at hl 3 rfl) ?_
    refine lv_iload hx hb dX10_finds_35 (lv_at hl 0 rfl) ?_
    refine lv_bipush (v := (6 : Int32)) hx hb dX10_finds_37 (by decide) ?_
    refine lv_icmp_ge (tgt := 46) hx hb dX10_finds_39 (by decide) (fun c39 => ?_) (fun c39 => ?_)
    · replace h := o_t c39 h
      refine lv_iload hx hb dX10_finds_46 (lv_at hl 0 rfl) ?_
      refine lv_bipush (v := (6 : Int32)) hx hb dX10_finds_48 (by decide) ?_
      refine lv_icmp_ne (tgt := 64) hx hb dX10_finds_50 (by decide) (fun c50 => ?_) (fun c50 => ?_)
      · replace h := o_f c50 h
        refine lv_aload_n hx hb dX10_finds_64 rfl (lv_at hl 1 rfl) ?_
        replace h := o_b h; obtain ⟨x65, h65, h⟩ := h
        refine m_get (C := RX10) (T := TX10) (N := 25) (ci := 10) hx hb hts qi_X10_finds_X10 hown hK.1 hM 24 (ldR_F h65) rfl (by decide) (hts _ q_X10_finds_2) (fun _ h9 => h9) dX10_finds_65 ?_
        refine lv_aload_n hx hb dX10_finds_68 rfl (lv_at hl 1 rfl) ?_
        replace h := o_b h; obtain ⟨x69, h69, h⟩ := h
        refine m_get (C := RX10) (T := TX10) (N := 25) (ci := 10) hx hb hts qi_X10_finds_X10 hown hK.1 hM 24 (ldR_F h69) rfl (by decide) (hts _ q_X10_finds_2) (fun _ h9 => h9) dX10_finds_69 ?_
        refine lv_iload_n hx hb dX10_finds_72 rfl (lv_at hl 3 rfl) ?_
        refine lv_iconst (v := (1 : Int32)) hx hb dX10_finds_73 (by decide) ?_
        refine lv_isub hx hb dX10_finds_74 ?_
        replace h := o_b h; obtain ⟨x75, h75, h⟩ := h
        refine m_iald hx hb hK.1 hM hS rfl h75 dX10_finds_75 ?_
        refine lv_iconst (v := (1 : Int32)) hx hb dX10_finds_76 (by decide) ?_
        refine lv_isub hx hb dX10_finds_77 ?_
        replace h := o_b h; obtain ⟨x78, h78, h⟩ := h
        refine m_iald hx hb hK.1 hM hS rfl h78 dX10_finds_78 ?_
        exact w_X10_finds_79 C0 ih _ _ _ _ _ _ _ h _ _ _ hM hS (lv_sub hl [1, 2, 3] rfl)
      replace h := o_t c50 h
      refine lv_aload_n hx hb dX10_finds_53 rfl (lv_at hl 1 rfl) ?_
      replace h := o_b h; obtain ⟨x54, h54, h⟩ := h
      refine m_get (C := RX10) (T := TX10) (N := 25) (ci := 10) hx hb hts qi_X10_finds_X10 hown hK.1 hM 24 (ldR_F h54) rfl (by decide) (hts _ q_X10_finds_2) (fun _ h9 => h9) dX10_finds_54 ?_
      refine lv_iload_n hx hb dX10_finds_57 rfl (lv_at hl 3 rfl) ?_
      refine lv_iconst (v := (1 : Int32)) hx hb dX10_finds_58 (by decide) ?_
      refine lv_isub hx hb dX10_finds_59 ?_
      replace h := o_b h; obtain ⟨x60, h60, h⟩ := h
      refine m_iald hx hb hK.1 hM hS rfl h60 dX10_finds_60 ?_
      refine lv_goto (tgt := 79) hx hb dX10_finds_61 (by decide) ?_
      exact w_X10_finds_79 C0 ih _ _ _ _ _ _ _ h _ _ _ hM hS (lv_sub hl [1, 2, 3] rfl)
    replace h := o_f c39 h
    refine lv_iload_n hx hb dX10_finds_42 rfl (lv_at hl 3 rfl) ?_
    refine lv_goto (tgt := 79) hx hb dX10_finds_43 (by decide) ?_
    exact w_X10_finds_79 C0 ih _ _ _ _ _ _ _ h _ _ _ hM hS (lv_sub hl [1, 2, 3] rfl)
set_option maxHeartbeats 4000000 in
set_option maxRecDepth 100000 in
theorem w_X10_finds (C0 : CX cX10_finds 5 none wsX10_finds RX10 p s m args meth c D b0) {v0 : Nat} {v1 : Int32} {res : mmF} (h : f_X10_finds v0 v1 f = some res) : ∀ (H : Heap) (locs : List Loc) (ls : Array Slot), MM vwCl D b0 f sz s H → mS b0 s H locs → lv_has ls 5 [(0, .ref v0), (1, .int v1)] → W p l e ({ frames := 0, cells := 0, slots := 0, locals := 0 } : Room) s m args below meth c H locs 0 0 (MQ below (QW D b0 none res sz) args s 0 0 (fun q => b0 ≤ q)) (F0 m 0 ls []) := by
  obtain ⟨hx, hb, hr, hml, hown, hts, hlocks, hK⟩ := id C0
  intro H locs ls hM hS hl
  unfold f_X10_finds at h
  refine lv_bipush (v := (17 : Int32)) hx hb dX10_finds_0 (by decide) ?_
  refine lv_bipush (v := (31 : Int32)) hx hb dX10_finds_2 (by decide) ?_
  refine lv_iload_n hx hb dX10_finds_4 rfl (lv_at hl 1 rfl) ?_
  refine lv_imul hx hb dX10_finds_5 ?_
  refine lv_iadd hx hb dX10_finds_6 ?_
  refine lv_istore_n (lv' := [(2, .int ((17 : Int32) + ((31 : Int32) * v1))), (0, .ref v0), (1, .int v1)]) hx hb dX10_finds_7 rfl hl (by decide) rfl (fun ls hl => ?_)
  refine lv_iconst (v := (1 : Int32)) hx hb dX10_finds_8 (by decide) ?_
  refine lv_istore_n (lv' := [(3, .int (1 : Int32)), (2, .int ((17 : Int32) + ((31 : Int32) * v1))), (0, .ref v0), (1, .int v1)]) hx hb dX10_finds_9 rfl hl (by decide) rfl (fun ls hl => ?_)
  exact w_X10_finds_10 C0 FU _ _ _ _ h _ _ _ hM hS (lv_sub hl [2, 1, 0] rfl)
set_option maxHeartbeats 4000000 in
set_option maxRecDepth 100000 in
theorem c_X10_finds (l : Launch) (D : mmD) (b0 sz : Nat) {v0 : Nat} {v1 : Int32} {f : mmF} {res : mmF} (h : f_X10_finds v0 v1 f = some res) : Met l yX10_finds wsX10_finds ({ frames := 0, cells := 0, slots := 0, locals := 0 } : Room) (va_Pc [.ref v0, .int v1] (PW D b0 f sz)) (QW D b0 none res sz) 0 0 (fun q => b0 ≤ q) := by
  refine Met.ofW (cc := cX10_finds) (maxL := 5) (ret := none) (by decide) rfl ?_
  intro p e s m args below meth c s₁ B hml hv
  obtain ⟨rfl, hM, hK⟩ := hv
  have hl := lv_entry ([.ref v0, .int v1]) (n := 5) (Nat.le_of_ble_eq_true rfl)
  rw [lg_entry_eq]
  generalize (lg_sl ([.ref v0, .int v1]) ++ List.replicate (5 - (lg_sl ([.ref v0, .int v1])).length) Slot.unset).toArray = ls at hl ⊢
  have hl : lv_has ls 5 [(0, .ref v0), (1, .int v1)] := hl
  exact w_X10_finds ⟨B.exec, B.bytes, B.returns, hml, findClass_of_methodNamed B.named, atoms_spec (ws := wsX10_finds) B.pre, B.notSynchronized, hK⟩ h s.heap [] ls hM va_S.rf hl
end S_X10_finds
/-! X10_areSame -/
set_option maxRecDepth 20000 in
theorem qi_X10_areSame_X10 : ∀ w ∈ u_ws RX10 TX10 25, w ∈ wsX10_areSame := by decide +kernel
set_option maxRecDepth 20000 in
theorem q_X10_areSame_1 : Cond.fieldLink RX10 63 "StageTruthsModel" "start" "[I" ∈ wsX10_areSame := by decide +kernel
set_option maxRecDepth 20000 in
theorem q_X10_areSame_2 : Cond.fieldLink RX10 7 "StageTruthsModel" "now" "[I" ∈ wsX10_areSame := by decide +kernel
noncomputable def f_X10_areSame_87 (k29 : Nat → Int32 → Int32 → Int32 → Int32 → Int32 → Option (Int32)) (f : mmF) (v0 : Nat) (v1 : Int32) (v2 : Int32) (v3 : Int32) (v5 : Int32) (t0 : Int32) : Option (Int32) :=
  k29 v0 v1 v2 v3 t0 (v5 + (1 : Int32))
noncomputable def f_X10_areSame_29  (f : mmF) : Nat → Nat → Int32 → Int32 → Int32 → Int32 → Int32 → Option (Int32)
  | 0, _, _, _, _, _, _ => none
  | n + 1, v0, v1, v2, v3, v4, v5 =>
    (ldR f v0 10 24).bind fun x33 =>
    (ldA 0 f x33 v2).bind fun x37 =>
    if (v2 - x37) < v5 then
    ((rz v4).bind fun z97 =>
    some (z97))
    else
    if v4 = 0 then
    ((rz v4).bind fun z97 =>
    some (z97))
    else
    (ldR f v0 10 0).bind fun x48 =>
    (ldR f v0 10 24).bind fun x53 =>
    (ldA 0 f x53 v2).bind fun x57 =>
    (ldA 0 f x48 ((v1 + x57) + v5)).bind fun x62 =>
    (ldR f v0 10 0).bind fun x64 =>
    (ldR f v0 10 24).bind fun x69 =>
    (ldA 0 f x69 v3).bind fun x73 =>
    (ldA 0 f x64 ((v1 + x73) + v5)).bind fun x78 =>
    if x62 = x78 then
    (f_X10_areSame_87 (fun a0 a1 a2 a3 a4 a5 => f_X10_areSame_29 f n a0 a1 a2 a3 a4 a5) f v0 v1 v2 v3 v5 (1 : Int32))
    else
    f_X10_areSame_87 (fun a0 a1 a2 a3 a4 a5 => f_X10_areSame_29 f n a0 a1 a2 a3 a4 a5) f v0 v1 v2 v3 v5 (0 : Int32)
noncomputable def f_X10_areSame_24  (f : mmF) (v0 : Nat) (v1 : Int32) (v2 : Int32) (v3 : Int32) (t0 : Int32) : Option (Int32) :=
  f_X10_areSame_29 f FU v0 v1 v2 v3 t0 (0 : Int32)
noncomputable def f_X10_areSame (v0 : Nat) (v1 : Int32) (v2 : Int32) (v3 : Int32) (f : mmF) : Option (Int32) :=
  (ldR f v0 10 24).bind fun x2 =>
  (ldA 0 f x2 v2).bind fun x6 =>
  (ldR f v0 10 24).bind fun x10 =>
  (ldA 0 f x10 v3).bind fun x14 =>
  if (v2 - x6) = (v3 - x14) then
  (f_X10_areSame_24 f v0 v1 v2 v3 (1 : Int32))
  else
  f_X10_areSame_24 f v0 v1 v2 v3 (0 : Int32)
section S_X10_areSame
variable {p : Program} {l : Launch} {e : Env} {s : State} {m : MethodId} {args : Array Value} {below : List Frame} {meth : Method} {c : Code} {D : mmD} {b0 sz : Nat} {f : mmF}
set_option maxHeartbeats 4000000 in
set_option maxRecDepth 100000 in
theorem w_X10_areSame_87 (C0 : CX cX10_areSame 6 (some .boolean) wsX10_areSame RX10 p s m args meth c D b0) {k29 : Nat → Int32 → Int32 → Int32 → Int32 → Int32 → Option (Int32)} {res : Int32} (hk29 : ∀ (v0 : Nat) (v1 : Int32) (v2 : Int32) (v3 : Int32) (v4 : Int32) (v5 : Int32), k29 v0 v1 v2 v3 v4 v5 = some res → ∀ (H : Heap) (locs : List Loc) (ls : Array Slot), MM vwCl D b0 f sz s H → mS b0 s H locs → lv_has ls 6 [(0, .ref v0), (1, .int v1), (2, .int v2), (3, .int v3), (4, .int v4), (5, .int v5)] → W p l e ({ frames := 0, cells := 0, slots := 0, locals := 0 } : Room) s m args below meth c H locs 0 0 (MQ below (QW D b0 (some (.int res)) f sz) args s 0 0 (fun q => b0 ≤ q)) (F0 m 29 ls [])) : ∀ (v0 : Nat) (v1 : Int32) (v2 : Int32) (v3 : Int32) (v5 : Int32) (t0 : Int32), f_X10_areSame_87 k29 f v0 v1 v2 v3 v5 t0 = some res → ∀ (H : Heap) (locs : List Loc) (ls : Array Slot), MM vwCl D b0 f sz s H → mS b0 s H locs → lv_has ls 6 [(0, .ref v0), (1, .int v1), (2, .int v2), (3, .int v3), (5, .int v5)] → W p l e ({ frames := 0, cells := 0, slots := 0, locals := 0 } : Room) s m args below meth c H locs 0 0 (MQ below (QW D b0 (some (.int res)) f sz) args s 0 0 (fun q => b0 ≤ q)) (F0 m 87 ls [.int t0]) := by
  obtain ⟨hx, hb, hr, hml, hown, hts, hlocks, hK⟩ := id C0
  intro v0 v1 v2 v3 v5 t0 h H locs ls hM hS hl
  unfold f_X10_areSame_87 at h
  refine lv_istore (lv' := [(4, .int t0), (0, .ref v0), (1, .int v1), (2, .int v2), (3, .int v3), (5, .int v5)]) hx hb dX10_areSame_87 hl (by decide) rfl (fun ls hl => ?_)
  refine lv_iinc (v := (v5 + (1 : Int32))) (lv' := [(5, .int (v5 + (1 : Int32))), (4, .int t0), (0, .ref v0), (1, .int v1), (2, .int v2), (3, .int v3)]) hx hb dX10_areSame_89 hl (k := 5) rfl rfl (by decide) rfl (fun ls hl => ?_)
  refine lv_goto (tgt := 29) hx hb dX10_areSame_92 (by decide) ?_
  exact hk29 _ _ _ _ _ _ h _ _ _ hM hS (lv_sub hl [2, 3, 4, 5, 1, 0] rfl)
set_option maxHeartbeats 4000000 in
set_option maxRecDepth 100000 in
theorem w_X10_areSame_29 (C0 : CX cX10_areSame 6 (some .boolean) wsX10_areSame RX10 p s m args meth c D b0) {res : Int32} : ∀ (n : Nat), ∀ (v0 : Nat) (v1 : Int32) (v2 : Int32) (v3 : Int32) (v4 : Int32) (v5 : Int32), f_X10_areSame_29 f n v0 v1 v2 v3 v4 v5 = some res → ∀ (H : Heap) (locs : List Loc) (ls : Array Slot), MM vwCl D b0 f sz s H → mS b0 s H locs → lv_has ls 6 [(0, .ref v0), (1, .int v1), (2, .int v2), (3, .int v3), (4, .int v4), (5, .int v5)] → W p l e ({ frames := 0, cells := 0, slots := 0, locals := 0 } : Room) s m args below meth c H locs 0 0 (MQ below (QW D b0 (some (.int res)) f sz) args s 0 0 (fun q => b0 ≤ q)) (F0 m 29 ls []) := by
  obtain ⟨hx, hb, hr, hml, hown, hts, hlocks, hK⟩ := id C0
  intro n
  induction n with
  | zero =>
    intro v0 v1 v2 v3 v4 v5 h
    have h : (none : Option (Int32)) = some res := h
    cases h
  | succ n ih =>
    intro v0 v1 v2 v3 v4 v5 h H locs ls hM hS hl
    rw [f_X10_areSame_29] at h
    refine lv_iload hx hb dX10_areSame_29 (lv_at hl 5 rfl) ?_
    refine lv_iload_n hx hb dX10_areSame_31 rfl (lv_at hl 2 rfl) ?_
    refine lv_aload_n hx hb dX10_areSame_32 rfl (lv_at hl 0 rfl) ?_
    replace h := o_b h; obtain ⟨x33, h33, h⟩ := h
    refine m_get (C := RX10) (T := TX10) (N := 25) (ci := 10) hx hb hts qi_X10_areSame_X10 hown hK.1 hM 24 (ldR_F h33) rfl (by decide) (hts _ q_X10_areSame_1) (fun _ h9 => h9) dX10_areSame_33 ?_
    refine lv_iload_n hx hb dX10_areSame_36 rfl (lv_at hl 2 rfl) ?_
    replace h := o_b h; obtain ⟨x37, h37, h⟩ := h
    refine m_iald hx hb hK.1 hM hS rfl h37 dX10_areSame_37 ?_
    refine lv_isub hx hb dX10_areSame_38 ?_
    refine lv_icmp_gt (tgt := 95) hx hb dX10_areSame_39 (by decide) (fun c39 => ?_) (fun c39 => ?_)
    · replace h := o_t c39 h
      refine lv_iload hx hb dX10_areSame_95 (lv_at hl 4 rfl) ?_
      replace h := o_b h; obtain ⟨z97, hz97, h⟩ := h
      obtain ⟨ez97, nz97⟩ := rz_at hz97
      subst ez97
      replace h := Option.some.inj h; subst h
      exact W.zret hx hb hr nz97 (fun t ht hW => ⟨rfl, by rw [ht]; exact hM.moved hW.alike, hS.F ht⟩) hS.2.2 dX10_areSame_97
    replace h := o_f c39 h
    refine lv_iload hx hb dX10_areSame_42 (lv_at hl 4 rfl) ?_
    refine lv_if_eq (tgt := 95) hx hb dX10_areSame_44 (by decide) (fun c44 => ?_) (fun c44 => ?_)
    · replace h := o_t c44 h
      refine lv_iload hx hb dX10_areSame_95 (lv_at hl 4 rfl) ?_
      replace h := o_b h; obtain ⟨z97, hz97, h⟩ := h
      obtain ⟨ez97, nz97⟩ := rz_at hz97
      subst ez97
      replace h := Option.some.inj h; subst h
      exact W.zret hx hb hr nz97 (fun t ht hW => ⟨rfl, by rw [ht]; exact hM.moved hW.alike, hS.F ht⟩) hS.2.2 dX10_areSame_97
    replace h := o_f c44 h
    refine lv_aload_n hx hb dX10_areSame_47 rfl (lv_at hl 0 rfl) ?_
    replace h := o_b h; obtain ⟨x48, h48, h⟩ := h
    refine m_get (C := RX10) (T := TX10) (N := 25) (ci := 10) hx hb hts qi_X10_areSame_X10 hown hK.1 hM 0 (ldR_F h48) rfl (by decide) (hts _ q_X10_areSame_2) (fun _ h9 => h9) dX10_areSame_48 ?_
    refine lv_iload_n hx hb dX10_areSame_51 rfl (lv_at hl 1 rfl) ?_
    refine lv_aload_n hx hb dX10_areSame_52 rfl (lv_at hl 0 rfl) ?_
    replace h := o_b h; obtain ⟨x53, h53, h⟩ := h
    refine m_get (C := RX10) (T := TX10) (N := 25) (ci := 10) hx hb hts qi_X10_areSame_X10 hown hK.1 hM 24 (ldR_F h53) rfl (by decide) (hts _ q_X10_areSame_1) (fun _ h9 => h9) dX10_areSame_53 ?_
    refine lv_iload_n hx hb dX10_areSame_56 rfl (lv_at hl 2 rfl) ?_
    replace h := o_b h; obtain ⟨x57, h57, h⟩ := h
    refine m_iald hx hb hK.1 hM hS rfl h57 dX10_areSame_57 ?_
    refine lv_iadd hx hb dX10_areSame_58 ?_
    refine lv_iload hx hb dX10_areSame_59 (lv_at hl 5 rfl) ?_
    refine lv_iadd hx hb dX10_areSame_61 ?_
    replace h := o_b h; obtain ⟨x62, h62, h⟩ := h
    refine m_iald hx hb hK.1 hM hS rfl h62 dX10_areSame_62 ?_
    refine lv_aload_n hx hb dX10_areSame_63 rfl (lv_at hl 0 rfl) ?_
    replace h := o_b h; obtain ⟨x64, h64, h⟩ := h
    refine m_get (C := RX10) (T := TX10) (N := 25) (ci := 10) hx hb hts qi_X10_areSame_X10 hown hK.1 hM 0 (ldR_F h64) rfl (by decide) (hts _ q_X10_areSame_2) (fun _ h9 => h9) dX10_areSame_64 ?_
    refine lv_iload_n hx hb dX10_areSame_67 rfl (lv_at hl 1 rfl) ?_
    refine lv_aload_n hx hb dX10_areSame_68 rfl (lv_at hl 0 rfl) ?_
    replace h := o_b h; obtain ⟨x69, h69, h⟩ := h
    refine m_get (C := RX10) (T := TX10) (N := 25) (ci := 10) hx hb hts qi_X10_areSame_X10 hown hK.1 hM 24 (ldR_F h69) rfl (by decide) (hts _ q_X10_areSame_1) (fun _ h9 => h9) dX10_areSame_69 ?_
    refine lv_iload_n hx hb dX10_areSame_72 rfl (lv_at hl 3 rfl) ?_
    replace h := o_b h; obtain ⟨x73, h73, h⟩ := h
    refine m_iald hx hb hK.1 hM hS rfl h73 dX10_areSame_73 ?_
    refine lv_iadd hx hb dX10_areSame_74 ?_
    refine lv_iload hx hb dX10_areSame_75 (lv_at hl 5 rfl) ?_
    refine lv_iadd hx hb dX10_areSame_77 ?_
    replace h := o_b h; obtain ⟨x78, h78, h⟩ := h
    refine m_iald hx hb hK.1 hM hS rfl h78 dX10_areSame_78 ?_
    refine lv_icmp_ne (tgt := 86) hx hb dX10_areSame_79 (by decide) (fun c79 => ?_) (fun c79 => ?_)
    · replace h := o_f c79 h
      refine lv_iconst (v := (0 : Int32)) hx hb dX10_areSame_86 (by decide) ?_
      exact w_X10_areSame_87 C0 ih _ _ _ _ _ _ h _ _ _ hM hS (lv_sub hl [0, 1, 2, 3, 5] rfl)
    replace h := o_t c79 h
    refine lv_iconst (v := (1 : Int32)) hx hb dX10_areSame_82 (by decide) ?_
    refine lv_goto (tgt := 87) hx hb dX10_areSame_83 (by decide) ?_
    exact w_X10_areSame_87 C0 ih _ _ _ _ _ _ h _ _ _ hM hS (lv_sub hl [0, 1, 2, 3, 5] rfl)
set_option maxHeartbeats 4000000 in
set_option maxRecDepth 100000 in
theorem w_X10_areSame_24 (C0 : CX cX10_areSame 6 (some .boolean) wsX10_areSame RX10 p s m args meth c D b0) {res : Int32} : ∀ (v0 : Nat) (v1 : Int32) (v2 : Int32) (v3 : Int32) (t0 : Int32), f_X10_areSame_24 f v0 v1 v2 v3 t0 = some res → ∀ (H : Heap) (locs : List Loc) (ls : Array Slot), MM vwCl D b0 f sz s H → mS b0 s H locs → lv_has ls 6 [(0, .ref v0), (1, .int v1), (2, .int v2), (3, .int v3)] → W p l e ({ frames := 0, cells := 0, slots := 0, locals := 0 } : Room) s m args below meth c H locs 0 0 (MQ below (QW D b0 (some (.int res)) f sz) args s 0 0 (fun q => b0 ≤ q)) (F0 m 24 ls [.int t0]) := by
  obtain ⟨hx, hb, hr, hml, hown, hts, hlocks, hK⟩ := id C0
  intro v0 v1 v2 v3 t0 h H locs ls hM hS hl
  unfold f_X10_areSame_24 at h
  refine lv_istore (lv' := [(4, .int t0), (0, .ref v0), (1, .int v1), (2, .int v2), (3, .int v3)]) hx hb dX10_areSame_24 hl (by decide) rfl (fun ls hl => ?_)
  refine lv_iconst (v := (0 : Int32)) hx hb dX10_areSame_26 (by decide) ?_
  refine lv_istore (lv' := [(5, .int (0 : Int32)), (4, .int t0), (0, .ref v0), (1, .int v1), (2, .int v2), (3, .int v3)]) hx hb dX10_areSame_27 hl (by decide) rfl (fun ls hl => ?_)
  exact w_X10_areSame_29 C0 FU _ _ _ _ _ _ h _ _ _ hM hS (lv_sub hl [2, 3, 4, 5, 1, 0] rfl)
set_option maxHeartbeats 4000000 in
set_option maxRecDepth 100000 in
theorem w_X10_areSame (C0 : CX cX10_areSame 6 (some .boolean) wsX10_areSame RX10 p s m args meth c D b0) {v0 : Nat} {v1 : Int32} {v2 : Int32} {v3 : Int32} {res : Int32} (h : f_X10_areSame v0 v1 v2 v3 f = some res) : ∀ (H : Heap) (locs : List Loc) (ls : Array Slot), MM vwCl D b0 f sz s H → mS b0 s H locs → lv_has ls 6 [(0, .ref v0), (1, .int v1), (2, .int v2), (3, .int v3)] → W p l e ({ frames := 0, cells := 0, slots := 0, locals := 0 } : Room) s m args below meth c H locs 0 0 (MQ below (QW D b0 (some (.int res)) f sz) args s 0 0 (fun q => b0 ≤ q)) (F0 m 0 ls []) := by
  obtain ⟨hx, hb, hr, hml, hown, hts, hlocks, hK⟩ := id C0
  intro H locs ls hM hS hl
  unfold f_X10_areSame at h
  refine lv_iload_n hx hb dX10_areSame_0 rfl (lv_at hl 2 rfl) ?_
  refine lv_aload_n hx hb dX10_areSame_1 rfl (lv_at hl 0 rfl) ?_
  replace h := o_b h; obtain ⟨x2, h2, h⟩ := h
  refine m_get (C := RX10) (T := TX10) (N := 25) (ci := 10) hx hb hts qi_X10_areSame_X10 hown hK.1 hM 24 (ldR_F h2) rfl (by decide) (hts _ q_X10_areSame_1) (fun _ h9 => h9) dX10_areSame_2 ?_
  refine lv_iload_n hx hb dX10_areSame_5 rfl (lv_at hl 2 rfl) ?_
  replace h := o_b h; obtain ⟨x6, h6, h⟩ := h
  refine m_iald hx hb hK.1 hM hS rfl h6 dX10_areSame_6 ?_
  refine lv_isub hx hb dX10_areSame_7 ?_
  refine lv_iload_n hx hb dX10_areSame_8 rfl (lv_at hl 3 rfl) ?_
  refine lv_aload_n hx hb dX10_areSame_9 rfl (lv_at hl 0 rfl) ?_
  replace h := o_b h; obtain ⟨x10, h10, h⟩ := h
  refine m_get (C := RX10) (T := TX10) (N := 25) (ci := 10) hx hb hts qi_X10_areSame_X10 hown hK.1 hM 24 (ldR_F h10) rfl (by decide) (hts _ q_X10_areSame_1) (fun _ h9 => h9) dX10_areSame_10 ?_
  refine lv_iload_n hx hb dX10_areSame_13 rfl (lv_at hl 3 rfl) ?_
  replace h := o_b h; obtain ⟨x14, h14, h⟩ := h
  refine m_iald hx hb hK.1 hM hS rfl h14 dX10_areSame_14 ?_
  refine lv_isub hx hb dX10_areSame_15 ?_
  refine lv_icmp_ne (tgt := 23) hx hb dX10_areSame_16 (by decide) (fun c16 => ?_) (fun c16 => ?_)
  · replace h := o_f c16 h
    refine lv_iconst (v := (0 : Int32)) hx hb dX10_areSame_23 (by decide) ?_
    exact w_X10_areSame_24 C0 _ _ _ _ _ h _ _ _ hM hS (lv_sub hl [0, 1, 2, 3] rfl)
  replace h := o_t c16 h
  refine lv_iconst (v := (1 : Int32)) hx hb dX10_areSame_19 (by decide) ?_
  refine lv_goto (tgt := 24) hx hb dX10_areSame_20 (by decide) ?_
  exact w_X10_areSame_24 C0 _ _ _ _ _ h _ _ _ hM hS (lv_sub hl [0, 1, 2, 3] rfl)
set_option maxHeartbeats 4000000 in
set_option maxRecDepth 100000 in
theorem c_X10_areSame (l : Launch) (D : mmD) (b0 sz : Nat) {v0 : Nat} {v1 : Int32} {v2 : Int32} {v3 : Int32} {f : mmF} {res : Int32} (h : f_X10_areSame v0 v1 v2 v3 f = some res) : Met l yX10_areSame wsX10_areSame ({ frames := 0, cells := 0, slots := 0, locals := 0 } : Room) (va_Pc [.ref v0, .int v1, .int v2, .int v3] (PW D b0 f sz)) (QW D b0 (some (.int res)) f sz) 0 0 (fun q => b0 ≤ q) := by
  refine Met.ofW (cc := cX10_areSame) (maxL := 6) (ret := (some .boolean)) (by decide) rfl ?_
  intro p e s m args below meth c s₁ B hml hv
  obtain ⟨rfl, hM, hK⟩ := hv
  have hl := lv_entry ([.ref v0, .int v1, .int v2, .int v3]) (n := 6) (Nat.le_of_ble_eq_true rfl)
  rw [lg_entry_eq]
  generalize (lg_sl ([.ref v0, .int v1, .int v2, .int v3]) ++ List.replicate (6 - (lg_sl ([.ref v0, .int v1, .int v2, .int v3])).length) Slot.unset).toArray = ls at hl ⊢
  have hl : lv_has ls 6 [(0, .ref v0), (1, .int v1), (2, .int v2), (3, .int v3)] := hl
  exact w_X10_areSame ⟨B.exec, B.bytes, B.returns, hml, findClass_of_methodNamed B.named, atoms_spec (ws := wsX10_areSame) B.pre, B.notSynchronized, hK⟩ h s.heap [] ls hM va_S.rf hl
end S_X10_areSame
