/-! THE KIT'S ROWS OVER A MEMORY THAT IS A FUNCTION -/
section MROW
variable {p : Program} {l : Launch} {e : Env} {R : Room} {s : State} {m : MethodId} {args : Array Value} {below : List Frame} {meth : Method} {c : Code} {H : Heap} {locs : List Loc} {cells slots : Nat} {Q : State → Prop}
variable {cc : ByteArray} {pc : Nat} {ls : Array Slot} {rest : List Value} {cl : List vw_C} {D : mmD} {b0 sz : Nat} {f : mmF} {aty : Nat → FieldType} {a : Nat}
theorem m_one {e1 : va_E} (h : va_at D.1 cl (a, e1) H) : va_P D.1 cl [(a, e1)] H := fun k q hk => by
  have hz : k < 1 := (List.getElem?_eq_some_iff.mp hk).1
  rw [show k = 0 by omega] at hk
  cases hk
  exact h
theorem m_oneD {A : Nat → Prop} {e1 : va_E} (h : A a) : va_D A [(a, e1)] := ⟨fun i j x y hi hj _ => by
  have h1 : i < 1 := (List.getElem?_eq_some_iff.mp hi).1
  have h2 : j < 1 := (List.getElem?_eq_some_iff.mp hj).1
  omega, fun k q hk => by
  have hz : k < 1 := (List.getElem?_eq_some_iff.mp hk).1
  rw [show k = 0 by omega] at hk
  cases hk
  exact h⟩
theorem MM.obj {U : State} {ci : Nat} {fs : List Value} (h : MM cl D b0 f sz U H) (hf : f a = some (.inr (ci, fs))) : b0 ≤ a ∧ va_at D.1 cl (a, .inr (ci, fs)) H := by
  rcases h.2.2 a _ hf with ⟨n, g, h1, -⟩ | ⟨t, x, h1, -⟩ | ⟨o, h1, h2⟩
  · cases h1
  · cases h1
  · cases h1; exact h2
theorem MM.arr {U : State} {t : Nat} {x : vp_A} (h : MM cl D b0 f sz U H) (hf : f a = some (.inl (t, x))) (ht : t ≠ 9) : b0 ≤ a ∧ va_at D.1 cl (a, .inl (D.2 t, x)) H := by
  rcases h.2.2 a _ hf with ⟨n, g, h1, -⟩ | ⟨t1, x1, h1, -, h2⟩ | ⟨o, h1, h2⟩
  · cases h1; exact absurd rfl ht
  · cases h1; exact h2
  · cases h1
theorem MM.ro {U : State} {x : vp_A} (h : MM cl D b0 f sz U H) (hf : f a = some (.inl (9, x))) : ∃ g : Nat → Int32, x.2 = .inl g ∧ va_T .int a x.1 (fun j => .int (g j)) (fun q => b0 ≤ q) U H := by
  rcases h.2.2 a _ hf with ⟨n, g, h1, h2⟩ | ⟨t1, x1, h1, h3, h2⟩ | ⟨o, h1, h2⟩
  · cases h1; exact ⟨g, rfl, h2⟩
  · cases h1; exact absurd rfl h3
  · cases h1
/-- what holds at a method's instructions -/
abbrev mS (b0 : Nat) (s : State) (H : Heap) (locs : List Loc) : Prop := va_S (fun q : Nat => b0 ≤ q) s.heap H locs
theorem m_get (hexec : p.tables.exec = Jvm.exec) (hb : c.code = cc) {own ref C : String} {T : u_T} {N ci index : Nat} {Ts : List Cond} (hts : ∀ w ∈ Ts, w.before args s = true) (hin : ∀ w ∈ u_ws C T N, w ∈ Ts) (hown : s.vm.findClass own = some m.cls) (hK : va_K D.1 cl (mm_tys aty D) s) (hM : MM cl D b0 f sz s H) (k : Nat) {v : Value} (hv : ldF f a ci k = some v) (hc : cl[ci]? = some (C, T, N)) (hk : k < N) (hlink : (Cond.fieldLink own index ref (T k).2.1 (T k).2.2.1).before args s = true) (hsame : ∀ x, s.fieldFound? (T k).1 (T k).2.1 (T k).2.2.1 = some x → s.fieldFound? ref (T k).2.1 (T k).2.2.1 = some x) (hdg : decode cc pc = .ok (.getfield index, 3))
    (kk : W p l e R s m args below meth c H locs cells slots Q (F0 m (pc + 3) ls (v :: rest))) : W p l e R s m args below meth c H locs cells slots Q (F0 m pc ls (.ref a :: rest)) := by
  obtain ⟨fs, h1, h2⟩ := ldF_at hv
  exact va_get hexec hb hts hin hown hK (m_one (hM.obj h1).2) 0 rfl hc k hk hlink hsame h2 hdg kk
theorem m_getN (hexec : p.tables.exec = Jvm.exec) (hb : c.code = cc) {own ref C host : String} {T : u_T} {N ci index : Nat} {Ts : List Cond} (hts : ∀ w ∈ Ts, w.before args s = true) (hin : ∀ w ∈ u_ws C T N, w ∈ Ts) (hown : s.vm.findClass own = some m.cls) (hK : va_K D.1 cl (mm_tys aty D) s) (hM : MM cl D b0 f sz s H) (k : Nat) {v : Value} (hv : ldF f a ci k = some v) (hc : cl[ci]? = some (C, T, N)) (hk : k < N) (hlink : (Cond.fieldLinkNest own index ref (T k).2.1 (T k).2.2.1 host).before args s = true) (hsame : ∀ x, s.fieldFound? (T k).1 (T k).2.1 (T k).2.2.1 = some x → s.fieldFound? ref (T k).2.1 (T k).2.2.1 = some x) (hdg : decode cc pc = .ok (.getfield index, 3))
    (kk : W p l e R s m args below meth c H locs cells slots Q (F0 m (pc + 3) ls (v :: rest))) : W p l e R s m args below meth c H locs cells slots Q (F0 m pc ls (.ref a :: rest)) := by
  obtain ⟨fs, h1, h2⟩ := ldF_at hv
  exact va_getN hexec hb hts hin hown hK (m_one (hM.obj h1).2) 0 rfl hc k hk hlink hsame h2 hdg kk
theorem m_S {H1 : Heap} {locs1 : List Loc} (hS : mS b0 s H locs) (z : H1.size = H.size) (oq : ∀ q : Nat, q ≠ a → H1[q]? = H[q]?) (ha : b0 ≤ a) (hl : ∀ x ∈ locs1, x ∈ locs ∨ x.base = a) : mS b0 s H1 locs1 :=
  ⟨by rw [z]; exact hS.1, fun q h1 h2 => by
    rw [oq q (fun h => h2 (by rw [h]; exact ha))]
    exact hS.2.1 q h1 h2, fun x hx => by
    rcases hl x hx with h | h
    · exact hS.2.2 x h
    · show b0 ≤ x.base
      rw [h]; exact ha⟩
theorem m_put (hexec : p.tables.exec = Jvm.exec) (hb : c.code = cc) {own ref C : String} {T : u_T} {N ci index : Nat} {Ts : List Cond} (hts : ∀ w ∈ Ts, w.before args s = true) (hin : ∀ w ∈ u_ws C T N, w ∈ Ts) (ty0 : Nat → FieldType) (hty : ∀ k, k < N → parseFieldDescriptor (T k).2.2.1 = some (ty0 k)) (hnm : ∀ a, a < N → ∀ b, b < N → a ≠ b → (T a).2.1 ≠ (T b).2.1) (hown : s.vm.findClass own = some m.cls) (hK : va_K D.1 cl (mm_tys aty D) s) (hM : MM cl D b0 f sz s H) (hS : mS b0 s H locs) (k : Nat) {v : Value} {f1 : mmF} (hv : stF f a ci k v = some f1) (hc : cl[ci]? = some (C, T, N)) (hk : k < N) (hlink : (Cond.fieldLink own index ref (T k).2.1 (T k).2.2.1).before args s = true) (hsame : ∀ x, s.fieldFound? (T k).1 (T k).2.1 (T k).2.2.1 = some x → s.fieldFound? ref (T k).2.1 (T k).2.2.1 = some x) (hfin : (T k).2.2.2 = false) {ty : FieldType} (hd : parseFieldDescriptor (T k).2.2.1 = some ty) (hn : narrow ty v = v) (hfit : fits ty v = true)
    (hdg : decode cc pc = .ok (.putfield index, 3)) (kk : ∀ (H1 : Heap) (locs1 : List Loc), MM cl D b0 f1 sz s H1 → mS b0 s H1 locs1 → W p l e R s m args below meth c H1 locs1 cells slots Q (F0 m (pc + 3) ls rest)) : W p l e R s m args below meth c H locs cells slots Q (F0 m pc ls (v :: .ref a :: rest)) := by
  obtain ⟨fs, h1, h2, rfl⟩ := stF_at hv
  obtain ⟨ha, hat⟩ := hM.obj h1
  have hap := va_apart (own := own) hts hin ty0 hty hnm hK hc
  obtain ⟨r, h3, cell, q1, q2, q3, q4⟩ := hat
  have hr : r = (C, T, N) := Option.some.inj (h3.symm.trans hc)
  subst hr
  obtain ⟨hSl, hfc, kC, hkC, hkind⟩ := hK.1 ci _ hc
  obtain ⟨cf, kf, fi, fl, hi, hsl⟩ := hSl k hk
  have hlay := hts _ (hin _ (u_in_lay hk))
  unfold u_lay at hlay
  rw [if_neg (by rw [hfin]; decide)] at hlay
  have hst := (u_facts hfc hkC (u_lays hts hin hk) hi).1
  have h6 := u_store hfc hkC hkind hlay hi hd hn hfit
  refine W.putK hexec hb (f := fl) ⟨hown, hlink, ⟨_, _, _, hsame _ hi⟩, hst⟩ (by rw [q2]; exact h6) q1 q3 (by rw [hsl]; exact k2_hasslot (q4 k hk)) rfl rfl hdg fun H' e1 e2 e3 => ?_
  rw [hsl] at e1 ⊢
  refine kk H' _ (hM.set e2 e3 (Or.inr (Or.inr ⟨_, rfl, ha, ⟨_, hc, t_OB.to (V := updV (vp_V fs) k v) ⟨_, e1, q2, q3, t_set q4 hap hk v⟩ (fun j _ => vp_updV_set h2 v j)⟩⟩))) (m_S hS e2 e3 ha fun x hx => ?_)
  rcases List.mem_append.mp hx with h | h
  · exact Or.inl h
  · rw [List.mem_singleton.mp h]; exact Or.inr rfl
theorem m_putF (hexec : p.tables.exec = Jvm.exec) (hb : c.code = cc) {own ref C : String} {T : u_T} {N ci index : Nat} {Ts : List Cond} (hts : ∀ w ∈ Ts, w.before args s = true) (hin : ∀ w ∈ u_ws C T N, w ∈ Ts) (ty0 : Nat → FieldType) (hty : ∀ k, k < N → parseFieldDescriptor (T k).2.2.1 = some (ty0 k)) (hnm : ∀ a, a < N → ∀ b, b < N → a ≠ b → (T a).2.1 ≠ (T b).2.1) (hown : s.vm.findClass own = some m.cls) (hK : va_K D.1 cl (mm_tys aty D) s) (hM : MM cl D b0 f sz s H) (hS : mS b0 s H locs) (k : Nat) {v : Value} {f1 : mmF} (hv : stF f a ci k v = some f1) (hc : cl[ci]? = some (C, T, N)) (hk : k < N) (hlink : (Cond.fieldLink own index ref (T k).2.1 (T k).2.2.1).before args s = true) (hsame : ∀ x, s.fieldFound? (T k).1 (T k).2.1 (T k).2.2.1 = some x → s.fieldFound? ref (T k).2.1 (T k).2.2.1 = some x) (hfin : (T k).2.2.2 = true) (hin2 : meth.name = "<init>") (hdecl : (T k).1 = own) {ty : FieldType} (hd : parseFieldDescriptor (T k).2.2.1 = some ty) (hn : narrow ty v = v) (hfit : fits ty v = true)
    (hdg : decode cc pc = .ok (.putfield index, 3)) (kk : ∀ (H1 : Heap) (locs1 : List Loc), MM cl D b0 f1 sz s H1 → mS b0 s H1 locs1 → W p l e R s m args below meth c H1 locs1 cells slots Q (F0 m (pc + 3) ls rest)) : W p l e R s m args below meth c H locs cells slots Q (F0 m pc ls (v :: .ref a :: rest)) := by
  obtain ⟨fs, h1, h2, rfl⟩ := stF_at hv
  obtain ⟨ha, hat⟩ := hM.obj h1
  have hap := va_apart (own := own) hts hin ty0 hty hnm hK hc
  obtain ⟨r, h3, cell, q1, q2, q3, q4⟩ := hat
  have hr : r = (C, T, N) := Option.some.inj (h3.symm.trans hc)
  subst hr
  obtain ⟨hSl, hfc, kC, hkC, hkind⟩ := hK.1 ci _ hc
  obtain ⟨cf, kf, fi, fl, hi, hsl⟩ := hSl k hk
  have hlay := hts _ (hin _ (u_in_lay hk))
  unfold u_lay at hlay
  rw [if_pos hfin] at hlay
  have hst := (u_facts hfc hkC (u_lays hts hin hk) hi).1
  have hcf : m.cls = cf := by
    obtain ⟨_, _, c', _, _, _, -, -, hf', -, -, -, hown2, -⟩ := Cond.laysFinal_spec hlay
    have e1 : c' = cf := by have := hi.symm.trans hf'; simp at this; exact this.1.symm
    rw [hdecl] at hown2
    rw [← e1]; exact Option.some.inj (hown.symm.trans hown2)
  have h6 := u_fits hfc hkC hkind (Or.inr hlay) hi hd hn hfit
  refine W.putFinK hexec hb hown hlink (hsame _ hi) hst hcf hin2 (by rw [q2]; exact h6) q1 q3 (by rw [hsl]; exact k2_hasslot (q4 k hk)) rfl rfl hdg fun H' e1 e2 e3 => ?_
  rw [hsl] at e1 ⊢
  refine kk H' _ (hM.set e2 e3 (Or.inr (Or.inr ⟨_, rfl, ha, ⟨_, hc, t_OB.to (V := updV (vp_V fs) k v) ⟨_, e1, q2, q3, t_set q4 hap hk v⟩ (fun j _ => vp_updV_set h2 v j)⟩⟩))) (m_S hS e2 e3 ha fun x hx => ?_)
  rcases List.mem_append.mp hx with h | h
  · exact Or.inl h
  · rw [List.mem_singleton.mp h]; exact Or.inr rfl
theorem m_iald (hexec : p.tables.exec = Jvm.exec) (hb : c.code = cc) (hK : va_K D.1 cl (mm_tys aty D) s) (hM : MM cl D b0 f sz s H) (hS : mS b0 s H locs) (h0 : aty 0 = .int) {i x : Int32} (hv : ldA 0 f a i = some x) (hdg : decode cc pc = .ok (.iaload, 1))
    (kk : W p l e R s m args below meth c H locs cells slots Q (F0 m (pc + 1) ls (.int x :: rest))) : W p l e R s m args below meth c H locs cells slots Q (F0 m pc ls (.int i :: .ref a :: rest)) := by
  obtain ⟨t, n, g, h1, ht, hin, rfl⟩ := ldA_at hv
  by_cases h9 : t = 9
  · subst h9
    obtain ⟨g1, hg, cell, c1, c2, c3, c4, c5, c6, c7⟩ := hM.ro h1
    cases hg
    exact W.iald (v := .int (g i.toNatClampNeg)) hexec hb c1 c2 c3 (fun q => hin (q.imp id fun h => Nat.le_trans c4 h)) (c6 _ (Nat.not_le.mp fun q => hin (Or.inr q))) rfl rfl hdg kk
  · have ht : t = 0 := ht.resolve_right (fun h => h9 h.1)
    subst ht
    exact va_iald hexec hb hK (m_one (hM.arr h1 h9).2) 0 0 rfl (by rw [mm_ty (by decide), h0]) hin hdg kk
theorem m_cald (hexec : p.tables.exec = Jvm.exec) (hb : c.code = cc) (hK : va_K D.1 cl (mm_tys aty D) s) (hM : MM cl D b0 f sz s H) (h0 : aty 1 = .char) {i x : Int32} (hv : ldA 1 f a i = some x) (hdg : decode cc pc = .ok (.caload, 1))
    (kk : W p l e R s m args below meth c H locs cells slots Q (F0 m (pc + 1) ls (.int x :: rest))) : W p l e R s m args below meth c H locs cells slots Q (F0 m pc ls (.int i :: .ref a :: rest)) := by
  obtain ⟨t, n, g, h1, ht, hin, rfl⟩ := ldA_at hv
  have ht : t = 1 := ht.resolve_right (fun h => absurd h.2 (by decide))
  subst ht
  exact va_cald hexec hb hK (m_one (hM.arr h1 (by decide)).2) 0 1 rfl (by rw [mm_ty (by decide), h0]) hin hdg kk
theorem m_iast (hexec : p.tables.exec = Jvm.exec) (hb : c.code = cc) (hK : va_K D.1 cl (mm_tys aty D) s) (hM : MM cl D b0 f sz s H) (hS : mS b0 s H locs) (h0 : aty 0 = .int) {i x : Int32} {f1 : mmF} (hv : stA 0 f a i x = some f1) (hdg : decode cc pc = .ok (.iastore, 1))
    (kk : ∀ (H1 : Heap) (locs1 : List Loc), MM cl D b0 f1 sz s H1 → mS b0 s H1 locs1 → W p l e R s m args below meth c H1 locs1 cells slots Q (F0 m (pc + 1) ls rest)) : W p l e R s m args below meth c H locs cells slots Q (F0 m pc ls (.int x :: .int i :: .ref a :: rest)) := by
  obtain ⟨n, g, h1, hin, rfl⟩ := stA_at hv
  obtain ⟨ha, hat⟩ := hM.arr h1 (by decide)
  have ht : (mm_tys aty D)[0]? = some (D.2 0, .int) := by rw [mm_ty (by decide), h0]
  refine W.iast hexec hb hat ((hK.2 0 _ ht).1 n (fun j => .int (g j))) (fun q => by cases q) (by show ¬ (i < 0 ∨ (arrV _ _ _).slots.size ≤ _); rw [arrV_size]; exact hin) rfl rfl hdg fun H1 e z oq => ?_
  refine kk H1 _ (hM.set z oq (Or.inr (Or.inl ⟨_, _, rfl, by decide, ha, ?_⟩))) (m_S hS z oq ha fun x hx => ?_)
  · show H1[a]? = some (vp_cell _ _)
    rw [e]
    show some ((vp_cell _ (_, .inl g)).setSlot _ _) = _
    rw [vp_cell_i, vp_cell_i, arrV_store]
    congr 2
    funext q
    by_cases hq : q = i.toNatClampNeg
    · subst hq
      simp [updV, upd]
    · simp [updV, upd, hq]
  · rcases List.mem_append.mp hx with h | h
    · exact Or.inl h
    · rw [List.mem_singleton.mp h]; exact Or.inr rfl
theorem m_cast (hexec : p.tables.exec = Jvm.exec) (hb : c.code = cc) (hK : va_K D.1 cl (mm_tys aty D) s) (hM : MM cl D b0 f sz s H) (hS : mS b0 s H locs) (h0 : aty 1 = .char) {i x : Int32} {f1 : mmF} (hv : stA 1 f a i (vp_nar .char x) = some f1) (hdg : decode cc pc = .ok (.castore, 1))
    (kk : ∀ (H1 : Heap) (locs1 : List Loc), MM cl D b0 f1 sz s H1 → mS b0 s H1 locs1 → W p l e R s m args below meth c H1 locs1 cells slots Q (F0 m (pc + 1) ls rest)) : W p l e R s m args below meth c H locs cells slots Q (F0 m pc ls (.int x :: .int i :: .ref a :: rest)) := by
  obtain ⟨n, g, h1, hin, rfl⟩ := stA_at hv
  obtain ⟨ha, hat⟩ := hM.arr h1 (by decide)
  have ht : (mm_tys aty D)[1]? = some (D.2 1, .char) := by rw [mm_ty (by decide), h0]
  refine W.cast hexec hb hat ((hK.2 1 _ ht).1 n (fun j => .int (g j))) (fun q => by cases q) (by show ¬ (i < 0 ∨ (arrV _ _ _).slots.size ≤ _); rw [arrV_size]; exact hin) rfl rfl hdg fun H1 e z oq => ?_
  refine kk H1 _ (hM.set z oq (Or.inr (Or.inl ⟨_, _, rfl, by decide, ha, ?_⟩))) (m_S hS z oq ha fun x hx => ?_)
  · show H1[a]? = some (vp_cell _ _)
    rw [e]
    show some ((vp_cell _ (_, .inl g)).setSlot _ _) = _
    rw [vp_cell_i, vp_cell_i, arrV_store]
    congr 2
    funext q
    by_cases hq : q = i.toNatClampNeg
    · subst hq
      simp [updV, upd, vp_nar]
      try rfl
    · simp [updV, upd, hq]
  · rcases List.mem_append.mp hx with h | h
    · exact Or.inl h
    · rw [List.mem_singleton.mp h]; exact Or.inr rfl
theorem m_lald (hexec : p.tables.exec = Jvm.exec) (hb : c.code = cc) (hK : va_K D.1 cl (mm_tys aty D) s) (hM : MM cl D b0 f sz s H) (h0 : aty 4 = .long) {i : Int32} {x : Int64} (hv : ldL f a i = some x) (hdg : decode cc pc = .ok (.laload, 1))
    (kk : W p l e R s m args below meth c H locs cells slots Q (F0 m (pc + 1) ls (.long x :: rest))) : W p l e R s m args below meth c H locs cells slots Q (F0 m pc ls (.int i :: .ref a :: rest)) := by
  obtain ⟨n, g, h1, hin, rfl⟩ := ldL_at hv
  exact va_lald hexec hb hK (m_one (hM.arr h1 (by decide)).2) 0 4 rfl (by rw [mm_ty (by decide), h0]) hin hdg kk
theorem m_last (hexec : p.tables.exec = Jvm.exec) (hb : c.code = cc) (hK : va_K D.1 cl (mm_tys aty D) s) (hM : MM cl D b0 f sz s H) (hS : mS b0 s H locs) (h0 : aty 4 = .long) {i : Int32} {x : Int64} {f1 : mmF} (hv : stL f a i x = some f1) (hdg : decode cc pc = .ok (.lastore, 1))
    (kk : ∀ (H1 : Heap) (locs1 : List Loc), MM cl D b0 f1 sz s H1 → mS b0 s H1 locs1 → W p l e R s m args below meth c H1 locs1 cells slots Q (F0 m (pc + 1) ls rest)) : W p l e R s m args below meth c H locs cells slots Q (F0 m pc ls (.long x :: .int i :: .ref a :: rest)) := by
  obtain ⟨n, g, h1, hin, rfl⟩ := stL_at hv
  obtain ⟨ha, hat⟩ := hM.arr h1 (by decide)
  have ht : (mm_tys aty D)[4]? = some (D.2 4, .long) := by rw [mm_ty (by decide), h0]
  refine W.last hexec hb hat ((hK.2 4 _ ht).1 n (fun j => .long (g j))) (fun q => by cases q) (by show ¬ (i < 0 ∨ (arrV _ _ _).slots.size ≤ _); rw [arrV_size]; exact hin) rfl rfl hdg fun H1 e z oq => ?_
  refine kk H1 _ (hM.set z oq (Or.inr (Or.inl ⟨_, _, rfl, by decide, ha, ?_⟩))) (m_S hS z oq ha fun x hx => ?_)
  · show H1[a]? = some (vp_cell _ _)
    rw [e]
    show some ((vp_cell _ (_, .inr (.inl g))).setSlot _ _) = _
    rw [vp_cell_l, vp_cell_l, arrV_store]
    congr 2
    funext q
    by_cases hq : q = i.toNatClampNeg
    · subst hq
      simp [updV, vp_updL]
    · simp [updV, vp_updL, hq]
  · rcases List.mem_append.mp hx with h | h
    · exact Or.inl h
    · rw [List.mem_singleton.mp h]; exact Or.inr rfl
theorem m_aldq (t0 : Nat) (ht0 : t0 < 9) {C : String} (h0 : aty t0 = .object C) (hexec : p.tables.exec = Jvm.exec) (hb : c.code = cc) (hK : va_K D.1 cl (mm_tys aty D) s) (hM : MM cl D b0 f sz s H) {i : Int32} {x : Option Nat} (hv : ldQ t0 f a i = some x) (hdg : decode cc pc = .ok (.aaload, 1))
    (kk : W p l e R s m args below meth c H locs cells slots Q (F0 m (pc + 1) ls (va_rf x :: rest))) : W p l e R s m args below meth c H locs cells slots Q (F0 m pc ls (.int i :: .ref a :: rest)) := by
  obtain ⟨n, g, h1, hin, rfl⟩ := ldQ_at hv
  exact va_aldq hexec hb hK (m_one (hM.arr h1 (by omega)).2) 0 t0 rfl (by rw [mm_ty ht0, h0]) hin hdg kk
theorem m_alen (hexec : p.tables.exec = Jvm.exec) (hb : c.code = cc) (hK : va_K D.1 cl (mm_tys aty D) s) (hM : MM cl D b0 f sz s H) {x : Int32} (hv : lenA f a = some x) (hdg : decode cc pc = .ok (.arraylength, 1))
    (kk : W p l e R s m args below meth c H locs cells slots Q (F0 m (pc + 1) ls (.int x :: rest))) : W p l e R s m args below meth c H locs cells slots Q (F0 m pc ls (.ref a :: rest)) := by
  obtain ⟨t, n, y, h1, h9, rfl⟩ := lenA_at hv
  by_cases ht : t = 9
  · subst ht
    obtain ⟨g1, hg, cell, c1, c2, c3, c4, c5, c6, c7⟩ := hM.ro h1
    exact W.alen (n := Int32.ofNat n) hexec hb c1 c2 c5 rfl rfl hdg kk
  · exact va_alen hexec hb hK (m_one (hM.arr h1 ht).2) 0 t rfl (mm_ty (by omega)) rfl hdg kk
theorem m_astq (t0 ci : Nat) (ht0 : t0 < 9) {r0 : vw_C} (h0 : aty t0 = .object r0.1) (hc : cl[ci]? = some r0) (hexec : p.tables.exec = Jvm.exec) (hb : c.code = cc) (hK : va_K D.1 cl (mm_tys aty D) s) (hM : MM cl D b0 f sz s H) (hS : mS b0 s H locs) {i : Int32} {r : Option Nat} {f1 : mmF} (hv : stQ t0 ci f a i r = some f1) (hdg : decode cc pc = .ok (.aastore, 1))
    (kk : ∀ (H1 : Heap) (locs1 : List Loc), MM cl D b0 f1 sz s H1 → mS b0 s H1 locs1 → W p l e R s m args below meth c H1 locs1 cells slots Q (F0 m (pc + 1) ls rest)) : W p l e R s m args below meth c H locs cells slots Q (F0 m pc ls (va_rf r :: .int i :: .ref a :: rest)) := by
  obtain ⟨n, g, h1, hin, hok, rfl⟩ := stQ_at hv
  obtain ⟨ha, hat⟩ := hM.arr h1 (by omega)
  have ht : (mm_tys aty D)[t0]? = some (D.2 t0, .object r0.1) := by rw [mm_ty ht0, h0]
  have hend : ∀ (H1 : Heap) (locs1 : List Loc), H1[a]? = some ((vp_cell (D.2 t0) (n, .inr (.inr (.inr (.inr g))))).setSlot i.toNatClampNeg (va_rf r)) → H1.size = H.size → (∀ q, q ≠ a → H1[q]? = H[q]?) → (∀ x ∈ locs1, x ∈ locs ∨ x.base = a) → MM cl D b0 (va_up f a (some (.inl (t0, n, .inr (.inr (.inr (.inr (va_up g i.toNatClampNeg r)))))))) sz s H1 ∧ mS b0 s H1 locs1 := by
    intro H1 locs1 e1 z oq hl
    refine ⟨hM.set z oq (Or.inr (Or.inl ⟨_, _, rfl, by omega, ha, ?_⟩)), m_S hS z oq ha hl⟩
    show H1[a]? = some (vp_cell _ _)
    rw [e1, vp_cell_q, vp_cell_q, arrV_store]
    congr 2
    funext q
    by_cases hq : q = i.toNatClampNeg
    · subst hq
      simp [updV, va_up]
    · simp [updV, va_up, hq]
  have hlt : i.toNatClampNeg < n := Nat.not_le.mp fun q => hin (Or.inr q)
  have hi0 : ¬ i < 0 := fun q => hin (Or.inl q)
  cases r with
  | none =>
    refine va_WaastN (C := r0.1) hexec hb hat ((hK.2 t0 _ ht).1 n (fun j => va_rf (g j))) (fun h => by cases h) (by show ¬ (i < 0 ∨ (arrV _ _ _).slots.size ≤ _); rw [arrV_size]; exact hin) rfl rfl hdg fun H1 e z oq => ?_
    obtain ⟨k1, k2⟩ := hend H1 (locs ++ [⟨a, i.toNatClampNeg⟩]) e z oq (fun x hx => by
      rcases List.mem_append.mp hx with h | h
      · exact Or.inl h
      · rw [List.mem_singleton.mp h]; exact Or.inr rfl)
    exact kk H1 _ k1 k2
  | some v =>
    obtain ⟨vs, hvs⟩ := okQ_at hok
    obtain ⟨r', hr', cellV, g1, g2, g3, -⟩ := (hM.obj hvs).2
    have hcls := (hK.1 ci r0 hc).2
    obtain ⟨kA, comp, k1, k2, k3, -⟩ := (hK.2 t0 _ ht).2
    have hcomp : comp = D.1.1 ci := Option.some.inj (k3.symm.trans hcls.1)
    subst hcomp
    obtain ⟨kC, hkC, -⟩ := hcls.2
    refine W.aast hexec hb hat (fun q h => by cases h) (fun h => by cases h) k1 k2 rfl hkC ⟨hi0, by show _ < (arrV _ _ _).slots.size; rw [arrV_size]; exact hlt⟩ g1 (fun q h => by rw [g3] at h; cases h) (by rw [g2]; exact hkC) (by rw [g2]; exact va_assign hcls) rfl rfl hdg fun H1 e z oq => ?_
    obtain ⟨k1, k2⟩ := hend H1 (locs ++ [⟨a, i.toNatClampNeg⟩]) e z oq (fun x hx => by
      rcases List.mem_append.mp hx with h | h
      · exact Or.inl h
      · rw [List.mem_singleton.mp h]; exact Or.inr rfl)
    exact kk H1 _ k1 k2
theorem m_Sn {H1 : Heap} (hS : mS b0 s H locs) (hb0 : b0 ≤ H.size) (z : H1.size = H.size + 1) (oq : ∀ q : Nat, q < H.size → H1[q]? = H[q]?) : mS b0 s H1 locs :=
  ⟨Nat.le_trans hS.1 (by omega), fun q h1 h2 => (oq q (Nat.lt_of_lt_of_le h1 hS.1)).trans (hS.2.1 q h1 h2), hS.2.2⟩
theorem m_new (hexec : p.tables.exec = Jvm.exec) (hb : c.code = cc) {own C : String} {T : u_T} {N ci index : Nat} {Ts : List Cond} (hts : ∀ w ∈ Ts, w.before args s = true) (hin : ∀ w ∈ u_ws C T N, w ∈ Ts) (ty : Nat → FieldType) (hty : ∀ k, k < N → parseFieldDescriptor (T k).2.2.1 = some (ty k)) (hown : s.vm.findClass own = some m.cls) (hcl : (Cond.classLink own index C).before args s = true) (hinst : (Cond.instantiable C N).before args s = true) (hini : (Cond.initialized C).before args s = true)
    (hK : va_K D.1 cl (mm_tys aty D) s) (hM : MM cl D b0 f sz s H) (hS : mS b0 s H locs) (hc : cl[ci]? = some (C, T, N)) {fs : List Value} (hfs : ∀ j, j < N → defaultValue (ty j) = vp_V fs j) (hcells : cells + 1 ≤ R.cells) (hslots : slots + N ≤ R.slots) (hdg : decode cc pc = .ok (.new index, 3))
    (kk : ∀ (H1 : Heap), MM cl D b0 (va_up f sz (some (.inr (ci, fs)))) (sz + 1) s H1 → mS b0 s H1 locs →
      W p l e R s m args below meth c H1 locs (cells + 1) (slots + N) Q (F0 m (pc + 3) ls (.ref sz :: rest))) : W p l e R s m args below meth c H locs cells slots Q (F0 m pc ls rest) := by
  have hKn := hK.1 ci _ hc
  have hsz := hM.1
  subst hsz
  refine W.newcK hexec hb hown hcl hinst hini rfl hdg hcells hslots hKn.2.1 rfl fun H1 kC hkC e1 z1 o1 => ?_
  exact kk H1 (hM.push z1 o1 (Or.inr (Or.inr ⟨_, rfl, hM.2.1, ⟨_, hc, (u_born ty hts hin hKn hkC e1 hty).to hfs⟩⟩))) (m_Sn hS hM.2.1 z1 o1)
theorem m_newa (t0 : Nat) (ht0 : t0 < 9) (hexec : p.tables.exec = Jvm.exec) (hb : c.code = cc) {atype : ArrayType} (harr : (Cond.arrayClass (newarray.typeOf atype)).before args s = true) {ty : FieldType} (hty : newarray.typeOf atype = ty) (h0 : aty t0 = ty) (hK : va_K D.1 cl (mm_tys aty D) s) (hM : MM cl D b0 f sz s H) (hS : mS b0 s H locs)
    {n : Int32} {N' : Nat} {y : (Nat → Int32) ⊕ (Nat → Int64) ⊕ (Nat → UInt32) ⊕ (Nat → UInt64) ⊕ (Nat → Option Nat)} (ha : ∀ cA : ClassId, vp_cell cA (N', y) = arrV cA N' (fun _ => defaultValue ty)) (hnm : ∀ cA : ClassId, va_RA s cA ty ↔ s.vm.findClass ("[" ++ ty.toString) = some cA) (hn : ¬ n < 0) (hN : n.toNatClampNeg = N') (hbytes : N' * componentBytes ty ≤ 536870912) (hcells : cells + 1 ≤ R.cells) (hslots : slots + N' ≤ R.slots) (hdg : decode cc pc = .ok (.newarray atype, 2))
    (kk : ∀ (H1 : Heap), MM cl D b0 (va_up f sz (some (.inl (t0, N', y)))) (sz + 1) s H1 → mS b0 s H1 locs →
      W p l e R s m args below meth c H1 locs (cells + 1) (slots + N') Q (F0 m (pc + 2) ls (.ref sz :: rest))) : W p l e R s m args below meth c H locs cells slots Q (F0 m pc ls (.int n :: rest)) := by
  subst hty
  have hsz := hM.1
  subst hsz
  have hcls : s.vm.findClass ("[" ++ (newarray.typeOf atype).toString) = some (D.2 t0) := (hnm _).mp (by have := (hK.2 t0 _ (mm_ty ht0)).2; rw [h0] at this; exact this)
  refine va_newaK hexec hb harr rfl hdg rfl hn hN hbytes hcells hslots rfl fun H1 cA e1 z1 o1 hAr hNm => ?_
  have hcA : cA = D.2 t0 := Option.some.inj (hNm.symm.trans hcls)
  subst hcA
  refine kk H1 (hM.push z1 o1 (Or.inr (Or.inl ⟨_, _, rfl, by omega, hM.2.1, ?_⟩))) (m_Sn hS hM.2.1 z1 o1)
  show H1[H.size]? = some (vp_cell _ _)
  rw [ha]
  exact e1
end MROW
