/-! MEMORY AS A FUNCTION: f says of an address what lies there. Arrays carry the number of their class (9: an int array that nobody writes). -/
abbrev mmF : Type := Nat → Option va_E
abbrev mmD : Type := va_G × (Nat → ClassId)
def mm_at (cl : List vw_C) (D : mmD) (b0 a : Nat) (e : va_E) (U : State) (H : Heap) : Prop :=
  (∃ (n : Nat) (g : Nat → Int32), e = .inl (9, n, .inl g) ∧ va_T .int a n (fun j => .int (g j)) (fun q => b0 ≤ q) U H) ∨
  (∃ (t : Nat) (x : vp_A), e = .inl (t, x) ∧ t ≠ 9 ∧ b0 ≤ a ∧ va_at D.1 cl (a, .inl (D.2 t, x)) H) ∨
  (∃ o : Nat × List Value, e = .inr o ∧ b0 ≤ a ∧ va_at D.1 cl (a, .inr o) H)
/-- the heap holds what f says; all that may be written lies from b0 on -/
def MM (cl : List vw_C) (D : mmD) (b0 : Nat) (f : mmF) (sz : Nat) (U : State) (H : Heap) : Prop :=
  H.size = sz ∧ b0 ≤ sz ∧ ∀ (a : Nat) (e : va_E), f a = some e → mm_at cl D b0 a e U H
abbrev mm_tys (aty : Nat → FieldType) (D : mmD) : List (ClassId × FieldType) := (List.range 9).map (fun t => (D.2 t, aty t))
theorem mm_ty {aty : Nat → FieldType} {D : mmD} {t : Nat} (h : t < 9) : (mm_tys aty D)[t]? = some (D.2 t, aty t) := by
  simp [mm_tys, h]
theorem mm_at.moved {cl : List vw_C} {D : mmD} {b0 a : Nat} {e : va_E} {u U : State} {H : Heap} (hvm : u.vm.Alike U.vm) (h : mm_at cl D b0 a e u H) : mm_at cl D b0 a e U H := by
  rcases h with ⟨n, g, h1, h2⟩ | h
  · exact Or.inl ⟨n, g, h1, h2.moved hvm⟩
  · exact Or.inr h
theorem mm_at.lt {cl : List vw_C} {D : mmD} {b0 a : Nat} {e : va_E} {U : State} {H : Heap} (h : mm_at cl D b0 a e U H) : a < H.size := by
  rcases h with ⟨n, g, h1, cell, h2, h3⟩ | ⟨t, x, h1, h2, h3, h4⟩ | ⟨o, h1, h2, h3⟩
  · exact (Array.getElem?_eq_some_iff.mp h2).1
  · exact h4.lt
  · exact h3.lt
theorem mm_at.kept {cl : List vw_C} {D : mmD} {b0 a : Nat} {e : va_E} {U : State} {H H1 : Heap} (h : mm_at cl D b0 a e U H) (hq : H1[a]? = H[a]?) : mm_at cl D b0 a e U H1 := by
  rcases h with ⟨n, g, h1, cell, h2, h3⟩ | ⟨t, x, h1, h2, h3, h4⟩ | ⟨o, h1, h2, h3⟩
  · exact Or.inl ⟨n, g, h1, cell, by rw [hq]; exact h2, h3⟩
  · exact Or.inr (Or.inl ⟨t, x, h1, h2, h3, h4.kept hq⟩)
  · exact Or.inr (Or.inr ⟨o, h1, h2, h3.kept hq⟩)
theorem MM.moved {cl : List vw_C} {D : mmD} {b0 : Nat} {f : mmF} {sz : Nat} {u U : State} {H : Heap} (hvm : u.vm.Alike U.vm) (h : MM cl D b0 f sz u H) : MM cl D b0 f sz U H := ⟨h.1, h.2.1, fun a e q => (h.2.2 a e q).moved hvm⟩
theorem MM.set {cl : List vw_C} {D : mmD} {b0 : Nat} {f : mmF} {sz : Nat} {U : State} {H H1 : Heap} {a : Nat} {e : va_E} (h : MM cl D b0 f sz U H) (z : H1.size = H.size) (oq : ∀ q : Nat, q ≠ a → H1[q]? = H[q]?) (he : mm_at cl D b0 a e U H1) : MM cl D b0 (va_up f a (some e)) sz U H1 := by
  refine ⟨z.trans h.1, h.2.1, fun q e1 hq => ?_⟩
  by_cases hqa : q = a
  · subst hqa
    rw [va_up_self] at hq
    cases hq
    exact he
  · rw [va_up_ne _ _ hqa] at hq
    exact (h.2.2 q e1 hq).kept (oq q hqa)
theorem MM.push {cl : List vw_C} {D : mmD} {b0 : Nat} {f : mmF} {sz : Nat} {U : State} {H H1 : Heap} {e : va_E} (h : MM cl D b0 f sz U H) (z : H1.size = sz + 1) (oq : ∀ q : Nat, q < sz → H1[q]? = H[q]?) (he : mm_at cl D b0 sz e U H1) : MM cl D b0 (va_up f sz (some e)) (sz + 1) U H1 := by
  refine ⟨z, Nat.le_succ_of_le h.2.1, fun q e1 hq => ?_⟩
  by_cases hqa : q = sz
  · subst hqa
    rw [va_up_self] at hq
    cases hq
    exact he
  · rw [va_up_ne _ _ hqa] at hq
    have hk := h.2.2 q e1 hq
    exact hk.kept (oq q (by have := hk.lt; rw [h.1] at this; exact this))
/-! WHAT A PROGRAM READS AND WRITES -/
def ldF (f : mmF) (a ci k : Nat) : Option Value := match f a with
  | some (.inr (c, fs)) => if c = ci then fs[k]? else none
  | _ => none
def ldI (f : mmF) (a ci k : Nat) : Option Int32 := match ldF f a ci k with
  | some (.int v) => some v
  | _ => none
def ldJ (f : mmF) (a ci k : Nat) : Option Int64 := match ldF f a ci k with
  | some (.long v) => some v
  | _ => none
def ldR (f : mmF) (a ci k : Nat) : Option Nat := match ldF f a ci k with
  | some (.ref v) => some v
  | _ => none
def stF (f : mmF) (a ci k : Nat) (v : Value) : Option mmF := match f a with
  | some (.inr (c, fs)) => if c = ci ∧ k < fs.length then some (va_up f a (some (.inr (c, fs.set k v)))) else none
  | _ => none
/-- an int of an array: of class 0 (int), 1 (char) or 9 -/
def ldA (t0 : Nat) (f : mmF) (a : Nat) (i : Int32) : Option Int32 := match f a with
  | some (.inl (t, n, .inl g)) => if (t = t0 ∨ (t = 9 ∧ t0 = 0)) ∧ ¬ (i < 0 ∨ n ≤ i.toNatClampNeg) then some (g i.toNatClampNeg) else none
  | _ => none
def stA (t0 : Nat) (f : mmF) (a : Nat) (i x : Int32) : Option mmF := match f a with
  | some (.inl (t, n, .inl g)) => if t = t0 ∧ ¬ (i < 0 ∨ n ≤ i.toNatClampNeg) then some (va_up f a (some (.inl (t, n, .inl (upd g i.toNatClampNeg x))))) else none
  | _ => none
/-- a long of an array of longs (class 4) -/
def ldL (f : mmF) (a : Nat) (i : Int32) : Option Int64 := match f a with
  | some (.inl (t, n, .inr (.inl g))) => if t = 4 ∧ ¬ (i < 0 ∨ n ≤ i.toNatClampNeg) then some (g i.toNatClampNeg) else none
  | _ => none
def stL (f : mmF) (a : Nat) (i : Int32) (x : Int64) : Option mmF := match f a with
  | some (.inl (t, n, .inr (.inl g))) => if t = 4 ∧ ¬ (i < 0 ∨ n ≤ i.toNatClampNeg) then some (va_up f a (some (.inl (t, n, .inr (.inl (vp_updL g i.toNatClampNeg x)))))) else none
  | _ => none
/-- a reference of an array of references, which may be null -/
def ldQ (t0 : Nat) (f : mmF) (a : Nat) (i : Int32) : Option (Option Nat) := match f a with
  | some (.inl (t, n, .inr (.inr (.inr (.inr g))))) => if t = t0 ∧ ¬ (i < 0 ∨ n ≤ i.toNatClampNeg) then some (g i.toNatClampNeg) else none
  | _ => none
/-- is it null, or an object of class ci -/
def okQ (f : mmF) (ci : Nat) (r : Option Nat) : Bool := match r with
  | none => true
  | some v => match f v with
    | some (.inr (c, _)) => c == ci
    | _ => false
def stQ (t0 ci : Nat) (f : mmF) (a : Nat) (i : Int32) (r : Option Nat) : Option mmF := match f a with
  | some (.inl (t, n, .inr (.inr (.inr (.inr g))))) => if (t = t0 ∧ ¬ (i < 0 ∨ n ≤ i.toNatClampNeg)) ∧ okQ f ci r = true then some (va_up f a (some (.inl (t, n, .inr (.inr (.inr (.inr (va_up g i.toNatClampNeg r)))))))) else none
  | _ => none
def lenA (f : mmF) (a : Nat) : Option Int32 := match f a with
  | some (.inl (t, n, _)) => if t ≤ 9 then some (Int32.ofNat n) else none
  | _ => none
/-! OUT OF 'some' -/
theorem o_b {α β : Type} {o : Option α} {g : α → Option β} {r : β} (h : o.bind g = some r) : ∃ v, o = some v ∧ g v = some r := by
  cases o with
  | none => cases h
  | some v => exact ⟨v, rfl, h⟩
theorem o_t {α : Type} {c : Prop} [Decidable c] {A B : Option α} {r : α} (hc : c) (h : (if c then A else B) = some r) : A = some r := by rwa [if_pos hc] at h
theorem o_f {α : Type} {c : Prop} [Decidable c] {A B : Option α} {r : α} (hc : ¬ c) (h : (if c then A else B) = some r) : B = some r := by rwa [if_neg hc] at h
theorem ldI_F {f : mmF} {a ci k : Nat} {v : Int32} (h : ldI f a ci k = some v) : ldF f a ci k = some (.int v) := by
  unfold ldI at h
  split at h
  · next hq => cases h; exact hq
  · cases h
theorem ldJ_F {f : mmF} {a ci k : Nat} {v : Int64} (h : ldJ f a ci k = some v) : ldF f a ci k = some (.long v) := by
  unfold ldJ at h
  split at h
  · next hq => cases h; exact hq
  · cases h
theorem ldR_F {f : mmF} {a ci k : Nat} {v : Nat} (h : ldR f a ci k = some v) : ldF f a ci k = some (.ref v) := by
  unfold ldR at h
  split at h
  · next hq => cases h; exact hq
  · cases h
theorem ldF_at {f : mmF} {a ci k : Nat} {v : Value} (h : ldF f a ci k = some v) : ∃ fs : List Value, f a = some (.inr (ci, fs)) ∧ fs[k]? = some v := by
  unfold ldF at h
  split at h
  · next c fs hq =>
    split at h
    · next hc => subst hc; exact ⟨fs, hq, h⟩
    · cases h
  · cases h
theorem stF_at {f f1 : mmF} {a ci k : Nat} {v : Value} (h : stF f a ci k v = some f1) : ∃ fs : List Value, f a = some (.inr (ci, fs)) ∧ k < fs.length ∧ f1 = va_up f a (some (.inr (ci, fs.set k v))) := by
  unfold stF at h
  split at h
  · next c fs hq =>
    split at h
    · next hc => obtain ⟨rfl, hk⟩ := hc; exact ⟨fs, hq, hk, (Option.some.inj h).symm⟩
    · cases h
  · cases h
theorem ldA_at {t0 : Nat} {f : mmF} {a : Nat} {i x : Int32} (h : ldA t0 f a i = some x) : ∃ (t n : Nat) (g : Nat → Int32), f a = some (.inl (t, n, .inl g)) ∧ (t = t0 ∨ (t = 9 ∧ t0 = 0)) ∧ vp_in i n ∧ g i.toNatClampNeg = x := by
  unfold ldA at h
  split at h
  · next t n g hq =>
    split at h
    · next hc => exact ⟨t, n, g, hq, hc.1, hc.2, Option.some.inj h⟩
    · cases h
  · cases h
theorem stA_at {t0 : Nat} {f f1 : mmF} {a : Nat} {i x : Int32} (h : stA t0 f a i x = some f1) : ∃ (n : Nat) (g : Nat → Int32), f a = some (.inl (t0, n, .inl g)) ∧ vp_in i n ∧ f1 = va_up f a (some (.inl (t0, n, .inl (upd g i.toNatClampNeg x)))) := by
  unfold stA at h
  split at h
  · next t n g hq =>
    split at h
    · next hc => obtain ⟨rfl, hk⟩ := hc; exact ⟨n, g, hq, hk, (Option.some.inj h).symm⟩
    · cases h
  · cases h
theorem ldL_at {f : mmF} {a : Nat} {i : Int32} {x : Int64} (h : ldL f a i = some x) : ∃ (n : Nat) (g : Nat → Int64), f a = some (.inl (4, n, .inr (.inl g))) ∧ vp_in i n ∧ g i.toNatClampNeg = x := by
  unfold ldL at h
  split at h
  · next t n g hq =>
    split at h
    · next hc => obtain ⟨rfl, hk⟩ := hc; exact ⟨n, g, hq, hk, Option.some.inj h⟩
    · cases h
  · cases h
theorem stL_at {f f1 : mmF} {a : Nat} {i : Int32} {x : Int64} (h : stL f a i x = some f1) : ∃ (n : Nat) (g : Nat → Int64), f a = some (.inl (4, n, .inr (.inl g))) ∧ vp_in i n ∧ f1 = va_up f a (some (.inl (4, n, .inr (.inl (vp_updL g i.toNatClampNeg x))))) := by
  unfold stL at h
  split at h
  · next t n g hq =>
    split at h
    · next hc => obtain ⟨rfl, hk⟩ := hc; exact ⟨n, g, hq, hk, (Option.some.inj h).symm⟩
    · cases h
  · cases h
theorem ldQ_at {t0 : Nat} {f : mmF} {a : Nat} {i : Int32} {x : Option Nat} (h : ldQ t0 f a i = some x) : ∃ (n : Nat) (g : Nat → Option Nat), f a = some (.inl (t0, n, .inr (.inr (.inr (.inr g))))) ∧ vp_in i n ∧ g i.toNatClampNeg = x := by
  unfold ldQ at h
  split at h
  · next t n g hq =>
    split at h
    · next hc => obtain ⟨rfl, hk⟩ := hc; exact ⟨n, g, hq, hk, Option.some.inj h⟩
    · cases h
  · cases h
theorem stQ_at {t0 ci : Nat} {f f1 : mmF} {a : Nat} {i : Int32} {r : Option Nat} (h : stQ t0 ci f a i r = some f1) : ∃ (n : Nat) (g : Nat → Option Nat), f a = some (.inl (t0, n, .inr (.inr (.inr (.inr g))))) ∧ vp_in i n ∧ okQ f ci r = true ∧ f1 = va_up f a (some (.inl (t0, n, .inr (.inr (.inr (.inr (va_up g i.toNatClampNeg r))))))) := by
  unfold stQ at h
  split at h
  · next t n g hq =>
    split at h
    · next hc => obtain ⟨⟨rfl, hk⟩, ho⟩ := hc; exact ⟨n, g, hq, hk, ho, (Option.some.inj h).symm⟩
    · cases h
  · cases h
theorem okQ_at {f : mmF} {ci v : Nat} (h : okQ f ci (some v) = true) : ∃ fs : List Value, f v = some (.inr (ci, fs)) := by
  unfold okQ at h
  dsimp only at h
  split at h
  · next c fs hq =>
    rw [beq_iff_eq] at h
    subst h
    exact ⟨fs, hq⟩
  · cases h
theorem lenA_at {f : mmF} {a : Nat} {x : Int32} (h : lenA f a = some x) : ∃ (t n : Nat) (y : (Nat → Int32) ⊕ (Nat → Int64) ⊕ (Nat → UInt32) ⊕ (Nat → UInt64) ⊕ (Nat → Option Nat)), f a = some (.inl (t, n, y)) ∧ t ≤ 9 ∧ Int32.ofNat n = x := by
  unfold lenA at h
  split at h
  · next t n y hq =>
    split at h
    · next hc => exact ⟨t, n, y, hq, hc, Option.some.inj h⟩
    · cases h
  · cases h
