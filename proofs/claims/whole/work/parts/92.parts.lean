/-! THE CLASS'S PARTS: find, add -/
/-- the table: how many parts, kinds, left and right ones -/
def PTo (S : Nat) (kd lf rt : Nat → Nat) : Prop := 6 ≤ S ∧ S ≤ 151 ∧ (∀ p, p < 6 → kd p = p) ∧ (∀ p, 6 ≤ p → p < S → 6 ≤ kd p ∧ kd p < 10 ∧ lf p < p ∧ rt p < p ∧ (kd p = 6 → rt p = 5)) ∧ ∀ p q, 6 ≤ p → p < S → 6 ≤ q → q < S → kd p = kd q → lf p = lf q → rt p = rt q → p = q
def PTm (b : Nat) (ia fi : Nat → Nat → Int32) (S : Nat) (kd lf rt : Nat → Nat) : Prop := fi (b + 22) 0 = nI S ∧ (∀ p, p < S → ia (b + 23) p = nI (kd p)) ∧ ∀ p, 6 ≤ p → p < S → ia (b + 24) p = nI (lf p) ∧ ia (b + 25) p = nI (rt p)
/-- the part of each node -/
def NP (g : Nat → Nat) (S : Nat) (kd lf rt Pn : Nat → Nat) (i : Nat) : Prop := ∀ j, j < i → Pn j < S ∧ (g j < 6 → Pn j = g j) ∧ (g j = 6 → 6 ≤ Pn j ∧ kd (Pn j) = 6 ∧ lf (Pn j) = Pn (rc g j) ∧ rt (Pn j) = 5) ∧ (7 ≤ g j → 6 ≤ Pn j ∧ kd (Pn j) = g j ∧ lf (Pn j) = Pn (lc g j) ∧ rt (Pn j) = Pn (rc g j))
def upN (h : Nat → Nat) (S k : Nat) : Nat → Nat := fun p => if p = S then k else h p
theorem upN_s (h : Nat → Nat) (S k : Nat) : upN h S k S = k := if_pos rfl
theorem upN_n (h : Nat → Nat) {S k p : Nat} (e : p ≠ S) : upN h S k p = h p := if_neg e
/-- which leaves are used -/
def uLf (g : Nat → Nat) (U : Nat) : Nat → Nat := fun n => fo (fun j x => x ||| (if g j < 6 then 2 ^ g j else 0)) n U
section PARTS
variable {b : Nat} {ia fi : Nat → Nat → Int32} {fl : Nat → Nat → Int64} {qa : Nat → Nat → Option Nat} {f : mmF}
theorem cl_I {c k : Nat} {g : Nat → Nat} (h : ClA b f c k g) : ldI (wr (SK b) ia fi fl qa f) c 0 0 = some (nI k) := by
  obtain ⟨h1, sg, hh, h2, h3, h4, h5⟩ := h
  simp only [ldI, ldF, wr_o (SK_high h1), h3, if_pos, List.getElem?_cons_zero]
theorem cl_R {c k : Nat} {g : Nat → Nat} (h : ClA b f c k g) : ∃ sg : Nat, (∀ (ia fi : Nat → Nat → Int32) (fl : Nat → Nat → Int64) (qa : Nat → Nat → Option Nat), ldR (wr (SK b) ia fi fl qa f) c 0 1 = some sg) ∧ ∀ (ia fi : Nat → Nat → Int32) (fl : Nat → Nat → Int64) (qa : Nat → Nat → Option Nat) (j : Nat), j < k → j < 2 ^ 31 → ldA 0 (wr (SK b) ia fi fl qa f) sg (nI j) = some (nI (g j)) := by
  obtain ⟨h1, sg, hh, h2, h3, h4, h5⟩ := h
  refine ⟨sg, fun ia fi fl qa => ?_, fun ia fi fl qa j hj h31 => ?_⟩
  · simp only [ldR, ldF, wr_o (SK_high h1), h3, if_pos, List.getElem?_cons_succ, List.getElem?_cons_zero]
  · have hn := nI_clamp (n := j) h31
    have h0 : ¬ (nI j < 0 ∨ k ≤ (nI j).toNatClampNeg) := by
      rw [hn]
      intro hx
      rcases hx with hx | hx
      · exact nI_pos h31 hx
      · omega
    simp only [ldA, wr_o (SK_high h2), h4, true_or, true_and, if_pos h0]
    rw [hn, h5 j hj]
variable {S : Nat} {kd lf rt : Nat → Nat}
theorem find_lp (hm : PTm b ia fi S kd lf rt) (ho : PTo S kd lf rt) (hS : S < 151) {k x y : Nat} (hk : k < 10) (hx : x < S) (hy : y < S) : ∀ (m p q : Nat), p + m = S → m < q → 6 ≤ p → (∀ j, 6 ≤ j → j < p → ¬ (kd j = k ∧ lf j = x ∧ rt j = y)) → (∃ r, 6 ≤ r ∧ r < S ∧ kd r = k ∧ lf r = x ∧ rt r = y ∧ f_X4_find_4 q (b + 22) (nI k) (nI x) (nI y) (nI p) (wr (SK b) ia fi fl qa f) = some (nI r, wr (SK b) ia fi fl qa f)) ∨ ((∀ j, 6 ≤ j → j < S → ¬ (kd j = k ∧ lf j = x ∧ rt j = y)) ∧ f_X4_find_4 q (b + 22) (nI k) (nI x) (nI y) (nI p) (wr (SK b) ia fi fl qa f) = some (nI S, wr (SK b) (u2 (u2 (u2 ia (b + 23) S (nI k)) (b + 24) S (nI x)) (b + 25) S (nI y)) (u2 fi (b + 22) 0 (nI (S + 1))) fl qa f)) := by
  obtain ⟨m1, m2, m3⟩ := hm
  obtain ⟨o1, o2, o3, o4, o5⟩ := ho
  intro m
  induction m with
  | zero =>
    intro p q hp hq h6 hu
    obtain ⟨q, rfl⟩ : ∃ k, q = k + 1 := ⟨q - 1, by omega⟩
    have hps : p = S := by omega
    subst hps
    refine Or.inr ⟨hu, ?_⟩
    have e1 : nI p < (151 : Int32) := nI_lt (b := 151) hS (by decide)
    rw [f_X4_find_4]
    simp only [I_22_0, Option.bind_some, m1]
    rw [if_pos (Int32.le_refl _), if_pos e1]
    simp only [R_22_1, R_22_2, R_22_3, sAn_23 hS, sAn_24 hS, sAn_25 hS, I_22_0, Option.bind_some, m1, sI_22_0, u2_s, nI_1]
    rw [nsub1 (by omega), Nat.add_sub_cancel]
  | succ m ih =>
    intro p q hp hq h6 hu
    obtain ⟨q, rfl⟩ : ∃ k, q = k + 1 := ⟨q - 1, by omega⟩
    have hps : p < S := by omega
    have hlt : ¬ nI S ≤ nI p := nI_ge (by omega) (by omega)
    obtain ⟨a1, a2, a3, a4, a5⟩ := o4 p h6 hps
    have q1 : (nI (lf p) = nI x) = (lf p = x) := propext (nI_eq (by omega) (by omega))
    have q2 : (nI (rt p) = nI y) = (rt p = y) := propext (nI_eq (by omega) (by omega))
    have q3 : (nI (kd p) = nI k) = (kd p = k) := propext (nI_eq (by omega) (by omega))
    have go : ¬ (kd p = k ∧ lf p = x ∧ rt p = y) → (∃ r, 6 ≤ r ∧ r < S ∧ kd r = k ∧ lf r = x ∧ rt r = y ∧ f_X4_find_49 (fun a0 a1 a2 a3 a4 a5 => f_X4_find_4 q a0 a1 a2 a3 a4 a5) (b + 22) (nI k) (nI x) (nI y) (nI p) (wr (SK b) ia fi fl qa f) = some (nI r, wr (SK b) ia fi fl qa f)) ∨ ((∀ j, 6 ≤ j → j < S → ¬ (kd j = k ∧ lf j = x ∧ rt j = y)) ∧ f_X4_find_49 (fun a0 a1 a2 a3 a4 a5 => f_X4_find_4 q a0 a1 a2 a3 a4 a5) (b + 22) (nI k) (nI x) (nI y) (nI p) (wr (SK b) ia fi fl qa f) = some (nI S, wr (SK b) (u2 (u2 (u2 ia (b + 23) S (nI k)) (b + 24) S (nI x)) (b + 25) S (nI y)) (u2 fi (b + 22) 0 (nI (S + 1))) fl qa f)) := by
      intro hn
      unfold f_X4_find_49
      rw [nI_1]
      exact ih (p + 1) q (by omega) (by omega) (by omega) (fun j h1 h2 => by
        by_cases hj : j = p
        · subst hj; exact hn
        · exact hu j h1 (by omega))
    rw [f_X4_find_4]
    simp only [I_22_0, Option.bind_some, m1, if_neg hlt, R_22_2, R_22_3, R_22_1, An_24 (show p < 151 by omega), An_25 (show p < 151 by omega), An_23 (show p < 151 by omega), (m3 p h6 hps).1, (m3 p h6 hps).2, m2 p hps, q1, q2, q3]
    by_cases c1 : lf p = x
    · rw [if_pos c1]
      by_cases c2 : rt p = y
      · rw [if_pos c2]
        by_cases c3 : kd p = k
        · rw [if_pos c3]
          exact Or.inl ⟨p, h6, hps, c3, c1, c2, rfl⟩
        · rw [if_neg c3]
          exact go (fun h => c3 h.1)
      · rw [if_neg c2]
        exact go (fun h => c2 h.2.2)
    · rw [if_neg c1]
      exact go (fun h => c1 h.2.1)
/-- the table grows -/
def PEx (S : Nat) (kd lf rt : Nat → Nat) (S1 : Nat) (kd1 lf1 rt1 : Nat → Nat) : Prop := S ≤ S1 ∧ ∀ p, p < S → kd1 p = kd p ∧ lf1 p = lf p ∧ rt1 p = rt p
theorem PEx.rf : PEx S kd lf rt S kd lf rt := ⟨Nat.le_refl _, fun p _ => ⟨rfl, rfl, rfl⟩⟩
theorem PEx.tr {S1 S2 : Nat} {kd1 lf1 rt1 kd2 lf2 rt2 : Nat → Nat} (h : PEx S kd lf rt S1 kd1 lf1 rt1) (h2 : PEx S1 kd1 lf1 rt1 S2 kd2 lf2 rt2) : PEx S kd lf rt S2 kd2 lf2 rt2 := ⟨Nat.le_trans h.1 h2.1, fun p hp => by
  obtain ⟨a1, a2, a3⟩ := h.2 p hp
  obtain ⟨b1, b2, b3⟩ := h2.2 p (Nat.lt_of_lt_of_le hp h.1)
  exact ⟨b1.trans a1, b2.trans a2, b3.trans a3⟩⟩
theorem NP.ex {g Pn : Nat → Nat} {i S1 : Nat} {kd1 lf1 rt1 : Nat → Nat} (h : NP g S kd lf rt Pn i) (e : PEx S kd lf rt S1 kd1 lf1 rt1) : NP g S1 kd1 lf1 rt1 Pn i := by
  intro j hj
  obtain ⟨h1, h2, h3, h4⟩ := h j hj
  obtain ⟨e1, e2, e3⟩ := e.2 _ h1
  refine ⟨Nat.lt_of_lt_of_le h1 e.1, h2, fun h6 => ?_, fun h7 => ?_⟩
  · rw [e1, e2, e3]; exact h3 h6
  · rw [e1, e2, e3]; exact h4 h7
theorem find_ok (hm : PTm b ia fi S kd lf rt) (ho : PTo S kd lf rt) (hS : S < 151) {k x y : Nat} (h6 : 6 ≤ k) (hk : k < 10) (hx : x < S) (hy : y < S) (h5 : k = 6 → y = 5) : ∃ (ia1 fi1 : Nat → Nat → Int32) (S1 : Nat) (kd1 lf1 rt1 : Nat → Nat) (r : Nat), f_X4_find (b + 22) (nI k) (nI x) (nI y) (wr (SK b) ia fi fl qa f) = some (nI r, wr (SK b) ia1 fi1 fl qa f) ∧ PTm b ia1 fi1 S1 kd1 lf1 rt1 ∧ PTo S1 kd1 lf1 rt1 ∧ PEx S kd lf rt S1 kd1 lf1 rt1 ∧ (S1 = S ∨ S1 = S + 1 ∧ r = S) ∧ (6 ≤ r ∧ r < S1 ∧ kd1 r = k ∧ lf1 r = x ∧ rt1 r = y) ∧ (∀ a : Nat, a < b + 23 ∨ b + 26 ≤ a → ia1 a = ia a) ∧ ∀ a j : Nat, a ≠ b + 22 ∨ j ≠ 0 → fi1 a j = fi a j := by
  obtain ⟨q, hq⟩ := FU_1000
  obtain ⟨o1, o2, o3, o4, o5⟩ := id ho
  obtain ⟨m1, m2, m3⟩ := id hm
  rcases find_lp (fl := fl) (qa := qa) (f := f) hm ho hS hk hx hy (S - 6) 6 FU (by omega) (by omega) (Nat.le_refl _) (fun j h1 h2 => absurd h2 (by omega)) with ⟨r, r1, r2, r3, r4, r5, r6⟩ | ⟨hn, r6⟩
  · exact ⟨ia, fi, S, kd, lf, rt, r, r6, hm, ho, PEx.rf, Or.inl rfl, ⟨r1, r2, r3, r4, r5⟩, fun a _ => rfl, fun a j _ => rfl⟩
  · refine ⟨_, _, S + 1, upN kd S k, upN lf S x, upN rt S y, S, r6, ⟨u2_s _ _ _ _, fun p hp => ?_, fun p hp6 hp => ⟨?_, ?_⟩⟩, ⟨by omega, by omega, fun p hp => ?_, fun p hp6 hp => ?_, fun p p2 hp6 hp hq6 hq e1 e2 e3 => ?_⟩, ⟨by omega, fun p hp => ?_⟩, Or.inr ⟨rfl, rfl⟩, ⟨o1, by omega, upN_s _ _ _, upN_s _ _ _, upN_s _ _ _⟩, fun a ha => ?_, fun a j hj => ?_⟩
    · rw [u2_a _ _ (by omega), u2_a _ _ (by omega)]
      by_cases hps : p = S
      · subst hps; rw [u2_s, upN_s]
      · rw [u2_i _ _ hps, upN_n _ hps]; exact m2 p (by omega)
    · rw [u2_a _ _ (by omega)]
      by_cases hps : p = S
      · subst hps; rw [u2_s, upN_s]
      · rw [u2_i _ _ hps, u2_a _ _ (by omega), upN_n _ hps]; exact (m3 p hp6 (by omega)).1
    · by_cases hps : p = S
      · subst hps; rw [u2_s, upN_s]
      · rw [u2_i _ _ hps, u2_a _ _ (by omega), u2_a _ _ (by omega), upN_n _ hps]; exact (m3 p hp6 (by omega)).2
    · rw [upN_n _ (by omega)]; exact o3 p hp
    · by_cases hps : p = S
      · subst hps
        rw [upN_s, upN_s, upN_s]
        exact ⟨h6, hk, hx, hy, h5⟩
      · rw [upN_n _ hps, upN_n _ hps, upN_n _ hps]
        exact o4 p hp6 (by omega)
    · by_cases hps : p = S
      · by_cases hqs : p2 = S
        · rw [hps, hqs]
        · rw [hps, upN_s, upN_n _ hqs] at e1 e2 e3
          exact absurd ⟨e1.symm, e2.symm, e3.symm⟩ (hn p2 hq6 (by omega))
      · by_cases hqs : p2 = S
        · rw [hqs, upN_s, upN_n _ hps] at e1 e2 e3
          exact absurd ⟨e1, e2, e3⟩ (hn p hp6 (by omega))
        · rw [upN_n _ hps, upN_n _ hqs] at e1 e2 e3
          exact o5 p p2 hp6 (by omega) hq6 (by omega) e1 e2 e3
    · rw [upN_n _ (by omega), upN_n _ (by omega), upN_n _ (by omega)]
      exact ⟨rfl, rfl, rfl⟩
    · rw [u2_row _ _ (by omega), u2_row _ _ (by omega), u2_row _ _ (by omega)]
    · rcases hj with hj | hj
      · exact u2_a _ _ hj
      · exact u2_i _ _ hj
end PARTS
