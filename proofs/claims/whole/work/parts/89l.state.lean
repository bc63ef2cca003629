/-! THE STATE OF BOTH OBJECTS AS NUMBERS -/
/-- stages, what they lead to, facts; of the shelf the lengths (0: none) and the signs -/
abbrev mSt : Type := Nat × (Nat → Nat) × (Nat → Nat) × (Nat → Nat) × (Nat → Nat → Nat)
/-- a claim's cells, beyond the two objects -/
def ClA (b : Nat) (f : mmF) (c k : Nat) (g : Nat → Nat) : Prop := b + 102 ≤ c ∧ ∃ (sg : Nat) (h : Nat → Int32), b + 102 ≤ sg ∧ f c = some (.inr (0, [.int (nI k), .ref sg])) ∧ f sg = some (.inl (0, k, .inl h)) ∧ ∀ j, j < k → h j = nI (g j)
def CSh (b : Nat) (qa : Nat → Nat → Option Nat) (f : mmF) (s : Nat) (K : Nat → Nat) (G : Nat → Nat → Nat) : Prop := ∀ p, p < 5 → (K p = 0 ∧ qa (s + 3) p = none) ∨ (0 < K p ∧ ∃ c, qa (s + 3) p = some c ∧ ClA b f c (K p) (G p))
def MSh (row : Nat → Int32) (K : Nat → Nat) (G : Nat → Nat → Nat) : Prop := ∀ p, p < 5 → row (17 + 31 * p) = nI (K p) ∧ ∀ j, j < K p → row (17 + 31 * p + (1 + j)) = nI (G p j)
/-- how many claims lie on the stack behind i signs -/
def dpt (g : Nat → Nat) : Nat → Nat
  | 0 => 0
  | i + 1 => if g i < 6 then dpt g i + 1 else if g i = 6 then dpt g i else dpt g i - 1
/-- a length with brackets of width w where a simpler text is wanted; 0 simple, 1 AND, 2 OR, 3 IF -/
def lnP (w t : Nat) (x : Nat × Nat) : Nat := if x.2 ≤ t then x.1 else x.1 + w
def lnU (w : Nat) (x : Nat × Nat) : Nat × Nat := (1 + lnP w 0 x, 0)
def lnB (w k : Nat) (x y : Nat × Nat) : Nat × Nat := if k = 7 then (lnP w 1 x + 1 + lnP w 0 y, 1) else if k = 8 then (lnP w 2 x + 1 + lnP w 1 y, 2) else (lnP w 2 x + 1 + lnP w 3 y, 3)
/-- the lengths of the claims on the stack behind i signs, the last one first -/
def stk (g : Nat → Nat) : Nat → List (Nat × Nat)
  | 0 => []
  | i + 1 => if g i < 6 then (1, 0) :: stk g i else if g i = 6 then lnU 2 ((stk g i).headD (0, 0)) :: (stk g i).tail else lnB 2 (g i) ((stk g i).tail.headD (0, 0)) ((stk g i).headD (0, 0)) :: (stk g i).tail.tail
/-- a claim's length is bounded: by its signs, or by its text -/
def LnK (k : Nat) (g : Nat → Nat) : Prop := k ≤ 24 ∨ ((stk g k).headD (0, 0)).1 ≤ 30
def VC (k : Nat) (g : Nat → Nat) : Prop := 1 ≤ k ∧ k ≤ 30 ∧ (∀ j, j < k → g j < 10 ∧ (6 ≤ g j → 1 ≤ dpt g j) ∧ (7 ≤ g j → 2 ≤ dpt g j)) ∧ dpt g k = 1 ∧ LnK k g
def CSt (b : Nat) (ia fi : Nat → Nat → Int32) (qa : Nat → Nat → Option Nat) (f : mmF) (s : Nat) (σ : mSt) : Prop := CS ia fi s σ.1 σ.2.1 σ.2.2.1 ∧ CSh b qa f s σ.2.2.2.1 σ.2.2.2.2
def MSt (row : Nat → Int32) (σ : mSt) : Prop := MS row σ.1 σ.2.1 σ.2.2.1 ∧ MSh row σ.2.2.2.1 σ.2.2.2.2
def WSt (σ : mSt) : Prop := WF σ.1 σ.2.1 σ.2.2.1 ∧ ∀ p, p < 5 → 0 < σ.2.2.2.1 p → VC (σ.2.2.2.1 p) (σ.2.2.2.2 p)
theorem CSt.congr {b s : Nat} {ia fi ia1 fi1 : Nat → Nat → Int32} {qa qa1 : Nat → Nat → Option Nat} {f : mmF} {σ : mSt} (h : CSt b ia fi qa f s σ) (h0 : fi1 s 0 = fi s 0) (h1 : ia1 (s + 1) = ia (s + 1)) (h2 : ia1 (s + 2) = ia (s + 2)) (h3 : qa1 (s + 3) = qa (s + 3)) : CSt b ia1 fi1 qa1 f s σ := by
  refine ⟨⟨h0.trans h.1.1, fun i hi => by rw [h1, h2]; exact h.1.2 i hi⟩, fun p hp => by rw [h3]; exact h.2 p hp⟩
/-- what a state says, another State that holds the same says as well -/
theorem CSt.copy {b s t : Nat} {ia fi ia1 fi1 : Nat → Nat → Int32} {qa qa1 : Nat → Nat → Option Nat} {f : mmF} {σ : mSt} (h : CSt b ia fi qa f t σ) (w : WSt σ) (h0 : fi1 s 0 = fi t 0) (h1 : ∀ j, j < 8 → ia1 (s + 1) j = ia (t + 1) j) (h2 : ∀ j, j < 8 → ia1 (s + 2) j = ia (t + 2) j) (h3 : ∀ j, j < 5 → qa1 (s + 3) j = qa (t + 3) j) : CSt b ia1 fi1 qa1 f s σ := by
  have h8 := w.1.2.1
  refine ⟨⟨h0.trans h.1.1, fun i hi => ?_⟩, fun p hp => ?_⟩
  · rw [h1 i (by omega), h2 i (by omega)]; exact h.1.2 i hi
  · rw [h3 p hp]; exact h.2 p hp
theorem MSt.copy {row row1 : Nat → Int32} {σ : mSt} (h : MSt row σ) (w : WSt σ) (e : ∀ j, j < 172 → row1 j = row j) : MSt row1 σ := by
  have h8 := w.1.2.1
  refine ⟨⟨(e 16 (by omega)).trans h.1.1, fun i hi => ?_⟩, fun p hp => ⟨(e _ (by omega)).trans (h.2 p hp).1, fun j hj => ?_⟩⟩
  · rw [e i (by omega), e (8 + i) (by omega)]; exact h.1.2 i hi
  · have hk : σ.2.2.2.1 p ≤ 30 := (w.2 p hp (by omega)).2.1
    rw [e _ (by omega)]
    exact (h.2 p hp).2 j hj
/-- the shelf's references, for takeFrom -/
theorem CSh.out {b s : Nat} {qa : Nat → Nat → Option Nat} {f : mmF} {K : Nat → Nat} {G : Nat → Nat → Nat} (h : CSh b qa f s K G) : ∀ i, i < 5 → (∀ v, qa (s + 3) i = some v → SK b v = none) ∧ okQ f 0 (qa (s + 3) i) = true := by
  intro i hi
  rcases h i hi with ⟨_, h1⟩ | ⟨_, c, h1, hc⟩
  · rw [h1]
    exact ⟨fun v hv => (by cases hv), rfl⟩
  · rw [h1]
    obtain ⟨h2, sg, hh, h3, h4, h5⟩ := hc
    refine ⟨fun v hv => by cases hv; exact SK_high h2, ?_⟩
    simp only [okQ, h4, beq_self_eq_true]
/-- the sign that the class keeps of a character -/
def sgn (c : Nat) : Nat := if c = 38 then 7 else if c = 40 then 10 else if c = 41 then 11 else if c = 62 then 9 else if c = 70 then 5 else if c = 84 then 4 else if c = 97 then 0 else if c = 98 then 1 else if c = 99 then 2 else if c = 100 then 3 else if c = 124 then 8 else if c = 126 then 6 else 12
/-- the object: state, how many are recorded, which, the snapshot, the text's length, its characters -/
abbrev mO : Type := mSt × Nat × (Nat → mSt) × Option mSt × Nat × (Nat → Nat)
/-- what the search knew last is on its list -/
def KV (b : Nat) (ia fi : Nat → Nat → Int32) : Prop := ∃ z, z ≤ 151 ∧ fi (b + 33) 0 = nI z ∧ (∀ i, i < z → ∃ p, p < 192 ∧ ia (b + 36) i = nI p) ∧ ∀ p, p < 192 → sB (ia (b + 35)) 0 p = true → ∃ i, i < z ∧ ia (b + 36) i = nI p
theorem KV.cg {b : Nat} {ia fi ia1 fi1 : Nat → Nat → Int32} (h : KV b ia fi) (e1 : ia1 (b + 35) = ia (b + 35)) (e2 : ia1 (b + 36) = ia (b + 36)) (e3 : fi1 (b + 33) 0 = fi (b + 33) 0) : KV b ia1 fi1 := by
  obtain ⟨z, h1, h2, h4, h3⟩ := h
  exact ⟨z, h1, e3.trans h2, fun i hi => by rw [e2]; exact h4 i hi, fun p hp hb => by rw [e1] at hb; rw [e2]; exact h3 p hp hb⟩
def Cst (b : Nat) (ia fi : Nat → Nat → Int32) (qa : Nat → Nat → Option Nat) : Prop := KV b ia fi ∧ True ∧ True ∧ (∀ i, i < 6 → ia (b + 23) i = nI i) ∧ ∀ i, i < 151 → ia (b + 29) i = 65535
def CH (b : Nat) (ia fi : Nat → Nat → Int32) (qa : Nat → Nat → Option Nat) (f : mmF) (r : Nat) (hs : Nat → mSt) : Prop := ∃ ad : Nat → Nat, (∀ j, j < 4 → qa (b + 8) j = some (ad j) ∧ ∃ k, k < 4 ∧ ad j = b + (55 + 7 * k)) ∧ (∀ i j, i < 4 → j < 4 → ad i = ad j → i = j) ∧ ∀ q, q < r → q < 4 → CSt b ia fi qa f (ad q) (hs q)
/-- the class's object holds Ω -/
def CR (b : Nat) (ia fi : Nat → Nat → Int32) (qa : Nat → Nat → Option Nat) (f : mmF) (Ω : mO) : Prop :=
  CSt b ia fi qa f (b + 1) Ω.1 ∧ CH b ia fi qa f Ω.2.1 Ω.2.2.1 ∧ fi b 2 = nI Ω.2.1 ∧ (fi b 4 = (if Ω.2.2.2.1.isSome then 1 else 0) ∧ ∀ τ, Ω.2.2.2.1 = some τ → CSt b ia fi qa f (b + 9) τ) ∧ (fi (b + 16) 0 = nI Ω.2.2.2.2.1 ∧ ∀ i, i < Ω.2.2.2.2.1 → ia (b + 17) i = nI (sgn (Ω.2.2.2.2.2 i))) ∧ Cst b ia fi qa
/-- the reference holds Ω -/
def MR (b : Nat) (ia fi : Nat → Nat → Int32) (Ω : mO) : Prop :=
  MSt (ia (b + 84)) Ω.1 ∧ (∀ q, q < Ω.2.1 → MSt (fun j => ia (b + 85) (172 * q + j)) (Ω.2.2.1 q)) ∧ fi (b + 83) 2 = nI Ω.2.1 ∧ (fi (b + 83) 4 = (if Ω.2.2.2.1.isSome then 1 else 0) ∧ ∀ τ, Ω.2.2.2.1 = some τ → MSt (ia (b + 86)) τ) ∧ fi (b + 83) 7 = nI Ω.2.2.2.2.1 ∧ ∀ i, i < Ω.2.2.2.2.1 → ia (b + 89) i = nI (Ω.2.2.2.2.2 i)
def WO (Ω : mO) : Prop := WSt Ω.1 ∧ Ω.2.1 ≤ 4 ∧ (∀ q, q < Ω.2.1 → WSt (Ω.2.2.1 q)) ∧ (∀ τ, Ω.2.2.2.1 = some τ → WSt τ) ∧ Ω.2.2.2.2.1 ≤ 30 ∧ ∀ i, i < Ω.2.2.2.2.1 → Ω.2.2.2.2.2 i < 65536
/-- below or above the border between the two -/
def lowE (b : Nat) (ia fi ia1 fi1 : Nat → Nat → Int32) : Prop := ∀ a, a < b + 83 → ia1 a = ia a ∧ fi1 a = fi a
def highE (b : Nat) (ia fi ia1 fi1 : Nat → Nat → Int32) : Prop := ∀ a, b + 83 ≤ a → ia1 a = ia a ∧ fi1 a = fi a
theorem isSt_lo {b s : Nat} (h : isSt b s) : b + 1 ≤ s ∧ s + 6 < b + 83 := by
  rcases h with rfl | rfl | ⟨j, hj, rfl⟩ <;> omega
theorem ad_St {b a : Nat} (h : ∃ k, k < 4 ∧ a = b + (55 + 7 * k)) : isSt b a := Or.inr (Or.inr h)
theorem CSt.low {b s : Nat} {ia fi ia1 fi1 : Nat → Nat → Int32} {qa : Nat → Nat → Option Nat} {f : mmF} {σ : mSt} (h : CSt b ia fi qa f s σ) (hs : isSt b s) (e : lowE b ia fi ia1 fi1) : CSt b ia1 fi1 qa f s σ := by
  have hl := isSt_lo hs
  exact h.congr (by rw [(e s (by omega)).2]) (e _ (by omega)).1 (e _ (by omega)).1 rfl
theorem CR.low {b : Nat} {ia fi ia1 fi1 : Nat → Nat → Int32} {qa : Nat → Nat → Option Nat} {f : mmF} {Ω : mO} (h : CR b ia fi qa f Ω) (e : lowE b ia fi ia1 fi1) : CR b ia1 fi1 qa f Ω := by
  obtain ⟨h1, ⟨ad, h2, h2b, h2c⟩, h3, ⟨h4, h4b⟩, ⟨h5, h5b⟩, h6a, h6b, h6c, h6d, h6e⟩ := h
  refine ⟨h1.low (Or.inl rfl) e, ⟨ad, h2, h2b, fun q hq hq4 => (h2c q hq hq4).low (ad_St (h2 q hq4).2) e⟩, ?_, ⟨?_, fun τ hτ => (h4b τ hτ).low (Or.inr (Or.inl rfl)) e⟩, ⟨?_, fun i hi => ?_⟩, h6a.cg (e _ (by omega)).1 (e _ (by omega)).1 (by rw [(e _ (by omega)).2]), h6b, h6c, fun i hi => ?_, fun i hi => ?_⟩
  · rw [(e b (by omega)).2]; exact h3
  · rw [(e b (by omega)).2]; exact h4
  · rw [(e (b + 16) (by omega)).2]; exact h5
  · rw [(e (b + 17) (by omega)).1]; exact h5b i hi
  · rw [(e (b + 23) (by omega)).1]; exact h6d i hi
  · rw [(e (b + 29) (by omega)).1]; exact h6e i hi
theorem MR.high {b : Nat} {ia fi ia1 fi1 : Nat → Nat → Int32} {Ω : mO} (h : MR b ia fi Ω) (e : highE b ia fi ia1 fi1) : MR b ia1 fi1 Ω := by
  obtain ⟨h1, h2, h3, ⟨h4, h4b⟩, h5, h6⟩ := h
  refine ⟨?_, fun q hq => ?_, ?_, ⟨?_, fun τ hτ => ?_⟩, ?_, fun i hi => ?_⟩
  · rw [(e (b + 84) (by omega)).1]; exact h1
  · rw [(e (b + 85) (by omega)).1]; exact h2 q hq
  · rw [(e (b + 83) (by omega)).2]; exact h3
  · rw [(e (b + 83) (by omega)).2]; exact h4
  · rw [(e (b + 86) (by omega)).1]; exact h4b τ hτ
  · rw [(e (b + 83) (by omega)).2]; exact h5
  · rw [(e (b + 89) (by omega)).1]; exact h6 i hi
/-- what record leaves -/
def recO (Ω : mO) : mO := (Ω.1, (if Ω.2.1 = 4 then 4 else Ω.2.1 + 1), (if Ω.2.1 = 4 then (fun q => if q = 3 then Ω.1 else Ω.2.2.1 (q + 1)) else fun q => if q = Ω.2.1 then Ω.1 else Ω.2.2.1 q), Ω.2.2.2)
theorem WO.rec {Ω : mO} (w : WO Ω) : WO (recO Ω) := by
  obtain ⟨w1, w2, w3, w4⟩ := w
  refine ⟨w1, ?_, fun q hq => ?_, w4⟩
  · show (if Ω.2.1 = 4 then 4 else Ω.2.1 + 1) ≤ 4
    split <;> omega
  · show WSt ((if Ω.2.1 = 4 then (fun q => if q = 3 then Ω.1 else Ω.2.2.1 (q + 1)) else fun q => if q = Ω.2.1 then Ω.1 else Ω.2.2.1 q) q)
    have hq' : q < (if Ω.2.1 = 4 then 4 else Ω.2.1 + 1) := hq
    by_cases h4 : Ω.2.1 = 4
    · rw [if_pos h4]
      by_cases h3 : q = 3
      · simp only [if_pos h3]; exact w1
      · simp only [if_neg h3]; exact w3 _ (by rw [if_pos h4] at hq'; omega)
    · rw [if_neg h4] at hq' ⊢
      by_cases h3 : q = Ω.2.1
      · simp only [if_pos h3]; exact w1
      · simp only [if_neg h3]; exact w3 _ (by omega)
theorem okS {b s : Nat} {ia fi : Nat → Nat → Int32} {fl : Nat → Nat → Int64} {qa : Nat → Nat → Option Nat} {f : mmF} (h : isSt b s) : okQ (wr (SK b) ia fi fl qa f) 7 (some s) = true := wr_okS (KS (i := 0) h (by decide))
section CREC
variable {b : Nat} {ia fi : Nat → Nat → Int32} {fl : Nat → Nat → Int64} {qa : Nat → Nat → Option Nat} {f : mmF} {Ω : mO}
theorem rec57 {r hh : Nat} (hr : fi b 2 = nI r) (h4 : r < 4) (hq : qa (b + 8) r = some hh) (hst : isSt b hh) (hne : hh ≠ b + 1) (ho : ∀ i, i < 5 → (∀ v, qa (b + 1 + 3) i = some v → SK b v = none) ∧ okQ f 0 (qa (b + 1 + 3) i) = true) : f_X9_record_57 b (wr (SK b) ia fi fl qa f) = some (wr (SK b) (rw2 (rw2 ia (hh + 1) (fun j => if j < 8 then ia (b + 1 + 1) j else ia (hh + 1) j)) (hh + 2) (fun j => if j < 8 then ia (b + 1 + 2) j else ia (hh + 2) j)) (u2 (u2 fi hh 0 (fi (b + 1) 0)) b 2 (nI (r + 1))) fl (rw2 qa (hh + 3) (fun j => if j < 5 then qa (b + 1 + 3) j else qa (hh + 3) j)) f) := by
  have hb1 : isSt b (b + 1) := Or.inl rfl
  have hhb : hh ≠ b := by
    rcases hst with rfl | rfl | ⟨j, hj, rfl⟩ <;> omega
  unfold f_X9_record_57
  rw [R_0_1]
  simp only [Option.bind_some]
  rw [I_0_2]
  simp only [Option.bind_some]
  rw [hr, N_8 h4 hq]
  simp only [Option.bind_some]
  rw [R_0_0]
  simp only [Option.bind_some]
  rw [S_ck hst]
  simp only [Option.bind_some]
  rw [tf hst hb1 hne ho]
  simp only [Option.bind_some]
  rw [I_0_2]
  simp only [Option.bind_some]
  rw [u2_a _ _ (Ne.symm hhb), hr, nI_1, sI_0_2]
  rfl
/-- the record's contents: cells of the class's State r taken, all else as before -/
theorem CR_take {ad : Nat → Nat} {r : Nat} (h1 : CSt b ia fi qa f (b + 1) Ω.1) (w1 : WSt Ω.1) (hA : ∀ j, j < 4 → qa (b + 8) j = some (ad j) ∧ ∃ k, k < 4 ∧ ad j = b + (55 + 7 * k)) (hI : ∀ i j, i < 4 → j < 4 → ad i = ad j → i = j) {hs : Nat → mSt} (hH : ∀ q, q < r → q < 4 → CSt b ia fi qa f (ad q) (hs q)) (h4 : (fi b 4 = (if Ω.2.2.2.1.isSome then 1 else 0) ∧ ∀ τ, Ω.2.2.2.1 = some τ → CSt b ia fi qa f (b + 9) τ)) (h5 : (fi (b + 16) 0 = nI Ω.2.2.2.2.1 ∧ ∀ i, i < Ω.2.2.2.2.1 → ia (b + 17) i = nI (sgn (Ω.2.2.2.2.2 i)))) (h6 : Cst b ia fi qa) (hr : r < 4) :
    CR b (rw2 (rw2 ia (ad r + 1) (fun j => if j < 8 then ia (b + 1 + 1) j else ia (ad r + 1) j)) (ad r + 2) (fun j => if j < 8 then ia (b + 1 + 2) j else ia (ad r + 2) j)) (u2 (u2 fi (ad r) 0 (fi (b + 1) 0)) b 2 (nI (r + 1))) (rw2 qa (ad r + 3) (fun j => if j < 5 then qa (b + 1 + 3) j else qa (ad r + 3) j)) f (Ω.1, r + 1, (fun q => if q = r then Ω.1 else hs q), Ω.2.2.2) ∧
    highE b ia fi (rw2 (rw2 ia (ad r + 1) (fun j => if j < 8 then ia (b + 1 + 1) j else ia (ad r + 1) j)) (ad r + 2) (fun j => if j < 8 then ia (b + 1 + 2) j else ia (ad r + 2) j)) (u2 (u2 fi (ad r) 0 (fi (b + 1) 0)) b 2 (nI (r + 1))) := by
  obtain ⟨k, hk, hadr⟩ := (hA r hr).2
  have e1 : ∀ a : Nat, a ≠ ad r + 1 → a ≠ ad r + 2 → (rw2 (rw2 ia (ad r + 1) (fun j => if j < 8 then ia (b + 1 + 1) j else ia (ad r + 1) j)) (ad r + 2) (fun j => if j < 8 then ia (b + 1 + 2) j else ia (ad r + 2) j)) a = ia a := fun a x y => by rw [rw2_n _ _ y, rw2_n _ _ x]
  have e2 : ∀ a j : Nat, a ≠ ad r → (a ≠ b ∨ j ≠ 2) → (u2 (u2 fi (ad r) 0 (fi (b + 1) 0)) b 2 (nI (r + 1))) a j = fi a j := fun a j x y => by
    rcases y with y | y
    · rw [u2_a _ _ y, u2_a _ _ x]
    · rw [u2_i _ _ y, u2_a _ _ x]
  have e3 : ∀ a : Nat, a ≠ ad r + 3 → (rw2 qa (ad r + 3) (fun j => if j < 5 then qa (b + 1 + 3) j else qa (ad r + 3) j)) a = qa a := fun a x => rw2_n _ _ x
  refine ⟨⟨?_, ⟨ad, fun j hj => ?_, hI, fun q hq hq4 => ?_⟩, u2_s _ _ _ _, ⟨?_, fun τ hτ => ?_⟩, ⟨?_, fun i hi => ?_⟩, ?_⟩, fun a ha => ⟨?_, ?_⟩⟩
  · exact h1.congr (e2 _ _ (by omega) (by omega)) (e1 _ (by omega) (by omega)) (e1 _ (by omega) (by omega)) (e3 _ (by omega))
  · rw [e3 _ (by omega)]; exact hA j hj
  · show CSt b _ _ _ f (ad q) (if q = r then Ω.1 else hs q)
    by_cases hqr : q = r
    · subst hqr
      rw [if_pos rfl]
      refine h1.copy w1 ?_ (fun j hj => ?_) (fun j hj => ?_) (fun j hj => ?_)
      · rw [u2_a _ _ (by omega), u2_s]
      · rw [rw2_n _ _ (by omega), rw2_s]; exact if_pos hj
      · rw [rw2_s]; exact if_pos hj
      · rw [rw2_s]; exact if_pos hj
    · rw [if_neg hqr]
      have hq2 : q < r := by
        have : q < r + 1 := hq
        omega
      obtain ⟨k2, hk2, hadq⟩ := (hA q hq4).2
      have hne : ad q ≠ ad r := fun h => hqr (hI q r hq4 hr h)
      have hkk : k2 ≠ k := fun h => hne (by rw [hadq, hadr, h])
      exact (hH q hq2 hq4).congr (e2 _ _ hne (by omega)) (e1 _ (by omega) (by omega)) (e1 _ (by omega) (by omega)) (e3 _ (by omega))
  · rw [e2 _ _ (by omega) (by omega)]; exact h4.1
  · exact (h4.2 τ hτ).congr (e2 _ _ (by omega) (by omega)) (e1 _ (by omega) (by omega)) (e1 _ (by omega) (by omega)) (e3 _ (by omega))
  · rw [e2 _ _ (by omega) (by omega)]; exact h5.1
  · rw [e1 _ (by omega) (by omega)]; exact h5.2 i hi
  · obtain ⟨c1, c2, c3, c4, c5⟩ := h6
    refine ⟨c1.cg (e1 _ (by omega) (by omega)) (e1 _ (by omega) (by omega)) (e2 _ _ (by omega) (by omega)), c2, c3, fun i hi => ?_, fun i hi => ?_⟩
    · rw [e1 _ (by omega) (by omega)]; exact c4 i hi
    · rw [e1 _ (by omega) (by omega)]; exact c5 i hi
  · exact e1 _ (by omega) (by omega)
  · funext j; exact e2 _ _ (by omega) (by omega)
theorem rec17 {ad : Nat → Nat} {o : Option mmF} (hA : ∀ j, j < 4 → qa (b + 8) j = some (ad j) ∧ ∃ k, k < 4 ∧ ad j = b + (55 + 7 * k)) (ho : f_X9_record_57 b (wr (SK b) ia (u2 fi b 2 3) fl (rw2 qa (b + 8) (fun j => if j = 3 then some (ad 0) else if j + 1 < 4 then qa (b + 8) (j + 1) else qa (b + 8) j)) f) = o) : ∀ (m i q : Nat), i + m = 4 → 1 ≤ i → m < q → f_X9_record_17 q b (ad 0) (nI i) (wr (SK b) ia fi fl (rw2 qa (b + 8) (fun j => if j + 1 < i then qa (b + 8) (j + 1) else qa (b + 8) j)) f) = o := by
  intro m
  induction m with
  | zero =>
    intro i q hi h1 hq
    obtain ⟨q, rfl⟩ : ∃ j, q = j + 1 := ⟨q - 1, by omega⟩
    have : i = 4 := by omega
    subst this
    rw [f_X9_record_17, if_pos (show (4 : Int32) ≤ nI 4 by decide), sI_0_2]
    simp only [Option.bind_some]
    rw [R_0_1]
    simp only [Option.bind_some]
    rw [I_0_2, u2_s]
    simp only [Option.bind_some]
    rw [show (3 : Int32) = nI 3 from rfl, sQ_8 (i := 3) (by decide) (okS (ad_St (hA 0 (by decide)).2)), u2_rw2]
    simp only [Option.bind_some]
    exact ho
  | succ m ih =>
    intro i q hi h1 hq
    obtain ⟨q, rfl⟩ : ∃ j, q = j + 1 := ⟨q - 1, by omega⟩
    obtain ⟨p, rfl⟩ : ∃ p, i = p + 1 := ⟨i - 1, by omega⟩
    have hlt : ¬ (4 : Int32) ≤ nI (p + 1) := nI_ge (a := p + 1) (b := 4) (by omega) (by decide)
    rw [f_X9_record_17, if_neg hlt, R_0_1]
    simp only [Option.bind_some]
    rw [N_8 (i := p + 1) (v := ad (p + 1)) (by omega) (by rw [rw2_s, if_neg (show ¬ p + 1 + 1 < p + 1 by omega)]; exact (hA (p + 1) (by omega)).1), nI_pred]
    simp only [Option.bind_some]
    rw [sQ_8 (i := p) (by omega) (okS (ad_St (hA (p + 1) (by omega)).2)), u2_rw2]
    simp only [Option.bind_some]
    rw [nI_1, ← ih (p + 1 + 1) q (by omega) (by omega) (by omega)]
    congr 3
    funext j
    by_cases h : j = p
    · subst h; rw [if_pos rfl, if_pos (by omega), (hA (j + 1) (by omega)).1]
    · rw [if_neg h]
      by_cases h2 : j + 1 < p + 1
      · rw [if_pos h2, if_pos (by omega)]
      · rw [if_neg h2, if_neg (by omega)]
theorem C_rec (h : CR b ia fi qa f Ω) (w : WO Ω) : ∃ (ia1 fi1 : Nat → Nat → Int32) (qa1 : Nat → Nat → Option Nat), f_X9_record b (wr (SK b) ia fi fl qa f) = some (wr (SK b) ia1 fi1 fl qa1 f) ∧ CR b ia1 fi1 qa1 f (recO Ω) ∧ highE b ia fi ia1 fi1 := by
  obtain ⟨h1, ⟨ad, hA, hI, hH⟩, h3, h4, h5, h6⟩ := h
  have w1 := w.1
  have hr4 := w.2.1
  by_cases hr : Ω.2.1 = 4
  · obtain ⟨p, hp⟩ := FU_1000
    have hA2 : ∀ j, j < 4 → (rw2 qa (b + 8) (fun j => if j = 3 then some (ad 0) else if j + 1 < 4 then qa (b + 8) (j + 1) else qa (b + 8) j)) (b + 8) j = some (if j < 3 then ad (j + 1) else ad 0) ∧ ∃ k, k < 4 ∧ (if j < 3 then ad (j + 1) else ad 0) = b + (55 + 7 * k) := by
      intro j hj
      rw [rw2_s]
      by_cases h3 : j < 3
      · rw [if_pos h3]
        show (if j = 3 then some (ad 0) else if j + 1 < 4 then qa (b + 8) (j + 1) else qa (b + 8) j) = _ ∧ _
        rw [if_neg (by omega), if_pos (by omega)]
        exact hA (j + 1) (by omega)
      · have : j = 3 := by omega
        subst this
        exact ⟨rfl, (hA 0 (by decide)).2⟩
    have hI2 : ∀ i j, i < 4 → j < 4 → (if i < 3 then ad (i + 1) else ad 0) = (if j < 3 then ad (j + 1) else ad 0) → i = j := by
      intro i j hi hj he
      by_cases hi3 : i < 3 <;> by_cases hj3 : j < 3
      · rw [if_pos hi3, if_pos hj3] at he
        have := hI _ _ (by omega) (by omega) he
        omega
      · rw [if_pos hi3, if_neg hj3] at he
        have := hI _ _ (by omega) (by omega) he
        omega
      · rw [if_neg hi3, if_pos hj3] at he
        have := hI _ _ (by omega) (by omega) he
        omega
      · omega
    have qo : ∀ a : Nat, a ≠ b + 8 → (rw2 qa (b + 8) (fun j => if j = 3 then some (ad 0) else if j + 1 < 4 then qa (b + 8) (j + 1) else qa (b + 8) j)) a = qa a := fun a x => rw2_n _ _ x
    have fo2 : ∀ a j : Nat, (a ≠ b ∨ j ≠ 2) → u2 fi b 2 3 a j = fi a j := fun a j y => by
      rcases y with y | y
      · rw [u2_a _ _ y]
      · rw [u2_i _ _ y]
    have hC1 : CSt b ia (u2 fi b 2 3) (rw2 qa (b + 8) (fun j => if j = 3 then some (ad 0) else if j + 1 < 4 then qa (b + 8) (j + 1) else qa (b + 8) j)) f (b + 1) Ω.1 := h1.congr (fo2 _ _ (by omega)) rfl rfl (qo _ (by omega))
    obtain ⟨k0, hk0, had0⟩ := (hA 0 (by decide)).2
    have hT := CR_take (Ω := Ω) (ad := fun j => if j < 3 then ad (j + 1) else ad 0) (r := 3) (hs := fun q => Ω.2.2.1 (q + 1)) hC1 w1 hA2 hI2 (fun q hq _ => by
      obtain ⟨k, hk, hadq⟩ := (hA (q + 1) (by omega)).2
      show CSt b _ _ _ f (if q < 3 then ad (q + 1) else ad 0) _
      rw [if_pos hq]
      exact (hH (q + 1) (by omega) (by omega)).congr (fo2 _ _ (by omega)) rfl rfl (qo _ (by omega))) ⟨by rw [fo2 _ _ (by omega)]; exact h4.1, fun τ hτ => (h4.2 τ hτ).congr (fo2 _ _ (by omega)) rfl rfl (qo _ (by omega))⟩ ⟨by rw [fo2 _ _ (by omega)]; exact h5.1, h5.2⟩ (by
      obtain ⟨c1, c2, c3, c4, c5⟩ := h6
      exact ⟨c1.cg rfl rfl (fo2 _ _ (by omega)), c2, c3, c4, c5⟩) (by decide)
    have hX := rec57 (b := b) (ia := ia) (fi := u2 fi b 2 3) (fl := fl) (f := f) (r := 3) (hh := ad 0) (u2_s _ _ _ _) (by decide) (hA2 3 (by decide)).1 (ad_St ⟨k0, hk0, had0⟩) (by omega) hC1.2.out
    have hY := rec17 (ia := ia) (fi := fi) (fl := fl) (f := f) hA hX 3 1 FU (by decide) (by decide) (by omega)
    rw [if_neg (show ¬ (3 : Nat) < 3 by decide)] at hT
    have eO : recO Ω = (Ω.1, 3 + 1, (fun q => if q = 3 then Ω.1 else Ω.2.2.1 (q + 1)), Ω.2.2.2) := by
      unfold recO
      rw [if_pos hr, if_pos hr]
    refine ⟨_, _, _, ?_, (by rw [eO]; exact hT.1), fun a ha => ⟨(hT.2 a ha).1, ?_⟩⟩
    · unfold f_X9_record
      rw [I_0_2]
      simp only [Option.bind_some]
      rw [h3, hr, if_neg (show ¬ nI 4 < 4 by decide), R_0_1]
      simp only [Option.bind_some]
      rw [show (0 : Int32) = nI 0 from rfl, N_8 (by decide) (hA 0 (by decide)).1]
      simp only [Option.bind_some]
      have e0 : (fun j => if j + 1 < 1 then qa (b + 8) (j + 1) else qa (b + 8) j) = qa (b + 8) := by
        funext j
        rw [if_neg (by omega)]
      rw [e0, rw2_id] at hY
      exact hY
    · rw [(hT.2 a ha).2]
      funext j
      exact fo2 _ _ (by omega)
  · have hlt : Ω.2.1 < 4 := by omega
    obtain ⟨k0, hk0, had0⟩ := (hA Ω.2.1 hlt).2
    have hT := CR_take (Ω := Ω) (ad := ad) (r := Ω.2.1) (hs := Ω.2.2.1) h1 w1 hA hI hH h4 h5 h6 hlt
    have hX := rec57 (b := b) (ia := ia) (fi := fi) (fl := fl) (f := f) h3 hlt (hA _ hlt).1 (ad_St ⟨k0, hk0, had0⟩) (by omega) h1.2.out
    have hE : f_X9_record b (wr (SK b) ia fi fl qa f) = f_X9_record_57 b (wr (SK b) ia fi fl qa f) := by
      unfold f_X9_record
      rw [I_0_2]
      simp only [Option.bind_some]
      have h4' : fi b 2 < 4 := by rw [h3]; exact nI_lt (b := 4) hlt (by decide)
      rw [if_pos h4']
    have e : recO Ω = (Ω.1, Ω.2.1 + 1, (fun q => if q = Ω.2.1 then Ω.1 else Ω.2.2.1 q), Ω.2.2.2) := by
      unfold recO
      rw [if_neg hr, if_neg hr]
    rw [e]
    exact ⟨_, _, _, hE.trans hX, hT.1, hT.2⟩
end CREC
