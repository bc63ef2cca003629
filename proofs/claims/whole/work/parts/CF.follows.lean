/-! WHAT FOLLOWS: both sides, the reference's search (refF) still owed -/
/-- the reference's search tells what follows -/
def refF (b : Nat) (f : mmF) (Ω : mO) : Prop := ∀ (W p : Nat), qOk Ω W p → ∀ (ia fi : Nat → Nat → Int32) (fl : Nat → Nat → Int64) (qa : Nat → Nat → Option Nat), MR b ia fi Ω → ∃ (ia1 fi1 : Nat → Nat → Int32), f_X10_isFollowing (b + 83) (nI W) (nI p) (wr (SK b) ia fi fl qa f) = some (foV Ω.1.2.2.2.1 Ω.1.2.2.2.2 W p, wr (SK b) ia1 fi1 fl qa f) ∧ hE b ia fi ia1 fi1
section FOLLOWS
variable {b : Nat} {ia fi : Nat → Nat → Int32} {fl : Nat → Nat → Int64} {qa : Nat → Nat → Option Nat} {f : mmF} {Ω : mO} {W p V : Nat} {S : Nat} {kd lf rt : Nat → Nat} {Pn : Nat → Nat → Nat}
theorem foV_01 (K : Nat → Nat) (G : Nat → Nat → Nat) (W p : Nat) : (FolS K G W p ∧ foV K G W p = 1) ∨ (¬ FolS K G W p ∧ foV K G W p = 0) := by
  unfold foV
  by_cases h : FolS K G W p
  · exact Or.inl ⟨h, if_pos h⟩
  · exact Or.inr ⟨h, if_neg h⟩
theorem foV_t (K : Nat → Nat) (G : Nat → Nat → Nat) (W p : Nat) (μ : mmF) : f_X9_truth (foV K G W p) μ = some (foV K G W p) := by
  rcases foV_01 K G W p with ⟨_, h⟩ | ⟨_, h⟩ <;> rw [h] <;> rfl
/-- the class, behind lookAt -/
def cqI (b : Nat) (ia fi : Nat → Nat → Int32) (fl : Nat → Nat → Int64) (qa : Nat → Nat → Option Nat) (f : mmF) (Ω : mO) (V S : Nat) (kd lf rt : Nat → Nat) (Pn : Nat → Nat → Nat) : Prop := TK b ia fi Ω.1.2.2.2.1 Ω.1.2.2.2.2 V S kd lf rt Pn 5 ∧ pvI b ia fi S kd lf rt ∧ CR b ia fi qa f Ω
theorem CR.srch {ia1 fi1 : Nat → Nat → Int32} (h : CR b ia fi qa f Ω) (e : ∀ a : Nat, a < b + 33 ∨ b + 55 ≤ a → ia1 a = ia a) (e2 : ∀ a j : Nat, a < b + 33 ∨ b + 55 ≤ a → fi1 a j = fi a j) (kv : KV b ia1 fi1) : CR b ia1 fi1 qa f Ω ∧ highE b ia fi ia1 fi1 := by
  obtain ⟨h1, ⟨ad, hA, hI, hH⟩, h3, ⟨h4, h4b⟩, ⟨h5, h5b⟩, c1, c2, c3, c4, c5⟩ := h
  refine ⟨⟨?_, ⟨ad, hA, hI, fun q hq hq4 => ?_⟩, ?_, ⟨?_, fun τ hτ => ?_⟩, ⟨?_, fun i hi => ?_⟩, kv, c2, c3, fun i hi => ?_, fun i hi => ?_⟩, fun a ha => ⟨e a (by omega), funext fun j => e2 a j (by omega)⟩⟩
  · exact h1.congr (e2 _ _ (by omega)) (e _ (by omega)) (e _ (by omega)) rfl
  · obtain ⟨k, hk, ha⟩ := (hA q hq4).2
    exact (hH q hq hq4).congr (e2 _ _ (by omega)) (e _ (by omega)) (e _ (by omega)) rfl
  · rw [e2 _ _ (by omega)]; exact h3
  · rw [e2 _ _ (by omega)]; exact h4
  · exact (h4b τ hτ).congr (e2 _ _ (by omega)) (e _ (by omega)) (e _ (by omega)) rfl
  · rw [e2 _ _ (by omega)]; exact h5
  · rw [e _ (by omega)]; exact h5b i hi
  · rw [e _ (by omega)]; exact c4 i hi
  · rw [e _ (by omega)]; exact c5 i hi
theorem LKA.cq (h : LKA b ia fi Ω.1.2.2.2.1 Ω.1.2.2.2.2 V S kd lf rt Pn) (hc : CR b ia fi qa f Ω) : cqI b ia fi fl qa f Ω V S kd lf rt Pn := by
  obtain ⟨h1, h2, h3, h4, h5, h6⟩ := h
  exact ⟨h1, ⟨⟨h1.1, h1.2.1, h2⟩, ⟨0, 0, by decide, Nat.le_refl _, h3, h4, fun i hi => absurd hi (Nat.not_lt_zero _)⟩, ⟨0, 0, by decide, Nat.le_refl _, h5, h6, fun i hi => absurd hi (Nat.not_lt_zero _)⟩⟩, hc⟩
theorem C_found (h : cqI b ia fi fl qa f Ω V S kd lf rt Pn) (w : WO Ω) (hW : W < 32) (hp : p < 5) (hV : ∀ i, (W.testBit i = true ∨ i = p) → i < 5 ∧ selP Ω.1.2.2.2.1 V i) : ∃ (ia1 fi1 : Nat → Nat → Int32) (fl1 : Nat → Nat → Int64), f_X5_isFound (b + 20) (nI W) (nI p) (wr (SK b) ia fi fl qa f) = some (foV Ω.1.2.2.2.1 Ω.1.2.2.2.2 W p, wr (SK b) ia1 fi1 fl1 qa f) ∧ cqI b ia1 fi1 fl1 qa f Ω V S kd lf rt Pn ∧ highE b ia fi ia1 fi1 := by
  obtain ⟨h1, h2, h3⟩ := h
  obtain ⟨ia1, fi1, a1, a2, a3, p1, p2, p3⟩ := found_c (fl := fl) (qa := qa) (f := f) hW hp (hV p (Or.inr rfl)).2 (fun i hi => hV i (Or.inl hi)) (fun j hj h0 => (w.1.2 j hj h0).ok) h1 h2 h3.2.2.2.2.2.1
  have hS := h3.srch p1 p2 p3
  exact ⟨ia1, fi1, fl, a1, ⟨a3, a2, hS.1⟩, hS.2⟩
theorem C_follows (h : CR b ia fi qa f Ω) (w : WO Ω) {kn : Nat} (hkn : KNf b f kn) (hq : qOk Ω W p) (h0 : f_X9_questionError b (nI W) (nI p) (wr (SK b) ia fi fl qa f) = some 0) : CRes b f ia fi (f_X9_follows kn b (nI W) (nI p) (wr (SK b) ia fi fl qa f)) (foV Ω.1.2.2.2.1 Ω.1.2.2.2.2 W p) Ω := by
  obtain ⟨ia1, fi1, S, kd, lf, rt, Pn, z1, z2, z3, z4⟩ := C_asks (fl := fl) h w hkn hq
  obtain ⟨ia2, fi2, fl2, a1, a2, a3⟩ := C_found (z2.cq (fl := fl) z3) w hq.1 hq.2.1 (fun i hi => hq.sel hi)
  unfold f_X9_follows
  simp only [ck_0, h0, z1, Option.bind_some, if_true, R_0_6, ck_20, a1, foV_t]
  exact ⟨ia2, fi2, fl2, qa, rfl, a2.2.2, z4.tr a3⟩
theorem M_follows (h : MR b ia fi Ω) (hr : refF b f Ω) (hq : qOk Ω W p) (h0 : f_X10_isBad (b + 83) (nI W) (wr (SK b) ia fi fl qa f) = some 0 ∧ f_X10_noClaim (b + 83) (nI p) (wr (SK b) ia fi fl qa f) = some 0) : MRes b f ia fi qa (f_X10_follows (b + 83) (nI W) (nI p) (wr (SK b) ia fi fl qa f)) (foV Ω.1.2.2.2.1 Ω.1.2.2.2.2 W p) Ω := by
  obtain ⟨ia1, fi1, a1, a2⟩ := hr W p hq ia fi fl qa h
  obtain ⟨m1, m2⟩ := h.hE a2
  unfold f_X10_follows
  simp only [ck_83, h0.1, h0.2, Option.bind_some, if_true, a1]
  rcases foV_01 Ω.1.2.2.2.1 Ω.1.2.2.2.2 W p with ⟨_, e⟩ | ⟨_, e⟩
  · rw [e, if_neg (by decide)]
    exact ⟨ia1, fi1, fl, rfl, m1, m2⟩
  · rw [e, if_pos rfl]
    exact ⟨ia1, fi1, fl, rfl, m1, m2⟩
theorem t_follows (w : WO Ω) (hr : refF b f Ω) {kn : Nat} (hkn : KNf b f kn) (x y : Int32) : Meth b f Ω (fun μ => f_X9_follows kn b x y μ) (fun μ => f_X10_follows (b + 83) x y μ) := by
  refine asks_t w x y (fun ia fi fl qa e e0 h he => ?_) (fun ia fi fl qa h => ⟨fun h1 => ?_, fun h1 h2 => ?_⟩) (fun W p ex ey hq h1 h2 => ?_)
  · show f_X9_follows kn b x y _ = _
    unfold f_X9_follows
    simp only [ck_0, he, Option.bind_some, if_neg e0]
  · show f_X10_follows (b + 83) x y _ = _
    unfold f_X10_follows
    simp only [ck_83, h1, Option.bind_some, i10, if_false]
  · show f_X10_follows (b + 83) x y _ = _
    unfold f_X10_follows
    simp only [ck_83, h1, h2, Option.bind_some, i10, i00, if_true, if_false]
  · subst ex ey
    exact ⟨_, Ω, w, fun ia fi fl qa h => C_follows h w hkn hq (h1 ia fi fl qa h), fun ia fi fl qa h => M_follows h hr hq (h2 ia fi fl qa h)⟩
theorem t_claim_5 (w : WO Ω) (hr : refF b f Ω) {kn : Nat} (hkn : KNf b f kn) {p : Nat} (hp : p < 5) (h0 : 0 < Ω.1.2.2.2.1 p) : Meth b f Ω (fun μ => f_X9_claim kn b (nI p) 5 μ) (fun μ => f_X10_claim (b + 83) (nI p) 5 μ) := by
  have k30 := w.1.k30 hp
  refine ⟨foV Ω.1.2.2.2.1 Ω.1.2.2.2.2 0 p, Ω, w, fun ia fi fl qa h => ?_, fun ia fi fl qa h => ?_⟩
  · obtain ⟨ia1, fi1, S, kd, lf, rt, Pn, c, z1, z2, z3, z4, z5⟩ := C_claim (fl := fl) h w hkn hp h0
    obtain ⟨ia2, fi2, fl2, a1, a2, a3⟩ := C_found (W := 0) (p := p) (z2.cq (fl := fl) z3) w (by decide) hp (fun i hi => by
      rcases hi with hi | rfl
      · rw [Nat.zero_testBit] at hi; cases hi
      · exact ⟨hp, h0, Nat.testBit_two_pow_self⟩)
    rw [show nI 0 = (0 : Int32) from rfl] at a1
    show CRes b f ia fi (f_X9_claim kn b (nI p) 5 _) _ _
    rw [z1 5]
    unfold claimT
    rw [if_neg (by decide), if_neg (by decide), if_neg (by decide), if_neg (by decide), if_neg (by decide), if_pos rfl]
    simp only [R_0_6, ck_20, a1, foV_t, Option.bind_some]
    exact ⟨ia2, fi2, fl2, qa, rfl, a2.2.2, z4.tr a3⟩
  · show MRes b f ia fi qa (f_X10_claim (b + 83) (nI p) 5 _) _ _
    have hn : f_X10_noClaim (b + 83) (nI p) (wr (SK b) ia fi fl qa f) = some 0 := by
      rw [noClaim_t h.1.2 hp (show Ω.1.2.2.2.1 p < 2 ^ 31 by omega), if_neg (by omega)]
    obtain ⟨ia1, fi1, a1, a2⟩ := hr 0 p (qOk.one hp h0) ia fi fl qa h
    obtain ⟨m1, m2⟩ := h.hE a2
    rw [show nI 0 = (0 : Int32) from rfl] at a1
    refine ⟨ia1, fi1, fl, ?_, m1, m2⟩
    unfold f_X10_claim
    simp only [ck_83, hn, Option.bind_some, if_true, R_83_0, A16]
    rw [if_neg (by decide), if_neg (by decide), if_neg (by decide), if_neg (by decide), if_neg (by decide)]
    simp only [a1, Option.bind_some]
    rcases foV_01 Ω.1.2.2.2.1 Ω.1.2.2.2.2 0 p with ⟨_, e⟩ | ⟨_, e⟩
    · rw [e, if_neg (by decide)]
    · rw [e, if_pos rfl]
theorem qOk.pair {p r : Nat} (hp : p < 5) (h0 : 0 < Ω.1.2.2.2.1 p) (hr : r < 5) (hr0 : 0 < Ω.1.2.2.2.1 r) : qOk Ω (2 ^ p) r := ⟨Nat.pow_lt_pow_right (n := 5) (by decide) hp, hr, hr0, fun i hi => by
  rw [Nat.testBit_two_pow, decide_eq_true_eq] at hi
  subst hi
  exact ⟨hp, h0⟩⟩
theorem t_relation (w : WO Ω) (hr : refF b f Ω) {kn : Nat} (hkn : KNf b f kn) (x y : Int32) : Meth b f Ω (fun μ => f_X9_relation kn b x y μ) (fun μ => f_X10_relation (b + 83) x y μ) := by
  have no : ∀ z : Int32, (∃ k, k < 5 ∧ z = nI k ∧ 0 < Ω.1.2.2.2.1 k) ∨ ((∀ (ia fi : Nat → Nat → Int32) (fl : Nat → Nat → Int64) (qa : Nat → Nat → Option Nat), CR b ia fi qa f Ω → f_X9_claimAt b z (wr (SK b) ia fi fl qa f) = some none) ∧ ∀ (ia fi : Nat → Nat → Int32) (fl : Nat → Nat → Int64) (qa : Nat → Nat → Option Nat), MR b ia fi Ω → f_X10_noClaim (b + 83) z (wr (SK b) ia fi fl qa f) = some 1) := by
    intro z
    by_cases hz : ∃ k, k < 5 ∧ z = nI k
    · obtain ⟨k, hk, rfl⟩ := hz
      have k30 := w.1.k30 hk
      by_cases h0 : Ω.1.2.2.2.1 k = 0
      · refine Or.inr ⟨fun ia fi fl qa h => ?_, fun ia fi fl qa h => ?_⟩
        · rw [claimAt_t hk]
          rcases h.1.2 k hk with ⟨_, h1⟩ | ⟨h1, _⟩
          · exact congrArg some h1
          · omega
        · rw [noClaim_t h.1.2 hk (show Ω.1.2.2.2.1 k < 2 ^ 31 by omega), if_pos h0]
      · exact Or.inl ⟨k, hk, rfl, by omega⟩
    · have hz2 : ∀ k, k < 5 → z ≠ nI k := fun k hk e => hz ⟨k, hk, e⟩
      exact Or.inr ⟨fun ia fi fl qa h => claimAt_f hz2, fun ia fi fl qa h => noClaim_f hz2⟩
  have yes : ∀ k, k < 5 → 0 < Ω.1.2.2.2.1 k → (∀ (ia fi : Nat → Nat → Int32) (fl : Nat → Nat → Int64) (qa : Nat → Nat → Option Nat), CR b ia fi qa f Ω → ∃ c, f_X9_claimAt b (nI k) (wr (SK b) ia fi fl qa f) = some (some c)) ∧ ∀ (ia fi : Nat → Nat → Int32) (fl : Nat → Nat → Int64) (qa : Nat → Nat → Option Nat), MR b ia fi Ω → f_X10_noClaim (b + 83) (nI k) (wr (SK b) ia fi fl qa f) = some 0 := by
    intro k hk h0
    have k30 := w.1.k30 hk
    refine ⟨fun ia fi fl qa h => ?_, fun ia fi fl qa h => ?_⟩
    · rw [claimAt_t hk]
      rcases h.1.2 k hk with ⟨h1, _⟩ | ⟨_, c, h1, _⟩
      · omega
      · exact ⟨c, congrArg some h1⟩
    · rw [noClaim_t h.1.2 hk (show Ω.1.2.2.2.1 k < 2 ^ 31 by omega), if_neg (by omega)]
  rcases no x with ⟨k, hk, rfl, k0⟩ | ⟨n1, n2⟩
  · rcases no y with ⟨r, hr5, rfl, r0⟩ | ⟨n1, n2⟩
    · refine ⟨foV Ω.1.2.2.2.1 Ω.1.2.2.2.2 (2 ^ k) r + 2 * foV Ω.1.2.2.2.1 Ω.1.2.2.2.2 (2 ^ r) k, Ω, w, fun ia fi fl qa h => ?_, fun ia fi fl qa h => ?_⟩
      · show CRes b f ia fi (f_X9_relation kn b (nI k) (nI r) _) _ _
        obtain ⟨c1, e1⟩ := (yes k hk k0).1 ia fi fl qa h
        obtain ⟨c2, e2⟩ := (yes r hr5 r0).1 ia fi fl qa h
        have hVW : 2 ^ k ||| 2 ^ r < 32 := (qOk.pair (Ω := Ω) hk k0 hr5 r0).W32
        obtain ⟨ia1, fi1, S, kd, lf, rt, Pn, z1, z2, z3, z4⟩ := C_look (fl := fl) h w hkn hVW
        have hV : ∀ i, i = k ∨ i = r → i < 5 ∧ selP Ω.1.2.2.2.1 (2 ^ k ||| 2 ^ r) i := fun i hi => by
          rcases hi with rfl | rfl
          · exact ⟨hk, k0, by rw [Nat.testBit_or, Nat.testBit_two_pow_self, Bool.true_or]⟩
          · exact ⟨hr5, r0, by rw [Nat.testBit_or, Nat.testBit_two_pow_self, Bool.or_true]⟩
        have tp : ∀ i m, (2 ^ m).testBit i = true → i = m := fun i m hi => by
          rw [Nat.testBit_two_pow, decide_eq_true_eq] at hi
          exact hi.symm
        obtain ⟨ia2, fi2, fl2, a1, a2, a3⟩ := C_found (W := 2 ^ k) (p := r) (z2.cq (fl := fl) z3) w (qOk.pair (Ω := Ω) hk k0 hr5 r0).1 hr5 (fun i hi => hV i (hi.elim (fun h => Or.inl (tp i k h)) Or.inr))
        obtain ⟨ia3, fi3, fl3, b1, b2, b3⟩ := C_found (W := 2 ^ r) (p := k) a2 w (qOk.pair (Ω := Ω) hr5 r0 hk k0).1 hk (fun i hi => hV i (hi.elim (fun h => Or.inr (tp i r h)) Or.inl))
        unfold f_X9_relation
        simp only [ck_0, e1, e2, qc, Option.bind_some, bt_shl (show k < 32 by omega), bt_shl (show r < 32 by omega), fa_or, z1, R_0_6, ck_20, a1, b1, foV_t]
        exact ⟨ia3, fi3, fl3, qa, rfl, b2.2.2, (z4.tr a3).tr b3⟩
      · show MRes b f ia fi qa (f_X10_relation (b + 83) (nI k) (nI r) _) _ _
        have e1 := (yes k hk k0).2 ia fi fl qa h
        have e2 := (yes r hr5 r0).2 ia fi fl qa h
        obtain ⟨ia1, fi1, a1, a2⟩ := hr (2 ^ k) r (qOk.pair hk k0 hr5 r0) ia fi fl qa h
        obtain ⟨m1, m2⟩ := h.hE a2
        obtain ⟨ia2, fi2, b1, b2⟩ := hr (2 ^ r) k (qOk.pair hr5 r0 hk k0) ia1 fi1 fl qa m1
        obtain ⟨m3, m4⟩ := m1.hE b2
        refine ⟨ia2, fi2, fl, ?_, m3, m2.tr m4⟩
        unfold f_X10_relation f_X10_relation_34
        simp only [ck_83, e1, e2, Option.bind_some, if_true, bt_shl (show k < 32 by omega), bt_shl (show r < 32 by omega), a1, b1]
        rcases foV_01 Ω.1.2.2.2.1 Ω.1.2.2.2.2 (2 ^ k) r with ⟨_, e⟩ | ⟨_, e⟩ <;> rcases foV_01 Ω.1.2.2.2.1 Ω.1.2.2.2.2 (2 ^ r) k with ⟨_, e'⟩ | ⟨_, e'⟩ <;> rw [e, e'] <;> rfl
    · refine ⟨-1, Ω, w, fun ia fi fl qa h => ?_, fun ia fi fl qa h => ?_⟩
      · show CRes b f ia fi (f_X9_relation kn b (nI k) y _) _ _
        obtain ⟨c1, e1⟩ := (yes k hk k0).1 ia fi fl qa h
        unfold f_X9_relation
        simp only [ck_0, e1, n1 ia fi fl qa h, qc, Option.bind_some]
        exact CRes.same h
      · show MRes b f ia fi qa (f_X10_relation (b + 83) (nI k) y _) _ _
        unfold f_X10_relation
        simp only [ck_83, (yes k hk k0).2 ia fi fl qa h, n2 ia fi fl qa h, Option.bind_some, if_true, i10, if_false]
        exact MRes.same h
  · refine ⟨-1, Ω, w, fun ia fi fl qa h => ?_, fun ia fi fl qa h => ?_⟩
    · show CRes b f ia fi (f_X9_relation kn b x y _) _ _
      unfold f_X9_relation
      simp only [ck_0, n1 ia fi fl qa h, qc, Option.bind_some]
      exact CRes.same h
    · show MRes b f ia fi qa (f_X10_relation (b + 83) x y _) _ _
      unfold f_X10_relation
      simp only [ck_83, n2 ia fi fl qa h, Option.bind_some, i10, if_false]
      exact MRes.same h
end FOLLOWS
