/-! THE DEPTH: goals; what is given can be given, backwards over a small step -/
section COND
variable {P : Nat} {op lf rt : Nat → Nat} {E v : Nat → Bool}
theorem goal1 (ho : RPo P op lf rt) {g : Nat} (hg : g < P) (h : op g = 9) : n1R op lf rt (lf g) + g1R op lf rt (rt g) ≤ g1R op lf rt g := Nat.le_of_eq (q1_9 ho hg h).2.1.symm
theorem goal2 (ho : RPo P op lf rt) {g : Nat} (hg : g < P) (h : op g = 9) (ht : t2R E v op lf rt g = true) : S2R E v op lf rt (lf g) + G2R E v op lf rt (rt g) ≤ G2R E v op lf rt g := Nat.le_of_eq ((q2_9 ho hg h).2.1 ht).2.1.symm
/-- backwards over a small step: what is given before can be given, if what is given after can -/
theorem cond_ls (ho : RPo P op lf rt) {p : Nat} {Γ Γ1 : Nat → Bool} (hp : p < P) (hls : lsS P op lf rt Γ p Γ1) (hok : ∀ q, Γ1 q = true → okR E v op lf rt q = true) : ∀ q, Γ q = true → okR E v op lf rt q = true := by
  have keep : ∀ q, q ≠ p → Γ q = true → upB Γ p false q = true := fun q e h => by rw [← h]; exact if_neg e
  have z := t2_0 (E := E) (v := v) ho (show 0 < P by omega)
  suffices hs : (∀ q, q ≠ p → Γ q = true → Γ1 q = true) ∧ okR E v op lf rt p = true by
    intro q hq
    by_cases e : q = p
    · rw [e]; exact hs.2
    · exact hok q (hs.1 q e hq)
  rcases hls with ⟨c, rfl⟩ | ⟨c, h1, rfl⟩ | ⟨c, h1, rfl⟩ | ⟨c, h1, h2, c2, s, r, hs, hr, g1, g2, rfl⟩ | ⟨c, h1, h2, c2, s, r, hs, hr, g1, g2, rfl⟩
  · refine ⟨fun q e h => upB_le (upB_le (keep q e h)), ?_⟩
    rw [ok_7 ho hp c, hok (rt p) (upB_s _ _ _), hok (lf p) (by
      by_cases e : lf p = rt p
      · rw [e]; exact upB_s _ _ _
      · exact upB_le (upB_s _ _ _))]
    rfl
  · refine ⟨keep, ?_⟩
    have hl := (ho.to p hp).2 (by omega)
    rw [ok_8 ho hp c, Bool.or_eq_true]
    exact h1.imp (fun h => hok _ (keep _ (by omega) h)) (fun h => hok _ (keep _ (by omega) h))
  · refine ⟨fun q e h => upB_le (keep q e h), ?_⟩
    have hl := (ho.to p hp).2 (by omega)
    rw [ok_9 ho hp c, (q2_9 (E := E) (v := v) ho hp c).1, (oq_t (E := E) (v := v) ho (rt p) (by omega)).2 (hok _ (upB_s _ _ _)), Bool.or_true]
  · refine ⟨fun q e h => upB_le (keep q e h), ?_⟩
    obtain ⟨x2, y2, hlP, hrP, hxP, hyP⟩ := left_pos ho hp c (by omega) (by omega)
    have tr := (oq_t (E := E) (v := v) ho r hr).2 (hok r (upB_s _ _ _))
    have is := imp_t (E := E) (v := v) ho hs hyP y2 z.1 g1
    have ir := imp_t (E := E) (v := v) ho hr hxP x2 z.1 g2
    rw [ok_9 ho hp c, (q2_9 (E := E) (v := v) ho hp c).1, (q2_7 (E := E) (v := v) ho hlP c2).1, ← tr, ir, is]
    cases t2R E v op lf rt (lf (lf p)) <;> cases t2R E v op lf rt (rt (lf p)) <;> rfl
  · refine ⟨fun q e h => upB_le (upB_le (keep q e h)), ?_⟩
    obtain ⟨x2, y2, hlP, hrP, hxP, hyP⟩ := left_pos ho hp c (by omega) (by omega)
    have tr := (oq_t (E := E) (v := v) ho r hr).2 (hok r (upB_s _ _ _))
    have ts := (oq_t (E := E) (v := v) ho s hs).2 (hok s (by
      by_cases e : s = r
      · rw [e]; exact upB_s _ _ _
      · exact upB_le (upB_s _ _ _)))
    have is := imp_t (E := E) (v := v) ho hs hxP x2 z.1 g1
    have ir := imp_t (E := E) (v := v) ho hr hyP y2 z.1 g2
    rw [ok_9 ho hp c, (q2_9 (E := E) (v := v) ho hp c).1, (q2_8 (E := E) (v := v) ho hlP c2).1]
    rw [ts] at is
    rw [tr] at ir
    revert is ir
    cases t2R E v op lf rt (lf (lf p)) <;> cases t2R E v op lf rt (rt (lf p)) <;> cases t2R E v op lf rt (rt p) <;> decide
/-- a small step over what can be given raises no potential: the second one -/
theorem ps2_ls (ho : RPo P op lf rt) (hP : P ≤ 1000) {p : Nat} {Γ Γ1 : Nat → Bool} (hp : p < P) (hg : Γ p = true) (hls : lsS P op lf rt Γ p Γ1) (hok : ∀ q, Γ1 q = true → okR E v op lf rt q = true) : psS op lf rt (grR op lf rt) (w2R E v op lf rt) (sr2R E v op lf rt) Γ1 ≤ psS op lf rt (grR op lf rt) (w2R E v op lf rt) (sr2R E v op lf rt) Γ :=
  ps_ls (pt2_ok ho) ho hP hp hg hls hok fun h => cond_ls ho hp hls hok _ h
theorem ps1_ls (ho : RPo P op lf rt) (hP : P ≤ 1000) {p : Nat} {Γ Γ1 : Nat → Bool} (hp : p < P) (hg : Γ p = true) (hls : lsS P op lf rt Γ p Γ1) : psS op lf rt (grR op lf rt) (w1R op lf rt) (s1R op lf rt) Γ1 ≤ psS op lf rt (grR op lf rt) (w1R op lf rt) (s1R op lf rt) Γ :=
  ps_ls (pt1_ok ho) ho hP hp hg hls (fun _ _ => rfl) fun _ => rfl
end COND
