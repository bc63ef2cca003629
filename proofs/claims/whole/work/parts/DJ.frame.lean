/-! THE REFERENCE'S SEARCH: a settled frame; the whole search -/
section FRAME
variable {b d : Nat} {ia fi : Nat → Nat → Int32} {fl : Nat → Nat → Int64} {qa : Nat → Nat → Option Nat} {f : mmF} {P : Nat} {op lf rt : Nat → Nat} {Γ : Nat → Bool} {pg : Nat} {TI : Nat → (Nat → Nat) → (Nat → Nat) → (Nat → Nat) → Prop} {Dp : Nat → (Nat → Nat) → (Nat → Nat) → (Nat → Nat) → Nat → (Nat → Bool) → Nat → Prop} {X : Prop} {Tr : Nat}
/-- the goal is an AND -/
theorem frame_7 {n : Nat} (hT : tOK TI) (hD : dOK TI Dp) (hIH : ihS b d fl qa f TI Dp Tr) (hF : frS b d ia fi P op lf rt Γ pg) (hS : sfS TI Dp d Γ pg X P op lf rt) (h7 : op pg = 7) (hn : 2 * (Tr + 1) ≤ n) : Ret b d fl qa f TI ia fi P op lf rt X (2 * (Tr + 1)) n (aft n (b + 83) (nI d) (f_X10_begins (b + 83) (nI d) (wr (SK b) ia fi fl qa f))) := by
  have hRo := hF.1.2.2.1
  have step := fun (P1 : Nat) (op1 lf1 rt1 : Nat → Nat) (g : grS P op lf rt P1 op1 lf1 rt1) => (g.ex.2 pg hS.1.2.1)
  have hd6 : d < 600 := hD.1 _ _ _ _ _ _ _ hS.2.2.1
  have hd : d + 1 < 600 := hD.1 _ _ _ _ _ _ _ ((hD.2.2.2.2.2 P op lf rt d Γ pg hRo hS.2.1 hS.1.1 hS.1.2.1 hS.1.2.2 hS.2.2.2.1 hS.2.2.1).1 h7).1
  have hl := (hRo.to pg hS.1.2.1).2 (by omega)
  rcases begins_t (fl := fl) (qa := qa) (f := f) hF hd with ⟨_, hch⟩ | ⟨c, _⟩ | ⟨c, _⟩
  · obtain ⟨q, v, ia2, fi2, P2, op2, lf2, rt2, P1, op1, lf1, rt1, Γ1, g1, a1, a2, a3, a4, a5, a6, a7, a8, a9, ⟨a10, a11⟩, a12, ⟨rfl, rfl⟩, a14⟩ := child_t hT hIH hch hS.2.1 (show Tr ≤ n by omega) (fun P1 op1 lf1 rt1 Γ1 g1 g ho1 t1 hC => by
      obtain ⟨rfl, rfl⟩ := hC
      have s1 := g _ (sf_gr hT hD) hS
      obtain ⟨e1, e2, e3⟩ := step _ _ _ _ g
      rw [← e2]
      exact ((hD.2.2.2.2.2 P1 op1 lf1 rt1 d _ pg ho1 t1 s1.1.1 s1.1.2.1 s1.1.2.2 s1.2.2.2.1 s1.2.2.1).1 (e1.trans h7)).1)
    obtain ⟨q, rfl⟩ : ∃ k, q = k + 1 := ⟨q - 1, by omega⟩
    have s2 := (a5.tr a6) _ (sf_gr hT hD) hS
    obtain ⟨e1, e2, e3⟩ := step _ _ _ _ (a5.tr a6)
    have hP2 : Prv P1 op1 lf1 rt1 Γ1 (lf pg) ↔ Prv P2 op2 lf2 rt2 Γ1 (lf pg) := prv_ext a7 a6.ex a12.1 a12.2
    rw [a3, go_eq q a2 hd6]
    rcases a14 with ⟨rfl, hv⟩ | ⟨rfl, hv⟩
    · rw [hP2] at hv
      have hch2 := goes_1 (fl := fl) (qa := qa) (f := f) a4 hd (e1.trans h7) a10
      refine Ret.of (last_t hT hd6 hIH hch2 a8 (show Tr + 1 ≤ q by omega) (fun P3 op3 lf3 rt3 Γ3 g3 g ho3 t3 hC => ?_)) (a5.tr a6) a9 (by omega)
      obtain ⟨rfl, rfl⟩ := hC
      have s3 := ((a5.tr a6).tr g) _ (sf_gr hT hD) hS
      obtain ⟨f1, f2, f3⟩ := step _ _ _ _ ((a5.tr a6).tr g)
      have hDp := ((hD.2.2.2.2.2 P3 op3 lf3 rt3 d _ pg ho3 t3 s3.1.1 s3.1.2.1 s3.1.2.2 s3.2.2.2.1 s3.2.2.1).1 (f1.trans h7)).2
      have hX := s3.2.2.2.2.trans (prv_7 ho3 s3.1.2.1 (f1.trans h7))
      have hv3 := (prv_ext a4.1.2.2.1 g.ex s2.1.2.2 (show lf pg < P2 by have := s2.1.2.1; omega)).mp hv
      rw [f3] at hDp
      rw [f2, f3] at hX
      rw [e3]
      exact ⟨hDp, hX.trans ⟨fun h => h.2, fun h => ⟨hv3, h⟩⟩⟩
    · rw [hP2] at hv
      rw [show nI 0 = (0 : Int32) from rfl, goes_0 (fl := fl) (qa := qa) (f := f) a4 hd6 a10 (Or.inl rfl)]
      refine Ret.of (Ret.now (c := 0) (n := q) (r := 0) (by decide) a4.1 a8 (Or.inr ⟨rfl, fun hx => hv ?_⟩)) (a5.tr a6) a9 (by omega)
      have := (prv_7 a4.1.2.2.1 s2.1.2.1 (e1.trans h7)).mp (s2.2.2.2.2.mp hx)
      rw [e2] at this
      exact this.1
  · exact absurd h7 c
  · exact absurd h7 c
/-- an OR is given -/
theorem frame_8 {n : Nat} (hT : tOK TI) (hD : dOK TI Dp) (hIH : ihS b d fl qa f TI Dp Tr) (hF : frS b d ia fi P op lf rt Γ pg) (hS : sfS TI Dp d Γ pg X P op lf rt) (h7 : op pg ≠ 7) (h8 : ∃ p, p < P ∧ Γ p = true ∧ op p = 8) (hn : 2 * (Tr + 1) ≤ n) : Ret b d fl qa f TI ia fi P op lf rt X (2 * (Tr + 1)) n (aft n (b + 83) (nI d) (f_X10_begins (b + 83) (nI d) (wr (SK b) ia fi fl qa f))) := by
  have hRo := hF.1.2.2.1
  have hd6 : d < 600 := hD.1 _ _ _ _ _ _ _ hS.2.2.1
  have hd : d + 1 < 600 := by
    obtain ⟨p, p1, p2, p3⟩ := h8
    exact hD.1 _ _ _ _ _ _ _ ((hD.2.2.2.2.2 P op lf rt d Γ pg hRo hS.2.1 hS.1.1 hS.1.2.1 hS.1.2.2 hS.2.2.2.1 hS.2.2.1).2.1 p p1 p2 p3 h7).1
  rcases begins_t (fl := fl) (qa := qa) (f := f) hF hd with ⟨c, _⟩ | ⟨_, p, p1, p2, hch⟩ | ⟨_, c, _⟩
  · exact absurd c h7
  · have p3 := p2.1
    have p4 := p2.2.1
    have hl := (hRo.to p p1).2 (by omega)
    have at1 : ∀ (P1 : Nat) (op1 lf1 rt1 : Nat → Nat), grS P op lf rt P1 op1 lf1 rt1 → sfS TI Dp d Γ pg X P1 op1 lf1 rt1 ∧ op1 pg ≠ 7 ∧ op1 p = 8 ∧ lf1 p = lf p ∧ rt1 p = rt p ∧ p < P1 := fun P1 op1 lf1 rt1 g => by
      obtain ⟨e1, e2, e3⟩ := g.ex.2 p p1
      obtain ⟨f1, f2, f3⟩ := g.ex.2 pg hS.1.2.1
      exact ⟨g _ (sf_gr hT hD) hS, by omega, e1.trans p3, e2, e3, Nat.lt_of_lt_of_le p1 g.ex.1⟩
    obtain ⟨q, v, ia2, fi2, P2, op2, lf2, rt2, P1, op1, lf1, rt1, Γ1, g1, a1, a2, a3, a4, a5, a6, a7, a8, a9, ⟨a10, a11⟩, a12, hC, a14⟩ := child_t hT hIH hch hS.2.1 (show Tr ≤ n by omega) (fun P1 op1 lf1 rt1 Γ1 g1 g ho1 t1 hC => by
      obtain ⟨rfl, rfl⟩ := hC
      obtain ⟨s1, s2, s3, s4, s5, s6⟩ := at1 _ _ _ _ g
      rw [← s4]
      exact ((hD.2.2.2.2.2 P1 op1 lf1 rt1 d Γ g1 ho1 t1 s1.1.1 s1.1.2.1 s1.1.2.2 s1.2.2.2.1 s1.2.2.1).2.1 p s6 p4 s3 s2).1)
    obtain ⟨hC1, hC2⟩ := hC
    subst hC2
    obtain ⟨q, rfl⟩ : ∃ k, q = k + 1 := ⟨q - 1, by omega⟩
    obtain ⟨u1, u2', u3, u4, u5, u6⟩ := at1 _ _ _ _ (a5.tr a6)
    have hP2 : Prv P1 op1 lf1 rt1 Γ1 g1 ↔ Prv P2 op2 lf2 rt2 (upB (upB Γ p false) (lf p) true) g1 := by
      rw [hC1]
      rw [hC1] at a12
      exact prv_ext a7 a6.ex a12.1 a12.2
    rw [a3, go_eq q a2 hd6]
    rcases a14 with ⟨rfl, hv⟩ | ⟨rfl, hv⟩
    · rw [hP2] at hv
      have hch2 := goes_2 (fl := fl) (qa := qa) (f := f) a4 hd u6 (by omega) a10 a11
      refine Ret.of (last_t hT hd6 hIH hch2 a8 (show Tr + 1 ≤ q by omega) (fun P3 op3 lf3 rt3 Γ3 g3 g ho3 t3 hC => ?_)) (a5.tr a6) a9 (by omega)
      obtain ⟨rfl, rfl⟩ := hC
      obtain ⟨w1, w2, w3, w4, w5, w6⟩ := at1 _ _ _ _ ((a5.tr a6).tr g)
      have hDp := ((hD.2.2.2.2.2 P3 op3 lf3 rt3 d Γ g3 ho3 t3 w1.1.1 w1.1.2.1 w1.1.2.2 w1.2.2.2.1 w1.2.2.1).2.1 p w6 p4 w3 w2).2
      have hX := w1.2.2.2.2.trans (prv_8 ho3 w6 p4 w3)
      have hin : inP P2 (upB (upB Γ p false) (lf p) true) := (u1.1.2.2.up u6).up (by have := (a5.tr a6).ex.1; omega)
      have hv3 := (prv_ext a4.1.2.2.1 g.ex hin u1.1.2.1).mp hv
      rw [w5] at hDp
      rw [w4, w5] at hX
      rw [u5]
      exact ⟨hDp, hX.trans ⟨fun h => h.2, fun h => ⟨hv3, h⟩⟩⟩
    · rw [hP2] at hv
      rw [show nI 0 = (0 : Int32) from rfl, goes_0 (fl := fl) (qa := qa) (f := f) a4 hd6 a10 (Or.inr rfl)]
      refine Ret.of (Ret.now (c := 0) (n := q) (r := 0) (by decide) a4.1 a8 (Or.inr ⟨rfl, fun hx => hv ?_⟩)) (a5.tr a6) a9 (by omega)
      have := (prv_8 a4.1.2.2.1 u6 p4 u3).mp (u1.2.2.2.2.mp hx)
      rw [u4] at this
      exact this.1
  · obtain ⟨p, p1, p2, p3⟩ := h8
    have p0 : p ≠ 0 ∧ p ≠ 1 := ⟨fun e => by
      have := hRo.1 p p1
      omega, fun e => by
      have := hRo.1 p p1
      omega⟩
    exact absurd ⟨p3, p2, fun h => absurd h (by decide)⟩ (c p (by omega) p1)
theorem c1003 {n q M : Nat} (h : n ≤ q + 2 * M) : n + 1001 * M ≤ q + 1003 * M := by omega
theorem nests_0 {n : Nat} (hT : tOK TI) (hD : dOK TI Dp) (hIH : ihS b d fl qa f TI Dp Tr) (hn : 1001 * (Tr + 1) ≤ n) (hF : frS b d ia fi P op lf rt Γ pg) (hS : sfS TI Dp d Γ pg X P op lf rt) (hN : nsS P op lf rt Γ pg 0) (h6 : ia (b + 100) d = nI 0) : Ret b d fl qa f TI ia fi P op lf rt X (1001 * (Tr + 1)) n (aft n (b + 83) (nI d) (f_X10_tries (b + 83) (nI d) (wr (SK b) ia fi fl qa f))) := by
  obtain ⟨k, hk⟩ : ∃ k, k = 1000 := ⟨_, rfl⟩
  have e : (k + 1) * (Tr + 1) = 1001 * (Tr + 1) := by rw [hk]
  have h := nests_t hT hD hIH k 0 n ia fi P op lf rt (by omega) (by omega) hF hS hN (Nat.zero_le _) h6
  rw [e] at h
  exact h
/-- a frame without ORs -/
theorem frame_c {n : Nat} (hT : tOK TI) (hD : dOK TI Dp) (hIH : ihS b d fl qa f TI Dp Tr) (hF : frS b d ia fi P op lf rt Γ pg) (hS : sfS TI Dp d Γ pg X P op lf rt) (h7 : op pg ≠ 7) (h8 : ∀ p, p < P → Γ p = true → op p ≠ 8) (hn : 1003 * (Tr + 1) ≤ n) : Ret b d fl qa f TI ia fi P op lf rt X (1003 * (Tr + 1)) n (aft n (b + 83) (nI d) (f_X10_begins (b + 83) (nI d) (wr (SK b) ia fi fl qa f))) := by
  have hRo := hF.1.2.2.1
  have hd6 : d < 600 := hD.1 _ _ _ _ _ _ _ hS.2.2.1
  obtain ⟨x, hx, e⟩ := begins_z (fl := fl) (qa := qa) (f := f) hF hd6 h7 h8
  rw [e]
  have F1 := hF.s (a := b + 100) (x := x) (Or.inr rfl)
  have W1 : loE b d ia fi (u2 ia (b + 100) d x) fi := loE.s _ (Or.inr rfl)
  have o1 : u2 ia (b + 100) d x (b + 100) d = x := u2_s _ _ _ _
  rcases hx with ⟨e8, rfl⟩ | ⟨e8, rfl⟩
  · -- the goal is an OR: its sides first
    have hl := (hRo.to pg hS.1.2.1).2 (by omega)
    have at1 : ∀ (P1 : Nat) (op1 lf1 rt1 : Nat → Nat), grS P op lf rt P1 op1 lf1 rt1 → RPo P1 op1 lf1 rt1 → sfS TI Dp d Γ pg X P1 op1 lf1 rt1 ∧ op1 pg = 8 ∧ lf1 pg = lf pg ∧ rt1 pg = rt pg ∧ (∀ p, p < P1 → Γ p = true → op1 p ≠ 8) ∧ Dp P1 op1 lf1 rt1 (d + 1) Γ (lf pg) ∧ Dp P1 op1 lf1 rt1 (d + 1) Γ (rt pg) ∧ (Prv P1 op1 lf1 rt1 Γ (lf pg) ∨ Prv P1 op1 lf1 rt1 Γ (rt pg) → X) := fun P1 op1 lf1 rt1 g ho1 => by
      obtain ⟨f1, f2, f3⟩ := g.ex.2 pg hS.1.2.1
      have s1 := g _ (sf_gr hT hD) hS
      have s2 : ∀ p, p < P1 → Γ p = true → op1 p ≠ 8 := fun p _ hp2 => by
        rw [(g.ex.2 p (hS.1.2.2 p hp2)).1]; exact h8 p (hS.1.2.2 p hp2) hp2
      have hDp := (hD.2.2.2.2.2 P1 op1 lf1 rt1 d Γ pg ho1 s1.2.1 s1.1.1 s1.1.2.1 s1.1.2.2 s1.2.2.2.1 s1.2.2.1).2.2.1 (f1.trans e8) s2
      rw [f2, f3] at hDp
      refine ⟨s1, f1.trans e8, f2, f3, s2, hDp.1, hDp.2, fun h => s1.2.2.2.2.mpr fun W R V w hk hw => (kT_8 ho1.to s1.1.2.1 (f1.trans e8) w).mpr ?_⟩
      rw [f2, f3]
      exact h.imp (fun h => h W R V w hk hw) (fun h => h W R V w hk hw)
    have hd : d + 1 < 600 := hD.1 _ _ _ _ _ _ _ (at1 P op lf rt grS.rf hRo).2.2.2.2.2.1
    have hch := tries_c (fl := fl) (qa := qa) (f := f) F1 hd (show 7 ≤ op pg by omega) (Or.inl ⟨rfl, rfl⟩) o1
    obtain ⟨q, v, ia2, fi2, P2, op2, lf2, rt2, P1, op1, lf1, rt1, Γ1, g1, a1, a2, a3, a4, a5, a6, a7, a8, a9, ⟨a10, a11⟩, a12, hC, a14⟩ := child_t hT hIH hch hS.2.1 (show Tr ≤ n by omega) (fun P1 op1 lf1 rt1 Γ1 g1 g ho1 t1 hC => by
      obtain ⟨rfl, rfl⟩ := hC
      rw [if_pos rfl]
      exact (at1 _ _ _ _ g ho1).2.2.2.2.2.1)
    obtain ⟨rfl, hg1⟩ := hC
    rw [if_pos rfl] at hg1
    subst hg1
    obtain ⟨q, rfl⟩ : ∃ k, q = k + 1 := ⟨q - 1, by omega⟩
    rw [a3, go_eq q a2 hd6]
    have G2 := goes_3 (fl := fl) (qa := qa) (f := f) a4 hd6 a10
    obtain ⟨u1, u2', u3, u4, u5, u6, u7, u8⟩ := at1 P2 op2 lf2 rt2 (a5.tr a6) a4.1.2.2.1
    have hP2 : Prv P1 op1 lf1 rt1 Γ1 (lf pg) ↔ Prv P2 op2 lf2 rt2 Γ1 (lf pg) := prv_ext a7 a6.ex a12.1 a12.2
    rcases a14 with ⟨rfl, hv⟩ | ⟨rfl, hv⟩
    · rw [show nI 1 = (1 : Int32) from rfl, G2.1]
      exact Ret.of (Ret.now (c := 0) (n := q) (r := 1) (by decide) a4.1 a8 (Or.inl ⟨rfl, u8 (Or.inl (hP2.mp hv))⟩)) (a5.tr a6) (W1.tr a9) (by omega)
    rw [hP2] at hv
    rw [show nI 0 = (0 : Int32) from rfl, G2.2, bind_eta]
    have hch3 := tries_c (fl := fl) (qa := qa) (f := f) a4 hd (show 7 ≤ op2 pg by omega) (Or.inr ⟨rfl, rfl⟩) a11
    obtain ⟨q3, v3, ia4, fi4, P4, op4, lf4, rt4, P3, op3, lf3, rt3, Γ3, g3, c1, c2, c3, c4, c5, c6, c7, c8, c9, ⟨c10, c11⟩, c12, hC, c14⟩ := child_t (n := q) hT hIH hch3 a8 (show Tr ≤ q by omega) (fun P1 op1 lf1 rt1 Γ1 g1 g ho1 t1 hC => by
      obtain ⟨rfl, rfl⟩ := hC
      rw [if_neg (by decide), u4]
      exact (at1 _ _ _ _ ((a5.tr a6).tr g) ho1).2.2.2.2.2.2.1)
    obtain ⟨rfl, hg3⟩ := hC
    rw [if_neg (by decide), u4] at hg3
    subst hg3
    obtain ⟨q3, rfl⟩ : ∃ k, q3 = k + 1 := ⟨q3 - 1, by omega⟩
    rw [c3, go_eq q3 c2 hd6]
    have G4 := goes_3 (fl := fl) (qa := qa) (f := f) c4 hd6 c10
    have g4 := (a5.tr a6).tr (c5.tr c6)
    obtain ⟨w1, w2, w3, w4, w5, w6, w7, w8⟩ := at1 P4 op4 lf4 rt4 g4 c4.1.2.2.1
    have hP4 : Prv P3 op3 lf3 rt3 Γ3 (rt pg) ↔ Prv P4 op4 lf4 rt4 Γ3 (rt pg) := prv_ext c7 c6.ex c12.1 c12.2
    rcases c14 with ⟨rfl, hv4⟩ | ⟨rfl, hv4⟩
    · rw [show nI 1 = (1 : Int32) from rfl, G4.1]
      exact Ret.of (Ret.now (c := 0) (n := q3) (r := 1) (by decide) c4.1 c8 (Or.inl ⟨rfl, w8 (Or.inr (hP4.mp hv4))⟩)) g4 ((W1.tr a9).tr c9) (by omega)
    rw [hP4] at hv4
    rw [show nI 0 = (0 : Int32) from rfl, G4.2, bind_eta]
    have hN : nsS P4 op4 lf4 rt4 Γ3 pg 0 := by
      refine ⟨w5, by omega, fun _ => ?_, fun p _ hp => absurd hp (Nat.not_lt_zero _)⟩
      rw [w3, w4]
      exact ⟨fun h => hv ((prv_ext a4.1.2.2.1 (c5.tr c6).ex u1.1.2.2 (show lf pg < P2 by have := u1.1.2.1; omega)).mpr h), hv4⟩
    exact Ret.of (nests_0 (n := q3) hT hD hIH (by omega) c4 w1 hN c11) g4 ((W1.tr a9).tr c9) (c1003 (by omega))
  · have hN : nsS P op lf rt Γ pg 0 := ⟨h8, h7, fun h => absurd h e8, fun p _ hp => absurd hp (Nat.not_lt_zero _)⟩
    exact Ret.of (nests_0 (n := n) hT hD hIH (by omega) F1 hS hN o1) grS.rf W1 (c1003 (by omega))
end FRAME
