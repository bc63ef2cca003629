/-! THE REFERENCE'S SEARCH: the nests of a frame, one after the other -/
section NESTS
variable {b d : Nat} {ia fi : Nat → Nat → Int32} {fl : Nat → Nat → Int64} {qa : Nat → Nat → Option Nat} {f : mmF} {P : Nat} {op lf rt : Nat → Nat} {Γ : Nat → Bool} {pg : Nat} {TI : Nat → (Nat → Nat) → (Nat → Nat) → (Nat → Nat) → Prop} {Dp : Nat → (Nat → Nat) → (Nat → Nat) → (Nat → Nat) → Nat → (Nat → Bool) → Nat → Prop} {X : Prop} {Tr : Nat}
theorem nxO.ex {P1 o p : Nat} {op1 lf1 rt1 : Nat → Nat} (ho : RPo P op lf rt) (e : REx P op lf rt P1 op1 lf1 rt1) (h7 : 7 ≤ o) (hp : p < P) : nxO op1 lf1 Γ o p ↔ nxO op lf Γ o p := by
  obtain ⟨e1, e2, e3⟩ := e.2 p hp
  unfold nxO
  rw [e1, e2]
  refine and_congr_right fun h => ?_
  have hl := (ho.to p hp).2 (by omega)
  rw [(e.2 (lf p) (by omega)).1]
theorem nests_t (hT : tOK TI) (hD : dOK TI Dp) (hIH : ihS b d fl qa f TI Dp Tr) : ∀ (k o n : Nat) (ia fi : Nat → Nat → Int32) (P : Nat) (op lf rt : Nat → Nat), o + k = 1000 → (k + 1) * (Tr + 1) ≤ n → frS b d ia fi P op lf rt Γ pg → sfS TI Dp d Γ pg X P op lf rt → nsS P op lf rt Γ pg o → o ≤ P → ia (b + 100) d = nI o → Ret b d fl qa f TI ia fi P op lf rt X ((k + 1) * (Tr + 1)) n (aft n (b + 83) (nI d) (f_X10_tries (b + 83) (nI d) (wr (SK b) ia fi fl qa f))) := by
  intro k
  induction k using Nat.strongRecOn with
  | _ k ih =>
    intro o n ia fi P op lf rt hk hn hF hS hN ho h6
    have hd6 : d < 600 := hD.1 _ _ _ _ _ _ _ hS.2.2.1
    have hRo := hF.1.2.2.1
    have hP := (hT.1 _ _ _ _ hS.2.1).1
    by_cases hp : ∃ p, o ≤ p ∧ p < P ∧ nxO op lf Γ 9 p
    · have hd : d + 1 < 600 := by
        obtain ⟨p, p1, p2, p3⟩ := hp
        exact ((hD.2.2.2.2.2 P op lf rt d Γ pg hRo hS.2.1 hS.1.1 hS.1.2.1 hS.1.2.2 hS.2.2.2.1 hS.2.2.1).2.2.2 p o p2 p3 hN).1
      rcases tries_n (fl := fl) (qa := qa) (f := f) hF hd hP ho h6 with ⟨_, hno⟩ | ⟨p, p1, p2, p3, p4, hch⟩
      · obtain ⟨p, p1, p2, p3⟩ := hp
        exact absurd p3 (hno p p1 p2)
      have hl := (hRo.to p p2).2 (by rw [p3.1]; decide)
      have c9 := p3.2.2 rfl
      have hl2 := (hRo.to (lf p) (by omega)).2 (by omega)
      obtain ⟨k', rfl⟩ : ∃ k', k = k' + 1 := ⟨k - 1, by omega⟩
      have hM : (k' + 1 + 1) * (Tr + 1) = (k' + 1) * (Tr + 1) + (Tr + 1) := Nat.succ_mul _ _
      -- facts that the table's growth keeps
      have at1 : ∀ (P1 : Nat) (op1 lf1 rt1 : Nat → Nat), grS P op lf rt P1 op1 lf1 rt1 → RPo P1 op1 lf1 rt1 → sfS TI Dp d Γ pg X P1 op1 lf1 rt1 ∧ nsS P1 op1 lf1 rt1 Γ pg o ∧ nxO op1 lf1 Γ 9 p ∧ lf1 p = lf p ∧ rt1 p = rt p ∧ lf1 (lf p) = lf (lf p) ∧ rt1 (lf p) = rt (lf p) ∧ op1 p = 9 ∧ op1 (lf p) = 9 ∧ p < P1 := fun P1 op1 lf1 rt1 g _ => by
        have e := g.ex
        obtain ⟨e1, e2, e3⟩ := e.2 p p2
        obtain ⟨f1, f2, f3⟩ := e.2 (lf p) (by omega)
        exact ⟨g _ (sf_gr hT hD) hS, (g _ ns_gr ⟨hS.1, hN⟩).2, (nxO.ex hRo e (by decide) p2).mpr p3, e2, e3, f2, f3, e1.trans p3.1, f1.trans c9, Nat.lt_of_lt_of_le p2 e.1⟩
      obtain ⟨q, v, ia2, fi2, P2, op2, lf2, rt2, P1, op1, lf1, rt1, Γ1, g1, a1, a2, a3, a4, a5, a6, a7, a8, a9, ⟨a10, a11⟩, a12, ⟨r, hr, hi, rfl, rfl⟩, a14⟩ := child_t hT hIH hch hS.2.1 (show Tr ≤ n by omega) (fun P1 op1 lf1 rt1 Γ1 g1 g ho1 t1 ⟨r, hr, hi, hΓ, hg1⟩ => by
        obtain ⟨s1, s2, s3, s4, s5, s6, s7, _, _, s8⟩ := at1 P1 op1 lf1 rt1 g ho1
        have := ((hD.2.2.2.2.2 P1 op1 lf1 rt1 d Γ pg ho1 t1 s1.1.1 s1.1.2.1 s1.1.2.2 s1.2.2.2.1 s1.2.2.1).2.2.2 p o s8 s3 s2).2.1 r hr (by rw [s4, s5, s7]; exact hi)
        unfold nsA at this
        rw [s4, s6, s7] at this
        rw [hΓ, hg1]
        exact this)
      obtain ⟨q, rfl⟩ : ∃ k, q = k + 1 := ⟨q - 1, by omega⟩
      obtain ⟨s1, s2, s3, s4, s5, s6, s7, s9, s10, s8⟩ := at1 P1 op1 lf1 rt1 a5 a7
      obtain ⟨u1, u2', u3, u4, u5, u6, u7, u9, u10, u8⟩ := at1 P2 op2 lf2 rt2 (a5.tr a6) a4.1.2.2.1
      -- the first branch: the nest's left
      have hfirst : Prv P1 op1 lf1 rt1 (nsA P op lf rt Γ p r) (rt (lf p)) ↔ Prv P2 op2 lf2 rt2 Γ (lf2 p) := by
        have := prv_ns (Γ := Γ) a7 s8 p3.2.1 s9 (by rw [s4]; exact s10) hr (by rw [s4, s5, s7]; exact hi)
        unfold nsA at this ⊢
        rw [s4, s6, s7] at this
        rw [this, u4]
        exact prv_ext a7 a6.ex s1.1.2.2 (by omega)
      rw [a3, go_eq q a2 hd6]
      rcases a14 with ⟨rfl, hv⟩ | ⟨rfl, hv⟩
      · -- the second branch
        rw [hfirst] at hv
        have hch2 := goes_41 (fl := fl) (qa := qa) (f := f) a4 hd u8 (by omega) a10 a11
        refine Ret.of (last_t hT hd6 hIH hch2 a8 (show Tr + 1 ≤ q by have := Nat.mul_le_mul_right (Tr + 1) (show 1 ≤ k' + 1 by omega); omega) (fun P3 op3 lf3 rt3 Γ3 g3 g ho3 t3 hC => ?_)) (a5.tr a6) a9 (by have := Nat.mul_le_mul_right (Tr + 1) (show 1 ≤ k' + 1 by omega); omega)
        obtain ⟨rfl, rfl⟩ := hC
        obtain ⟨w1, w2, w3, w4, w5, w6, w7, w9, w10, w8⟩ := at1 P3 op3 lf3 rt3 ((a5.tr a6).tr g) ho3
        have hv3 : Prv P3 op3 lf3 rt3 Γ (lf3 p) := by
          rw [w4, ← u4]
          exact (prv_ext a4.1.2.2.1 g.ex u1.1.2.2 (by omega)).mp hv
        have hDp := ((hD.2.2.2.2.2 P3 op3 lf3 rt3 d Γ g3 ho3 t3 w1.1.1 w1.1.2.1 w1.1.2.2 w1.2.2.2.1 w1.2.2.1).2.2.2 p o w8 w3 w2).2.2 hv3
        have hX := w1.2.2.2.2.trans (prv_n2 ho3 w8 p3.2.1 w9 hv3)
        rw [w5] at hDp hX
        rw [u5]
        exact ⟨hDp, hX⟩
      · -- the next nest
        rw [hfirst] at hv
        rw [show nI 0 = (0 : Int32) from rfl, goes_40 (fl := fl) (qa := qa) (f := f) a4 hd6 a10, bind_eta]
        have hN2 : nsS P2 op2 lf2 rt2 Γ pg (p + 1) := by
          refine ⟨u2'.1, u2'.2.1, u2'.2.2.1, fun j hj hjp hnj => ?_⟩
          by_cases e1 : j = p
          · subst e1; exact hv
          · by_cases e2 : j < o
            · exact u2'.2.2.2 j hj e2 hnj
            · exact absurd ((nxO.ex hRo (a5.tr a6).ex (by decide) (show j < P by omega)).mp hnj) (p4 j (by omega) (by omega))
        have hle : (999 - p + 1) * (Tr + 1) ≤ (k' + 1) * (Tr + 1) := Nat.mul_le_mul_right _ (by omega)
        exact Ret.of (ih (999 - p) (by omega) (p + 1) q ia2 fi2 P2 op2 lf2 rt2 (by omega) (by omega) a4 u1 hN2 (by omega) a11) (a5.tr a6) a9 (by omega)
    · have hno : ∀ p, o ≤ p → p < P → ¬ nxO op lf Γ 9 p := fun p h1 h2 h3 => hp ⟨p, h1, h2, h3⟩
      rw [tries_z (fl := fl) (qa := qa) (f := f) hF hd6 ho h6 hno]
      refine Ret.now (by decide) hF.1 hS.2.1 (Or.inr ⟨rfl, fun hx => ?_⟩)
      refine prv_none hRo hS.1.1 hS.1.2.1 hS.2.2.2.1 hS.1.2.2 hN.2.1 hN.2.2.1 (fun p _ hpP hn8 => hN.1 p hpP hn8.2.1 hn8.1) (fun p hpP hn9 => ?_) (hS.2.2.2.2.mp hx)
      by_cases e : p < o
      · exact hN.2.2.2 p hpP e hn9
      · exact absurd hn9 (hno p (by omega) hpP)
end NESTS
