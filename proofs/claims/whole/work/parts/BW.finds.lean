/-! THE CLASS'S FINDINGS -/
/-- findings: so many, the next one, what each is -/
def FD (b o : Nat) (fi : Nat → Nat → Int32) (Q : Nat → Prop) : Prop := ∃ n x, n ≤ 128 ∧ x ≤ n ∧ fi (b + o) 0 = nI n ∧ fi (b + o) 3 = nI x ∧ ∀ i, i < n → Q i
def MI (b : Nat) (ia fi : Nat → Nat → Int32) (S : Nat) (kd lf rt : Nat → Nat) : Prop := FD b 47 fi (fun i => RSet S kd lf rt (sB (ia (b + 49)) i))
def PI (b : Nat) (ia fi : Nat → Nat → Int32) (S : Nat) (kd lf rt : Nat → Nat) : Prop := FD b 51 fi (fun i => ∃ g, g < S ∧ ia (b + 54) i = nI g ∧ Prv S kd lf rt (sB (ia (b + 53)) i) g)
/-- a bit of an int -/
def ib (x : Int32) (u : Nat) : Bool := x.toBitVec.getLsbD u
theorem ib_and (x y : Int32) (u : Nat) : ib (x &&& y) u = (ib x u && ib y u) := by
  unfold ib
  rw [Int32.toBitVec_and, BitVec.getLsbD_and]
theorem ib_nI (a : Nat) {u : Nat} (hu : u < 32) : ib (nI a) u = a.testBit u := by
  unfold ib
  show (BitVec.ofNat 32 a).getLsbD u = _
  rw [BitVec.getLsbD_ofNat, decide_eq_true hu, Bool.true_and]
theorem ib_m1 {u : Nat} (hu : u < 32) : ib (-1) u = true := by
  unfold ib
  rw [show (-1 : Int32).toBitVec = BitVec.allOnes 32 from by decide, BitVec.getLsbD_allOnes]
  exact decide_eq_true hu
theorem ib_not (x : Int32) {u : Nat} (hu : u < 32) : ib (x ^^^ (-1 : Int32)) u = !ib x u := by
  have h := ib_m1 hu
  unfold ib at h ⊢
  rw [Int32.toBitVec_xor, BitVec.getLsbD_xor, h, Bool.xor_true]
theorem ib_0 (u : Nat) : ib 0 u = false := by
  unfold ib
  simp
section FINDS
variable {b : Nat} {ia fi : Nat → Nat → Int32} {fl : Nat → Nat → Int64} {qa : Nat → Nat → Option Nat} {f : mmF} {S : Nat} {kd lf rt : Nat → Nat}
theorem Prv.mono {K K1 : Nat → Bool} {g : Nat} (h : Prv S kd lf rt K g) (e : ∀ p, p < S → K p = true → K1 p = true) : Prv S kd lf rt K1 g := fun W R V w hk hw => h W R V w hk (fun p hp hkp => hw p hp (e p hp hkp))
theorem hasmet_2 {j g n : Nat} (hj : j < 153) (hg : g < S) (hS : S ≤ 151) (hn : n ≤ 128) (h0 : fi (b + 47) 0 = nI n) (hM : ∀ i, i < n → RSet S kd lf rt (sB (ia (b + 49)) i)) : ∀ (m i q : Nat), i + m = n → m < q → f_X5_hasMet_2 q (b + 20) (nI j) (nI g) (nI i) (wr (SK b) ia fi fl qa f) = some (0, wr (SK b) ia fi fl qa f) ∨ ∃ ia1, f_X5_hasMet_2 q (b + 20) (nI j) (nI g) (nI i) (wr (SK b) ia fi fl qa f) = some (1, wr (SK b) ia1 fi fl qa f) ∧ sEw ia ia1 (b + 45) j (sB (ia1 (b + 45)) j) ∧ RSet S kd lf rt (sB (ia1 (b + 45)) j) ∧ (∀ p, p < S → sB (ia (b + 35)) 0 p = true → sB (ia1 (b + 45)) j p = true) ∧ sB (ia1 (b + 45)) j g = false := by
  intro m
  induction m with
  | zero =>
    intro i q hi hm
    obtain ⟨q, rfl⟩ : ∃ k, q = k + 1 := ⟨q - 1, by omega⟩
    have e : i = n := by omega
    subst e
    refine Or.inl ?_
    rw [f_X5_hasMet_2]
    simp only [R_20_8, I_47_0, h0, Option.bind_some, if_pos (Int32.le_refl _)]
  | succ m ih =>
    intro i q hi hm
    obtain ⟨q, rfl⟩ : ∃ k, q = k + 1 := ⟨q - 1, by omega⟩
    have hin : i < n := by omega
    have next := ih (i + 1) q (by omega) (by omega)
    have hw := within_s (ia := ia) (fi := fi) (fl := fl) (qa := qa) (f := f) (PS_K b) (PS_M b) (k := 0) (k2 := i) (by decide) (by omega)
    rw [show nI 0 = (0 : Int32) from rfl] at hw
    rw [f_X5_hasMet_2]
    simp only [R_20_8, I_47_0, h0, Option.bind_some, if_neg (nI_ge hin (show n < 2 ^ 31 by omega)), R_20_2, R_33_1, R_47_1, ps_ck (PS_K b)]
    rcases hw with ⟨a1, a2⟩ | ⟨a1, a2⟩
    · simp only [a2, Option.bind_some, i10, if_false, ps_ck (PS_M b), has_s (PS_M b) (show i < 128 by omega) (show g < 192 by omega)]
      cases hb : sB (ia (b + 49)) i g with
      | false =>
        obtain ⟨ia1, t1, t2⟩ := copy_s (ia := ia) (fi := fi) (fl := fl) (qa := qa) (f := f) (PS_F b) (PS_M b) hj (show i < 128 by omega)
        simp only [if_neg (show ¬ (false = true) by decide), if_true, R_20_6, ps_ck (PS_F b), t1, Option.bind_some]
        have hE : ∀ p, p < S → sB (ia1 (b + 45)) j p = sB (ia (b + 49)) i p := fun p hp => t2.2.2 p (by omega)
        refine Or.inr ⟨ia1, rfl, t2.ext (fun q hq => (t2.2.2 q hq).symm), ?_, fun p hp hk => ?_, ?_⟩
        · obtain ⟨W, R, V, w, hk, hw⟩ := hM i hin
          exact ⟨W, R, V, w, hk, fun p hp => by rw [hE p hp]; exact hw p hp⟩
        · rw [hE p hp]; exact a1 p (by omega) hk
        · rw [hE g hg]; exact hb
      | true =>
        simp only [if_true, i10, if_false]
        unfold f_X5_hasMet_68
        rw [nI_1]
        exact next
    · simp only [a2, Option.bind_some, if_true]
      unfold f_X5_hasMet_68
      rw [nI_1]
      exact next
theorem hasmet_c {j g : Nat} (hj : j < 153) (hg : g < S) (hS : S ≤ 151) (hM : MI b ia fi S kd lf rt) : f_X5_hasMet (b + 20) (nI j) (nI g) (wr (SK b) ia fi fl qa f) = some (0, wr (SK b) ia fi fl qa f) ∨ ∃ ia1, f_X5_hasMet (b + 20) (nI j) (nI g) (wr (SK b) ia fi fl qa f) = some (1, wr (SK b) ia1 fi fl qa f) ∧ sEw ia ia1 (b + 45) j (sB (ia1 (b + 45)) j) ∧ RSet S kd lf rt (sB (ia1 (b + 45)) j) ∧ (∀ p, p < S → sB (ia (b + 35)) 0 p = true → sB (ia1 (b + 45)) j p = true) ∧ sB (ia1 (b + 45)) j g = false := by
  obtain ⟨qf, hqf⟩ := FU_1000
  obtain ⟨n, x, h1, h2, h3, h4, h5⟩ := hM
  exact hasmet_2 hj hg hS h1 h3 h5 n 0 FU (by omega) (by omega)
theorem hasproved_2 {j g n : Nat} (hj : j < 153) (hg : g < S) (hS : S ≤ 151) (hn : n ≤ 128) (h0 : fi (b + 51) 0 = nI n) (hM : ∀ i, i < n → ∃ g, g < S ∧ ia (b + 54) i = nI g ∧ Prv S kd lf rt (sB (ia (b + 53)) i) g) : ∀ (m i q : Nat), i + m = n → m < q → f_X5_hasProved_2 q (b + 20) (nI j) (nI g) (nI i) (wr (SK b) ia fi fl qa f) = some (0, wr (SK b) ia fi fl qa f) ∨ ∃ ia1, f_X5_hasProved_2 q (b + 20) (nI j) (nI g) (nI i) (wr (SK b) ia fi fl qa f) = some (1, wr (SK b) ia1 fi fl qa f) ∧ sEw ia ia1 (b + 41) j (sB (ia1 (b + 41)) j) ∧ (∀ q, q < 192 → sB (ia1 (b + 41)) j q = true → sB (ia (b + 35)) 0 q = true) ∧ Prv S kd lf rt (sB (ia1 (b + 41)) j) g := by
  intro m
  induction m with
  | zero =>
    intro i q hi hm
    obtain ⟨q, rfl⟩ : ∃ k, q = k + 1 := ⟨q - 1, by omega⟩
    have e : i = n := by omega
    subst e
    refine Or.inl ?_
    rw [f_X5_hasProved_2]
    simp only [R_20_9, I_51_0, h0, Option.bind_some, if_pos (Int32.le_refl _)]
  | succ m ih =>
    intro i q hi hm
    obtain ⟨q, rfl⟩ : ∃ k, q = k + 1 := ⟨q - 1, by omega⟩
    have hin : i < n := by omega
    have next := ih (i + 1) q (by omega) (by omega)
    obtain ⟨g1, g2, g3, g4⟩ := hM i hin
    have qg : (nI g1 = nI g) = (g1 = g) := propext (nI_eq (by omega) (by omega))
    have hgl : f_X1_goal (b + 51) (nI i) (wr (SK b) ia fi fl qa f) = some (nI g1) := by
      unfold f_X1_goal
      simp only [R_51_2, at_row L_54 (An_54 (show i < 128 by omega)) (show i < 128 by omega) (by decide), g3, Option.bind_some]
    have hw := within_s (ia := ia) (fi := fi) (fl := fl) (qa := qa) (f := f) (PS_P b) (PS_K b) (k := i) (k2 := 0) (by omega) (by decide)
    rw [show nI 0 = (0 : Int32) from rfl] at hw
    rw [f_X5_hasProved_2]
    simp only [R_20_9, I_51_0, h0, Option.bind_some, if_neg (nI_ge hin (show n < 2 ^ 31 by omega)), ck_51, hgl, qg]
    by_cases c : g1 = g
    · rw [if_pos c]
      simp only [R_51_1, R_20_2, R_33_1, ps_ck (PS_P b), Option.bind_some]
      rcases hw with ⟨a1, a2⟩ | ⟨a1, a2⟩
      · simp only [a2, Option.bind_some, i10, if_false]
        subst c
        obtain ⟨ia1, t1, t2⟩ := copy_s (ia := ia) (fi := fi) (fl := fl) (qa := qa) (f := f) (PS_U b) (PS_P b) hj (show i < 128 by omega)
        simp only [R_20_4, ps_ck (PS_U b), t1, Option.bind_some]
        exact Or.inr ⟨ia1, rfl, t2.ext (fun q hq => (t2.2.2 q hq).symm), fun q hq hk => a1 q hq (by rw [← t2.2.2 q hq]; exact hk), g4.mono (fun p hp hk => by rw [t2.2.2 p (by omega)]; exact hk)⟩
      · simp only [a2, Option.bind_some, if_true]
        unfold f_X5_hasProved_65
        rw [nI_1]
        exact next
    · rw [if_neg c]
      unfold f_X5_hasProved_65
      rw [nI_1]
      exact next
theorem hasproved_c {j g : Nat} (hj : j < 153) (hg : g < S) (hS : S ≤ 151) (hM : PI b ia fi S kd lf rt) : f_X5_hasProved (b + 20) (nI j) (nI g) (wr (SK b) ia fi fl qa f) = some (0, wr (SK b) ia fi fl qa f) ∨ ∃ ia1, f_X5_hasProved (b + 20) (nI j) (nI g) (wr (SK b) ia fi fl qa f) = some (1, wr (SK b) ia1 fi fl qa f) ∧ sEw ia ia1 (b + 41) j (sB (ia1 (b + 41)) j) ∧ (∀ q, q < 192 → sB (ia1 (b + 41)) j q = true → sB (ia (b + 35)) 0 q = true) ∧ Prv S kd lf rt (sB (ia1 (b + 41)) j) g := by
  obtain ⟨qf, hqf⟩ := FU_1000
  obtain ⟨n, x, h1, h2, h3, h4, h5⟩ := hM
  exact hasproved_2 hj hg hS h1 h3 h5 n 0 FU (by omega) (by omega)
/-- a finding is added -/
theorem add_m {a w N k g n x : Nat} (hP : isPS b a w N) (hk : k < N) (hw : w ≠ b + 49) (hn : n ≤ 128) (hx : x ≤ n) (h0 : fi (b + 47) 0 = nI n) (h3 : fi (b + 47) 3 = nI x) : ∃ (ia1 fi1 : Nat → Nat → Int32) (n1 y : Nat), f_X1_add (b + 47) a (nI k) (nI g) (wr (SK b) ia fi fl qa f) = some (wr (SK b) ia1 fi1 fl qa f) ∧ y < 128 ∧ (∀ q, q < 192 → sB (ia1 (b + 49)) y q = sB (ia w) k q) ∧ (∀ i q, i ≠ y → q < 192 → sB (ia1 (b + 49)) i q = sB (ia (b + 49)) i q) ∧ n1 ≤ 128 ∧ y + 1 ≤ n1 ∧ fi1 (b + 47) 0 = nI n1 ∧ fi1 (b + 47) 3 = nI (y + 1) ∧ (∀ i, i < n1 → i ≠ y → i < n) ∧ (∀ c, c ≠ b + 49 → c ≠ b + 50 → ia1 c = ia c) ∧ (∀ c i, c ≠ b + 47 → fi1 c i = fi c i) ∧ ia1 (b + 50) y = nI g ∧ ∀ i, i ≠ y → ia1 (b + 50) i = ia (b + 50) i := by
  have main : ∀ (fi : Nat → Nat → Int32) (y : Nat), y < 128 → y ≤ n → fi (b + 47) 0 = nI n → fi (b + 47) 3 = nI y → ∃ (ia1 fi1 : Nat → Nat → Int32) (n1 : Nat), f_X1_add_22 (b + 47) a (nI k) (nI g) (wr (SK b) ia fi fl qa f) = some (wr (SK b) ia1 fi1 fl qa f) ∧ (∀ q, q < 192 → sB (ia1 (b + 49)) y q = sB (ia w) k q) ∧ (∀ i q, i ≠ y → q < 192 → sB (ia1 (b + 49)) i q = sB (ia (b + 49)) i q) ∧ n1 ≤ 128 ∧ y + 1 ≤ n1 ∧ fi1 (b + 47) 0 = nI n1 ∧ fi1 (b + 47) 3 = nI (y + 1) ∧ (∀ i, i < n1 → i ≠ y → i < n) ∧ (∀ c, c ≠ b + 49 → c ≠ b + 50 → ia1 c = ia c) ∧ (∀ c i, c ≠ b + 47 → fi1 c i = fi c i) ∧ ia1 (b + 50) y = nI g ∧ ∀ i, i ≠ y → ia1 (b + 50) i = ia (b + 50) i := by
    intro fi y hy hyn e0 e3
    obtain ⟨ia1, t1, t2⟩ := copy_s (ia := ia) (fi := fi) (fl := fl) (qa := qa) (f := f) (PS_M b) hP hy hk
    have hlt : (nI n < nI (y + 1)) = (n < y + 1) := propext (nI_ltI (by omega) (by omega))
    have eo : ∀ c, c ≠ b + 50 → (u2 ia1 (b + 50) y (nI g)) c = ia1 c := fun c hc => u2_row _ _ hc
    unfold f_X1_add_22
    simp only [R_47_1, I_47_3, e3, ps_ck (PS_M b), t1, Option.bind_some, R_47_2, sAn_50 hy, nI_1, sI_47_3, I_47_0, u2_i _ _ (show (0 : Nat) ≠ 3 by decide), e0, u2_s, sI_47_0, hlt]
    refine ⟨_, _, if n < y + 1 then y + 1 else n, rfl, fun q hq => by rw [eo _ (by omega)]; exact t2.2.2 q hq, fun i q hi hq => by rw [eo _ (by omega)]; exact t2.2.1 i hi q hq, by split <;> omega, by split <;> omega, ?_, ?_, fun i hi hne => ?_, fun c hc hc2 => (eo c hc2).trans (t2.1 c hc), fun c i hc => by rw [u2_a _ _ hc, u2_a _ _ hc], u2_s _ _ _ _, fun i hi => (u2_i _ _ hi).trans (by rw [t2.1 _ (by omega)])⟩
    · rw [u2_s]
      by_cases c : n < y + 1
      · rw [if_pos c, if_pos c]
      · rw [if_neg c, if_neg c]
    · rw [u2_i _ _ (by decide), u2_s]
    · by_cases c : n < y + 1
      · rw [if_pos c] at hi; omega
      · rw [if_neg c] at hi; exact hi
  unfold f_X1_add
  simp only [I_47_3, h3, Option.bind_some, if_neg (nI_pos (show x < 2 ^ 31 by omega))]
  by_cases c : x < 128
  · rw [if_pos (show nI x < (128 : Int32) from nI_lt (b := 128) c (by decide))]
    obtain ⟨ia1, fi1, n1, z⟩ := main fi x c hx h0 h3
    exact ⟨ia1, fi1, n1, x, z.1, c, z.2⟩
  · rw [if_neg (show ¬ nI x < (128 : Int32) from nI_nlt (a := x) (b := 128) (by omega) (by omega))]
    unfold f_X1_add_17
    simp only [sI_47_3, Option.bind_some]
    obtain ⟨ia1, fi1, n1, z1, z2, z3, z4, z5, z6, z7, z8, z9, z10, z11⟩ := main (u2 fi (b + 47) 3 0) 0 (by decide) (Nat.zero_le _) (by rw [u2_i _ _ (by decide)]; exact h0) (u2_s _ _ _ _)
    exact ⟨ia1, fi1, n1, 0, z1, by decide, z2, z3, z4, z5, z6, z7, z8, z9, fun c i hc => by rw [z10 c i hc, u2_a _ _ hc], z11⟩
/-- a finding is added -/
theorem add_p {a w N k g n x : Nat} (hP : isPS b a w N) (hk : k < N) (hw : w ≠ b + 53) (hn : n ≤ 128) (hx : x ≤ n) (h0 : fi (b + 51) 0 = nI n) (h3 : fi (b + 51) 3 = nI x) : ∃ (ia1 fi1 : Nat → Nat → Int32) (n1 y : Nat), f_X1_add (b + 51) a (nI k) (nI g) (wr (SK b) ia fi fl qa f) = some (wr (SK b) ia1 fi1 fl qa f) ∧ y < 128 ∧ (∀ q, q < 192 → sB (ia1 (b + 53)) y q = sB (ia w) k q) ∧ (∀ i q, i ≠ y → q < 192 → sB (ia1 (b + 53)) i q = sB (ia (b + 53)) i q) ∧ n1 ≤ 128 ∧ y + 1 ≤ n1 ∧ fi1 (b + 51) 0 = nI n1 ∧ fi1 (b + 51) 3 = nI (y + 1) ∧ (∀ i, i < n1 → i ≠ y → i < n) ∧ (∀ c, c ≠ b + 53 → c ≠ b + 54 → ia1 c = ia c) ∧ (∀ c i, c ≠ b + 51 → fi1 c i = fi c i) ∧ ia1 (b + 54) y = nI g ∧ ∀ i, i ≠ y → ia1 (b + 54) i = ia (b + 54) i := by
  have main : ∀ (fi : Nat → Nat → Int32) (y : Nat), y < 128 → y ≤ n → fi (b + 51) 0 = nI n → fi (b + 51) 3 = nI y → ∃ (ia1 fi1 : Nat → Nat → Int32) (n1 : Nat), f_X1_add_22 (b + 51) a (nI k) (nI g) (wr (SK b) ia fi fl qa f) = some (wr (SK b) ia1 fi1 fl qa f) ∧ (∀ q, q < 192 → sB (ia1 (b + 53)) y q = sB (ia w) k q) ∧ (∀ i q, i ≠ y → q < 192 → sB (ia1 (b + 53)) i q = sB (ia (b + 53)) i q) ∧ n1 ≤ 128 ∧ y + 1 ≤ n1 ∧ fi1 (b + 51) 0 = nI n1 ∧ fi1 (b + 51) 3 = nI (y + 1) ∧ (∀ i, i < n1 → i ≠ y → i < n) ∧ (∀ c, c ≠ b + 53 → c ≠ b + 54 → ia1 c = ia c) ∧ (∀ c i, c ≠ b + 51 → fi1 c i = fi c i) ∧ ia1 (b + 54) y = nI g ∧ ∀ i, i ≠ y → ia1 (b + 54) i = ia (b + 54) i := by
    intro fi y hy hyn e0 e3
    obtain ⟨ia1, t1, t2⟩ := copy_s (ia := ia) (fi := fi) (fl := fl) (qa := qa) (f := f) (PS_P b) hP hy hk
    have hlt : (nI n < nI (y + 1)) = (n < y + 1) := propext (nI_ltI (by omega) (by omega))
    have eo : ∀ c, c ≠ b + 54 → (u2 ia1 (b + 54) y (nI g)) c = ia1 c := fun c hc => u2_row _ _ hc
    unfold f_X1_add_22
    simp only [R_51_1, I_51_3, e3, ps_ck (PS_P b), t1, Option.bind_some, R_51_2, sAn_54 hy, nI_1, sI_51_3, I_51_0, u2_i _ _ (show (0 : Nat) ≠ 3 by decide), e0, u2_s, sI_51_0, hlt]
    refine ⟨_, _, if n < y + 1 then y + 1 else n, rfl, fun q hq => by rw [eo _ (by omega)]; exact t2.2.2 q hq, fun i q hi hq => by rw [eo _ (by omega)]; exact t2.2.1 i hi q hq, by split <;> omega, by split <;> omega, ?_, ?_, fun i hi hne => ?_, fun c hc hc2 => (eo c hc2).trans (t2.1 c hc), fun c i hc => by rw [u2_a _ _ hc, u2_a _ _ hc], u2_s _ _ _ _, fun i hi => (u2_i _ _ hi).trans (by rw [t2.1 _ (by omega)])⟩
    · rw [u2_s]
      by_cases c : n < y + 1
      · rw [if_pos c, if_pos c]
      · rw [if_neg c, if_neg c]
    · rw [u2_i _ _ (by decide), u2_s]
    · by_cases c : n < y + 1
      · rw [if_pos c] at hi; omega
      · rw [if_neg c] at hi; exact hi
  unfold f_X1_add
  simp only [I_51_3, h3, Option.bind_some, if_neg (nI_pos (show x < 2 ^ 31 by omega))]
  by_cases c : x < 128
  · rw [if_pos (show nI x < (128 : Int32) from nI_lt (b := 128) c (by decide))]
    obtain ⟨ia1, fi1, n1, z⟩ := main fi x c hx h0 h3
    exact ⟨ia1, fi1, n1, x, z.1, c, z.2⟩
  · rw [if_neg (show ¬ nI x < (128 : Int32) from nI_nlt (a := x) (b := 128) (by omega) (by omega))]
    unfold f_X1_add_17
    simp only [sI_51_3, Option.bind_some]
    obtain ⟨ia1, fi1, n1, z1, z2, z3, z4, z5, z6, z7, z8, z9, z10, z11⟩ := main (u2 fi (b + 51) 3 0) 0 (by decide) (Nat.zero_le _) (by rw [u2_i _ _ (by decide)]; exact h0) (u2_s _ _ _ _)
    exact ⟨ia1, fi1, n1, 0, z1, by decide, z2, z3, z4, z5, z6, z7, z8, z9, fun c i hc => by rw [z10 c i hc, u2_a _ _ hc], z11⟩
/-- what all used parts but one tell of single stages -/
theorem without_5 {j z w : Nat} {O : Nat → Nat} (hj : j < 153) (hw : w < S) (h : LX b ia fi S kd lf rt) (t : TRL b ia fi S z O) : ∀ (m i q : Nat) (X : Int32), i + m = z → m < q → ∃ Y, f_X5_singlesWithout_5 (wr (SK b) ia fi fl qa f) q (b + 20) (nI j) (nI w) X (nI i) = some Y ∧ ∀ u, u < 16 → ib Y u = false → ib X u = false ∨ ∃ r, r < S ∧ r ≠ w ∧ sB (ia (b + 41)) j r = true ∧ ¬ kT1 u kd lf rt r := by
  have ho := h.2.1
  have hS := ho.2.1
  have hz := t.le
  intro m
  induction m with
  | zero =>
    intro i q X hi hq
    obtain ⟨q, rfl⟩ : ∃ k, q = k + 1 := ⟨q - 1, by omega⟩
    have e : i = z := by omega
    subst e
    refine ⟨X, ?_, fun u _ h => Or.inl h⟩
    rw [f_X5_singlesWithout_5]
    simp only [R_20_2, I_33_0, t.1, Option.bind_some, if_pos (Int32.le_refl _)]
  | succ m ih =>
    intro i q X hi hq
    obtain ⟨q, rfl⟩ : ∃ k, q = k + 1 := ⟨q - 1, by omega⟩
    have hiz : i < z := by omega
    have hO := (t.2.1 i hiz).2
    have qw : (nI (O i) = nI w) = (O i = w) := propext (nI_eq (by omega) (by omega))
    have skip : ∃ Y, f_X5_singlesWithout_60 (fun a0 a1 a2 a3 a4 => f_X5_singlesWithout_5 (wr (SK b) ia fi fl qa f) q a0 a1 a2 a3 a4) (wr (SK b) ia fi fl qa f) (b + 20) (nI j) (nI w) (nI i) X = some Y ∧ ∀ u, u < 16 → ib Y u = false → ib X u = false ∨ ∃ r, r < S ∧ r ≠ w ∧ sB (ia (b + 41)) j r = true ∧ ¬ kT1 u kd lf rt r := by
      obtain ⟨Y, y1, y2⟩ := ih (i + 1) q (X &&& (-1 : Int32)) (by omega) (by omega)
      refine ⟨Y, ?_, fun u hu hy => ?_⟩
      · unfold f_X5_singlesWithout_60 f_X5_singlesWithout_61
        rw [nI_1]
        exact y1
      · rcases y2 u hu hy with h | h
        · rw [ib_and, ib_m1 (by omega), Bool.and_true] at h
          exact Or.inl h
        · exact Or.inr h
    rw [f_X5_singlesWithout_5]
    simp only [R_20_2, I_33_0, t.1, Option.bind_some, if_neg (nI_ge hiz (show z < 2 ^ 31 by omega)), ck_33, k_part t hS hiz, qw, R_20_4, ps_ck (PS_U b), has_s (PS_U b) hj (show O i < 192 by omega)]
    by_cases c : O i = w
    · rw [if_pos c]; exact skip
    · rw [if_neg c]
      cases hb : sB (ia (b + 41)) j (O i) with
      | false =>
        simp only [if_neg (show ¬ (false = true) by decide), i00, if_true]
        exact skip
      | true =>
        simp only [if_true, i10, if_false, R_20_0, ck_21, singles_c h hO, Option.bind_some]
        obtain ⟨Y, y1, y2⟩ := ih (i + 1) q (X &&& nI (fN kd lf rt (fun _ => 65535) 0 0 (O i))) (by omega) (by omega)
        refine ⟨Y, ?_, fun u hu hy => ?_⟩
        · unfold f_X5_singlesWithout_61
          rw [nI_1]
          exact y1
        · rcases y2 u hu hy with h2 | h2
          · rw [ib_and, ib_nI _ (by omega), Bool.and_eq_false_iff] at h2
            rcases h2 with h2 | h2
            · exact Or.inl h2
            · refine Or.inr ⟨O i, hO, c, hb, fun hk => ?_⟩
              rw [(fN_kT1 ho hu hO).mpr hk] at h2
              cases h2
          · exact Or.inr h2
theorem fails_103 {j z : Nat} {O : Nat → Nat} (hj : j < 153) : ∀ (t q : Nat) (ia : Nat → Nat → Int32), t ≤ z → t < q → LX b ia fi S kd lf rt → TRL b ia fi S z O → (∀ q, q < 192 → sB (ia (b + 41)) j q = true → sB (ia (b + 35)) 0 q = true) → (∀ u, u < 16 → ∃ r, r < S ∧ sB (ia (b + 41)) j r = true ∧ ¬ kT1 u kd lf rt r) → ∃ ia1, f_X5_failsAtAllLast_103 q (b + 20) (nI j) (nI t - 1) (wr (SK b) ia fi fl qa f) = some (1, wr (SK b) ia1 fi fl qa f) ∧ sEw ia ia1 (b + 41) j (sB (ia1 (b + 41)) j) ∧ (∀ q, q < 192 → sB (ia1 (b + 41)) j q = true → sB (ia (b + 35)) 0 q = true) ∧ ∀ u, u < 16 → ∃ r, r < S ∧ sB (ia1 (b + 41)) j r = true ∧ ¬ kT1 u kd lf rt r := by
  obtain ⟨qf, hqf⟩ := FU_1000
  intro t
  induction t with
  | zero =>
    intro q ia ht hq h tr hU hD
    obtain ⟨q, rfl⟩ : ∃ k, q = k + 1 := ⟨q - 1, by omega⟩
    refine ⟨ia, ?_, sEw.rf j, hU, hD⟩
    rw [f_X5_failsAtAllLast_103, if_pos (show nI 0 - 1 < 0 by decide)]
  | succ t ih =>
    intro q ia ht hq h tr hU hD
    obtain ⟨q, rfl⟩ : ∃ k, q = k + 1 := ⟨q - 1, by omega⟩
    have ho := h.2.1
    have hS := ho.2.1
    have hz := tr.le
    have hO := (tr.2.1 t (by omega)).2
    have skip : ∃ ia1, f_X5_failsAtAllLast_152 (fun a0 a1 a2 a3 => f_X5_failsAtAllLast_103 q a0 a1 a2 a3) (b + 20) (nI j) (nI t) (wr (SK b) ia fi fl qa f) = some (1, wr (SK b) ia1 fi fl qa f) ∧ sEw ia ia1 (b + 41) j (sB (ia1 (b + 41)) j) ∧ (∀ q, q < 192 → sB (ia1 (b + 41)) j q = true → sB (ia (b + 35)) 0 q = true) ∧ ∀ u, u < 16 → ∃ r, r < S ∧ sB (ia1 (b + 41)) j r = true ∧ ¬ kT1 u kd lf rt r := by
      obtain ⟨ia1, a1, a2⟩ := ih q ia (by omega) (by omega) h tr hU hD
      refine ⟨ia1, ?_, a2⟩
      unfold f_X5_failsAtAllLast_152
      rw [show nI t + (-1 : Int32) = nI t - 1 from (Int32.sub_eq_add_neg _ _).symm]
      exact a1
    rw [f_X5_failsAtAllLast_103, nI_pred, if_neg (nI_pos (show t < 2 ^ 31 by omega))]
    simp only [R_20_2, ck_33, k_part tr hS (show t < z by omega), R_20_4, ps_ck (PS_U b), has_s (PS_U b) hj (show O t < 192 by omega), Option.bind_some]
    cases hb : sB (ia (b + 41)) j (O t) with
    | false =>
      simp only [if_neg (show ¬ (false = true) by decide), i00, if_true]
      exact skip
    | true =>
      obtain ⟨Y, y1, y2⟩ := without_5 (fl := fl) (qa := qa) (f := f) (w := O t) hj hO h tr z 0 FU (-1) (by omega) (by omega)
      have y1' : f_X5_singlesWithout (b + 20) (nI j) (nI (O t)) (wr (SK b) ia fi fl qa f) = some Y := y1
      simp only [if_true, i10, if_false, ck_20, y1', Option.bind_some]
      by_cases c : Y = 0
      · rw [if_pos c]
        obtain ⟨ia1, a1, a2⟩ := remove_s (ia := ia) (fi := fi) (fl := fl) (qa := qa) (f := f) (PS_U b) hj (show O t < 192 by omega)
        simp only [a1, Option.bind_some]
        have hL := a2.L (j := j) (fi := fi) (Or.inl rfl) (Nat.le_refl j)
        have e35 : ia1 (b + 35) = ia (b + 35) := a2.1 _ (by omega)
        obtain ⟨ia2, b1, b2, b3, b4⟩ := ih q ia1 (by omega) (by omega) (hL.lx h) (tr.cg e35 (a2.1 _ (by omega)) rfl) (fun q hq hk => by
          rw [e35]
          rw [a2.2.2 q hq] at hk
          unfold upB at hk
          by_cases e : q = O t
          · rw [if_pos e] at hk; cases hk
          · rw [if_neg e] at hk; exact hU q hq hk) (fun u hu => by
          subst c
          rcases y2 u hu (ib_0 u) with h2 | ⟨r, r1, r2, r3, r4⟩
          · rw [ib_m1 (by omega)] at h2; cases h2
          · exact ⟨r, r1, by rw [a2.2.2 r (by omega)]; unfold upB; rw [if_neg r2]; exact r3, r4⟩)
        rw [e35] at b3
        refine ⟨ia2, ?_, a2.tr b2, b3, b4⟩
        unfold f_X5_failsAtAllLast_152
        rw [show nI t + (-1 : Int32) = nI t - 1 from (Int32.sub_eq_add_neg _ _).symm]
        exact b1
      · rw [if_neg c]; exact skip
theorem fails_21 {j z : Nat} {O : Nat → Nat} (hj : j < 153) : ∀ (m i q : Nat) (ia : Nat → Nat → Int32) (X : Int32), i + m = z → m < q → LX b ia fi S kd lf rt → TRL b ia fi S z O → (∀ u, u < 16 → ∃ r, r < S ∧ sB (ia (b + 35)) 0 r = true ∧ ¬ kT1 u kd lf rt r) → (∀ q, q < 192 → sB (ia (b + 41)) j q = true → sB (ia (b + 35)) 0 q = true) → (∀ u, u < 16 → (∀ r, r < S → sB (ia (b + 41)) j r = true → kT1 u kd lf rt r) → ib X u = true) → (∀ u, u < 16 → ib X u = true → ∀ i', i' < i → kT1 u kd lf rt (O i')) → ∃ ia1, f_X5_failsAtAllLast_21 q (b + 20) (nI j) X (nI i) (wr (SK b) ia fi fl qa f) = some (1, wr (SK b) ia1 fi fl qa f) ∧ sEw ia ia1 (b + 41) j (sB (ia1 (b + 41)) j) ∧ (∀ q, q < 192 → sB (ia1 (b + 41)) j q = true → sB (ia (b + 35)) 0 q = true) ∧ ∀ u, u < 16 → ∃ r, r < S ∧ sB (ia1 (b + 41)) j r = true ∧ ¬ kT1 u kd lf rt r := by
  obtain ⟨qf, hqf⟩ := FU_1000
  -- the second pass
  have fin : ∀ (ia : Nat → Nat → Int32), LX b ia fi S kd lf rt → TRL b ia fi S z O → (∀ q, q < 192 → sB (ia (b + 41)) j q = true → sB (ia (b + 35)) 0 q = true) → (∀ u, u < 16 → ∃ r, r < S ∧ sB (ia (b + 41)) j r = true ∧ ¬ kT1 u kd lf rt r) → ∃ ia1, f_X5_failsAtAllLast_92 (b + 20) (nI j) (wr (SK b) ia fi fl qa f) = some (1, wr (SK b) ia1 fi fl qa f) ∧ sEw ia ia1 (b + 41) j (sB (ia1 (b + 41)) j) ∧ (∀ q, q < 192 → sB (ia1 (b + 41)) j q = true → sB (ia (b + 35)) 0 q = true) ∧ ∀ u, u < 16 → ∃ r, r < S ∧ sB (ia1 (b + 41)) j r = true ∧ ¬ kT1 u kd lf rt r := by
    intro ia h t hU hD
    have hz := t.le
    have hS := h.2.1.2.1
    obtain ⟨ia1, a1, a2⟩ := fails_103 (fl := fl) (qa := qa) (f := f) hj z FU ia (Nat.le_refl z) (by omega) h t hU hD
    refine ⟨ia1, ?_, a2⟩
    unfold f_X5_failsAtAllLast_92
    simp only [R_20_2, I_33_0, t.1, Option.bind_some]
    exact a1
  have ex : ∀ (ia : Nat → Nat → Int32) (u : Nat), ¬ (∀ r, r < S → sB (ia (b + 41)) j r = true → kT1 u kd lf rt r) → ∃ r, r < S ∧ sB (ia (b + 41)) j r = true ∧ ¬ kT1 u kd lf rt r := fun ia u hn => Classical.byContradiction (fun h => hn (fun r h1 h2 => Classical.byContradiction (fun h3 => h ⟨r, h1, h2, h3⟩)))
  intro m
  induction m with
  | zero =>
    intro i q ia X hi hq h t hN hU hB hC
    obtain ⟨q, rfl⟩ : ∃ k, q = k + 1 := ⟨q - 1, by omega⟩
    have e : i = z := by omega
    subst e
    have hS := h.2.1.2.1
    rw [f_X5_failsAtAllLast_21]
    simp only [R_20_2, I_33_0, t.1, Option.bind_some, if_pos (Int32.le_refl _)]
    refine fin ia h t hU (fun u hu => ex ia u (fun hA => ?_))
    obtain ⟨r, r1, r2, r3⟩ := hN u hu
    obtain ⟨i', h1, h2⟩ := (t.2.2.2.1 r (by omega)).mp r2
    exact r3 (h2 ▸ hC u hu (hB u hu hA) i' h1)
  | succ m ih =>
    intro i q ia X hi hq h t hN hU hB hC
    obtain ⟨q, rfl⟩ : ∃ k, q = k + 1 := ⟨q - 1, by omega⟩
    have ho := h.2.1
    have hS := ho.2.1
    have hz := t.le
    have hiz : i < z := by omega
    have hO := (t.2.1 i hiz).2
    rw [f_X5_failsAtAllLast_21]
    simp only [R_20_2, I_33_0, t.1, Option.bind_some, if_neg (nI_ge hiz (show z < 2 ^ 31 by omega)), ck_33, k_part t hS hiz, R_20_0, ck_21, singles_c h hO, R_20_4, ps_ck (PS_U b)]
    by_cases c0 : X = 0
    · rw [if_pos c0]
      subst c0
      refine fin ia h t hU (fun u hu => ex ia u (fun hA => ?_))
      have := hB u hu hA
      rw [ib_0] at this
      cases this
    · rw [if_neg c0]
      by_cases c : X &&& (nI (fN kd lf rt (fun _ => 65535) 0 0 (O i)) ^^^ (-1 : Int32)) = 0
      · rw [if_pos c]
        unfold f_X5_failsAtAllLast_86
        rw [nI_1]
        refine ih (i + 1) q ia X (by omega) (by omega) h t hN hU hB (fun u hu hb i' hi' => ?_)
        by_cases e : i' = i
        · subst e
          have h2 : ib (X &&& (nI (fN kd lf rt (fun _ => 65535) 0 0 (O i')) ^^^ (-1 : Int32))) u = false := by rw [c]; exact ib_0 u
          rw [ib_and, hb, Bool.true_and, ib_not _ (by omega), ib_nI _ (by omega), Bool.not_eq_false'] at h2
          exact (fN_kT1 ho hu hO).mp h2
        · exact hC u hu hb i' (by omega)
      · rw [if_neg c]
        obtain ⟨ia1, a1, a2⟩ := add_s (ia := ia) (fi := fi) (fl := fl) (qa := qa) (f := f) (PS_U b) hj (show O i < 192 by omega)
        simp only [a1, Option.bind_some]
        have hL := a2.L (j := j) (fi := fi) (Or.inl rfl) (Nat.le_refl j)
        have e35 : ia1 (b + 35) = ia (b + 35) := a2.1 _ (by omega)
        obtain ⟨ia2, b1, b2, b3, b4⟩ := ih (i + 1) q ia1 (X &&& nI (fN kd lf rt (fun _ => 65535) 0 0 (O i))) (by omega) (by omega) (hL.lx h) (t.cg e35 (a2.1 _ (by omega)) rfl) (by rw [e35]; exact hN) (fun q hq hk => by
          rw [e35]
          rw [a2.2.2 q hq] at hk
          unfold upB at hk
          by_cases e : q = O i
          · rw [e]; exact t.at hS hiz
          · rw [if_neg e] at hk; exact hU q hq hk) (fun u hu hA => by
          rw [ib_and, ib_nI _ (by omega), Bool.and_eq_true]
          refine ⟨hB u hu (fun r hr hk => hA r hr (by rw [a2.2.2 r (by omega)]; exact upB_le hk)), (fN_kT1 ho hu hO).mpr (hA (O i) hO (by rw [a2.2.2 _ (by omega)]; exact upB_s _ _ _))⟩) (fun u hu hb i' hi' => by
          rw [ib_and, ib_nI _ (by omega), Bool.and_eq_true] at hb
          by_cases e : i' = i
          · subst e; exact (fN_kT1 ho hu hO).mp hb.2
          · exact hC u hu hb.1 i' (by omega))
        rw [e35] at b3
        refine ⟨ia2, ?_, a2.tr b2, b3, b4⟩
        unfold f_X5_failsAtAllLast_86
        rw [nI_1]
        exact b1
/-- a goal that holds nowhere, and no single stage -/
theorem fails_c {j g z : Nat} {O : Nat → Nat} (hj : j < 153) (h : LX b ia fi S kd lf rt) (hg : g < S) (t : TRL b ia fi S z O) (hN : g = 5 → ∀ u, u < 16 → ∃ r, r < S ∧ sB (ia (b + 35)) 0 r = true ∧ ¬ kT1 u kd lf rt r) : (g ≠ 5 ∧ f_X5_failsAtAllLast (b + 20) (nI j) (nI g) (wr (SK b) ia fi fl qa f) = some (0, wr (SK b) ia fi fl qa f)) ∨ ∃ ia1, f_X5_failsAtAllLast (b + 20) (nI j) (nI g) (wr (SK b) ia fi fl qa f) = some (1, wr (SK b) ia1 fi fl qa f) ∧ sEw ia ia1 (b + 41) j (sB (ia1 (b + 41)) j) ∧ (∀ q, q < 192 → sB (ia1 (b + 41)) j q = true → sB (ia (b + 35)) 0 q = true) ∧ Prv S kd lf rt (sB (ia1 (b + 41)) j) g := by
  obtain ⟨qf, hqf⟩ := FU_1000
  have ho := h.2.1
  have hS := ho.2.1
  have hz := t.le
  have q5 : (nI g = (5 : Int32)) = (g = 5) := propext (nI_eq (b := 5) (by omega) (by decide))
  unfold f_X5_failsAtAllLast
  simp only [q5]
  by_cases c : g = 5
  · rw [if_pos c]
    obtain ⟨ia1, a1, a2⟩ := fill_s (ia := ia) (fi := fi) (fl := fl) (qa := qa) (f := f) (PS_U b) hj (0 : Int32)
    rw [if_pos rfl] at a2
    have hL := a2.L (j := j) (fi := fi) (Or.inl rfl) (Nat.le_refl j)
    have e35 : ia1 (b + 35) = ia (b + 35) := a2.1 _ (by omega)
    obtain ⟨ia2, b1, b2, b3, b4⟩ := fails_21 (fl := fl) (qa := qa) (f := f) hj z 0 FU ia1 (-1) (by omega) (by omega) (hL.lx h) (t.cg e35 (a2.1 _ (by omega)) rfl) (by rw [e35]; exact hN c) (fun q hq hk => by rw [a2.2.2 q hq] at hk; cases hk) (fun u hu _ => ib_m1 (by omega)) (fun u hu _ i' hi' => absurd hi' (Nat.not_lt_zero _))
    rw [show nI 0 = (0 : Int32) from rfl] at b1
    rw [e35] at b3
    simp only [R_20_4, ps_ck (PS_U b), a1, Option.bind_some]
    exact Or.inr ⟨ia2, b1, a2.tr b2, b3, no_single ho.to b4 g⟩
  · rw [if_neg c]
    exact Or.inl ⟨c, rfl⟩
end FINDS
