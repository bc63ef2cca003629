/-! THE CLASS: values of parts; the stages at which a part holds -/
def pvT {α : Type} (lv : Nat → α) (un : α → α) (bn : Nat → α → α → α) (kd lf rt : Nat → Nat) (d0 : α) : Nat → Nat → α
  | 0 => fun _ => d0
  | i + 1 => fun j => if j = i then (if i < 6 then lv i else if kd i = 6 then un (pvT lv un bn kd lf rt d0 i (lf i)) else bn (kd i) (pvT lv un bn kd lf rt d0 i (lf i)) (pvT lv un bn kd lf rt d0 i (rt i))) else pvT lv un bn kd lf rt d0 i j
def pv {α : Type} (lv : Nat → α) (un : α → α) (bn : Nat → α → α → α) (kd lf rt : Nat → Nat) (d0 : α) (i : Nat) : α := pvT lv un bn kd lf rt d0 (i + 1) i
section PV
variable {α : Type} {lv : Nat → α} {un : α → α} {bn : Nat → α → α → α} {kd lf rt : Nat → Nat} {d0 : α}
theorem pvT_lt : ∀ (i j : Nat), j < i → pvT lv un bn kd lf rt d0 i j = pv lv un bn kd lf rt d0 j
  | 0, j, h => absurd h (Nat.not_lt_zero _)
  | i + 1, j, h => by
    by_cases e : j = i
    · subst e; rfl
    · show (if j = i then _ else pvT lv un bn kd lf rt d0 i j) = _
      rw [if_neg e]
      exact pvT_lt i j (by omega)
theorem pv_eq (i : Nat) : pv lv un bn kd lf rt d0 i = if i < 6 then lv i else if kd i = 6 then un (pvT lv un bn kd lf rt d0 i (lf i)) else bn (kd i) (pvT lv un bn kd lf rt d0 i (lf i)) (pvT lv un bn kd lf rt d0 i (rt i)) := if_pos rfl
theorem pv_lf {i : Nat} (h : i < 6) : pv lv un bn kd lf rt d0 i = lv i := by rw [pv_eq, if_pos h]
theorem pv_un {i : Nat} (h : 6 ≤ i) (hk : kd i = 6) (hl : lf i < i) : pv lv un bn kd lf rt d0 i = un (pv lv un bn kd lf rt d0 (lf i)) := by rw [pv_eq, if_neg (by omega), if_pos hk, pvT_lt i _ hl]
theorem pv_bn {i : Nat} (h : 6 ≤ i) (hk : kd i ≠ 6) (hl : lf i < i) (hr : rt i < i) : pv lv un bn kd lf rt d0 i = bn (kd i) (pv lv un bn kd lf rt d0 (lf i)) (pv lv un bn kd lf rt d0 (rt i)) := by rw [pv_eq, if_neg (by omega), if_neg hk, pvT_lt i _ hl, pvT_lt i _ hr]
/-- a node's value is its part's -/
theorem NP.val {g : Nat → Nat} {S k : Nat} {Pn : Nat → Nat} {d1 : α} (h : NP g S kd lf rt Pn k) (ho : PTo S kd lf rt) (hok : okp g k) : ∀ i, i < k → pv lv un bn kd lf rt d0 (Pn i) = nv lv un bn g d1 i := by
  intro i
  induction i using Nat.strongRecOn with
  | _ i ih =>
    intro hi
    obtain ⟨h1, h2, h3, h4⟩ := h i hi
    by_cases c6 : g i < 6
    · rw [nv_lf c6, h2 c6, pv_lf c6]
    · have hr := rc_lt hok hi (by omega)
      by_cases c7 : g i = 6
      · obtain ⟨a1, a2, a3, a4⟩ := h3 c7
        obtain ⟨o1, o2, o3, o4, o5⟩ := ho.2.2.2.1 _ a1 h1
        rw [nv_un c7 hr, pv_un a1 a2 o3, a3, ih _ hr (by omega)]
      · have hl := lc_lt hok hi (by omega)
        obtain ⟨a1, a2, a3, a4⟩ := h4 (by omega)
        obtain ⟨o1, o2, o3, o4, o5⟩ := ho.2.2.2.1 _ a1 h1
        rw [nv_bn (by omega) hl hr, pv_bn a1 (by omega) o3 o4, a2, a3, a4, ih _ hr (by omega), ih _ hl (by omega)]
end PV
section WITH
variable {b s n : Nat} {L F : Nat → Nat} {ia fi : Nat → Nat → Int32} {fl : Nat → Nat → Int64} {qa : Nat → Nat → Option Nat} {f : mmF} {S : Nat} {kd lf rt : Nat → Nat}
theorem at_any {μ : mmF} {a N : Nat} {x : Int32} (hL : lenA μ a = some (nI N)) (hA : ∀ d, d < N → ∃ v, ldA 0 μ a (nI d) = some v) (hN : N < 2 ^ 31) : ∃ v, f_X9_at a x μ = some v := by
  unfold f_X9_at
  by_cases h0 : x < 0
  · exact ⟨0, by rw [if_pos h0]⟩
  · rw [if_neg h0, hL]
    obtain ⟨j, hj, rfl⟩ := nI_of h0
    simp only [Option.bind_some]
    by_cases hl : nI N ≤ nI j
    · exact ⟨0, by rw [if_pos hl]⟩
    · have : j < N := Nat.not_le.mp fun h => hl (nI_le h hj)
      obtain ⟨v, hv⟩ := hA j this
      exact ⟨v, by rw [if_neg hl, hv]; rfl⟩
theorem c_alo_4 (hs : isSt b s) (h : CS ia fi s n L F) (w : WF n L F) {u : Nat} (hu : u < 256) : ∀ (m i q : Nat), i + m = n → m < q → f_X7_stagesAlwaysOutside_4 (wr (SK b) ia fi fl qa f) q s (nI u) (nI (alo L i u)) (nI i) = some (nI (alo L n u)) := by
  have h8 := w.2.1
  intro m
  induction m with
  | zero =>
    intro i q hi hm
    obtain ⟨q, rfl⟩ : ∃ k, q = k + 1 := ⟨q - 1, by omega⟩
    have hin : i = n := by omega
    subst hin
    rw [f_X7_stagesAlwaysOutside_4]
    simp only [S_I hs, Option.bind_some, h.1]
    rw [if_pos (Int32.le_refl _)]
  | succ m ih =>
    intro i q hi hm
    obtain ⟨q, rfl⟩ : ∃ k, q = k + 1 := ⟨q - 1, by omega⟩
    have hin : i < n := by omega
    have hlt : ¬ nI n ≤ nI i := nI_ge (by omega) (by omega)
    have q1 : (nI (L i &&& u) = 0) = (L i &&& u = 0) := propext (nI_eq (b := 0) (Nat.lt_of_le_of_lt Nat.and_le_left (Nat.lt_trans (w.L31 hin) (by decide))) (by decide))
    rw [f_X7_stagesAlwaysOutside_4]
    simp only [S_I hs, Option.bind_some, h.1, if_neg hlt, S_R1 hs, S_A hs (Or.inl rfl) (show i < 8 by omega), (h.2 i hin).1, fa_and]
    rw [← ih (i + 1) q (by omega) (by omega)]
    show _ = f_X7_stagesAlwaysOutside_4 _ q s (nI u) (nI (alo L i u ||| (if L i &&& u = 0 then 2 ^ i else 0))) (nI (i + 1))
    unfold f_X7_stagesAlwaysOutside_31
    by_cases hE : L i &&& u = 0
    · rw [if_pos (q1.mpr hE), if_pos hE, bt_shl (show i < 32 by omega), fa_or, nI_1]
    · rw [if_neg (fun e => hE (q1.mp e)), if_neg hE, show (0 : Int32) = nI 0 from rfl, fa_or, nI_1]
/-- values of the state's own use, of an array of 151 -/
theorem S_R6v (h : isSt b s) {i : Nat} (hi : i < 151) : ldA 0 (wr (SK b) ia fi fl qa f) (s + 6) (nI i) = some (ia (s + 6) i) := by
  rw [wr_A (KS (i := 6) h (by decide)) (by decide) (vp_in_nI hi (by decide)), nI_clamp (by omega)]
theorem S_s6v (h : isSt b s) {i : Nat} {x : Int32} (hi : i < 151) : stA 0 (wr (SK b) ia fi fl qa f) (s + 6) (nI i) x = some (wr (SK b) (u2 ia (s + 6) i x) fi fl qa f) := by
  rw [wr_sA (KS (i := 6) h (by decide)) (by decide) (vp_in_nI hi (by decide)), nI_clamp (by omega)]
theorem S_L6 (h : isSt b s) : lenA (wr (SK b) ia fi fl qa f) (s + 6) = some (nI 151) := wr_len (KS (i := 6) h (by decide)) (by decide)
theorem at_v (h : isSt b s) {i : Nat} (hi : i < 151) : f_X9_at (s + 6) (nI i) (wr (SK b) ia fi fl qa f) = some (ia (s + 6) i) := at_row (S_L6 h) (S_R6v h hi) hi (by decide)
theorem at_w (h : isSt b s) (x : Int32) : ∃ v, f_X9_at (s + 6) x (wr (SK b) ia fi fl qa f) = some v := at_any (S_L6 h) (fun d hd => ⟨_, S_R6v h hd⟩) (by decide)
/-- where a part holds -/
def hPv (n : Nat) (L F kd lf rt : Nat → Nat) : Nat → Nat := pv (hLf n F) (alo L n) (hBn n L) kd lf rt 0
theorem hPv_lt (L F : Nat → Nat) (ho : PTo S kd lf rt) : ∀ p, p < S → hPv n L F kd lf rt p < 2 ^ n := by
  intro p
  induction p using Nat.strongRecOn with
  | _ p ih =>
    intro hp
    unfold hPv
    by_cases h6 : p < 6
    · rw [pv_lf h6]; exact hLf_lt _ _ _
    · obtain ⟨o1, o2, o3, o4, o5⟩ := ho.2.2.2.1 p (by omega) hp
      by_cases h7 : kd p = 6
      · rw [pv_un (by omega) h7 o3]; exact alo_lt _ _ _
      · rw [pv_bn (by omega) h7 o3 o4]
        exact hBn_lt _ _ (ih _ o3 (by omega)) (ih _ o4 (by omega))
theorem c_with (hs : isSt b s) (hs6 : s + 6 < b + 22 ∨ b + 55 ≤ s) (h : CS ia fi s n L F) (w : WF n L F) (hm : PTm b ia fi S kd lf rt) (ho : PTo S kd lf rt) {z : Nat} (hz : z < S) : ∀ (m p q : Nat) (R : Nat → Int32), p + m = S → m < q → (∀ d, d < p → R d = nI (hPv n L F kd lf rt d)) → ∃ R1 : Nat → Int32, f_X7_stagesWith_2 q s (b + 22) (nI z) (nI p) (wr (SK b) (rw2 ia (s + 6) R) fi fl qa f) = some (nI (hPv n L F kd lf rt z), wr (SK b) (rw2 ia (s + 6) R1) fi fl qa f) := by
  have h8 := w.2.1
  obtain ⟨o1, o2, o3, o4, o5⟩ := id ho
  obtain ⟨m1, m2, m3⟩ := hm
  obtain ⟨qf, hqf⟩ := FU_1000
  have e1 : s + 1 ≠ s + 6 := by omega
  have e2 : s + 2 ≠ s + 6 := by omega
  have e23 : b + 23 ≠ s + 6 := by omega
  have e24 : b + 24 ≠ s + 6 := by omega
  have e25 : b + 25 ≠ s + 6 := by omega
  have h' : ∀ R : Nat → Int32, CS (rw2 ia (s + 6) R) fi s n L F := fun R => ⟨h.1, fun i hi => by rw [rw2_n _ _ e1, rw2_n _ _ e2]; exact h.2 i hi⟩
  have hP8 : ∀ p, p < S → hPv n L F kd lf rt p < 256 := fun p hp => Nat.lt_of_lt_of_le (hPv_lt L F ho p hp) (p8 h8)
  intro m
  induction m with
  | zero =>
    intro p q R hp hq hR
    obtain ⟨q, rfl⟩ : ∃ k, q = k + 1 := ⟨q - 1, by omega⟩
    have hpS : p = S := by omega
    subst hpS
    refine ⟨R, ?_⟩
    rw [f_X7_stagesWith_2]
    simp only [I_22_0, Option.bind_some, m1]
    rw [if_pos (Int32.le_refl _)]
    simp only [S_R6 hs, Option.bind_some, at_v hs (show z < 151 by omega), rw2_s, hR z hz]
  | succ m ih =>
    intro p q R hp hq hR
    obtain ⟨q, rfl⟩ : ∃ k, q = k + 1 := ⟨q - 1, by omega⟩
    have hpS : p < S := by omega
    have hlt : ¬ nI S ≤ nI p := nI_ge (by omega) (by omega)
    have next : ∀ x : Int32, x = nI (hPv n L F kd lf rt p) → ∃ R1 : Nat → Int32, f_X7_stagesWith_132 (fun a0 a1 a2 a3 a4 => f_X7_stagesWith_2 q a0 a1 a2 a3 a4) s (b + 22) (nI z) (nI p) (s + 6) (nI p) x (wr (SK b) (rw2 ia (s + 6) R) fi fl qa f) = some (nI (hPv n L F kd lf rt z), wr (SK b) (rw2 ia (s + 6) R1) fi fl qa f) := by
      intro x hx
      obtain ⟨R1, hR1⟩ := ih (p + 1) q (fun j => if j = p then x else R j) (by omega) (by omega) (fun d hd => by
        by_cases hdp : d = p
        · subst hdp; exact (if_pos rfl).trans hx
        · exact (if_neg hdp).trans (hR d (by omega)))
      refine ⟨R1, ?_⟩
      unfold f_X7_stagesWith_132
      simp only [S_s6v hs (show p < 151 by omega), Option.bind_some, u2_rw2, nI_1]
      exact hR1
    rw [f_X7_stagesWith_2]
    simp only [I_22_0, Option.bind_some, m1, if_neg hlt, S_R6 hs, R_22_2, R_22_3, R_22_1, An_24 (show p < 151 by omega), An_25 (show p < 151 by omega), An_23 (show p < 151 by omega), rw2_n _ _ e23, rw2_n _ _ e24, rw2_n _ _ e25, m2 p hpS]
    by_cases c6 : p < 6
    · obtain ⟨v1, hv1⟩ := at_w (ia := rw2 ia (s + 6) R) (fi := fi) (fl := fl) (qa := qa) (f := f) hs (ia (b + 24) p)
      obtain ⟨v2, hv2⟩ := at_w (ia := rw2 ia (s + 6) R) (fi := fi) (fl := fl) (qa := qa) (f := f) hs (ia (b + 25) p)
      simp only [hv1, hv2, Option.bind_some, o3 p c6]
      have hH : hPv n L F kd lf rt p = hLf n F p := pv_lf c6
      by_cases c4 : p < 4
      · rw [if_neg (show ¬ (4 : Int32) ≤ nI p from nI_ge (b := 4) c4 (by decide))]
        simp only [S_ck hs, c_knowing hs (h' R) w (show p < 32 by omega), Option.bind_some]
        exact next _ (by rw [hH, hLf, if_pos c4])
      · rw [if_pos (show (4 : Int32) ≤ nI p from nI_le (a := 4) (by omega) (by omega))]
        by_cases d4 : p = 4
        · have ez : nI p = (4 : Int32) := by rw [d4]; rfl
          have eall : (1 : Int32) <<< (nI n &&& 31) - 1 = nI (2 ^ n - 1) := by
            rw [bt_shl (show n < 32 by omega)]
            exact pk_sub (a := 2 ^ n) (b := 1) (Nat.two_pow_pos n)
          rw [if_pos ez]
          unfold f_X7_all
          simp only [S_ck hs, S_I hs, Option.bind_some, h.1, eall]
          exact next _ (by rw [hH, hLf, if_neg c4, if_pos d4])
        · have ez : ¬ nI p = (4 : Int32) := fun e => d4 ((nI_eq (b := 4) (by omega) (by decide)).mp e)
          have e5 : nI p = (5 : Int32) := by rw [show p = 5 by omega]; rfl
          rw [if_neg ez, if_pos e5]
          exact next _ (by rw [hH, hLf, if_neg c4, if_neg d4]; rfl)
    · obtain ⟨a1, a2, a3, a4, a5⟩ := o4 p (by omega) hpS
      obtain ⟨b1, b2⟩ := m3 p (by omega) hpS
      have hRl := hR (lf p) a3
      have hRr := hR (rt p) a4
      have q4 : ¬ nI (kd p) = (4 : Int32) := fun e => by
        have := (nI_eq (b := 4) (by omega) (by decide)).mp e
        omega
      have q5 : ¬ nI (kd p) = (5 : Int32) := fun e => by
        have := (nI_eq (b := 5) (by omega) (by decide)).mp e
        omega
      have q7 : (nI (kd p) = (7 : Int32)) = (kd p = 7) := propext (nI_eq (b := 7) (by omega) (by decide))
      have q8 : (nI (kd p) = (8 : Int32)) = (kd p = 8) := propext (nI_eq (b := 8) (by omega) (by decide))
      have hx := hP8 (lf p) (by omega)
      have hy := hP8 (rt p) (by omega)
      simp only [b1, b2, at_v hs (show lf p < 151 by omega), at_v hs (show rt p < 151 by omega), rw2_s, hRl, hRr, Option.bind_some, if_pos (show (4 : Int32) ≤ nI (kd p) from nI_le (a := 4) (by omega) (by omega)), if_neg q4, if_neg q5]
      by_cases d7 : kd p = 7
      · rw [if_pos (q7.mpr d7)]
        refine next _ ?_
        have hH : hPv n L F kd lf rt p = hBn n L (kd p) (hPv n L F kd lf rt (lf p)) (hPv n L F kd lf rt (rt p)) := pv_bn (by omega) (by omega) a3 a4
        rw [hH, hBn, if_pos d7, fa_and]
      · rw [if_neg (fun e => d7 (q7.mp e))]
        by_cases d8 : kd p = 8
        · rw [if_pos (q8.mpr d8)]
          refine next _ ?_
          have hH : hPv n L F kd lf rt p = hBn n L (kd p) (hPv n L F kd lf rt (lf p)) (hPv n L F kd lf rt (rt p)) := pv_bn (by omega) (by omega) a3 a4
          rw [hH, hBn, if_neg d7, if_pos d8, fa_or]
        · rw [if_neg (fun e => d8 (q8.mp e))]
          have hal := c_alo_4 (fl := fl) (qa := qa) (f := f) hs (h' R) w (u := hPv n L F kd lf rt (lf p) &&& (255 ^^^ hPv n L F kd lf rt (rt p))) (Nat.lt_of_le_of_lt Nat.and_le_left hx) n 0 FU (by omega) (by omega)
          have hal' : f_X7_stagesAlwaysOutside s (nI (hPv n L F kd lf rt (lf p) &&& (255 ^^^ hPv n L F kd lf rt (rt p)))) (wr (SK b) (rw2 ia (s + 6) R) fi fl qa f) = some (nI (alo L n (hPv n L F kd lf rt (lf p) &&& (255 ^^^ hPv n L F kd lf rt (rt p))))) := hal
          simp only [S_ck hs, Option.bind_some, and_no _ hy _ hx, hal']
          refine next _ ?_
          by_cases d6 : kd p = 6
          · have hH : hPv n L F kd lf rt p = alo L n (hPv n L F kd lf rt (lf p)) := pv_un (by omega) d6 a3
            have h5 : hPv n L F kd lf rt (rt p) = 0 := by
              rw [a5 d6]
              exact pv_lf (by decide)
            rw [hH, h5]
            congr 2
            refine Nat.eq_of_testBit_eq fun j => ?_
            rw [Nat.testBit_and, show (255 ^^^ 0 : Nat) = 2 ^ 8 - 1 from rfl, Nat.testBit_two_pow_sub_one]
            by_cases hj : j < 8
            · rw [decide_eq_true hj, Bool.and_true]
            · rw [bt_lt (n := 8) hx (by omega)]
              rfl
          · have hH : hPv n L F kd lf rt p = hBn n L (kd p) (hPv n L F kd lf rt (lf p)) (hPv n L F kd lf rt (rt p)) := pv_bn (by omega) d6 a3 a4
            rw [hH, hBn, if_neg d7, if_neg d8]
end WITH
