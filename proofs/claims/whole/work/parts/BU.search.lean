/-! THE CLASS'S SEARCH: its pieces -/
def LX (b : Nat) (ia fi : Nat → Nat → Int32) (S : Nat) (kd lf rt : Nat → Nat) : Prop := PTm b ia fi S kd lf rt ∧ PTo S kd lf rt ∧ ∀ p, p < S → ia (b + 30) p = nI (fN kd lf rt (fun _ => 65535) 0 0 p)
/-- the single stages at which all that is known holds -/
def SG (b : Nat) (ia : Nat → Nat → Int32) (S : Nat) (kd lf rt : Nat → Nat) (j : Nat) (K : Nat → Bool) : Prop := ∃ X, X < 65536 ∧ ia (b + 46) j = nI X ∧ ∀ u, u < 16 → (X.testBit u = true ↔ ∀ p, p < S → K p = true → kT1 u kd lf rt p)
/-- how many parts a set has -/
def cnS (K : Nat → Bool) : Nat → Nat
  | 0 => 0
  | n + 1 => cnS K n + (if K n = true then 1 else 0)
theorem cnS_le (K : Nat → Bool) : ∀ n, cnS K n ≤ n
  | 0 => Nat.le_refl _
  | n + 1 => by
    have := cnS_le K n
    show cnS K n + (if K n = true then 1 else 0) ≤ n + 1
    split <;> omega
theorem cnS_mono {K K1 : Nat → Bool} : ∀ n : Nat, (∀ p, p < n → K p = true → K1 p = true) → cnS K n ≤ cnS K1 n
  | 0, _ => Nat.le_refl _
  | n + 1, h => by
    have h1 := cnS_mono n (fun p hp => h p (by omega))
    show cnS K n + (if K n = true then 1 else 0) ≤ cnS K1 n + (if K1 n = true then 1 else 0)
    by_cases c : K n = true
    · rw [if_pos c, if_pos (h n (by omega) c)]; omega
    · rw [if_neg c]; omega
theorem cnS_lt {K K1 : Nat → Bool} : ∀ n : Nat, (∀ p, p < n → K p = true → K1 p = true) → (∃ p, p < n ∧ K p = false ∧ K1 p = true) → cnS K n < cnS K1 n
  | 0, _, ⟨p, hp, _⟩ => absurd hp (Nat.not_lt_zero _)
  | n + 1, h, ⟨p, hp, h1, h2⟩ => by
    show cnS K n + (if K n = true then 1 else 0) < cnS K1 n + (if K1 n = true then 1 else 0)
    by_cases e : p = n
    · subst e
      have h3 := cnS_mono p (fun q hq => h q (by omega))
      rw [h1, h2, if_neg (by decide), if_pos rfl]; omega
    · have h3 := cnS_lt n (fun q hq => h q (by omega)) ⟨p, by omega, h1, h2⟩
      by_cases c : K n = true
      · rw [if_pos c, if_pos (h n (by omega) c)]; omega
      · rw [if_neg c]; omega
theorem cnS_pos {K : Nat → Bool} {n p : Nat} (hp : p < n) (h : K p = true) : 1 ≤ cnS K n := by
  have := cnS_lt (K := fun _ => false) (K1 := K) n (fun q _ h => by cases h) ⟨p, hp, rfl, h⟩
  omega
theorem cnS_ext {K K1 : Nat → Bool} (n : Nat) (h : ∀ p, p < n → K p = K1 p) : cnS K n = cnS K1 n := Nat.le_antisymm (cnS_mono n (fun p hp hk => by rw [← h p hp]; exact hk)) (cnS_mono n (fun p hp hk => by rw [h p hp]; exact hk))
theorem cnS_up {K : Nat → Bool} {p : Nat} (h : K p = false) : ∀ n : Nat, cnS (upB K p true) n = cnS K n + (if p < n then 1 else 0)
  | 0 => by rw [if_neg (Nat.not_lt_zero _)]; rfl
  | n + 1 => by
    have ih := cnS_up h n
    show cnS (upB K p true) n + (if upB K p true n = true then 1 else 0) = cnS K n + (if K n = true then 1 else 0) + (if p < n + 1 then 1 else 0)
    rw [ih]
    unfold upB
    by_cases e : n = p
    · subst e
      rw [if_pos rfl, if_neg (Nat.lt_irrefl _), if_pos rfl, h, if_neg (by decide), if_pos (Nat.lt_succ_self _)]
    · rw [if_neg e]
      by_cases c : p < n
      · rw [if_pos c, if_pos (show p < n + 1 by omega)]; omega
      · rw [if_neg c, if_neg (show ¬ p < n + 1 by omega), Nat.add_zero, Nat.add_zero]
theorem cnS_all (n : Nat) : cnS (fun _ => true) n = n := by
  induction n with
  | zero => rfl
  | succ n ih =>
    show cnS (fun _ => true) n + (if true = true then 1 else 0) = n + 1
    rw [ih, if_pos rfl]
theorem cnS_room {K : Nat → Bool} {p n : Nat} (hp : p < n) (h : K p = false) : cnS K n < n := by
  have := cnS_lt (K := K) (K1 := fun _ => true) n (fun _ _ _ => rfl) ⟨p, hp, h, rfl⟩
  rw [cnS_all] at this
  exact this
section SEARCH
variable {b : Nat} {ia fi : Nat → Nat → Int32} {fl : Nat → Nat → Int64} {qa : Nat → Nat → Option Nat} {f : mmF} {S : Nat} {kd lf rt : Nat → Nat}
theorem tP_kT1 (ho : PTo S kd lf rt) (u : Nat) {p : Nat} (hp : p < S) : (tP false u u u kd lf rt p).1 = true ↔ kT1 u kd lf rt p := by
  have e : tP false u u u kd lf rt p = qv (b3Lf u u u) (fun k x y => if k = 6 then b3Un false x else b3Bn false k x y) kd lf rt (false, false, false) p := pv_qv ho (fun x y => if_pos rfl) (fun k x y h => if_neg (by omega)) p hp
  rw [e]
  refine (qv_relT (fun (x : Bool × Bool × Bool) (y : Unit → Prop) => (x.1 = true ↔ y ()) ∧ x.2.1 = x.1 ∧ x.2.2 = x.1) (lv' := kLf (fun k _ => u.testBit k = true)) (bn' := kBn (fun _ _ => True)) (d1 := fun _ => False) (fun k _ => ⟨?_, b3Lf_e u k⟩) (fun k x y x' y' h6 h10 hx hy => ?_) ho.to p hp).1
  · unfold b3Lf kLf
    by_cases h4 : k < 4
    · rw [if_pos h4, if_pos h4]
    · rw [if_neg h4, if_neg h4]
      by_cases e4 : k = 4
      · rw [if_pos e4]; exact ⟨fun _ => e4, fun _ => rfl⟩
      · rw [if_neg e4]; exact ⟨fun h => (by cases h), fun h => absurd h e4⟩
  · obtain ⟨a1, a2, a3⟩ := x
    obtain ⟨b1, b2, b3⟩ := y
    obtain ⟨hx1, hx2, hx3⟩ := hx
    obtain ⟨hy1, hy2, hy3⟩ := hy
    simp only at hx1 hx2 hx3 hy1 hy2 hy3
    subst hx2 hx3 hy2 hy3
    obtain rfl | rfl | rfl | rfl : k = 6 ∨ k = 7 ∨ k = 8 ∨ k = 9 := by omega
    · refine ⟨?_, ?_⟩
      · show (b3Un false (a3, a3, a3)).1 = true ↔ ∀ w' : Unit, True → ¬ x' w'
        rw [show (∀ w' : Unit, True → ¬ x' w') ↔ ¬ x' () from ⟨fun h => h () trivial, fun h _ _ => h⟩, ← hx1]
        cases a3 <;> decide
      · cases a3 <;> exact ⟨rfl, rfl⟩
    · refine ⟨?_, ?_⟩
      · show (a3 && b3) = true ↔ x' () ∧ y' ()
        rw [← hx1, ← hy1, Bool.and_eq_true]
      · exact ⟨rfl, rfl⟩
    · refine ⟨?_, ?_⟩
      · show (a3 || b3) = true ↔ x' () ∨ y' ()
        rw [← hx1, ← hy1, Bool.or_eq_true]
      · exact ⟨rfl, rfl⟩
    · refine ⟨?_, ?_⟩
      · show (b3If false (a3, a3, a3) (b3, b3, b3)).1 = true ↔ ∀ w' : Unit, True → x' w' → y' w'
        rw [show (∀ w' : Unit, True → x' w' → y' w') ↔ (x' () → y' ()) from ⟨fun h => h () trivial, fun h _ _ => h⟩, ← hx1, ← hy1]
        cases a3 <;> cases b3 <;> decide
      · cases a3 <;> cases b3 <;> exact ⟨rfl, rfl⟩
theorem fN_kT1 (ho : PTo S kd lf rt) {u : Nat} (hu : u < 16) {p : Nat} (hp : p < S) : (fN kd lf rt (fun _ => 65535) 0 0 p).testBit u = true ↔ kT1 u kd lf rt p := by
  rw [fN_single ho hu false p hp]
  exact tP_kT1 ho u hp
theorem LX.at23 (h : LX b ia fi S kd lf rt) {p : Nat} (hp : p < S) : f_X9_at (b + 23) (nI p) (wr (SK b) ia fi fl qa f) = some (nI (kd p)) := by
  have hS := h.2.1.2.1
  rw [at_row L_23 (An_23 (show p < 151 by omega)) (show p < 151 by omega) (by decide), h.1.2.1 p hp]
theorem LX.at24 (h : LX b ia fi S kd lf rt) {p : Nat} (h6 : 6 ≤ p) (hp : p < S) : f_X9_at (b + 24) (nI p) (wr (SK b) ia fi fl qa f) = some (nI (lf p)) := by
  have hS := h.2.1.2.1
  rw [at_row L_24 (An_24 (show p < 151 by omega)) (show p < 151 by omega) (by decide), (h.1.2.2 p h6 hp).1]
theorem LX.at25 (h : LX b ia fi S kd lf rt) {p : Nat} (h6 : 6 ≤ p) (hp : p < S) : f_X9_at (b + 25) (nI p) (wr (SK b) ia fi fl qa f) = some (nI (rt p)) := by
  have hS := h.2.1.2.1
  rw [at_row L_25 (An_25 (show p < 151 by omega)) (show p < 151 by omega) (by decide), (h.1.2.2 p h6 hp).2]
theorem LX.kd10 (h : LX b ia fi S kd lf rt) {p : Nat} (hp : p < S) : kd p < 10 := (h.2.1.to p hp).1
theorem LX.big (h : LX b ia fi S kd lf rt) {p : Nat} (hp : p < S) (hk : 6 ≤ kd p) : 6 ≤ p := by
  by_cases h6 : p < 6
  · have := h.2.1.2.2.1 p h6; omega
  · omega
theorem isIf_c (h : LX b ia fi S kd lf rt) {p : Nat} (hp : p < S) : f_X4_isIf (b + 22) (nI p) (wr (SK b) ia fi fl qa f) = some (if kd p = 9 ∨ kd p = 6 then 1 else 0) := by
  have hS := h.2.1.2.1
  have hk := h.kd10 hp
  have q9 : (nI (kd p) = (9 : Int32)) = (kd p = 9) := propext (nI_eq (b := 9) (by omega) (by decide))
  have q6 : (nI (kd p) = (6 : Int32)) = (kd p = 6) := propext (nI_eq (b := 6) (by omega) (by decide))
  unfold f_X4_isIf
  rw [if_neg (nI_pos (show p < 2 ^ 31 by omega))]
  simp only [I_22_0, h.1.1, Option.bind_some, if_neg (nI_ge hp (show S < 2 ^ 31 by omega)), R_22_1, An_23 (show p < 151 by omega), h.1.2.1 p hp, q9, q6]
  by_cases e9 : kd p = 9
  · rw [if_pos e9, if_pos (Or.inl e9)]
  · rw [if_neg e9]
    by_cases e6 : kd p = 6
    · rw [if_pos e6, if_pos (Or.inr e6)]
    · rw [if_neg e6, if_neg (fun h => h.elim e9 e6)]
theorem singles_c (h : LX b ia fi S kd lf rt) {p : Nat} (hp : p < S) : f_X6_singles (b + 21) (nI p) (wr (SK b) ia fi fl qa f) = some (nI (fN kd lf rt (fun _ => 65535) 0 0 p)) := by
  have hS := h.2.1.2.1
  unfold f_X6_singles
  simp only [R_21_2, row_at (r := 30) (Or.inl rfl) (show p < 151 by omega), h.2.2 p hp, Option.bind_some]
theorem LX.cg {ia1 fi1 : Nat → Nat → Int32} (h : LX b ia fi S kd lf rt) (e : ∀ a, b + 23 ≤ a → a ≤ b + 30 → ia1 a = ia a) (e2 : fi1 (b + 22) = fi (b + 22)) : LX b ia1 fi1 S kd lf rt := by
  obtain ⟨⟨h1, h2, h3⟩, h4, h5⟩ := h
  exact ⟨⟨by rw [e2]; exact h1, fun p hp => by rw [e _ (by omega) (by omega)]; exact h2 p hp, fun p h6 hp => by rw [e _ (by omega) (by omega), e _ (by omega) (by omega)]; exact h3 p h6 hp⟩, h4, fun p hp => by rw [e _ (by omega) (by omega)]; exact h5 p hp⟩
theorem upB_le {K : Nat → Bool} {p q : Nat} (h : K q = true) : upB K p true q = true := by
  unfold upB
  by_cases e : q = p
  · rw [if_pos e]
  · rw [if_neg e]; exact h
theorem upB_s (K : Nat → Bool) (p : Nat) (x : Bool) : upB K p x p = x := if_pos rfl
theorem upB_n (K : Nat → Bool) {p q : Nat} (x : Bool) (h : q ≠ p) : upB K p x q = K q := if_neg h
theorem SG.add (ho : PTo S kd lf rt) {j p X : Nat} {K K1 : Nat → Bool} (hX : X < 65536) (hp : p < S) (hK : ∀ u, u < 16 → (X.testBit u = true ↔ ∀ p, p < S → K p = true → kT1 u kd lf rt p)) (hK1 : ∀ q, q < S → K1 q = upB K p true q) {ia1 : Nat → Nat → Int32} (e : ia1 (b + 46) j = nI (X &&& fN kd lf rt (fun _ => 65535) 0 0 p)) : SG b ia1 S kd lf rt j K1 := by
  refine ⟨X &&& fN kd lf rt (fun _ => 65535) 0 0 p, Nat.lt_of_le_of_lt Nat.and_le_left hX, e, fun u hu => ?_⟩
  rw [Nat.testBit_and, Bool.and_eq_true, hK u hu, fN_kT1 ho hu hp]
  constructor
  · rintro ⟨h1, h2⟩ q hq hk
    rw [hK1 q hq] at hk
    unfold upB at hk
    by_cases eq : q = p
    · subst eq; exact h2
    · rw [if_neg eq] at hk; exact h1 q hq hk
  · intro h
    refine ⟨fun q hq hk => h q hq ?_, h p hp ?_⟩
    · rw [hK1 q hq]
      unfold upB
      by_cases eq : q = p
      · rw [if_pos eq]
      · rw [if_neg eq]; exact hk
    · rw [hK1 p hp]
      unfold upB
      rw [if_pos rfl]
/-- what is known, in its order -/
def TRL (b : Nat) (ia fi : Nat → Nat → Int32) (S z : Nat) (O : Nat → Nat) : Prop := fi (b + 33) 0 = nI z ∧ (∀ i, i < z → ia (b + 36) i = nI (O i) ∧ O i < S) ∧ (∀ i j, i < j → j < z → O i ≠ O j) ∧ (∀ p, p < 192 → (sB (ia (b + 35)) 0 p = true ↔ ∃ i, i < z ∧ O i = p)) ∧ z = cnS (sB (ia (b + 35)) 0) S
theorem TRL.le {z : Nat} {O : Nat → Nat} (h : TRL b ia fi S z O) : z ≤ S := by
  have := h.2.2.2.2
  rw [this]; exact cnS_le _ S
theorem TRL.room {z p : Nat} {O : Nat → Nat} (h : TRL b ia fi S z O) (hp : p < S) (hk : sB (ia (b + 35)) 0 p = false) : z < S := by
  have := h.2.2.2.2
  rw [this]; exact cnS_room hp hk
theorem TRL.at {z i : Nat} {O : Nat → Nat} (h : TRL b ia fi S z O) (hS : S ≤ 151) (hi : i < z) : sB (ia (b + 35)) 0 (O i) = true := (h.2.2.2.1 (O i) (by have := (h.2.1 i hi).2; omega)).mpr ⟨i, hi, rfl⟩
theorem TRL.in {z p : Nat} {O : Nat → Nat} (h : TRL b ia fi S z O) (hp : p < 192) (hk : sB (ia (b + 35)) 0 p = true) : p < S := by
  obtain ⟨i, hi, e⟩ := (h.2.2.2.1 p hp).mp hk
  have := (h.2.1 i hi).2
  omega
theorem TRL.cg {ia1 fi1 : Nat → Nat → Int32} {z : Nat} {O : Nat → Nat} (h : TRL b ia fi S z O) (e1 : ia1 (b + 35) = ia (b + 35)) (e2 : ia1 (b + 36) = ia (b + 36)) (e3 : fi1 (b + 33) 0 = fi (b + 33) 0) : TRL b ia1 fi1 S z O := by
  obtain ⟨h1, h2, h3, h4, h5⟩ := h
  exact ⟨e3.trans h1, fun i hi => by rw [e2]; exact h2 i hi, h3, by rw [e1]; exact h4, by rw [e1]; exact h5⟩
theorem TRL.kv {z : Nat} {O : Nat → Nat} (h : TRL b ia fi S z O) (hS : S ≤ 151) : KV b ia fi := ⟨z, Nat.le_trans h.le hS, h.1, fun i hi => ⟨O i, by have := (h.2.1 i hi).2; omega, (h.2.1 i hi).1⟩, fun p hp hk => by
  obtain ⟨i, hi, e⟩ := (h.2.2.2.1 p hp).mp hk
  exact ⟨i, hi, by rw [← e]; exact (h.2.1 i hi).1⟩⟩
theorem k_has {p : Nat} (hp : p < 192) : f_X2_has (b + 33) (nI p) (wr (SK b) ia fi fl qa f) = some (if sB (ia (b + 35)) 0 p = true then 1 else 0) := by
  have h := has_s (ia := ia) (fi := fi) (fl := fl) (qa := qa) (f := f) (PS_K b) (k := 0) (by decide) hp
  rw [show nI 0 = (0 : Int32) from rfl] at h
  unfold f_X2_has
  simp only [R_33_1, ps_ck (PS_K b), h, Option.bind_some]
  cases sB (ia (b + 35)) 0 p <;> rfl
theorem k_part {z i : Nat} {O : Nat → Nat} (h : TRL b ia fi S z O) (hS : S ≤ 151) (hi : i < z) : f_X2_part (b + 33) (nI i) (wr (SK b) ia fi fl qa f) = some (nI (O i)) := by
  have hz := h.le
  unfold f_X2_part
  simp only [R_33_3, at_row L_36 (An_36 (show i < 151 by omega)) (show i < 151 by omega) (by decide), (h.2.1 i hi).1, Option.bind_some]
/-- forgets what became known last -/
theorem cut_7 {O : Nat → Nat} (hS : S ≤ 151) (L : Nat) : ∀ (t z q : Nat) (ia fi : Nat → Nat → Int32), z = L + t → t < q → TRL b ia fi S z O → ∃ ia1 fi1, f_X2_cutTo_7 q (b + 33) (nI L) (nI z - 1) (wr (SK b) ia fi fl qa f) = some (wr (SK b) ia1 fi1 fl qa f) ∧ (∀ c, c ≠ b + 35 → ia1 c = ia c) ∧ (∀ c i, c ≠ b + 33 → fi1 c i = fi c i) ∧ TRL b ia1 fi1 S L O := by
  intro t
  induction t with
  | zero =>
    intro z q ia fi hz hq h
    obtain ⟨q, rfl⟩ : ∃ k, q = k + 1 := ⟨q - 1, by omega⟩
    have e : z = L := by omega
    subst e
    have hle := h.le
    refine ⟨ia, fi, ?_, fun _ _ => rfl, fun _ _ _ => rfl, h⟩
    rw [f_X2_cutTo_7]
    by_cases c : nI z - 1 < nI z
    · rw [if_pos c]
    · rw [if_neg c]
      exfalso
      apply c
      cases z with
      | zero => decide
      | succ k => rw [nI_pred]; exact nI_lt (Nat.lt_succ_self k) (by omega)
  | succ t ih =>
    intro z q ia fi hz hq h
    obtain ⟨q, rfl⟩ : ∃ k, q = k + 1 := ⟨q - 1, by omega⟩
    obtain ⟨y, rfl⟩ : ∃ y, z = y + 1 := ⟨L + t, by omega⟩
    have hle := h.le
    have hy := (h.2.1 y (Nat.lt_succ_self y)).2
    have hk := h.at hS (Nat.lt_succ_self y)
    obtain ⟨ia1, a1, a2⟩ := remove_s (ia := ia) (fi := fi) (fl := fl) (qa := qa) (f := f) (PS_K b) (k := 0) (p := O y) (by decide) (by omega)
    rw [show nI 0 = (0 : Int32) from rfl] at a1
    have hT : TRL b ia1 (u2 fi (b + 33) 0 (nI y)) S y O := by
      obtain ⟨h1, h2, h3, h4, h5⟩ := h
      refine ⟨u2_s _ _ _ _, fun i hi => by rw [a2.1 _ (by omega)]; exact h2 i (by omega), fun i j h6 h7 => h3 i j h6 (by omega), fun p hp => ?_, ?_⟩
      · rw [a2.2.2 p hp]
        unfold upB
        by_cases e : p = O y
        · rw [if_pos e]
          constructor
          · intro h; cases h
          · rintro ⟨i, hi, h6⟩
            exact absurd (h6.trans e) (h3 i y hi (Nat.lt_succ_self y))
        · rw [if_neg e, h4 p hp]
          constructor
          · rintro ⟨i, hi, h6⟩
            by_cases e2 : i = y
            · subst e2; exact absurd h6.symm e
            · exact ⟨i, by omega, h6⟩
          · rintro ⟨i, hi, h6⟩; exact ⟨i, by omega, h6⟩
      · have h6 := cnS_up (K := upB (sB (ia (b + 35)) 0) (O y) false) (p := O y) (upB_s _ _ _) S
        rw [if_pos hy] at h6
        have h7 : cnS (upB (upB (sB (ia (b + 35)) 0) (O y) false) (O y) true) S = cnS (sB (ia (b + 35)) 0) S := cnS_ext S (fun p hp => by
          unfold upB
          by_cases e : p = O y
          · rw [if_pos e, e, hk]
          · rw [if_neg e, if_neg e])
        have h8 : cnS (sB (ia1 (b + 35)) 0) S = cnS (upB (sB (ia (b + 35)) 0) (O y) false) S := cnS_ext S (fun p hp => a2.2.2 p (by omega))
        omega
    obtain ⟨ia2, fi2, b1, b2, b3, b4⟩ := ih y q ia1 (u2 fi (b + 33) 0 (nI y)) (by omega) (by omega) hT
    refine ⟨ia2, fi2, ?_, fun c hc => (b2 c hc).trans (a2.1 c hc), fun c i hc => (b3 c i hc).trans (u2_a _ _ hc), b4⟩
    rw [f_X2_cutTo_7, nI_pred, if_neg (nI_nlt (show L ≤ y by omega) (by omega)), if_neg (nI_pos (show y < 2 ^ 31 by omega))]
    simp only [R_33_1, ck_33, k_part h hS (Nat.lt_succ_self y), ps_ck (PS_K b), a1, sI_33_0, Option.bind_some]
    rw [show nI y + (-1 : Int32) = nI y - 1 from (Int32.sub_eq_add_neg _ _).symm]
    exact b1
theorem cut_c {O : Nat → Nat} {z L : Nat} (hS : S ≤ 151) (h : TRL b ia fi S z O) (hL : L ≤ z) : ∃ ia1 fi1, f_X2_cutTo (b + 33) (nI L) (wr (SK b) ia fi fl qa f) = some (wr (SK b) ia1 fi1 fl qa f) ∧ (∀ c, c ≠ b + 35 → ia1 c = ia c) ∧ (∀ c i, c ≠ b + 33 → fi1 c i = fi c i) ∧ TRL b ia1 fi1 S L O := by
  obtain ⟨q, hq⟩ := FU_1000
  have hle := h.le
  obtain ⟨ia1, fi1, a1, a2⟩ := cut_7 (fl := fl) (qa := qa) (f := f) hS L (z - L) z FU ia fi (by omega) (by omega) h
  refine ⟨ia1, fi1, ?_, a2⟩
  unfold f_X2_cutTo
  simp only [I_33_0, h.1, Option.bind_some]
  exact a1
/-- a part becomes known, from two -/
theorem infer_c {O : Nat → Nat} {z p o1 o2 : Nat} (hS : S ≤ 151) (h : TRL b ia fi S z O) (hp : p < S) (h1 : o1 < 192) (h2 : o2 < 192) : (sB (ia (b + 35)) 0 p = true ∧ f_X2_infer (b + 33) (nI p) (nI o1) (nI o2) (wr (SK b) ia fi fl qa f) = some (wr (SK b) ia fi fl qa f)) ∨ (sB (ia (b + 35)) 0 p = false ∧ ∃ ia1 fi1, f_X2_infer (b + 33) (nI p) (nI o1) (nI o2) (wr (SK b) ia fi fl qa f) = some (wr (SK b) ia1 fi1 fl qa f) ∧ (∀ c, c ≠ b + 35 → c ≠ b + 36 → c ≠ b + 38 → ia1 c = ia c) ∧ (∀ c i, c ≠ b + 33 → fi1 c i = fi c i) ∧ (∀ r, r ≠ p → ∀ q, q < 192 → sB (ia1 (b + 38)) r q = sB (ia (b + 38)) r q) ∧ (∀ q, q < 192 → (sB (ia1 (b + 38)) p q = true ↔ q = o1 ∨ q = o2)) ∧ (∀ q, q < 192 → sB (ia1 (b + 35)) 0 q = upB (sB (ia (b + 35)) 0) p true q) ∧ (∀ i, i ≠ z → ia1 (b + 36) i = ia (b + 36) i) ∧ TRL b ia1 fi1 S (z + 1) (upN O z p)) := by
  have hs := has_s (ia := ia) (fi := fi) (fl := fl) (qa := qa) (f := f) (PS_K b) (k := 0) (p := p) (by decide) (by omega)
  rw [show nI 0 = (0 : Int32) from rfl] at hs
  cases hk : sB (ia (b + 35)) 0 p with
  | true =>
    refine Or.inl ⟨rfl, ?_⟩
    unfold f_X2_infer
    simp only [R_33_1, ps_ck (PS_K b), hs, hk, Option.bind_some, if_true, i10, if_false]
  | false =>
    refine Or.inr ⟨rfl, ?_⟩
    have hz := h.room hp hk
    obtain ⟨ia1, a1, a2⟩ := fill_s (ia := ia) (fi := fi) (fl := fl) (qa := qa) (f := f) (PS_R b) (k := p) (by omega) (0 : Int32)
    obtain ⟨ia2, b1, b2⟩ := add_s (ia := ia1) (fi := fi) (fl := fl) (qa := qa) (f := f) (PS_R b) (k := p) (p := o1) (by omega) h1
    obtain ⟨ia3, c1, c2⟩ := add_s (ia := ia2) (fi := fi) (fl := fl) (qa := qa) (f := f) (PS_R b) (k := p) (p := o2) (by omega) h2
    obtain ⟨ia4, d1, d2⟩ := add_s (ia := ia3) (fi := fi) (fl := fl) (qa := qa) (f := f) (PS_K b) (k := 0) (p := p) (by decide) (by omega)
    rw [show nI 0 = (0 : Int32) from rfl] at d1
    have e35 : ia3 (b + 35) = ia (b + 35) := by rw [c2.1 _ (by omega), b2.1 _ (by omega), a2.1 _ (by omega)]
    have e36 : ia4 (b + 36) = ia (b + 36) := by rw [d2.1 _ (by omega), c2.1 _ (by omega), b2.1 _ (by omega), a2.1 _ (by omega)]
    have eK : ∀ q, q < 192 → sB ((u2 ia4 (b + 36) z (nI p)) (b + 35)) 0 q = upB (sB (ia (b + 35)) 0) p true q := fun q hq => by
      rw [u2_row _ _ (show b + 35 ≠ b + 36 by omega), d2.2.2 q hq, e35]
    have hT : TRL b (u2 ia4 (b + 36) z (nI p)) (u2 fi (b + 33) 0 (nI (z + 1))) S (z + 1) (upN O z p) := by
      obtain ⟨t1, t2, t3, t4, t5⟩ := h
      refine ⟨u2_s _ _ _ _, fun i hi => ?_, fun i j h6 h7 => ?_, fun q hq => ?_, ?_⟩
      · by_cases e : i = z
        · subst e; rw [u2_s, upN_s]; exact ⟨rfl, hp⟩
        · rw [u2_i _ _ e, upN_n _ e, e36]; exact t2 i (by omega)
      · rw [upN_n _ (show i ≠ z by omega)]
        by_cases e : j = z
        · subst e
          rw [upN_s]
          intro e2
          have := (t4 p (by omega)).mpr ⟨i, by omega, e2⟩
          rw [hk] at this
          cases this
        · rw [upN_n _ e]; exact t3 i j h6 (by omega)
      · rw [eK q hq]
        unfold upB
        by_cases e : q = p
        · rw [if_pos e]
          exact ⟨fun _ => ⟨z, Nat.lt_succ_self z, by rw [upN_s, e]⟩, fun _ => rfl⟩
        · rw [if_neg e, t4 q hq]
          constructor
          · rintro ⟨i, hi, h6⟩; exact ⟨i, by omega, by rw [upN_n _ (show i ≠ z by omega)]; exact h6⟩
          · rintro ⟨i, hi, h6⟩
            by_cases e2 : i = z
            · subst e2; rw [upN_s] at h6; exact absurd h6.symm e
            · exact ⟨i, by omega, by rw [upN_n _ e2] at h6; exact h6⟩
      · have h6 := cnS_up hk S
        rw [if_pos hp] at h6
        have h7 : cnS (sB ((u2 ia4 (b + 36) z (nI p)) (b + 35)) 0) S = cnS (upB (sB (ia (b + 35)) 0) p true) S := cnS_ext S (fun q hq => eK q (by omega))
        omega
    refine ⟨u2 ia4 (b + 36) z (nI p), u2 fi (b + 33) 0 (nI (z + 1)), ?_, fun c h5 h6 h8 => ?_, fun c i hc => u2_a _ _ hc, fun r hr q hq => ?_, fun q hq => ?_, eK, fun i hi => ?_, hT⟩
    · unfold f_X2_infer
      simp only [R_33_1, ps_ck (PS_K b), hs, hk, Option.bind_some, if_neg (show ¬ (false = true) by decide), if_true, I_33_0, h.1, if_neg (nI_pos (show z < 2 ^ 31 by omega)), R_33_3, L_36, if_neg (nI_ge (show z < 151 by omega) (show 151 < 2 ^ 31 by decide)), R_33_4, ps_ck (PS_R b), a1, b1, c1, d1, sAn_36 (show z < 151 by omega), nI_1, sI_33_0]
    · rw [u2_row _ _ h6, d2.1 _ h5, c2.1 _ h8, b2.1 _ h8, a2.1 _ h8]
    · rw [u2_row _ _ (show b + 38 ≠ b + 36 by omega), d2.1 _ (by omega), c2.2.1 r hr q hq, b2.2.1 r hr q hq, a2.2.1 r hr q hq]
    · rw [u2_row _ _ (show b + 38 ≠ b + 36 by omega), d2.1 _ (by omega), c2.2.2 q hq]
      unfold upB
      by_cases e : q = o2
      · rw [if_pos e]; exact ⟨fun _ => Or.inr e, fun _ => rfl⟩
      · rw [if_neg e, b2.2.2 q hq]
        unfold upB
        by_cases e2 : q = o1
        · rw [if_pos e2]; exact ⟨fun _ => Or.inl e2, fun _ => rfl⟩
        · rw [if_neg e2, a2.2.2 q hq, if_pos rfl]
          exact ⟨fun h => (Bool.noConfusion (show false = true from h)), fun h => h.elim (fun h => absurd h e2) (fun h => absurd h e)⟩
    · rw [u2_i _ _ hi, e36]
/-- singles of a level -/
theorem sg_row {j : Nat} (hj : j < 153) : ldA 0 (wr (SK b) ia fi fl qa f) (b + 46) (nI j) = some (ia (b + 46) j) := An_46 hj
end SEARCH
