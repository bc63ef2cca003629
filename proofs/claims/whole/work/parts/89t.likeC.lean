/-! THE CLASS FINDS THE STAGES THAT ARE ALIKE -/
/-- the least below m with P, m if there is none -/
def lf (P : Nat → Bool) : Nat → Nat
  | 0 => 0
  | m + 1 => if lf P m < m then lf P m else if P m then m else m + 1
theorem lf_spec (P : Nat → Bool) : ∀ m : Nat, lf P m ≤ m ∧ (∀ j, j < lf P m → P j = false) ∧ (lf P m < m → P (lf P m) = true)
  | 0 => ⟨Nat.le_refl _, fun j hj => absurd hj (Nat.not_lt_zero _), fun h => absurd h (Nat.lt_irrefl _)⟩
  | m + 1 => by
    obtain ⟨h1, h2, h3⟩ := lf_spec P m
    show (if lf P m < m then lf P m else if P m then m else m + 1) ≤ m + 1 ∧ (∀ j, j < (if lf P m < m then lf P m else if P m then m else m + 1) → P j = false) ∧ ((if lf P m < m then lf P m else if P m then m else m + 1) < m + 1 → P (if lf P m < m then lf P m else if P m then m else m + 1) = true)
    by_cases hl : lf P m < m
    · rw [if_pos hl]
      exact ⟨by omega, h2, fun _ => h3 hl⟩
    · have e : lf P m = m := by omega
      rw [if_neg hl]
      rw [e] at h2
      cases hp : P m with
      | true =>
        rw [if_pos rfl]
        exact ⟨by omega, h2, fun _ => hp⟩
      | false =>
        rw [if_neg (by decide)]
        refine ⟨Nat.le_refl _, fun j hj => ?_, fun h => absurd h (by omega)⟩
        by_cases hjm : j = m
        · rw [hjm]; exact hp
        · exact h2 j (by omega)
theorem lf_eq {P : Nat → Bool} {m r : Nat} (hr : r ≤ m) (h1 : ∀ j, j < r → P j = false) (h2 : r < m → P r = true) : lf P m = r := by
  obtain ⟨g1, g2, g3⟩ := lf_spec P m
  rcases Nat.lt_trichotomy (lf P m) r with h | h | h
  · have := h1 _ h
    rw [g3 (by omega)] at this
    cases this
  · exact h
  · have := g2 _ h
    rw [h2 (by omega)] at this
    cases this
def lsl (lk sn : Nat → Nat) (v : Nat) : Nat := lf (fun i => decide (lk i = lk v ∧ sn i = sn v)) v
def lkO (lk : Nat → Nat) (w : Nat) (n : Nat) : Nat := fo (fun i x => x ||| (if w.testBit i then 2 ^ lk i else 0)) n 0
theorem lkO_bit (lk : Nat → Nat) (w v : Nat) : ∀ n : Nat, (lkO lk w n).testBit v = true ↔ ∃ i, i < n ∧ w.testBit i = true ∧ lk i = v
  | 0 => by
    show (0 : Nat).testBit v = true ↔ _
    rw [Nat.zero_testBit]
    constructor
    · intro h; cases h
    · intro ⟨i, hi, _⟩; omega
  | n + 1 => by
    show (lkO lk w n ||| (if w.testBit n then 2 ^ lk n else 0)).testBit v = true ↔ _
    rw [Nat.testBit_or, Bool.or_eq_true, lkO_bit lk w v n]
    constructor
    · intro h
      rcases h with ⟨i, h1, h2, h3⟩ | h
      · exact ⟨i, by omega, h2, h3⟩
      · cases hw : w.testBit n with
        | false =>
          rw [hw, if_neg (by decide), Nat.zero_testBit] at h
          cases h
        | true =>
          rw [hw, if_pos rfl, Nat.testBit_two_pow] at h
          exact ⟨n, by omega, hw, of_decide_eq_true h⟩
    · intro ⟨i, h1, h2, h3⟩
      by_cases hin : i = n
      · subst hin
        right
        rw [h2, if_pos rfl, Nat.testBit_two_pow]
        exact decide_eq_true h3
      · exact Or.inl ⟨i, by omega, h2, h3⟩
theorem lkO_lt {lk : Nat → Nat} {w m : Nat} : ∀ n : Nat, (∀ i, i < n → lk i < m) → lkO lk w n < 2 ^ m := by
  intro n h
  refine bt_lim fun v hv => ?_
  cases hb : (lkO lk w n).testBit v with
  | false => rfl
  | true =>
    obtain ⟨i, h1, _, h3⟩ := (lkO_bit lk w v n).mp hb
    have := h i h1
    omega
/-- the rounds of the class -/
def CI (n : Nat) (L F : Nat → Nat) : Nat → (Nat → Nat) × (Nat → Nat)
  | 0 => (fun _ => 0, F)
  | r + 1 => (lsl (CI n L F r).1 (CI n L F r).2, fun i => lkO (lsl (CI n L F r).1 (CI n L F r).2) (L i) n)
theorem lsl_le (lk sn : Nat → Nat) (v : Nat) : lsl lk sn v ≤ v := (lf_spec _ _).1
theorem CI_le (n : Nat) (L F : Nat → Nat) (r v : Nat) : (CI n L F r).1 v ≤ v := by
  cases r with
  | zero => exact Nat.zero_le _
  | succ r => exact lsl_le _ _ _
section LIKEC
variable {n : Nat} {L F : Nat → Nat}
/-- the lowest with which one is related -/
def isLow (E : Nat → Nat → Prop) (v j : Nat) : Prop := E j v ∧ ∀ k, k < j → ¬ E k v
theorem lsl_low {lk sn : Nat → Nat} {E : Nat → Nat → Prop} {v : Nat} (hr : E v v) (h : ∀ j, j ≤ v → (lk j = lk v ∧ sn j = sn v ↔ E j v)) : isLow E v (lsl lk sn v) := by
  obtain ⟨h1, h2, h3⟩ := lf_spec (fun i => decide (lk i = lk v ∧ sn i = sn v)) v
  refine ⟨?_, fun k hk hE => ?_⟩
  · by_cases he : lsl lk sn v < v
    · exact (h _ (by omega)).mp (of_decide_eq_true (h3 he))
    · have e : lsl lk sn v = v := by
        have := lsl_le lk sn v
        omega
      rw [e]; exact hr
  · have hd := of_decide_eq_false (h2 k hk)
    have hk' : k < lsl lk sn v := hk
    have := lsl_le lk sn v
    exact hd ((h k (by omega)).mpr hE)
theorem low_eq {E : Nat → Nat → Prop} (hs : ∀ a c, E a c → E c a) (ht : ∀ a c d, E a c → E c d → E a d) {j v x y : Nat} (hx : isLow E j x) (hy : isLow E v y) : x = y ↔ E j v := by
  constructor
  · intro e
    subst e
    exact ht _ _ _ (hs _ _ hx.1) hy.1
  · intro e
    rcases Nat.lt_trichotomy x y with h | h | h
    · exact absurd (ht _ _ _ hx.1 e) (hy.2 x h)
    · exact h
    · exact absurd (ht _ _ _ hy.1 (hs _ _ e)) (hx.2 y h)
theorem CI_low (hL : ∀ i, i < n → L i < 2 ^ n) : ∀ (r v : Nat), v < n → isLow (Bk n L F r) v ((CI n L F (r + 1)).1 v)
  | 0, v, hv => by
    refine lsl_low (Bk.rf hL hv) (fun j hj => ?_)
    constructor
    · intro h; exact ⟨by omega, hv, h.2⟩
    · intro h; exact ⟨rfl, h.2.2⟩
  | r + 1, v, hv => by
    have ih := fun (u : Nat) (hu : u < n) => CI_low hL r u hu
    refine lsl_low (Bk.rf hL hv) (fun j hj => ?_)
    have hjn : j < n := by omega
    have e1 : (CI n L F (r + 1)).1 j = (CI n L F (r + 1)).1 v ↔ Bk n L F r j v := low_eq (fun a c h => h.sy) (fun a c d h h2 => h.tr h2) (ih j hjn) (ih v hv)
    have inL : ∀ a u, a < n → (L a).testBit u = true → u < n := fun a u ha hu => Nat.not_le.mp fun hle => by rw [bt_lt (hL a ha) hle] at hu; cases hu
    have half : ∀ a c, a < n → c < n → (∀ v, (lkO (CI n L F (r + 1)).1 (L a) n).testBit v = true → (lkO (CI n L F (r + 1)).1 (L c) n).testBit v = true) → fwd L (Bk n L F r) a c := by
      intro a c ha hc h u hu
      have hun := inL a u ha hu
      obtain ⟨i, h1, h2, h3⟩ := (lkO_bit _ _ _ _).mp (h ((CI n L F (r + 1)).1 u) ((lkO_bit _ _ _ _).mpr ⟨u, hun, hu, rfl⟩))
      exact ⟨i, h2, ((low_eq (fun a c h => h.sy) (fun a c d h h2 => h.tr h2) (ih i h1) (ih u hun)).mp h3).sy⟩
    have half2 : ∀ a c, a < n → c < n → fwd L (Bk n L F r) a c → ∀ v, (lkO (CI n L F (r + 1)).1 (L a) n).testBit v = true → (lkO (CI n L F (r + 1)).1 (L c) n).testBit v = true := by
      intro a c ha hc h v hv
      obtain ⟨i, h1, h2, h3⟩ := (lkO_bit _ _ _ _).mp hv
      obtain ⟨u, hu, hE⟩ := h i h2
      refine (lkO_bit _ _ _ _).mpr ⟨u, inL c u hc hu, hu, ?_⟩
      rw [← h3]
      exact (low_eq (fun a c h => h.sy) (fun a c d h h2 => h.tr h2) (ih u (inL c u hc hu)) (ih i h1)).mpr hE.sy
    have e2 : (CI n L F (r + 1)).2 j = (CI n L F (r + 1)).2 v ↔ fwd L (Bk n L F r) j v ∧ fwd L (Bk n L F r) v j := by
      show lkO (CI n L F (r + 1)).1 (L j) n = lkO (CI n L F (r + 1)).1 (L v) n ↔ _
      constructor
      · intro e
        exact ⟨half j v hjn hv (fun x hx => e ▸ hx), half v j hv hjn (fun x hx => e ▸ hx)⟩
      · intro ⟨h1, h2⟩
        refine Nat.eq_of_testBit_eq fun x => ?_
        cases ha : (lkO (CI n L F (r + 1)).1 (L j) n).testBit x with
        | true => exact (half2 j v hjn hv h1 x ha).symm
        | false => cases hb : (lkO (CI n L F (r + 1)).1 (L v) n).testBit x with
          | false => rfl
          | true => rw [half2 v j hv hjn h2 x hb] at ha; cases ha
    constructor
    · intro ⟨h1, h2⟩
      exact ⟨e1.mp h1, e2.mp h2⟩
    · intro h
      exact ⟨e1.mpr h.1, e2.mpr h.2⟩
theorem CI_fin (hL : ∀ i, i < n → L i < 2 ^ n) (h1 : 1 ≤ n) {v : Nat} (hv : v < n) : isLow (Al n L F) v ((CI n L F n).1 v) := by
  have h := CI_low (F := F) hL (n - 1) v hv
  rw [show n - 1 + 1 = n by omega] at h
  exact ⟨Bk.fin hL h1 h.1, fun k hk hA => h.2 k hk (hA.toB _)⟩
end LIKEC
section LIKEC2
variable {b s n : Nat} {L F : Nat → Nat} {ia fi : Nat → Nat → Int32} {fl : Nat → Nat → Int64} {qa : Nat → Nat → Option Nat} {f : mmF} {X Y : Nat → Int32}
theorem lkR_one {lk : Nat → Nat} {i v : Nat} (hi : i < n) : (fun j => if j = i then nI v else lkR n lk X j) = lkR n (fun j => if j = i then v else lk j) X := by
  funext j
  unfold lkR
  by_cases h1 : j = i
  · subst h1; rw [if_pos rfl, if_pos hi]; exact (congrArg nI (if_pos rfl)).symm
  · rw [if_neg h1]
    by_cases h2 : j < n
    · rw [if_pos h2, if_pos h2]; exact (congrArg nI (if_neg h1)).symm
    · rw [if_neg h2, if_neg h2]
theorem lkR_cg {lk lk1 : Nat → Nat} (h : ∀ j, j < n → lk j = lk1 j) : lkR n lk X = lkR n lk1 X := by
  funext j
  unfold lkR
  by_cases h2 : j < n
  · rw [if_pos h2, if_pos h2, h j h2]
  · rw [if_neg h2, if_neg h2]
/-- the class's memory on the way: like and seen -/
abbrev cM (b s n : Nat) (ia fi : Nat → Nat → Int32) (fl : Nat → Nat → Int64) (qa : Nat → Nat → Option Nat) (f : mmF) (X Y : Nat → Int32) (lk sn : Nat → Nat) : mmF := wr (SK b) (rw2 (rw2 ia (s + 4) (lkR n lk X)) (s + 5) (lkR n sn Y)) fi fl qa f
theorem cM_lk {lk lk1 sn : Nat → Nat} (h : ∀ j, j < n → lk j = lk1 j) : cM b s n ia fi fl qa f X Y lk sn = cM b s n ia fi fl qa f X Y lk1 sn := by
  show wr (SK b) (rw2 (rw2 ia (s + 4) (lkR n lk X)) (s + 5) (lkR n sn Y)) fi fl qa f = _
  rw [lkR_cg h]
theorem cM_sn {lk sn sn1 : Nat → Nat} (h : ∀ j, j < n → sn j = sn1 j) : cM b s n ia fi fl qa f X Y lk sn = cM b s n ia fi fl qa f X Y lk sn1 := by
  show wr (SK b) (rw2 (rw2 ia (s + 4) (lkR n lk X)) (s + 5) (lkR n sn Y)) fi fl qa f = _
  rw [lkR_cg h]
theorem c_lsl_2 (hs : isSt b s) (h8 : n ≤ 8) {lk sn : Nat → Nat} (hk : ∀ j, j < n → lk j < 256) (hsn : ∀ j, j < n → sn j < 256) {v : Nat} (hv : v < n) : ∀ (m i q : Nat), i + m = v → m < q → (∀ j, j < i → ¬ (lk j = lk v ∧ sn j = sn v)) → f_X7_lowestSeenLike_2 (cM b s n ia fi fl qa f X Y lk sn) q s (nI v) (nI i) = some (nI (lsl lk sn v)) := by
  intro m
  induction m with
  | zero =>
    intro i q hi hm hu
    obtain ⟨q, rfl⟩ : ∃ k, q = k + 1 := ⟨q - 1, by omega⟩
    have hin : i = v := by omega
    subst hin
    rw [f_X7_lowestSeenLike_2, if_pos (Int32.le_refl _)]
    rw [show lsl lk sn i = i from lf_eq (Nat.le_refl _) (fun j hj => decide_eq_false (hu j hj)) (fun h => absurd h (Nat.lt_irrefl _))]
  | succ m ih =>
    intro i q hi hm hu
    obtain ⟨q, rfl⟩ : ∃ k, q = k + 1 := ⟨q - 1, by omega⟩
    have hlt : ¬ nI v ≤ nI i := nI_ge (by omega) (by omega)
    have hin : i < n := by omega
    have e45 : s + 4 ≠ s + 5 := by omega
    have q1 : (nI (lk i) = nI (lk v)) = (lk i = lk v) := propext (nI_eq (Nat.lt_trans (hk i hin) (by decide)) (Nat.lt_trans (hk v hv) (by decide)))
    have q2 : (nI (sn i) = nI (sn v)) = (sn i = sn v) := propext (nI_eq (Nat.lt_trans (hsn i hin) (by decide)) (Nat.lt_trans (hsn v hv) (by decide)))
    rw [f_X7_lowestSeenLike_2, if_neg hlt]
    simp only [S_R4 hs, S_R5 hs, S_A hs (Or.inr (Or.inr (Or.inl rfl))) (show i < 8 by omega), S_A hs (Or.inr (Or.inr (Or.inl rfl))) (show v < 8 by omega), S_A hs (Or.inr (Or.inr (Or.inr rfl))) (show i < 8 by omega), S_A hs (Or.inr (Or.inr (Or.inr rfl))) (show v < 8 by omega), Option.bind_some, rw2_s, rw2_n _ _ e45, lkR_at hin, lkR_at hv, q1, q2]
    have go : ¬ (lk i = lk v ∧ sn i = sn v) → f_X7_lowestSeenLike_2 (cM b s n ia fi fl qa f X Y lk sn) q s (nI v) (nI (i + 1)) = some (nI (lsl lk sn v)) := fun hn => ih (i + 1) q (by omega) (by omega) (fun j hj => by
      by_cases hji : j = i
      · subst hji; exact hn
      · exact hu j (by omega))
    by_cases h1 : lk i = lk v
    · rw [if_pos h1]
      by_cases h2 : sn i = sn v
      · rw [if_pos h2]
        rw [show lsl lk sn v = i from lf_eq (by omega) (fun j hj => decide_eq_false (hu j hj)) (fun _ => decide_eq_true ⟨h1, h2⟩)]
      · rw [if_neg h2]
        unfold f_X7_lowestSeenLike_39
        rw [nI_1]
        exact go (fun h => h2 h.2)
    · rw [if_neg h1]
      unfold f_X7_lowestSeenLike_39
      rw [nI_1]
      exact go (fun h => h1 h.1)
theorem c_lkO_4 (hs : isSt b s) (h8 : n ≤ 8) (hn : fi s 0 = nI n) {lk sn : Nat → Nat} (hk : ∀ j, j < n → lk j < 8) {w : Nat} (hw : w < 256) : ∀ (m i q : Nat), i + m = n → m < q → f_X7_likesOf_4 (cM b s n ia fi fl qa f X Y lk sn) q s (nI w) (nI (lkO lk w i)) (nI i) = some (nI (lkO lk w n)) := by
  intro m
  induction m with
  | zero =>
    intro i q hi hm
    obtain ⟨q, rfl⟩ : ∃ k, q = k + 1 := ⟨q - 1, by omega⟩
    have hin : i = n := by omega
    subst hin
    rw [f_X7_likesOf_4]
    simp only [S_I hs, Option.bind_some, hn]
    rw [if_pos (Int32.le_refl _)]
  | succ m ih =>
    intro i q hi hm
    obtain ⟨q, rfl⟩ : ∃ k, q = k + 1 := ⟨q - 1, by omega⟩
    have hin : i < n := by omega
    have hlt : ¬ nI n ≤ nI i := nI_ge (by omega) (by omega)
    have e45 : s + 4 ≠ s + 5 := by omega
    rw [f_X7_likesOf_4]
    simp only [S_I hs, Option.bind_some, hn, if_neg hlt, has_eq]
    have ihs := ih (i + 1) q (by omega) (by omega)
    rw [← ihs]
    show _ = f_X7_likesOf_4 _ q s (nI w) (nI (lkO lk w i ||| (if w.testBit i then 2 ^ lk i else 0))) (nI (i + 1))
    cases hb : w.testBit i with
    | false =>
      rw [if_pos ((bt_0 (Nat.lt_trans hw (by decide)) (by omega)).mpr hb), if_pos rfl, if_neg (by decide)]
      unfold f_X7_likesOf_33
      rw [show (0 : Int32) = nI 0 from rfl, fa_or, nI_1]
    | true =>
      have hne : ¬ ((nI w >>> (nI i &&& 31)) &&& 1) = (0 : Int32) := fun e => by
        rw [bt_0 (Nat.lt_trans hw (by decide)) (by omega), hb] at e
        cases e
      rw [if_neg hne, if_neg (by decide), if_pos rfl]
      simp only [S_R4 hs, S_A hs (Or.inr (Or.inr (Or.inl rfl))) (show i < 8 by omega), Option.bind_some, rw2_n _ _ e45, rw2_s, lkR_at hin]
      unfold f_X7_likesOf_33
      rw [bt_shl (show lk i < 32 from Nat.lt_trans (hk i hin) (by decide)), fa_or, nI_1]
theorem c_lkO (hs : isSt b s) (h8 : n ≤ 8) (hn : fi s 0 = nI n) {lk sn : Nat → Nat} (hk : ∀ j, j < n → lk j < 8) {w : Nat} (hw : w < 256) : f_X7_likesOf s (nI w) (cM b s n ia fi fl qa f X Y lk sn) = some (nI (lkO lk w n)) := by
  obtain ⟨q, hq⟩ := FU_1000
  exact c_lkO_4 hs h8 hn hk hw n 0 FU (by omega) (by omega)
theorem c_fl_75 (hs : isSt b s) (h : CS ia fi s n L F) (w : WF n L F) {lk sn : Nat → Nat} (hk : ∀ j, j < n → lk j < 8) {k37 : Nat → Int32 → mmF → Option (mmF)} {r : Int32} : ∀ (m i q : Nat), i + m = n → m < q → f_X7_findLikes_75 k37 q s r (nI i) (cM b s n ia fi fl qa f X Y lk (fun j => if j < i then lkO lk (L j) n else sn j)) = k37 s (r + 1) (cM b s n ia fi fl qa f X Y lk (fun j => lkO lk (L j) n)) := by
  have h8 := w.2.1
  intro m
  induction m with
  | zero =>
    intro i q hi hm
    obtain ⟨q, rfl⟩ : ∃ k, q = k + 1 := ⟨q - 1, by omega⟩
    have hin : i = n := by omega
    subst hin
    rw [f_X7_findLikes_75]
    simp only [S_I hs, Option.bind_some, h.1]
    rw [if_pos (Int32.le_refl _), cM_sn (sn := fun j => if j < i then lkO lk (L j) i else sn j) (sn1 := fun j => lkO lk (L j) i) (fun j hj => if_pos hj)]
  | succ m ih =>
    intro i q hi hm
    obtain ⟨q, rfl⟩ : ∃ k, q = k + 1 := ⟨q - 1, by omega⟩
    have hin : i < n := by omega
    have hlt : ¬ nI n ≤ nI i := nI_ge (by omega) (by omega)
    have e15 : s + 1 ≠ s + 5 := by omega
    have e14 : s + 1 ≠ s + 4 := by omega
    rw [f_X7_findLikes_75]
    simp only [S_I hs, Option.bind_some, h.1, if_neg hlt, S_R5 hs, S_R1 hs, S_A hs (Or.inl rfl) (show i < 8 by omega), rw2_n _ _ e15, rw2_n _ _ e14, (h.2 i hin).1, S_ck hs, c_lkO hs h8 h.1 hk (w.L31 hin), S_sA hs (Or.inr (Or.inr (Or.inr rfl))) (show i < 8 by omega), u2_rw2, lkR_one hin, nI_1]
    rw [lkR_cg (X := Y) (lk1 := fun j => if j < i + 1 then lkO lk (L j) n else sn j) (fun j hj => by
      by_cases hji : j = i
      · subst hji; rw [if_pos rfl, if_pos (by omega)]
      · rw [if_neg hji]
        by_cases h2 : j < i
        · rw [if_pos h2, if_pos (by omega)]
        · rw [if_neg h2, if_neg (by omega)])]
    exact ih (i + 1) q (by omega) (by omega)
theorem c_fl_52 (hs : isSt b s) (h : CS ia fi s n L F) (w : WF n L F) {lk sn : Nat → Nat} (hk : ∀ j, j < n → lk j < 8) (hsn : ∀ j, j < n → sn j < 256) {k37 : Nat → Int32 → mmF → Option (mmF)} {r : Int32} : ∀ (i q : Nat), i < n → i + 1 < q → f_X7_findLikes_52 k37 q s r (nI i) (cM b s n ia fi fl qa f X Y (fun j => if i < j then lsl lk sn j else lk j) sn) = f_X7_findLikes_75 k37 FU s r 0 (cM b s n ia fi fl qa f X Y (lsl lk sn) sn) := by
  have h8 := w.2.1
  have one : ∀ (i q : Nat), i < n → f_X7_findLikes_52 k37 (q + 1) s r (nI i) (cM b s n ia fi fl qa f X Y (fun j => if i < j then lsl lk sn j else lk j) sn) = f_X7_findLikes_52 k37 q s r (nI i + (-1 : Int32)) (cM b s n ia fi fl qa f X Y (fun j => if i ≤ j then lsl lk sn j else lk j) sn) := by
    intro i q hin
    obtain ⟨q0, hq0⟩ := FU_1000
    have hge : ¬ nI i < 0 := nI_pos (by omega)
    have hkk : ∀ j, j < n → (fun j => if i < j then lsl lk sn j else lk j) j < 256 := by
      intro j hj
      have := lsl_le lk sn j
      have := hk j hj
      by_cases hx : i < j
      · simp only [if_pos hx]; omega
      · simp only [if_neg hx]; omega
    have el : lsl (fun j => if i < j then lsl lk sn j else lk j) sn i = lsl lk sn i := by
      refine lf_eq (lsl_le lk sn i) (fun j hj => ?_) (fun hl => ?_)
      · have hji : j < i := Nat.lt_of_lt_of_le hj (lsl_le lk sn i)
        have := (lf_spec (fun j => decide (lk j = lk i ∧ sn j = sn i)) i).2.1 j hj
        simp only [if_neg (show ¬ i < j by omega), if_neg (Nat.lt_irrefl i)]
        exact this
      · have := (lf_spec (fun j => decide (lk j = lk i ∧ sn j = sn i)) i).2.2 hl
        simp only [if_neg (show ¬ i < lsl lk sn i by omega), if_neg (Nat.lt_irrefl i)]
        exact this
    rw [f_X7_findLikes_52, if_neg hge]
    unfold f_X7_lowestSeenLike
    simp only [S_R4 hs, S_ck hs, Option.bind_some]
    rw [show (0 : Int32) = nI 0 from rfl, c_lsl_2 hs h8 hkk hsn hin i 0 FU (by omega) (by omega) (fun j hj => absurd hj (by omega)), el]
    have e54 : s + 4 ≠ s + 5 := by omega
    simp only [Option.bind_some, S_sA hs (Or.inr (Or.inr (Or.inl rfl))) (show i < 8 by omega)]
    rw [u2_is, rw2_n _ _ e54, rw2_s, rw2_comm _ _ _ (Ne.symm e54), rw2_rw2, lkR_one hin]
    rw [lkR_cg (X := X) (lk1 := fun j => if i ≤ j then lsl lk sn j else lk j) (fun j hj => by
      by_cases hji : j = i
      · subst hji; rw [if_pos rfl, if_pos (Nat.le_refl _)]
      · rw [if_neg hji]
        by_cases h2 : i < j
        · rw [if_pos h2, if_pos (by omega)]
        · rw [if_neg h2, if_neg (by omega)])]
  intro i
  induction i with
  | zero =>
    intro q hin hm
    obtain ⟨q, rfl⟩ : ∃ k, q = k + 2 := ⟨q - 2, by omega⟩
    rw [one 0 (q + 1) hin, f_X7_findLikes_52, if_pos (by decide)]
    rw [cM_lk (lk := fun j => if 0 ≤ j then lsl lk sn j else lk j) (lk1 := lsl lk sn) (fun j hj => if_pos (Nat.zero_le _))]
  | succ i ih =>
    intro q hin hm
    obtain ⟨q, rfl⟩ : ∃ k, q = k + 1 := ⟨q - 1, by omega⟩
    rw [one (i + 1) q hin, show nI (i + 1) + (-1 : Int32) = nI i from by rw [← nI_add, Int32.add_assoc]; exact Int32.add_zero _]
    exact ih q (by omega) (by omega)
theorem CI_b (w : WF n L F) : ∀ r : Nat, (∀ j, j < n → (CI n L F r).1 j < 8) ∧ ∀ j, j < n → (CI n L F r).2 j < 256
  | 0 => ⟨fun j hj => by show 0 < 8; decide, fun j hj => Nat.lt_trans (w.2.2 j hj).2 (by decide)⟩
  | r + 1 => by
    have h8 := w.2.1
    refine ⟨fun j hj => ?_, fun j hj => ?_⟩
    · have := CI_le n L F (r + 1) j
      omega
    · show lkO _ (L j) n < 256
      exact Nat.lt_of_lt_of_le (lkO_lt (m := 8) n (fun i hi => by
        have := CI_le n L F (r + 1) i
        have e : (CI n L F (r + 1)).1 i = lsl (CI n L F r).1 (CI n L F r).2 i := rfl
        omega)) (by decide)
theorem c_fl_37 (hs : isSt b s) (h : CS ia fi s n L F) (w : WF n L F) : ∀ (m r q : Nat), r + m = n → m < q → f_X7_findLikes_37 q s (nI r) (cM b s n ia fi fl qa f X Y (CI n L F r).1 (CI n L F r).2) = some (cM b s n ia fi fl qa f X Y (CI n L F n).1 (CI n L F n).2) := by
  have h8 := w.2.1
  intro m
  induction m with
  | zero =>
    intro r q hi hm
    obtain ⟨q, rfl⟩ : ∃ k, q = k + 1 := ⟨q - 1, by omega⟩
    have hin : r = n := by omega
    subst hin
    rw [f_X7_findLikes_37]
    simp only [S_I hs, Option.bind_some, h.1]
    rw [if_pos (Int32.le_refl _)]
  | succ m ih =>
    intro r q hi hm
    obtain ⟨q, rfl⟩ : ∃ k, q = k + 1 := ⟨q - 1, by omega⟩
    obtain ⟨q0, hq0⟩ := FU_1000
    have hlt : ¬ nI n ≤ nI r := nI_ge (by omega) (by omega)
    have e1 : nI n - 1 = nI (n - 1) := pk_sub (a := n) (b := 1) w.1
    rw [f_X7_findLikes_37]
    simp only [S_I hs, Option.bind_some, h.1, if_neg hlt, e1]
    have hb := CI_b w r
    have h52 := c_fl_52 (X := X) (Y := Y) (fl := fl) (qa := qa) (f := f) (k37 := fun a0 a1 a2 => f_X7_findLikes_37 q a0 a1 a2) (r := nI r) hs h w hb.1 hb.2 (n - 1) FU (by omega) (by omega)
    rw [cM_lk (lk := fun j => if n - 1 < j then lsl (CI n L F r).1 (CI n L F r).2 j else (CI n L F r).1 j) (lk1 := (CI n L F r).1) (fun j hj => if_neg (by omega))] at h52
    rw [h52]
    have h75 := c_fl_75 (X := X) (Y := Y) (fl := fl) (qa := qa) (f := f) (sn := (CI n L F r).2) (k37 := fun a0 a1 a2 => f_X7_findLikes_37 q a0 a1 a2) (r := nI r) hs h w (CI_b w (r + 1)).1 n 0 FU (by omega) (by omega)
    rw [cM_sn (sn := fun j => if j < 0 then lkO (CI n L F (r + 1)).1 (L j) n else (CI n L F r).2 j) (sn1 := (CI n L F r).2) (fun j hj => if_neg (by omega))] at h75
    refine Eq.trans h75 ?_
    rw [nI_1]
    exact ih (r + 1) q (by omega) (by omega)
end LIKEC2
