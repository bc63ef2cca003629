/-! THE MEMORY BY ITS SKELETON (which classes, lengths and references never change) AND ITS CONTENTS: ints of arrays, int fields, long fields, references of arrays -/
/-- a long as two ints -/
def lg2 (lo hi : Int32) : Int64 := Int64.ofBitVec (show BitVec 64 from hi.toBitVec ++ lo.toBitVec)
def lgL (x : Int64) : Int32 := Int32.ofBitVec (x.toBitVec.extractLsb' 0 32)
def lgH (x : Int64) : Int32 := Int32.ofBitVec (x.toBitVec.extractLsb' 32 32)
theorem lg2_bit (lo hi : Int32) {i : Nat} (h : i < 64) : (lg2 lo hi).toBitVec.getLsbD i = if i < 32 then lo.toBitVec.getLsbD i else hi.toBitVec.getLsbD (i - 32) := by
  show (hi.toBitVec ++ lo.toBitVec).getLsbD i = _
  rw [BitVec.getLsbD_append]
theorem lgL_bit (x : Int64) {i : Nat} (h : i < 32) : (lgL x).toBitVec.getLsbD i = x.toBitVec.getLsbD i := by
  show (x.toBitVec.extractLsb' 0 32).getLsbD i = _
  rw [BitVec.getLsbD_extractLsb']
  simp [h]
theorem lgH_bit (x : Int64) {i : Nat} (h : i < 32) : (lgH x).toBitVec.getLsbD i = x.toBitVec.getLsbD (32 + i) := by
  show (x.toBitVec.extractLsb' 32 32).getLsbD i = _
  rw [BitVec.getLsbD_extractLsb']
  simp [h]
theorem lg2_x (x : Int64) : lg2 (lgL x) (lgH x) = x := by
  rw [← Int64.toBitVec_inj]
  apply BitVec.eq_of_getLsbD_eq
  intro i hi
  rw [lg2_bit _ _ hi]
  by_cases h : i < 32
  · rw [if_pos h, lgL_bit x h]
  · rw [if_neg h, lgH_bit x (by omega), show 32 + (i - 32) = i by omega]
abbrev mK : Type := (Nat × Nat) ⊕ (Nat × List (Nat ⊕ Bool))
def mFld (fi : Nat → Int32) (fl : Nat → Int64) (k : Nat) (x : Nat ⊕ Bool) : Value := match x with
  | .inl a => .ref a
  | .inr false => .int (fi k)
  | .inr true => .long (fl k)
def mFlds (fi : Nat → Int32) (fl : Nat → Int64) : Nat → List (Nat ⊕ Bool) → List Value
  | _, [] => []
  | k, x :: t => mFld fi fl k x :: mFlds fi fl (k + 1) t
def mCell (ia fi : Nat → Nat → Int32) (fl : Nat → Nat → Int64) (qa : Nat → Nat → Option Nat) (a : Nat) (k : mK) : va_E := match k with
  | .inl (t, n) => if 2 ≤ t ∧ t ≤ 3 then .inl (t, n, .inr (.inr (.inr (.inr (qa a))))) else if t = 4 then .inl (t, n, .inr (.inl (fun j => lg2 (ia a (2 * j)) (ia a (2 * j + 1))))) else .inl (t, n, .inl (ia a))
  | .inr (c, l) => .inr (c, mFlds (fi a) (fl a) 0 l)
def wr (S : Nat → Option mK) (ia fi : Nat → Nat → Int32) (fl : Nat → Nat → Int64) (qa : Nat → Nat → Option Nat) (f : mmF) : mmF := fun a => match S a with
  | none => f a
  | some k => some (mCell ia fi fl qa a k)
def u2 {α : Type} (g : Nat → Nat → α) (a i : Nat) (x : α) : Nat → Nat → α := fun p j => if p = a ∧ j = i then x else g p j
theorem u2_s {α : Type} (g : Nat → Nat → α) (a i : Nat) (x : α) : u2 g a i x a i = x := by simp [u2]
theorem u2_a {α : Type} (g : Nat → Nat → α) {a i p j : Nat} (x : α) (h : p ≠ a) : u2 g a i x p j = g p j := by simp [u2, h]
theorem u2_i {α : Type} (g : Nat → Nat → α) {a i p j : Nat} (x : α) (h : j ≠ i) : u2 g a i x p j = g p j := by simp [u2, h]
theorem u2_row {α : Type} (g : Nat → Nat → α) {a i p : Nat} (x : α) (h : p ≠ a) : u2 g a i x p = g p := by funext j; simp [u2, h]
theorem u2_upd (g : Nat → Nat → Int32) (a i : Nat) (x : Int32) : u2 g a i x a = upd (g a) i x := by funext j; simp [u2, upd]
theorem u2_up (g : Nat → Nat → Option Nat) (a i : Nat) (x : Option Nat) : u2 g a i x a = va_up (g a) i x := by funext j; simp [u2, va_up]
theorem mFlds_get (fi : Nat → Int32) (fl : Nat → Int64) (l : List (Nat ⊕ Bool)) : ∀ (k j : Nat), (mFlds fi fl k l)[j]? = (l[j]?).map (mFld fi fl (k + j)) := by
  induction l with
  | nil => intro k j; simp [mFlds]
  | cons x t ih =>
    intro k j
    cases j with
    | zero => simp [mFlds]
    | succ j => simp [mFlds, ih, Nat.add_assoc, Nat.add_comm 1]
theorem mFlds_len (fi : Nat → Int32) (fl : Nat → Int64) (l : List (Nat ⊕ Bool)) : ∀ k : Nat, (mFlds fi fl k l).length = l.length := by
  induction l with
  | nil => intro k; rfl
  | cons x t ih => intro k; simp [mFlds, ih]
theorem mFlds_setI (fi : Nat → Int32) (fl : Nat → Int64) (x : Int32) (l : List (Nat ⊕ Bool)) : ∀ k j : Nat, l[j]? = some (.inr false) → (mFlds fi fl k l).set j (.int x) = mFlds (fun p => if p = k + j then x else fi p) fl k l := by
  induction l with
  | nil => intro k j h; simp at h
  | cons y t ih =>
    intro k j h
    cases j with
    | zero =>
      simp only [List.getElem?_cons_zero, Option.some.injEq] at h
      subst h
      simp only [mFlds, List.set_cons_zero, mFld, Nat.add_zero, if_pos]
      congr 1
      have : ∀ (t : List (Nat ⊕ Bool)) (q : Nat), k < q → mFlds fi fl q t = mFlds (fun p => if p = k then x else fi p) fl q t := by
        intro t
        induction t with
        | nil => intro q _; rfl
        | cons z t iht =>
          intro q hq
          simp only [mFlds]
          rw [iht (q + 1) (by omega)]
          congr 1
          cases z with
          | inl a => rfl
          | inr c => cases c <;> simp [mFld, show q ≠ k by omega]
      exact this t (k + 1) (by omega)
    | succ j =>
      simp only [List.getElem?_cons_succ] at h
      simp only [mFlds, List.set_cons_succ]
      rw [ih (k + 1) j h]
      have e : k + 1 + j = k + (j + 1) := by omega
      rw [e]
      congr 1
      cases y with
      | inl a => rfl
      | inr c => cases c <;> simp [mFld]
theorem mFlds_setJ (fi : Nat → Int32) (fl : Nat → Int64) (x : Int64) (l : List (Nat ⊕ Bool)) : ∀ k j : Nat, l[j]? = some (.inr true) → (mFlds fi fl k l).set j (.long x) = mFlds fi (fun p => if p = k + j then x else fl p) k l := by
  induction l with
  | nil => intro k j h; simp at h
  | cons y t ih =>
    intro k j h
    cases j with
    | zero =>
      simp only [List.getElem?_cons_zero, Option.some.injEq] at h
      subst h
      simp only [mFlds, List.set_cons_zero, mFld, Nat.add_zero, if_pos]
      congr 1
      have : ∀ (t : List (Nat ⊕ Bool)) (q : Nat), k < q → mFlds fi fl q t = mFlds fi (fun p => if p = k then x else fl p) q t := by
        intro t
        induction t with
        | nil => intro q _; rfl
        | cons z t iht =>
          intro q hq
          simp only [mFlds]
          rw [iht (q + 1) (by omega)]
          congr 1
          cases z with
          | inl a => rfl
          | inr c => cases c <;> simp [mFld, show q ≠ k by omega]
      exact this t (k + 1) (by omega)
    | succ j =>
      simp only [List.getElem?_cons_succ] at h
      simp only [mFlds, List.set_cons_succ]
      rw [ih (k + 1) j h]
      have e : k + 1 + j = k + (j + 1) := by omega
      rw [e]
      congr 1
      cases y with
      | inl a => rfl
      | inr c => cases c <;> simp [mFld]
section WR
variable {S : Nat → Option mK} {ia fi : Nat → Nat → Int32} {fl : Nat → Nat → Int64} {qa : Nat → Nat → Option Nat} {f : mmF} {a c n t j : Nat} {l : List (Nat ⊕ Bool)}
theorem wr_o (h : S a = none) : wr S ia fi fl qa f a = f a := by simp only [wr, h]
theorem wr_c {k : mK} (h : S a = some k) : wr S ia fi fl qa f a = some (mCell ia fi fl qa a k) := by simp only [wr, h]
theorem wr_F (h : S a = some (.inr (c, l))) : ldF (wr S ia fi fl qa f) a c j = (l[j]?).map (mFld (fi a) (fl a) j) := by
  simp only [ldF, wr_c h, mCell, if_pos, mFlds_get, Nat.zero_add]
theorem wr_R {v : Nat} (h : S a = some (.inr (c, l))) (hl : l[j]? = some (.inl v)) : ldR (wr S ia fi fl qa f) a c j = some v := by
  simp only [ldR, wr_F h, hl, Option.map_some, mFld]
theorem wr_I (h : S a = some (.inr (c, l))) (hl : l[j]? = some (.inr false)) : ldI (wr S ia fi fl qa f) a c j = some (fi a j) := by
  simp only [ldI, wr_F h, hl, Option.map_some, mFld]
theorem wr_J (h : S a = some (.inr (c, l))) (hl : l[j]? = some (.inr true)) : ldJ (wr S ia fi fl qa f) a c j = some (fl a j) := by
  simp only [ldJ, wr_F h, hl, Option.map_some, mFld]
theorem wr_ck (h : S a = some (.inr (c, l))) : ckO (wr S ia fi fl qa f) a c = some () := by
  simp only [ckO, wr_c h, mCell, if_pos]
theorem wr_len (h : S a = some (.inl (t, n))) (ht : t ≤ 9) : lenA (wr S ia fi fl qa f) a = some (Int32.ofNat n) := by
  simp only [lenA, wr_c h, mCell]
  by_cases h2 : 2 ≤ t ∧ t ≤ 3
  · simp [if_pos h2, ht]
  · by_cases h4 : t = 4
    · subst h4; simp
    · simp [if_neg h2, if_neg h4, ht]
theorem wr_A (h : S a = some (.inl (t, n))) (ht : ¬ (2 ≤ t ∧ t ≤ 4)) {i : Int32} (hi : vp_in i n) : ldA t (wr S ia fi fl qa f) a i = some (ia a i.toNatClampNeg) := by
  have hi2 : ¬ (i < 0 ∨ n ≤ i.toNatClampNeg) := hi
  simp only [ldA, wr_c h, mCell, if_neg (show ¬ (2 ≤ t ∧ t ≤ 3) by omega), if_neg (show ¬ t = 4 by omega)]
  rw [if_pos ⟨Or.inl trivial, hi2⟩]
theorem wr_Q (h : S a = some (.inl (t, n))) (ht : 2 ≤ t ∧ t ≤ 3) {i : Int32} (hi : vp_in i n) : ldQ t (wr S ia fi fl qa f) a i = some (qa a i.toNatClampNeg) := by
  have hi2 : ¬ (i < 0 ∨ n ≤ i.toNatClampNeg) := hi
  simp only [ldQ, wr_c h, mCell, if_pos ht]
  rw [if_pos ⟨trivial, hi2⟩]
theorem wr_N (h : S a = some (.inl (t, n))) (ht : 2 ≤ t ∧ t ≤ 3) {i : Int32} (hi : vp_in i n) {v : Nat} (hv : qa a i.toNatClampNeg = some v) : ldN t (wr S ia fi fl qa f) a i = some v := by
  simp only [ldN, wr_Q h ht hi, hv]
theorem wr_sA (h : S a = some (.inl (t, n))) (ht : ¬ (2 ≤ t ∧ t ≤ 4)) {i x : Int32} (hi : vp_in i n) : stA t (wr S ia fi fl qa f) a i x = some (wr S (u2 ia a i.toNatClampNeg x) fi fl qa f) := by
  have hi2 : ¬ (i < 0 ∨ n ≤ i.toNatClampNeg) := hi
  simp only [stA, wr_c h, mCell, if_neg (show ¬ (2 ≤ t ∧ t ≤ 3) by omega), if_neg (show ¬ t = 4 by omega)]
  rw [if_pos ⟨trivial, hi2⟩]
  congr 1
  funext q
  by_cases hq : q = a
  · subst hq
    rw [va_up_self, wr_c h, mCell, if_neg (show ¬ (2 ≤ t ∧ t ≤ 3) by omega), if_neg (show ¬ t = 4 by omega), u2_upd]
  · rw [va_up_ne _ _ hq]
    simp only [wr]
    cases S q with
    | none => rfl
    | some k => simp only [mCell, u2_row _ _ hq]
theorem wr_sI (h : S a = some (.inr (c, l))) (hl : l[j]? = some (.inr false)) (x : Int32) : stF (wr S ia fi fl qa f) a c j (.int x) = some (wr S ia (u2 fi a j x) fl qa f) := by
  have hj : j < (mFlds (fi a) (fl a) 0 l).length := by
    rw [mFlds_len]; exact (List.getElem?_eq_some_iff.mp hl).1
  simp only [stF, wr_c h, mCell]
  rw [if_pos ⟨trivial, hj⟩]
  congr 1
  funext q
  by_cases hq : q = a
  · subst hq
    rw [va_up_self, wr_c h, mCell]
    show some (Sum.inr (c, _)) = some (Sum.inr (c, _))
    rw [mFlds_setI _ _ _ _ _ _ hl]
    congr 4
    funext p
    simp [u2]
  · rw [va_up_ne _ _ hq]
    simp only [wr]
    cases S q with
    | none => rfl
    | some k => simp only [mCell, u2_row _ _ hq]
theorem wr_sJ (h : S a = some (.inr (c, l))) (hl : l[j]? = some (.inr true)) (x : Int64) : stF (wr S ia fi fl qa f) a c j (.long x) = some (wr S ia fi (u2 fl a j x) qa f) := by
  have hj : j < (mFlds (fi a) (fl a) 0 l).length := by
    rw [mFlds_len]; exact (List.getElem?_eq_some_iff.mp hl).1
  simp only [stF, wr_c h, mCell]
  rw [if_pos ⟨trivial, hj⟩]
  congr 1
  funext q
  by_cases hq : q = a
  · subst hq
    rw [va_up_self, wr_c h, mCell]
    show some (Sum.inr (c, _)) = some (Sum.inr (c, _))
    rw [mFlds_setJ _ _ _ _ _ _ hl]
    congr 4
    funext p
    simp [u2]
  · rw [va_up_ne _ _ hq]
    simp only [wr]
    cases S q with
    | none => rfl
    | some k => simp only [mCell, u2_row _ _ hq]
theorem wr_sQ (h : S a = some (.inl (t, n))) (ht : 2 ≤ t ∧ t ≤ 3) {i : Int32} (hi : vp_in i n) {ci : Nat} {r : Option Nat} (ho : okQ (wr S ia fi fl qa f) ci r = true) : stQ t ci (wr S ia fi fl qa f) a i r = some (wr S ia fi fl (u2 qa a i.toNatClampNeg r) f) := by
  have hi2 : ¬ (i < 0 ∨ n ≤ i.toNatClampNeg) := hi
  simp only [stQ, wr_c h, mCell, if_pos ht]
  rw [if_pos ⟨⟨trivial, hi2⟩, ho⟩]
  congr 1
  funext q
  by_cases hq : q = a
  · subst hq
    rw [va_up_self, wr_c h, mCell, if_pos ht, u2_up]
  · rw [va_up_ne _ _ hq]
    simp only [wr]
    cases S q with
    | none => rfl
    | some k => simp only [mCell, u2_row _ _ hq]
def u2L (g : Nat → Nat → Int32) (a i : Nat) (x : Int64) : Nat → Nat → Int32 := u2 (u2 g a (2 * i) (lgL x)) a (2 * i + 1) (lgH x)
theorem u2L_a (g : Nat → Nat → Int32) {a i p : Nat} (x : Int64) (h : p ≠ a) : u2L g a i x p = g p := (u2_row _ _ h).trans (u2_row _ _ h)
theorem u2L_s (g : Nat → Nat → Int32) (a i : Nat) (x : Int64) : (fun j => lg2 (u2L g a i x a (2 * j)) (u2L g a i x a (2 * j + 1))) = vp_updL (fun j => lg2 (g a (2 * j)) (g a (2 * j + 1))) i x := by
  funext j
  unfold u2L
  by_cases hj : j = i
  · subst hj
    rw [u2_i _ _ (show 2 * j ≠ 2 * j + 1 by omega), u2_s, u2_s, lg2_x]
    simp [vp_updL]
  · rw [u2_i _ _ (show 2 * j ≠ 2 * i + 1 by omega), u2_i _ _ (show 2 * j ≠ 2 * i by omega), u2_i _ _ (show 2 * j + 1 ≠ 2 * i + 1 by omega), u2_i _ _ (show 2 * j + 1 ≠ 2 * i by omega)]
    simp [vp_updL, hj]
theorem wr_L (h : S a = some (.inl (4, n))) {i : Int32} (hi : vp_in i n) : ldL (wr S ia fi fl qa f) a i = some (lg2 (ia a (2 * i.toNatClampNeg)) (ia a (2 * i.toNatClampNeg + 1))) := by
  have hi2 : ¬ (i < 0 ∨ n ≤ i.toNatClampNeg) := hi
  simp only [ldL, wr_c h, mCell, if_neg (show ¬ (2 ≤ 4 ∧ 4 ≤ 3) by omega), if_true]
  rw [if_pos ⟨trivial, hi2⟩]
theorem wr_sL (h : S a = some (.inl (4, n))) {i : Int32} (hi : vp_in i n) (x : Int64) : stL (wr S ia fi fl qa f) a i x = some (wr S (u2L ia a i.toNatClampNeg x) fi fl qa f) := by
  have hi2 : ¬ (i < 0 ∨ n ≤ i.toNatClampNeg) := hi
  simp only [stL, wr_c h, mCell, if_neg (show ¬ (2 ≤ 4 ∧ 4 ≤ 3) by omega), if_true]
  rw [if_pos ⟨trivial, hi2⟩]
  congr 1
  funext q
  by_cases hq : q = a
  · subst hq
    rw [va_up_self, wr_c h, mCell, if_neg (show ¬ (2 ≤ 4 ∧ 4 ≤ 3) by omega), if_pos rfl, u2L_s]
  · rw [va_up_ne _ _ hq]
    simp only [wr]
    cases S q with
    | none => rfl
    | some k => simp only [mCell, u2L_a _ _ hq]
theorem wr_okN : okQ (wr S ia fi fl qa f) c none = true := rfl
theorem wr_okS (h : S a = some (.inr (c, l))) : okQ (wr S ia fi fl qa f) c (some a) = true := by
  simp only [okQ, wr_c h, mCell, beq_self_eq_true]
theorem wr_lenO (h : S a = none) : lenA (wr S ia fi fl qa f) a = lenA f a := by simp only [lenA, wr_o h]
theorem wr_AO (h : S a = none) {i : Int32} : ldA t (wr S ia fi fl qa f) a i = ldA t f a i := by simp only [ldA, wr_o h]
end WR
/-! THE SKELETON OF OUR TWO OBJECTS: the class's at b, the reference's at b + 83 (written by wip/gen/skel.py) -/
def stt (s : Nat) : List mK := [.inr (7, [.inr false, .inl (s + 1), .inl (s + 2), .inl (s + 3), .inl (s + 4), .inl (s + 5), .inl (s + 6)]), .inl (0, 8), .inl (0, 8), .inl (3, 5), .inl (0, 8), .inl (0, 8), .inl (0, 151)]
def tbA (b : Nat) : List mK := [.inr (9, [.inl (b + 1), .inl (b + 8), .inr false, .inl (b + 9), .inr false, .inl (b + 16), .inl (b + 20), .inl (b + 21), .inl (b + 22)]), .inr (7, [.inr false, .inl (b + 2), .inl (b + 3), .inl (b + 4), .inl (b + 5), .inl (b + 6), .inl (b + 7)]), .inl (0, 8), .inl (0, 8), .inl (3, 5), .inl (0, 8), .inl (0, 8), .inl (0, 151), .inl (2, 4), .inr (7, [.inr false, .inl (b + 10), .inl (b + 11), .inl (b + 12), .inl (b + 13), .inl (b + 14), .inl (b + 15)]), .inl (0, 8), .inl (0, 8), .inl (3, 5), .inl (0, 8), .inl (0, 8), .inl (0, 151), .inr (8, [.inr false, .inl (b + 17), .inl (b + 18), .inr false, .inl (b + 19), .inr false, .inr false]), .inl (0, 30), .inl (0, 30), .inl (0, 30), .inr (5, [.inl (b + 21), .inl (b + 22), .inl (b + 33), .inl (b + 39), .inl (b + 40), .inl (b + 42), .inl (b + 44), .inl (b + 46), .inl (b + 47), .inl (b + 51)]), .inr (6, [.inl (b + 22), .inl (b + 29), .inl (b + 30), .inl (b + 31), .inl (b + 32)]), .inr (4, [.inr false, .inl (b + 23), .inl (b + 24), .inl (b + 25), .inl (b + 26), .inr false, .inl (b + 27), .inl (b + 28)]), .inl (0, 151), .inl (0, 151), .inl (0, 151), .inl (0, 5), .inl (0, 30), .inl (0, 151), .inl (0, 151), .inl (0, 151), .inl (0, 151), .inl (0, 151), .inr (2, [.inr false, .inl (b + 34), .inl (b + 22), .inl (b + 36), .inl (b + 37)]), .inr (3, [.inl (b + 35)]), .inl (4, 3), .inl (0, 151), .inr (3, [.inl (b + 38)]), .inl (4, 453), .inl (0, 153), .inr (3, [.inl (b + 41)]), .inl (4, 459), .inr (3, [.inl (b + 43)]), .inl (4, 459), .inr (3, [.inl (b + 45)]), .inl (4, 459), .inl (0, 153), .inr (1, [.inr false, .inl (b + 48), .inl (b + 50), .inr false]), .inr (3, [.inl (b + 49)]), .inl (4, 384), .inl (0, 128), .inr (1, [.inr false, .inl (b + 52), .inl (b + 54), .inr false]), .inr (3, [.inl (b + 53)]), .inl (4, 384), .inl (0, 128)]
def tbM (b : Nat) : List mK := [.inr (10, [.inl (b + 84), .inl (b + 85), .inr false, .inl (b + 86), .inr false, .inl (b + 87), .inl (b + 88), .inr false, .inl (b + 89), .inr false, .inl (b + 90), .inr false, .inl (b + 91), .inr false, .inl (b + 92), .inl (b + 93), .inl (b + 94), .inl (b + 95), .inl (b + 96), .inr false, .inl (b + 97), .inl (b + 98), .inl (b + 99), .inl (b + 100), .inl (b + 101)]), .inl (0, 172), .inl (0, 688), .inl (0, 172), .inl (0, 8), .inl (0, 8), .inl (1, 30), .inl (0, 31), .inl (0, 31), .inl (0, 32), .inl (0, 1000), .inl (0, 1000), .inl (0, 1000), .inl (0, 91000), .inl (0, 19200), .inl (0, 600), .inl (0, 600), .inl (0, 600), .inl (0, 31)]
def tb (b k : Nat) : Option mK :=
  if k < 55 then (tbA b)[k]?
  else if k < 83 then (stt (b + (55 + 7 * ((k - 55) / 7))))[(k - 55) % 7]?
  else if k < 102 then (tbM b)[k - 83]?
  else none
def SK (b : Nat) : Nat → Option mK := fun a => if a < b then none else tb b (a - b)
theorem SK_at (b k : Nat) : SK b (b + k) = tb b k := by
  show (if b + k < b then none else tb b (b + k - b)) = tb b k
  rw [if_neg (by omega), Nat.add_sub_cancel_left]
theorem SK_0 (b : Nat) : SK b b = tb b 0 := SK_at b 0
theorem SK_low {b a : Nat} (h : a < b) : SK b a = none := by simp [SK, h]
theorem SK_high {b a : Nat} (h : b + 102 ≤ a) : SK b a = none := by
  have h1 : ¬ a < b := by omega
  have h2 : b + (a - b) = a := by omega
  rw [← h2, SK_at, tb]
  rw [if_neg (by omega), if_neg (by omega), if_neg (by omega)]
theorem K_0 (b : Nat) : SK b b = some (.inr (9, [.inl (b + 1), .inl (b + 8), .inr false, .inl (b + 9), .inr false, .inl (b + 16), .inl (b + 20), .inl (b + 21), .inl (b + 22)])) := (SK_at b 0).trans rfl
theorem K_1 (b : Nat) : SK b (b + 1) = some (.inr (7, [.inr false, .inl (b + 2), .inl (b + 3), .inl (b + 4), .inl (b + 5), .inl (b + 6), .inl (b + 7)])) := (SK_at b 1).trans rfl
theorem K_2 (b : Nat) : SK b (b + 2) = some (.inl (0, 8)) := (SK_at b 2).trans rfl
theorem K_3 (b : Nat) : SK b (b + 3) = some (.inl (0, 8)) := (SK_at b 3).trans rfl
theorem K_4 (b : Nat) : SK b (b + 4) = some (.inl (3, 5)) := (SK_at b 4).trans rfl
theorem K_5 (b : Nat) : SK b (b + 5) = some (.inl (0, 8)) := (SK_at b 5).trans rfl
theorem K_6 (b : Nat) : SK b (b + 6) = some (.inl (0, 8)) := (SK_at b 6).trans rfl
theorem K_7 (b : Nat) : SK b (b + 7) = some (.inl (0, 151)) := (SK_at b 7).trans rfl
theorem K_8 (b : Nat) : SK b (b + 8) = some (.inl (2, 4)) := (SK_at b 8).trans rfl
theorem K_9 (b : Nat) : SK b (b + 9) = some (.inr (7, [.inr false, .inl (b + 10), .inl (b + 11), .inl (b + 12), .inl (b + 13), .inl (b + 14), .inl (b + 15)])) := (SK_at b 9).trans rfl
theorem K_10 (b : Nat) : SK b (b + 10) = some (.inl (0, 8)) := (SK_at b 10).trans rfl
theorem K_11 (b : Nat) : SK b (b + 11) = some (.inl (0, 8)) := (SK_at b 11).trans rfl
theorem K_12 (b : Nat) : SK b (b + 12) = some (.inl (3, 5)) := (SK_at b 12).trans rfl
theorem K_13 (b : Nat) : SK b (b + 13) = some (.inl (0, 8)) := (SK_at b 13).trans rfl
theorem K_14 (b : Nat) : SK b (b + 14) = some (.inl (0, 8)) := (SK_at b 14).trans rfl
theorem K_15 (b : Nat) : SK b (b + 15) = some (.inl (0, 151)) := (SK_at b 15).trans rfl
theorem K_16 (b : Nat) : SK b (b + 16) = some (.inr (8, [.inr false, .inl (b + 17), .inl (b + 18), .inr false, .inl (b + 19), .inr false, .inr false])) := (SK_at b 16).trans rfl
theorem K_17 (b : Nat) : SK b (b + 17) = some (.inl (0, 30)) := (SK_at b 17).trans rfl
theorem K_18 (b : Nat) : SK b (b + 18) = some (.inl (0, 30)) := (SK_at b 18).trans rfl
theorem K_19 (b : Nat) : SK b (b + 19) = some (.inl (0, 30)) := (SK_at b 19).trans rfl
theorem K_20 (b : Nat) : SK b (b + 20) = some (.inr (5, [.inl (b + 21), .inl (b + 22), .inl (b + 33), .inl (b + 39), .inl (b + 40), .inl (b + 42), .inl (b + 44), .inl (b + 46), .inl (b + 47), .inl (b + 51)])) := (SK_at b 20).trans rfl
theorem K_21 (b : Nat) : SK b (b + 21) = some (.inr (6, [.inl (b + 22), .inl (b + 29), .inl (b + 30), .inl (b + 31), .inl (b + 32)])) := (SK_at b 21).trans rfl
theorem K_22 (b : Nat) : SK b (b + 22) = some (.inr (4, [.inr false, .inl (b + 23), .inl (b + 24), .inl (b + 25), .inl (b + 26), .inr false, .inl (b + 27), .inl (b + 28)])) := (SK_at b 22).trans rfl
theorem K_23 (b : Nat) : SK b (b + 23) = some (.inl (0, 151)) := (SK_at b 23).trans rfl
theorem K_24 (b : Nat) : SK b (b + 24) = some (.inl (0, 151)) := (SK_at b 24).trans rfl
theorem K_25 (b : Nat) : SK b (b + 25) = some (.inl (0, 151)) := (SK_at b 25).trans rfl
theorem K_26 (b : Nat) : SK b (b + 26) = some (.inl (0, 5)) := (SK_at b 26).trans rfl
theorem K_27 (b : Nat) : SK b (b + 27) = some (.inl (0, 30)) := (SK_at b 27).trans rfl
theorem K_28 (b : Nat) : SK b (b + 28) = some (.inl (0, 151)) := (SK_at b 28).trans rfl
theorem K_29 (b : Nat) : SK b (b + 29) = some (.inl (0, 151)) := (SK_at b 29).trans rfl
theorem K_30 (b : Nat) : SK b (b + 30) = some (.inl (0, 151)) := (SK_at b 30).trans rfl
theorem K_31 (b : Nat) : SK b (b + 31) = some (.inl (0, 151)) := (SK_at b 31).trans rfl
theorem K_32 (b : Nat) : SK b (b + 32) = some (.inl (0, 151)) := (SK_at b 32).trans rfl
theorem K_33 (b : Nat) : SK b (b + 33) = some (.inr (2, [.inr false, .inl (b + 34), .inl (b + 22), .inl (b + 36), .inl (b + 37)])) := (SK_at b 33).trans rfl
theorem K_34 (b : Nat) : SK b (b + 34) = some (.inr (3, [.inl (b + 35)])) := (SK_at b 34).trans rfl
theorem K_35 (b : Nat) : SK b (b + 35) = some (.inl (4, 3)) := (SK_at b 35).trans rfl
theorem K_36 (b : Nat) : SK b (b + 36) = some (.inl (0, 151)) := (SK_at b 36).trans rfl
theorem K_37 (b : Nat) : SK b (b + 37) = some (.inr (3, [.inl (b + 38)])) := (SK_at b 37).trans rfl
theorem K_38 (b : Nat) : SK b (b + 38) = some (.inl (4, 453)) := (SK_at b 38).trans rfl
theorem K_39 (b : Nat) : SK b (b + 39) = some (.inl (0, 153)) := (SK_at b 39).trans rfl
theorem K_40 (b : Nat) : SK b (b + 40) = some (.inr (3, [.inl (b + 41)])) := (SK_at b 40).trans rfl
theorem K_41 (b : Nat) : SK b (b + 41) = some (.inl (4, 459)) := (SK_at b 41).trans rfl
theorem K_42 (b : Nat) : SK b (b + 42) = some (.inr (3, [.inl (b + 43)])) := (SK_at b 42).trans rfl
theorem K_43 (b : Nat) : SK b (b + 43) = some (.inl (4, 459)) := (SK_at b 43).trans rfl
theorem K_44 (b : Nat) : SK b (b + 44) = some (.inr (3, [.inl (b + 45)])) := (SK_at b 44).trans rfl
theorem K_45 (b : Nat) : SK b (b + 45) = some (.inl (4, 459)) := (SK_at b 45).trans rfl
theorem K_46 (b : Nat) : SK b (b + 46) = some (.inl (0, 153)) := (SK_at b 46).trans rfl
theorem K_47 (b : Nat) : SK b (b + 47) = some (.inr (1, [.inr false, .inl (b + 48), .inl (b + 50), .inr false])) := (SK_at b 47).trans rfl
theorem K_48 (b : Nat) : SK b (b + 48) = some (.inr (3, [.inl (b + 49)])) := (SK_at b 48).trans rfl
theorem K_49 (b : Nat) : SK b (b + 49) = some (.inl (4, 384)) := (SK_at b 49).trans rfl
theorem K_50 (b : Nat) : SK b (b + 50) = some (.inl (0, 128)) := (SK_at b 50).trans rfl
theorem K_51 (b : Nat) : SK b (b + 51) = some (.inr (1, [.inr false, .inl (b + 52), .inl (b + 54), .inr false])) := (SK_at b 51).trans rfl
theorem K_52 (b : Nat) : SK b (b + 52) = some (.inr (3, [.inl (b + 53)])) := (SK_at b 52).trans rfl
theorem K_53 (b : Nat) : SK b (b + 53) = some (.inl (4, 384)) := (SK_at b 53).trans rfl
theorem K_54 (b : Nat) : SK b (b + 54) = some (.inl (0, 128)) := (SK_at b 54).trans rfl
theorem K_83 (b : Nat) : SK b (b + 83) = some (.inr (10, [.inl (b + 84), .inl (b + 85), .inr false, .inl (b + 86), .inr false, .inl (b + 87), .inl (b + 88), .inr false, .inl (b + 89), .inr false, .inl (b + 90), .inr false, .inl (b + 91), .inr false, .inl (b + 92), .inl (b + 93), .inl (b + 94), .inl (b + 95), .inl (b + 96), .inr false, .inl (b + 97), .inl (b + 98), .inl (b + 99), .inl (b + 100), .inl (b + 101)])) := (SK_at b 83).trans rfl
theorem K_84 (b : Nat) : SK b (b + 84) = some (.inl (0, 172)) := (SK_at b 84).trans rfl
theorem K_85 (b : Nat) : SK b (b + 85) = some (.inl (0, 688)) := (SK_at b 85).trans rfl
theorem K_86 (b : Nat) : SK b (b + 86) = some (.inl (0, 172)) := (SK_at b 86).trans rfl
theorem K_87 (b : Nat) : SK b (b + 87) = some (.inl (0, 8)) := (SK_at b 87).trans rfl
theorem K_88 (b : Nat) : SK b (b + 88) = some (.inl (0, 8)) := (SK_at b 88).trans rfl
theorem K_89 (b : Nat) : SK b (b + 89) = some (.inl (1, 30)) := (SK_at b 89).trans rfl
theorem K_90 (b : Nat) : SK b (b + 90) = some (.inl (0, 31)) := (SK_at b 90).trans rfl
theorem K_91 (b : Nat) : SK b (b + 91) = some (.inl (0, 31)) := (SK_at b 91).trans rfl
theorem K_92 (b : Nat) : SK b (b + 92) = some (.inl (0, 32)) := (SK_at b 92).trans rfl
theorem K_93 (b : Nat) : SK b (b + 93) = some (.inl (0, 1000)) := (SK_at b 93).trans rfl
theorem K_94 (b : Nat) : SK b (b + 94) = some (.inl (0, 1000)) := (SK_at b 94).trans rfl
theorem K_95 (b : Nat) : SK b (b + 95) = some (.inl (0, 1000)) := (SK_at b 95).trans rfl
theorem K_96 (b : Nat) : SK b (b + 96) = some (.inl (0, 91000)) := (SK_at b 96).trans rfl
theorem K_97 (b : Nat) : SK b (b + 97) = some (.inl (0, 19200)) := (SK_at b 97).trans rfl
theorem K_98 (b : Nat) : SK b (b + 98) = some (.inl (0, 600)) := (SK_at b 98).trans rfl
theorem K_99 (b : Nat) : SK b (b + 99) = some (.inl (0, 600)) := (SK_at b 99).trans rfl
theorem K_100 (b : Nat) : SK b (b + 100) = some (.inl (0, 600)) := (SK_at b 100).trans rfl
theorem K_101 (b : Nat) : SK b (b + 101) = some (.inl (0, 31)) := (SK_at b 101).trans rfl
theorem K_his {b j i : Nat} (h : j < 4) (h7 : i < 7) : SK b (b + (55 + 7 * j + i)) = (stt (b + (55 + 7 * j)))[i]? := by
  rw [SK_at, tb, if_neg (by omega), if_pos (by omega)]
  have e1 : (55 + 7 * j + i - 55) / 7 = j := by omega
  have e2 : (55 + 7 * j + i - 55) % 7 = i := by omega
  rw [e1, e2]
/-- whether a part is in the k-th set of a row -/
def sB (r : Nat → Int32) (k p : Nat) : Bool := (r (6 * k + p / 32)).toBitVec.getLsbD (p % 32)
section LOADS
variable {b : Nat} {ia fi : Nat → Nat → Int32} {fl : Nat → Nat → Int64} {qa : Nat → Nat → Option Nat} {f : mmF}
theorem ck_0 : ckO (wr (SK b) ia fi fl qa f) b 9 = some () := wr_ck (K_0 b)
theorem R_0_0 : ldR (wr (SK b) ia fi fl qa f) b 9 0 = some (b + 1) := wr_R (K_0 b) rfl
theorem R_0_1 : ldR (wr (SK b) ia fi fl qa f) b 9 1 = some (b + 8) := wr_R (K_0 b) rfl
theorem I_0_2 : ldI (wr (SK b) ia fi fl qa f) b 9 2 = some (fi b 2) := wr_I (K_0 b) rfl
theorem sI_0_2 {x : Int32} : stF (wr (SK b) ia fi fl qa f) b 9 2 (.int x) = some (wr (SK b) ia (u2 fi b 2 x) fl qa f) := wr_sI (K_0 b) rfl x
theorem R_0_3 : ldR (wr (SK b) ia fi fl qa f) b 9 3 = some (b + 9) := wr_R (K_0 b) rfl
theorem I_0_4 : ldI (wr (SK b) ia fi fl qa f) b 9 4 = some (fi b 4) := wr_I (K_0 b) rfl
theorem sI_0_4 {x : Int32} : stF (wr (SK b) ia fi fl qa f) b 9 4 (.int x) = some (wr (SK b) ia (u2 fi b 4 x) fl qa f) := wr_sI (K_0 b) rfl x
theorem R_0_5 : ldR (wr (SK b) ia fi fl qa f) b 9 5 = some (b + 16) := wr_R (K_0 b) rfl
theorem R_0_6 : ldR (wr (SK b) ia fi fl qa f) b 9 6 = some (b + 20) := wr_R (K_0 b) rfl
theorem R_0_7 : ldR (wr (SK b) ia fi fl qa f) b 9 7 = some (b + 21) := wr_R (K_0 b) rfl
theorem R_0_8 : ldR (wr (SK b) ia fi fl qa f) b 9 8 = some (b + 22) := wr_R (K_0 b) rfl
theorem ck_1 : ckO (wr (SK b) ia fi fl qa f) (b + 1) 7 = some () := wr_ck (K_1 b)
theorem I_1_0 : ldI (wr (SK b) ia fi fl qa f) (b + 1) 7 0 = some (fi (b + 1) 0) := wr_I (K_1 b) rfl
theorem sI_1_0 {x : Int32} : stF (wr (SK b) ia fi fl qa f) (b + 1) 7 0 (.int x) = some (wr (SK b) ia (u2 fi (b + 1) 0 x) fl qa f) := wr_sI (K_1 b) rfl x
theorem R_1_1 : ldR (wr (SK b) ia fi fl qa f) (b + 1) 7 1 = some (b + 2) := wr_R (K_1 b) rfl
theorem R_1_2 : ldR (wr (SK b) ia fi fl qa f) (b + 1) 7 2 = some (b + 3) := wr_R (K_1 b) rfl
theorem R_1_3 : ldR (wr (SK b) ia fi fl qa f) (b + 1) 7 3 = some (b + 4) := wr_R (K_1 b) rfl
theorem R_1_4 : ldR (wr (SK b) ia fi fl qa f) (b + 1) 7 4 = some (b + 5) := wr_R (K_1 b) rfl
theorem R_1_5 : ldR (wr (SK b) ia fi fl qa f) (b + 1) 7 5 = some (b + 6) := wr_R (K_1 b) rfl
theorem R_1_6 : ldR (wr (SK b) ia fi fl qa f) (b + 1) 7 6 = some (b + 7) := wr_R (K_1 b) rfl
theorem L_2 : lenA (wr (SK b) ia fi fl qa f) (b + 2) = some (nI 8) := wr_len (K_2 b) (by decide)
theorem A_2 {i : Int32} (hi : vp_in i 8) : ldA 0 (wr (SK b) ia fi fl qa f) (b + 2) i = some (ia (b + 2) i.toNatClampNeg) := wr_A (K_2 b) (by decide) hi
theorem An_2 {i : Nat} (hi : i < 8) : ldA 0 (wr (SK b) ia fi fl qa f) (b + 2) (nI i) = some (ia (b + 2) i) := by rw [A_2 (vp_in_nI hi (by decide)), nI_clamp (by omega)]
theorem sA_2 {i x : Int32} (hi : vp_in i 8) : stA 0 (wr (SK b) ia fi fl qa f) (b + 2) i x = some (wr (SK b) (u2 ia (b + 2) i.toNatClampNeg x) fi fl qa f) := wr_sA (K_2 b) (by decide) hi
theorem sAn_2 {i : Nat} {x : Int32} (hi : i < 8) : stA 0 (wr (SK b) ia fi fl qa f) (b + 2) (nI i) x = some (wr (SK b) (u2 ia (b + 2) i x) fi fl qa f) := by rw [sA_2 (vp_in_nI hi (by decide)), nI_clamp (by omega)]
theorem L_3 : lenA (wr (SK b) ia fi fl qa f) (b + 3) = some (nI 8) := wr_len (K_3 b) (by decide)
theorem A_3 {i : Int32} (hi : vp_in i 8) : ldA 0 (wr (SK b) ia fi fl qa f) (b + 3) i = some (ia (b + 3) i.toNatClampNeg) := wr_A (K_3 b) (by decide) hi
theorem An_3 {i : Nat} (hi : i < 8) : ldA 0 (wr (SK b) ia fi fl qa f) (b + 3) (nI i) = some (ia (b + 3) i) := by rw [A_3 (vp_in_nI hi (by decide)), nI_clamp (by omega)]
theorem sA_3 {i x : Int32} (hi : vp_in i 8) : stA 0 (wr (SK b) ia fi fl qa f) (b + 3) i x = some (wr (SK b) (u2 ia (b + 3) i.toNatClampNeg x) fi fl qa f) := wr_sA (K_3 b) (by decide) hi
theorem sAn_3 {i : Nat} {x : Int32} (hi : i < 8) : stA 0 (wr (SK b) ia fi fl qa f) (b + 3) (nI i) x = some (wr (SK b) (u2 ia (b + 3) i x) fi fl qa f) := by rw [sA_3 (vp_in_nI hi (by decide)), nI_clamp (by omega)]
theorem L_4 : lenA (wr (SK b) ia fi fl qa f) (b + 4) = some (nI 5) := wr_len (K_4 b) (by decide)
theorem Q_4 {i : Nat} (hi : i < 5) : ldQ 3 (wr (SK b) ia fi fl qa f) (b + 4) (nI i) = some (qa (b + 4) i) := by rw [wr_Q (K_4 b) (by decide) (vp_in_nI hi (by decide)), nI_clamp (by omega)]
theorem N_4 {i v : Nat} (hi : i < 5) (hv : qa (b + 4) i = some v) : ldN 3 (wr (SK b) ia fi fl qa f) (b + 4) (nI i) = some v := wr_N (K_4 b) (by decide) (vp_in_nI hi (by decide)) (by rw [nI_clamp (by omega)]; exact hv)
theorem sQ_4 {i : Nat} {r : Option Nat} (hi : i < 5) (ho : okQ (wr (SK b) ia fi fl qa f) 0 r = true) : stQ 3 0 (wr (SK b) ia fi fl qa f) (b + 4) (nI i) r = some (wr (SK b) ia fi fl (u2 qa (b + 4) i r) f) := by rw [wr_sQ (K_4 b) (by decide) (vp_in_nI hi (by decide)) ho, nI_clamp (by omega)]
theorem L_5 : lenA (wr (SK b) ia fi fl qa f) (b + 5) = some (nI 8) := wr_len (K_5 b) (by decide)
theorem A_5 {i : Int32} (hi : vp_in i 8) : ldA 0 (wr (SK b) ia fi fl qa f) (b + 5) i = some (ia (b + 5) i.toNatClampNeg) := wr_A (K_5 b) (by decide) hi
theorem An_5 {i : Nat} (hi : i < 8) : ldA 0 (wr (SK b) ia fi fl qa f) (b + 5) (nI i) = some (ia (b + 5) i) := by rw [A_5 (vp_in_nI hi (by decide)), nI_clamp (by omega)]
theorem sA_5 {i x : Int32} (hi : vp_in i 8) : stA 0 (wr (SK b) ia fi fl qa f) (b + 5) i x = some (wr (SK b) (u2 ia (b + 5) i.toNatClampNeg x) fi fl qa f) := wr_sA (K_5 b) (by decide) hi
theorem sAn_5 {i : Nat} {x : Int32} (hi : i < 8) : stA 0 (wr (SK b) ia fi fl qa f) (b + 5) (nI i) x = some (wr (SK b) (u2 ia (b + 5) i x) fi fl qa f) := by rw [sA_5 (vp_in_nI hi (by decide)), nI_clamp (by omega)]
theorem L_6 : lenA (wr (SK b) ia fi fl qa f) (b + 6) = some (nI 8) := wr_len (K_6 b) (by decide)
theorem A_6 {i : Int32} (hi : vp_in i 8) : ldA 0 (wr (SK b) ia fi fl qa f) (b + 6) i = some (ia (b + 6) i.toNatClampNeg) := wr_A (K_6 b) (by decide) hi
theorem An_6 {i : Nat} (hi : i < 8) : ldA 0 (wr (SK b) ia fi fl qa f) (b + 6) (nI i) = some (ia (b + 6) i) := by rw [A_6 (vp_in_nI hi (by decide)), nI_clamp (by omega)]
theorem sA_6 {i x : Int32} (hi : vp_in i 8) : stA 0 (wr (SK b) ia fi fl qa f) (b + 6) i x = some (wr (SK b) (u2 ia (b + 6) i.toNatClampNeg x) fi fl qa f) := wr_sA (K_6 b) (by decide) hi
theorem sAn_6 {i : Nat} {x : Int32} (hi : i < 8) : stA 0 (wr (SK b) ia fi fl qa f) (b + 6) (nI i) x = some (wr (SK b) (u2 ia (b + 6) i x) fi fl qa f) := by rw [sA_6 (vp_in_nI hi (by decide)), nI_clamp (by omega)]
theorem L_7 : lenA (wr (SK b) ia fi fl qa f) (b + 7) = some (nI 151) := wr_len (K_7 b) (by decide)
theorem A_7 {i : Int32} (hi : vp_in i 151) : ldA 0 (wr (SK b) ia fi fl qa f) (b + 7) i = some (ia (b + 7) i.toNatClampNeg) := wr_A (K_7 b) (by decide) hi
theorem An_7 {i : Nat} (hi : i < 151) : ldA 0 (wr (SK b) ia fi fl qa f) (b + 7) (nI i) = some (ia (b + 7) i) := by rw [A_7 (vp_in_nI hi (by decide)), nI_clamp (by omega)]
theorem sA_7 {i x : Int32} (hi : vp_in i 151) : stA 0 (wr (SK b) ia fi fl qa f) (b + 7) i x = some (wr (SK b) (u2 ia (b + 7) i.toNatClampNeg x) fi fl qa f) := wr_sA (K_7 b) (by decide) hi
theorem sAn_7 {i : Nat} {x : Int32} (hi : i < 151) : stA 0 (wr (SK b) ia fi fl qa f) (b + 7) (nI i) x = some (wr (SK b) (u2 ia (b + 7) i x) fi fl qa f) := by rw [sA_7 (vp_in_nI hi (by decide)), nI_clamp (by omega)]
theorem L_8 : lenA (wr (SK b) ia fi fl qa f) (b + 8) = some (nI 4) := wr_len (K_8 b) (by decide)
theorem Q_8 {i : Nat} (hi : i < 4) : ldQ 2 (wr (SK b) ia fi fl qa f) (b + 8) (nI i) = some (qa (b + 8) i) := by rw [wr_Q (K_8 b) (by decide) (vp_in_nI hi (by decide)), nI_clamp (by omega)]
theorem N_8 {i v : Nat} (hi : i < 4) (hv : qa (b + 8) i = some v) : ldN 2 (wr (SK b) ia fi fl qa f) (b + 8) (nI i) = some v := wr_N (K_8 b) (by decide) (vp_in_nI hi (by decide)) (by rw [nI_clamp (by omega)]; exact hv)
theorem sQ_8 {i : Nat} {r : Option Nat} (hi : i < 4) (ho : okQ (wr (SK b) ia fi fl qa f) 7 r = true) : stQ 2 7 (wr (SK b) ia fi fl qa f) (b + 8) (nI i) r = some (wr (SK b) ia fi fl (u2 qa (b + 8) i r) f) := by rw [wr_sQ (K_8 b) (by decide) (vp_in_nI hi (by decide)) ho, nI_clamp (by omega)]
theorem ck_9 : ckO (wr (SK b) ia fi fl qa f) (b + 9) 7 = some () := wr_ck (K_9 b)
theorem I_9_0 : ldI (wr (SK b) ia fi fl qa f) (b + 9) 7 0 = some (fi (b + 9) 0) := wr_I (K_9 b) rfl
theorem sI_9_0 {x : Int32} : stF (wr (SK b) ia fi fl qa f) (b + 9) 7 0 (.int x) = some (wr (SK b) ia (u2 fi (b + 9) 0 x) fl qa f) := wr_sI (K_9 b) rfl x
theorem R_9_1 : ldR (wr (SK b) ia fi fl qa f) (b + 9) 7 1 = some (b + 10) := wr_R (K_9 b) rfl
theorem R_9_2 : ldR (wr (SK b) ia fi fl qa f) (b + 9) 7 2 = some (b + 11) := wr_R (K_9 b) rfl
theorem R_9_3 : ldR (wr (SK b) ia fi fl qa f) (b + 9) 7 3 = some (b + 12) := wr_R (K_9 b) rfl
theorem R_9_4 : ldR (wr (SK b) ia fi fl qa f) (b + 9) 7 4 = some (b + 13) := wr_R (K_9 b) rfl
theorem R_9_5 : ldR (wr (SK b) ia fi fl qa f) (b + 9) 7 5 = some (b + 14) := wr_R (K_9 b) rfl
theorem R_9_6 : ldR (wr (SK b) ia fi fl qa f) (b + 9) 7 6 = some (b + 15) := wr_R (K_9 b) rfl
theorem L_10 : lenA (wr (SK b) ia fi fl qa f) (b + 10) = some (nI 8) := wr_len (K_10 b) (by decide)
theorem A_10 {i : Int32} (hi : vp_in i 8) : ldA 0 (wr (SK b) ia fi fl qa f) (b + 10) i = some (ia (b + 10) i.toNatClampNeg) := wr_A (K_10 b) (by decide) hi
theorem An_10 {i : Nat} (hi : i < 8) : ldA 0 (wr (SK b) ia fi fl qa f) (b + 10) (nI i) = some (ia (b + 10) i) := by rw [A_10 (vp_in_nI hi (by decide)), nI_clamp (by omega)]
theorem sA_10 {i x : Int32} (hi : vp_in i 8) : stA 0 (wr (SK b) ia fi fl qa f) (b + 10) i x = some (wr (SK b) (u2 ia (b + 10) i.toNatClampNeg x) fi fl qa f) := wr_sA (K_10 b) (by decide) hi
theorem sAn_10 {i : Nat} {x : Int32} (hi : i < 8) : stA 0 (wr (SK b) ia fi fl qa f) (b + 10) (nI i) x = some (wr (SK b) (u2 ia (b + 10) i x) fi fl qa f) := by rw [sA_10 (vp_in_nI hi (by decide)), nI_clamp (by omega)]
theorem L_11 : lenA (wr (SK b) ia fi fl qa f) (b + 11) = some (nI 8) := wr_len (K_11 b) (by decide)
theorem A_11 {i : Int32} (hi : vp_in i 8) : ldA 0 (wr (SK b) ia fi fl qa f) (b + 11) i = some (ia (b + 11) i.toNatClampNeg) := wr_A (K_11 b) (by decide) hi
theorem An_11 {i : Nat} (hi : i < 8) : ldA 0 (wr (SK b) ia fi fl qa f) (b + 11) (nI i) = some (ia (b + 11) i) := by rw [A_11 (vp_in_nI hi (by decide)), nI_clamp (by omega)]
theorem sA_11 {i x : Int32} (hi : vp_in i 8) : stA 0 (wr (SK b) ia fi fl qa f) (b + 11) i x = some (wr (SK b) (u2 ia (b + 11) i.toNatClampNeg x) fi fl qa f) := wr_sA (K_11 b) (by decide) hi
theorem sAn_11 {i : Nat} {x : Int32} (hi : i < 8) : stA 0 (wr (SK b) ia fi fl qa f) (b + 11) (nI i) x = some (wr (SK b) (u2 ia (b + 11) i x) fi fl qa f) := by rw [sA_11 (vp_in_nI hi (by decide)), nI_clamp (by omega)]
theorem L_12 : lenA (wr (SK b) ia fi fl qa f) (b + 12) = some (nI 5) := wr_len (K_12 b) (by decide)
theorem Q_12 {i : Nat} (hi : i < 5) : ldQ 3 (wr (SK b) ia fi fl qa f) (b + 12) (nI i) = some (qa (b + 12) i) := by rw [wr_Q (K_12 b) (by decide) (vp_in_nI hi (by decide)), nI_clamp (by omega)]
theorem N_12 {i v : Nat} (hi : i < 5) (hv : qa (b + 12) i = some v) : ldN 3 (wr (SK b) ia fi fl qa f) (b + 12) (nI i) = some v := wr_N (K_12 b) (by decide) (vp_in_nI hi (by decide)) (by rw [nI_clamp (by omega)]; exact hv)
theorem sQ_12 {i : Nat} {r : Option Nat} (hi : i < 5) (ho : okQ (wr (SK b) ia fi fl qa f) 0 r = true) : stQ 3 0 (wr (SK b) ia fi fl qa f) (b + 12) (nI i) r = some (wr (SK b) ia fi fl (u2 qa (b + 12) i r) f) := by rw [wr_sQ (K_12 b) (by decide) (vp_in_nI hi (by decide)) ho, nI_clamp (by omega)]
theorem L_13 : lenA (wr (SK b) ia fi fl qa f) (b + 13) = some (nI 8) := wr_len (K_13 b) (by decide)
theorem A_13 {i : Int32} (hi : vp_in i 8) : ldA 0 (wr (SK b) ia fi fl qa f) (b + 13) i = some (ia (b + 13) i.toNatClampNeg) := wr_A (K_13 b) (by decide) hi
theorem An_13 {i : Nat} (hi : i < 8) : ldA 0 (wr (SK b) ia fi fl qa f) (b + 13) (nI i) = some (ia (b + 13) i) := by rw [A_13 (vp_in_nI hi (by decide)), nI_clamp (by omega)]
theorem sA_13 {i x : Int32} (hi : vp_in i 8) : stA 0 (wr (SK b) ia fi fl qa f) (b + 13) i x = some (wr (SK b) (u2 ia (b + 13) i.toNatClampNeg x) fi fl qa f) := wr_sA (K_13 b) (by decide) hi
theorem sAn_13 {i : Nat} {x : Int32} (hi : i < 8) : stA 0 (wr (SK b) ia fi fl qa f) (b + 13) (nI i) x = some (wr (SK b) (u2 ia (b + 13) i x) fi fl qa f) := by rw [sA_13 (vp_in_nI hi (by decide)), nI_clamp (by omega)]
theorem L_14 : lenA (wr (SK b) ia fi fl qa f) (b + 14) = some (nI 8) := wr_len (K_14 b) (by decide)
theorem A_14 {i : Int32} (hi : vp_in i 8) : ldA 0 (wr (SK b) ia fi fl qa f) (b + 14) i = some (ia (b + 14) i.toNatClampNeg) := wr_A (K_14 b) (by decide) hi
theorem An_14 {i : Nat} (hi : i < 8) : ldA 0 (wr (SK b) ia fi fl qa f) (b + 14) (nI i) = some (ia (b + 14) i) := by rw [A_14 (vp_in_nI hi (by decide)), nI_clamp (by omega)]
theorem sA_14 {i x : Int32} (hi : vp_in i 8) : stA 0 (wr (SK b) ia fi fl qa f) (b + 14) i x = some (wr (SK b) (u2 ia (b + 14) i.toNatClampNeg x) fi fl qa f) := wr_sA (K_14 b) (by decide) hi
theorem sAn_14 {i : Nat} {x : Int32} (hi : i < 8) : stA 0 (wr (SK b) ia fi fl qa f) (b + 14) (nI i) x = some (wr (SK b) (u2 ia (b + 14) i x) fi fl qa f) := by rw [sA_14 (vp_in_nI hi (by decide)), nI_clamp (by omega)]
theorem L_15 : lenA (wr (SK b) ia fi fl qa f) (b + 15) = some (nI 151) := wr_len (K_15 b) (by decide)
theorem A_15 {i : Int32} (hi : vp_in i 151) : ldA 0 (wr (SK b) ia fi fl qa f) (b + 15) i = some (ia (b + 15) i.toNatClampNeg) := wr_A (K_15 b) (by decide) hi
theorem An_15 {i : Nat} (hi : i < 151) : ldA 0 (wr (SK b) ia fi fl qa f) (b + 15) (nI i) = some (ia (b + 15) i) := by rw [A_15 (vp_in_nI hi (by decide)), nI_clamp (by omega)]
theorem sA_15 {i x : Int32} (hi : vp_in i 151) : stA 0 (wr (SK b) ia fi fl qa f) (b + 15) i x = some (wr (SK b) (u2 ia (b + 15) i.toNatClampNeg x) fi fl qa f) := wr_sA (K_15 b) (by decide) hi
theorem sAn_15 {i : Nat} {x : Int32} (hi : i < 151) : stA 0 (wr (SK b) ia fi fl qa f) (b + 15) (nI i) x = some (wr (SK b) (u2 ia (b + 15) i x) fi fl qa f) := by rw [sA_15 (vp_in_nI hi (by decide)), nI_clamp (by omega)]
theorem ck_16 : ckO (wr (SK b) ia fi fl qa f) (b + 16) 8 = some () := wr_ck (K_16 b)
theorem I_16_0 : ldI (wr (SK b) ia fi fl qa f) (b + 16) 8 0 = some (fi (b + 16) 0) := wr_I (K_16 b) rfl
theorem sI_16_0 {x : Int32} : stF (wr (SK b) ia fi fl qa f) (b + 16) 8 0 (.int x) = some (wr (SK b) ia (u2 fi (b + 16) 0 x) fl qa f) := wr_sI (K_16 b) rfl x
theorem R_16_1 : ldR (wr (SK b) ia fi fl qa f) (b + 16) 8 1 = some (b + 17) := wr_R (K_16 b) rfl
theorem R_16_2 : ldR (wr (SK b) ia fi fl qa f) (b + 16) 8 2 = some (b + 18) := wr_R (K_16 b) rfl
theorem I_16_3 : ldI (wr (SK b) ia fi fl qa f) (b + 16) 8 3 = some (fi (b + 16) 3) := wr_I (K_16 b) rfl
theorem sI_16_3 {x : Int32} : stF (wr (SK b) ia fi fl qa f) (b + 16) 8 3 (.int x) = some (wr (SK b) ia (u2 fi (b + 16) 3 x) fl qa f) := wr_sI (K_16 b) rfl x
theorem R_16_4 : ldR (wr (SK b) ia fi fl qa f) (b + 16) 8 4 = some (b + 19) := wr_R (K_16 b) rfl
theorem I_16_5 : ldI (wr (SK b) ia fi fl qa f) (b + 16) 8 5 = some (fi (b + 16) 5) := wr_I (K_16 b) rfl
theorem sI_16_5 {x : Int32} : stF (wr (SK b) ia fi fl qa f) (b + 16) 8 5 (.int x) = some (wr (SK b) ia (u2 fi (b + 16) 5 x) fl qa f) := wr_sI (K_16 b) rfl x
theorem I_16_6 : ldI (wr (SK b) ia fi fl qa f) (b + 16) 8 6 = some (fi (b + 16) 6) := wr_I (K_16 b) rfl
theorem sI_16_6 {x : Int32} : stF (wr (SK b) ia fi fl qa f) (b + 16) 8 6 (.int x) = some (wr (SK b) ia (u2 fi (b + 16) 6 x) fl qa f) := wr_sI (K_16 b) rfl x
theorem L_17 : lenA (wr (SK b) ia fi fl qa f) (b + 17) = some (nI 30) := wr_len (K_17 b) (by decide)
theorem A_17 {i : Int32} (hi : vp_in i 30) : ldA 0 (wr (SK b) ia fi fl qa f) (b + 17) i = some (ia (b + 17) i.toNatClampNeg) := wr_A (K_17 b) (by decide) hi
theorem An_17 {i : Nat} (hi : i < 30) : ldA 0 (wr (SK b) ia fi fl qa f) (b + 17) (nI i) = some (ia (b + 17) i) := by rw [A_17 (vp_in_nI hi (by decide)), nI_clamp (by omega)]
theorem sA_17 {i x : Int32} (hi : vp_in i 30) : stA 0 (wr (SK b) ia fi fl qa f) (b + 17) i x = some (wr (SK b) (u2 ia (b + 17) i.toNatClampNeg x) fi fl qa f) := wr_sA (K_17 b) (by decide) hi
theorem sAn_17 {i : Nat} {x : Int32} (hi : i < 30) : stA 0 (wr (SK b) ia fi fl qa f) (b + 17) (nI i) x = some (wr (SK b) (u2 ia (b + 17) i x) fi fl qa f) := by rw [sA_17 (vp_in_nI hi (by decide)), nI_clamp (by omega)]
theorem L_18 : lenA (wr (SK b) ia fi fl qa f) (b + 18) = some (nI 30) := wr_len (K_18 b) (by decide)
theorem A_18 {i : Int32} (hi : vp_in i 30) : ldA 0 (wr (SK b) ia fi fl qa f) (b + 18) i = some (ia (b + 18) i.toNatClampNeg) := wr_A (K_18 b) (by decide) hi
theorem An_18 {i : Nat} (hi : i < 30) : ldA 0 (wr (SK b) ia fi fl qa f) (b + 18) (nI i) = some (ia (b + 18) i) := by rw [A_18 (vp_in_nI hi (by decide)), nI_clamp (by omega)]
theorem sA_18 {i x : Int32} (hi : vp_in i 30) : stA 0 (wr (SK b) ia fi fl qa f) (b + 18) i x = some (wr (SK b) (u2 ia (b + 18) i.toNatClampNeg x) fi fl qa f) := wr_sA (K_18 b) (by decide) hi
theorem sAn_18 {i : Nat} {x : Int32} (hi : i < 30) : stA 0 (wr (SK b) ia fi fl qa f) (b + 18) (nI i) x = some (wr (SK b) (u2 ia (b + 18) i x) fi fl qa f) := by rw [sA_18 (vp_in_nI hi (by decide)), nI_clamp (by omega)]
theorem L_19 : lenA (wr (SK b) ia fi fl qa f) (b + 19) = some (nI 30) := wr_len (K_19 b) (by decide)
theorem A_19 {i : Int32} (hi : vp_in i 30) : ldA 0 (wr (SK b) ia fi fl qa f) (b + 19) i = some (ia (b + 19) i.toNatClampNeg) := wr_A (K_19 b) (by decide) hi
theorem An_19 {i : Nat} (hi : i < 30) : ldA 0 (wr (SK b) ia fi fl qa f) (b + 19) (nI i) = some (ia (b + 19) i) := by rw [A_19 (vp_in_nI hi (by decide)), nI_clamp (by omega)]
theorem sA_19 {i x : Int32} (hi : vp_in i 30) : stA 0 (wr (SK b) ia fi fl qa f) (b + 19) i x = some (wr (SK b) (u2 ia (b + 19) i.toNatClampNeg x) fi fl qa f) := wr_sA (K_19 b) (by decide) hi
theorem sAn_19 {i : Nat} {x : Int32} (hi : i < 30) : stA 0 (wr (SK b) ia fi fl qa f) (b + 19) (nI i) x = some (wr (SK b) (u2 ia (b + 19) i x) fi fl qa f) := by rw [sA_19 (vp_in_nI hi (by decide)), nI_clamp (by omega)]
theorem ck_20 : ckO (wr (SK b) ia fi fl qa f) (b + 20) 5 = some () := wr_ck (K_20 b)
theorem R_20_0 : ldR (wr (SK b) ia fi fl qa f) (b + 20) 5 0 = some (b + 21) := wr_R (K_20 b) rfl
theorem R_20_1 : ldR (wr (SK b) ia fi fl qa f) (b + 20) 5 1 = some (b + 22) := wr_R (K_20 b) rfl
theorem R_20_2 : ldR (wr (SK b) ia fi fl qa f) (b + 20) 5 2 = some (b + 33) := wr_R (K_20 b) rfl
theorem R_20_3 : ldR (wr (SK b) ia fi fl qa f) (b + 20) 5 3 = some (b + 39) := wr_R (K_20 b) rfl
theorem R_20_4 : ldR (wr (SK b) ia fi fl qa f) (b + 20) 5 4 = some (b + 40) := wr_R (K_20 b) rfl
theorem R_20_5 : ldR (wr (SK b) ia fi fl qa f) (b + 20) 5 5 = some (b + 42) := wr_R (K_20 b) rfl
theorem R_20_6 : ldR (wr (SK b) ia fi fl qa f) (b + 20) 5 6 = some (b + 44) := wr_R (K_20 b) rfl
theorem R_20_7 : ldR (wr (SK b) ia fi fl qa f) (b + 20) 5 7 = some (b + 46) := wr_R (K_20 b) rfl
theorem R_20_8 : ldR (wr (SK b) ia fi fl qa f) (b + 20) 5 8 = some (b + 47) := wr_R (K_20 b) rfl
theorem R_20_9 : ldR (wr (SK b) ia fi fl qa f) (b + 20) 5 9 = some (b + 51) := wr_R (K_20 b) rfl
theorem ck_21 : ckO (wr (SK b) ia fi fl qa f) (b + 21) 6 = some () := wr_ck (K_21 b)
theorem R_21_0 : ldR (wr (SK b) ia fi fl qa f) (b + 21) 6 0 = some (b + 22) := wr_R (K_21 b) rfl
theorem R_21_1 : ldR (wr (SK b) ia fi fl qa f) (b + 21) 6 1 = some (b + 29) := wr_R (K_21 b) rfl
theorem R_21_2 : ldR (wr (SK b) ia fi fl qa f) (b + 21) 6 2 = some (b + 30) := wr_R (K_21 b) rfl
theorem R_21_3 : ldR (wr (SK b) ia fi fl qa f) (b + 21) 6 3 = some (b + 31) := wr_R (K_21 b) rfl
theorem R_21_4 : ldR (wr (SK b) ia fi fl qa f) (b + 21) 6 4 = some (b + 32) := wr_R (K_21 b) rfl
theorem ck_22 : ckO (wr (SK b) ia fi fl qa f) (b + 22) 4 = some () := wr_ck (K_22 b)
theorem I_22_0 : ldI (wr (SK b) ia fi fl qa f) (b + 22) 4 0 = some (fi (b + 22) 0) := wr_I (K_22 b) rfl
theorem sI_22_0 {x : Int32} : stF (wr (SK b) ia fi fl qa f) (b + 22) 4 0 (.int x) = some (wr (SK b) ia (u2 fi (b + 22) 0 x) fl qa f) := wr_sI (K_22 b) rfl x
theorem R_22_1 : ldR (wr (SK b) ia fi fl qa f) (b + 22) 4 1 = some (b + 23) := wr_R (K_22 b) rfl
theorem R_22_2 : ldR (wr (SK b) ia fi fl qa f) (b + 22) 4 2 = some (b + 24) := wr_R (K_22 b) rfl
theorem R_22_3 : ldR (wr (SK b) ia fi fl qa f) (b + 22) 4 3 = some (b + 25) := wr_R (K_22 b) rfl
theorem R_22_4 : ldR (wr (SK b) ia fi fl qa f) (b + 22) 4 4 = some (b + 26) := wr_R (K_22 b) rfl
theorem I_22_5 : ldI (wr (SK b) ia fi fl qa f) (b + 22) 4 5 = some (fi (b + 22) 5) := wr_I (K_22 b) rfl
theorem sI_22_5 {x : Int32} : stF (wr (SK b) ia fi fl qa f) (b + 22) 4 5 (.int x) = some (wr (SK b) ia (u2 fi (b + 22) 5 x) fl qa f) := wr_sI (K_22 b) rfl x
theorem R_22_6 : ldR (wr (SK b) ia fi fl qa f) (b + 22) 4 6 = some (b + 27) := wr_R (K_22 b) rfl
theorem R_22_7 : ldR (wr (SK b) ia fi fl qa f) (b + 22) 4 7 = some (b + 28) := wr_R (K_22 b) rfl
theorem L_23 : lenA (wr (SK b) ia fi fl qa f) (b + 23) = some (nI 151) := wr_len (K_23 b) (by decide)
theorem A_23 {i : Int32} (hi : vp_in i 151) : ldA 0 (wr (SK b) ia fi fl qa f) (b + 23) i = some (ia (b + 23) i.toNatClampNeg) := wr_A (K_23 b) (by decide) hi
theorem An_23 {i : Nat} (hi : i < 151) : ldA 0 (wr (SK b) ia fi fl qa f) (b + 23) (nI i) = some (ia (b + 23) i) := by rw [A_23 (vp_in_nI hi (by decide)), nI_clamp (by omega)]
theorem sA_23 {i x : Int32} (hi : vp_in i 151) : stA 0 (wr (SK b) ia fi fl qa f) (b + 23) i x = some (wr (SK b) (u2 ia (b + 23) i.toNatClampNeg x) fi fl qa f) := wr_sA (K_23 b) (by decide) hi
theorem sAn_23 {i : Nat} {x : Int32} (hi : i < 151) : stA 0 (wr (SK b) ia fi fl qa f) (b + 23) (nI i) x = some (wr (SK b) (u2 ia (b + 23) i x) fi fl qa f) := by rw [sA_23 (vp_in_nI hi (by decide)), nI_clamp (by omega)]
theorem L_24 : lenA (wr (SK b) ia fi fl qa f) (b + 24) = some (nI 151) := wr_len (K_24 b) (by decide)
theorem A_24 {i : Int32} (hi : vp_in i 151) : ldA 0 (wr (SK b) ia fi fl qa f) (b + 24) i = some (ia (b + 24) i.toNatClampNeg) := wr_A (K_24 b) (by decide) hi
theorem An_24 {i : Nat} (hi : i < 151) : ldA 0 (wr (SK b) ia fi fl qa f) (b + 24) (nI i) = some (ia (b + 24) i) := by rw [A_24 (vp_in_nI hi (by decide)), nI_clamp (by omega)]
theorem sA_24 {i x : Int32} (hi : vp_in i 151) : stA 0 (wr (SK b) ia fi fl qa f) (b + 24) i x = some (wr (SK b) (u2 ia (b + 24) i.toNatClampNeg x) fi fl qa f) := wr_sA (K_24 b) (by decide) hi
theorem sAn_24 {i : Nat} {x : Int32} (hi : i < 151) : stA 0 (wr (SK b) ia fi fl qa f) (b + 24) (nI i) x = some (wr (SK b) (u2 ia (b + 24) i x) fi fl qa f) := by rw [sA_24 (vp_in_nI hi (by decide)), nI_clamp (by omega)]
theorem L_25 : lenA (wr (SK b) ia fi fl qa f) (b + 25) = some (nI 151) := wr_len (K_25 b) (by decide)
theorem A_25 {i : Int32} (hi : vp_in i 151) : ldA 0 (wr (SK b) ia fi fl qa f) (b + 25) i = some (ia (b + 25) i.toNatClampNeg) := wr_A (K_25 b) (by decide) hi
theorem An_25 {i : Nat} (hi : i < 151) : ldA 0 (wr (SK b) ia fi fl qa f) (b + 25) (nI i) = some (ia (b + 25) i) := by rw [A_25 (vp_in_nI hi (by decide)), nI_clamp (by omega)]
theorem sA_25 {i x : Int32} (hi : vp_in i 151) : stA 0 (wr (SK b) ia fi fl qa f) (b + 25) i x = some (wr (SK b) (u2 ia (b + 25) i.toNatClampNeg x) fi fl qa f) := wr_sA (K_25 b) (by decide) hi
theorem sAn_25 {i : Nat} {x : Int32} (hi : i < 151) : stA 0 (wr (SK b) ia fi fl qa f) (b + 25) (nI i) x = some (wr (SK b) (u2 ia (b + 25) i x) fi fl qa f) := by rw [sA_25 (vp_in_nI hi (by decide)), nI_clamp (by omega)]
theorem L_26 : lenA (wr (SK b) ia fi fl qa f) (b + 26) = some (nI 5) := wr_len (K_26 b) (by decide)
theorem A_26 {i : Int32} (hi : vp_in i 5) : ldA 0 (wr (SK b) ia fi fl qa f) (b + 26) i = some (ia (b + 26) i.toNatClampNeg) := wr_A (K_26 b) (by decide) hi
theorem An_26 {i : Nat} (hi : i < 5) : ldA 0 (wr (SK b) ia fi fl qa f) (b + 26) (nI i) = some (ia (b + 26) i) := by rw [A_26 (vp_in_nI hi (by decide)), nI_clamp (by omega)]
theorem sA_26 {i x : Int32} (hi : vp_in i 5) : stA 0 (wr (SK b) ia fi fl qa f) (b + 26) i x = some (wr (SK b) (u2 ia (b + 26) i.toNatClampNeg x) fi fl qa f) := wr_sA (K_26 b) (by decide) hi
theorem sAn_26 {i : Nat} {x : Int32} (hi : i < 5) : stA 0 (wr (SK b) ia fi fl qa f) (b + 26) (nI i) x = some (wr (SK b) (u2 ia (b + 26) i x) fi fl qa f) := by rw [sA_26 (vp_in_nI hi (by decide)), nI_clamp (by omega)]
theorem L_27 : lenA (wr (SK b) ia fi fl qa f) (b + 27) = some (nI 30) := wr_len (K_27 b) (by decide)
theorem A_27 {i : Int32} (hi : vp_in i 30) : ldA 0 (wr (SK b) ia fi fl qa f) (b + 27) i = some (ia (b + 27) i.toNatClampNeg) := wr_A (K_27 b) (by decide) hi
theorem An_27 {i : Nat} (hi : i < 30) : ldA 0 (wr (SK b) ia fi fl qa f) (b + 27) (nI i) = some (ia (b + 27) i) := by rw [A_27 (vp_in_nI hi (by decide)), nI_clamp (by omega)]
theorem sA_27 {i x : Int32} (hi : vp_in i 30) : stA 0 (wr (SK b) ia fi fl qa f) (b + 27) i x = some (wr (SK b) (u2 ia (b + 27) i.toNatClampNeg x) fi fl qa f) := wr_sA (K_27 b) (by decide) hi
theorem sAn_27 {i : Nat} {x : Int32} (hi : i < 30) : stA 0 (wr (SK b) ia fi fl qa f) (b + 27) (nI i) x = some (wr (SK b) (u2 ia (b + 27) i x) fi fl qa f) := by rw [sA_27 (vp_in_nI hi (by decide)), nI_clamp (by omega)]
theorem L_28 : lenA (wr (SK b) ia fi fl qa f) (b + 28) = some (nI 151) := wr_len (K_28 b) (by decide)
theorem A_28 {i : Int32} (hi : vp_in i 151) : ldA 0 (wr (SK b) ia fi fl qa f) (b + 28) i = some (ia (b + 28) i.toNatClampNeg) := wr_A (K_28 b) (by decide) hi
theorem An_28 {i : Nat} (hi : i < 151) : ldA 0 (wr (SK b) ia fi fl qa f) (b + 28) (nI i) = some (ia (b + 28) i) := by rw [A_28 (vp_in_nI hi (by decide)), nI_clamp (by omega)]
theorem sA_28 {i x : Int32} (hi : vp_in i 151) : stA 0 (wr (SK b) ia fi fl qa f) (b + 28) i x = some (wr (SK b) (u2 ia (b + 28) i.toNatClampNeg x) fi fl qa f) := wr_sA (K_28 b) (by decide) hi
theorem sAn_28 {i : Nat} {x : Int32} (hi : i < 151) : stA 0 (wr (SK b) ia fi fl qa f) (b + 28) (nI i) x = some (wr (SK b) (u2 ia (b + 28) i x) fi fl qa f) := by rw [sA_28 (vp_in_nI hi (by decide)), nI_clamp (by omega)]
theorem L_29 : lenA (wr (SK b) ia fi fl qa f) (b + 29) = some (nI 151) := wr_len (K_29 b) (by decide)
theorem A_29 {i : Int32} (hi : vp_in i 151) : ldA 0 (wr (SK b) ia fi fl qa f) (b + 29) i = some (ia (b + 29) i.toNatClampNeg) := wr_A (K_29 b) (by decide) hi
theorem An_29 {i : Nat} (hi : i < 151) : ldA 0 (wr (SK b) ia fi fl qa f) (b + 29) (nI i) = some (ia (b + 29) i) := by rw [A_29 (vp_in_nI hi (by decide)), nI_clamp (by omega)]
theorem sA_29 {i x : Int32} (hi : vp_in i 151) : stA 0 (wr (SK b) ia fi fl qa f) (b + 29) i x = some (wr (SK b) (u2 ia (b + 29) i.toNatClampNeg x) fi fl qa f) := wr_sA (K_29 b) (by decide) hi
theorem sAn_29 {i : Nat} {x : Int32} (hi : i < 151) : stA 0 (wr (SK b) ia fi fl qa f) (b + 29) (nI i) x = some (wr (SK b) (u2 ia (b + 29) i x) fi fl qa f) := by rw [sA_29 (vp_in_nI hi (by decide)), nI_clamp (by omega)]
theorem L_30 : lenA (wr (SK b) ia fi fl qa f) (b + 30) = some (nI 151) := wr_len (K_30 b) (by decide)
theorem A_30 {i : Int32} (hi : vp_in i 151) : ldA 0 (wr (SK b) ia fi fl qa f) (b + 30) i = some (ia (b + 30) i.toNatClampNeg) := wr_A (K_30 b) (by decide) hi
theorem An_30 {i : Nat} (hi : i < 151) : ldA 0 (wr (SK b) ia fi fl qa f) (b + 30) (nI i) = some (ia (b + 30) i) := by rw [A_30 (vp_in_nI hi (by decide)), nI_clamp (by omega)]
theorem sA_30 {i x : Int32} (hi : vp_in i 151) : stA 0 (wr (SK b) ia fi fl qa f) (b + 30) i x = some (wr (SK b) (u2 ia (b + 30) i.toNatClampNeg x) fi fl qa f) := wr_sA (K_30 b) (by decide) hi
theorem sAn_30 {i : Nat} {x : Int32} (hi : i < 151) : stA 0 (wr (SK b) ia fi fl qa f) (b + 30) (nI i) x = some (wr (SK b) (u2 ia (b + 30) i x) fi fl qa f) := by rw [sA_30 (vp_in_nI hi (by decide)), nI_clamp (by omega)]
theorem L_31 : lenA (wr (SK b) ia fi fl qa f) (b + 31) = some (nI 151) := wr_len (K_31 b) (by decide)
theorem A_31 {i : Int32} (hi : vp_in i 151) : ldA 0 (wr (SK b) ia fi fl qa f) (b + 31) i = some (ia (b + 31) i.toNatClampNeg) := wr_A (K_31 b) (by decide) hi
theorem An_31 {i : Nat} (hi : i < 151) : ldA 0 (wr (SK b) ia fi fl qa f) (b + 31) (nI i) = some (ia (b + 31) i) := by rw [A_31 (vp_in_nI hi (by decide)), nI_clamp (by omega)]
theorem sA_31 {i x : Int32} (hi : vp_in i 151) : stA 0 (wr (SK b) ia fi fl qa f) (b + 31) i x = some (wr (SK b) (u2 ia (b + 31) i.toNatClampNeg x) fi fl qa f) := wr_sA (K_31 b) (by decide) hi
theorem sAn_31 {i : Nat} {x : Int32} (hi : i < 151) : stA 0 (wr (SK b) ia fi fl qa f) (b + 31) (nI i) x = some (wr (SK b) (u2 ia (b + 31) i x) fi fl qa f) := by rw [sA_31 (vp_in_nI hi (by decide)), nI_clamp (by omega)]
theorem L_32 : lenA (wr (SK b) ia fi fl qa f) (b + 32) = some (nI 151) := wr_len (K_32 b) (by decide)
theorem A_32 {i : Int32} (hi : vp_in i 151) : ldA 0 (wr (SK b) ia fi fl qa f) (b + 32) i = some (ia (b + 32) i.toNatClampNeg) := wr_A (K_32 b) (by decide) hi
theorem An_32 {i : Nat} (hi : i < 151) : ldA 0 (wr (SK b) ia fi fl qa f) (b + 32) (nI i) = some (ia (b + 32) i) := by rw [A_32 (vp_in_nI hi (by decide)), nI_clamp (by omega)]
theorem sA_32 {i x : Int32} (hi : vp_in i 151) : stA 0 (wr (SK b) ia fi fl qa f) (b + 32) i x = some (wr (SK b) (u2 ia (b + 32) i.toNatClampNeg x) fi fl qa f) := wr_sA (K_32 b) (by decide) hi
theorem sAn_32 {i : Nat} {x : Int32} (hi : i < 151) : stA 0 (wr (SK b) ia fi fl qa f) (b + 32) (nI i) x = some (wr (SK b) (u2 ia (b + 32) i x) fi fl qa f) := by rw [sA_32 (vp_in_nI hi (by decide)), nI_clamp (by omega)]
theorem ck_33 : ckO (wr (SK b) ia fi fl qa f) (b + 33) 2 = some () := wr_ck (K_33 b)
theorem I_33_0 : ldI (wr (SK b) ia fi fl qa f) (b + 33) 2 0 = some (fi (b + 33) 0) := wr_I (K_33 b) rfl
theorem sI_33_0 {x : Int32} : stF (wr (SK b) ia fi fl qa f) (b + 33) 2 0 (.int x) = some (wr (SK b) ia (u2 fi (b + 33) 0 x) fl qa f) := wr_sI (K_33 b) rfl x
theorem R_33_1 : ldR (wr (SK b) ia fi fl qa f) (b + 33) 2 1 = some (b + 34) := wr_R (K_33 b) rfl
theorem R_33_2 : ldR (wr (SK b) ia fi fl qa f) (b + 33) 2 2 = some (b + 22) := wr_R (K_33 b) rfl
theorem R_33_3 : ldR (wr (SK b) ia fi fl qa f) (b + 33) 2 3 = some (b + 36) := wr_R (K_33 b) rfl
theorem R_33_4 : ldR (wr (SK b) ia fi fl qa f) (b + 33) 2 4 = some (b + 37) := wr_R (K_33 b) rfl
theorem ck_34 : ckO (wr (SK b) ia fi fl qa f) (b + 34) 3 = some () := wr_ck (K_34 b)
theorem R_34_0 : ldR (wr (SK b) ia fi fl qa f) (b + 34) 3 0 = some (b + 35) := wr_R (K_34 b) rfl
theorem L_35 : lenA (wr (SK b) ia fi fl qa f) (b + 35) = some (nI 3) := wr_len (K_35 b) (by decide)
theorem L_36 : lenA (wr (SK b) ia fi fl qa f) (b + 36) = some (nI 151) := wr_len (K_36 b) (by decide)
theorem A_36 {i : Int32} (hi : vp_in i 151) : ldA 0 (wr (SK b) ia fi fl qa f) (b + 36) i = some (ia (b + 36) i.toNatClampNeg) := wr_A (K_36 b) (by decide) hi
theorem An_36 {i : Nat} (hi : i < 151) : ldA 0 (wr (SK b) ia fi fl qa f) (b + 36) (nI i) = some (ia (b + 36) i) := by rw [A_36 (vp_in_nI hi (by decide)), nI_clamp (by omega)]
theorem sA_36 {i x : Int32} (hi : vp_in i 151) : stA 0 (wr (SK b) ia fi fl qa f) (b + 36) i x = some (wr (SK b) (u2 ia (b + 36) i.toNatClampNeg x) fi fl qa f) := wr_sA (K_36 b) (by decide) hi
theorem sAn_36 {i : Nat} {x : Int32} (hi : i < 151) : stA 0 (wr (SK b) ia fi fl qa f) (b + 36) (nI i) x = some (wr (SK b) (u2 ia (b + 36) i x) fi fl qa f) := by rw [sA_36 (vp_in_nI hi (by decide)), nI_clamp (by omega)]
theorem ck_37 : ckO (wr (SK b) ia fi fl qa f) (b + 37) 3 = some () := wr_ck (K_37 b)
theorem R_37_0 : ldR (wr (SK b) ia fi fl qa f) (b + 37) 3 0 = some (b + 38) := wr_R (K_37 b) rfl
theorem L_38 : lenA (wr (SK b) ia fi fl qa f) (b + 38) = some (nI 453) := wr_len (K_38 b) (by decide)
theorem L_39 : lenA (wr (SK b) ia fi fl qa f) (b + 39) = some (nI 153) := wr_len (K_39 b) (by decide)
theorem A_39 {i : Int32} (hi : vp_in i 153) : ldA 0 (wr (SK b) ia fi fl qa f) (b + 39) i = some (ia (b + 39) i.toNatClampNeg) := wr_A (K_39 b) (by decide) hi
theorem An_39 {i : Nat} (hi : i < 153) : ldA 0 (wr (SK b) ia fi fl qa f) (b + 39) (nI i) = some (ia (b + 39) i) := by rw [A_39 (vp_in_nI hi (by decide)), nI_clamp (by omega)]
theorem sA_39 {i x : Int32} (hi : vp_in i 153) : stA 0 (wr (SK b) ia fi fl qa f) (b + 39) i x = some (wr (SK b) (u2 ia (b + 39) i.toNatClampNeg x) fi fl qa f) := wr_sA (K_39 b) (by decide) hi
theorem sAn_39 {i : Nat} {x : Int32} (hi : i < 153) : stA 0 (wr (SK b) ia fi fl qa f) (b + 39) (nI i) x = some (wr (SK b) (u2 ia (b + 39) i x) fi fl qa f) := by rw [sA_39 (vp_in_nI hi (by decide)), nI_clamp (by omega)]
theorem ck_40 : ckO (wr (SK b) ia fi fl qa f) (b + 40) 3 = some () := wr_ck (K_40 b)
theorem R_40_0 : ldR (wr (SK b) ia fi fl qa f) (b + 40) 3 0 = some (b + 41) := wr_R (K_40 b) rfl
theorem L_41 : lenA (wr (SK b) ia fi fl qa f) (b + 41) = some (nI 459) := wr_len (K_41 b) (by decide)
theorem ck_42 : ckO (wr (SK b) ia fi fl qa f) (b + 42) 3 = some () := wr_ck (K_42 b)
theorem R_42_0 : ldR (wr (SK b) ia fi fl qa f) (b + 42) 3 0 = some (b + 43) := wr_R (K_42 b) rfl
theorem L_43 : lenA (wr (SK b) ia fi fl qa f) (b + 43) = some (nI 459) := wr_len (K_43 b) (by decide)
theorem ck_44 : ckO (wr (SK b) ia fi fl qa f) (b + 44) 3 = some () := wr_ck (K_44 b)
theorem R_44_0 : ldR (wr (SK b) ia fi fl qa f) (b + 44) 3 0 = some (b + 45) := wr_R (K_44 b) rfl
theorem L_45 : lenA (wr (SK b) ia fi fl qa f) (b + 45) = some (nI 459) := wr_len (K_45 b) (by decide)
theorem L_46 : lenA (wr (SK b) ia fi fl qa f) (b + 46) = some (nI 153) := wr_len (K_46 b) (by decide)
theorem A_46 {i : Int32} (hi : vp_in i 153) : ldA 0 (wr (SK b) ia fi fl qa f) (b + 46) i = some (ia (b + 46) i.toNatClampNeg) := wr_A (K_46 b) (by decide) hi
theorem An_46 {i : Nat} (hi : i < 153) : ldA 0 (wr (SK b) ia fi fl qa f) (b + 46) (nI i) = some (ia (b + 46) i) := by rw [A_46 (vp_in_nI hi (by decide)), nI_clamp (by omega)]
theorem sA_46 {i x : Int32} (hi : vp_in i 153) : stA 0 (wr (SK b) ia fi fl qa f) (b + 46) i x = some (wr (SK b) (u2 ia (b + 46) i.toNatClampNeg x) fi fl qa f) := wr_sA (K_46 b) (by decide) hi
theorem sAn_46 {i : Nat} {x : Int32} (hi : i < 153) : stA 0 (wr (SK b) ia fi fl qa f) (b + 46) (nI i) x = some (wr (SK b) (u2 ia (b + 46) i x) fi fl qa f) := by rw [sA_46 (vp_in_nI hi (by decide)), nI_clamp (by omega)]
theorem ck_47 : ckO (wr (SK b) ia fi fl qa f) (b + 47) 1 = some () := wr_ck (K_47 b)
theorem I_47_0 : ldI (wr (SK b) ia fi fl qa f) (b + 47) 1 0 = some (fi (b + 47) 0) := wr_I (K_47 b) rfl
theorem sI_47_0 {x : Int32} : stF (wr (SK b) ia fi fl qa f) (b + 47) 1 0 (.int x) = some (wr (SK b) ia (u2 fi (b + 47) 0 x) fl qa f) := wr_sI (K_47 b) rfl x
theorem R_47_1 : ldR (wr (SK b) ia fi fl qa f) (b + 47) 1 1 = some (b + 48) := wr_R (K_47 b) rfl
theorem R_47_2 : ldR (wr (SK b) ia fi fl qa f) (b + 47) 1 2 = some (b + 50) := wr_R (K_47 b) rfl
theorem I_47_3 : ldI (wr (SK b) ia fi fl qa f) (b + 47) 1 3 = some (fi (b + 47) 3) := wr_I (K_47 b) rfl
theorem sI_47_3 {x : Int32} : stF (wr (SK b) ia fi fl qa f) (b + 47) 1 3 (.int x) = some (wr (SK b) ia (u2 fi (b + 47) 3 x) fl qa f) := wr_sI (K_47 b) rfl x
theorem ck_48 : ckO (wr (SK b) ia fi fl qa f) (b + 48) 3 = some () := wr_ck (K_48 b)
theorem R_48_0 : ldR (wr (SK b) ia fi fl qa f) (b + 48) 3 0 = some (b + 49) := wr_R (K_48 b) rfl
theorem L_49 : lenA (wr (SK b) ia fi fl qa f) (b + 49) = some (nI 384) := wr_len (K_49 b) (by decide)
theorem L_50 : lenA (wr (SK b) ia fi fl qa f) (b + 50) = some (nI 128) := wr_len (K_50 b) (by decide)
theorem A_50 {i : Int32} (hi : vp_in i 128) : ldA 0 (wr (SK b) ia fi fl qa f) (b + 50) i = some (ia (b + 50) i.toNatClampNeg) := wr_A (K_50 b) (by decide) hi
theorem An_50 {i : Nat} (hi : i < 128) : ldA 0 (wr (SK b) ia fi fl qa f) (b + 50) (nI i) = some (ia (b + 50) i) := by rw [A_50 (vp_in_nI hi (by decide)), nI_clamp (by omega)]
theorem sA_50 {i x : Int32} (hi : vp_in i 128) : stA 0 (wr (SK b) ia fi fl qa f) (b + 50) i x = some (wr (SK b) (u2 ia (b + 50) i.toNatClampNeg x) fi fl qa f) := wr_sA (K_50 b) (by decide) hi
theorem sAn_50 {i : Nat} {x : Int32} (hi : i < 128) : stA 0 (wr (SK b) ia fi fl qa f) (b + 50) (nI i) x = some (wr (SK b) (u2 ia (b + 50) i x) fi fl qa f) := by rw [sA_50 (vp_in_nI hi (by decide)), nI_clamp (by omega)]
theorem ck_51 : ckO (wr (SK b) ia fi fl qa f) (b + 51) 1 = some () := wr_ck (K_51 b)
theorem I_51_0 : ldI (wr (SK b) ia fi fl qa f) (b + 51) 1 0 = some (fi (b + 51) 0) := wr_I (K_51 b) rfl
theorem sI_51_0 {x : Int32} : stF (wr (SK b) ia fi fl qa f) (b + 51) 1 0 (.int x) = some (wr (SK b) ia (u2 fi (b + 51) 0 x) fl qa f) := wr_sI (K_51 b) rfl x
theorem R_51_1 : ldR (wr (SK b) ia fi fl qa f) (b + 51) 1 1 = some (b + 52) := wr_R (K_51 b) rfl
theorem R_51_2 : ldR (wr (SK b) ia fi fl qa f) (b + 51) 1 2 = some (b + 54) := wr_R (K_51 b) rfl
theorem I_51_3 : ldI (wr (SK b) ia fi fl qa f) (b + 51) 1 3 = some (fi (b + 51) 3) := wr_I (K_51 b) rfl
theorem sI_51_3 {x : Int32} : stF (wr (SK b) ia fi fl qa f) (b + 51) 1 3 (.int x) = some (wr (SK b) ia (u2 fi (b + 51) 3 x) fl qa f) := wr_sI (K_51 b) rfl x
theorem ck_52 : ckO (wr (SK b) ia fi fl qa f) (b + 52) 3 = some () := wr_ck (K_52 b)
theorem R_52_0 : ldR (wr (SK b) ia fi fl qa f) (b + 52) 3 0 = some (b + 53) := wr_R (K_52 b) rfl
theorem L_53 : lenA (wr (SK b) ia fi fl qa f) (b + 53) = some (nI 384) := wr_len (K_53 b) (by decide)
theorem L_54 : lenA (wr (SK b) ia fi fl qa f) (b + 54) = some (nI 128) := wr_len (K_54 b) (by decide)
theorem A_54 {i : Int32} (hi : vp_in i 128) : ldA 0 (wr (SK b) ia fi fl qa f) (b + 54) i = some (ia (b + 54) i.toNatClampNeg) := wr_A (K_54 b) (by decide) hi
theorem An_54 {i : Nat} (hi : i < 128) : ldA 0 (wr (SK b) ia fi fl qa f) (b + 54) (nI i) = some (ia (b + 54) i) := by rw [A_54 (vp_in_nI hi (by decide)), nI_clamp (by omega)]
theorem sA_54 {i x : Int32} (hi : vp_in i 128) : stA 0 (wr (SK b) ia fi fl qa f) (b + 54) i x = some (wr (SK b) (u2 ia (b + 54) i.toNatClampNeg x) fi fl qa f) := wr_sA (K_54 b) (by decide) hi
theorem sAn_54 {i : Nat} {x : Int32} (hi : i < 128) : stA 0 (wr (SK b) ia fi fl qa f) (b + 54) (nI i) x = some (wr (SK b) (u2 ia (b + 54) i x) fi fl qa f) := by rw [sA_54 (vp_in_nI hi (by decide)), nI_clamp (by omega)]
theorem ck_83 : ckO (wr (SK b) ia fi fl qa f) (b + 83) 10 = some () := wr_ck (K_83 b)
theorem R_83_0 : ldR (wr (SK b) ia fi fl qa f) (b + 83) 10 0 = some (b + 84) := wr_R (K_83 b) rfl
theorem R_83_1 : ldR (wr (SK b) ia fi fl qa f) (b + 83) 10 1 = some (b + 85) := wr_R (K_83 b) rfl
theorem I_83_2 : ldI (wr (SK b) ia fi fl qa f) (b + 83) 10 2 = some (fi (b + 83) 2) := wr_I (K_83 b) rfl
theorem sI_83_2 {x : Int32} : stF (wr (SK b) ia fi fl qa f) (b + 83) 10 2 (.int x) = some (wr (SK b) ia (u2 fi (b + 83) 2 x) fl qa f) := wr_sI (K_83 b) rfl x
theorem R_83_3 : ldR (wr (SK b) ia fi fl qa f) (b + 83) 10 3 = some (b + 86) := wr_R (K_83 b) rfl
theorem I_83_4 : ldI (wr (SK b) ia fi fl qa f) (b + 83) 10 4 = some (fi (b + 83) 4) := wr_I (K_83 b) rfl
theorem sI_83_4 {x : Int32} : stF (wr (SK b) ia fi fl qa f) (b + 83) 10 4 (.int x) = some (wr (SK b) ia (u2 fi (b + 83) 4 x) fl qa f) := wr_sI (K_83 b) rfl x
theorem R_83_5 : ldR (wr (SK b) ia fi fl qa f) (b + 83) 10 5 = some (b + 87) := wr_R (K_83 b) rfl
theorem R_83_6 : ldR (wr (SK b) ia fi fl qa f) (b + 83) 10 6 = some (b + 88) := wr_R (K_83 b) rfl
theorem I_83_7 : ldI (wr (SK b) ia fi fl qa f) (b + 83) 10 7 = some (fi (b + 83) 7) := wr_I (K_83 b) rfl
theorem sI_83_7 {x : Int32} : stF (wr (SK b) ia fi fl qa f) (b + 83) 10 7 (.int x) = some (wr (SK b) ia (u2 fi (b + 83) 7 x) fl qa f) := wr_sI (K_83 b) rfl x
theorem R_83_8 : ldR (wr (SK b) ia fi fl qa f) (b + 83) 10 8 = some (b + 89) := wr_R (K_83 b) rfl
theorem I_83_9 : ldI (wr (SK b) ia fi fl qa f) (b + 83) 10 9 = some (fi (b + 83) 9) := wr_I (K_83 b) rfl
theorem sI_83_9 {x : Int32} : stF (wr (SK b) ia fi fl qa f) (b + 83) 10 9 (.int x) = some (wr (SK b) ia (u2 fi (b + 83) 9 x) fl qa f) := wr_sI (K_83 b) rfl x
theorem R_83_10 : ldR (wr (SK b) ia fi fl qa f) (b + 83) 10 10 = some (b + 90) := wr_R (K_83 b) rfl
theorem I_83_11 : ldI (wr (SK b) ia fi fl qa f) (b + 83) 10 11 = some (fi (b + 83) 11) := wr_I (K_83 b) rfl
theorem sI_83_11 {x : Int32} : stF (wr (SK b) ia fi fl qa f) (b + 83) 10 11 (.int x) = some (wr (SK b) ia (u2 fi (b + 83) 11 x) fl qa f) := wr_sI (K_83 b) rfl x
theorem R_83_12 : ldR (wr (SK b) ia fi fl qa f) (b + 83) 10 12 = some (b + 91) := wr_R (K_83 b) rfl
theorem I_83_13 : ldI (wr (SK b) ia fi fl qa f) (b + 83) 10 13 = some (fi (b + 83) 13) := wr_I (K_83 b) rfl
theorem sI_83_13 {x : Int32} : stF (wr (SK b) ia fi fl qa f) (b + 83) 10 13 (.int x) = some (wr (SK b) ia (u2 fi (b + 83) 13 x) fl qa f) := wr_sI (K_83 b) rfl x
theorem R_83_14 : ldR (wr (SK b) ia fi fl qa f) (b + 83) 10 14 = some (b + 92) := wr_R (K_83 b) rfl
theorem R_83_15 : ldR (wr (SK b) ia fi fl qa f) (b + 83) 10 15 = some (b + 93) := wr_R (K_83 b) rfl
theorem R_83_16 : ldR (wr (SK b) ia fi fl qa f) (b + 83) 10 16 = some (b + 94) := wr_R (K_83 b) rfl
theorem R_83_17 : ldR (wr (SK b) ia fi fl qa f) (b + 83) 10 17 = some (b + 95) := wr_R (K_83 b) rfl
theorem R_83_18 : ldR (wr (SK b) ia fi fl qa f) (b + 83) 10 18 = some (b + 96) := wr_R (K_83 b) rfl
theorem I_83_19 : ldI (wr (SK b) ia fi fl qa f) (b + 83) 10 19 = some (fi (b + 83) 19) := wr_I (K_83 b) rfl
theorem sI_83_19 {x : Int32} : stF (wr (SK b) ia fi fl qa f) (b + 83) 10 19 (.int x) = some (wr (SK b) ia (u2 fi (b + 83) 19 x) fl qa f) := wr_sI (K_83 b) rfl x
theorem R_83_20 : ldR (wr (SK b) ia fi fl qa f) (b + 83) 10 20 = some (b + 97) := wr_R (K_83 b) rfl
theorem R_83_21 : ldR (wr (SK b) ia fi fl qa f) (b + 83) 10 21 = some (b + 98) := wr_R (K_83 b) rfl
theorem R_83_22 : ldR (wr (SK b) ia fi fl qa f) (b + 83) 10 22 = some (b + 99) := wr_R (K_83 b) rfl
theorem R_83_23 : ldR (wr (SK b) ia fi fl qa f) (b + 83) 10 23 = some (b + 100) := wr_R (K_83 b) rfl
theorem R_83_24 : ldR (wr (SK b) ia fi fl qa f) (b + 83) 10 24 = some (b + 101) := wr_R (K_83 b) rfl
theorem L_84 : lenA (wr (SK b) ia fi fl qa f) (b + 84) = some (nI 172) := wr_len (K_84 b) (by decide)
theorem A_84 {i : Int32} (hi : vp_in i 172) : ldA 0 (wr (SK b) ia fi fl qa f) (b + 84) i = some (ia (b + 84) i.toNatClampNeg) := wr_A (K_84 b) (by decide) hi
theorem An_84 {i : Nat} (hi : i < 172) : ldA 0 (wr (SK b) ia fi fl qa f) (b + 84) (nI i) = some (ia (b + 84) i) := by rw [A_84 (vp_in_nI hi (by decide)), nI_clamp (by omega)]
theorem sA_84 {i x : Int32} (hi : vp_in i 172) : stA 0 (wr (SK b) ia fi fl qa f) (b + 84) i x = some (wr (SK b) (u2 ia (b + 84) i.toNatClampNeg x) fi fl qa f) := wr_sA (K_84 b) (by decide) hi
theorem sAn_84 {i : Nat} {x : Int32} (hi : i < 172) : stA 0 (wr (SK b) ia fi fl qa f) (b + 84) (nI i) x = some (wr (SK b) (u2 ia (b + 84) i x) fi fl qa f) := by rw [sA_84 (vp_in_nI hi (by decide)), nI_clamp (by omega)]
theorem L_85 : lenA (wr (SK b) ia fi fl qa f) (b + 85) = some (nI 688) := wr_len (K_85 b) (by decide)
theorem A_85 {i : Int32} (hi : vp_in i 688) : ldA 0 (wr (SK b) ia fi fl qa f) (b + 85) i = some (ia (b + 85) i.toNatClampNeg) := wr_A (K_85 b) (by decide) hi
theorem An_85 {i : Nat} (hi : i < 688) : ldA 0 (wr (SK b) ia fi fl qa f) (b + 85) (nI i) = some (ia (b + 85) i) := by rw [A_85 (vp_in_nI hi (by decide)), nI_clamp (by omega)]
theorem sA_85 {i x : Int32} (hi : vp_in i 688) : stA 0 (wr (SK b) ia fi fl qa f) (b + 85) i x = some (wr (SK b) (u2 ia (b + 85) i.toNatClampNeg x) fi fl qa f) := wr_sA (K_85 b) (by decide) hi
theorem sAn_85 {i : Nat} {x : Int32} (hi : i < 688) : stA 0 (wr (SK b) ia fi fl qa f) (b + 85) (nI i) x = some (wr (SK b) (u2 ia (b + 85) i x) fi fl qa f) := by rw [sA_85 (vp_in_nI hi (by decide)), nI_clamp (by omega)]
theorem L_86 : lenA (wr (SK b) ia fi fl qa f) (b + 86) = some (nI 172) := wr_len (K_86 b) (by decide)
theorem A_86 {i : Int32} (hi : vp_in i 172) : ldA 0 (wr (SK b) ia fi fl qa f) (b + 86) i = some (ia (b + 86) i.toNatClampNeg) := wr_A (K_86 b) (by decide) hi
theorem An_86 {i : Nat} (hi : i < 172) : ldA 0 (wr (SK b) ia fi fl qa f) (b + 86) (nI i) = some (ia (b + 86) i) := by rw [A_86 (vp_in_nI hi (by decide)), nI_clamp (by omega)]
theorem sA_86 {i x : Int32} (hi : vp_in i 172) : stA 0 (wr (SK b) ia fi fl qa f) (b + 86) i x = some (wr (SK b) (u2 ia (b + 86) i.toNatClampNeg x) fi fl qa f) := wr_sA (K_86 b) (by decide) hi
theorem sAn_86 {i : Nat} {x : Int32} (hi : i < 172) : stA 0 (wr (SK b) ia fi fl qa f) (b + 86) (nI i) x = some (wr (SK b) (u2 ia (b + 86) i x) fi fl qa f) := by rw [sA_86 (vp_in_nI hi (by decide)), nI_clamp (by omega)]
theorem L_87 : lenA (wr (SK b) ia fi fl qa f) (b + 87) = some (nI 8) := wr_len (K_87 b) (by decide)
theorem A_87 {i : Int32} (hi : vp_in i 8) : ldA 0 (wr (SK b) ia fi fl qa f) (b + 87) i = some (ia (b + 87) i.toNatClampNeg) := wr_A (K_87 b) (by decide) hi
theorem An_87 {i : Nat} (hi : i < 8) : ldA 0 (wr (SK b) ia fi fl qa f) (b + 87) (nI i) = some (ia (b + 87) i) := by rw [A_87 (vp_in_nI hi (by decide)), nI_clamp (by omega)]
theorem sA_87 {i x : Int32} (hi : vp_in i 8) : stA 0 (wr (SK b) ia fi fl qa f) (b + 87) i x = some (wr (SK b) (u2 ia (b + 87) i.toNatClampNeg x) fi fl qa f) := wr_sA (K_87 b) (by decide) hi
theorem sAn_87 {i : Nat} {x : Int32} (hi : i < 8) : stA 0 (wr (SK b) ia fi fl qa f) (b + 87) (nI i) x = some (wr (SK b) (u2 ia (b + 87) i x) fi fl qa f) := by rw [sA_87 (vp_in_nI hi (by decide)), nI_clamp (by omega)]
theorem L_88 : lenA (wr (SK b) ia fi fl qa f) (b + 88) = some (nI 8) := wr_len (K_88 b) (by decide)
theorem A_88 {i : Int32} (hi : vp_in i 8) : ldA 0 (wr (SK b) ia fi fl qa f) (b + 88) i = some (ia (b + 88) i.toNatClampNeg) := wr_A (K_88 b) (by decide) hi
theorem An_88 {i : Nat} (hi : i < 8) : ldA 0 (wr (SK b) ia fi fl qa f) (b + 88) (nI i) = some (ia (b + 88) i) := by rw [A_88 (vp_in_nI hi (by decide)), nI_clamp (by omega)]
theorem sA_88 {i x : Int32} (hi : vp_in i 8) : stA 0 (wr (SK b) ia fi fl qa f) (b + 88) i x = some (wr (SK b) (u2 ia (b + 88) i.toNatClampNeg x) fi fl qa f) := wr_sA (K_88 b) (by decide) hi
theorem sAn_88 {i : Nat} {x : Int32} (hi : i < 8) : stA 0 (wr (SK b) ia fi fl qa f) (b + 88) (nI i) x = some (wr (SK b) (u2 ia (b + 88) i x) fi fl qa f) := by rw [sA_88 (vp_in_nI hi (by decide)), nI_clamp (by omega)]
theorem L_89 : lenA (wr (SK b) ia fi fl qa f) (b + 89) = some (nI 30) := wr_len (K_89 b) (by decide)
theorem A_89 {i : Int32} (hi : vp_in i 30) : ldA 1 (wr (SK b) ia fi fl qa f) (b + 89) i = some (ia (b + 89) i.toNatClampNeg) := wr_A (K_89 b) (by decide) hi
theorem An_89 {i : Nat} (hi : i < 30) : ldA 1 (wr (SK b) ia fi fl qa f) (b + 89) (nI i) = some (ia (b + 89) i) := by rw [A_89 (vp_in_nI hi (by decide)), nI_clamp (by omega)]
theorem sA_89 {i x : Int32} (hi : vp_in i 30) : stA 1 (wr (SK b) ia fi fl qa f) (b + 89) i x = some (wr (SK b) (u2 ia (b + 89) i.toNatClampNeg x) fi fl qa f) := wr_sA (K_89 b) (by decide) hi
theorem sAn_89 {i : Nat} {x : Int32} (hi : i < 30) : stA 1 (wr (SK b) ia fi fl qa f) (b + 89) (nI i) x = some (wr (SK b) (u2 ia (b + 89) i x) fi fl qa f) := by rw [sA_89 (vp_in_nI hi (by decide)), nI_clamp (by omega)]
theorem L_90 : lenA (wr (SK b) ia fi fl qa f) (b + 90) = some (nI 31) := wr_len (K_90 b) (by decide)
theorem A_90 {i : Int32} (hi : vp_in i 31) : ldA 0 (wr (SK b) ia fi fl qa f) (b + 90) i = some (ia (b + 90) i.toNatClampNeg) := wr_A (K_90 b) (by decide) hi
theorem An_90 {i : Nat} (hi : i < 31) : ldA 0 (wr (SK b) ia fi fl qa f) (b + 90) (nI i) = some (ia (b + 90) i) := by rw [A_90 (vp_in_nI hi (by decide)), nI_clamp (by omega)]
theorem sA_90 {i x : Int32} (hi : vp_in i 31) : stA 0 (wr (SK b) ia fi fl qa f) (b + 90) i x = some (wr (SK b) (u2 ia (b + 90) i.toNatClampNeg x) fi fl qa f) := wr_sA (K_90 b) (by decide) hi
theorem sAn_90 {i : Nat} {x : Int32} (hi : i < 31) : stA 0 (wr (SK b) ia fi fl qa f) (b + 90) (nI i) x = some (wr (SK b) (u2 ia (b + 90) i x) fi fl qa f) := by rw [sA_90 (vp_in_nI hi (by decide)), nI_clamp (by omega)]
theorem L_91 : lenA (wr (SK b) ia fi fl qa f) (b + 91) = some (nI 31) := wr_len (K_91 b) (by decide)
theorem A_91 {i : Int32} (hi : vp_in i 31) : ldA 0 (wr (SK b) ia fi fl qa f) (b + 91) i = some (ia (b + 91) i.toNatClampNeg) := wr_A (K_91 b) (by decide) hi
theorem An_91 {i : Nat} (hi : i < 31) : ldA 0 (wr (SK b) ia fi fl qa f) (b + 91) (nI i) = some (ia (b + 91) i) := by rw [A_91 (vp_in_nI hi (by decide)), nI_clamp (by omega)]
theorem sA_91 {i x : Int32} (hi : vp_in i 31) : stA 0 (wr (SK b) ia fi fl qa f) (b + 91) i x = some (wr (SK b) (u2 ia (b + 91) i.toNatClampNeg x) fi fl qa f) := wr_sA (K_91 b) (by decide) hi
theorem sAn_91 {i : Nat} {x : Int32} (hi : i < 31) : stA 0 (wr (SK b) ia fi fl qa f) (b + 91) (nI i) x = some (wr (SK b) (u2 ia (b + 91) i x) fi fl qa f) := by rw [sA_91 (vp_in_nI hi (by decide)), nI_clamp (by omega)]
theorem L_92 : lenA (wr (SK b) ia fi fl qa f) (b + 92) = some (nI 32) := wr_len (K_92 b) (by decide)
theorem A_92 {i : Int32} (hi : vp_in i 32) : ldA 0 (wr (SK b) ia fi fl qa f) (b + 92) i = some (ia (b + 92) i.toNatClampNeg) := wr_A (K_92 b) (by decide) hi
theorem An_92 {i : Nat} (hi : i < 32) : ldA 0 (wr (SK b) ia fi fl qa f) (b + 92) (nI i) = some (ia (b + 92) i) := by rw [A_92 (vp_in_nI hi (by decide)), nI_clamp (by omega)]
theorem sA_92 {i x : Int32} (hi : vp_in i 32) : stA 0 (wr (SK b) ia fi fl qa f) (b + 92) i x = some (wr (SK b) (u2 ia (b + 92) i.toNatClampNeg x) fi fl qa f) := wr_sA (K_92 b) (by decide) hi
theorem sAn_92 {i : Nat} {x : Int32} (hi : i < 32) : stA 0 (wr (SK b) ia fi fl qa f) (b + 92) (nI i) x = some (wr (SK b) (u2 ia (b + 92) i x) fi fl qa f) := by rw [sA_92 (vp_in_nI hi (by decide)), nI_clamp (by omega)]
theorem L_93 : lenA (wr (SK b) ia fi fl qa f) (b + 93) = some (nI 1000) := wr_len (K_93 b) (by decide)
theorem A_93 {i : Int32} (hi : vp_in i 1000) : ldA 0 (wr (SK b) ia fi fl qa f) (b + 93) i = some (ia (b + 93) i.toNatClampNeg) := wr_A (K_93 b) (by decide) hi
theorem An_93 {i : Nat} (hi : i < 1000) : ldA 0 (wr (SK b) ia fi fl qa f) (b + 93) (nI i) = some (ia (b + 93) i) := by rw [A_93 (vp_in_nI hi (by decide)), nI_clamp (by omega)]
theorem sA_93 {i x : Int32} (hi : vp_in i 1000) : stA 0 (wr (SK b) ia fi fl qa f) (b + 93) i x = some (wr (SK b) (u2 ia (b + 93) i.toNatClampNeg x) fi fl qa f) := wr_sA (K_93 b) (by decide) hi
theorem sAn_93 {i : Nat} {x : Int32} (hi : i < 1000) : stA 0 (wr (SK b) ia fi fl qa f) (b + 93) (nI i) x = some (wr (SK b) (u2 ia (b + 93) i x) fi fl qa f) := by rw [sA_93 (vp_in_nI hi (by decide)), nI_clamp (by omega)]
theorem L_94 : lenA (wr (SK b) ia fi fl qa f) (b + 94) = some (nI 1000) := wr_len (K_94 b) (by decide)
theorem A_94 {i : Int32} (hi : vp_in i 1000) : ldA 0 (wr (SK b) ia fi fl qa f) (b + 94) i = some (ia (b + 94) i.toNatClampNeg) := wr_A (K_94 b) (by decide) hi
theorem An_94 {i : Nat} (hi : i < 1000) : ldA 0 (wr (SK b) ia fi fl qa f) (b + 94) (nI i) = some (ia (b + 94) i) := by rw [A_94 (vp_in_nI hi (by decide)), nI_clamp (by omega)]
theorem sA_94 {i x : Int32} (hi : vp_in i 1000) : stA 0 (wr (SK b) ia fi fl qa f) (b + 94) i x = some (wr (SK b) (u2 ia (b + 94) i.toNatClampNeg x) fi fl qa f) := wr_sA (K_94 b) (by decide) hi
theorem sAn_94 {i : Nat} {x : Int32} (hi : i < 1000) : stA 0 (wr (SK b) ia fi fl qa f) (b + 94) (nI i) x = some (wr (SK b) (u2 ia (b + 94) i x) fi fl qa f) := by rw [sA_94 (vp_in_nI hi (by decide)), nI_clamp (by omega)]
theorem L_95 : lenA (wr (SK b) ia fi fl qa f) (b + 95) = some (nI 1000) := wr_len (K_95 b) (by decide)
theorem A_95 {i : Int32} (hi : vp_in i 1000) : ldA 0 (wr (SK b) ia fi fl qa f) (b + 95) i = some (ia (b + 95) i.toNatClampNeg) := wr_A (K_95 b) (by decide) hi
theorem An_95 {i : Nat} (hi : i < 1000) : ldA 0 (wr (SK b) ia fi fl qa f) (b + 95) (nI i) = some (ia (b + 95) i) := by rw [A_95 (vp_in_nI hi (by decide)), nI_clamp (by omega)]
theorem sA_95 {i x : Int32} (hi : vp_in i 1000) : stA 0 (wr (SK b) ia fi fl qa f) (b + 95) i x = some (wr (SK b) (u2 ia (b + 95) i.toNatClampNeg x) fi fl qa f) := wr_sA (K_95 b) (by decide) hi
theorem sAn_95 {i : Nat} {x : Int32} (hi : i < 1000) : stA 0 (wr (SK b) ia fi fl qa f) (b + 95) (nI i) x = some (wr (SK b) (u2 ia (b + 95) i x) fi fl qa f) := by rw [sA_95 (vp_in_nI hi (by decide)), nI_clamp (by omega)]
theorem L_96 : lenA (wr (SK b) ia fi fl qa f) (b + 96) = some (nI 91000) := wr_len (K_96 b) (by decide)
theorem A_96 {i : Int32} (hi : vp_in i 91000) : ldA 0 (wr (SK b) ia fi fl qa f) (b + 96) i = some (ia (b + 96) i.toNatClampNeg) := wr_A (K_96 b) (by decide) hi
theorem An_96 {i : Nat} (hi : i < 91000) : ldA 0 (wr (SK b) ia fi fl qa f) (b + 96) (nI i) = some (ia (b + 96) i) := by rw [A_96 (vp_in_nI hi (by decide)), nI_clamp (by omega)]
theorem sA_96 {i x : Int32} (hi : vp_in i 91000) : stA 0 (wr (SK b) ia fi fl qa f) (b + 96) i x = some (wr (SK b) (u2 ia (b + 96) i.toNatClampNeg x) fi fl qa f) := wr_sA (K_96 b) (by decide) hi
theorem sAn_96 {i : Nat} {x : Int32} (hi : i < 91000) : stA 0 (wr (SK b) ia fi fl qa f) (b + 96) (nI i) x = some (wr (SK b) (u2 ia (b + 96) i x) fi fl qa f) := by rw [sA_96 (vp_in_nI hi (by decide)), nI_clamp (by omega)]
theorem L_97 : lenA (wr (SK b) ia fi fl qa f) (b + 97) = some (nI 19200) := wr_len (K_97 b) (by decide)
theorem A_97 {i : Int32} (hi : vp_in i 19200) : ldA 0 (wr (SK b) ia fi fl qa f) (b + 97) i = some (ia (b + 97) i.toNatClampNeg) := wr_A (K_97 b) (by decide) hi
theorem An_97 {i : Nat} (hi : i < 19200) : ldA 0 (wr (SK b) ia fi fl qa f) (b + 97) (nI i) = some (ia (b + 97) i) := by rw [A_97 (vp_in_nI hi (by decide)), nI_clamp (by omega)]
theorem sA_97 {i x : Int32} (hi : vp_in i 19200) : stA 0 (wr (SK b) ia fi fl qa f) (b + 97) i x = some (wr (SK b) (u2 ia (b + 97) i.toNatClampNeg x) fi fl qa f) := wr_sA (K_97 b) (by decide) hi
theorem sAn_97 {i : Nat} {x : Int32} (hi : i < 19200) : stA 0 (wr (SK b) ia fi fl qa f) (b + 97) (nI i) x = some (wr (SK b) (u2 ia (b + 97) i x) fi fl qa f) := by rw [sA_97 (vp_in_nI hi (by decide)), nI_clamp (by omega)]
theorem L_98 : lenA (wr (SK b) ia fi fl qa f) (b + 98) = some (nI 600) := wr_len (K_98 b) (by decide)
theorem A_98 {i : Int32} (hi : vp_in i 600) : ldA 0 (wr (SK b) ia fi fl qa f) (b + 98) i = some (ia (b + 98) i.toNatClampNeg) := wr_A (K_98 b) (by decide) hi
theorem An_98 {i : Nat} (hi : i < 600) : ldA 0 (wr (SK b) ia fi fl qa f) (b + 98) (nI i) = some (ia (b + 98) i) := by rw [A_98 (vp_in_nI hi (by decide)), nI_clamp (by omega)]
theorem sA_98 {i x : Int32} (hi : vp_in i 600) : stA 0 (wr (SK b) ia fi fl qa f) (b + 98) i x = some (wr (SK b) (u2 ia (b + 98) i.toNatClampNeg x) fi fl qa f) := wr_sA (K_98 b) (by decide) hi
theorem sAn_98 {i : Nat} {x : Int32} (hi : i < 600) : stA 0 (wr (SK b) ia fi fl qa f) (b + 98) (nI i) x = some (wr (SK b) (u2 ia (b + 98) i x) fi fl qa f) := by rw [sA_98 (vp_in_nI hi (by decide)), nI_clamp (by omega)]
theorem L_99 : lenA (wr (SK b) ia fi fl qa f) (b + 99) = some (nI 600) := wr_len (K_99 b) (by decide)
theorem A_99 {i : Int32} (hi : vp_in i 600) : ldA 0 (wr (SK b) ia fi fl qa f) (b + 99) i = some (ia (b + 99) i.toNatClampNeg) := wr_A (K_99 b) (by decide) hi
theorem An_99 {i : Nat} (hi : i < 600) : ldA 0 (wr (SK b) ia fi fl qa f) (b + 99) (nI i) = some (ia (b + 99) i) := by rw [A_99 (vp_in_nI hi (by decide)), nI_clamp (by omega)]
theorem sA_99 {i x : Int32} (hi : vp_in i 600) : stA 0 (wr (SK b) ia fi fl qa f) (b + 99) i x = some (wr (SK b) (u2 ia (b + 99) i.toNatClampNeg x) fi fl qa f) := wr_sA (K_99 b) (by decide) hi
theorem sAn_99 {i : Nat} {x : Int32} (hi : i < 600) : stA 0 (wr (SK b) ia fi fl qa f) (b + 99) (nI i) x = some (wr (SK b) (u2 ia (b + 99) i x) fi fl qa f) := by rw [sA_99 (vp_in_nI hi (by decide)), nI_clamp (by omega)]
theorem L_100 : lenA (wr (SK b) ia fi fl qa f) (b + 100) = some (nI 600) := wr_len (K_100 b) (by decide)
theorem A_100 {i : Int32} (hi : vp_in i 600) : ldA 0 (wr (SK b) ia fi fl qa f) (b + 100) i = some (ia (b + 100) i.toNatClampNeg) := wr_A (K_100 b) (by decide) hi
theorem An_100 {i : Nat} (hi : i < 600) : ldA 0 (wr (SK b) ia fi fl qa f) (b + 100) (nI i) = some (ia (b + 100) i) := by rw [A_100 (vp_in_nI hi (by decide)), nI_clamp (by omega)]
theorem sA_100 {i x : Int32} (hi : vp_in i 600) : stA 0 (wr (SK b) ia fi fl qa f) (b + 100) i x = some (wr (SK b) (u2 ia (b + 100) i.toNatClampNeg x) fi fl qa f) := wr_sA (K_100 b) (by decide) hi
theorem sAn_100 {i : Nat} {x : Int32} (hi : i < 600) : stA 0 (wr (SK b) ia fi fl qa f) (b + 100) (nI i) x = some (wr (SK b) (u2 ia (b + 100) i x) fi fl qa f) := by rw [sA_100 (vp_in_nI hi (by decide)), nI_clamp (by omega)]
theorem L_101 : lenA (wr (SK b) ia fi fl qa f) (b + 101) = some (nI 31) := wr_len (K_101 b) (by decide)
theorem A_101 {i : Int32} (hi : vp_in i 31) : ldA 0 (wr (SK b) ia fi fl qa f) (b + 101) i = some (ia (b + 101) i.toNatClampNeg) := wr_A (K_101 b) (by decide) hi
theorem An_101 {i : Nat} (hi : i < 31) : ldA 0 (wr (SK b) ia fi fl qa f) (b + 101) (nI i) = some (ia (b + 101) i) := by rw [A_101 (vp_in_nI hi (by decide)), nI_clamp (by omega)]
theorem sA_101 {i x : Int32} (hi : vp_in i 31) : stA 0 (wr (SK b) ia fi fl qa f) (b + 101) i x = some (wr (SK b) (u2 ia (b + 101) i.toNatClampNeg x) fi fl qa f) := wr_sA (K_101 b) (by decide) hi
theorem sAn_101 {i : Nat} {x : Int32} (hi : i < 31) : stA 0 (wr (SK b) ia fi fl qa f) (b + 101) (nI i) x = some (wr (SK b) (u2 ia (b + 101) i x) fi fl qa f) := by rw [sA_101 (vp_in_nI hi (by decide)), nI_clamp (by omega)]
end LOADS
