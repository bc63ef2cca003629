/-! THE DEPTH'S NUMBERS: tables by lengths, and what is asked of them -/
noncomputable def allB (n : Nat) (f : Nat → Bool) : Bool := Nat.rec true (fun k r => and (f k) r) n
noncomputable def anyB (n : Nat) (f : Nat → Bool) : Bool := Nat.rec false (fun k r => or (f k) r) n
theorem allB_iff {f : Nat → Bool} : ∀ {n : Nat}, allB n f = true ↔ ∀ i, i < n → f i = true
  | 0 => ⟨fun _ i h => absurd h (Nat.not_lt_zero _), fun _ => rfl⟩
  | n + 1 => by
    have e : allB (n + 1) f = (f n && allB n f) := rfl
    rw [e, Bool.and_eq_true, allB_iff (n := n)]
    constructor
    · intro h i hi
      by_cases c : i = n
      · rw [c]; exact h.1
      · exact h.2 i (by omega)
    · intro h
      exact ⟨h n (Nat.lt_succ_self _), fun i hi => h i (by omega)⟩
theorem anyB_iff {f : Nat → Bool} : ∀ {n : Nat}, anyB n f = true ↔ ∃ i, i < n ∧ f i = true
  | 0 => ⟨fun h => absurd (show false = true from h) (by decide), fun ⟨i, h, _⟩ => absurd h (Nat.not_lt_zero _)⟩
  | n + 1 => by
    have e : anyB (n + 1) f = (f n || anyB n f) := rfl
    rw [e, Bool.or_eq_true, anyB_iff (n := n)]
    constructor
    · rintro (h | ⟨i, h1, h2⟩)
      · exact ⟨n, Nat.lt_succ_self _, h⟩
      · exact ⟨i, by omega, h2⟩
    · rintro ⟨i, h1, h2⟩
      by_cases c : i = n
      · rw [c] at h2; exact Or.inl h2
      · exact Or.inr ⟨i, by omega, h2⟩
/-- classes: 0 false, 1 true and no IF, 2 true and an IF -/
def skp (a t : Nat) : Bool := (Nat.beq a 1 && Nat.beq t 2) || (Nat.beq a 2 && Nat.beq t 1)
def tOr (x y : Nat) : Nat := cond (Nat.beq (x + y) 0) 0 1
def tAn (x y : Nat) : Nat := cond (Nat.beq (x * y) 0) 0 1
def sdN (a v : Nat) : Nat := cond (Nat.beq a 1) 0 (1 + v)
/-- numbers of a rest below a row -/
def domB (R : Nat → Nat → Nat → Nat) (m k l n w : Nat) : Bool := Nat.ble l (R m k 0) && (Nat.ble n (R m k 1) && (Nat.ble w (R m k 2) && Nat.ble w (R m k 3)))
/-- what is left of an OR -/
def orB (A : Nat → Nat → Nat → Nat → Nat → Nat) (R : Nat → Nat → Nat → Nat) (pa pl : Bool) (m e a b x y : Nat) : Bool :=
  cond (!pa && (Nat.beq a 1 && Nat.beq b 1))
    (Nat.ble (cond (Nat.beq (tOr x y) 0) (R m e 2) (R m e 0) + R m e 2) (A m e 2 (a + 1 + b) (4 * tOr x y)) && (Nat.ble (1 + cond (Nat.beq (tOr x y) 0) (R m e 2) (R m e 0) + R m e 2) (A m e 2 (a + 1 + b) (4 * tOr x y + 1)) && (Nat.ble (R m e 1 + R m e 2) (A m e 2 (a + 1 + b) (4 * tOr x y + 2)) && Nat.ble (1 + R m e 1 + R m e 2) (A m e 2 (a + 1 + b) (4 * tOr x y + 3)))))
    (cond (!pl && (Nat.beq a 2 && Nat.beq b 2))
      (Nat.ble (cond (Nat.beq (tOr x y) 0) (R m e 2) (1 + R m e 0) + R m e 2) (A m e 2 (a + 1 + b) (4 * tOr x y)) && (Nat.ble (1 + cond (Nat.beq (tOr x y) 0) (R m e 2) (1 + R m e 0) + R m e 2) (A m e 2 (a + 1 + b) (4 * tOr x y + 1)) && (Nat.ble (tOr x y + R m e 1 + R m e 2) (A m e 2 (a + 1 + b) (4 * tOr x y + 2)) && Nat.ble (1 + tOr x y + R m e 1 + R m e 2) (A m e 2 (a + 1 + b) (4 * tOr x y + 3)))))
      (Nat.ble (A m e 2 a (4 * x) + A m e 1 b (4 * y)) (A m e 2 (a + 1 + b) (4 * tOr x y)) && (Nat.ble (1 + A m e 2 a (4 * x + 1) + A m e 1 b (4 * y)) (A m e 2 (a + 1 + b) (4 * tOr x y + 1)) && (Nat.ble (1 + A m e 2 a (4 * x) + A m e 1 b (4 * y + 1)) (A m e 2 (a + 1 + b) (4 * tOr x y + 1)) && (Nat.ble (A m e 2 a (4 * x + 2) + A m e 1 b (4 * y)) (A m e 2 (a + 1 + b) (4 * tOr x y + 2)) && (Nat.ble (A m e 2 a (4 * x) + A m e 1 b (4 * y + 2)) (A m e 2 (a + 1 + b) (4 * tOr x y + 2)) && (Nat.ble (1 + A m e 2 a (4 * x + 3) + A m e 1 b (4 * y)) (A m e 2 (a + 1 + b) (4 * tOr x y + 3)) && Nat.ble (1 + A m e 2 a (4 * x) + A m e 1 b (4 * y + 3)) (A m e 2 (a + 1 + b) (4 * tOr x y + 3)))))))))
/-- the same without truth -/
def or1B (A : Nat → Nat → Nat → Nat → Nat → Nat) (m e a b : Nat) : Bool := Nat.ble (A m e 2 a 12 + A m e 1 b 12) (A m e 2 (a + 1 + b) 12) && (Nat.ble (A m e 2 a 13 + A m e 1 b 12) (A m e 2 (a + 1 + b) 13) && Nat.ble (A m e 2 a 12 + A m e 1 b 13) (A m e 2 (a + 1 + b) 13))
/-- an IF on the left: numbers of its left (n1, S), of its right (g1, G, and as a left itself) and its own place -/
def ifB (R : Nat → Nat → Nat → Nat) (Z : Nat → Nat) (m e x y n1 sx g1 gy y1 y3 : Nat) : Bool :=
  cond (!Nat.beq x 0 && Nat.beq y 0)
    (Nat.ble (R m e 2) (Z 0) && (Nat.ble (R m e 2 + (n1 + g1)) (Z 1) && (Nat.ble (R m e 1) (Z 2) && Nat.ble (R m e 1 + (n1 + g1)) (Z 3))))
    (Nat.ble (1 + R m e 0) (Z 8) && (Nat.ble (1 + sx + y1) (Z 8) && (Nat.ble (1 + R m e 0 + (sx + gy)) (Z 9) && (Nat.ble (1 + sx + y1 + (sx + gy)) (Z 9) && (Nat.ble (1 + R m e 1) (Z 10) && (Nat.ble (1 + sx + y3) (Z 10) && (Nat.ble (1 + R m e 1 + (sx + gy)) (Z 11) && Nat.ble (1 + sx + y3 + (sx + gy)) (Z 11))))))))
def if1B (R : Nat → Nat → Nat → Nat) (Z : Nat → Nat) (m e : Nat) : Bool := Nat.ble (R m e 2) (Z 12) && Nat.ble (R m e 3) (Z 13)
/-- an AND: through a rest of its right -/
noncomputable def anB (A : Nat → Nat → Nat → Nat → Nat → Nat) (R : Nat → Nat → Nat → Nat) (C : Nat → Nat → Nat → Nat) (nr : Nat → Nat) (m e a b x y l n w : Nat) : Bool :=
  anyB (nr (b + 1 + m)) fun k => domB R (b + 1 + m) k l n w && (Nat.ble (A (b + 1 + m) k 1 a (4 * x + 2)) (A m e 1 (a + 1 + b) (4 * tAn x y)) && (Nat.ble (A (b + 1 + m) k 1 a (4 * x + 2)) (A m e 1 (a + 1 + b) (4 * tAn x y + 2)) && (Nat.ble (A (b + 1 + m) k 1 a (4 * x + 2) + 1 + C 1 a (2 * x + 1)) (A m e 1 (a + 1 + b) (4 * tAn x y + 1)) && (Nat.ble (A (b + 1 + m) k 1 a (4 * x + 2) + 1 + C 0 b (2 * y + 1)) (A m e 1 (a + 1 + b) (4 * tAn x y + 1)) && (Nat.ble (A (b + 1 + m) k 1 a (4 * x + 2) + 1 + C 1 a (2 * x + 1) + R m e 1) (A m e 1 (a + 1 + b) (4 * tAn x y + 3)) && Nat.ble (A (b + 1 + m) k 1 a (4 * x + 2) + 1 + C 0 b (2 * y + 1) + R m e 1) (A m e 1 (a + 1 + b) (4 * tAn x y + 3)))))))
noncomputable def an1B (A : Nat → Nat → Nat → Nat → Nat → Nat) (R : Nat → Nat → Nat → Nat) (nr : Nat → Nat) (m e a b w : Nat) : Bool :=
  anyB (nr (b + 1 + m)) fun k => domB R (b + 1 + m) k w w w && (Nat.ble (A (b + 1 + m) k 1 a 12) (A m e 1 (a + 1 + b) 12) && Nat.ble (A (b + 1 + m) k 1 a 12) (A m e 1 (a + 1 + b) 13))
def mnN (x y : Nat) : Nat := cond (Nat.ble x y) x y
/-- all that is asked of two lefts for one rest -/
noncomputable def pairB (A : Nat → Nat → Nat → Nat → Nat → Nat) (R C : Nat → Nat → Nat → Nat) (nr : Nat → Nat) (pa pl : Bool) (m e a b : Nat) : Bool :=
  or1B A m e a b && (if1B R (fun f => A m e 3 (a + 1 + b) f) m e && (an1B A R nr m e a b (A m e 0 b 13) && allB 3 fun x => skp a x || allB 3 fun y => skp b y || (orB A R pa pl m e a b x y && (ifB R (fun f => A m e 3 (a + 1 + b) f) m e x y (C 2 a 0) (C 2 a (2 * x)) (C 3 b 1) (C 3 b (2 * y + 1)) (A m e 3 b (4 * y + 1)) (A m e 3 b (4 * y + 3)) && ((!pl && ((Nat.beq a 2 && Nat.beq b 2) && (Nat.beq x 2 && Nat.beq y 2))) || (anB A R C nr m e a b x y (A m e 0 b 13) (A m e 0 b 13) (A m e 0 b 13) && cond (Nat.beq y 2) (anB A R C nr m e a b x y (R m e 1) (A m e 0 b 10) (mnN (A m e 0 b 13) (R m e 1))) (anB A R C nr m e a b x y (A m e 0 b (4 * y + 2)) (A m e 0 b (4 * y + 2)) (mnN (A m e 0 b 13) (A m e 0 b (4 * y + 2))))))))))
/-- for one rest: atoms, NOT, levels, parentheses, pairs; L = the longest left -/
noncomputable def restB (A : Nat → Nat → Nat → Nat → Nat → Nat) (R C : Nat → Nat → Nat → Nat) (nr : Nat → Nat) (W : Nat) (pa pl : Bool) (m e L : Nat) : Bool :=
  (Nat.ble (R m e 2) (A m e 0 1 0) && (Nat.ble (R m e 2) (A m e 0 1 1) && (Nat.ble (R m e 1) (A m e 0 1 2) && (Nat.ble (R m e 1) (A m e 0 1 3) && (Nat.ble (R m e 0) (A m e 0 1 4) && (Nat.ble (R m e 0) (A m e 0 1 5) && (Nat.ble (R m e 1) (A m e 0 1 6) && (Nat.ble (R m e 1) (A m e 0 1 7) && (Nat.ble (R m e 2) (A m e 0 1 12) && Nat.ble (R m e 3) (A m e 0 1 13)))))))))) &&
  (allB L (fun i => allB 3 fun lv => allB 14 fun f => Nat.ble (A m e lv (i + 1) f) (A m e (lv + 1) (i + 1) f)) &&
  (allB (L - W - 2) (fun i => allB 14 fun f => Nat.ble (A m e 3 (i + 3) f) (A m e 0 (i + 3 + W) f)) &&
  (allB (L - 1) (fun a => if1B R (fun f => A m e 0 (a + 2) f) m e && allB 3 fun x => skp (a + 1) x || ifB R (fun f => A m e 0 (a + 2) f) m e x 0 (C 0 (a + 1) 0) (C 0 (a + 1) (2 * x)) 0 0 0 (R m e 1)) &&
  allB (L - 2) fun a => allB (L - 2 - a) fun b => pairB A R C nr pa pl m e (a + 1) (b + 1))))
/-- a claim's rest -/
noncomputable def rstB (R : Nat → Nat → Nat → Nat) (nc : Nat → Nat) (n l z w : Nat) : Bool := anyB (nc n) fun k => domB R n k l z w
/-- all that is asked of two claims -/
noncomputable def clmX (R C : Nat → Nat → Nat → Nat) (nc G : Nat → Nat) (a b x y : Nat) : Bool :=
  (Nat.beq (x * y) 0 || (Nat.ble (C 1 a (2 * x) + C 0 b (2 * y)) (C 1 (a + 1 + b) 2) && (Nat.ble (1 + C 1 a (2 * x + 1)) (C 1 (a + 1 + b) 3) && (Nat.ble (1 + C 0 b (2 * y + 1)) (C 1 (a + 1 + b) 3) && (Nat.ble (1 + G a + C 0 b (2 * y)) (G (a + 1 + b)) && (Nat.ble (1 + C 1 a (2 * x) + G b) (G (a + 1 + b)) && rstB R nc (a + 1 + b) (C 1 a (2 * x) + C 0 b (2 * y)) (C 1 a (2 * x) + C 0 b (2 * y)) (mnN (C 1 a 0 + C 0 b 0) (C 1 a (2 * x) + C 0 b (2 * y))))))))) &&
  ((Nat.beq (x + y) 0 || (Nat.ble (sdN a (C 2 a (2 * x))) (C 2 (a + 1 + b) 2) && (Nat.ble (sdN b (C 1 b (2 * y))) (C 2 (a + 1 + b) 2) && (Nat.ble (1 + C 2 a (2 * x + 1)) (C 2 (a + 1 + b) 3) && (Nat.ble (1 + C 1 b (2 * y + 1)) (C 2 (a + 1 + b) 3) && (Nat.ble (sdN a (C 2 a (2 * x)) + 1 + C 2 a (2 * x + 1)) (G (a + 1 + b)) && (Nat.ble (sdN a (C 2 a (2 * x)) + 1 + C 1 b (2 * y + 1)) (G (a + 1 + b)) && (Nat.ble (sdN b (C 1 b (2 * y)) + 1 + C 2 a (2 * x + 1)) (G (a + 1 + b)) && Nat.ble (sdN b (C 1 b (2 * y)) + 1 + C 1 b (2 * y + 1)) (G (a + 1 + b)))))))))) &&
  anyB (nc (a + 1 + b)) fun k => Nat.ble (sdN a (C 2 a (2 * x))) (R (a + 1 + b) k 1) && (Nat.ble (sdN b (C 1 b (2 * y))) (R (a + 1 + b) k 1) && (Nat.ble (sdN a (C 2 a 0)) (R (a + 1 + b) k 3) && Nat.ble (sdN b (C 1 b 0)) (R (a + 1 + b) k 3))))
noncomputable def clmK (A : Nat → Nat → Nat → Nat → Nat → Nat) (R C : Nat → Nat → Nat → Nat) (nc G : Nat → Nat) (a b k : Nat) : Bool :=
  Nat.ble (A b k 2 a 13) (C 3 (a + 1 + b) 0) && (rstB R nc (a + 1 + b) (A b k 2 a 13) (A b k 2 a 13) (A b k 2 a 13) && allB 3 fun x => skp a x || allB 3 fun y => skp b y || ((!Nat.beq x 0 && Nat.beq y 0) || (Nat.ble (A b k 2 a (4 * x + 2)) (C 3 (a + 1 + b) 4) && (Nat.ble (C 2 a (2 * x) + C 3 b (2 * y + 1)) (C 3 (a + 1 + b) 5) && (Nat.ble (A b k 2 a (4 * x + 2) + (C 2 a (2 * x) + C 3 b (2 * y + 1))) (G (a + 1 + b)) && cond (Nat.beq x 2) (rstB R nc (a + 1 + b) (R b k 1) (A b k 2 a 10) (mnN (A b k 2 a 13) (R b k 1))) (rstB R nc (a + 1 + b) (A b k 2 a (4 * x + 2)) (A b k 2 a (4 * x + 2)) (mnN (A b k 2 a 13) (A b k 2 a (4 * x + 2)))))))))
noncomputable def clmB (A : Nat → Nat → Nat → Nat → Nat → Nat) (R C : Nat → Nat → Nat → Nat) (nc G : Nat → Nat) (a b : Nat) : Bool :=
  (Nat.ble (C 1 a 0 + C 0 b 0) (C 1 (a + 1 + b) 0) && (Nat.ble (1 + C 1 a 1) (C 1 (a + 1 + b) 1) && (Nat.ble (1 + C 0 b 1) (C 1 (a + 1 + b) 1) && rstB R nc (a + 1 + b) (C 1 a 0 + C 0 b 0) (C 1 a 0 + C 0 b 0) (C 1 a 0 + C 0 b 0)))) &&
  ((Nat.ble (sdN a (C 2 a 0)) (C 2 (a + 1 + b) 0) && (Nat.ble (sdN b (C 1 b 0)) (C 2 (a + 1 + b) 0) && (Nat.ble (1 + C 2 a 1) (C 2 (a + 1 + b) 1) && Nat.ble (1 + C 1 b 1) (C 2 (a + 1 + b) 1)))) &&
  (Nat.ble (C 2 a 0 + C 3 b 1) (C 3 (a + 1 + b) 1) && (allB 3 (fun x => skp a x || allB 3 fun y => skp b y || clmX R C nc G a b x y) && allB (nc b) fun k => clmK A R C nc G a b k)))
/-- claims of one length made of one: levels, parentheses, NOT -/
noncomputable def oneB (A : Nat → Nat → Nat → Nat → Nat → Nat) (R C : Nat → Nat → Nat → Nat) (nc G : Nat → Nat) (W N n : Nat) : Bool :=
  (allB 3 fun lv => allB 6 fun f => Nat.ble (C lv n f) (C (lv + 1) n f)) &&
  ((Nat.ble n 2 || (Nat.ble (N + 1) (n + W) || ((allB 6 fun f => Nat.ble (C 3 n f) (C 0 (n + W) f)) && (Nat.ble (G n) (G (n + W)) && allB (nc n) fun k => anyB (nc (n + W)) fun j => Nat.ble (R n k 0) (R (n + W) j 0) && (Nat.ble (R n k 1) (R (n + W) j 1) && (Nat.ble (R n k 2) (R (n + W) j 2) && Nat.ble (R n k 3) (R (n + W) j 3))))))) &&
  (Nat.ble N n || (Nat.ble (A 0 0 0 n 13) (C 0 (n + 1) 0) && (Nat.ble (C 0 n 0) (C 0 (n + 1) 1) && (rstB R nc (n + 1) (A 0 0 0 n 13) (A 0 0 0 n 13) (A 0 0 0 n 13) && (skp n 0 || (Nat.ble (A 0 0 0 n 2) (C 0 (n + 1) 4) && (Nat.ble (C 0 n 0) (C 0 (n + 1) 5) && (Nat.ble (A 0 0 0 n 2 + C 0 n 0) (G (n + 1)) && rstB R nc (n + 1) (A 0 0 0 n 2) (A 0 0 0 n 2) (mnN (A 0 0 0 n 13) (A 0 0 0 n 2)))))))))))
