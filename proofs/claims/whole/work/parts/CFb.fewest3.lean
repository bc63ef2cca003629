/-! THE FEWEST STAGES: what follows is refuted by no three stages -/
def R3s (c : Bool) : Option Bool → Option Bool → Prop
  | none, _ => True
  | some false, none => False
  | some false, some false => True
  | some false, some true => c = true
  | some true, none => False
  | some true, some false => False
  | some true, some true => True
def V3s (u v w k : Nat) : Option Bool → Prop
  | none => k < 4 ∧ u.testBit k = true
  | some false => k < 4 ∧ v.testBit k = true
  | some true => k < 4 ∧ w.testBit k = true
def r3Kr (x : Option Bool → Prop) (y : Bool × Bool × Bool) : Prop := (x none ↔ y.1 = true) ∧ (x (some false) ↔ y.2.1 = true) ∧ (x (some true) ↔ y.2.2 = true)
theorem km3s {c : Bool} {u v w : Nat} (h : mon3 c u v w) : isKM (R3s c) (V3s u v w) := by
  refine ⟨fun s => ?_, fun s s' s'' h1 h2 => ?_, fun k s s' hr hv => ?_⟩
  · rcases s with _ | _ | _ <;> exact True.intro
  · rcases s with _ | _ | _
    · exact True.intro
    · rcases s' with _ | _ | _
      · exact False.elim h1
      · exact h2
      · rcases s'' with _ | _ | _
        · exact False.elim h2
        · exact False.elim h2
        · exact h1
    · rcases s' with _ | _ | _
      · exact False.elim h1
      · exact False.elim h1
      · exact h2
  · rcases s with _ | _ | _
    · rcases s' with _ | _ | _
      · exact hv
      · exact ⟨hv.1, h.1 k hv.1 hv.2⟩
      · exact ⟨hv.1, h.2.1 k hv.1 hv.2⟩
    · rcases s' with _ | _ | _
      · exact False.elim hr
      · exact hv
      · exact ⟨hv.1, h.2.2 hr k hv.1 hv.2⟩
    · rcases s' with _ | _ | _
      · exact False.elim hr
      · exact False.elim hr
      · exact hv
theorem imp_b {A B : Prop} (a c : Bool) (h1 : A ↔ a = true) (h2 : B ↔ c = true) : (A → B) ↔ (!a || c) = true := by
  rw [h1, h2]
  cases a <;> cases c <;> decide
theorem r3K_if {c : Bool} {x x' : Option Bool → Prop} {y y' : Bool × Bool × Bool} (h : r3Kr x y) (h' : r3Kr x' y') : r3Kr (fun s => ∀ s', R3s c s s' → x s' → x' s') (b3If c y y') := by
  obtain ⟨y1, y2, y3⟩ := y
  obtain ⟨z1, z2, z3⟩ := y'
  obtain ⟨a1, a2, a3⟩ := h
  obtain ⟨b1, b2, b3⟩ := h'
  have e1 := imp_b _ _ a1 b1
  have e2 := imp_b _ _ a2 b2
  have e3 := imp_b _ _ a3 b3
  refine ⟨⟨fun g => ?_, fun g => ?_⟩, ⟨fun g => ?_, fun g => ?_⟩, ⟨fun g => ?_, fun g => ?_⟩⟩
  · have g1 := e1.mp (g none True.intro)
    have g2 := e2.mp (g (some false) True.intro)
    have g3 := e3.mp (g (some true) True.intro)
    show ((!y1 || z1) && ((!y2 || z2) && (!c || (!y3 || z3))) && (!y3 || z3)) = true
    rw [g1, g2, g3]
    cases c <;> rfl
  · have g' : ((!y1 || z1) && ((!y2 || z2) && (!c || (!y3 || z3))) && (!y3 || z3)) = true := g
    rw [Bool.and_eq_true, Bool.and_eq_true, Bool.and_eq_true] at g'
    obtain ⟨⟨g1, g2, _⟩, g3⟩ := g'
    intro s' _
    rcases s' with _ | _ | _
    · exact e1.mpr g1
    · exact e2.mpr g2
    · exact e3.mpr g3
  · have g2 := e2.mp (g (some false) True.intro)
    show ((!y2 || z2) && (!c || (!y3 || z3))) = true
    rw [g2]
    cases c with
    | false => rfl
    | true =>
      have g3 := e3.mp (g (some true) rfl)
      rw [g3]
      rfl
  · have g' : ((!y2 || z2) && (!c || (!y3 || z3))) = true := g
    rw [Bool.and_eq_true] at g'
    obtain ⟨g2, g3⟩ := g'
    intro s' hr
    rcases s' with _ | _ | _
    · exact False.elim hr
    · exact e2.mpr g2
    ·
      have hc : c = true := hr
      rw [hc, Bool.not_true, Bool.false_or] at g3
      exact e3.mpr g3
  · exact e3.mp (g (some true) True.intro)
  · intro s' hr
    rcases s' with _ | _ | _
    · exact False.elim hr
    · exact False.elim hr
    · exact e3.mpr g
theorem r3K_f : r3Kr (fun _ => False) (false, false, false) := ⟨⟨False.elim, fun h => absurd h (by decide)⟩, ⟨False.elim, fun h => absurd h (by decide)⟩, ⟨False.elim, fun h => absurd h (by decide)⟩⟩
theorem r3K_b (k : Nat) {c : Bool} {x y : Option Bool → Prop} {x' y' : Bool × Bool × Bool} (h9 : 7 ≤ k) (h10 : k < 10) (h : r3Kr x x') (h' : r3Kr y y') : r3Kr (kBn (R3s c) k x y) (b3Bn c k x' y') := by
  have an : ∀ {A B : Prop} (a c : Bool), (A ↔ a = true) → (B ↔ c = true) → ((A ∧ B) ↔ (a && c) = true) := by
    intro A B a c h1 h2
    rw [h1, h2, Bool.and_eq_true]
  have on : ∀ {A B : Prop} (a c : Bool), (A ↔ a = true) → (B ↔ c = true) → ((A ∨ B) ↔ (a || c) = true) := by
    intro A B a c h1 h2
    rw [h1, h2, Bool.or_eq_true]
  by_cases e7 : k = 7
  · have g1 : kBn (R3s c) k x y = fun s => x s ∧ y s := funext fun s => if_pos e7
    have g2 : b3Bn c k x' y' = (x'.1 && y'.1, x'.2.1 && y'.2.1, x'.2.2 && y'.2.2) := if_pos e7
    rw [g1, g2]
    exact ⟨an _ _ h.1 h'.1, an _ _ h.2.1 h'.2.1, an _ _ h.2.2 h'.2.2⟩
  · by_cases e8 : k = 8
    · have g1 : kBn (R3s c) k x y = fun s => x s ∨ y s := funext fun s => (if_neg e7).trans (if_pos e8)
      have g2 : b3Bn c k x' y' = (x'.1 || y'.1, x'.2.1 || y'.2.1, x'.2.2 || y'.2.2) := (if_neg e7).trans (if_pos e8)
      rw [g1, g2]
      exact ⟨on _ _ h.1 h'.1, on _ _ h.2.1 h'.2.1, on _ _ h.2.2 h'.2.2⟩
    · have e9 : k = 9 := by omega
      have g1 : kBn (R3s c) k x y = fun s => ∀ s', R3s c s s' → x s' → y s' := funext fun s => (if_neg e7).trans ((if_neg e8).trans (if_pos e9))
      have g2 : b3Bn c k x' y' = b3If c x' y' := (if_neg e7).trans (if_neg e8)
      rw [g1, g2]
      exact r3K_if h h'
theorem kN3 {c : Bool} {u v w : Nat} {g : Nat → Nat} {k : Nat} (ho : okp g k) : ∀ i, i < k → r3Kr (kN (R3s c) (V3s u v w) g i) (tN c u v w g i) := by
  intro i hi
  have h := nv_rel r3Kr (lv := kLf (V3s u v w)) (un := kUn (R3s c)) (bn := kBn (R3s c)) (d0 := fun _ => False) (lv' := b3Lf u v w) (un' := b3Un c) (bn' := b3Bn c) (d1 := (false, false, false)) (g := g) (k := k) (fun j _ _ => ?_) (fun x y hx => ?_) (fun k x y x' y' h7 h10 hx hy => r3K_b k h7 h10 hx hy) ho i hi
  · exact h
  · by_cases h4 : g j < 4
    · have g1 : kLf (V3s u v w) (g j) = fun s => V3s u v w (g j) s := funext fun s => if_pos h4
      have g2 : b3Lf u v w (g j) = (u.testBit (g j), v.testBit (g j), w.testBit (g j)) := if_pos h4
      rw [g1, g2]
      exact ⟨⟨fun h => h.2, fun h => ⟨h4, h⟩⟩, ⟨fun h => h.2, fun h => ⟨h4, h⟩⟩, ⟨fun h => h.2, fun h => ⟨h4, h⟩⟩⟩
    · by_cases e : g j = 4
      · have g1 : kLf (V3s u v w) (g j) = fun s => g j = 4 := funext fun s => if_neg h4
        have g2 : b3Lf u v w (g j) = (true, true, true) := (if_neg h4).trans (if_pos e)
        rw [g1, g2]
        exact ⟨⟨fun _ => rfl, fun _ => e⟩, ⟨fun _ => rfl, fun _ => e⟩, ⟨fun _ => rfl, fun _ => e⟩⟩
      · have g1 : kLf (V3s u v w) (g j) = fun s => g j = 4 := funext fun s => if_neg h4
        have g2 : b3Lf u v w (g j) = (false, false, false) := (if_neg h4).trans (if_neg e)
        rw [g1, g2]
        exact ⟨⟨fun h => absurd h e, fun h => absurd h (by decide)⟩, ⟨fun h => absurd h e, fun h => absurd h (by decide)⟩, ⟨fun h => absurd h e, fun h => absurd h (by decide)⟩⟩
  · exact r3K_if hx r3K_f
theorem FolS.no3 {K : Nat → Nat} {G : Nat → Nat → Nat} {W p : Nat} (hF : FolS K G W p) (hk : okC K G W p) (hp : p < 5) : ¬ fw3 K G W p := by
  rintro ⟨u, v, w, hu, hv, hw, h1, h2, h3⟩
  have main : ∀ c, mon3 c u v w → ¬ rfS K G W p c u v w := by
    rintro c hm ⟨r1, r2⟩
    have op := hk p hp (Or.inr rfl)
    have t := (kN3 (c := c) (u := u) (v := v) (w := w) op.2 (K p - 1) (by omega)).1.mp (hF (Option Bool) (R3s c) (V3s u v w) none (km3s hm) (fun i hi hb => by
      have oi := hk i hi (Or.inl hb)
      exact (kN3 (c := c) (u := u) (v := v) (w := w) oi.2 (K i - 1) (by omega)).1.mpr (r1 i hi hb)))
    rw [r2] at t
    cases t
  rcases h3 with h | ⟨h, h'⟩
  · exact main false ⟨h1, h2, fun hc => by cases hc⟩ h
  · exact main true ⟨h1, h2, fun _ => h⟩ h'
section FEWST
variable {b : Nat} {ia fi : Nat → Nat → Int32} {fl : Nat → Nat → Int64} {qa : Nat → Nat → Option Nat} {f : mmF} {Ω : mO} {W p V : Nat} {S : Nat} {kd lf rt : Nat → Nat} {Pn : Nat → Nat → Nat}
theorem LX.q (h : LX b ia fi S kd lf rt) : rowQ b ia 30 S (Q1 kd lf rt) :=
  ⟨fN kd lf rt (fun _ => 65535) 0 0, fun d hd => ⟨h.2.2 d hd, fN_lt _ 0 0 h.2.1 d hd, fun u hu => fN_single h.2.1 hu false d hd⟩⟩
theorem LKA.eO {ia1 : Nat → Nat → Int32} {K : Nat → Nat} {G : Nat → Nat → Nat} (h : LKA b ia fi K G V S kd lf rt Pn) (e : eO b ia ia1) : LKA b ia1 fi K G V S kd lf rt Pn :=
  ⟨h.1.eO e, fun p hp => by rw [e _ (by omega) (by omega)]; exact h.2.1 p hp, h.2.2⟩
theorem C_fewest (h : CR b ia fi qa f Ω) (w : WO Ω) {kn : Nat} (hkn : KNf b f kn) (hq : qOk Ω W p) (h0 : f_X9_questionError b (nI W) (nI p) (wr (SK b) ia fi fl qa f) = some 0) : CRes b f ia fi (f_X9_fewestStages kn b (nI W) (nI p) (wr (SK b) ia fi fl qa f)) (fwV Ω.1.2.2.2.1 Ω.1.2.2.2.2 W p) Ω := by
  have hp := hq.2.1
  have hk := hq.ok w
  obtain ⟨ia1, fi1, S, kd, lf, rt, Pn, z1, z2, z3, z4⟩ := C_asks (fl := fl) h w hkn hq
  have ho := z2.1.2.1
  have hn : ∀ j, j < 5 → (W.testBit j = true ∨ j = p) → NP (Ω.1.2.2.2.2 j) S kd lf rt (Pn j) (Ω.1.2.2.2.1 j) := fun j hj hw => z2.1.np hj (hq.sel hw).2
  have hfw : ∀ U, usU Ω.1.2.2.2.1 Ω.1.2.2.2.2 W (W ||| 2 ^ p) Pn kd lf rt U → ((∃ t, t < 16 ∧ fe2 Ω.1.2.2.2.1 Pn W p kd lf rt U t) ↔ fw2 Ω.1.2.2.2.1 Ω.1.2.2.2.2 W p) ∧ (¬ fw2 Ω.1.2.2.2.1 Ω.1.2.2.2.2 W p → ((∃ t, 0 ≤ t ∧ t < 16 ∧ fe3 Ω.1.2.2.2.1 Pn W p kd lf rt U t) ↔ fw3 Ω.1.2.2.2.1 Ω.1.2.2.2.2 W p)) := fun U hU => fe_fw ho hk hp hn (F := ULp Ω.1.2.2.2.1 Ω.1.2.2.2.2 (W ||| 2 ^ p) 5) (fun i hi hw j hj h4 => ULp_bit 5 i j hi (hq.sel hw).2 hj (by omega)) hU.2
  have hpl := C_plain (fl := fl) z3 w hq z2 (fun i hi => (hq.sel hi).2)
  obtain ⟨U, u1, ia2, e2, r2⟩ := c_two (fl := fl) (qa := qa) (f := f) hkn hq.1 (fun i hi => (hq.sel (Or.inl hi)).2) hp (hq.sel (Or.inr rfl)).2 z2.1 z2.q
  obtain ⟨c1, c2⟩ := z3.eO e2
  obtain ⟨ia3, fi3, fl3, a1, a2, a3⟩ := C_found ((z2.eO e2).cq (fl := fl) c1) w hq.1 hp (fun i hi => hq.sel hi)
  obtain ⟨U', v1, ia4, e4, r4⟩ := c_three (fl := fl3) (qa := qa) (f := f) hkn hq.1 (fun i hi => (hq.sel (Or.inl hi)).2) hp (hq.sel (Or.inr rfl)).2 a2.1 a2.2.1.1.q
  obtain ⟨d1, d2⟩ := a2.2.2.eO e4
  unfold f_X9_fewestStages fwV
  simp only [ck_0, h0, z1, Option.bind_some, if_true, R_0_7, ck_21, hpl]
  by_cases n1 : fw1 Ω.1.2.2.2.1 Ω.1.2.2.2.2 W p
  · have e : plV Ω.1.2.2.2.1 Ω.1.2.2.2.2 W p = 0 := if_pos n1
    rw [if_pos n1, e, if_pos rfl]
    exact ⟨ia1, fi1, fl, qa, rfl, z3, z4⟩
  · have e : plV Ω.1.2.2.2.1 Ω.1.2.2.2.2 W p = 1 := if_neg n1
    rw [if_neg n1, e, if_neg (by decide)]
    rcases r2 with ⟨b1, b2⟩ | ⟨b1, b2⟩
    · simp only [b2, Option.bind_some, i10, if_false]
      rw [if_pos ((hfw U u1).1.mp b1)]
      exact ⟨ia2, fi1, fl, qa, rfl, c1, z4.tr c2⟩
    · have n2 : ¬ fw2 Ω.1.2.2.2.1 Ω.1.2.2.2.2 W p := fun e => b1 ((hfw U u1).1.mpr e)
      simp only [b2, Option.bind_some, if_true, R_0_6, ck_20, a1]
      rw [if_neg n2]
      rcases foV_01 Ω.1.2.2.2.1 Ω.1.2.2.2.2 W p with ⟨hF, e⟩ | ⟨hF, e⟩
      · rw [e, if_neg (by decide), if_neg (hF.no3 hk hp)]
        exact ⟨ia3, fi3, fl3, qa, rfl, a2.2.2, (z4.tr c2).tr a3⟩
      · rw [e, if_pos rfl]
        rcases r4 with ⟨g1, g2⟩ | ⟨g1, g2⟩
        · simp only [R_0_7, ck_21, g2, Option.bind_some, i10, if_false]
          rw [if_pos (((hfw U' v1).2 n2).mp g1)]
          exact ⟨ia4, fi3, fl3, qa, rfl, d1, ((z4.tr c2).tr a3).tr d2⟩
        · simp only [R_0_7, ck_21, g2, Option.bind_some, if_true]
          rw [if_neg (fun e => g1 (((hfw U' v1).2 n2).mpr e))]
          exact ⟨ia4, fi3, fl3, qa, rfl, d1, ((z4.tr c2).tr a3).tr d2⟩
theorem t_fewestStages (w : WO Ω) {kn : Nat} (hkn : KNf b f kn) (x y : Int32) : Meth b f Ω (fun μ => f_X9_fewestStages kn b x y μ) (fun μ => f_X10_fewestStages (b + 83) x y μ) := by
  refine asks_t w x y (fun ia fi fl qa e e0 h he => ?_) (fun ia fi fl qa h => ⟨fun h1 => ?_, fun h1 h2 => ?_⟩) (fun W p ex ey hq h1 h2 => ?_)
  · show f_X9_fewestStages kn b x y _ = _
    unfold f_X9_fewestStages
    simp only [ck_0, he, Option.bind_some, if_neg e0]
  · show f_X10_fewestStages (b + 83) x y _ = _
    unfold f_X10_fewestStages
    simp only [ck_83, h1, Option.bind_some, i10, if_false]
  · show f_X10_fewestStages (b + 83) x y _ = _
    unfold f_X10_fewestStages
    simp only [ck_83, h1, h2, Option.bind_some, i10, i00, if_true, if_false]
  · subst ex ey
    exact ⟨_, Ω, w, fun ia fi fl qa h => C_fewest h w hkn hq (h1 ia fi fl qa h), fun ia fi fl qa h => M_fewest h w hq (h2 ia fi fl qa h)⟩
end FEWST
