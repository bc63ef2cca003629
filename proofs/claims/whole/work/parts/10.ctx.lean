/-! THE SYSTEM'S OWN WORDS: its arrays by number, its nest links, what every method finds when it begins, what it leaves -/
abbrev aTy : Nat → FieldType := fun t => match t with
  | 0 => .int
  | 1 => .char
  | 2 => .object "StageTruths$State"
  | 3 => .object "StageTruths$Claim"
  | 4 => .long
  | _ => .int
def nestL : List (String × Nat × MethodName × String) := [(RX1, 29, yX9_at, "StageTruths"), (RX2, 41, yX9_at, "StageTruths"), (RX4, 37, yX9_has, "StageTruths"), (RX4, 45, yX9_at, "StageTruths"), (RX5, 58, yX1_init, "StageTruths"), (RX5, 76, yX9_has, "StageTruths"), (RX5, 111, yX9_at, "StageTruths"), (RX6, 36, yX9_at, "StageTruths"), (RX6, 48, yX9_has, "StageTruths"), (RX7, 48, yX9_has, "StageTruths"), (RX7, 62, yX9_truth, "StageTruths"), (RX7, 76, yX9_at, "StageTruths"), (RX9, 33, yX8_init, "StageTruths"), (RX9, 40, yX5_init, "StageTruths")]
/-- the tables, and the static array KNOWN, which lies at D.2 9 -/
def KK (D : mmD) (b0 : Nat) (U : State) : Prop :=
  va_K D.1 vwCl (mm_tys aTy D) U ∧ (∀ q ∈ nestL, va_Nw (.methodLinkNest q.1 q.2.1 q.2.2.1 q.2.2.2) U) ∧ (∀ C ∈ [RX7, RX0], va_AO C U) ∧ va_Z RX6 "KNOWN" "[I" (.ref (D.2 9)) (fun q => b0 ≤ q) U U.heap
def PW (D : mmD) (b0 : Nat) (f : mmF) (sz : Nat) : State → Prop := fun U => MM vwCl D b0 f sz U U.heap ∧ KK D b0 U
def QW (D : mmD) (b0 : Nat) (v : Option Value) (f : mmF) (sz : Nat) : Array Value → State → Outcome → State → Prop := fun _ st oc t => oc = .returned v ∧ MM vwCl D b0 f sz t t.heap ∧ va_F (fun q => b0 ≤ q) st t
theorem KK.moved {D : mmD} {b0 : Nat} {s U : State} {H : Heap} {locs : List Loc} (h : KK D b0 s) (hS : mS b0 s H locs) (hU : U.heap = H) (hW : s.WarmedH U.vm) : KK D b0 U := by
  obtain ⟨h1, h2, h3, h4⟩ := h
  refine ⟨h1.moved hW.alike, fun q hq => (h2 q hq).warmM hW, fun C hC => (h3 C hC).moved hW.alike, ?_⟩
  rw [hU]
  exact (h4.kept (fun a ha hA => hS.2.1 a ha hA)).moved hW.alike
theorem PW.call {D : mmD} {b0 : Nat} {f : mmF} {sz : Nat} {s U : State} {H : Heap} {locs : List Loc} (hK : KK D b0 s) (hM : MM vwCl D b0 f sz s H) (hS : mS b0 s H locs) (hU : U.heap = H) (hW : s.WarmedH U.vm) : PW D b0 f sz U := ⟨by rw [hU]; exact hM.moved hW.alike, hK.moved hS hU hW⟩
theorem PW.blind {D : mmD} {b0 : Nat} {f : mmF} {sz : Nat} {vs : List Value} (a : Array Value) (U : State) (g : JFrame) (mk : MethodId) (h : va_Pc vs (PW D b0 f sz) a U) : va_Pc vs (PW D b0 f sz) a (U.calling g mk a) := by
  obtain ⟨h0, hM, h1, h2, h3, h4⟩ := h
  exact ⟨h0, hM.moved (u := U) (U := U.calling g mk a) (Vm.Alike.refl U.vm), h1.moved (u := U) (U := U.calling g mk a) (Vm.Alike.refl U.vm), fun q hq => (h2 q hq).same (U := U.calling g mk a) rfl rfl, fun C hC => (h3 C hC).moved (u := U) (U := U.calling g mk a) (Vm.Alike.refl U.vm), h4.moved (u := U) (U := U.calling g mk a) (Vm.Alike.refl U.vm)⟩
/-- a method's frame: what its instructions may use -/
def CX (cc : ByteArray) (nL : Nat) (ret : Option FieldType) (ws : List Cond) (own : String) (p : Program) (s : State) (m : MethodId) (args : Array Value) (meth : Method) (c : Code) (D : mmD) (b0 : Nat) : Prop :=
  p.tables.exec = Jvm.exec ∧ c.code = cc ∧ meth.sig.returnType = ret ∧ c.maxLocals = nL ∧ s.vm.findClass own = some m.cls ∧ (∀ w ∈ ws, w.before args s = true) ∧ meth.locks = false ∧ KK D b0 s
/-- a boolean -/
def rz (v : Int32) : Option Int32 := if v = 0 ∨ v = 1 then some v else none
theorem rz_at {v x : Int32} (h : rz v = some x) : x = v ∧ narrow .boolean (.int v) = .int v := by
  unfold rz at h
  split at h
  · next hc =>
    refine ⟨(Option.some.inj h).symm, ?_⟩
    rcases hc with rfl | rfl <;> rfl
  · cases h
/-- an object of class ci lies there -/
def ckO (f : mmF) (a ci : Nat) : Option Unit := match f a with
  | some (.inr (c, _)) => if c = ci then some () else none
  | _ => none
theorem ckO_at {f : mmF} {a ci : Nat} {u : Unit} (h : ckO f a ci = some u) : ∃ fs : List Value, f a = some (.inr (ci, fs)) := by
  unfold ckO at h
  split at h
  · next c fs hq =>
    split at h
    · next hc => subst hc; exact ⟨fs, hq⟩
    · cases h
  · cases h
/-- null or not -/
def qc {β : Type} (r : Option Nat) (A : Option β) (B : Nat → Option β) : Option β := match r with
  | none => A
  | some a => B a
theorem va_rf_cat (r : Option Nat) : (va_rf r).category = 1 := by cases r <;> rfl
theorem qc_n {β : Type} {A : Option β} {B : Nat → Option β} {r : β} (h : qc none A B = some r) : A = some r := h
theorem qc_s {β : Type} {a : Nat} {A : Option β} {B : Nat → Option β} {r : β} (h : qc (some a) A B = some r) : B a = some r := h
theorem o_n {α : Type} {c : Prop} [Decidable c] {B : Option α} {r : α} (h : (if c then none else B) = some r) : ¬ c ∧ B = some r := by
  by_cases hc : c
  · rw [if_pos hc] at h; cases h
  · rw [if_neg hc] at h; exact ⟨hc, h⟩
def mm_ushr (x y : Int32) : Int32 := (x.toUInt32 >>> (y.toUInt32 &&& Int32.toUInt32 31)).toInt32
def mm_lushr (x : Int64) (y : Int32) : Int64 := (x.toUInt64 >>> (y.toInt64.toUInt64 &&& Int64.toUInt64 63)).toInt64
def mm_i2c (x : Int32) : Int32 := (x.toUInt32 % 65536).toInt32
/-- a number that is greater than the rounds of any loop -/
theorem FU_ex : ∃ n : Nat, 2 ^ 7000 ≤ n := ⟨_, Nat.le_refl _⟩
noncomputable def FU : Nat := Classical.choose FU_ex
theorem FU_ge : 2 ^ 7000 ≤ FU := Classical.choose_spec FU_ex
def ldN (t0 : Nat) (f : mmF) (a : Nat) (i : Int32) : Option Nat := match ldQ t0 f a i with
  | some (some v) => some v
  | _ => none
theorem ldN_Q {t0 : Nat} {f : mmF} {a v : Nat} {i : Int32} (h : ldN t0 f a i = some v) : ldQ t0 f a i = some (some v) := by
  unfold ldN at h
  split at h
  · next w hq => cases h; exact hq
  · cases h
section CTX
variable {p : Program} {l : Launch} {e : Env} {R : Room} {s : State} {m : MethodId} {args : Array Value} {below : List Frame} {meth : Method} {c : Code} {H : Heap} {locs : List Loc} {cells slots : Nat} {Q : State → Prop}
variable {cc : ByteArray} {pc : Nat} {ls : Array Slot} {rest st0 : List Value} {D : mmD} {b0 sz mc ms : Nat} {f : mmF} {a : Nat}
theorem m_call {v : Option Value} {f1 : mmF} {sz1 : Nat} {av : Array Value} (hr : va_Run p l e R s m args below meth c H locs cells slots mc ms (F0 m pc ls st0) rest (QW D b0 v f1 sz1 av) (fun q => b0 ≤ q)) (hS : mS b0 s H locs)
    (kk : ∀ (H1 : Heap) (locs1 : List Loc), MM vwCl D b0 f1 sz1 s H1 → mS b0 s H1 locs1 → W p l e R s m args below meth c H1 locs1 (cells + mc) (slots + ms) Q (F0 m (pc + 3) ls (v.toList ++ rest))) : W p l e R s m args below meth c H locs cells slots Q (F0 m pc ls st0) := by
  intro T hT X
  obtain ⟨v0, st₀, t, T', L, h0, X', hL, e1, e2, ⟨hv, hM, hz, hk⟩, st⟩ := hr T hT X
  cases hv
  rw [h0] at hz hk
  obtain ⟨t2, a1, b1⟩ := kk T'.heap (locs ++ L) (by rw [e1]; exact hM.moved (by rw [← e2]; exact X'.warmed.alike.symm)) ⟨Nat.le_trans hS.1 (by rw [e1]; exact hz), fun q h1 h2 => by rw [e1, hk q (Nat.lt_of_lt_of_le h1 hS.1) h2]; exact hS.2.1 q h1 h2, fun q hq => by
    rcases List.mem_append.mp hq with h | h
    · exact hS.2.2 q h
    · exact hL q h⟩ T' rfl X'
  exact ⟨t2, st t2 a1, b1⟩
theorem m_recv {ci : Nat} {r0 : vw_C} (hc : vwCl[ci]? = some r0) (hK : KK D b0 s) (hM : MM vwCl D b0 f sz s H) {u : Unit} (h : ckO f a ci = some u) : ∃ cell : Cell, H[a]? = some cell ∧ cell.vm.isStatics = false ∧ s.vm.findClass r0.1 = some cell.cls := by
  obtain ⟨fs, hf⟩ := ckO_at h
  exact va_recv hK.1 (m_one (hM.obj hf).2) (ci := ci) (q0 := 0) hc rfl
theorem m_newq (t0 : Nat) (ht0 : t0 < 9) {C : String} (h0 : aTy t0 = .object C) (hexec : p.tables.exec = Jvm.exec) (hb : c.code = cc) {own : String} {index : Nat} (hown : s.vm.findClass own = some m.cls) (hclink : (Cond.classLink own index C).before args s = true) (hover : va_AO C s) (hK : va_K D.1 vwCl (mm_tys aTy D) s) (hM : MM vwCl D b0 f sz s H) (hS : mS b0 s H locs)
    {n : Int32} {N' : Nat} (hn : ¬ n < 0) (hN : n.toNatClampNeg = N') (hbytes : N' * 4 ≤ 536870912) (hcells : cells + 1 ≤ R.cells) (hslots : slots + N' ≤ R.slots) (hdg : decode cc pc = .ok (.anewarray index, 3))
    (kk : ∀ (H1 : Heap), MM vwCl D b0 (va_up f sz (some (.inl (t0, N', .inr (.inr (.inr (.inr (fun _ => none)))))))) (sz + 1) s H1 → mS b0 s H1 locs →
      W p l e R s m args below meth c H1 locs (cells + 1) (slots + N') Q (F0 m (pc + 3) ls (.ref sz :: rest))) : W p l e R s m args below meth c H locs cells slots Q (F0 m pc ls (.int n :: rest)) := by
  subst hN
  have hsz := hM.1
  subst hsz
  have hcls : s.vm.findClass ("[" ++ (FieldType.object C).toString) = some (D.2 t0) := by
    have h9 := (hK.2 t0 _ (mm_ty ht0)).2
    rw [h0] at h9
    obtain ⟨_, _, _, _, _, h⟩ := h9
    exact h
  refine W.anew hexec hb hown hclink (va_AO.use hover) rfl hdg rfl hn hbytes hcells hslots fun cA kA comp f1 f2 f3 f4 => ?_
  have hcA : cA = D.2 t0 := Option.some.inj (f1.symm.trans hcls)
  subst hcA
  generalize hH1 : H.push ({ cls := D.2 t0, slots := Array.replicate n.toNatClampNeg .null, vm := .none } : Cell) = H1
  have z1 : H1.size = H.size + 1 := by rw [← hH1, Array.size_push]
  have e1 : H1[H.size]? = some (arrV (D.2 t0) n.toNatClampNeg (fun _ => .null)) := by rw [← hH1, Array.getElem?_push_size, ← arrV_new]
  have o1 : ∀ q : Nat, q < H.size → H1[q]? = H[q]? := fun q hq => by rw [← hH1, Array.getElem?_push, if_neg (Nat.ne_of_lt hq)]
  refine kk H1 (hM.push z1 o1 (Or.inr (Or.inl ⟨_, _, rfl, by omega, hM.2.1, ?_⟩))) (m_Sn hS hM.2.1 z1 o1)
  show H1[H.size]? = some (vp_cell _ _)
  rw [vp_cell_q]
  exact e1
/-- a reference that may be null, out of a local, into a local -/
theorem m_aload_n (hexec : p.tables.exec = Jvm.exec) (hb : c.code = cc) {k : Fin 4} {i : Nat} {r : Option Nat} (hdg : decode cc pc = .ok (.aload_n k, 1)) (hi : (k : Nat) = i) (hl : ls[i]? = some (.val (va_rf r)))
    (kk : W p l e R s m args below meth c H locs cells slots Q (F0 m (pc + 1) ls (va_rf r :: rest))) : W p l e R s m args below meth c H locs cells slots Q (F0 m pc ls rest) := by
  cases r with
  | none => exact lv_aload_nN hexec hb hdg hi hl kk
  | some a => exact lv_aload_n hexec hb hdg hi hl kk
theorem m_aload (hexec : p.tables.exec = Jvm.exec) (hb : c.code = cc) {i : Nat} {r : Option Nat} (hdg : decode cc pc = .ok (.aload i, 2)) (hl : ls[i]? = some (.val (va_rf r)))
    (kk : W p l e R s m args below meth c H locs cells slots Q (F0 m (pc + 2) ls (va_rf r :: rest))) : W p l e R s m args below meth c H locs cells slots Q (F0 m pc ls rest) := by
  cases r with
  | none => exact lv_aloadN hexec hb hdg hl kk
  | some a => exact lv_aload hexec hb hdg hl kk
theorem m_astore_n (hexec : p.tables.exec = Jvm.exec) (hb : c.code = cc) {k : Fin 4} {i nL : Nat} {r : Option Nat} {lv lv' : List (Nat × Value)} (hdg : decode cc pc = .ok (.astore_n k, 1)) (hi : (k : Nat) = i) (h : lv_has ls nL lv) (hn : i < nL) (hl : (i, va_rf r) :: lv.filter (fun q => !(q.1 == i) && !(q.1 + 1 == i && q.2.category == 2)) = lv')
    (kk : ∀ ls' : Array Slot, lv_has ls' nL lv' → W p l e R s m args below meth c H locs cells slots Q (F0 m (pc + 1) ls' rest)) : W p l e R s m args below meth c H locs cells slots Q (F0 m pc ls (va_rf r :: rest)) := by
  cases r with
  | none => exact lv_astore_nN hexec hb hdg hi h hn hl kk
  | some a => exact lv_astore_n hexec hb hdg hi h hn hl kk
theorem m_astore (hexec : p.tables.exec = Jvm.exec) (hb : c.code = cc) {i nL : Nat} {r : Option Nat} {lv lv' : List (Nat × Value)} (hdg : decode cc pc = .ok (.astore i, 2)) (h : lv_has ls nL lv) (hn : i < nL) (hl : (i, va_rf r) :: lv.filter (fun q => !(q.1 == i) && !(q.1 + 1 == i && q.2.category == 2)) = lv')
    (kk : ∀ ls' : Array Slot, lv_has ls' nL lv' → W p l e R s m args below meth c H locs cells slots Q (F0 m (pc + 2) ls' rest)) : W p l e R s m args below meth c H locs cells slots Q (F0 m pc ls (va_rf r :: rest)) := by
  cases r with
  | none => exact lv_astoreN hexec hb hdg h hn hl kk
  | some a => exact lv_astore hexec hb hdg h hn hl kk
theorem m_aldn (t0 : Nat) (ht0 : t0 < 9) {C : String} (h0 : aTy t0 = .object C) (hexec : p.tables.exec = Jvm.exec) (hb : c.code = cc) (hK : va_K D.1 vwCl (mm_tys aTy D) s) (hM : MM vwCl D b0 f sz s H) {i : Int32} {x : Nat} (hv : ldN t0 f a i = some x) (hdg : decode cc pc = .ok (.aaload, 1))
    (kk : W p l e R s m args below meth c H locs cells slots Q (F0 m (pc + 1) ls (.ref x :: rest))) : W p l e R s m args below meth c H locs cells slots Q (F0 m pc ls (.int i :: .ref a :: rest)) :=
  m_aldq t0 ht0 h0 hexec hb hK hM (ldN_Q hv) hdg kk
theorem m_gets (hexec : p.tables.exec = Jvm.exec) (hb : c.code = cc) {own : String} {index : Nat} (hK : KK D b0 s) (hS : mS b0 s H locs) (hown : s.vm.findClass own = some m.cls) (hlink : (Cond.fieldLink own index RX6 "KNOWN" "[I").before args s = true) (hdg : decode cc pc = .ok (.getstatic index, 3))
    (kk : W p l e R s m args below meth c H locs cells slots Q (F0 m (pc + 3) ls (.ref (D.2 9) :: rest))) : W p l e R s m args below meth c H locs cells slots Q (F0 m pc ls rest) :=
  va_gets hexec hb hK.2.2.2 hS hown hlink (fun _ h => h) hdg kk
end CTX
section CTX2
variable {p : Program} {l : Launch} {e : Env} {R : Room} {s : State} {m : MethodId} {args : Array Value} {below : List Frame} {meth : Method} {c : Code} {H : Heap} {locs : List Loc} {cells slots : Nat} {Q : State → Prop}
variable {cc : ByteArray} {pc : Nat} {ls : Array Slot} {rest : List Value} {D : mmD} {b0 : Nat}
theorem m_getsK {kn : Nat} (ek : kn = D.2 9) (hexec : p.tables.exec = Jvm.exec) (hb : c.code = cc) {own : String} {index : Nat} (hK : KK D b0 s) (hS : mS b0 s H locs) (hown : s.vm.findClass own = some m.cls) (hlink : (Cond.fieldLink own index RX6 "KNOWN" "[I").before args s = true) (hdg : decode cc pc = .ok (.getstatic index, 3))
    (kk : W p l e R s m args below meth c H locs cells slots Q (F0 m (pc + 3) ls (.ref kn :: rest))) : W p l e R s m args below meth c H locs cells slots Q (F0 m pc ls rest) := by
  subst ek
  exact m_gets hexec hb hK hS hown hlink hdg kk
end CTX2
