/-! L_law -/
set_option maxRecDepth 20000 in
theorem qi_L_law_X9 : ∀ w ∈ u_ws RX9 TX9 9, w ∈ wsL_law := by decide +kernel
set_option maxRecDepth 20000 in
theorem q_L_law_1 : Cond.classLink RL 7 RX9 ∈ wsL_law := by decide +kernel
set_option maxRecDepth 20000 in
theorem q_L_law_2 : Cond.instantiable RX9 9 ∈ wsL_law := by decide +kernel
set_option maxRecDepth 20000 in
theorem q_L_law_3 : Cond.initialized RX9 ∈ wsL_law := by decide +kernel
set_option maxRecDepth 20000 in
theorem q_L_law_4 : Cond.methodLink RL 9 yX9_init ∈ wsL_law := by decide +kernel
set_option maxRecDepth 20000 in
theorem q_L_law_5 : Cond.instanceMethod yX9_init ∈ wsL_law := by decide +kernel
set_option maxRecDepth 20000 in
theorem qi_L_law_X10 : ∀ w ∈ u_ws RX10 TX10 25, w ∈ wsL_law := by decide +kernel
set_option maxRecDepth 20000 in
theorem q_L_law_7 : Cond.classLink RL 10 RX10 ∈ wsL_law := by decide +kernel
set_option maxRecDepth 20000 in
theorem q_L_law_8 : Cond.instantiable RX10 25 ∈ wsL_law := by decide +kernel
set_option maxRecDepth 20000 in
theorem q_L_law_9 : Cond.initialized RX10 ∈ wsL_law := by decide +kernel
set_option maxRecDepth 20000 in
theorem q_L_law_10 : Cond.methodLink RL 12 yX10_init ∈ wsL_law := by decide +kernel
set_option maxRecDepth 20000 in
theorem q_L_law_11 : Cond.instanceMethod yX10_init ∈ wsL_law := by decide +kernel
noncomputable def f_L_law_798 (kn : Nat) (k18 : Nat → Nat → Nat → Int32 → mmF → Nat → Nat → Nat → Option (Int32 × mmF × Nat))  (v0 : Nat) (v1 : Nat) (v2 : Nat) (v3 : Int32) (f : mmF) (sz : Nat) (kc : Nat) (ks : Nat) : Option (Int32 × mmF × Nat) :=
  k18 v0 v1 v2 (v3 + (5 : Int32)) f sz kc ks
noncomputable def f_L_law_18 (kn : Nat)   : Nat → Nat → Nat → Nat → Int32 → mmF → Nat → Nat → Nat → Option (Int32 × mmF × Nat)
  | 0, _, _, _, _, _, _, _, _ => none
  | n + 1, v0, v1, v2, v3, f, sz, kc, ks =>
    (lenA f v0).bind fun x20 =>
    if (x20 - (5 : Int32)) < v3 then
    (if ¬ (kc ≤ 600000 ∧ ks ≤ 7302250) then none else
    some ((1 : Int32), f, sz))
    else
    (ldA 0 f v0 v3).bind fun x28 =>
    if (x28 &&& (31 : Int32)) = (0 : Int32) then
    ((ldA 0 f v0 (v3 + (1 : Int32))).bind fun x149 =>
    (ckO f v1 9).bind fun _ =>
    if ¬ (kc + 0 ≤ 600000 ∧ ks + 0 ≤ 7302250) then none else
    (f_X9_addStage v1 x149 f).bind fun q150 =>
    (ldA 0 q150.2 v0 (v3 + (1 : Int32))).bind fun x158 =>
    (ckO q150.2 v2 10).bind fun _ =>
    if ¬ (kc + 0 ≤ 600000 ∧ ks + 0 ≤ 7302250) then none else
    (f_X10_addStage v2 x158 q150.2).bind fun q159 =>
    if q150.1 = q159.1 then
    (f_L_law_798 kn (fun a0 a1 a2 a3 a4 a5 a6 a7 => f_L_law_18 kn n a0 a1 a2 a3 a4 a5 a6 a7) v0 v1 v2 v3 q159.2 sz kc ks)
    else
    some ((0 : Int32), q159.2, sz))
    else
    if (x28 &&& (31 : Int32)) = (1 : Int32) then
    ((ldA 0 f v0 (v3 + (1 : Int32))).bind fun x172 =>
    (ldA 0 f v0 (v3 + (2 : Int32))).bind fun x177 =>
    (ckO f v1 9).bind fun _ =>
    if ¬ (kc + 0 ≤ 600000 ∧ ks + 0 ≤ 7302250) then none else
    (f_X9_lead v1 x172 x177 f).bind fun q178 =>
    (ldA 0 q178.2 v0 (v3 + (1 : Int32))).bind fun x186 =>
    (ldA 0 q178.2 v0 (v3 + (2 : Int32))).bind fun x191 =>
    (ckO q178.2 v2 10).bind fun _ =>
    if ¬ (kc + 0 ≤ 600000 ∧ ks + 0 ≤ 7302250) then none else
    (f_X10_lead v2 x186 x191 q178.2).bind fun q192 =>
    if q178.1 = q192.1 then
    (f_L_law_798 kn (fun a0 a1 a2 a3 a4 a5 a6 a7 => f_L_law_18 kn n a0 a1 a2 a3 a4 a5 a6 a7) v0 v1 v2 v3 q192.2 sz kc ks)
    else
    some ((0 : Int32), q192.2, sz))
    else
    if (x28 &&& (31 : Int32)) = (2 : Int32) then
    ((ldA 0 f v0 (v3 + (1 : Int32))).bind fun x205 =>
    (ldA 0 f v0 (v3 + (2 : Int32))).bind fun x210 =>
    (ckO f v1 9).bind fun _ =>
    if ¬ (kc + 0 ≤ 600000 ∧ ks + 0 ≤ 7302250) then none else
    (f_X9_learn v1 x205 x210 f).bind fun q211 =>
    (ldA 0 q211.2 v0 (v3 + (1 : Int32))).bind fun x219 =>
    (ldA 0 q211.2 v0 (v3 + (2 : Int32))).bind fun x224 =>
    (ckO q211.2 v2 10).bind fun _ =>
    if ¬ (kc + 0 ≤ 600000 ∧ ks + 0 ≤ 7302250) then none else
    (f_X10_learn v2 x219 x224 q211.2).bind fun q225 =>
    if q211.1 = q225.1 then
    (f_L_law_798 kn (fun a0 a1 a2 a3 a4 a5 a6 a7 => f_L_law_18 kn n a0 a1 a2 a3 a4 a5 a6 a7) v0 v1 v2 v3 q225.2 sz kc ks)
    else
    some ((0 : Int32), q225.2, sz))
    else
    if (x28 &&& (31 : Int32)) = (3 : Int32) then
    ((ldA 0 f v0 (v3 + (1 : Int32))).bind fun x238 =>
    (ldA 0 f v0 (v3 + (2 : Int32))).bind fun x243 =>
    (ckO f v1 9).bind fun _ =>
    if ¬ (kc + 0 ≤ 600000 ∧ ks + 0 ≤ 7302250) then none else
    (f_X9_forget v1 x238 x243 f).bind fun q244 =>
    (ldA 0 q244.2 v0 (v3 + (1 : Int32))).bind fun x252 =>
    (ldA 0 q244.2 v0 (v3 + (2 : Int32))).bind fun x257 =>
    (ckO q244.2 v2 10).bind fun _ =>
    if ¬ (kc + 0 ≤ 600000 ∧ ks + 0 ≤ 7302250) then none else
    (f_X10_forget v2 x252 x257 q244.2).bind fun q258 =>
    if q244.1 = q258.1 then
    (f_L_law_798 kn (fun a0 a1 a2 a3 a4 a5 a6 a7 => f_L_law_18 kn n a0 a1 a2 a3 a4 a5 a6 a7) v0 v1 v2 v3 q258.2 sz kc ks)
    else
    some ((0 : Int32), q258.2, sz))
    else
    if (x28 &&& (31 : Int32)) = (4 : Int32) then
    ((ldA 0 f v0 (v3 + (1 : Int32))).bind fun x271 =>
    (ckO f v1 9).bind fun _ =>
    if ¬ (kc + 0 ≤ 600000 ∧ ks + 0 ≤ 7302250) then none else
    (f_X9_removeStage v1 x271 f).bind fun q272 =>
    (ldA 0 q272.2 v0 (v3 + (1 : Int32))).bind fun x280 =>
    (ckO q272.2 v2 10).bind fun _ =>
    if ¬ (kc + 0 ≤ 600000 ∧ ks + 0 ≤ 7302250) then none else
    (f_X10_removeStage v2 x280 q272.2).bind fun q281 =>
    if q272.1 = q281.1 then
    (f_L_law_798 kn (fun a0 a1 a2 a3 a4 a5 a6 a7 => f_L_law_18 kn n a0 a1 a2 a3 a4 a5 a6 a7) v0 v1 v2 v3 q281.2 sz kc ks)
    else
    some ((0 : Int32), q281.2, sz))
    else
    if (x28 &&& (31 : Int32)) = (5 : Int32) then
    ((ckO f v1 9).bind fun _ =>
    if ¬ (kc + 0 ≤ 600000 ∧ ks + 0 ≤ 7302250) then none else
    (f_X9_shrink v1 f).bind fun q290 =>
    (ckO q290.2 v2 10).bind fun _ =>
    if ¬ (kc + 0 ≤ 600000 ∧ ks + 0 ≤ 7302250) then none else
    (f_X10_shrink v2 q290.2).bind fun q294 =>
    if q290.1 = q294.1 then
    (f_L_law_798 kn (fun a0 a1 a2 a3 a4 a5 a6 a7 => f_L_law_18 kn n a0 a1 a2 a3 a4 a5 a6 a7) v0 v1 v2 v3 q294.2 sz kc ks)
    else
    some ((0 : Int32), q294.2, sz))
    else
    if (x28 &&& (31 : Int32)) = (6 : Int32) then
    ((ldA 0 f v0 (v3 + (1 : Int32))).bind fun x307 =>
    (ckO f v1 9).bind fun _ =>
    if ¬ (kc + 2 ≤ 600000 ∧ ks + 66 ≤ 7302250) then none else
    (f_X9_put v1 x307 f sz).bind fun q308 =>
    (ldA 0 q308.2.1 v0 (v3 + (1 : Int32))).bind fun x316 =>
    (ckO q308.2.1 v2 10).bind fun _ =>
    if ¬ ((kc + 2) + 0 ≤ 600000 ∧ (ks + 66) + 0 ≤ 7302250) then none else
    (f_X10_put v2 x316 q308.2.1).bind fun q317 =>
    if q308.1 = q317.1 then
    (f_L_law_798 kn (fun a0 a1 a2 a3 a4 a5 a6 a7 => f_L_law_18 kn n a0 a1 a2 a3 a4 a5 a6 a7) v0 v1 v2 v3 q317.2 q308.2.2 (kc + 2) (ks + 66))
    else
    some ((0 : Int32), q317.2, q308.2.2))
    else
    if (x28 &&& (31 : Int32)) = (7 : Int32) then
    ((ldA 0 f v0 (v3 + (1 : Int32))).bind fun x330 =>
    (ckO f v1 9).bind fun _ =>
    if ¬ (kc + 0 ≤ 600000 ∧ ks + 0 ≤ 7302250) then none else
    (f_X9_drop v1 x330 f).bind fun q331 =>
    (ldA 0 q331.2 v0 (v3 + (1 : Int32))).bind fun x339 =>
    (ckO q331.2 v2 10).bind fun _ =>
    if ¬ (kc + 0 ≤ 600000 ∧ ks + 0 ≤ 7302250) then none else
    (f_X10_drop v2 x339 q331.2).bind fun q340 =>
    if q331.1 = q340.1 then
    (f_L_law_798 kn (fun a0 a1 a2 a3 a4 a5 a6 a7 => f_L_law_18 kn n a0 a1 a2 a3 a4 a5 a6 a7) v0 v1 v2 v3 q340.2 sz kc ks)
    else
    some ((0 : Int32), q340.2, sz))
    else
    if (x28 &&& (31 : Int32)) = (8 : Int32) then
    ((ldA 0 f v0 (v3 + (1 : Int32))).bind fun x353 =>
    (ldA 0 f v0 (v3 + (2 : Int32))).bind fun x358 =>
    (ldA 0 f v0 (v3 + (3 : Int32))).bind fun x363 =>
    (ldA 0 f v0 (v3 + (4 : Int32))).bind fun x368 =>
    (ckO f v1 9).bind fun _ =>
    if ¬ (kc + 3 ≤ 600000 ∧ ks + 130 ≤ 7302250) then none else
    (f_X9_join v1 x353 x358 x363 x368 f sz).bind fun q369 =>
    (ldA 0 q369.2.1 v0 (v3 + (1 : Int32))).bind fun x377 =>
    (ldA 0 q369.2.1 v0 (v3 + (2 : Int32))).bind fun x382 =>
    (ldA 0 q369.2.1 v0 (v3 + (3 : Int32))).bind fun x387 =>
    (ldA 0 q369.2.1 v0 (v3 + (4 : Int32))).bind fun x392 =>
    (ckO q369.2.1 v2 10).bind fun _ =>
    if ¬ ((kc + 3) + 0 ≤ 600000 ∧ (ks + 130) + 0 ≤ 7302250) then none else
    (f_X10_join v2 x377 x382 x387 x392 q369.2.1).bind fun q393 =>
    if q369.1 = q393.1 then
    (f_L_law_798 kn (fun a0 a1 a2 a3 a4 a5 a6 a7 => f_L_law_18 kn n a0 a1 a2 a3 a4 a5 a6 a7) v0 v1 v2 v3 q393.2 q369.2.2 (kc + 3) (ks + 130))
    else
    some ((0 : Int32), q393.2, q369.2.2))
    else
    if (x28 &&& (31 : Int32)) = (9 : Int32) then
    ((ldA 0 f v0 (v3 + (1 : Int32))).bind fun x406 =>
    (ckO f v1 9).bind fun _ =>
    if ¬ (kc + 0 ≤ 600000 ∧ ks + 0 ≤ 7302250) then none else
    (f_X9_type v1 (mm_i2c x406) f).bind fun q408 =>
    (ldA 0 q408.2 v0 (v3 + (1 : Int32))).bind fun x416 =>
    (ckO q408.2 v2 10).bind fun _ =>
    if ¬ (kc + 0 ≤ 600000 ∧ ks + 0 ≤ 7302250) then none else
    (f_X10_type v2 (mm_i2c x416) q408.2).bind fun q418 =>
    if q408.1 = q418.1 then
    (f_L_law_798 kn (fun a0 a1 a2 a3 a4 a5 a6 a7 => f_L_law_18 kn n a0 a1 a2 a3 a4 a5 a6 a7) v0 v1 v2 v3 q418.2 sz kc ks)
    else
    some ((0 : Int32), q418.2, sz))
    else
    if (x28 &&& (31 : Int32)) = (10 : Int32) then
    ((ckO f v1 9).bind fun _ =>
    if ¬ (kc + 0 ≤ 600000 ∧ ks + 0 ≤ 7302250) then none else
    (f_X9_clearText v1 f).bind fun q427 =>
    (ckO q427.2 v2 10).bind fun _ =>
    if ¬ (kc + 0 ≤ 600000 ∧ ks + 0 ≤ 7302250) then none else
    (f_X10_clearText v2 q427.2).bind fun q431 =>
    if q427.1 = q431.1 then
    (f_L_law_798 kn (fun a0 a1 a2 a3 a4 a5 a6 a7 => f_L_law_18 kn n a0 a1 a2 a3 a4 a5 a6 a7) v0 v1 v2 v3 q431.2 sz kc ks)
    else
    some ((0 : Int32), q431.2, sz))
    else
    if (x28 &&& (31 : Int32)) = (11 : Int32) then
    ((ckO f v1 9).bind fun _ =>
    if ¬ (kc + 0 ≤ 600000 ∧ ks + 0 ≤ 7302250) then none else
    (f_X9_undo v1 f).bind fun q440 =>
    (ckO q440.2 v2 10).bind fun _ =>
    if ¬ (kc + 0 ≤ 600000 ∧ ks + 0 ≤ 7302250) then none else
    (f_X10_undo v2 q440.2).bind fun q444 =>
    if q440.1 = q444.1 then
    (f_L_law_798 kn (fun a0 a1 a2 a3 a4 a5 a6 a7 => f_L_law_18 kn n a0 a1 a2 a3 a4 a5 a6 a7) v0 v1 v2 v3 q444.2 sz kc ks)
    else
    some ((0 : Int32), q444.2, sz))
    else
    if (x28 &&& (31 : Int32)) = (12 : Int32) then
    ((ckO f v1 9).bind fun _ =>
    if ¬ (kc + 0 ≤ 600000 ∧ ks + 0 ≤ 7302250) then none else
    (f_X9_keep v1 f).bind fun q453 =>
    (ckO q453.2 v2 10).bind fun _ =>
    if ¬ (kc + 0 ≤ 600000 ∧ ks + 0 ≤ 7302250) then none else
    (f_X10_keep v2 q453.2).bind fun q457 =>
    if q453.1 = q457.1 then
    (f_L_law_798 kn (fun a0 a1 a2 a3 a4 a5 a6 a7 => f_L_law_18 kn n a0 a1 a2 a3 a4 a5 a6 a7) v0 v1 v2 v3 q457.2 sz kc ks)
    else
    some ((0 : Int32), q457.2, sz))
    else
    if (x28 &&& (31 : Int32)) = (13 : Int32) then
    ((ckO f v1 9).bind fun _ =>
    if ¬ (kc + 0 ≤ 600000 ∧ ks + 0 ≤ 7302250) then none else
    (f_X9_restore v1 f).bind fun q466 =>
    (ckO q466.2 v2 10).bind fun _ =>
    if ¬ (kc + 0 ≤ 600000 ∧ ks + 0 ≤ 7302250) then none else
    (f_X10_restore v2 q466.2).bind fun q470 =>
    if q466.1 = q470.1 then
    (f_L_law_798 kn (fun a0 a1 a2 a3 a4 a5 a6 a7 => f_L_law_18 kn n a0 a1 a2 a3 a4 a5 a6 a7) v0 v1 v2 v3 q470.2 sz kc ks)
    else
    some ((0 : Int32), q470.2, sz))
    else
    if (x28 &&& (31 : Int32)) = (14 : Int32) then
    ((ldA 0 f v0 (v3 + (1 : Int32))).bind fun x483 =>
    (ldA 0 f v0 (v3 + (2 : Int32))).bind fun x488 =>
    (ckO f v1 9).bind fun _ =>
    if ¬ (kc + 0 ≤ 600000 ∧ ks + 0 ≤ 7302250) then none else
    (f_X9_stage v1 x483 x488 f).bind fun q489 =>
    (ldA 0 q489.2 v0 (v3 + (1 : Int32))).bind fun x497 =>
    (ldA 0 q489.2 v0 (v3 + (2 : Int32))).bind fun x502 =>
    (ckO q489.2 v2 10).bind fun _ =>
    if ¬ (kc + 0 ≤ 600000 ∧ ks + 0 ≤ 7302250) then none else
    (f_X10_stage v2 x497 x502 q489.2).bind fun q503 =>
    if q489.1 = q503.1 then
    (f_L_law_798 kn (fun a0 a1 a2 a3 a4 a5 a6 a7 => f_L_law_18 kn n a0 a1 a2 a3 a4 a5 a6 a7) v0 v1 v2 v3 q503.2 sz kc ks)
    else
    some ((0 : Int32), q503.2, sz))
    else
    if (x28 &&& (31 : Int32)) = (15 : Int32) then
    ((ldA 0 f v0 (v3 + (1 : Int32))).bind fun x516 =>
    (ldA 0 f v0 (v3 + (2 : Int32))).bind fun x521 =>
    (ckO f v1 9).bind fun _ =>
    if ¬ (kc + 0 ≤ 600000 ∧ ks + 0 ≤ 7302250) then none else
    (f_X9_alike v1 x516 x521 f).bind fun q522 =>
    (ldA 0 q522.2 v0 (v3 + (1 : Int32))).bind fun x530 =>
    (ldA 0 q522.2 v0 (v3 + (2 : Int32))).bind fun x535 =>
    (ckO q522.2 v2 10).bind fun _ =>
    if ¬ (kc + 0 ≤ 600000 ∧ ks + 0 ≤ 7302250) then none else
    (f_X10_alike v2 x530 x535 q522.2).bind fun q536 =>
    if q522.1 = q536.1 then
    (f_L_law_798 kn (fun a0 a1 a2 a3 a4 a5 a6 a7 => f_L_law_18 kn n a0 a1 a2 a3 a4 a5 a6 a7) v0 v1 v2 v3 q536.2 sz kc ks)
    else
    some ((0 : Int32), q536.2, sz))
    else
    if (x28 &&& (31 : Int32)) = (16 : Int32) then
    ((ldA 0 f v0 (v3 + (1 : Int32))).bind fun x549 =>
    (ldA 0 f v0 (v3 + (2 : Int32))).bind fun x554 =>
    (ckO f v1 9).bind fun _ =>
    if ¬ (kc + 0 ≤ 600000 ∧ ks + 0 ≤ 7302250) then none else
    (f_X9_claim kn v1 x549 x554 f).bind fun q555 =>
    (ldA 0 q555.2 v0 (v3 + (1 : Int32))).bind fun x563 =>
    (ldA 0 q555.2 v0 (v3 + (2 : Int32))).bind fun x568 =>
    (ckO q555.2 v2 10).bind fun _ =>
    if ¬ (kc + 0 ≤ 600000 ∧ ks + 0 ≤ 7302250) then none else
    (f_X10_claim v2 x563 x568 q555.2).bind fun q569 =>
    if q555.1 = q569.1 then
    (f_L_law_798 kn (fun a0 a1 a2 a3 a4 a5 a6 a7 => f_L_law_18 kn n a0 a1 a2 a3 a4 a5 a6 a7) v0 v1 v2 v3 q569.2 sz kc ks)
    else
    some ((0 : Int32), q569.2, sz))
    else
    if (x28 &&& (31 : Int32)) = (17 : Int32) then
    ((ldA 0 f v0 (v3 + (1 : Int32))).bind fun x582 =>
    (ldA 0 f v0 (v3 + (2 : Int32))).bind fun x587 =>
    (ckO f v1 9).bind fun _ =>
    if ¬ (kc + 0 ≤ 600000 ∧ ks + 0 ≤ 7302250) then none else
    (f_X9_holds v1 x582 x587 f).bind fun q588 =>
    (ldA 0 q588.2 v0 (v3 + (1 : Int32))).bind fun x596 =>
    (ldA 0 q588.2 v0 (v3 + (2 : Int32))).bind fun x601 =>
    (ckO q588.2 v2 10).bind fun _ =>
    if ¬ (kc + 0 ≤ 600000 ∧ ks + 0 ≤ 7302250) then none else
    (f_X10_holds v2 x596 x601 q588.2).bind fun q602 =>
    if q588.1 = q602.1 then
    (f_L_law_798 kn (fun a0 a1 a2 a3 a4 a5 a6 a7 => f_L_law_18 kn n a0 a1 a2 a3 a4 a5 a6 a7) v0 v1 v2 v3 q602.2 sz kc ks)
    else
    some ((0 : Int32), q602.2, sz))
    else
    if (x28 &&& (31 : Int32)) = (18 : Int32) then
    ((ldA 0 f v0 (v3 + (1 : Int32))).bind fun x615 =>
    (ldA 0 f v0 (v3 + (2 : Int32))).bind fun x620 =>
    (ckO f v1 9).bind fun _ =>
    if ¬ (kc + 0 ≤ 600000 ∧ ks + 0 ≤ 7302250) then none else
    (f_X9_follows kn v1 x615 x620 f).bind fun q621 =>
    (ldA 0 q621.2 v0 (v3 + (1 : Int32))).bind fun x629 =>
    (ldA 0 q621.2 v0 (v3 + (2 : Int32))).bind fun x634 =>
    (ckO q621.2 v2 10).bind fun _ =>
    if ¬ (kc + 0 ≤ 600000 ∧ ks + 0 ≤ 7302250) then none else
    (f_X10_follows v2 x629 x634 q621.2).bind fun q635 =>
    if q621.1 = q635.1 then
    (f_L_law_798 kn (fun a0 a1 a2 a3 a4 a5 a6 a7 => f_L_law_18 kn n a0 a1 a2 a3 a4 a5 a6 a7) v0 v1 v2 v3 q635.2 sz kc ks)
    else
    some ((0 : Int32), q635.2, sz))
    else
    if (x28 &&& (31 : Int32)) = (19 : Int32) then
    ((ldA 0 f v0 (v3 + (1 : Int32))).bind fun x648 =>
    (ldA 0 f v0 (v3 + (2 : Int32))).bind fun x653 =>
    (ckO f v1 9).bind fun _ =>
    if ¬ (kc + 0 ≤ 600000 ∧ ks + 0 ≤ 7302250) then none else
    (f_X9_followsPlainly kn v1 x648 x653 f).bind fun q654 =>
    (ldA 0 q654.2 v0 (v3 + (1 : Int32))).bind fun x662 =>
    (ldA 0 q654.2 v0 (v3 + (2 : Int32))).bind fun x667 =>
    (ckO q654.2 v2 10).bind fun _ =>
    if ¬ (kc + 0 ≤ 600000 ∧ ks + 0 ≤ 7302250) then none else
    (f_X10_followsPlainly v2 x662 x667 q654.2).bind fun q668 =>
    if q654.1 = q668.1 then
    (f_L_law_798 kn (fun a0 a1 a2 a3 a4 a5 a6 a7 => f_L_law_18 kn n a0 a1 a2 a3 a4 a5 a6 a7) v0 v1 v2 v3 q668.2 sz kc ks)
    else
    some ((0 : Int32), q668.2, sz))
    else
    if (x28 &&& (31 : Int32)) = (20 : Int32) then
    ((ldA 0 f v0 (v3 + (1 : Int32))).bind fun x681 =>
    (ldA 0 f v0 (v3 + (2 : Int32))).bind fun x686 =>
    (ckO f v1 9).bind fun _ =>
    if ¬ (kc + 0 ≤ 600000 ∧ ks + 0 ≤ 7302250) then none else
    (f_X9_fewestStages kn v1 x681 x686 f).bind fun q687 =>
    (ldA 0 q687.2 v0 (v3 + (1 : Int32))).bind fun x695 =>
    (ldA 0 q687.2 v0 (v3 + (2 : Int32))).bind fun x700 =>
    (ckO q687.2 v2 10).bind fun _ =>
    if ¬ (kc + 0 ≤ 600000 ∧ ks + 0 ≤ 7302250) then none else
    (f_X10_fewestStages v2 x695 x700 q687.2).bind fun q701 =>
    if q687.1 = q701.1 then
    (f_L_law_798 kn (fun a0 a1 a2 a3 a4 a5 a6 a7 => f_L_law_18 kn n a0 a1 a2 a3 a4 a5 a6 a7) v0 v1 v2 v3 q701.2 sz kc ks)
    else
    some ((0 : Int32), q701.2, sz))
    else
    if (x28 &&& (31 : Int32)) = (21 : Int32) then
    ((ldA 0 f v0 (v3 + (1 : Int32))).bind fun x714 =>
    (ldA 0 f v0 (v3 + (2 : Int32))).bind fun x719 =>
    (ckO f v1 9).bind fun _ =>
    if ¬ (kc + 0 ≤ 600000 ∧ ks + 0 ≤ 7302250) then none else
    (f_X9_fewestPremises kn v1 x714 x719 f).bind fun q720 =>
    (ldA 0 q720.2 v0 (v3 + (1 : Int32))).bind fun x728 =>
    (ldA 0 q720.2 v0 (v3 + (2 : Int32))).bind fun x733 =>
    (ckO q720.2 v2 10).bind fun _ =>
    if ¬ (kc + 0 ≤ 600000 ∧ ks + 0 ≤ 7302250) then none else
    (f_X10_fewestPremises v2 x728 x733 q720.2).bind fun q734 =>
    if q720.1 = q734.1 then
    (f_L_law_798 kn (fun a0 a1 a2 a3 a4 a5 a6 a7 => f_L_law_18 kn n a0 a1 a2 a3 a4 a5 a6 a7) v0 v1 v2 v3 q734.2 sz kc ks)
    else
    some ((0 : Int32), q734.2, sz))
    else
    if (x28 &&& (31 : Int32)) = (22 : Int32) then
    ((ldA 0 f v0 (v3 + (1 : Int32))).bind fun x747 =>
    (ldA 0 f v0 (v3 + (2 : Int32))).bind fun x752 =>
    (ckO f v1 9).bind fun _ =>
    if ¬ (kc + 0 ≤ 600000 ∧ ks + 0 ≤ 7302250) then none else
    (f_X9_relation kn v1 x747 x752 f).bind fun q753 =>
    (ldA 0 q753.2 v0 (v3 + (1 : Int32))).bind fun x761 =>
    (ldA 0 q753.2 v0 (v3 + (2 : Int32))).bind fun x766 =>
    (ckO q753.2 v2 10).bind fun _ =>
    if ¬ (kc + 0 ≤ 600000 ∧ ks + 0 ≤ 7302250) then none else
    (f_X10_relation v2 x761 x766 q753.2).bind fun q767 =>
    if q753.1 = q767.1 then
    (f_L_law_798 kn (fun a0 a1 a2 a3 a4 a5 a6 a7 => f_L_law_18 kn n a0 a1 a2 a3 a4 a5 a6 a7) v0 v1 v2 v3 q767.2 sz kc ks)
    else
    some ((0 : Int32), q767.2, sz))
    else
    if (x28 &&& (31 : Int32)) = (23 : Int32) then
    ((ldA 0 f v0 (v3 + (1 : Int32))).bind fun x780 =>
    (ckO f v1 9).bind fun _ =>
    if ¬ (kc + 0 ≤ 600000 ∧ ks + 0 ≤ 7302250) then none else
    (f_X9_count v1 x780 f).bind fun q781 =>
    (ldA 0 q781.2 v0 (v3 + (1 : Int32))).bind fun x789 =>
    (ckO q781.2 v2 10).bind fun _ =>
    if ¬ (kc + 0 ≤ 600000 ∧ ks + 0 ≤ 7302250) then none else
    (f_X10_count v2 x789 q781.2).bind fun q790 =>
    if q781.1 = q790.1 then
    (f_L_law_798 kn (fun a0 a1 a2 a3 a4 a5 a6 a7 => f_L_law_18 kn n a0 a1 a2 a3 a4 a5 a6 a7) v0 v1 v2 v3 q790.2 sz kc ks)
    else
    some ((0 : Int32), q790.2, sz))
    else
    f_L_law_798 kn (fun a0 a1 a2 a3 a4 a5 a6 a7 => f_L_law_18 kn n a0 a1 a2 a3 a4 a5 a6 a7) v0 v1 v2 v3 f sz kc ks
noncomputable def f_L_law (kn : Nat) (v0 : Nat) (f : mmF) (sz : Nat) : Option (Int32 × mmF × Nat) :=
  if ¬ (0 + 1 ≤ 600000 ∧ 0 + 9 ≤ 7302250) then none else
  (some (va_up f sz (some (.inr (9, [.null, .null, .int 0, .null, .int 0, .null, .null, .null, .null]))))).bind fun f0 =>
  if ¬ ((0 + 1) + 82 ≤ 600000 ∧ (0 + 9) + 6483 ≤ 7302250) then none else
  (f_X9_init sz f0 (sz + 1)).bind fun q4 =>
  if ¬ (((0 + 1) + 82) + 1 ≤ 600000 ∧ ((0 + 9) + 6483) + 25 ≤ 7302250) then none else
  (some (va_up q4.1 q4.2 (some (.inr (10, [.null, .null, .int 0, .null, .int 0, .null, .null, .int 0, .null, .int 0, .null, .int 0, .null, .int 0, .null, .null, .null, .null, .null, .int 0, .null, .null, .null, .null, .null]))))).bind fun f8 =>
  if ¬ ((((0 + 1) + 82) + 1) + 18 ≤ 600000 ∧ (((0 + 9) + 6483) + 25) + 116203 ≤ 7302250) then none else
  (f_X10_init q4.2 f8 (q4.2 + 1)).bind fun q12 =>
  f_L_law_18 kn FU v0 sz q4.2 (0 : Int32) q12.1 q12.2 ((((0 + 1) + 82) + 1) + 18) ((((0 + 9) + 6483) + 25) + 116203)
section S_L_law
variable {p : Program} {l : Launch} {e : Env} {s : State} {m : MethodId} {args : Array Value} {below : List Frame} {meth : Method} {c : Code} {D : mmD} {b0 sz : Nat} {f : mmF}
set_option maxHeartbeats 4000000 in
set_option maxRecDepth 100000 in
theorem w_L_law_798 {b : Nat} (hb0 : b0 = s.heap.size) (C0 : CX code 4 ret wsL_law RL p s m #[Value.ref b] meth c D b0) {kn : Nat} (ek : kn = D.2 9) {k18 : Nat → Nat → Nat → Int32 → mmF → Nat → Nat → Nat → Option (Int32 × mmF × Nat)} {res : Int32 × mmF × Nat} (h1 : res.1 = 1) (hk18 : ∀ (v0 : Nat) (v1 : Nat) (v2 : Nat) (v3 : Int32) (f : mmF) (sz : Nat) (kc : Nat) (ks : Nat), k18 v0 v1 v2 v3 f sz kc ks = some res → ∀ (H : Heap) (locs : List Loc) (ls : Array Slot), MM vwCl D b0 f sz s H → mS b0 s H locs → lv_has ls 4 [(0, .ref v0), (1, .ref v1), (2, .ref v2), (3, .int v3)] → W p l e room_1 s m #[Value.ref b] below meth c H locs kc ks (lw_Z below #[Value.ref b] s) (F0 m 18 ls [])) : ∀ (v0 : Nat) (v1 : Nat) (v2 : Nat) (v3 : Int32) (f : mmF) (sz : Nat) (kc : Nat) (ks : Nat), f_L_law_798 kn k18 v0 v1 v2 v3 f sz kc ks = some res → ∀ (H : Heap) (locs : List Loc) (ls : Array Slot), MM vwCl D b0 f sz s H → mS b0 s H locs → lv_has ls 4 [(0, .ref v0), (1, .ref v1), (2, .ref v2), (3, .int v3)] → W p l e room_1 s m #[Value.ref b] below meth c H locs kc ks (lw_Z below #[Value.ref b] s) (F0 m 798 ls []) := by
  obtain ⟨hx, hb, hr, hml, hown, hts, hlocks, hK⟩ := id C0
  intro v0 v1 v2 v3 f sz kc ks h H locs ls hM hS hl
  unfold f_L_law_798 at h
  refine lv_iinc (v := (v3 + (5 : Int32))) (lv' := [(3, .int (v3 + (5 : Int32))), (0, .ref v0), (1, .ref v1), (2, .ref v2)]) hx hb dL_law_798 hl (k := 3) rfl rfl (by decide) rfl (fun ls hl => ?_)
  refine lv_goto (tgt := 18) hx hb dL_law_801 (by decide) ?_
  exact hk18 _ _ _ _ _ _ _ _ h _ _ _ hM hS (lv_sub hl [1, 2, 3, 0] rfl)
set_option maxHeartbeats 4000000 in
set_option maxRecDepth 100000 in
theorem w_L_law_18 {b : Nat} (hb0 : b0 = s.heap.size) (C0 : CX code 4 ret wsL_law RL p s m #[Value.ref b] meth c D b0) {kn : Nat} (ek : kn = D.2 9) {res : Int32 × mmF × Nat} (h1 : res.1 = 1) : ∀ (n : Nat), ∀ (v0 : Nat) (v1 : Nat) (v2 : Nat) (v3 : Int32) (f : mmF) (sz : Nat) (kc : Nat) (ks : Nat), f_L_law_18 kn n v0 v1 v2 v3 f sz kc ks = some res → ∀ (H : Heap) (locs : List Loc) (ls : Array Slot), MM vwCl D b0 f sz s H → mS b0 s H locs → lv_has ls 4 [(0, .ref v0), (1, .ref v1), (2, .ref v2), (3, .int v3)] → W p l e room_1 s m #[Value.ref b] below meth c H locs kc ks (lw_Z below #[Value.ref b] s) (F0 m 18 ls []) := by
  obtain ⟨hx, hb, hr, hml, hown, hts, hlocks, hK⟩ := id C0
  intro n
  induction n with
  | zero =>
    intro v0 v1 v2 v3 f sz kc ks h
    have h : (none : Option (Int32 × mmF × Nat)) = some res := h
    cases h
  | succ n ih =>
    intro v0 v1 v2 v3 f sz kc ks h H locs ls hM hS hl
    rw [f_L_law_18] at h
    refine lv_iload_n hx hb dL_law_18 rfl (lv_at hl 3 rfl) ?_
    refine lv_aload_n hx hb dL_law_19 rfl (lv_at hl 0 rfl) ?_
    replace h := o_b h; obtain ⟨x20, h20, h⟩ := h
    refine m_alen hx hb hK.1 hM h20 dL_law_20 ?_
    refine lv_iconst (v := (5 : Int32)) hx hb dL_law_21 (by decide) ?_
    refine lv_isub hx hb dL_law_22 ?_
    refine lv_icmp_gt (tgt := 804) hx hb dL_law_23 (by decide) (fun c23 => ?_) (fun c23 => ?_)
    · replace h := o_t c23 h
      refine lv_iconst (v := (1 : Int32)) hx hb dL_law_804 (by decide) ?_
      replace h := o_n h; obtain ⟨z805, h⟩ := h
      replace z805 := Decidable.not_not.mp z805
      refine va_forget (fun q hq => by rw [← hb0]; exact hS.2.2 q hq) ?_
      refine W.widen (k := 600000) (n := 7302250) z805.1 z805.2 ?_
      exact lw_ret hx hb hr hlocks dL_law_805
    replace h := o_f c23 h
    refine lv_aload_n hx hb dL_law_26 rfl (lv_at hl 0 rfl) ?_
    refine lv_iload_n hx hb dL_law_27 rfl (lv_at hl 3 rfl) ?_
    replace h := o_b h; obtain ⟨x28, h28, h⟩ := h
    refine m_iald hx hb hK.1 hM hS rfl h28 dL_law_28 ?_
    refine lv_bipush (v := (31 : Int32)) hx hb dL_law_29 (by decide) ?_
    refine lv_iand hx hb dL_law_31 ?_
    by_cases c32_0 : (x28 &&& (31 : Int32)) = (0 : Int32)
    · replace h := o_t c32_0 h
      refine lv_tableIn (tgt := 144) hx hb dL_law_32 (by rw [c32_0]; decide) (by rw [c32_0]; decide) (by rw [c32_0]; rfl) (by decide) ?_
      refine lv_aload_n hx hb dL_law_144 rfl (lv_at hl 1 rfl) ?_
      refine lv_aload_n hx hb dL_law_145 rfl (lv_at hl 0 rfl) ?_
      refine lv_iload_n hx hb dL_law_146 rfl (lv_at hl 3 rfl) ?_
      refine lv_iconst (v := (1 : Int32)) hx hb dL_law_147 (by decide) ?_
      refine lv_iadd hx hb dL_law_148 ?_
      replace h := o_b h; obtain ⟨x149, h149, h⟩ := h
      refine m_iald hx hb hK.1 hM hS rfl h149 dL_law_149 ?_
      replace h := o_b h; obtain ⟨_, k150, h⟩ := h
      replace h := o_n h; obtain ⟨z150, h⟩ := h
      replace z150 := Decidable.not_not.mp z150
      replace h := o_b h; obtain ⟨q150, h150, h⟩ := h
      refine m_call (va_runV (As := [.int x149]) (rest := []) ⟨hx, hb, hml, hown, hts⟩ (c_X9_addStage l D b0 sz h150) (cwV 1 hts gL_law_X9_addStage rfl rfl rfl (by decide +kernel) ⟨Nat.le_of_ble_eq_true rfl, Nat.le_of_ble_eq_true rfl⟩) ⟨PW.blind, m_recv (ci := 9) rfl hK hM k150, (fun U hU hW => ⟨rfl, PW.call hK hM hS hU hW⟩)⟩ rfl rfl hl.1 rfl (lv_room (Nat.le_of_ble_eq_true rfl)) dL_law_150 ⟨z150.1, z150.2⟩) hS (fun H locs hM hS => ?_)
      refine lv_aload_n hx hb dL_law_153 rfl (lv_at hl 2 rfl) ?_
      refine lv_aload_n hx hb dL_law_154 rfl (lv_at hl 0 rfl) ?_
      refine lv_iload_n hx hb dL_law_155 rfl (lv_at hl 3 rfl) ?_
      refine lv_iconst (v := (1 : Int32)) hx hb dL_law_156 (by decide) ?_
      refine lv_iadd hx hb dL_law_157 ?_
      replace h := o_b h; obtain ⟨x158, h158, h⟩ := h
      refine m_iald hx hb hK.1 hM hS rfl h158 dL_law_158 ?_
      replace h := o_b h; obtain ⟨_, k159, h⟩ := h
      replace h := o_n h; obtain ⟨z159, h⟩ := h
      replace z159 := Decidable.not_not.mp z159
      replace h := o_b h; obtain ⟨q159, h159, h⟩ := h
      refine m_call (va_runV (As := [.int x158]) (rest := [.int q150.1]) ⟨hx, hb, hml, hown, hts⟩ (c_X10_addStage l D b0 sz h159) (cwV 1 hts gL_law_X10_addStage rfl rfl rfl (by decide +kernel) ⟨Nat.le_of_ble_eq_true rfl, Nat.le_of_ble_eq_true rfl⟩) ⟨PW.blind, m_recv (ci := 10) rfl hK hM k159, (fun U hU hW => ⟨rfl, PW.call hK hM hS hU hW⟩)⟩ rfl rfl hl.1 rfl (lv_room (Nat.le_of_ble_eq_true rfl)) dL_law_159 ⟨z159.1, z159.2⟩) hS (fun H locs hM hS => ?_)
      refine lv_icmp_eq (tgt := 798) hx hb dL_law_162 (by decide) (fun c162 => ?_) (fun c162 => ?_)
      · replace h := o_t c162 h
        exact w_L_law_798 hb0 C0 ek h1 ih _ _ _ _ _ _ _ _ h _ _ _ hM hS (lv_sub hl [0, 1, 2, 3] rfl)
      replace h := o_f c162 h
      refine lv_iconst (v := (0 : Int32)) hx hb dL_law_165 (by decide) ?_
      cases h
      exact absurd h1 (show ¬ (0 : Int32) = 1 by decide)
    replace h := o_f c32_0 h
    by_cases c32_1 : (x28 &&& (31 : Int32)) = (1 : Int32)
    · replace h := o_t c32_1 h
      refine lv_tableIn (tgt := 167) hx hb dL_law_32 (by rw [c32_1]; decide) (by rw [c32_1]; decide) (by rw [c32_1]; rfl) (by decide) ?_
      refine lv_aload_n hx hb dL_law_167 rfl (lv_at hl 1 rfl) ?_
      refine lv_aload_n hx hb dL_law_168 rfl (lv_at hl 0 rfl) ?_
      refine lv_iload_n hx hb dL_law_169 rfl (lv_at hl 3 rfl) ?_
      refine lv_iconst (v := (1 : Int32)) hx hb dL_law_170 (by decide) ?_
      refine lv_iadd hx hb dL_law_171 ?_
      replace h := o_b h; obtain ⟨x172, h172, h⟩ := h
      refine m_iald hx hb hK.1 hM hS rfl h172 dL_law_172 ?_
      refine lv_aload_n hx hb dL_law_173 rfl (lv_at hl 0 rfl) ?_
      refine lv_iload_n hx hb dL_law_174 rfl (lv_at hl 3 rfl) ?_
      refine lv_iconst (v := (2 : Int32)) hx hb dL_law_175 (by decide) ?_
      refine lv_iadd hx hb dL_law_176 ?_
      replace h := o_b h; obtain ⟨x177, h177, h⟩ := h
      refine m_iald hx hb hK.1 hM hS rfl h177 dL_law_177 ?_
      replace h := o_b h; obtain ⟨_, k178, h⟩ := h
      replace h := o_n h; obtain ⟨z178, h⟩ := h
      replace z178 := Decidable.not_not.mp z178
      replace h := o_b h; obtain ⟨q178, h178, h⟩ := h
      refine m_call (va_runV (As := [.int x172, .int x177]) (rest := []) ⟨hx, hb, hml, hown, hts⟩ (c_X9_lead l D b0 sz h178) (cwV 2 hts gL_law_X9_lead rfl rfl rfl (by decide +kernel) ⟨Nat.le_of_ble_eq_true rfl, Nat.le_of_ble_eq_true rfl⟩) ⟨PW.blind, m_recv (ci := 9) rfl hK hM k178, (fun U hU hW => ⟨rfl, PW.call hK hM hS hU hW⟩)⟩ rfl rfl hl.1 rfl (lv_room (Nat.le_of_ble_eq_true rfl)) dL_law_178 ⟨z178.1, z178.2⟩) hS (fun H locs hM hS => ?_)
      refine lv_aload_n hx hb dL_law_181 rfl (lv_at hl 2 rfl) ?_
      refine lv_aload_n hx hb dL_law_182 rfl (lv_at hl 0 rfl) ?_
      refine lv_iload_n hx hb dL_law_183 rfl (lv_at hl 3 rfl) ?_
      refine lv_iconst (v := (1 : Int32)) hx hb dL_law_184 (by decide) ?_
      refine lv_iadd hx hb dL_law_185 ?_
      replace h := o_b h; obtain ⟨x186, h186, h⟩ := h
      refine m_iald hx hb hK.1 hM hS rfl h186 dL_law_186 ?_
      refine lv_aload_n hx hb dL_law_187 rfl (lv_at hl 0 rfl) ?_
      refine lv_iload_n hx hb dL_law_188 rfl (lv_at hl 3 rfl) ?_
      refine lv_iconst (v := (2 : Int32)) hx hb dL_law_189 (by decide) ?_
      refine lv_iadd hx hb dL_law_190 ?_
      replace h := o_b h; obtain ⟨x191, h191, h⟩ := h
      refine m_iald hx hb hK.1 hM hS rfl h191 dL_law_191 ?_
      replace h := o_b h; obtain ⟨_, k192, h⟩ := h
      replace h := o_n h; obtain ⟨z192, h⟩ := h
      replace z192 := Decidable.not_not.mp z192
      replace h := o_b h; obtain ⟨q192, h192, h⟩ := h
      refine m_call (va_runV (As := [.int x186, .int x191]) (rest := [.int q178.1]) ⟨hx, hb, hml, hown, hts⟩ (c_X10_lead l D b0 sz h192) (cwV 2 hts gL_law_X10_lead rfl rfl rfl (by decide +kernel) ⟨Nat.le_of_ble_eq_true rfl, Nat.le_of_ble_eq_true rfl⟩) ⟨PW.blind, m_recv (ci := 10) rfl hK hM k192, (fun U hU hW => ⟨rfl, PW.call hK hM hS hU hW⟩)⟩ rfl rfl hl.1 rfl (lv_room (Nat.le_of_ble_eq_true rfl)) dL_law_192 ⟨z192.1, z192.2⟩) hS (fun H locs hM hS => ?_)
      refine lv_icmp_eq (tgt := 798) hx hb dL_law_195 (by decide) (fun c195 => ?_) (fun c195 => ?_)
      · replace h := o_t c195 h
        exact w_L_law_798 hb0 C0 ek h1 ih _ _ _ _ _ _ _ _ h _ _ _ hM hS (lv_sub hl [0, 1, 2, 3] rfl)
      replace h := o_f c195 h
      refine lv_iconst (v := (0 : Int32)) hx hb dL_law_198 (by decide) ?_
      cases h
      exact absurd h1 (show ¬ (0 : Int32) = 1 by decide)
    replace h := o_f c32_1 h
    by_cases c32_2 : (x28 &&& (31 : Int32)) = (2 : Int32)
    · replace h := o_t c32_2 h
      refine lv_tableIn (tgt := 200) hx hb dL_law_32 (by rw [c32_2]; decide) (by rw [c32_2]; decide) (by rw [c32_2]; rfl) (by decide) ?_
      refine lv_aload_n hx hb dL_law_200 rfl (lv_at hl 1 rfl) ?_
      refine lv_aload_n hx hb dL_law_201 rfl (lv_at hl 0 rfl) ?_
      refine lv_iload_n hx hb dL_law_202 rfl (lv_at hl 3 rfl) ?_
      refine lv_iconst (v := (1 : Int32)) hx hb dL_law_203 (by decide) ?_
      refine lv_iadd hx hb dL_law_204 ?_
      replace h := o_b h; obtain ⟨x205, h205, h⟩ := h
      refine m_iald hx hb hK.1 hM hS rfl h205 dL_law_205 ?_
      refine lv_aload_n hx hb dL_law_206 rfl (lv_at hl 0 rfl) ?_
      refine lv_iload_n hx hb dL_law_207 rfl (lv_at hl 3 rfl) ?_
      refine lv_iconst (v := (2 : Int32)) hx hb dL_law_208 (by decide) ?_
      refine lv_iadd hx hb dL_law_209 ?_
      replace h := o_b h; obtain ⟨x210, h210, h⟩ := h
      refine m_iald hx hb hK.1 hM hS rfl h210 dL_law_210 ?_
      replace h := o_b h; obtain ⟨_, k211, h⟩ := h
      replace h := o_n h; obtain ⟨z211, h⟩ := h
      replace z211 := Decidable.not_not.mp z211
      replace h := o_b h; obtain ⟨q211, h211, h⟩ := h
      refine m_call (va_runV (As := [.int x205, .int x210]) (rest := []) ⟨hx, hb, hml, hown, hts⟩ (c_X9_learn l D b0 sz h211) (cwV 2 hts gL_law_X9_learn rfl rfl rfl (by decide +kernel) ⟨Nat.le_of_ble_eq_true rfl, Nat.le_of_ble_eq_true rfl⟩) ⟨PW.blind, m_recv (ci := 9) rfl hK hM k211, (fun U hU hW => ⟨rfl, PW.call hK hM hS hU hW⟩)⟩ rfl rfl hl.1 rfl (lv_room (Nat.le_of_ble_eq_true rfl)) dL_law_211 ⟨z211.1, z211.2⟩) hS (fun H locs hM hS => ?_)
      refine lv_aload_n hx hb dL_law_214 rfl (lv_at hl 2 rfl) ?_
      refine lv_aload_n hx hb dL_law_215 rfl (lv_at hl 0 rfl) ?_
      refine lv_iload_n hx hb dL_law_216 rfl (lv_at hl 3 rfl) ?_
      refine lv_iconst (v := (1 : Int32)) hx hb dL_law_217 (by decide) ?_
      refine lv_iadd hx hb dL_law_218 ?_
      replace h := o_b h; obtain ⟨x219, h219, h⟩ := h
      refine m_iald hx hb hK.1 hM hS rfl h219 dL_law_219 ?_
      refine lv_aload_n hx hb dL_law_220 rfl (lv_at hl 0 rfl) ?_
      refine lv_iload_n hx hb dL_law_221 rfl (lv_at hl 3 rfl) ?_
      refine lv_iconst (v := (2 : Int32)) hx hb dL_law_222 (by decide) ?_
      refine lv_iadd hx hb dL_law_223 ?_
      replace h := o_b h; obtain ⟨x224, h224, h⟩ := h
      refine m_iald hx hb hK.1 hM hS rfl h224 dL_law_224 ?_
      replace h := o_b h; obtain ⟨_, k225, h⟩ := h
      replace h := o_n h; obtain ⟨z225, h⟩ := h
      replace z225 := Decidable.not_not.mp z225
      replace h := o_b h; obtain ⟨q225, h225, h⟩ := h
      refine m_call (va_runV (As := [.int x219, .int x224]) (rest := [.int q211.1]) ⟨hx, hb, hml, hown, hts⟩ (c_X10_learn l D b0 sz h225) (cwV 2 hts gL_law_X10_learn rfl rfl rfl (by decide +kernel) ⟨Nat.le_of_ble_eq_true rfl, Nat.le_of_ble_eq_true rfl⟩) ⟨PW.blind, m_recv (ci := 10) rfl hK hM k225, (fun U hU hW => ⟨rfl, PW.call hK hM hS hU hW⟩)⟩ rfl rfl hl.1 rfl (lv_room (Nat.le_of_ble_eq_true rfl)) dL_law_225 ⟨z225.1, z225.2⟩) hS (fun H locs hM hS => ?_)
      refine lv_icmp_eq (tgt := 798) hx hb dL_law_228 (by decide) (fun c228 => ?_) (fun c228 => ?_)
      · replace h := o_t c228 h
        exact w_L_law_798 hb0 C0 ek h1 ih _ _ _ _ _ _ _ _ h _ _ _ hM hS (lv_sub hl [0, 1, 2, 3] rfl)
      replace h := o_f c228 h
      refine lv_iconst (v := (0 : Int32)) hx hb dL_law_231 (by decide) ?_
      cases h
      exact absurd h1 (show ¬ (0 : Int32) = 1 by decide)
    replace h := o_f c32_2 h
    by_cases c32_3 : (x28 &&& (31 : Int32)) = (3 : Int32)
    · replace h := o_t c32_3 h
      refine lv_tableIn (tgt := 233) hx hb dL_law_32 (by rw [c32_3]; decide) (by rw [c32_3]; decide) (by rw [c32_3]; rfl) (by decide) ?_
      refine lv_aload_n hx hb dL_law_233 rfl (lv_at hl 1 rfl) ?_
      refine lv_aload_n hx hb dL_law_234 rfl (lv_at hl 0 rfl) ?_
      refine lv_iload_n hx hb dL_law_235 rfl (lv_at hl 3 rfl) ?_
      refine lv_iconst (v := (1 : Int32)) hx hb dL_law_236 (by decide) ?_
      refine lv_iadd hx hb dL_law_237 ?_
      replace h := o_b h; obtain ⟨x238, h238, h⟩ := h
      refine m_iald hx hb hK.1 hM hS rfl h238 dL_law_238 ?_
      refine lv_aload_n hx hb dL_law_239 rfl (lv_at hl 0 rfl) ?_
      refine lv_iload_n hx hb dL_law_240 rfl (lv_at hl 3 rfl) ?_
      refine lv_iconst (v := (2 : Int32)) hx hb dL_law_241 (by decide) ?_
      refine lv_iadd hx hb dL_law_242 ?_
      replace h := o_b h; obtain ⟨x243, h243, h⟩ := h
      refine m_iald hx hb hK.1 hM hS rfl h243 dL_law_243 ?_
      replace h := o_b h; obtain ⟨_, k244, h⟩ := h
      replace h := o_n h; obtain ⟨z244, h⟩ := h
      replace z244 := Decidable.not_not.mp z244
      replace h := o_b h; obtain ⟨q244, h244, h⟩ := h
      refine m_call (va_runV (As := [.int x238, .int x243]) (rest := []) ⟨hx, hb, hml, hown, hts⟩ (c_X9_forget l D b0 sz h244) (cwV 2 hts gL_law_X9_forget rfl rfl rfl (by decide +kernel) ⟨Nat.le_of_ble_eq_true rfl, Nat.le_of_ble_eq_true rfl⟩) ⟨PW.blind, m_recv (ci := 9) rfl hK hM k244, (fun U hU hW => ⟨rfl, PW.call hK hM hS hU hW⟩)⟩ rfl rfl hl.1 rfl (lv_room (Nat.le_of_ble_eq_true rfl)) dL_law_244 ⟨z244.1, z244.2⟩) hS (fun H locs hM hS => ?_)
      refine lv_aload_n hx hb dL_law_247 rfl (lv_at hl 2 rfl) ?_
      refine lv_aload_n hx hb dL_law_248 rfl (lv_at hl 0 rfl) ?_
      refine lv_iload_n hx hb dL_law_249 rfl (lv_at hl 3 rfl) ?_
      refine lv_iconst (v := (1 : Int32)) hx hb dL_law_250 (by decide) ?_
      refine lv_iadd hx hb dL_law_251 ?_
      replace h := o_b h; obtain ⟨x252, h252, h⟩ := h
      refine m_iald hx hb hK.1 hM hS rfl h252 dL_law_252 ?_
      refine lv_aload_n hx hb dL_law_253 rfl (lv_at hl 0 rfl) ?_
      refine lv_iload_n hx hb dL_law_254 rfl (lv_at hl 3 rfl) ?_
      refine lv_iconst (v := (2 : Int32)) hx hb dL_law_255 (by decide) ?_
      refine lv_iadd hx hb dL_law_256 ?_
      replace h := o_b h; obtain ⟨x257, h257, h⟩ := h
      refine m_iald hx hb hK.1 hM hS rfl h257 dL_law_257 ?_
      replace h := o_b h; obtain ⟨_, k258, h⟩ := h
      replace h := o_n h; obtain ⟨z258, h⟩ := h
      replace z258 := Decidable.not_not.mp z258
      replace h := o_b h; obtain ⟨q258, h258, h⟩ := h
      refine m_call (va_runV (As := [.int x252, .int x257]) (rest := [.int q244.1]) ⟨hx, hb, hml, hown, hts⟩ (c_X10_forget l D b0 sz h258) (cwV 2 hts gL_law_X10_forget rfl rfl rfl (by decide +kernel) ⟨Nat.le_of_ble_eq_true rfl, Nat.le_of_ble_eq_true rfl⟩) ⟨PW.blind, m_recv (ci := 10) rfl hK hM k258, (fun U hU hW => ⟨rfl, PW.call hK hM hS hU hW⟩)⟩ rfl rfl hl.1 rfl (lv_room (Nat.le_of_ble_eq_true rfl)) dL_law_258 ⟨z258.1, z258.2⟩) hS (fun H locs hM hS => ?_)
      refine lv_icmp_eq (tgt := 798) hx hb dL_law_261 (by decide) (fun c261 => ?_) (fun c261 => ?_)
      · replace h := o_t c261 h
        exact w_L_law_798 hb0 C0 ek h1 ih _ _ _ _ _ _ _ _ h _ _ _ hM hS (lv_sub hl [0, 1, 2, 3] rfl)
      replace h := o_f c261 h
      refine lv_iconst (v := (0 : Int32)) hx hb dL_law_264 (by decide) ?_
      cases h
      exact absurd h1 (show ¬ (0 : Int32) = 1 by decide)
    replace h := o_f c32_3 h
    by_cases c32_4 : (x28 &&& (31 : Int32)) = (4 : Int32)
    · replace h := o_t c32_4 h
      refine lv_tableIn (tgt := 266) hx hb dL_law_32 (by rw [c32_4]; decide) (by rw [c32_4]; decide) (by rw [c32_4]; rfl) (by decide) ?_
      refine lv_aload_n hx hb dL_law_266 rfl (lv_at hl 1 rfl) ?_
      refine lv_aload_n hx hb dL_law_267 rfl (lv_at hl 0 rfl) ?_
      refine lv_iload_n hx hb dL_law_268 rfl (lv_at hl 3 rfl) ?_
      refine lv_iconst (v := (1 : Int32)) hx hb dL_law_269 (by decide) ?_
      refine lv_iadd hx hb dL_law_270 ?_
      replace h := o_b h; obtain ⟨x271, h271, h⟩ := h
      refine m_iald hx hb hK.1 hM hS rfl h271 dL_law_271 ?_
      replace h := o_b h; obtain ⟨_, k272, h⟩ := h
      replace h := o_n h; obtain ⟨z272, h⟩ := h
      replace z272 := Decidable.not_not.mp z272
      replace h := o_b h; obtain ⟨q272, h272, h⟩ := h
      refine m_call (va_runV (As := [.int x271]) (rest := []) ⟨hx, hb, hml, hown, hts⟩ (c_X9_removeStage l D b0 sz h272) (cwV 1 hts gL_law_X9_removeStage rfl rfl rfl (by decide +kernel) ⟨Nat.le_of_ble_eq_true rfl, Nat.le_of_ble_eq_true rfl⟩) ⟨PW.blind, m_recv (ci := 9) rfl hK hM k272, (fun U hU hW => ⟨rfl, PW.call hK hM hS hU hW⟩)⟩ rfl rfl hl.1 rfl (lv_room (Nat.le_of_ble_eq_true rfl)) dL_law_272 ⟨z272.1, z272.2⟩) hS (fun H locs hM hS => ?_)
      refine lv_aload_n hx hb dL_law_275 rfl (lv_at hl 2 rfl) ?_
      refine lv_aload_n hx hb dL_law_276 rfl (lv_at hl 0 rfl) ?_
      refine lv_iload_n hx hb dL_law_277 rfl (lv_at hl 3 rfl) ?_
      refine lv_iconst (v := (1 : Int32)) hx hb dL_law_278 (by decide) ?_
      refine lv_iadd hx hb dL_law_279 ?_
      replace h := o_b h; obtain ⟨x280, h280, h⟩ := h
      refine m_iald hx hb hK.1 hM hS rfl h280 dL_law_280 ?_
      replace h := o_b h; obtain ⟨_, k281, h⟩ := h
      replace h := o_n h; obtain ⟨z281, h⟩ := h
      replace z281 := Decidable.not_not.mp z281
      replace h := o_b h; obtain ⟨q281, h281, h⟩ := h
      refine m_call (va_runV (As := [.int x280]) (rest := [.int q272.1]) ⟨hx, hb, hml, hown, hts⟩ (c_X10_removeStage l D b0 sz h281) (cwV 1 hts gL_law_X10_removeStage rfl rfl rfl (by decide +kernel) ⟨Nat.le_of_ble_eq_true rfl, Nat.le_of_ble_eq_true rfl⟩) ⟨PW.blind, m_recv (ci := 10) rfl hK hM k281, (fun U hU hW => ⟨rfl, PW.call hK hM hS hU hW⟩)⟩ rfl rfl hl.1 rfl (lv_room (Nat.le_of_ble_eq_true rfl)) dL_law_281 ⟨z281.1, z281.2⟩) hS (fun H locs hM hS => ?_)
      refine lv_icmp_eq (tgt := 798) hx hb dL_law_284 (by decide) (fun c284 => ?_) (fun c284 => ?_)
      · replace h := o_t c284 h
        exact w_L_law_798 hb0 C0 ek h1 ih _ _ _ _ _ _ _ _ h _ _ _ hM hS (lv_sub hl [0, 1, 2, 3] rfl)
      replace h := o_f c284 h
      refine lv_iconst (v := (0 : Int32)) hx hb dL_law_287 (by decide) ?_
      cases h
      exact absurd h1 (show ¬ (0 : Int32) = 1 by decide)
    replace h := o_f c32_4 h
    by_cases c32_5 : (x28 &&& (31 : Int32)) = (5 : Int32)
    · replace h := o_t c32_5 h
      refine lv_tableIn (tgt := 289) hx hb dL_law_32 (by rw [c32_5]; decide) (by rw [c32_5]; decide) (by rw [c32_5]; rfl) (by decide) ?_
      refine lv_aload_n hx hb dL_law_289 rfl (lv_at hl 1 rfl) ?_
      replace h := o_b h; obtain ⟨_, k290, h⟩ := h
      replace h := o_n h; obtain ⟨z290, h⟩ := h
      replace z290 := Decidable.not_not.mp z290
      replace h := o_b h; obtain ⟨q290, h290, h⟩ := h
      refine m_call (va_runV (As := []) (rest := []) ⟨hx, hb, hml, hown, hts⟩ (c_X9_shrink l D b0 sz h290) (cwV 0 hts gL_law_X9_shrink rfl rfl rfl (by decide +kernel) ⟨Nat.le_of_ble_eq_true rfl, Nat.le_of_ble_eq_true rfl⟩) ⟨PW.blind, m_recv (ci := 9) rfl hK hM k290, (fun U hU hW => ⟨rfl, PW.call hK hM hS hU hW⟩)⟩ rfl rfl hl.1 rfl (lv_room (Nat.le_of_ble_eq_true rfl)) dL_law_290 ⟨z290.1, z290.2⟩) hS (fun H locs hM hS => ?_)
      refine lv_aload_n hx hb dL_law_293 rfl (lv_at hl 2 rfl) ?_
      replace h := o_b h; obtain ⟨_, k294, h⟩ := h
      replace h := o_n h; obtain ⟨z294, h⟩ := h
      replace z294 := Decidable.not_not.mp z294
      replace h := o_b h; obtain ⟨q294, h294, h⟩ := h
      refine m_call (va_runV (As := []) (rest := [.int q290.1]) ⟨hx, hb, hml, hown, hts⟩ (c_X10_shrink l D b0 sz h294) (cwV 0 hts gL_law_X10_shrink rfl rfl rfl (by decide +kernel) ⟨Nat.le_of_ble_eq_true rfl, Nat.le_of_ble_eq_true rfl⟩) ⟨PW.blind, m_recv (ci := 10) rfl hK hM k294, (fun U hU hW => ⟨rfl, PW.call hK hM hS hU hW⟩)⟩ rfl rfl hl.1 rfl (lv_room (Nat.le_of_ble_eq_true rfl)) dL_law_294 ⟨z294.1, z294.2⟩) hS (fun H locs hM hS => ?_)
      refine lv_icmp_eq (tgt := 798) hx hb dL_law_297 (by decide) (fun c297 => ?_) (fun c297 => ?_)
      · replace h := o_t c297 h
        exact w_L_law_798 hb0 C0 ek h1 ih _ _ _ _ _ _ _ _ h _ _ _ hM hS (lv_sub hl [0, 1, 2, 3] rfl)
      replace h := o_f c297 h
      refine lv_iconst (v := (0 : Int32)) hx hb dL_law_300 (by decide) ?_
      cases h
      exact absurd h1 (show ¬ (0 : Int32) = 1 by decide)
    replace h := o_f c32_5 h
    by_cases c32_6 : (x28 &&& (31 : Int32)) = (6 : Int32)
    · replace h := o_t c32_6 h
      refine lv_tableIn (tgt := 302) hx hb dL_law_32 (by rw [c32_6]; decide) (by rw [c32_6]; decide) (by rw [c32_6]; rfl) (by decide) ?_
      refine lv_aload_n hx hb dL_law_302 rfl (lv_at hl 1 rfl) ?_
      refine lv_aload_n hx hb dL_law_303 rfl (lv_at hl 0 rfl) ?_
      refine lv_iload_n hx hb dL_law_304 rfl (lv_at hl 3 rfl) ?_
      refine lv_iconst (v := (1 : Int32)) hx hb dL_law_305 (by decide) ?_
      refine lv_iadd hx hb dL_law_306 ?_
      replace h := o_b h; obtain ⟨x307, h307, h⟩ := h
      refine m_iald hx hb hK.1 hM hS rfl h307 dL_law_307 ?_
      replace h := o_b h; obtain ⟨_, k308, h⟩ := h
      replace h := o_n h; obtain ⟨z308, h⟩ := h
      replace z308 := Decidable.not_not.mp z308
      replace h := o_b h; obtain ⟨q308, h308, h⟩ := h
      refine m_call (va_runV (As := [.int x307]) (rest := []) ⟨hx, hb, hml, hown, hts⟩ (c_X9_put l D b0 sz h308) (cwV 1 hts gL_law_X9_put rfl rfl rfl (by decide +kernel) ⟨Nat.le_of_ble_eq_true rfl, Nat.le_of_ble_eq_true rfl⟩) ⟨PW.blind, m_recv (ci := 9) rfl hK hM k308, (fun U hU hW => ⟨rfl, PW.call hK hM hS hU hW⟩)⟩ rfl rfl hl.1 rfl (lv_room (Nat.le_of_ble_eq_true rfl)) dL_law_308 ⟨z308.1, z308.2⟩) hS (fun H locs hM hS => ?_)
      refine lv_aload_n hx hb dL_law_311 rfl (lv_at hl 2 rfl) ?_
      refine lv_aload_n hx hb dL_law_312 rfl (lv_at hl 0 rfl) ?_
      refine lv_iload_n hx hb dL_law_313 rfl (lv_at hl 3 rfl) ?_
      refine lv_iconst (v := (1 : Int32)) hx hb dL_law_314 (by decide) ?_
      refine lv_iadd hx hb dL_law_315 ?_
      replace h := o_b h; obtain ⟨x316, h316, h⟩ := h
      refine m_iald hx hb hK.1 hM hS rfl h316 dL_law_316 ?_
      replace h := o_b h; obtain ⟨_, k317, h⟩ := h
      replace h := o_n h; obtain ⟨z317, h⟩ := h
      replace z317 := Decidable.not_not.mp z317
      replace h := o_b h; obtain ⟨q317, h317, h⟩ := h
      refine m_call (va_runV (As := [.int x316]) (rest := [.int q308.1]) ⟨hx, hb, hml, hown, hts⟩ (c_X10_put l D b0 q308.2.2 h317) (cwV 1 hts gL_law_X10_put rfl rfl rfl (by decide +kernel) ⟨Nat.le_of_ble_eq_true rfl, Nat.le_of_ble_eq_true rfl⟩) ⟨PW.blind, m_recv (ci := 10) rfl hK hM k317, (fun U hU hW => ⟨rfl, PW.call hK hM hS hU hW⟩)⟩ rfl rfl hl.1 rfl (lv_room (Nat.le_of_ble_eq_true rfl)) dL_law_317 ⟨z317.1, z317.2⟩) hS (fun H locs hM hS => ?_)
      refine lv_icmp_eq (tgt := 798) hx hb dL_law_320 (by decide) (fun c320 => ?_) (fun c320 => ?_)
      · replace h := o_t c320 h
        exact w_L_law_798 hb0 C0 ek h1 ih _ _ _ _ _ _ _ _ h _ _ _ hM hS (lv_sub hl [0, 1, 2, 3] rfl)
      replace h := o_f c320 h
      refine lv_iconst (v := (0 : Int32)) hx hb dL_law_323 (by decide) ?_
      cases h
      exact absurd h1 (show ¬ (0 : Int32) = 1 by decide)
    replace h := o_f c32_6 h
    by_cases c32_7 : (x28 &&& (31 : Int32)) = (7 : Int32)
    · replace h := o_t c32_7 h
      refine lv_tableIn (tgt := 325) hx hb dL_law_32 (by rw [c32_7]; decide) (by rw [c32_7]; decide) (by rw [c32_7]; rfl) (by decide) ?_
      refine lv_aload_n hx hb dL_law_325 rfl (lv_at hl 1 rfl) ?_
      refine lv_aload_n hx hb dL_law_326 rfl (lv_at hl 0 rfl) ?_
      refine lv_iload_n hx hb dL_law_327 rfl (lv_at hl 3 rfl) ?_
      refine lv_iconst (v := (1 : Int32)) hx hb dL_law_328 (by decide) ?_
      refine lv_iadd hx hb dL_law_329 ?_
      replace h := o_b h; obtain ⟨x330, h330, h⟩ := h
      refine m_iald hx hb hK.1 hM hS rfl h330 dL_law_330 ?_
      replace h := o_b h; obtain ⟨_, k331, h⟩ := h
      replace h := o_n h; obtain ⟨z331, h⟩ := h
      replace z331 := Decidable.not_not.mp z331
      replace h := o_b h; obtain ⟨q331, h331, h⟩ := h
      refine m_call (va_runV (As := [.int x330]) (rest := []) ⟨hx, hb, hml, hown, hts⟩ (c_X9_drop l D b0 sz h331) (cwV 1 hts gL_law_X9_drop rfl rfl rfl (by decide +kernel) ⟨Nat.le_of_ble_eq_true rfl, Nat.le_of_ble_eq_true rfl⟩) ⟨PW.blind, m_recv (ci := 9) rfl hK hM k331, (fun U hU hW => ⟨rfl, PW.call hK hM hS hU hW⟩)⟩ rfl rfl hl.1 rfl (lv_room (Nat.le_of_ble_eq_true rfl)) dL_law_331 ⟨z331.1, z331.2⟩) hS (fun H locs hM hS => ?_)
      refine lv_aload_n hx hb dL_law_334 rfl (lv_at hl 2 rfl) ?_
      refine lv_aload_n hx hb dL_law_335 rfl (lv_at hl 0 rfl) ?_
      refine lv_iload_n hx hb dL_law_336 rfl (lv_at hl 3 rfl) ?_
      refine lv_iconst (v := (1 : Int32)) hx hb dL_law_337 (by decide) ?_
      refine lv_iadd hx hb dL_law_338 ?_
      replace h := o_b h; obtain ⟨x339, h339, h⟩ := h
      refine m_iald hx hb hK.1 hM hS rfl h339 dL_law_339 ?_
      replace h := o_b h; obtain ⟨_, k340, h⟩ := h
      replace h := o_n h; obtain ⟨z340, h⟩ := h
      replace z340 := Decidable.not_not.mp z340
      replace h := o_b h; obtain ⟨q340, h340, h⟩ := h
      refine m_call (va_runV (As := [.int x339]) (rest := [.int q331.1]) ⟨hx, hb, hml, hown, hts⟩ (c_X10_drop l D b0 sz h340) (cwV 1 hts gL_law_X10_drop rfl rfl rfl (by decide +kernel) ⟨Nat.le_of_ble_eq_true rfl, Nat.le_of_ble_eq_true rfl⟩) ⟨PW.blind, m_recv (ci := 10) rfl hK hM k340, (fun U hU hW => ⟨rfl, PW.call hK hM hS hU hW⟩)⟩ rfl rfl hl.1 rfl (lv_room (Nat.le_of_ble_eq_true rfl)) dL_law_340 ⟨z340.1, z340.2⟩) hS (fun H locs hM hS => ?_)
      refine lv_icmp_eq (tgt := 798) hx hb dL_law_343 (by decide) (fun c343 => ?_) (fun c343 => ?_)
      · replace h := o_t c343 h
        exact w_L_law_798 hb0 C0 ek h1 ih _ _ _ _ _ _ _ _ h _ _ _ hM hS (lv_sub hl [0, 1, 2, 3] rfl)
      replace h := o_f c343 h
      refine lv_iconst (v := (0 : Int32)) hx hb dL_law_346 (by decide) ?_
      cases h
      exact absurd h1 (show ¬ (0 : Int32) = 1 by decide)
    replace h := o_f c32_7 h
    by_cases c32_8 : (x28 &&& (31 : Int32)) = (8 : Int32)
    · replace h := o_t c32_8 h
      refine lv_tableIn (tgt := 348) hx hb dL_law_32 (by rw [c32_8]; decide) (by rw [c32_8]; decide) (by rw [c32_8]; rfl) (by decide) ?_
      refine lv_aload_n hx hb dL_law_348 rfl (lv_at hl 1 rfl) ?_
      refine lv_aload_n hx hb dL_law_349 rfl (lv_at hl 0 rfl) ?_
      refine lv_iload_n hx hb dL_law_350 rfl (lv_at hl 3 rfl) ?_
      refine lv_iconst (v := (1 : Int32)) hx hb dL_law_351 (by decide) ?_
      refine lv_iadd hx hb dL_law_352 ?_
      replace h := o_b h; obtain ⟨x353, h353, h⟩ := h
      refine m_iald hx hb hK.1 hM hS rfl h353 dL_law_353 ?_
      refine lv_aload_n hx hb dL_law_354 rfl (lv_at hl 0 rfl) ?_
      refine lv_iload_n hx hb dL_law_355 rfl (lv_at hl 3 rfl) ?_
      refine lv_iconst (v := (2 : Int32)) hx hb dL_law_356 (by decide) ?_
      refine lv_iadd hx hb dL_law_357 ?_
      replace h := o_b h; obtain ⟨x358, h358, h⟩ := h
      refine m_iald hx hb hK.1 hM hS rfl h358 dL_law_358 ?_
      refine lv_aload_n hx hb dL_law_359 rfl (lv_at hl 0 rfl) ?_
      refine lv_iload_n hx hb dL_law_360 rfl (lv_at hl 3 rfl) ?_
      refine lv_iconst (v := (3 : Int32)) hx hb dL_law_361 (by decide) ?_
      refine lv_iadd hx hb dL_law_362 ?_
      replace h := o_b h; obtain ⟨x363, h363, h⟩ := h
      refine m_iald hx hb hK.1 hM hS rfl h363 dL_law_363 ?_
      refine lv_aload_n hx hb dL_law_364 rfl (lv_at hl 0 rfl) ?_
      refine lv_iload_n hx hb dL_law_365 rfl (lv_at hl 3 rfl) ?_
      refine lv_iconst (v := (4 : Int32)) hx hb dL_law_366 (by decide) ?_
      refine lv_iadd hx hb dL_law_367 ?_
      replace h := o_b h; obtain ⟨x368, h368, h⟩ := h
      refine m_iald hx hb hK.1 hM hS rfl h368 dL_law_368 ?_
      replace h := o_b h; obtain ⟨_, k369, h⟩ := h
      replace h := o_n h; obtain ⟨z369, h⟩ := h
      replace z369 := Decidable.not_not.mp z369
      replace h := o_b h; obtain ⟨q369, h369, h⟩ := h
      refine m_call (va_runV (As := [.int x353, .int x358, .int x363, .int x368]) (rest := []) ⟨hx, hb, hml, hown, hts⟩ (c_X9_join l D b0 sz h369) (cwV 4 hts gL_law_X9_join rfl rfl rfl (by decide +kernel) ⟨Nat.le_of_ble_eq_true rfl, Nat.le_of_ble_eq_true rfl⟩) ⟨PW.blind, m_recv (ci := 9) rfl hK hM k369, (fun U hU hW => ⟨rfl, PW.call hK hM hS hU hW⟩)⟩ rfl rfl hl.1 rfl (lv_room (Nat.le_of_ble_eq_true rfl)) dL_law_369 ⟨z369.1, z369.2⟩) hS (fun H locs hM hS => ?_)
      refine lv_aload_n hx hb dL_law_372 rfl (lv_at hl 2 rfl) ?_
      refine lv_aload_n hx hb dL_law_373 rfl (lv_at hl 0 rfl) ?_
      refine lv_iload_n hx hb dL_law_374 rfl (lv_at hl 3 rfl) ?_
      refine lv_iconst (v := (1 : Int32)) hx hb dL_law_375 (by decide) ?_
      refine lv_iadd hx hb dL_law_376 ?_
      replace h := o_b h; obtain ⟨x377, h377, h⟩ := h
      refine m_iald hx hb hK.1 hM hS rfl h377 dL_law_377 ?_
      refine lv_aload_n hx hb dL_law_378 rfl (lv_at hl 0 rfl) ?_
      refine lv_iload_n hx hb dL_law_379 rfl (lv_at hl 3 rfl) ?_
      refine lv_iconst (v := (2 : Int32)) hx hb dL_law_380 (by decide) ?_
      refine lv_iadd hx hb dL_law_381 ?_
      replace h := o_b h; obtain ⟨x382, h382, h⟩ := h
      refine m_iald hx hb hK.1 hM hS rfl h382 dL_law_382 ?_
      refine lv_aload_n hx hb dL_law_383 rfl (lv_at hl 0 rfl) ?_
      refine lv_iload_n hx hb dL_law_384 rfl (lv_at hl 3 rfl) ?_
      refine lv_iconst (v := (3 : Int32)) hx hb dL_law_385 (by decide) ?_
      refine lv_iadd hx hb dL_law_386 ?_
      replace h := o_b h; obtain ⟨x387, h387, h⟩ := h
      refine m_iald hx hb hK.1 hM hS rfl h387 dL_law_387 ?_
      refine lv_aload_n hx hb dL_law_388 rfl (lv_at hl 0 rfl) ?_
      refine lv_iload_n hx hb dL_law_389 rfl (lv_at hl 3 rfl) ?_
      refine lv_iconst (v := (4 : Int32)) hx hb dL_law_390 (by decide) ?_
      refine lv_iadd hx hb dL_law_391 ?_
      replace h := o_b h; obtain ⟨x392, h392, h⟩ := h
      refine m_iald hx hb hK.1 hM hS rfl h392 dL_law_392 ?_
      replace h := o_b h; obtain ⟨_, k393, h⟩ := h
      replace h := o_n h; obtain ⟨z393, h⟩ := h
      replace z393 := Decidable.not_not.mp z393
      replace h := o_b h; obtain ⟨q393, h393, h⟩ := h
      refine m_call (va_runV (As := [.int x377, .int x382, .int x387, .int x392]) (rest := [.int q369.1]) ⟨hx, hb, hml, hown, hts⟩ (c_X10_join l D b0 q369.2.2 h393) (cwV 4 hts gL_law_X10_join rfl rfl rfl (by decide +kernel) ⟨Nat.le_of_ble_eq_true rfl, Nat.le_of_ble_eq_true rfl⟩) ⟨PW.blind, m_recv (ci := 10) rfl hK hM k393, (fun U hU hW => ⟨rfl, PW.call hK hM hS hU hW⟩)⟩ rfl rfl hl.1 rfl (lv_room (Nat.le_of_ble_eq_true rfl)) dL_law_393 ⟨z393.1, z393.2⟩) hS (fun H locs hM hS => ?_)
      refine lv_icmp_eq (tgt := 798) hx hb dL_law_396 (by decide) (fun c396 => ?_) (fun c396 => ?_)
      · replace h := o_t c396 h
        exact w_L_law_798 hb0 C0 ek h1 ih _ _ _ _ _ _ _ _ h _ _ _ hM hS (lv_sub hl [0, 1, 2, 3] rfl)
      replace h := o_f c396 h
      refine lv_iconst (v := (0 : Int32)) hx hb dL_law_399 (by decide) ?_
      cases h
      exact absurd h1 (show ¬ (0 : Int32) = 1 by decide)
    replace h := o_f c32_8 h
    by_cases c32_9 : (x28 &&& (31 : Int32)) = (9 : Int32)
    · replace h := o_t c32_9 h
      refine lv_tableIn (tgt := 401) hx hb dL_law_32 (by rw [c32_9]; decide) (by rw [c32_9]; decide) (by rw [c32_9]; rfl) (by decide) ?_
      refine lv_aload_n hx hb dL_law_401 rfl (lv_at hl 1 rfl) ?_
      refine lv_aload_n hx hb dL_law_402 rfl (lv_at hl 0 rfl) ?_
      refine lv_iload_n hx hb dL_law_403 rfl (lv_at hl 3 rfl) ?_
      refine lv_iconst (v := (1 : Int32)) hx hb dL_law_404 (by decide) ?_
      refine lv_iadd hx hb dL_law_405 ?_
      replace h := o_b h; obtain ⟨x406, h406, h⟩ := h
      refine m_iald hx hb hK.1 hM hS rfl h406 dL_law_406 ?_
      refine lv_i2c (v := (mm_i2c x406)) hx hb dL_law_407 rfl ?_
      replace h := o_b h; obtain ⟨_, k408, h⟩ := h
      replace h := o_n h; obtain ⟨z408, h⟩ := h
      replace z408 := Decidable.not_not.mp z408
      replace h := o_b h; obtain ⟨q408, h408, h⟩ := h
      refine m_call (va_runV (As := [.int (mm_i2c x406)]) (rest := []) ⟨hx, hb, hml, hown, hts⟩ (c_X9_type l D b0 sz h408) (cwV 1 hts gL_law_X9_type rfl rfl rfl (by decide +kernel) ⟨Nat.le_of_ble_eq_true rfl, Nat.le_of_ble_eq_true rfl⟩) ⟨PW.blind, m_recv (ci := 9) rfl hK hM k408, (fun U hU hW => ⟨rfl, PW.call hK hM hS hU hW⟩)⟩ rfl rfl hl.1 rfl (lv_room (Nat.le_of_ble_eq_true rfl)) dL_law_408 ⟨z408.1, z408.2⟩) hS (fun H locs hM hS => ?_)
      refine lv_aload_n hx hb dL_law_411 rfl (lv_at hl 2 rfl) ?_
      refine lv_aload_n hx hb dL_law_412 rfl (lv_at hl 0 rfl) ?_
      refine lv_iload_n hx hb dL_law_413 rfl (lv_at hl 3 rfl) ?_
      refine lv_iconst (v := (1 : Int32)) hx hb dL_law_414 (by decide) ?_
      refine lv_iadd hx hb dL_law_415 ?_
      replace h := o_b h; obtain ⟨x416, h416, h⟩ := h
      refine m_iald hx hb hK.1 hM hS rfl h416 dL_law_416 ?_
      refine lv_i2c (v := (mm_i2c x416)) hx hb dL_law_417 rfl ?_
      replace h := o_b h; obtain ⟨_, k418, h⟩ := h
      replace h := o_n h; obtain ⟨z418, h⟩ := h
      replace z418 := Decidable.not_not.mp z418
      replace h := o_b h; obtain ⟨q418, h418, h⟩ := h
      refine m_call (va_runV (As := [.int (mm_i2c x416)]) (rest := [.int q408.1]) ⟨hx, hb, hml, hown, hts⟩ (c_X10_type l D b0 sz h418) (cwV 1 hts gL_law_X10_type rfl rfl rfl (by decide +kernel) ⟨Nat.le_of_ble_eq_true rfl, Nat.le_of_ble_eq_true rfl⟩) ⟨PW.blind, m_recv (ci := 10) rfl hK hM k418, (fun U hU hW => ⟨rfl, PW.call hK hM hS hU hW⟩)⟩ rfl rfl hl.1 rfl (lv_room (Nat.le_of_ble_eq_true rfl)) dL_law_418 ⟨z418.1, z418.2⟩) hS (fun H locs hM hS => ?_)
      refine lv_icmp_eq (tgt := 798) hx hb dL_law_421 (by decide) (fun c421 => ?_) (fun c421 => ?_)
      · replace h := o_t c421 h
        exact w_L_law_798 hb0 C0 ek h1 ih _ _ _ _ _ _ _ _ h _ _ _ hM hS (lv_sub hl [0, 1, 2, 3] rfl)
      replace h := o_f c421 h
      refine lv_iconst (v := (0 : Int32)) hx hb dL_law_424 (by decide) ?_
      cases h
      exact absurd h1 (show ¬ (0 : Int32) = 1 by decide)
    replace h := o_f c32_9 h
    by_cases c32_10 : (x28 &&& (31 : Int32)) = (10 : Int32)
    · replace h := o_t c32_10 h
      refine lv_tableIn (tgt := 426) hx hb dL_law_32 (by rw [c32_10]; decide) (by rw [c32_10]; decide) (by rw [c32_10]; rfl) (by decide) ?_
      refine lv_aload_n hx hb dL_law_426 rfl (lv_at hl 1 rfl) ?_
      replace h := o_b h; obtain ⟨_, k427, h⟩ := h
      replace h := o_n h; obtain ⟨z427, h⟩ := h
      replace z427 := Decidable.not_not.mp z427
      replace h := o_b h; obtain ⟨q427, h427, h⟩ := h
      refine m_call (va_runV (As := []) (rest := []) ⟨hx, hb, hml, hown, hts⟩ (c_X9_clearText l D b0 sz h427) (cwV 0 hts gL_law_X9_clearText rfl rfl rfl (by decide +kernel) ⟨Nat.le_of_ble_eq_true rfl, Nat.le_of_ble_eq_true rfl⟩) ⟨PW.blind, m_recv (ci := 9) rfl hK hM k427, (fun U hU hW => ⟨rfl, PW.call hK hM hS hU hW⟩)⟩ rfl rfl hl.1 rfl (lv_room (Nat.le_of_ble_eq_true rfl)) dL_law_427 ⟨z427.1, z427.2⟩) hS (fun H locs hM hS => ?_)
      refine lv_aload_n hx hb dL_law_430 rfl (lv_at hl 2 rfl) ?_
      replace h := o_b h; obtain ⟨_, k431, h⟩ := h
      replace h := o_n h; obtain ⟨z431, h⟩ := h
      replace z431 := Decidable.not_not.mp z431
      replace h := o_b h; obtain ⟨q431, h431, h⟩ := h
      refine m_call (va_runV (As := []) (rest := [.int q427.1]) ⟨hx, hb, hml, hown, hts⟩ (c_X10_clearText l D b0 sz h431) (cwV 0 hts gL_law_X10_clearText rfl rfl rfl (by decide +kernel) ⟨Nat.le_of_ble_eq_true rfl, Nat.le_of_ble_eq_true rfl⟩) ⟨PW.blind, m_recv (ci := 10) rfl hK hM k431, (fun U hU hW => ⟨rfl, PW.call hK hM hS hU hW⟩)⟩ rfl rfl hl.1 rfl (lv_room (Nat.le_of_ble_eq_true rfl)) dL_law_431 ⟨z431.1, z431.2⟩) hS (fun H locs hM hS => ?_)
      refine lv_icmp_eq (tgt := 798) hx hb dL_law_434 (by decide) (fun c434 => ?_) (fun c434 => ?_)
      · replace h := o_t c434 h
        exact w_L_law_798 hb0 C0 ek h1 ih _ _ _ _ _ _ _ _ h _ _ _ hM hS (lv_sub hl [0, 1, 2, 3] rfl)
      replace h := o_f c434 h
      refine lv_iconst (v := (0 : Int32)) hx hb dL_law_437 (by decide) ?_
      cases h
      exact absurd h1 (show ¬ (0 : Int32) = 1 by decide)
    replace h := o_f c32_10 h
    by_cases c32_11 : (x28 &&& (31 : Int32)) = (11 : Int32)
    · replace h := o_t c32_11 h
      refine lv_tableIn (tgt := 439) hx hb dL_law_32 (by rw [c32_11]; decide) (by rw [c32_11]; decide) (by rw [c32_11]; rfl) (by decide) ?_
      refine lv_aload_n hx hb dL_law_439 rfl (lv_at hl 1 rfl) ?_
      replace h := o_b h; obtain ⟨_, k440, h⟩ := h
      replace h := o_n h; obtain ⟨z440, h⟩ := h
      replace z440 := Decidable.not_not.mp z440
      replace h := o_b h; obtain ⟨q440, h440, h⟩ := h
      refine m_call (va_runV (As := []) (rest := []) ⟨hx, hb, hml, hown, hts⟩ (c_X9_undo l D b0 sz h440) (cwV 0 hts gL_law_X9_undo rfl rfl rfl (by decide +kernel) ⟨Nat.le_of_ble_eq_true rfl, Nat.le_of_ble_eq_true rfl⟩) ⟨PW.blind, m_recv (ci := 9) rfl hK hM k440, (fun U hU hW => ⟨rfl, PW.call hK hM hS hU hW⟩)⟩ rfl rfl hl.1 rfl (lv_room (Nat.le_of_ble_eq_true rfl)) dL_law_440 ⟨z440.1, z440.2⟩) hS (fun H locs hM hS => ?_)
      refine lv_aload_n hx hb dL_law_443 rfl (lv_at hl 2 rfl) ?_
      replace h := o_b h; obtain ⟨_, k444, h⟩ := h
      replace h := o_n h; obtain ⟨z444, h⟩ := h
      replace z444 := Decidable.not_not.mp z444
      replace h := o_b h; obtain ⟨q444, h444, h⟩ := h
      refine m_call (va_runV (As := []) (rest := [.int q440.1]) ⟨hx, hb, hml, hown, hts⟩ (c_X10_undo l D b0 sz h444) (cwV 0 hts gL_law_X10_undo rfl rfl rfl (by decide +kernel) ⟨Nat.le_of_ble_eq_true rfl, Nat.le_of_ble_eq_true rfl⟩) ⟨PW.blind, m_recv (ci := 10) rfl hK hM k444, (fun U hU hW => ⟨rfl, PW.call hK hM hS hU hW⟩)⟩ rfl rfl hl.1 rfl (lv_room (Nat.le_of_ble_eq_true rfl)) dL_law_444 ⟨z444.1, z444.2⟩) hS (fun H locs hM hS => ?_)
      refine lv_icmp_eq (tgt := 798) hx hb dL_law_447 (by decide) (fun c447 => ?_) (fun c447 => ?_)
      · replace h := o_t c447 h
        exact w_L_law_798 hb0 C0 ek h1 ih _ _ _ _ _ _ _ _ h _ _ _ hM hS (lv_sub hl [0, 1, 2, 3] rfl)
      replace h := o_f c447 h
      refine lv_iconst (v := (0 : Int32)) hx hb dL_law_450 (by decide) ?_
      cases h
      exact absurd h1 (show ¬ (0 : Int32) = 1 by decide)
    replace h := o_f c32_11 h
    by_cases c32_12 : (x28 &&& (31 : Int32)) = (12 : Int32)
    · replace h := o_t c32_12 h
      refine lv_tableIn (tgt := 452) hx hb dL_law_32 (by rw [c32_12]; decide) (by rw [c32_12]; decide) (by rw [c32_12]; rfl) (by decide) ?_
      refine lv_aload_n hx hb dL_law_452 rfl (lv_at hl 1 rfl) ?_
      replace h := o_b h; obtain ⟨_, k453, h⟩ := h
      replace h := o_n h; obtain ⟨z453, h⟩ := h
      replace z453 := Decidable.not_not.mp z453
      replace h := o_b h; obtain ⟨q453, h453, h⟩ := h
      refine m_call (va_runV (As := []) (rest := []) ⟨hx, hb, hml, hown, hts⟩ (c_X9_keep l D b0 sz h453) (cwV 0 hts gL_law_X9_keep rfl rfl rfl (by decide +kernel) ⟨Nat.le_of_ble_eq_true rfl, Nat.le_of_ble_eq_true rfl⟩) ⟨PW.blind, m_recv (ci := 9) rfl hK hM k453, (fun U hU hW => ⟨rfl, PW.call hK hM hS hU hW⟩)⟩ rfl rfl hl.1 rfl (lv_room (Nat.le_of_ble_eq_true rfl)) dL_law_453 ⟨z453.1, z453.2⟩) hS (fun H locs hM hS => ?_)
      refine lv_aload_n hx hb dL_law_456 rfl (lv_at hl 2 rfl) ?_
      replace h := o_b h; obtain ⟨_, k457, h⟩ := h
      replace h := o_n h; obtain ⟨z457, h⟩ := h
      replace z457 := Decidable.not_not.mp z457
      replace h := o_b h; obtain ⟨q457, h457, h⟩ := h
      refine m_call (va_runV (As := []) (rest := [.int q453.1]) ⟨hx, hb, hml, hown, hts⟩ (c_X10_keep l D b0 sz h457) (cwV 0 hts gL_law_X10_keep rfl rfl rfl (by decide +kernel) ⟨Nat.le_of_ble_eq_true rfl, Nat.le_of_ble_eq_true rfl⟩) ⟨PW.blind, m_recv (ci := 10) rfl hK hM k457, (fun U hU hW => ⟨rfl, PW.call hK hM hS hU hW⟩)⟩ rfl rfl hl.1 rfl (lv_room (Nat.le_of_ble_eq_true rfl)) dL_law_457 ⟨z457.1, z457.2⟩) hS (fun H locs hM hS => ?_)
      refine lv_icmp_eq (tgt := 798) hx hb dL_law_460 (by decide) (fun c460 => ?_) (fun c460 => ?_)
      · replace h := o_t c460 h
        exact w_L_law_798 hb0 C0 ek h1 ih _ _ _ _ _ _ _ _ h _ _ _ hM hS (lv_sub hl [0, 1, 2, 3] rfl)
      replace h := o_f c460 h
      refine lv_iconst (v := (0 : Int32)) hx hb dL_law_463 (by decide) ?_
      cases h
      exact absurd h1 (show ¬ (0 : Int32) = 1 by decide)
    replace h := o_f c32_12 h
    by_cases c32_13 : (x28 &&& (31 : Int32)) = (13 : Int32)
    · replace h := o_t c32_13 h
      refine lv_tableIn (tgt := 465) hx hb dL_law_32 (by rw [c32_13]; decide) (by rw [c32_13]; decide) (by rw [c32_13]; rfl) (by decide) ?_
      refine lv_aload_n hx hb dL_law_465 rfl (lv_at hl 1 rfl) ?_
      replace h := o_b h; obtain ⟨_, k466, h⟩ := h
      replace h := o_n h; obtain ⟨z466, h⟩ := h
      replace z466 := Decidable.not_not.mp z466
      replace h := o_b h; obtain ⟨q466, h466, h⟩ := h
      refine m_call (va_runV (As := []) (rest := []) ⟨hx, hb, hml, hown, hts⟩ (c_X9_restore l D b0 sz h466) (cwV 0 hts gL_law_X9_restore rfl rfl rfl (by decide +kernel) ⟨Nat.le_of_ble_eq_true rfl, Nat.le_of_ble_eq_true rfl⟩) ⟨PW.blind, m_recv (ci := 9) rfl hK hM k466, (fun U hU hW => ⟨rfl, PW.call hK hM hS hU hW⟩)⟩ rfl rfl hl.1 rfl (lv_room (Nat.le_of_ble_eq_true rfl)) dL_law_466 ⟨z466.1, z466.2⟩) hS (fun H locs hM hS => ?_)
      refine lv_aload_n hx hb dL_law_469 rfl (lv_at hl 2 rfl) ?_
      replace h := o_b h; obtain ⟨_, k470, h⟩ := h
      replace h := o_n h; obtain ⟨z470, h⟩ := h
      replace z470 := Decidable.not_not.mp z470
      replace h := o_b h; obtain ⟨q470, h470, h⟩ := h
      refine m_call (va_runV (As := []) (rest := [.int q466.1]) ⟨hx, hb, hml, hown, hts⟩ (c_X10_restore l D b0 sz h470) (cwV 0 hts gL_law_X10_restore rfl rfl rfl (by decide +kernel) ⟨Nat.le_of_ble_eq_true rfl, Nat.le_of_ble_eq_true rfl⟩) ⟨PW.blind, m_recv (ci := 10) rfl hK hM k470, (fun U hU hW => ⟨rfl, PW.call hK hM hS hU hW⟩)⟩ rfl rfl hl.1 rfl (lv_room (Nat.le_of_ble_eq_true rfl)) dL_law_470 ⟨z470.1, z470.2⟩) hS (fun H locs hM hS => ?_)
      refine lv_icmp_eq (tgt := 798) hx hb dL_law_473 (by decide) (fun c473 => ?_) (fun c473 => ?_)
      · replace h := o_t c473 h
        exact w_L_law_798 hb0 C0 ek h1 ih _ _ _ _ _ _ _ _ h _ _ _ hM hS (lv_sub hl [0, 1, 2, 3] rfl)
      replace h := o_f c473 h
      refine lv_iconst (v := (0 : Int32)) hx hb dL_law_476 (by decide) ?_
      cases h
      exact absurd h1 (show ¬ (0 : Int32) = 1 by decide)
    replace h := o_f c32_13 h
    by_cases c32_14 : (x28 &&& (31 : Int32)) = (14 : Int32)
    · replace h := o_t c32_14 h
      refine lv_tableIn (tgt := 478) hx hb dL_law_32 (by rw [c32_14]; decide) (by rw [c32_14]; decide) (by rw [c32_14]; rfl) (by decide) ?_
      refine lv_aload_n hx hb dL_law_478 rfl (lv_at hl 1 rfl) ?_
      refine lv_aload_n hx hb dL_law_479 rfl (lv_at hl 0 rfl) ?_
      refine lv_iload_n hx hb dL_law_480 rfl (lv_at hl 3 rfl) ?_
      refine lv_iconst (v := (1 : Int32)) hx hb dL_law_481 (by decide) ?_
      refine lv_iadd hx hb dL_law_482 ?_
      replace h := o_b h; obtain ⟨x483, h483, h⟩ := h
      refine m_iald hx hb hK.1 hM hS rfl h483 dL_law_483 ?_
      refine lv_aload_n hx hb dL_law_484 rfl (lv_at hl 0 rfl) ?_
      refine lv_iload_n hx hb dL_law_485 rfl (lv_at hl 3 rfl) ?_
      refine lv_iconst (v := (2 : Int32)) hx hb dL_law_486 (by decide) ?_
      refine lv_iadd hx hb dL_law_487 ?_
      replace h := o_b h; obtain ⟨x488, h488, h⟩ := h
      refine m_iald hx hb hK.1 hM hS rfl h488 dL_law_488 ?_
      replace h := o_b h; obtain ⟨_, k489, h⟩ := h
      replace h := o_n h; obtain ⟨z489, h⟩ := h
      replace z489 := Decidable.not_not.mp z489
      replace h := o_b h; obtain ⟨q489, h489, h⟩ := h
      refine m_call (va_runV (As := [.int x483, .int x488]) (rest := []) ⟨hx, hb, hml, hown, hts⟩ (c_X9_stage l D b0 sz h489) (cwV 2 hts gL_law_X9_stage rfl rfl rfl (by decide +kernel) ⟨Nat.le_of_ble_eq_true rfl, Nat.le_of_ble_eq_true rfl⟩) ⟨PW.blind, m_recv (ci := 9) rfl hK hM k489, (fun U hU hW => ⟨rfl, PW.call hK hM hS hU hW⟩)⟩ rfl rfl hl.1 rfl (lv_room (Nat.le_of_ble_eq_true rfl)) dL_law_489 ⟨z489.1, z489.2⟩) hS (fun H locs hM hS => ?_)
      refine lv_aload_n hx hb dL_law_492 rfl (lv_at hl 2 rfl) ?_
      refine lv_aload_n hx hb dL_law_493 rfl (lv_at hl 0 rfl) ?_
      refine lv_iload_n hx hb dL_law_494 rfl (lv_at hl 3 rfl) ?_
      refine lv_iconst (v := (1 : Int32)) hx hb dL_law_495 (by decide) ?_
      refine lv_iadd hx hb dL_law_496 ?_
      replace h := o_b h; obtain ⟨x497, h497, h⟩ := h
      refine m_iald hx hb hK.1 hM hS rfl h497 dL_law_497 ?_
      refine lv_aload_n hx hb dL_law_498 rfl (lv_at hl 0 rfl) ?_
      refine lv_iload_n hx hb dL_law_499 rfl (lv_at hl 3 rfl) ?_
      refine lv_iconst (v := (2 : Int32)) hx hb dL_law_500 (by decide) ?_
      refine lv_iadd hx hb dL_law_501 ?_
      replace h := o_b h; obtain ⟨x502, h502, h⟩ := h
      refine m_iald hx hb hK.1 hM hS rfl h502 dL_law_502 ?_
      replace h := o_b h; obtain ⟨_, k503, h⟩ := h
      replace h := o_n h; obtain ⟨z503, h⟩ := h
      replace z503 := Decidable.not_not.mp z503
      replace h := o_b h; obtain ⟨q503, h503, h⟩ := h
      refine m_call (va_runV (As := [.int x497, .int x502]) (rest := [.int q489.1]) ⟨hx, hb, hml, hown, hts⟩ (c_X10_stage l D b0 sz h503) (cwV 2 hts gL_law_X10_stage rfl rfl rfl (by decide +kernel) ⟨Nat.le_of_ble_eq_true rfl, Nat.le_of_ble_eq_true rfl⟩) ⟨PW.blind, m_recv (ci := 10) rfl hK hM k503, (fun U hU hW => ⟨rfl, PW.call hK hM hS hU hW⟩)⟩ rfl rfl hl.1 rfl (lv_room (Nat.le_of_ble_eq_true rfl)) dL_law_503 ⟨z503.1, z503.2⟩) hS (fun H locs hM hS => ?_)
      refine lv_icmp_eq (tgt := 798) hx hb dL_law_506 (by decide) (fun c506 => ?_) (fun c506 => ?_)
      · replace h := o_t c506 h
        exact w_L_law_798 hb0 C0 ek h1 ih _ _ _ _ _ _ _ _ h _ _ _ hM hS (lv_sub hl [0, 1, 2, 3] rfl)
      replace h := o_f c506 h
      refine lv_iconst (v := (0 : Int32)) hx hb dL_law_509 (by decide) ?_
      cases h
      exact absurd h1 (show ¬ (0 : Int32) = 1 by decide)
    replace h := o_f c32_14 h
    by_cases c32_15 : (x28 &&& (31 : Int32)) = (15 : Int32)
    · replace h := o_t c32_15 h
      refine lv_tableIn (tgt := 511) hx hb dL_law_32 (by rw [c32_15]; decide) (by rw [c32_15]; decide) (by rw [c32_15]; rfl) (by decide) ?_
      refine lv_aload_n hx hb dL_law_511 rfl (lv_at hl 1 rfl) ?_
      refine lv_aload_n hx hb dL_law_512 rfl (lv_at hl 0 rfl) ?_
      refine lv_iload_n hx hb dL_law_513 rfl (lv_at hl 3 rfl) ?_
      refine lv_iconst (v := (1 : Int32)) hx hb dL_law_514 (by decide) ?_
      refine lv_iadd hx hb dL_law_515 ?_
      replace h := o_b h; obtain ⟨x516, h516, h⟩ := h
      refine m_iald hx hb hK.1 hM hS rfl h516 dL_law_516 ?_
      refine lv_aload_n hx hb dL_law_517 rfl (lv_at hl 0 rfl) ?_
      refine lv_iload_n hx hb dL_law_518 rfl (lv_at hl 3 rfl) ?_
      refine lv_iconst (v := (2 : Int32)) hx hb dL_law_519 (by decide) ?_
      refine lv_iadd hx hb dL_law_520 ?_
      replace h := o_b h; obtain ⟨x521, h521, h⟩ := h
      refine m_iald hx hb hK.1 hM hS rfl h521 dL_law_521 ?_
      replace h := o_b h; obtain ⟨_, k522, h⟩ := h
      replace h := o_n h; obtain ⟨z522, h⟩ := h
      replace z522 := Decidable.not_not.mp z522
      replace h := o_b h; obtain ⟨q522, h522, h⟩ := h
      refine m_call (va_runV (As := [.int x516, .int x521]) (rest := []) ⟨hx, hb, hml, hown, hts⟩ (c_X9_alike l D b0 sz h522) (cwV 2 hts gL_law_X9_alike rfl rfl rfl (by decide +kernel) ⟨Nat.le_of_ble_eq_true rfl, Nat.le_of_ble_eq_true rfl⟩) ⟨PW.blind, m_recv (ci := 9) rfl hK hM k522, (fun U hU hW => ⟨rfl, PW.call hK hM hS hU hW⟩)⟩ rfl rfl hl.1 rfl (lv_room (Nat.le_of_ble_eq_true rfl)) dL_law_522 ⟨z522.1, z522.2⟩) hS (fun H locs hM hS => ?_)
      refine lv_aload_n hx hb dL_law_525 rfl (lv_at hl 2 rfl) ?_
      refine lv_aload_n hx hb dL_law_526 rfl (lv_at hl 0 rfl) ?_
      refine lv_iload_n hx hb dL_law_527 rfl (lv_at hl 3 rfl) ?_
      refine lv_iconst (v := (1 : Int32)) hx hb dL_law_528 (by decide) ?_
      refine lv_iadd hx hb dL_law_529 ?_
      replace h := o_b h; obtain ⟨x530, h530, h⟩ := h
      refine m_iald hx hb hK.1 hM hS rfl h530 dL_law_530 ?_
      refine lv_aload_n hx hb dL_law_531 rfl (lv_at hl 0 rfl) ?_
      refine lv_iload_n hx hb dL_law_532 rfl (lv_at hl 3 rfl) ?_
      refine lv_iconst (v := (2 : Int32)) hx hb dL_law_533 (by decide) ?_
      refine lv_iadd hx hb dL_law_534 ?_
      replace h := o_b h; obtain ⟨x535, h535, h⟩ := h
      refine m_iald hx hb hK.1 hM hS rfl h535 dL_law_535 ?_
      replace h := o_b h; obtain ⟨_, k536, h⟩ := h
      replace h := o_n h; obtain ⟨z536, h⟩ := h
      replace z536 := Decidable.not_not.mp z536
      replace h := o_b h; obtain ⟨q536, h536, h⟩ := h
      refine m_call (va_runV (As := [.int x530, .int x535]) (rest := [.int q522.1]) ⟨hx, hb, hml, hown, hts⟩ (c_X10_alike l D b0 sz h536) (cwV 2 hts gL_law_X10_alike rfl rfl rfl (by decide +kernel) ⟨Nat.le_of_ble_eq_true rfl, Nat.le_of_ble_eq_true rfl⟩) ⟨PW.blind, m_recv (ci := 10) rfl hK hM k536, (fun U hU hW => ⟨rfl, PW.call hK hM hS hU hW⟩)⟩ rfl rfl hl.1 rfl (lv_room (Nat.le_of_ble_eq_true rfl)) dL_law_536 ⟨z536.1, z536.2⟩) hS (fun H locs hM hS => ?_)
      refine lv_icmp_eq (tgt := 798) hx hb dL_law_539 (by decide) (fun c539 => ?_) (fun c539 => ?_)
      · replace h := o_t c539 h
        exact w_L_law_798 hb0 C0 ek h1 ih _ _ _ _ _ _ _ _ h _ _ _ hM hS (lv_sub hl [0, 1, 2, 3] rfl)
      replace h := o_f c539 h
      refine lv_iconst (v := (0 : Int32)) hx hb dL_law_542 (by decide) ?_
      cases h
      exact absurd h1 (show ¬ (0 : Int32) = 1 by decide)
    replace h := o_f c32_15 h
    by_cases c32_16 : (x28 &&& (31 : Int32)) = (16 : Int32)
    · replace h := o_t c32_16 h
      refine lv_tableIn (tgt := 544) hx hb dL_law_32 (by rw [c32_16]; decide) (by rw [c32_16]; decide) (by rw [c32_16]; rfl) (by decide) ?_
      refine lv_aload_n hx hb dL_law_544 rfl (lv_at hl 1 rfl) ?_
      refine lv_aload_n hx hb dL_law_545 rfl (lv_at hl 0 rfl) ?_
      refine lv_iload_n hx hb dL_law_546 rfl (lv_at hl 3 rfl) ?_
      refine lv_iconst (v := (1 : Int32)) hx hb dL_law_547 (by decide) ?_
      refine lv_iadd hx hb dL_law_548 ?_
      replace h := o_b h; obtain ⟨x549, h549, h⟩ := h
      refine m_iald hx hb hK.1 hM hS rfl h549 dL_law_549 ?_
      refine lv_aload_n hx hb dL_law_550 rfl (lv_at hl 0 rfl) ?_
      refine lv_iload_n hx hb dL_law_551 rfl (lv_at hl 3 rfl) ?_
      refine lv_iconst (v := (2 : Int32)) hx hb dL_law_552 (by decide) ?_
      refine lv_iadd hx hb dL_law_553 ?_
      replace h := o_b h; obtain ⟨x554, h554, h⟩ := h
      refine m_iald hx hb hK.1 hM hS rfl h554 dL_law_554 ?_
      replace h := o_b h; obtain ⟨_, k555, h⟩ := h
      replace h := o_n h; obtain ⟨z555, h⟩ := h
      replace z555 := Decidable.not_not.mp z555
      replace h := o_b h; obtain ⟨q555, h555, h⟩ := h
      refine m_call (va_runV (As := [.int x549, .int x554]) (rest := []) ⟨hx, hb, hml, hown, hts⟩ (c_X9_claim l D b0 sz ek h555) (cwV 2 hts gL_law_X9_claim rfl rfl rfl (by decide +kernel) ⟨Nat.le_of_ble_eq_true rfl, Nat.le_of_ble_eq_true rfl⟩) ⟨PW.blind, m_recv (ci := 9) rfl hK hM k555, (fun U hU hW => ⟨rfl, PW.call hK hM hS hU hW⟩)⟩ rfl rfl hl.1 rfl (lv_room (Nat.le_of_ble_eq_true rfl)) dL_law_555 ⟨z555.1, z555.2⟩) hS (fun H locs hM hS => ?_)
      refine lv_aload_n hx hb dL_law_558 rfl (lv_at hl 2 rfl) ?_
      refine lv_aload_n hx hb dL_law_559 rfl (lv_at hl 0 rfl) ?_
      refine lv_iload_n hx hb dL_law_560 rfl (lv_at hl 3 rfl) ?_
      refine lv_iconst (v := (1 : Int32)) hx hb dL_law_561 (by decide) ?_
      refine lv_iadd hx hb dL_law_562 ?_
      replace h := o_b h; obtain ⟨x563, h563, h⟩ := h
      refine m_iald hx hb hK.1 hM hS rfl h563 dL_law_563 ?_
      refine lv_aload_n hx hb dL_law_564 rfl (lv_at hl 0 rfl) ?_
      refine lv_iload_n hx hb dL_law_565 rfl (lv_at hl 3 rfl) ?_
      refine lv_iconst (v := (2 : Int32)) hx hb dL_law_566 (by decide) ?_
      refine lv_iadd hx hb dL_law_567 ?_
      replace h := o_b h; obtain ⟨x568, h568, h⟩ := h
      refine m_iald hx hb hK.1 hM hS rfl h568 dL_law_568 ?_
      replace h := o_b h; obtain ⟨_, k569, h⟩ := h
      replace h := o_n h; obtain ⟨z569, h⟩ := h
      replace z569 := Decidable.not_not.mp z569
      replace h := o_b h; obtain ⟨q569, h569, h⟩ := h
      refine m_call (va_runV (As := [.int x563, .int x568]) (rest := [.int q555.1]) ⟨hx, hb, hml, hown, hts⟩ (c_X10_claim l D b0 sz h569) (cwV 2 hts gL_law_X10_claim rfl rfl rfl (by decide +kernel) ⟨Nat.le_of_ble_eq_true rfl, Nat.le_of_ble_eq_true rfl⟩) ⟨PW.blind, m_recv (ci := 10) rfl hK hM k569, (fun U hU hW => ⟨rfl, PW.call hK hM hS hU hW⟩)⟩ rfl rfl hl.1 rfl (lv_room (Nat.le_of_ble_eq_true rfl)) dL_law_569 ⟨z569.1, z569.2⟩) hS (fun H locs hM hS => ?_)
      refine lv_icmp_eq (tgt := 798) hx hb dL_law_572 (by decide) (fun c572 => ?_) (fun c572 => ?_)
      · replace h := o_t c572 h
        exact w_L_law_798 hb0 C0 ek h1 ih _ _ _ _ _ _ _ _ h _ _ _ hM hS (lv_sub hl [0, 1, 2, 3] rfl)
      replace h := o_f c572 h
      refine lv_iconst (v := (0 : Int32)) hx hb dL_law_575 (by decide) ?_
      cases h
      exact absurd h1 (show ¬ (0 : Int32) = 1 by decide)
    replace h := o_f c32_16 h
    by_cases c32_17 : (x28 &&& (31 : Int32)) = (17 : Int32)
    · replace h := o_t c32_17 h
      refine lv_tableIn (tgt := 577) hx hb dL_law_32 (by rw [c32_17]; decide) (by rw [c32_17]; decide) (by rw [c32_17]; rfl) (by decide) ?_
      refine lv_aload_n hx hb dL_law_577 rfl (lv_at hl 1 rfl) ?_
      refine lv_aload_n hx hb dL_law_578 rfl (lv_at hl 0 rfl) ?_
      refine lv_iload_n hx hb dL_law_579 rfl (lv_at hl 3 rfl) ?_
      refine lv_iconst (v := (1 : Int32)) hx hb dL_law_580 (by decide) ?_
      refine lv_iadd hx hb dL_law_581 ?_
      replace h := o_b h; obtain ⟨x582, h582, h⟩ := h
      refine m_iald hx hb hK.1 hM hS rfl h582 dL_law_582 ?_
      refine lv_aload_n hx hb dL_law_583 rfl (lv_at hl 0 rfl) ?_
      refine lv_iload_n hx hb dL_law_584 rfl (lv_at hl 3 rfl) ?_
      refine lv_iconst (v := (2 : Int32)) hx hb dL_law_585 (by decide) ?_
      refine lv_iadd hx hb dL_law_586 ?_
      replace h := o_b h; obtain ⟨x587, h587, h⟩ := h
      refine m_iald hx hb hK.1 hM hS rfl h587 dL_law_587 ?_
      replace h := o_b h; obtain ⟨_, k588, h⟩ := h
      replace h := o_n h; obtain ⟨z588, h⟩ := h
      replace z588 := Decidable.not_not.mp z588
      replace h := o_b h; obtain ⟨q588, h588, h⟩ := h
      refine m_call (va_runV (As := [.int x582, .int x587]) (rest := []) ⟨hx, hb, hml, hown, hts⟩ (c_X9_holds l D b0 sz h588) (cwV 2 hts gL_law_X9_holds rfl rfl rfl (by decide +kernel) ⟨Nat.le_of_ble_eq_true rfl, Nat.le_of_ble_eq_true rfl⟩) ⟨PW.blind, m_recv (ci := 9) rfl hK hM k588, (fun U hU hW => ⟨rfl, PW.call hK hM hS hU hW⟩)⟩ rfl rfl hl.1 rfl (lv_room (Nat.le_of_ble_eq_true rfl)) dL_law_588 ⟨z588.1, z588.2⟩) hS (fun H locs hM hS => ?_)
      refine lv_aload_n hx hb dL_law_591 rfl (lv_at hl 2 rfl) ?_
      refine lv_aload_n hx hb dL_law_592 rfl (lv_at hl 0 rfl) ?_
      refine lv_iload_n hx hb dL_law_593 rfl (lv_at hl 3 rfl) ?_
      refine lv_iconst (v := (1 : Int32)) hx hb dL_law_594 (by decide) ?_
      refine lv_iadd hx hb dL_law_595 ?_
      replace h := o_b h; obtain ⟨x596, h596, h⟩ := h
      refine m_iald hx hb hK.1 hM hS rfl h596 dL_law_596 ?_
      refine lv_aload_n hx hb dL_law_597 rfl (lv_at hl 0 rfl) ?_
      refine lv_iload_n hx hb dL_law_598 rfl (lv_at hl 3 rfl) ?_
      refine lv_iconst (v := (2 : Int32)) hx hb dL_law_599 (by decide) ?_
      refine lv_iadd hx hb dL_law_600 ?_
      replace h := o_b h; obtain ⟨x601, h601, h⟩ := h
      refine m_iald hx hb hK.1 hM hS rfl h601 dL_law_601 ?_
      replace h := o_b h; obtain ⟨_, k602, h⟩ := h
      replace h := o_n h; obtain ⟨z602, h⟩ := h
      replace z602 := Decidable.not_not.mp z602
      replace h := o_b h; obtain ⟨q602, h602, h⟩ := h
      refine m_call (va_runV (As := [.int x596, .int x601]) (rest := [.int q588.1]) ⟨hx, hb, hml, hown, hts⟩ (c_X10_holds l D b0 sz h602) (cwV 2 hts gL_law_X10_holds rfl rfl rfl (by decide +kernel) ⟨Nat.le_of_ble_eq_true rfl, Nat.le_of_ble_eq_true rfl⟩) ⟨PW.blind, m_recv (ci := 10) rfl hK hM k602, (fun U hU hW => ⟨rfl, PW.call hK hM hS hU hW⟩)⟩ rfl rfl hl.1 rfl (lv_room (Nat.le_of_ble_eq_true rfl)) dL_law_602 ⟨z602.1, z602.2⟩) hS (fun H locs hM hS => ?_)
      refine lv_icmp_eq (tgt := 798) hx hb dL_law_605 (by decide) (fun c605 => ?_) (fun c605 => ?_)
      · replace h := o_t c605 h
        exact w_L_law_798 hb0 C0 ek h1 ih _ _ _ _ _ _ _ _ h _ _ _ hM hS (lv_sub hl [0, 1, 2, 3] rfl)
      replace h := o_f c605 h
      refine lv_iconst (v := (0 : Int32)) hx hb dL_law_608 (by decide) ?_
      cases h
      exact absurd h1 (show ¬ (0 : Int32) = 1 by decide)
    replace h := o_f c32_17 h
    by_cases c32_18 : (x28 &&& (31 : Int32)) = (18 : Int32)
    · replace h := o_t c32_18 h
      refine lv_tableIn (tgt := 610) hx hb dL_law_32 (by rw [c32_18]; decide) (by rw [c32_18]; decide) (by rw [c32_18]; rfl) (by decide) ?_
      refine lv_aload_n hx hb dL_law_610 rfl (lv_at hl 1 rfl) ?_
      refine lv_aload_n hx hb dL_law_611 rfl (lv_at hl 0 rfl) ?_
      refine lv_iload_n hx hb dL_law_612 rfl (lv_at hl 3 rfl) ?_
      refine lv_iconst (v := (1 : Int32)) hx hb dL_law_613 (by decide) ?_
      refine lv_iadd hx hb dL_law_614 ?_
      replace h := o_b h; obtain ⟨x615, h615, h⟩ := h
      refine m_iald hx hb hK.1 hM hS rfl h615 dL_law_615 ?_
      refine lv_aload_n hx hb dL_law_616 rfl (lv_at hl 0 rfl) ?_
      refine lv_iload_n hx hb dL_law_617 rfl (lv_at hl 3 rfl) ?_
      refine lv_iconst (v := (2 : Int32)) hx hb dL_law_618 (by decide) ?_
      refine lv_iadd hx hb dL_law_619 ?_
      replace h := o_b h; obtain ⟨x620, h620, h⟩ := h
      refine m_iald hx hb hK.1 hM hS rfl h620 dL_law_620 ?_
      replace h := o_b h; obtain ⟨_, k621, h⟩ := h
      replace h := o_n h; obtain ⟨z621, h⟩ := h
      replace z621 := Decidable.not_not.mp z621
      replace h := o_b h; obtain ⟨q621, h621, h⟩ := h
      refine m_call (va_runV (As := [.int x615, .int x620]) (rest := []) ⟨hx, hb, hml, hown, hts⟩ (c_X9_follows l D b0 sz ek h621) (cwV 2 hts gL_law_X9_follows rfl rfl rfl (by decide +kernel) ⟨Nat.le_of_ble_eq_true rfl, Nat.le_of_ble_eq_true rfl⟩) ⟨PW.blind, m_recv (ci := 9) rfl hK hM k621, (fun U hU hW => ⟨rfl, PW.call hK hM hS hU hW⟩)⟩ rfl rfl hl.1 rfl (lv_room (Nat.le_of_ble_eq_true rfl)) dL_law_621 ⟨z621.1, z621.2⟩) hS (fun H locs hM hS => ?_)
      refine lv_aload_n hx hb dL_law_624 rfl (lv_at hl 2 rfl) ?_
      refine lv_aload_n hx hb dL_law_625 rfl (lv_at hl 0 rfl) ?_
      refine lv_iload_n hx hb dL_law_626 rfl (lv_at hl 3 rfl) ?_
      refine lv_iconst (v := (1 : Int32)) hx hb dL_law_627 (by decide) ?_
      refine lv_iadd hx hb dL_law_628 ?_
      replace h := o_b h; obtain ⟨x629, h629, h⟩ := h
      refine m_iald hx hb hK.1 hM hS rfl h629 dL_law_629 ?_
      refine lv_aload_n hx hb dL_law_630 rfl (lv_at hl 0 rfl) ?_
      refine lv_iload_n hx hb dL_law_631 rfl (lv_at hl 3 rfl) ?_
      refine lv_iconst (v := (2 : Int32)) hx hb dL_law_632 (by decide) ?_
      refine lv_iadd hx hb dL_law_633 ?_
      replace h := o_b h; obtain ⟨x634, h634, h⟩ := h
      refine m_iald hx hb hK.1 hM hS rfl h634 dL_law_634 ?_
      replace h := o_b h; obtain ⟨_, k635, h⟩ := h
      replace h := o_n h; obtain ⟨z635, h⟩ := h
      replace z635 := Decidable.not_not.mp z635
      replace h := o_b h; obtain ⟨q635, h635, h⟩ := h
      refine m_call (va_runV (As := [.int x629, .int x634]) (rest := [.int q621.1]) ⟨hx, hb, hml, hown, hts⟩ (c_X10_follows l D b0 sz h635) (cwV 2 hts gL_law_X10_follows rfl rfl rfl (by decide +kernel) ⟨Nat.le_of_ble_eq_true rfl, Nat.le_of_ble_eq_true rfl⟩) ⟨PW.blind, m_recv (ci := 10) rfl hK hM k635, (fun U hU hW => ⟨rfl, PW.call hK hM hS hU hW⟩)⟩ rfl rfl hl.1 rfl (lv_room (Nat.le_of_ble_eq_true rfl)) dL_law_635 ⟨z635.1, z635.2⟩) hS (fun H locs hM hS => ?_)
      refine lv_icmp_eq (tgt := 798) hx hb dL_law_638 (by decide) (fun c638 => ?_) (fun c638 => ?_)
      · replace h := o_t c638 h
        exact w_L_law_798 hb0 C0 ek h1 ih _ _ _ _ _ _ _ _ h _ _ _ hM hS (lv_sub hl [0, 1, 2, 3] rfl)
      replace h := o_f c638 h
      refine lv_iconst (v := (0 : Int32)) hx hb dL_law_641 (by decide) ?_
      cases h
      exact absurd h1 (show ¬ (0 : Int32) = 1 by decide)
    replace h := o_f c32_18 h
    by_cases c32_19 : (x28 &&& (31 : Int32)) = (19 : Int32)
    · replace h := o_t c32_19 h
      refine lv_tableIn (tgt := 643) hx hb dL_law_32 (by rw [c32_19]; decide) (by rw [c32_19]; decide) (by rw [c32_19]; rfl) (by decide) ?_
      refine lv_aload_n hx hb dL_law_643 rfl (lv_at hl 1 rfl) ?_
      refine lv_aload_n hx hb dL_law_644 rfl (lv_at hl 0 rfl) ?_
      refine lv_iload_n hx hb dL_law_645 rfl (lv_at hl 3 rfl) ?_
      refine lv_iconst (v := (1 : Int32)) hx hb dL_law_646 (by decide) ?_
      refine lv_iadd hx hb dL_law_647 ?_
      replace h := o_b h; obtain ⟨x648, h648, h⟩ := h
      refine m_iald hx hb hK.1 hM hS rfl h648 dL_law_648 ?_
      refine lv_aload_n hx hb dL_law_649 rfl (lv_at hl 0 rfl) ?_
      refine lv_iload_n hx hb dL_law_650 rfl (lv_at hl 3 rfl) ?_
      refine lv_iconst (v := (2 : Int32)) hx hb dL_law_651 (by decide) ?_
      refine lv_iadd hx hb dL_law_652 ?_
      replace h := o_b h; obtain ⟨x653, h653, h⟩ := h
      refine m_iald hx hb hK.1 hM hS rfl h653 dL_law_653 ?_
      replace h := o_b h; obtain ⟨_, k654, h⟩ := h
      replace h := o_n h; obtain ⟨z654, h⟩ := h
      replace z654 := Decidable.not_not.mp z654
      replace h := o_b h; obtain ⟨q654, h654, h⟩ := h
      refine m_call (va_runV (As := [.int x648, .int x653]) (rest := []) ⟨hx, hb, hml, hown, hts⟩ (c_X9_followsPlainly l D b0 sz ek h654) (cwV 2 hts gL_law_X9_followsPlainly rfl rfl rfl (by decide +kernel) ⟨Nat.le_of_ble_eq_true rfl, Nat.le_of_ble_eq_true rfl⟩) ⟨PW.blind, m_recv (ci := 9) rfl hK hM k654, (fun U hU hW => ⟨rfl, PW.call hK hM hS hU hW⟩)⟩ rfl rfl hl.1 rfl (lv_room (Nat.le_of_ble_eq_true rfl)) dL_law_654 ⟨z654.1, z654.2⟩) hS (fun H locs hM hS => ?_)
      refine lv_aload_n hx hb dL_law_657 rfl (lv_at hl 2 rfl) ?_
      refine lv_aload_n hx hb dL_law_658 rfl (lv_at hl 0 rfl) ?_
      refine lv_iload_n hx hb dL_law_659 rfl (lv_at hl 3 rfl) ?_
      refine lv_iconst (v := (1 : Int32)) hx hb dL_law_660 (by decide) ?_
      refine lv_iadd hx hb dL_law_661 ?_
      replace h := o_b h; obtain ⟨x662, h662, h⟩ := h
      refine m_iald hx hb hK.1 hM hS rfl h662 dL_law_662 ?_
      refine lv_aload_n hx hb dL_law_663 rfl (lv_at hl 0 rfl) ?_
      refine lv_iload_n hx hb dL_law_664 rfl (lv_at hl 3 rfl) ?_
      refine lv_iconst (v := (2 : Int32)) hx hb dL_law_665 (by decide) ?_
      refine lv_iadd hx hb dL_law_666 ?_
      replace h := o_b h; obtain ⟨x667, h667, h⟩ := h
      refine m_iald hx hb hK.1 hM hS rfl h667 dL_law_667 ?_
      replace h := o_b h; obtain ⟨_, k668, h⟩ := h
      replace h := o_n h; obtain ⟨z668, h⟩ := h
      replace z668 := Decidable.not_not.mp z668
      replace h := o_b h; obtain ⟨q668, h668, h⟩ := h
      refine m_call (va_runV (As := [.int x662, .int x667]) (rest := [.int q654.1]) ⟨hx, hb, hml, hown, hts⟩ (c_X10_followsPlainly l D b0 sz h668) (cwV 2 hts gL_law_X10_followsPlainly rfl rfl rfl (by decide +kernel) ⟨Nat.le_of_ble_eq_true rfl, Nat.le_of_ble_eq_true rfl⟩) ⟨PW.blind, m_recv (ci := 10) rfl hK hM k668, (fun U hU hW => ⟨rfl, PW.call hK hM hS hU hW⟩)⟩ rfl rfl hl.1 rfl (lv_room (Nat.le_of_ble_eq_true rfl)) dL_law_668 ⟨z668.1, z668.2⟩) hS (fun H locs hM hS => ?_)
      refine lv_icmp_eq (tgt := 798) hx hb dL_law_671 (by decide) (fun c671 => ?_) (fun c671 => ?_)
      · replace h := o_t c671 h
        exact w_L_law_798 hb0 C0 ek h1 ih _ _ _ _ _ _ _ _ h _ _ _ hM hS (lv_sub hl [0, 1, 2, 3] rfl)
      replace h := o_f c671 h
      refine lv_iconst (v := (0 : Int32)) hx hb dL_law_674 (by decide) ?_
      cases h
      exact absurd h1 (show ¬ (0 : Int32) = 1 by decide)
    replace h := o_f c32_19 h
    by_cases c32_20 : (x28 &&& (31 : Int32)) = (20 : Int32)
    · replace h := o_t c32_20 h
      refine lv_tableIn (tgt := 676) hx hb dL_law_32 (by rw [c32_20]; decide) (by rw [c32_20]; decide) (by rw [c32_20]; rfl) (by decide) ?_
      refine lv_aload_n hx hb dL_law_676 rfl (lv_at hl 1 rfl) ?_
      refine lv_aload_n hx hb dL_law_677 rfl (lv_at hl 0 rfl) ?_
      refine lv_iload_n hx hb dL_law_678 rfl (lv_at hl 3 rfl) ?_
      refine lv_iconst (v := (1 : Int32)) hx hb dL_law_679 (by decide) ?_
      refine lv_iadd hx hb dL_law_680 ?_
      replace h := o_b h; obtain ⟨x681, h681, h⟩ := h
      refine m_iald hx hb hK.1 hM hS rfl h681 dL_law_681 ?_
      refine lv_aload_n hx hb dL_law_682 rfl (lv_at hl 0 rfl) ?_
      refine lv_iload_n hx hb dL_law_683 rfl (lv_at hl 3 rfl) ?_
      refine lv_iconst (v := (2 : Int32)) hx hb dL_law_684 (by decide) ?_
      refine lv_iadd hx hb dL_law_685 ?_
      replace h := o_b h; obtain ⟨x686, h686, h⟩ := h
      refine m_iald hx hb hK.1 hM hS rfl h686 dL_law_686 ?_
      replace h := o_b h; obtain ⟨_, k687, h⟩ := h
      replace h := o_n h; obtain ⟨z687, h⟩ := h
      replace z687 := Decidable.not_not.mp z687
      replace h := o_b h; obtain ⟨q687, h687, h⟩ := h
      refine m_call (va_runV (As := [.int x681, .int x686]) (rest := []) ⟨hx, hb, hml, hown, hts⟩ (c_X9_fewestStages l D b0 sz ek h687) (cwV 2 hts gL_law_X9_fewestStages rfl rfl rfl (by decide +kernel) ⟨Nat.le_of_ble_eq_true rfl, Nat.le_of_ble_eq_true rfl⟩) ⟨PW.blind, m_recv (ci := 9) rfl hK hM k687, (fun U hU hW => ⟨rfl, PW.call hK hM hS hU hW⟩)⟩ rfl rfl hl.1 rfl (lv_room (Nat.le_of_ble_eq_true rfl)) dL_law_687 ⟨z687.1, z687.2⟩) hS (fun H locs hM hS => ?_)
      refine lv_aload_n hx hb dL_law_690 rfl (lv_at hl 2 rfl) ?_
      refine lv_aload_n hx hb dL_law_691 rfl (lv_at hl 0 rfl) ?_
      refine lv_iload_n hx hb dL_law_692 rfl (lv_at hl 3 rfl) ?_
      refine lv_iconst (v := (1 : Int32)) hx hb dL_law_693 (by decide) ?_
      refine lv_iadd hx hb dL_law_694 ?_
      replace h := o_b h; obtain ⟨x695, h695, h⟩ := h
      refine m_iald hx hb hK.1 hM hS rfl h695 dL_law_695 ?_
      refine lv_aload_n hx hb dL_law_696 rfl (lv_at hl 0 rfl) ?_
      refine lv_iload_n hx hb dL_law_697 rfl (lv_at hl 3 rfl) ?_
      refine lv_iconst (v := (2 : Int32)) hx hb dL_law_698 (by decide) ?_
      refine lv_iadd hx hb dL_law_699 ?_
      replace h := o_b h; obtain ⟨x700, h700, h⟩ := h
      refine m_iald hx hb hK.1 hM hS rfl h700 dL_law_700 ?_
      replace h := o_b h; obtain ⟨_, k701, h⟩ := h
      replace h := o_n h; obtain ⟨z701, h⟩ := h
      replace z701 := Decidable.not_not.mp z701
      replace h := o_b h; obtain ⟨q701, h701, h⟩ := h
      refine m_call (va_runV (As := [.int x695, .int x700]) (rest := [.int q687.1]) ⟨hx, hb, hml, hown, hts⟩ (c_X10_fewestStages l D b0 sz h701) (cwV 2 hts gL_law_X10_fewestStages rfl rfl rfl (by decide +kernel) ⟨Nat.le_of_ble_eq_true rfl, Nat.le_of_ble_eq_true rfl⟩) ⟨PW.blind, m_recv (ci := 10) rfl hK hM k701, (fun U hU hW => ⟨rfl, PW.call hK hM hS hU hW⟩)⟩ rfl rfl hl.1 rfl (lv_room (Nat.le_of_ble_eq_true rfl)) dL_law_701 ⟨z701.1, z701.2⟩) hS (fun H locs hM hS => ?_)
      refine lv_icmp_eq (tgt := 798) hx hb dL_law_704 (by decide) (fun c704 => ?_) (fun c704 => ?_)
      · replace h := o_t c704 h
        exact w_L_law_798 hb0 C0 ek h1 ih _ _ _ _ _ _ _ _ h _ _ _ hM hS (lv_sub hl [0, 1, 2, 3] rfl)
      replace h := o_f c704 h
      refine lv_iconst (v := (0 : Int32)) hx hb dL_law_707 (by decide) ?_
      cases h
      exact absurd h1 (show ¬ (0 : Int32) = 1 by decide)
    replace h := o_f c32_20 h
    by_cases c32_21 : (x28 &&& (31 : Int32)) = (21 : Int32)
    · replace h := o_t c32_21 h
      refine lv_tableIn (tgt := 709) hx hb dL_law_32 (by rw [c32_21]; decide) (by rw [c32_21]; decide) (by rw [c32_21]; rfl) (by decide) ?_
      refine lv_aload_n hx hb dL_law_709 rfl (lv_at hl 1 rfl) ?_
      refine lv_aload_n hx hb dL_law_710 rfl (lv_at hl 0 rfl) ?_
      refine lv_iload_n hx hb dL_law_711 rfl (lv_at hl 3 rfl) ?_
      refine lv_iconst (v := (1 : Int32)) hx hb dL_law_712 (by decide) ?_
      refine lv_iadd hx hb dL_law_713 ?_
      replace h := o_b h; obtain ⟨x714, h714, h⟩ := h
      refine m_iald hx hb hK.1 hM hS rfl h714 dL_law_714 ?_
      refine lv_aload_n hx hb dL_law_715 rfl (lv_at hl 0 rfl) ?_
      refine lv_iload_n hx hb dL_law_716 rfl (lv_at hl 3 rfl) ?_
      refine lv_iconst (v := (2 : Int32)) hx hb dL_law_717 (by decide) ?_
      refine lv_iadd hx hb dL_law_718 ?_
      replace h := o_b h; obtain ⟨x719, h719, h⟩ := h
      refine m_iald hx hb hK.1 hM hS rfl h719 dL_law_719 ?_
      replace h := o_b h; obtain ⟨_, k720, h⟩ := h
      replace h := o_n h; obtain ⟨z720, h⟩ := h
      replace z720 := Decidable.not_not.mp z720
      replace h := o_b h; obtain ⟨q720, h720, h⟩ := h
      refine m_call (va_runV (As := [.int x714, .int x719]) (rest := []) ⟨hx, hb, hml, hown, hts⟩ (c_X9_fewestPremises l D b0 sz ek h720) (cwV 2 hts gL_law_X9_fewestPremises rfl rfl rfl (by decide +kernel) ⟨Nat.le_of_ble_eq_true rfl, Nat.le_of_ble_eq_true rfl⟩) ⟨PW.blind, m_recv (ci := 9) rfl hK hM k720, (fun U hU hW => ⟨rfl, PW.call hK hM hS hU hW⟩)⟩ rfl rfl hl.1 rfl (lv_room (Nat.le_of_ble_eq_true rfl)) dL_law_720 ⟨z720.1, z720.2⟩) hS (fun H locs hM hS => ?_)
      refine lv_aload_n hx hb dL_law_723 rfl (lv_at hl 2 rfl) ?_
      refine lv_aload_n hx hb dL_law_724 rfl (lv_at hl 0 rfl) ?_
      refine lv_iload_n hx hb dL_law_725 rfl (lv_at hl 3 rfl) ?_
      refine lv_iconst (v := (1 : Int32)) hx hb dL_law_726 (by decide) ?_
      refine lv_iadd hx hb dL_law_727 ?_
      replace h := o_b h; obtain ⟨x728, h728, h⟩ := h
      refine m_iald hx hb hK.1 hM hS rfl h728 dL_law_728 ?_
      refine lv_aload_n hx hb dL_law_729 rfl (lv_at hl 0 rfl) ?_
      refine lv_iload_n hx hb dL_law_730 rfl (lv_at hl 3 rfl) ?_
      refine lv_iconst (v := (2 : Int32)) hx hb dL_law_731 (by decide) ?_
      refine lv_iadd hx hb dL_law_732 ?_
      replace h := o_b h; obtain ⟨x733, h733, h⟩ := h
      refine m_iald hx hb hK.1 hM hS rfl h733 dL_law_733 ?_
      replace h := o_b h; obtain ⟨_, k734, h⟩ := h
      replace h := o_n h; obtain ⟨z734, h⟩ := h
      replace z734 := Decidable.not_not.mp z734
      replace h := o_b h; obtain ⟨q734, h734, h⟩ := h
      refine m_call (va_runV (As := [.int x728, .int x733]) (rest := [.int q720.1]) ⟨hx, hb, hml, hown, hts⟩ (c_X10_fewestPremises l D b0 sz h734) (cwV 2 hts gL_law_X10_fewestPremises rfl rfl rfl (by decide +kernel) ⟨Nat.le_of_ble_eq_true rfl, Nat.le_of_ble_eq_true rfl⟩) ⟨PW.blind, m_recv (ci := 10) rfl hK hM k734, (fun U hU hW => ⟨rfl, PW.call hK hM hS hU hW⟩)⟩ rfl rfl hl.1 rfl (lv_room (Nat.le_of_ble_eq_true rfl)) dL_law_734 ⟨z734.1, z734.2⟩) hS (fun H locs hM hS => ?_)
      refine lv_icmp_eq (tgt := 798) hx hb dL_law_737 (by decide) (fun c737 => ?_) (fun c737 => ?_)
      · replace h := o_t c737 h
        exact w_L_law_798 hb0 C0 ek h1 ih _ _ _ _ _ _ _ _ h _ _ _ hM hS (lv_sub hl [0, 1, 2, 3] rfl)
      replace h := o_f c737 h
      refine lv_iconst (v := (0 : Int32)) hx hb dL_law_740 (by decide) ?_
      cases h
      exact absurd h1 (show ¬ (0 : Int32) = 1 by decide)
    replace h := o_f c32_21 h
    by_cases c32_22 : (x28 &&& (31 : Int32)) = (22 : Int32)
    · replace h := o_t c32_22 h
      refine lv_tableIn (tgt := 742) hx hb dL_law_32 (by rw [c32_22]; decide) (by rw [c32_22]; decide) (by rw [c32_22]; rfl) (by decide) ?_
      refine lv_aload_n hx hb dL_law_742 rfl (lv_at hl 1 rfl) ?_
      refine lv_aload_n hx hb dL_law_743 rfl (lv_at hl 0 rfl) ?_
      refine lv_iload_n hx hb dL_law_744 rfl (lv_at hl 3 rfl) ?_
      refine lv_iconst (v := (1 : Int32)) hx hb dL_law_745 (by decide) ?_
      refine lv_iadd hx hb dL_law_746 ?_
      replace h := o_b h; obtain ⟨x747, h747, h⟩ := h
      refine m_iald hx hb hK.1 hM hS rfl h747 dL_law_747 ?_
      refine lv_aload_n hx hb dL_law_748 rfl (lv_at hl 0 rfl) ?_
      refine lv_iload_n hx hb dL_law_749 rfl (lv_at hl 3 rfl) ?_
      refine lv_iconst (v := (2 : Int32)) hx hb dL_law_750 (by decide) ?_
      refine lv_iadd hx hb dL_law_751 ?_
      replace h := o_b h; obtain ⟨x752, h752, h⟩ := h
      refine m_iald hx hb hK.1 hM hS rfl h752 dL_law_752 ?_
      replace h := o_b h; obtain ⟨_, k753, h⟩ := h
      replace h := o_n h; obtain ⟨z753, h⟩ := h
      replace z753 := Decidable.not_not.mp z753
      replace h := o_b h; obtain ⟨q753, h753, h⟩ := h
      refine m_call (va_runV (As := [.int x747, .int x752]) (rest := []) ⟨hx, hb, hml, hown, hts⟩ (c_X9_relation l D b0 sz ek h753) (cwV 2 hts gL_law_X9_relation rfl rfl rfl (by decide +kernel) ⟨Nat.le_of_ble_eq_true rfl, Nat.le_of_ble_eq_true rfl⟩) ⟨PW.blind, m_recv (ci := 9) rfl hK hM k753, (fun U hU hW => ⟨rfl, PW.call hK hM hS hU hW⟩)⟩ rfl rfl hl.1 rfl (lv_room (Nat.le_of_ble_eq_true rfl)) dL_law_753 ⟨z753.1, z753.2⟩) hS (fun H locs hM hS => ?_)
      refine lv_aload_n hx hb dL_law_756 rfl (lv_at hl 2 rfl) ?_
      refine lv_aload_n hx hb dL_law_757 rfl (lv_at hl 0 rfl) ?_
      refine lv_iload_n hx hb dL_law_758 rfl (lv_at hl 3 rfl) ?_
      refine lv_iconst (v := (1 : Int32)) hx hb dL_law_759 (by decide) ?_
      refine lv_iadd hx hb dL_law_760 ?_
      replace h := o_b h; obtain ⟨x761, h761, h⟩ := h
      refine m_iald hx hb hK.1 hM hS rfl h761 dL_law_761 ?_
      refine lv_aload_n hx hb dL_law_762 rfl (lv_at hl 0 rfl) ?_
      refine lv_iload_n hx hb dL_law_763 rfl (lv_at hl 3 rfl) ?_
      refine lv_iconst (v := (2 : Int32)) hx hb dL_law_764 (by decide) ?_
      refine lv_iadd hx hb dL_law_765 ?_
      replace h := o_b h; obtain ⟨x766, h766, h⟩ := h
      refine m_iald hx hb hK.1 hM hS rfl h766 dL_law_766 ?_
      replace h := o_b h; obtain ⟨_, k767, h⟩ := h
      replace h := o_n h; obtain ⟨z767, h⟩ := h
      replace z767 := Decidable.not_not.mp z767
      replace h := o_b h; obtain ⟨q767, h767, h⟩ := h
      refine m_call (va_runV (As := [.int x761, .int x766]) (rest := [.int q753.1]) ⟨hx, hb, hml, hown, hts⟩ (c_X10_relation l D b0 sz h767) (cwV 2 hts gL_law_X10_relation rfl rfl rfl (by decide +kernel) ⟨Nat.le_of_ble_eq_true rfl, Nat.le_of_ble_eq_true rfl⟩) ⟨PW.blind, m_recv (ci := 10) rfl hK hM k767, (fun U hU hW => ⟨rfl, PW.call hK hM hS hU hW⟩)⟩ rfl rfl hl.1 rfl (lv_room (Nat.le_of_ble_eq_true rfl)) dL_law_767 ⟨z767.1, z767.2⟩) hS (fun H locs hM hS => ?_)
      refine lv_icmp_eq (tgt := 798) hx hb dL_law_770 (by decide) (fun c770 => ?_) (fun c770 => ?_)
      · replace h := o_t c770 h
        exact w_L_law_798 hb0 C0 ek h1 ih _ _ _ _ _ _ _ _ h _ _ _ hM hS (lv_sub hl [0, 1, 2, 3] rfl)
      replace h := o_f c770 h
      refine lv_iconst (v := (0 : Int32)) hx hb dL_law_773 (by decide) ?_
      cases h
      exact absurd h1 (show ¬ (0 : Int32) = 1 by decide)
    replace h := o_f c32_22 h
    by_cases c32_23 : (x28 &&& (31 : Int32)) = (23 : Int32)
    · replace h := o_t c32_23 h
      refine lv_tableIn (tgt := 775) hx hb dL_law_32 (by rw [c32_23]; decide) (by rw [c32_23]; decide) (by rw [c32_23]; rfl) (by decide) ?_
      refine lv_aload_n hx hb dL_law_775 rfl (lv_at hl 1 rfl) ?_
      refine lv_aload_n hx hb dL_law_776 rfl (lv_at hl 0 rfl) ?_
      refine lv_iload_n hx hb dL_law_777 rfl (lv_at hl 3 rfl) ?_
      refine lv_iconst (v := (1 : Int32)) hx hb dL_law_778 (by decide) ?_
      refine lv_iadd hx hb dL_law_779 ?_
      replace h := o_b h; obtain ⟨x780, h780, h⟩ := h
      refine m_iald hx hb hK.1 hM hS rfl h780 dL_law_780 ?_
      replace h := o_b h; obtain ⟨_, k781, h⟩ := h
      replace h := o_n h; obtain ⟨z781, h⟩ := h
      replace z781 := Decidable.not_not.mp z781
      replace h := o_b h; obtain ⟨q781, h781, h⟩ := h
      refine m_call (va_runV (As := [.int x780]) (rest := []) ⟨hx, hb, hml, hown, hts⟩ (c_X9_count l D b0 sz h781) (cwV 1 hts gL_law_X9_count rfl rfl rfl (by decide +kernel) ⟨Nat.le_of_ble_eq_true rfl, Nat.le_of_ble_eq_true rfl⟩) ⟨PW.blind, m_recv (ci := 9) rfl hK hM k781, (fun U hU hW => ⟨rfl, PW.call hK hM hS hU hW⟩)⟩ rfl rfl hl.1 rfl (lv_room (Nat.le_of_ble_eq_true rfl)) dL_law_781 ⟨z781.1, z781.2⟩) hS (fun H locs hM hS => ?_)
      refine lv_aload_n hx hb dL_law_784 rfl (lv_at hl 2 rfl) ?_
      refine lv_aload_n hx hb dL_law_785 rfl (lv_at hl 0 rfl) ?_
      refine lv_iload_n hx hb dL_law_786 rfl (lv_at hl 3 rfl) ?_
      refine lv_iconst (v := (1 : Int32)) hx hb dL_law_787 (by decide) ?_
      refine lv_iadd hx hb dL_law_788 ?_
      replace h := o_b h; obtain ⟨x789, h789, h⟩ := h
      refine m_iald hx hb hK.1 hM hS rfl h789 dL_law_789 ?_
      replace h := o_b h; obtain ⟨_, k790, h⟩ := h
      replace h := o_n h; obtain ⟨z790, h⟩ := h
      replace z790 := Decidable.not_not.mp z790
      replace h := o_b h; obtain ⟨q790, h790, h⟩ := h
      refine m_call (va_runV (As := [.int x789]) (rest := [.int q781.1]) ⟨hx, hb, hml, hown, hts⟩ (c_X10_count l D b0 sz h790) (cwV 1 hts gL_law_X10_count rfl rfl rfl (by decide +kernel) ⟨Nat.le_of_ble_eq_true rfl, Nat.le_of_ble_eq_true rfl⟩) ⟨PW.blind, m_recv (ci := 10) rfl hK hM k790, (fun U hU hW => ⟨rfl, PW.call hK hM hS hU hW⟩)⟩ rfl rfl hl.1 rfl (lv_room (Nat.le_of_ble_eq_true rfl)) dL_law_790 ⟨z790.1, z790.2⟩) hS (fun H locs hM hS => ?_)
      refine lv_icmp_eq (tgt := 798) hx hb dL_law_793 (by decide) (fun c793 => ?_) (fun c793 => ?_)
      · replace h := o_t c793 h
        exact w_L_law_798 hb0 C0 ek h1 ih _ _ _ _ _ _ _ _ h _ _ _ hM hS (lv_sub hl [0, 1, 2, 3] rfl)
      replace h := o_f c793 h
      refine lv_iconst (v := (0 : Int32)) hx hb dL_law_796 (by decide) ?_
      cases h
      exact absurd h1 (show ¬ (0 : Int32) = 1 by decide)
    replace h := o_f c32_23 h
    refine lv_tableOut (tgt := 798) hx hb dL_law_32 (by have n0 := lv_neT c32_0 (a := 0) (by decide); have n1 := lv_neT c32_1 (a := 1) (by decide); have n2 := lv_neT c32_2 (a := 2) (by decide); have n3 := lv_neT c32_3 (a := 3) (by decide); have n4 := lv_neT c32_4 (a := 4) (by decide); have n5 := lv_neT c32_5 (a := 5) (by decide); have n6 := lv_neT c32_6 (a := 6) (by decide); have n7 := lv_neT c32_7 (a := 7) (by decide); have n8 := lv_neT c32_8 (a := 8) (by decide); have n9 := lv_neT c32_9 (a := 9) (by decide); have n10 := lv_neT c32_10 (a := 10) (by decide); have n11 := lv_neT c32_11 (a := 11) (by decide); have n12 := lv_neT c32_12 (a := 12) (by decide); have n13 := lv_neT c32_13 (a := 13) (by decide); have n14 := lv_neT c32_14 (a := 14) (by decide); have n15 := lv_neT c32_15 (a := 15) (by decide); have n16 := lv_neT c32_16 (a := 16) (by decide); have n17 := lv_neT c32_17 (a := 17) (by decide); have n18 := lv_neT c32_18 (a := 18) (by decide); have n19 := lv_neT c32_19 (a := 19) (by decide); have n20 := lv_neT c32_20 (a := 20) (by decide); have n21 := lv_neT c32_21 (a := 21) (by decide); have n22 := lv_neT c32_22 (a := 22) (by decide); have n23 := lv_neT c32_23 (a := 23) (by decide); omega) (by decide) ?_
    exact w_L_law_798 hb0 C0 ek h1 ih _ _ _ _ _ _ _ _ h _ _ _ hM hS (lv_sub hl [0, 1, 2, 3] rfl)
set_option maxHeartbeats 4000000 in
set_option maxRecDepth 100000 in
theorem w_L_law {b : Nat} (hb0 : b0 = s.heap.size) (C0 : CX code 4 ret wsL_law RL p s m #[Value.ref b] meth c D b0) {v0 : Nat} {kn : Nat} (ek : kn = D.2 9) {res : Int32 × mmF × Nat} (h : f_L_law kn v0 f sz = some res) (h1 : res.1 = 1) : ∀ (H : Heap) (locs : List Loc) (ls : Array Slot), MM vwCl D b0 f sz s H → mS b0 s H locs → lv_has ls 4 [(0, .ref v0)] → W p l e room_1 s m #[Value.ref b] below meth c H locs 0 0 (lw_Z below #[Value.ref b] s) (F0 m 0 ls []) := by
  obtain ⟨hx, hb, hr, hml, hown, hts, hlocks, hK⟩ := id C0
  intro H locs ls hM hS hl
  unfold f_L_law at h
  replace h := o_n h; obtain ⟨z0, h⟩ := h
  replace z0 := Decidable.not_not.mp z0
  refine m_new (ci := 9) (fs := [.null, .null, .int 0, .null, .int 0, .null, .null, .null, .null]) (C := RX9) (T := TX9) (N := 9) hx hb hts qi_L_law_X9 tyX9 tyX9_ok hown (hts _ q_L_law_1) (hts _ q_L_law_2) (hts _ q_L_law_3) hK.1 hM hS rfl (fun j hj => by match j, hj with | 0, _ => rfl | 1, _ => rfl | 2, _ => rfl | 3, _ => rfl | 4, _ => rfl | 5, _ => rfl | 6, _ => rfl | 7, _ => rfl | 8, _ => rfl | j + 9, hj => exact absurd hj (by omega)) z0.1 z0.2 dL_law_0 (fun H hM hS => ?_)
  replace h := o_b h; obtain ⟨f0, h0, h⟩ := h
  replace h0 := Option.some.inj h0
  subst h0
  refine lv_dup hx hb dL_law_3 rfl ?_
  replace h := o_n h; obtain ⟨z4, h⟩ := h
  replace z4 := Decidable.not_not.mp z4
  replace h := o_b h; obtain ⟨q4, h4, h⟩ := h
  refine m_call (va_runI (As := []) (rest := [.ref sz]) ⟨hx, hb, hml, hown, hts⟩ (c_X9_init l D b0 (sz + 1) h4) (cwI 0 hts gL_law_X9_init rfl rfl rfl (hts _ q_L_law_3) (hts _ q_L_law_4) (hts _ q_L_law_5) rfl (by decide +kernel) ⟨Nat.le_of_ble_eq_true rfl, Nat.le_of_ble_eq_true rfl⟩) ⟨PW.blind, (fun U hU hW => ⟨rfl, PW.call hK hM hS hU hW⟩)⟩ rfl rfl hl.1 rfl (lv_room (Nat.le_of_ble_eq_true rfl)) dL_law_4 ⟨z4.1, z4.2⟩) hS (fun H locs hM hS => ?_)
  refine lv_astore_n (lv' := [(1, .ref sz), (0, .ref v0)]) hx hb dL_law_7 rfl hl (by decide) rfl (fun ls hl => ?_)
  replace h := o_n h; obtain ⟨z8, h⟩ := h
  replace z8 := Decidable.not_not.mp z8
  refine m_new (ci := 10) (fs := [.null, .null, .int 0, .null, .int 0, .null, .null, .int 0, .null, .int 0, .null, .int 0, .null, .int 0, .null, .null, .null, .null, .null, .int 0, .null, .null, .null, .null, .null]) (C := RX10) (T := TX10) (N := 25) hx hb hts qi_L_law_X10 tyX10 tyX10_ok hown (hts _ q_L_law_7) (hts _ q_L_law_8) (hts _ q_L_law_9) hK.1 hM hS rfl (fun j hj => by match j, hj with | 0, _ => rfl | 1, _ => rfl | 2, _ => rfl | 3, _ => rfl | 4, _ => rfl | 5, _ => rfl | 6, _ => rfl | 7, _ => rfl | 8, _ => rfl | 9, _ => rfl | 10, _ => rfl | 11, _ => rfl | 12, _ => rfl | 13, _ => rfl | 14, _ => rfl | 15, _ => rfl | 16, _ => rfl | 17, _ => rfl | 18, _ => rfl | 19, _ => rfl | 20, _ => rfl | 21, _ => rfl | 22, _ => rfl | 23, _ => rfl | 24, _ => rfl | j + 25, hj => exact absurd hj (by omega)) z8.1 z8.2 dL_law_8 (fun H hM hS => ?_)
  replace h := o_b h; obtain ⟨f8, h8, h⟩ := h
  replace h8 := Option.some.inj h8
  subst h8
  refine lv_dup hx hb dL_law_11 rfl ?_
  replace h := o_n h; obtain ⟨z12, h⟩ := h
  replace z12 := Decidable.not_not.mp z12
  replace h := o_b h; obtain ⟨q12, h12, h⟩ := h
  refine m_call (va_runI (As := []) (rest := [.ref q4.2]) ⟨hx, hb, hml, hown, hts⟩ (c_X10_init l D b0 (q4.2 + 1) h12) (cwI 0 hts gL_law_X10_init rfl rfl rfl (hts _ q_L_law_9) (hts _ q_L_law_10) (hts _ q_L_law_11) rfl (by decide +kernel) ⟨Nat.le_of_ble_eq_true rfl, Nat.le_of_ble_eq_true rfl⟩) ⟨PW.blind, (fun U hU hW => ⟨rfl, PW.call hK hM hS hU hW⟩)⟩ rfl rfl hl.1 rfl (lv_room (Nat.le_of_ble_eq_true rfl)) dL_law_12 ⟨z12.1, z12.2⟩) hS (fun H locs hM hS => ?_)
  refine lv_astore_n (lv' := [(2, .ref q4.2), (1, .ref sz), (0, .ref v0)]) hx hb dL_law_15 rfl hl (by decide) rfl (fun ls hl => ?_)
  refine lv_iconst (v := (0 : Int32)) hx hb dL_law_16 (by decide) ?_
  refine lv_istore_n (lv' := [(3, .int (0 : Int32)), (2, .ref q4.2), (1, .ref sz), (0, .ref v0)]) hx hb dL_law_17 rfl hl (by decide) rfl (fun ls hl => ?_)
  exact w_L_law_18 hb0 C0 ek h1 FU _ _ _ _ _ _ _ _ h _ _ _ hM hS (lv_sub hl [3, 2, 1, 0] rfl)
end S_L_law
