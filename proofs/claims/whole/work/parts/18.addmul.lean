/-! add, multiply -/
def ed_ok (R C : Nat → Nat) (x y z : Int32) (l i j : Nat) : Prop := l < 4 ∧ i < 4 ∧ j < 4 ∧ x = nI l ∧ y = nI i ∧ z = nI j ∧ R i = R j ∧ C i = C j
theorem ed_ok_u {R C : Nat → Nat} {x y z : Int32} {l i j l' i' j' : Nat} (h : ed_ok R C x y z l i j) (h' : ed_ok R C x y z l' i' j') : l = l' ∧ i = i' ∧ j = j' := by
  obtain ⟨a1, a2, a3, a4, a5, a6, a7, a8⟩ := h
  obtain ⟨b1, b2, b3, b4, b5, b6, b7, b8⟩ := h'
  exact ⟨ed_nIe a1 b1 (a4.symm.trans b4), ed_nIe a2 b2 (a5.symm.trans b5), ed_nIe a3 b3 (a6.symm.trans b6)⟩
theorem ed_cpS0 (a : Nat → Int32) (n : Nat) (b : Nat → Int32) : upd (ed_cp a 0 n b) n (b n) = ed_cp a 0 (n + 1) b := by
  have e := ed_cpS a 0 n b
  rw [Nat.zero_add] at e
  exact e
theorem ed_cp0_in {a : Nat → Int32} {n : Nat} {b : Nat → Int32} {i : Nat} (h : i < n) : ed_cp a 0 n b i = b i := by
  have e := ed_cp_in (a := a) (o := 0) (n := n) (b := b) h
  rw [Nat.zero_add] at e
  exact e
section
variable {R C : Nat → Nat} {T : Nat → Nat → ed_K} {ce rr cc re ba cu ol sa ma od po sy : Nat → Int32}
theorem ed_xOk {A B : Prop} (hS : ed_Sh rr cc R C) {x y z : Int32} (hy : ∀ l i j, ed_ok R C x y z l i j → B) (hn : (∀ l i j, ¬ ed_ok R C x y z l i j) → A) : wpX_isTable (fun r => ((r = 0 → A) ∧ (¬ r = 0 → wpX_haveSameShape (fun r => ((r = 0 → A) ∧ (¬ r = 0 → B))) (ce, rr, cc, re, ba, cu, ol, sa) y z))) x :=
  ed_xTab (fun l hl e => br_f (by decide) (ed_xHss hS (fun i j hi hj e1 e2 e3 e4 => br_f (by decide) (hy l i j ⟨hl, hi, hj, e, e1, e2, e3, e4⟩)) (fun h => br_t rfl (hn (fun l i j o => h i j o.2.1 o.2.2.1 o.2.2.2.2.1 o.2.2.2.2.2.1 o.2.2.2.2.2.2.1 o.2.2.2.2.2.2.2))))) (fun h => br_t rfl (hn (fun l i j o => h l o.1 o.2.2.2.1)))
theorem ed_yOk {post : Int32 → Prop} (hS : ed_Sh rr cc R C) {x y z : Int32} (hy : ∀ l i j, ed_ok R C x y z l i j → post 1) (hn : (∀ l i j, ¬ ed_ok R C x y z l i j) → post 0) : wpY_pair post (rr, cc, ce, ma, od, po, sy) x y z :=
  ed_yPair hS (fun l i j hl hi hj e0 e1 e2 e3 e4 => hy l i j ⟨hl, hi, hj, e0, e1, e2, e3, e4⟩) (fun h => hn (fun l i j o => h l i j o.1 o.2.1 o.2.2.1 o.2.2.2.1 o.2.2.2.2.1 o.2.2.2.2.2.1 o.2.2.2.2.2.2.1 o.2.2.2.2.2.2.2))
/-- table l made of what stands in result -/
theorem ed_PXr (hS : ed_Sh rr cc R C) (hC : ed_Ce ce R C T) {l i : Nat} (hi : i < 4) {f : Nat → ed_K} {b : Nat → Int32} (hb : ∀ t, t < R i * C i → b t = ed_I (f t)) : ed_PX (ed_up R l (R i)) (ed_up C l (C i)) (ed_up T l f) (ed_cp ce (l * 48) (R i * C i) b, upd rr l (nI (R i)), upd cc l (nI (C i)), b, ba, cu, ol, sa) := by
  obtain ⟨h1, h2, h3, h4, h5, h6, h7⟩ := hS i hi
  exact ⟨_, _, _, _, _, _, _, _, rfl, ed_Sh_up hS h3 h4 h5 h6 h7, ed_Ce_up hC (ed_ShB hS) h7 hb⟩
theorem ed_PYr (hS : ed_Sh rr cc R C) (hC : ed_Ce ce R C T) {l i : Nat} (hi : i < 4) {f : Nat → ed_K} {b : Nat → Int32} (hb : ∀ t, t < R i * C i → b t = ed_I (f t)) : ed_PY (ed_up R l (R i)) (ed_up C l (C i)) (ed_up T l f) (upd rr l (nI (R i)), upd cc l (nI (C i)), ed_cp ce (l * 48) (R i * C i) b, b, od, po, sy) := by
  obtain ⟨h1, h2, h3, h4, h5, h6, h7⟩ := hS i hi
  exact ⟨_, _, _, _, _, _, _, rfl, ed_Sh_up hS h3 h4 h5 h6 h7, ed_Ce_up hC (ed_ShB hS) h7 hb⟩
theorem ed_xAdd28 {post : Int32 → SX → Prop} (hS : ed_Sh rr cc R C) (hC : ed_Ce ce R C T) {l a b N : Nat} {s : ed_K} (hl : l < 4) (ha : a < 4) (hb : b < 4) (hN : R a * C a = N) (hN2 : R b * C b = N) (h48 : N ≤ 48) : ∀ n i : Nat, N < n + i → i ≤ N → post 1 (ed_cp ce (l * 48) (R a * C a) (ed_cp re 0 N (fun t => ed_I (T a t + s * T b t))), upd rr l (nI (R a)), upd cc l (nI (C a)), ed_cp re 0 N (fun t => ed_I (T a t + s * T b t)), ba, cu, ol, sa) → wX_add_28 post (nI l) (nI a) (nI b) (ed_I s) n (nI i) ce rr cc (ed_cp re 0 i (fun t => ed_I (T a t + s * T b t))) ba cu ol sa := by
  intro n
  induction n with
  | zero => intro i h1 h2; omega
  | succ n ih =>
    intro i h1 h2 k
    have va : vp_in (nI a) 4 := vp_in_nI ha (by decide)
    rw [wX_add_28]
    dsimp only
    rw [nI_clamp (show a < 2 ^ 31 by omega), (hS a ha).1, (hS a ha).2.1, pk_mul, hN, ed_ix, ed_ix, nI_clamp (show i < 2 ^ 31 by omega), nI_clamp (show a * 48 + i < 2 ^ 31 by omega), nI_clamp (show b * 48 + i < 2 ^ 31 by omega)]
    by_cases e : i = N
    · subst e
      exact ⟨va, va, br_t (nI_le (Nat.le_refl _) (by omega)) ⟨va, va, ed_xDel hl (by omega) k⟩⟩
    · rw [hC a i ha (by omega), hC b i hb (by omega)]
      exact ⟨va, va, br_f (nI_ge (by omega) (by omega)) ⟨vp_in_nI (by omega) (by decide), vp_in_nI (by omega) (by decide), ed_xPP _ _ _ ⟨vp_in_nI (by omega) (by decide), nm_r (ed_cpS0 re i (fun t => ed_I (T a t + s * T b t))) (nm_r (nI_1 i) (ih (i + 1) (by omega) (by omega) k))⟩⟩⟩
theorem ed_xAdd {post : Int32 → SX → Prop} (hS : ed_Sh rr cc R C) (hC : ed_Ce ce R C T) {x y z w : Int32} (hy : ∀ l i j, ed_ok R C x y z l i j → ∀ u', ed_PX (ed_up R l (R i)) (ed_up C l (C i)) (ed_up T l (fun t => T i t + ed_Z w.toInt * T j t)) u' → post 1 u') (hn : (∀ l i j, ¬ ed_ok R C x y z l i j) → post 0 (ce, rr, cc, re, ba, cu, ol, sa)) : wpX_add post (ce, rr, cc, re, ba, cu, ol, sa) x y z w := by
  unfold wpX_add
  dsimp only
  refine ed_xOk hS (fun l i j o => ?_) hn
  have hq := hy l i j o
  obtain ⟨hl, hi, hj, rfl, rfl, rfl, e3, e4⟩ := o
  refine ed_xEl _ ⟨R i * C i + 1, ?_⟩
  have k := ed_xAdd28 (post := post) (ce := ce) (re := re) (ba := ba) (cu := cu) (ol := ol) (sa := sa) (s := ed_Z w.toInt) hS hC hl hi hj rfl (by rw [e3, e4]) (ed_ShB hS i hi) (R i * C i + 1) 0 (by omega) (by omega) (hq _ (ed_PXr hS hC hi (fun t ht => ed_cp0_in ht)))
  rw [ed_cp0] at k
  exact k
theorem ed_xMul21 {post : Int32 → SX → Prop} (hS : ed_Sh rr cc R C) (hC : ed_Ce ce R C T) {l a b N : Nat} (hl : l < 4) (ha : a < 4) (hb : b < 4) (hN : R a * C a = N) (hN2 : R b * C b = N) (h48 : N ≤ 48) : ∀ n i : Nat, N < n + i → i ≤ N → post 1 (ed_cp ce (l * 48) (R a * C a) (ed_cp re 0 N (fun t => ed_I (T a t * T b t))), upd rr l (nI (R a)), upd cc l (nI (C a)), ed_cp re 0 N (fun t => ed_I (T a t * T b t)), ba, cu, ol, sa) → wX_multiply_21 post (nI l) (nI a) (nI b) n (nI i) ce rr cc (ed_cp re 0 i (fun t => ed_I (T a t * T b t))) ba cu ol sa := by
  intro n
  induction n with
  | zero => intro i h1 h2; omega
  | succ n ih =>
    intro i h1 h2 k
    have va : vp_in (nI a) 4 := vp_in_nI ha (by decide)
    rw [wX_multiply_21]
    dsimp only
    rw [nI_clamp (show a < 2 ^ 31 by omega), (hS a ha).1, (hS a ha).2.1, pk_mul, hN, ed_ix, ed_ix, nI_clamp (show i < 2 ^ 31 by omega), nI_clamp (show a * 48 + i < 2 ^ 31 by omega), nI_clamp (show b * 48 + i < 2 ^ 31 by omega)]
    by_cases e : i = N
    · subst e
      exact ⟨va, va, br_t (nI_le (Nat.le_refl _) (by omega)) ⟨va, va, ed_xDel hl (by omega) k⟩⟩
    · rw [hC a i ha (by omega), hC b i hb (by omega)]
      exact ⟨va, va, br_f (nI_ge (by omega) (by omega)) ⟨vp_in_nI (by omega) (by decide), vp_in_nI (by omega) (by decide), ed_xPro _ _ ⟨vp_in_nI (by omega) (by decide), nm_r (ed_cpS0 re i (fun t => ed_I (T a t * T b t))) (nm_r (nI_1 i) (ih (i + 1) (by omega) (by omega) k))⟩⟩⟩
theorem ed_xMul {post : Int32 → SX → Prop} (hS : ed_Sh rr cc R C) (hC : ed_Ce ce R C T) {x y z : Int32} (hy : ∀ l i j, ed_ok R C x y z l i j → ∀ u', ed_PX (ed_up R l (R i)) (ed_up C l (C i)) (ed_up T l (fun t => T i t * T j t)) u' → post 1 u') (hn : (∀ l i j, ¬ ed_ok R C x y z l i j) → post 0 (ce, rr, cc, re, ba, cu, ol, sa)) : wpX_multiply post (ce, rr, cc, re, ba, cu, ol, sa) x y z := by
  unfold wpX_multiply
  dsimp only
  refine ed_xOk hS (fun l i j o => ?_) hn
  have hq := hy l i j o
  obtain ⟨hl, hi, hj, rfl, rfl, rfl, e3, e4⟩ := o
  have k := ed_xMul21 (post := post) (ce := ce) (re := re) (ba := ba) (cu := cu) (ol := ol) (sa := sa) hS hC hl hi hj rfl (by rw [e3, e4]) (ed_ShB hS i hi) (R i * C i + 1) 0 (by omega) (by omega) (hq _ (ed_PXr hS hC hi (fun t ht => ed_cp0_in ht)))
  rw [ed_cp0] at k
  exact ⟨_, k⟩
theorem ed_rg_ac {K : Type} [Lean.Grind.CommRing K] (x y z : K) : x * y + z = z + x * y := by grind
theorem ed_ypp (a b c : ed_K) : ed_Z ((ed_I a).toInt64 * (ed_I b).toInt64 + (ed_I c).toInt64).toInt = c + a * b := by
  have h := ed_mul64 (ed_I a) (ed_I b)
  have p := ed_IP c
  have q := ed_I0 c
  have n := ed_nn (ed_I0 a) (ed_I0 b)
  rw [Jvm.Kit.i64_add (by rw [h.1, Jvm.Kit.i64_of_i32]; omega) (by rw [h.1, Jvm.Kit.i64_of_i32]; omega), h.1, Jvm.Kit.i64_of_i32, ed_Z_add, ed_Z_mul, ed_ZI, ed_ZI, ed_ZI, ed_rg_ac]
theorem ed_yAdd23 {post : Int32 → SY → Prop} (hS : ed_Sh rr cc R C) (hC : ed_Ce ce R C T) {l a b N : Nat} {s : ed_K} (hl : l < 4) (ha : a < 4) (hb : b < 4) (hN : R a * C a = N) (hN2 : R b * C b = N) (h48 : N ≤ 48) : ∀ n i : Nat, N < n + i → i ≤ N → post 1 (upd rr l (nI (R a)), upd cc l (nI (C a)), ed_cp ce (l * 48) (R a * C a) (ed_cp ma 0 N (fun t => ed_I (T a t + s * T b t))), ed_cp ma 0 N (fun t => ed_I (T a t + s * T b t)), od, po, sy) → wY_add_23 post (nI l) (nI a) (nI b) (ed_I s) n (nI i) rr cc ce (ed_cp ma 0 i (fun t => ed_I (T a t + s * T b t))) od po sy := by
  intro n
  induction n with
  | zero => intro i h1 h2; omega
  | succ n ih =>
    intro i h1 h2 k
    rw [wY_add_23]
    refine ed_yCnt ha (hS a ha).1 (hS a ha).2.1 ?_
    rw [hN, ed_iy, ed_iy, nI_clamp (show i < 2 ^ 31 by omega), nI_clamp (show a * 48 + i < 2 ^ 31 by omega), nI_clamp (show b * 48 + i < 2 ^ 31 by omega)]
    by_cases e : i = N
    · subst e
      exact br_t (nI_le (Nat.le_refl _) (by omega)) (ed_yGiv hS hl ha ⟨rfl, k⟩)
    · rw [hC a i ha (by omega), hC b i hb (by omega)]
      exact br_f (nI_ge (by omega) (by omega)) ⟨vp_in_nI (by omega) (by decide), vp_in_nI (by omega) (by decide), nm_e (ed_yMod _ (ed_ypp s (T b i) (T a i)) ⟨vp_in_nI (by omega) (by decide), nm_r (ed_cpS0 ma i (fun t => ed_I (T a t + s * T b t))) (nm_r (nI_1 i) (ih (i + 1) (by omega) (by omega) k))⟩)⟩
theorem ed_yAdd {post : Int32 → SY → Prop} (hS : ed_Sh rr cc R C) (hC : ed_Ce ce R C T) {x y z w : Int32} (hy : ∀ l i j, ed_ok R C x y z l i j → ∀ u', ed_PY (ed_up R l (R i)) (ed_up C l (C i)) (ed_up T l (fun t => T i t + ed_Z w.toInt * T j t)) u' → post 1 u') (hn : (∀ l i j, ¬ ed_ok R C x y z l i j) → post 0 (rr, cc, ce, ma, od, po, sy)) : wpY_add post (rr, cc, ce, ma, od, po, sy) x y z w := by
  unfold wpY_add
  dsimp only
  refine ed_yOk hS (fun l i j o => br_f (by decide) ?_) (fun h => br_t rfl (hn h))
  have hq := hy l i j o
  obtain ⟨hl, hi, hj, rfl, rfl, rfl, e3, e4⟩ := o
  refine ed_yMod (z := ed_Z w.toInt) _ (by rw [Jvm.Kit.i64_of_i32]) ⟨R i * C i + 1, ?_⟩
  have k := ed_yAdd23 (post := post) (ce := ce) (ma := ma) (od := od) (po := po) (sy := sy) (s := ed_Z w.toInt) hS hC hl hi hj rfl (by rw [e3, e4]) (ed_ShB hS i hi) (R i * C i + 1) 0 (by omega) (by omega) (hq _ (ed_PYr hS hC hi (fun t ht => ed_cp0_in ht)))
  rw [ed_cp0] at k
  exact k
theorem ed_yMul15 {post : Int32 → SY → Prop} (hS : ed_Sh rr cc R C) (hC : ed_Ce ce R C T) {l a b N : Nat} (hl : l < 4) (ha : a < 4) (hb : b < 4) (hN : R a * C a = N) (hN2 : R b * C b = N) (h48 : N ≤ 48) : ∀ n i : Nat, N < n + i → i ≤ N → post 1 (upd rr l (nI (R a)), upd cc l (nI (C a)), ed_cp ce (l * 48) (R a * C a) (ed_cp ma 0 N (fun t => ed_I (T a t * T b t))), ed_cp ma 0 N (fun t => ed_I (T a t * T b t)), od, po, sy) → wY_multiply_15 post (nI l) (nI a) (nI b) n (nI i) rr cc ce (ed_cp ma 0 i (fun t => ed_I (T a t * T b t))) od po sy := by
  intro n
  induction n with
  | zero => intro i h1 h2; omega
  | succ n ih =>
    intro i h1 h2 k
    rw [wY_multiply_15]
    refine ed_yCnt ha (hS a ha).1 (hS a ha).2.1 ?_
    rw [hN, ed_iy, ed_iy, nI_clamp (show i < 2 ^ 31 by omega), nI_clamp (show a * 48 + i < 2 ^ 31 by omega), nI_clamp (show b * 48 + i < 2 ^ 31 by omega)]
    by_cases e : i = N
    · subst e
      exact br_t (nI_le (Nat.le_refl _) (by omega)) (ed_yGiv hS hl ha ⟨rfl, k⟩)
    · rw [hC a i ha (by omega), hC b i hb (by omega)]
      exact br_f (nI_ge (by omega) (by omega)) ⟨vp_in_nI (by omega) (by decide), vp_in_nI (by omega) (by decide), ed_yPro _ _ ⟨vp_in_nI (by omega) (by decide), nm_r (ed_cpS0 ma i (fun t => ed_I (T a t * T b t))) (nm_r (nI_1 i) (ih (i + 1) (by omega) (by omega) k))⟩⟩
theorem ed_yMul {post : Int32 → SY → Prop} (hS : ed_Sh rr cc R C) (hC : ed_Ce ce R C T) {x y z : Int32} (hy : ∀ l i j, ed_ok R C x y z l i j → ∀ u', ed_PY (ed_up R l (R i)) (ed_up C l (C i)) (ed_up T l (fun t => T i t * T j t)) u' → post 1 u') (hn : (∀ l i j, ¬ ed_ok R C x y z l i j) → post 0 (rr, cc, ce, ma, od, po, sy)) : wpY_multiply post (rr, cc, ce, ma, od, po, sy) x y z := by
  unfold wpY_multiply
  dsimp only
  refine ed_yOk hS (fun l i j o => br_f (by decide) ?_) (fun h => br_t rfl (hn h))
  have hq := hy l i j o
  obtain ⟨hl, hi, hj, rfl, rfl, rfl, e3, e4⟩ := o
  have k := ed_yMul15 (post := post) (ce := ce) (ma := ma) (od := od) (po := po) (sy := sy) hS hC hl hi hj rfl (by rw [e3, e4]) (ed_ShB hS i hi) (R i * C i + 1) 0 (by omega) (by omega) (hq _ (ed_PYr hS hC hi (fun t ht => ed_cp0_in ht)))
  rw [ed_cp0] at k
  exact ⟨_, k⟩
end
theorem i_vc_add {k : Nat} {u : SX} {v : SY} (I : i_Rel k u v) (hk : k + 5 ≤ 2560) (v1 : Int32) (v2 : Int32) (v3 : Int32) (v4 : Int32) : wpX_add (fun r u' => wpY_add (fun r' v' => r' = r ∧ i_Rel (k + 5) u' v') v v1 v2 v3 v4) u v1 v2 v3 v4 := by
  have I0 := I
  obtain ⟨R, C, T, ⟨ce, rr, cc, re, ba, cu, ol, sa, rfl, hS, hC⟩, ⟨rr', cc', ce', ma, od, po, sy, rfl, hS', hC'⟩⟩ := I
  refine ed_xAdd hS hC (fun l i j o u' hu => ed_yAdd hS' hC' (fun l' i' j' o' v' hv => ?_) (fun h => absurd o (h l i j))) (fun h => ed_yAdd hS' hC' (fun l i j o => absurd o (h l i j)) (fun _ => ⟨rfl, I0⟩))
  obtain ⟨rfl, rfl, rfl⟩ := ed_ok_u o o'
  exact ⟨rfl, _, _, _, hu, hv⟩
theorem i_vc_multiply {k : Nat} {u : SX} {v : SY} (I : i_Rel k u v) (hk : k + 5 ≤ 2560) (v1 : Int32) (v2 : Int32) (v3 : Int32) : wpX_multiply (fun r u' => wpY_multiply (fun r' v' => r' = r ∧ i_Rel (k + 5) u' v') v v1 v2 v3) u v1 v2 v3 := by
  have I0 := I
  obtain ⟨R, C, T, ⟨ce, rr, cc, re, ba, cu, ol, sa, rfl, hS, hC⟩, ⟨rr', cc', ce', ma, od, po, sy, rfl, hS', hC'⟩⟩ := I
  refine ed_xMul hS hC (fun l i j o u' hu => ed_yMul hS' hC' (fun l' i' j' o' v' hv => ?_) (fun h => absurd o (h l i j))) (fun h => ed_yMul hS' hC' (fun l i j o => absurd o (h l i j)) (fun _ => ⟨rfl, I0⟩))
  obtain ⟨rfl, rfl, rfl⟩ := ed_ok_u o o'
  exact ⟨rfl, _, _, _, hu, hv⟩
