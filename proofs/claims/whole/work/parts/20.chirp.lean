/-! evaluate, chirp -/
section
variable {R C : Nat → Nat} {T : Nat → Nat → ed_K} {ce rr cc re ba cu ol sa ma od po sy : Nat → Int32}
theorem ed_xVal {post : Int32 → Prop} (hC : ed_Ce ce R C T) {v N : Nat} {x : ed_K} (hv : v < 4) (hN : N ≤ 48) (hR : N ≤ R v * C v) (k : post (ed_I (ed_va (T v) N x))) : wpX_valueOf__cells post (ce, rr, cc, re, ba, cu, ol, sa) (nI v * 48) 1 (nI N) (ed_I x) := by
  rw [ed_ix0]
  exact ed_xVc (s := 1) (by omega) (fun i hi => by rw [Nat.mul_one]; exact hC v i hv (by omega)) (fun i hi => by omega) k
theorem ed_yRow {A B : Prop} (hS : ed_Sh rr cc R C) {x : Int32} (hy : ∀ j, j < 4 → x = nI j → R j = 1 → B) (hn : (∀ j, j < 4 → x = nI j → R j ≠ 1) → A) : wpY_table (fun r => ((r = 0 → A) ∧ (¬ r = 0 → (vp_in x 4 ∧ ((rr x.toNatClampNeg ≤ 1 → B) ∧ (¬ rr x.toNatClampNeg ≤ 1 → A)))))) (rr, cc, ce, ma, od, po, sy) x := by
  refine ed_yTab (fun j hj e => br_f (by decide) ?_) (fun h => br_t rfl (hn (fun j hj e => absurd e (h j hj))))
  subst e
  obtain ⟨h1, h2, h3, h4, h5, h6, h7⟩ := hS j hj
  refine ⟨vp_in_nI hj (by decide), ?_⟩
  rw [nI_clamp (by omega), h1]
  refine pk_le (R j) 1 (fun c => hy j hj rfl (by omega)) (fun c => hn (fun j' hj' e => ?_))
  rw [← ed_nIe hj hj' e]
  omega
theorem ed_yEv35 {post : Int32 → Prop} (hS : ed_Sh rr cc R C) (hC : ed_Ce ce R C T) {v N : Nat} {y : ed_K} (hv : v < 4) (hR : R v = 1) (hN : C v = N) (k : post (ed_I (ed_va (T v) N y))) : ∀ n i : Nat, ∀ S : Int64, N < n + i → i ≤ N → ed_Ac S i (ed_va (T v) i y) → wY_evaluate_35 post (nI v) (ed_I y) rr cc ce ma od po sy n (ed_I (ed_pw y i)) S (nI i) := by
  intro n
  obtain ⟨g1, g2, g3, g4, g5, g6, g7⟩ := hS v hv
  have va : vp_in (nI v) 4 := vp_in_nI hv (by decide)
  induction n with
  | zero => intro i S h1 h2; omega
  | succ n ih =>
    intro i S h1 h2 h3
    rw [wY_evaluate_35]
    dsimp only
    rw [nI_clamp (show v < 2 ^ 31 by omega), g2, hN, ed_iy, nI_clamp (show v * 48 + i < 2 ^ 31 by omega)]
    by_cases e : i = N
    · subst e
      exact ⟨va, br_t (nI_le (Nat.le_refl _) (by omega)) (ed_yMod S h3.1 k)⟩
    · rw [hC v i hv (by rw [hR, hN]; omega)]
      refine ⟨va, br_f (nI_ge (by omega) (by omega)) ⟨vp_in_nI (by omega) (by decide), ed_yPro _ _ (nm_e (ed_yPro _ _ (nm_r (nI_1 i) ?_)))⟩⟩
      exact ih (i + 1) _ (by omega) (by omega) (ed_AcS h3 (by omega) _)
theorem ed_yEv {post : Int32 → Prop} (hS : ed_Sh rr cc R C) (hC : ed_Ce ce R C T) {x y : Int32} (hy : ∀ v, v < 4 → x = nI v → R v = 1 → post (ed_I (ed_va (T v) (C v) (ed_Z y.toInt)))) (hn : (∀ v, v < 4 → x = nI v → R v ≠ 1) → post (-1)) : wpY_evaluate post (rr, cc, ce, ma, od, po, sy) x y := by
  unfold wpY_evaluate
  dsimp only
  refine ed_yRow hS (fun v hv e hR => ed_yMod (z := ed_Z y.toInt) _ (by rw [Jvm.Kit.i64_of_i32]) ?_) hn
  have hq := hy v hv e hR
  subst e
  have k := ed_yEv35 (post := post) (ma := ma) (od := od) (po := po) (sy := sy) hS hC hv hR rfl hq (C v + 1) 0 0 (by omega) (by omega) ed_Ac0
  rw [ed_pw0, ed_I_1] at k
  exact ⟨_, k⟩
theorem ed_xEv {post : Int32 → Prop} (hS : ed_Sh rr cc R C) (hC : ed_Ce ce R C T) {x y : Int32} (hy : ∀ v, v < 4 → x = nI v → R v = 1 → post (ed_I (ed_va (T v) (C v) (ed_Z y.toInt)))) (hn : (∀ v, v < 4 → x = nI v → R v ≠ 1) → post (-1)) : wpX_evaluate post (ce, rr, cc, re, ba, cu, ol, sa) x y := by
  unfold wpX_evaluate
  dsimp only
  refine ed_xRow hS (fun v hv e hR => br_f (by decide) (ed_xEl _ ?_)) (fun h => br_t rfl (hn h))
  have hq := hy v hv e hR
  subst e
  obtain ⟨g1, g2, g3, g4, g5, g6, g7⟩ := hS v hv
  rw [nI_clamp (show v < 2 ^ 31 by omega), g2]
  exact ⟨vp_in_nI hv (by decide), ed_xVal (post := fun r => post r) hC hv (by omega) (by rw [hR]; omega) hq⟩
/-- the exponent start + k * step -/
theorem ed_ex (a b : Int32) {k : Nat} (hk : k < 1000) : (a.toInt64 + (nI k).toInt64 * b.toInt64).toInt = a.toInt + (k : Int) * b.toInt ∧ -4294967296000 ≤ a.toInt + (k : Int) * b.toInt ∧ a.toInt + (k : Int) * b.toInt ≤ 4294967296000 := by
  have m := ed_mul64 (nI k) b
  have a1 := a.le_toInt
  have a2 := a.toInt_lt
  have b1 := b.le_toInt
  have b2 := b.toInt_lt
  rw [nI_toInt (show k < 2 ^ 31 by omega)] at m
  have h : ((k : Int) * b.toInt).natAbs ≤ 999 * 2147483648 := by
    rw [Int.natAbs_mul]
    exact Nat.mul_le_mul (by omega) (by omega)
  generalize (k : Int) * b.toInt = p at m h
  refine ⟨?_, by omega, by omega⟩
  rw [Jvm.Kit.i64_add (by rw [m.1, Jvm.Kit.i64_of_i32]; omega) (by rw [m.1, Jvm.Kit.i64_of_i32]; omega), m.1, Jvm.Kit.i64_of_i32]
theorem ed_ex2 (a b : Int32) {j k : Nat} (hj : j < 1000) (hk : k < 1000) : ((nI j).toInt64 * (a.toInt64 + (nI k).toInt64 * b.toInt64)).toInt = (j : Int) * (a.toInt + (k : Int) * b.toInt) := by
  obtain ⟨e, h1, h2⟩ := ed_ex a b hk
  have h : ((j : Int) * (a.toInt + (k : Int) * b.toInt)).natAbs ≤ 999 * 4294967296000 := by
    rw [Int.natAbs_mul]
    exact Nat.mul_le_mul (by omega) (by omega)
  have tj : (nI j).toInt64.toInt = (j : Int) := by rw [Jvm.Kit.i64_of_i32, nI_toInt (by omega)]
  rw [Jvm.Kit.i64_mul (by rw [tj, e]; omega) (by rw [tj, e]; omega), tj, e]
def ed_ch (T : Nat → Nat → ed_K) (a n : Nat) (s t : Int) (k : Nat) : ed_K := ed_va (T a) n (ed_gz (s + (k : Int) * t))
theorem ed_xCh28 {post : Int32 → SX → Prop} (hS : ed_Sh rr cc R C) (hC : ed_Ce ce R C T) {l a N : Nat} {s t : Int32} (hl : l < 4) (ha : a < 4) (hR : R a = 1) (hN : C a = N) (k : post 1 (ed_cp ce (l * 48) (1 * N) (ed_cp re 0 N (fun k => ed_I (ed_ch T a N s.toInt t.toInt k))), upd rr l (nI 1), upd cc l (nI N), ed_cp re 0 N (fun k => ed_I (ed_ch T a N s.toInt t.toInt k)), ba, cu, ol, sa)) : ∀ n i : Nat, N < n + i → i ≤ N → wX_chirp_28 post (nI l) (nI a) s t (nI N) n (nI i) ce rr cc (ed_cp re 0 i (fun k => ed_I (ed_ch T a N s.toInt t.toInt k))) ba cu ol sa := by
  intro n
  obtain ⟨g1, g2, g3, g4, g5, g6, g7⟩ := hS a ha
  induction n with
  | zero => intro i h1 h2; omega
  | succ n ih =>
    intro i h1 h2
    rw [wX_chirp_28]
    dsimp only
    by_cases e : i = N
    · subst e
      exact br_t (nI_le (Nat.le_refl _) (by omega)) (ed_xDel (h := 1) hl (by omega) k)
    · have ee := (ed_ex s t (show i < 1000 by omega)).1
      refine br_f (nI_ge (by omega) (by omega)) (ed_xPog _ (ed_xVal hC ha (by omega) (by rw [hR, hN]; omega) ?_))
      rw [ee, nI_clamp (show i < 2 ^ 31 by omega)]
      exact ⟨vp_in_nI (by omega) (by decide), nm_r (ed_cpS0 re i (fun k => ed_I (ed_ch T a N s.toInt t.toInt k))) (nm_r (nI_1 i) (ih (i + 1) (by omega) (by omega)))⟩
theorem ed_xCh {post : Int32 → SX → Prop} (hS : ed_Sh rr cc R C) (hC : ed_Ce ce R C T) {x y s t : Int32} (hy : ∀ l a, l < 4 → a < 4 → x = nI l → y = nI a → R a = 1 → ∀ u', ed_PX (ed_up R l 1) (ed_up C l (C a)) (ed_up T l (ed_ch T a (C a) s.toInt t.toInt)) u' → post 1 u') (hn : (∀ l a, l < 4 → a < 4 → x = nI l → y = nI a → R a ≠ 1) → post 0 (ce, rr, cc, re, ba, cu, ol, sa)) : wpX_chirp post (ce, rr, cc, re, ba, cu, ol, sa) x y s t := by
  unfold wpX_chirp
  dsimp only
  refine ed_xTab (fun l hl e => br_f (by decide) (ed_xRow hS (fun a ha e2 hR => br_f (by decide) ?_) (fun h => br_t rfl (hn (fun l a hl ha _ e => h a ha e))))) (fun h => br_t rfl (hn (fun l a hl ha e => absurd e (h l hl))))
  have hq := hy l a hl ha e e2 hR
  subst e e2
  obtain ⟨g1, g2, g3, g4, g5, g6, g7⟩ := hS a ha
  rw [nI_clamp (show a < 2 ^ 31 by omega), g2]
  have h1 : 1 * C a ≤ 48 := by omega
  have k := ed_xCh28 (post := post) (ce := ce) (re := re) (ba := ba) (cu := cu) (ol := ol) (sa := sa) (s := s) (t := t) hS hC hl ha hR rfl (hq _ ⟨_, _, _, _, _, _, _, _, rfl, ed_Sh_up hS (by decide) (by decide) g5 g6 h1, ed_Ce_up hC (ed_ShB hS) h1 (fun i hi => ed_cp0_in (by omega))⟩) (C a + 1) 0 (by omega) (by omega)
  rw [ed_cp0] at k
  exact ⟨vp_in_nI ha (by decide), nm_e ⟨_, k⟩⟩
theorem ed_yCh52 {post : Int32 → SY → Prop} {J : Int32 → (Nat → Int32) → (Nat → Int32) → (Nat → Int32) → (Nat → Int32) → (Nat → Int32) → (Nat → Int32) → (Nat → Int32) → Prop} (hC : ed_Ce ce R C T) {l a N i : Nat} {s t : Int32} (ha : a < 4) (hR : R a = 1) (hN : C a = N) (h16 : N ≤ 16) (hi : i < N) (k : J (nI (i + 1)) rr cc ce (upd ma i (ed_I (ed_ch T a N s.toInt t.toInt i))) od po sy) : ∀ n j : Nat, ∀ S : Int64, N < n + j → j ≤ N → ed_Ac S j (ed_va (T a) j (ed_gz (s.toInt + (i : Int) * t.toInt))) → wY_chirp_52 post J (nI l) (nI a) s t (nI N) (nI i) rr cc ce ma od po sy n S (nI j) := by
  intro n
  induction n with
  | zero => intro j S h1 h2; omega
  | succ n ih =>
    intro j S h1 h2 h3
    rw [wY_chirp_52]
    dsimp only
    rw [ed_iy, nI_clamp (show i < 2 ^ 31 by omega), nI_clamp (show a * 48 + j < 2 ^ 31 by omega)]
    by_cases e : j = N
    · subst e
      exact br_t (nI_le (Nat.le_refl _) (by omega)) (ed_yMod S h3.1 ⟨vp_in_nI (by omega) (by decide), nm_e (nm_r (nI_1 i) k)⟩)
    · rw [hC a j ha (by rw [hR, hN]; omega), ed_17]
      refine br_f (nI_ge (by omega) (by omega)) (ed_yPow _ _ ⟨vp_in_nI (by omega) (by decide), ?_⟩)
      rw [ed_ex2 s t (show j < 1000 by omega) (show i < 1000 by omega), show ed_pw (17 : ed_K) ((j : Int) * (s.toInt + (i : Int) * t.toInt) % 1014773760).toNat = ed_pw (ed_gz (s.toInt + (i : Int) * t.toInt)) j from ed_gz_mul j _]
      exact ed_yPro _ _ (nm_e (nm_r (nI_1 j) (ih (j + 1) _ (by omega) (by omega) (ed_AcS h3 (by omega) _))))
theorem ed_yCh39 {post : Int32 → SY → Prop} (hS : ed_Sh rr cc R C) (hC : ed_Ce ce R C T) {l a N : Nat} {s t : Int32} (hl : l < 4) (ha : a < 4) (hR : R a = 1) (hN : C a = N) (k : post 1 (upd rr l (nI (R a)), upd cc l (nI (C a)), ed_cp ce (l * 48) (R a * C a) (ed_cp ma 0 N (fun k => ed_I (ed_ch T a N s.toInt t.toInt k))), ed_cp ma 0 N (fun k => ed_I (ed_ch T a N s.toInt t.toInt k)), od, po, sy)) : ∀ n i : Nat, N < n + i → i ≤ N → wY_chirp_39 post (nI l) (nI a) s t (nI N) n (nI i) rr cc ce (ed_cp ma 0 i (fun k => ed_I (ed_ch T a N s.toInt t.toInt k))) od po sy := by
  intro n
  obtain ⟨g1, g2, g3, g4, g5, g6, g7⟩ := hS a ha
  induction n with
  | zero => intro i h1 h2; omega
  | succ n ih =>
    intro i h1 h2
    rw [wY_chirp_39]
    dsimp only
    by_cases e : i = N
    · subst e
      exact br_t (nI_le (Nat.le_refl _) (by omega)) (ed_yGiv hS hl ha ⟨rfl, k⟩)
    · refine br_f (nI_ge (by omega) (by omega)) ⟨N + 1, ed_yCh52 hC ha hR hN (by omega) (by omega) ?_ (N + 1) 0 0 (by omega) (by omega) ed_Ac0⟩
      rw [ed_cpS0 ma i (fun k => ed_I (ed_ch T a N s.toInt t.toInt k))]
      exact ih (i + 1) (by omega) (by omega)
theorem ed_yCh {post : Int32 → SY → Prop} (hS : ed_Sh rr cc R C) (hC : ed_Ce ce R C T) {x y s t : Int32} (hy : ∀ l a, l < 4 → a < 4 → x = nI l → y = nI a → R a = 1 → ∀ u', ed_PY (ed_up R l 1) (ed_up C l (C a)) (ed_up T l (ed_ch T a (C a) s.toInt t.toInt)) u' → post 1 u') (hn : (∀ l a, l < 4 → a < 4 → x = nI l → y = nI a → R a ≠ 1) → post 0 (rr, cc, ce, ma, od, po, sy)) : wpY_chirp post (rr, cc, ce, ma, od, po, sy) x y s t := by
  unfold wpY_chirp
  dsimp only
  refine ed_yTab (fun a ha e2 => br_f (by decide) (ed_yTab (fun l hl e => br_f (by decide) ?_) (fun h => br_t rfl (hn (fun l a hl ha e => absurd e (h l hl)))))) (fun h => br_t rfl (hn (fun l a hl ha _ e => absurd e (h a ha))))
  have hq := hy l a hl ha e e2
  subst e e2
  obtain ⟨g1, g2, g3, g4, g5, g6, g7⟩ := hS a ha
  have va : vp_in (nI a) 4 := vp_in_nI ha (by decide)
  rw [nI_clamp (show a < 2 ^ 31 by omega), g1, g2]
  refine ⟨va, pk_le (R a) 1 (fun c => ?_) (fun c => hn (fun l' a' hl' ha' _ e => ?_))⟩
  · have hR : R a = 1 := by omega
    have k := ed_yCh39 (post := post) (ce := ce) (ma := ma) (od := od) (po := po) (sy := sy) (s := s) (t := t) hS hC hl ha hR rfl (hq hR _ (by have q := ed_PYr (l := l) (od := od) (po := po) (sy := sy) hS hC ha (f := ed_ch T a (C a) s.toInt t.toInt) (b := ed_cp ma 0 (C a) (fun k => ed_I (ed_ch T a (C a) s.toInt t.toInt k))) (fun i hi => ed_cp0_in (by rw [hR] at hi; omega)); rw [hR] at q ⊢; exact q)) (C a + 1) 0 (by omega) (by omega)
    rw [ed_cp0] at k
    exact ⟨va, nm_e ⟨_, k⟩⟩
  · rw [← ed_nIe ha ha' e]
    omega
end
theorem i_vc_evaluate {k : Nat} {u : SX} {v : SY} (I : i_Rel k u v) (hk : k + 5 ≤ 2560) (v1 : Int32) (v2 : Int32) : wpX_evaluate (fun r => wpY_evaluate (fun r' => r' = r ∧ i_Rel (k + 5) u v) v v1 v2) u v1 v2 := by
  have I0 := I
  obtain ⟨R, C, T, ⟨ce, rr, cc, re, ba, cu, ol, sa, rfl, hS, hC⟩, ⟨rr', cc', ce', ma, od, po, sy, rfl, hS', hC'⟩⟩ := I
  refine ed_xEv hS hC (fun j hj e hR => ed_yEv hS' hC' (fun j' hj' e' hR' => ?_) (fun h => absurd hR (h j hj e))) (fun h => ed_yEv hS' hC' (fun j hj e hR => absurd hR (h j hj e)) (fun _ => ⟨rfl, I0⟩))
  obtain rfl := ed_nIe hj hj' (e.symm.trans e')
  exact ⟨rfl, I0⟩
theorem i_vc_chirp {k : Nat} {u : SX} {v : SY} (I : i_Rel k u v) (hk : k + 5 ≤ 2560) (v1 : Int32) (v2 : Int32) (v3 : Int32) (v4 : Int32) : wpX_chirp (fun r u' => wpY_chirp (fun r' v' => r' = r ∧ i_Rel (k + 5) u' v') v v1 v2 v3 v4) u v1 v2 v3 v4 := by
  have I0 := I
  obtain ⟨R, C, T, ⟨ce, rr, cc, re, ba, cu, ol, sa, rfl, hS, hC⟩, ⟨rr', cc', ce', ma, od, po, sy, rfl, hS', hC'⟩⟩ := I
  refine ed_xCh hS hC (fun l a hl ha e1 e2 hR u' hu => ed_yCh hS' hC' (fun l' a' hl' ha' e1' e2' hR' v' hv => ?_) (fun h => absurd hR (h l a hl ha e1 e2))) (fun h => ed_yCh hS' hC' (fun l a hl ha e1 e2 hR => absurd hR (h l a hl ha e1 e2)) (fun _ => ⟨rfl, I0⟩))
  obtain rfl := ed_nIe hl hl' (e1.symm.trans e1')
  obtain rfl := ed_nIe ha ha' (e2.symm.trans e2')
  exact ⟨rfl, _, _, _, hu, hv⟩
