/-! Y: convolve -/
theorem ed_rg_mn {K : Type} [Lean.Grind.CommRing K] (x y z : K) : x - y * z = x + y * (-z) := by grind
/-- the term of element e of a -/
def ed_cte (r s q : Nat) (ta tb : Nat → ed_K) (k l e : Nat) : ed_K := ta e * (if q = 2 ∧ l < e % s then - tb (ed_cr q k (e / s) r * s + ed_cr q l (e % s) s) else tb (ed_cr q k (e / s) r * s + ed_cr q l (e % s) s))
theorem ed_cte_sm (r s q : Nat) (ta tb : Nat → ed_K) (k l : Nat) : ed_sm (fun e => ed_cte r s q ta tb k l e) (r * s) = ed_cv r s q ta tb k l := by
  rw [ed_sm_grid, ed_cv_e]
  refine ed_sm_congr (fun i hi => ed_sm_congr (fun j hj => ?_))
  show ed_cte r s q ta tb k l (i * s + j) = ed_ct r s q ta tb k l i j
  unfold ed_cte ed_ct
  rw [ed_fl_div hj, ed_fl_mod hj]
theorem ed_ycr {q k i r : Nat} (hk : k < r) (hi : i < r) (hr : r < 1000) : (q = 1 → (nI k + nI i) - (nI k + nI i) / nI r * nI r = nI (ed_cr q k i r)) ∧ (q ≠ 1 → (nI k - nI i + nI r) - (nI k - nI i + nI r) / nI r * nI r = nI (ed_cr q k i r)) := by
  unfold ed_cr
  constructor
  · intro c
    rw [if_pos c, nI_add, pk_rem (by omega) (by omega) (by omega)]
  · intro c
    have tk : (nI k).toInt = (k : Int) := nI_toInt (by omega)
    have ti : (nI i).toInt = (i : Int) := nI_toInt (by omega)
    have tr : (nI r).toInt = (r : Int) := nI_toInt (by omega)
    have e1 : (nI k - nI i).toInt = (k : Int) - (i : Int) := by
      rw [Jvm.Kit.i32_sub (by rw [tk, ti]; omega) (by rw [tk, ti]; omega), tk, ti]
    have e : nI k - nI i + nI r = nI (k + r - i) := Int32.toInt_inj.mp (by
      rw [Jvm.Kit.i32_add (by rw [e1, tr]; omega) (by rw [e1, tr]; omega), e1, tr, nI_toInt (by omega)]
      omega)
    rw [if_neg c, e, pk_rem (by omega) (by omega) (by omega)]
section
variable {R C : Nat → Nat} {T : Nat → Nat → ed_K} {rr cc ce ma od po sy : Nat → Int32}
theorem ed_yCv116 {post : Int32 → SY → Prop} {J : ed_J7} (hC : ed_Ce ce R C T) {c a b q k l o r s : Nat} (ha : a < 4) (hb : b < 4) (hq : q ≤ 2) (hr : R a = r) (hs : C a = s) (hr2 : R b = r) (hs2 : C b = s) (h48 : r * s ≤ 48) (hr16 : r ≤ 16) (hs16 : s ≤ 16) (ho : o < 48) (hk : k < r) (hl : l < s) (kk : J (nI (o + 1)) rr cc ce (upd ma o (ed_I (ed_cv r s q (T a) (T b) k l))) od po sy) : ∀ (n e : Nat) (S : Int64), r * s < n + e → e ≤ r * s → ed_Ac S e (ed_sm (fun e => ed_cte r s q (T a) (T b) k l e) e) → wY_convolve_116 post J (nI c) (nI a) (nI b) (nI q) (nI r) (nI s) (nI o) (nI k) (nI l) rr cc ce ma od po sy n S (nI e) := by
  intro n
  have hr0 : ¬ nI r = 0 := nI_ne0 (by omega) (by omega)
  have hs0 : ¬ nI s = 0 := nI_ne0 (by omega) (by omega)
  induction n with
  | zero => intro e S h1 h2; omega
  | succ n ih =>
    intro e S h1 h2 h3
    rw [wY_convolve_116]
    dsimp only
    rw [pk_mul, nI_clamp (show o < 2 ^ 31 by omega)]
    by_cases q1 : e = r * s
    · subst q1
      rw [ed_cte_sm] at h3
      exact br_t (nI_le (Nat.le_refl _) (by omega)) (ed_yMod S h3.1 ⟨vp_in_nI ho (by decide), nm_e (nm_r (nI_1 o) kk)⟩)
    · have he : e < r * s := by omega
      have hj : e % s < s := Nat.mod_lt e (by omega)
      have hi : e / s < r := Nat.div_lt_of_lt_mul (by rw [Nat.mul_comm]; exact he)
      have hcr := ed_cr_lt q k (e / s) (show 0 < r by omega)
      have hcc := ed_cr_lt q l (e % s) (show 0 < s by omega)
      have hfb := ed_fl_lt hcr hcc
      have ca := hC a e ha (by rw [hr, hs]; exact he)
      have cb := hC b (ed_cr q k (e / s) r * s + ed_cr q l (e % s) s) hb (by rw [hr2, hs2]; exact hfb)
      have key : ∀ z : Int32, z = nI (ed_cr q k (e / s) r * s + ed_cr q l (e % s) s) → wY_convolve_195 post J (wY_convolve_116 post J (nI c) (nI a) (nI b) (nI q) (nI r) (nI s) (nI o) (nI k) (nI l) rr cc ce ma od po sy n) (nI c) (nI a) (nI b) (nI q) (nI r) (nI s) (nI o) (nI k) (nI l) S (nI e) (nI (e % s)) z rr cc ce ma od po sy := fun z hz => by
        unfold wY_convolve_195
        rw [hz, ed_iy, ed_iy, nI_clamp (show a * 48 + e < 2 ^ 31 by omega), nI_clamp (show b * 48 + (ed_cr q k (e / s) r * s + ed_cr q l (e % s) s) < 2 ^ 31 by omega), ca, cb]
        have i3 := fun S' h => ih (e + 1) S' (by omega) (by omega) h
        rw [ed_smS] at i3
        unfold ed_cte at i3
        refine ⟨vp_in_nI (by omega) (by decide), vp_in_nI (by omega) (by decide), ed_yPro _ _ (pk_eq q 2 (fun c => pk_le (e % s) l (fun d => ?_) (fun d => ?_)) (fun c => ?_))⟩
        · rw [if_neg (show ¬ (q = 2 ∧ l < e % s) by omega)] at i3
          exact nm_e (nm_r (nI_1 e) (i3 _ (ed_AcS h3 (by omega) _)))
        · rw [if_pos (show (q = 2 ∧ l < e % s) by omega), ← ed_rg_mn] at i3
          exact nm_e (nm_r (nI_1 e) (i3 _ (ed_AcN h3 (by omega) _)))
        · rw [if_neg (show ¬ (q = 2 ∧ l < e % s) by omega)] at i3
          exact nm_e (nm_r (nI_1 e) (i3 _ (ed_AcS h3 (by omega) _)))
      refine br_f (nI_ge (by omega) (by omega)) ⟨hs0, nm_r (pk_div (show e < 2 ^ 31 by omega) (by omega) (by omega)) ⟨hs0, nm_r (pk_rem (show e < 2 ^ 31 by omega) (by omega) (by omega)) (pk_eq q 1 (fun c => ⟨hr0, hs0, key _ ?_⟩) (fun c => ⟨hr0, hs0, key _ ?_⟩))⟩⟩
      · rw [(ed_ycr hk hi (by omega)).1 c, (ed_ycr hl hj (by omega)).1 c, pk_mul, nI_add]
      · rw [(ed_ycr hk hi (by omega)).2 c, (ed_ycr hl hj (by omega)).2 c, pk_mul, nI_add]
theorem ed_yCv86 {post : Int32 → SY → Prop} (hS : ed_Sh rr cc R C) (hC : ed_Ce ce R C T) {c a b q : Nat} (hc4 : c < 4) (ha : a < 4) (hb : b < 4) (hq : q ≤ 2) (hr : R a = R b) (hc : C a = C b) (kk : post 1 (upd rr c (nI (R a)), upd cc c (nI (C a)), ed_cp ce (c * 48) (R a * C a) (ed_cp ma 0 (R a * C a) (fun t => ed_I (ed_cF T (R a) (C a) q a b t))), ed_cp ma 0 (R a * C a) (fun t => ed_I (ed_cF T (R a) (C a) q a b t)), od, po, sy)) : ∀ n o : Nat, R a * C a < n + o → o ≤ R a * C a → wY_convolve_86 post (nI c) (nI a) (nI b) (nI q) (nI (R a)) (nI (C a)) n (nI o) rr cc ce (ed_cp ma 0 o (fun t => ed_I (ed_cF T (R a) (C a) q a b t))) od po sy := by
  intro n
  obtain ⟨g1, g2, g3, g4, g5, g6, g7⟩ := hS a ha
  have hs0 : ¬ nI (C a) = 0 := nI_ne0 (by omega) (by omega)
  induction n with
  | zero => intro o h1 h2; omega
  | succ n ih =>
    intro o h1 h2
    rw [wY_convolve_86]
    dsimp only
    rw [pk_mul]
    by_cases e : o = R a * C a
    · subst e
      exact br_t (nI_le (Nat.le_refl _) (by omega)) (ed_yGiv hS hc4 ha ⟨rfl, kk⟩)
    · have ho : o < R a * C a := by omega
      have hj : o % C a < C a := Nat.mod_lt o (by omega)
      have hi : o / C a < R a := Nat.div_lt_of_lt_mul (by rw [Nat.mul_comm]; exact ho)
      have i3 := ih (o + 1) (by omega) (by omega)
      rw [← ed_cpS0] at i3
      exact br_f (nI_ge (by omega) (by omega)) ⟨hs0, nm_r (pk_div (show o < 2 ^ 31 by omega) (by omega) (by omega)) ⟨hs0, nm_r (pk_rem (show o < 2 ^ 31 by omega) (by omega) (by omega)) ⟨R a * C a + 1, ed_yCv116 hC ha hb hq rfl rfl hr.symm hc.symm g7 g4 g6 (by omega) hi hj i3 (R a * C a + 1) 0 0 (by omega) (by omega) ed_Ac0⟩⟩⟩
theorem ed_yCv {post : Int32 → SY → Prop} (hS : ed_Sh rr cc R C) (hC : ed_Ce ce R C T) {x y z w : Int32} (hy : ∀ l i j q, ed_ok R C x y z l i j → q ≤ 2 → w = nI q → ∀ u', ed_PY (ed_up R l (R i)) (ed_up C l (C i)) (ed_up T l (ed_cF T (R i) (C i) q i j)) u' → post 1 u') (hn : (∀ l i j q, ed_ok R C x y z l i j → q ≤ 2 → w ≠ nI q) → post 0 (rr, cc, ce, ma, od, po, sy)) : wpY_convolve post (rr, cc, ce, ma, od, po, sy) x y z w := by
  unfold wpY_convolve
  dsimp only
  refine ed_yTab (fun i hi e1 => br_f (by decide) ?_) (fun h => br_t rfl (hn (fun l i j q o => absurd o.2.2.2.2.1 (h i o.2.1))))
  refine ed_yTab (fun j hj e2 => br_f (by decide) ?_) (fun h => br_t rfl (hn (fun l i j q o => absurd o.2.2.2.2.2.1 (h j o.2.2.1))))
  refine ed_yTab (fun l hl e0 => br_f (by decide) ?_) (fun h => br_t rfl (hn (fun l i j q o => absurd o.2.2.2.1 (h l o.1))))
  refine br_c (fun c => hn ?_) (fun c => ?_)
  · intro l i j q _ hq e
    rw [e] at c
    exact nI_pos (by omega) c
  obtain ⟨q, hq, rfl⟩ := nI_of c
  refine pk_lt 2 q (fun d => hn (fun l i j q' _ hq' e => ?_)) (fun d => ?_)
  · have := (nI_eq hq (by omega)).mp e
    omega
  have hq2 := fun er ec => hy l i j q ⟨hl, hi, hj, e0, e1, e2, er, ec⟩ d rfl
  have hn2 : (¬ (R i = R j ∧ C i = C j)) → post 0 (rr, cc, ce, ma, od, po, sy) := fun h => hn (fun l' i' j' q' o _ _ => h (by
    have a1 := ed_nIe hi o.2.1 (e1.symm.trans o.2.2.2.2.1)
    have a2 := ed_nIe hj o.2.2.1 (e2.symm.trans o.2.2.2.2.2.1)
    subst a1 a2
    exact ⟨o.2.2.2.2.2.2.1, o.2.2.2.2.2.2.2⟩))
  subst e0 e1 e2
  obtain ⟨h1, h2, h3, h4, h5, h6, h7⟩ := hS i hi
  obtain ⟨g1, g2, g3, g4, g5, g6, g7⟩ := hS j hj
  have vi : vp_in (nI i) 4 := vp_in_nI hi (by decide)
  have vj : vp_in (nI j) 4 := vp_in_nI hj (by decide)
  rw [nI_clamp (show i < 2 ^ 31 by omega), nI_clamp (show j < 2 ^ 31 by omega), h1, h2, g1, g2]
  refine ⟨vi, vj, pk_eq (R i) (R j) (fun er => ⟨vi, vj, pk_eq (C i) (C j) (fun ec => ⟨vi, nm_e ⟨vi, nm_e ?_⟩⟩) (fun ec => hn2 (fun z => ec z.2))⟩) (fun er => hn2 (fun z => er z.1))⟩
  have k := ed_yCv86 (post := post) (ce := ce) (ma := ma) (od := od) (po := po) (sy := sy) hS hC hl hi hj d er ec (hq2 er ec _ (ed_PYr hS hC hi (fun t ht => ed_cp0_in ht))) (R i * C i + 1) 0 (by omega) (by omega)
  rw [ed_cp0] at k
  exact ⟨_, k⟩
end
theorem i_vc_convolve {k : Nat} {u : SX} {v : SY} (I : i_Rel k u v) (hk : k + 5 ≤ 2560) (v1 : Int32) (v2 : Int32) (v3 : Int32) (v4 : Int32) : wpX_convolve (fun r u' => wpY_convolve (fun r' v' => r' = r ∧ i_Rel (k + 5) u' v') v v1 v2 v3 v4) u v1 v2 v3 v4 := by
  have I0 := I
  obtain ⟨R, C, T, ⟨ce, rr, cc, re, ba, cu, ol, sa, rfl, hS, hC⟩, ⟨rr', cc', ce', ma, od, po, sy, rfl, hS', hC'⟩⟩ := I
  refine ed_xCv hS hC (fun l i j q o hq e u' hu => ed_yCv hS' hC' (fun l' i' j' q' o' hq' e' v' hv => ?_) (fun h => absurd e (h l i j q o hq))) (fun h => ed_yCv hS' hC' (fun l i j q o hq e => absurd e (h l i j q o hq)) (fun _ => ⟨rfl, I0⟩))
  obtain ⟨rfl, rfl, rfl⟩ := ed_ok_u o o'
  obtain rfl := (nI_eq (by omega) (by omega)).mp (e.symm.trans e')
  exact ⟨rfl, _, _, _, hu, hv⟩
