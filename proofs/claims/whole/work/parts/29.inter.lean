/-! Y: interpolate, its loops; interpolate -/
theorem ed_rg_i1 {K : Type} [Lean.Grind.CommRing K] (y : K) : 0 + y * 1 = y := by grind
theorem ed_rg_i2 {K : Type} [Lean.Grind.CommRing K] (x y : K) : x + y * 0 = x := by grind
section
variable {R C : Nat → Nat} {T : Nat → Nat → ed_K} {rr cc ce ma od po sy : Nat → Int32}
theorem ed_yIn155 {post : Int32 → SY → Prop} (hS : ed_Sh rr cc R C) {c a N : Nat} (hc : c < 4) (ha : a < 4) (hN : C a = N) (h16 : N ≤ 16) (kk : post 1 (upd rr c (nI (R a)), upd cc c (nI (C a)), ed_cp ce (c * 48) (R a * C a) (ed_cp ma 0 N od), ed_cp ma 0 N od, od, po, sy)) : ∀ n i : Nat, N < n + i → i ≤ N → wY_interpolate_155 post (nI c) (nI a) (nI N) n (nI i) rr cc ce (ed_cp ma 0 i od) od po sy := by
  intro n
  induction n with
  | zero => intro i h1 h2; omega
  | succ n ih =>
    intro i h1 h2
    rw [wY_interpolate_155]
    dsimp only
    by_cases e : i = N
    · subst e
      exact br_t (nI_le (Nat.le_refl _) (by omega)) (ed_yGiv hS hc ha ⟨rfl, kk⟩)
    · rw [nI_clamp (show i < 2 ^ 31 by omega)]
      exact br_f (nI_ge (by omega) (by omega)) ⟨vp_in_nI (by omega) (by decide), vp_in_nI (by omega) (by decide), nm_r (ed_cpS0 ma i od) (nm_r (nI_1 i) (ih (i + 1) (by omega) (by omega)))⟩
theorem ed_yIn118 {post : Int32 → SY → Prop} (hS : ed_Sh rr cc R C) (hC : ed_Ce ce R C T) {c a b N : Nat} (hc : c < 4) (ha : a < 4) (hb : b < 4) (hR : R a = 1) (hN : C a = N) (hR2 : R b = 1) (hN2 : C b = N) (h16 : N ≤ 16) (hj : ed_inj (T a) N) (kk : ∀ (ma' od' po' : Nat → Int32) (f : Nat → ed_K), (∀ t, t < N → ma' t = ed_I (f t)) → (∀ t, t < N → ed_va f N (T a t) = T b t) → post 1 (upd rr c (nI (R a)), upd cc c (nI (C a)), ed_cp ce (c * 48) (R a * C a) ma', ma', od', po', sy)) : ∀ (n i : Nat) (od po : Nat → Int32) (o : Nat → ed_K), N < n + i → i ≤ N → (∀ t, t < N → od t = ed_I (o t)) → (∀ k, k < N → ed_va o N (T a k) = if k < i then T b k else 0) → wY_interpolate_118 post (nI c) (nI a) (nI b) (nI N) n (nI i) rr cc ce ma od po sy := by
  intro n
  induction n with
  | zero => intro i od po o h1 h2; omega
  | succ n ih =>
    intro i od po o h1 h2 ho hv
    rw [wY_interpolate_118]
    dsimp only
    by_cases e : i = N
    · subst e
      have g := ed_yIn155 (post := post) (rr := rr) (cc := cc) (ce := ce) (ma := ma) (od := od) (po := po) (sy := sy) hS hc ha hN h16 (kk _ od po o (fun t ht => by rw [ed_cp0_in ht]; exact ho t ht) (fun t ht => by rw [hv t ht, if_pos ht])) (i + 1) 0 (by omega) (by omega)
      rw [ed_cp0] at g
      exact br_t (nI_le (Nat.le_refl _) (by omega)) ⟨_, g⟩
    · rw [ed_iy, nI_clamp (show b * 48 + i < 2 ^ 31 by omega), hC b i hb (by rw [hR2, hN2]; omega)]
      refine br_f (nI_ge (by omega) (by omega)) ⟨vp_in_nI (by omega) (by decide), ed_yAT hC ha hR hN h16 (by omega) ho (fun od' po' p q1 q2 => nm_r (nI_1 i) (ih (i + 1) od' po' (fun t => o t + p t) (by omega) (by omega) q1 (fun k hk => ?_)))⟩
      rw [ed_va_add, hv k hk, q2 (T a k)]
      by_cases c : k = i
      · subst c
        rw [if_neg (by omega), if_pos (by omega), ed_lg_1 ed_iv ed_hiv (T a) k N (fun j hj2 q => hj k j hk hj2 q), ed_rg_i1]
      · rw [ed_lg_0 ed_iv (T a) i N hk c, ed_rg_i2]
        by_cases l : k < i
        · rw [if_pos l, if_pos (by omega)]
        · rw [if_neg l, if_neg (by omega)]
theorem ed_yIn94 {post : Int32 → SY → Prop} {c a b N : Nat} (h16 : N ≤ 16) (kk : ∃ n, wY_interpolate_118 post (nI c) (nI a) (nI b) (nI N) n 0 rr cc ce ma (ed_cp od 0 N (fun _ => 0)) po sy) : ∀ n i : Nat, N < n + i → i ≤ N → wY_interpolate_94 post (nI c) (nI a) (nI b) (nI N) n (nI i) rr cc ce ma (ed_cp od 0 i (fun _ => 0)) po sy := by
  intro n
  induction n with
  | zero => intro i h1 h2; omega
  | succ n ih =>
    intro i h1 h2
    rw [wY_interpolate_94]
    dsimp only
    by_cases e : i = N
    · subst e
      exact br_t (nI_le (Nat.le_refl _) (by omega)) kk
    · rw [nI_clamp (show i < 2 ^ 31 by omega)]
      exact br_f (nI_ge (by omega) (by omega)) ⟨vp_in_nI (by omega) (by decide), nm_r (ed_cpS0 od i (fun _ => 0)) (nm_r (nI_1 i) (ih (i + 1) (by omega) (by omega)))⟩
theorem ed_yIn43 {post : Int32 → SY → Prop} {J : Int32 → Prop} (hC : ed_Ce ce R C T) {c v b N i : Nat} (hv : v < 4) (hR : R v = 1) (hN : C v = N) (h16 : N ≤ 16) (hi : i < N) (hn : ¬ ed_inj (T v) N → post 0 (rr, cc, ce, ma, od, po, sy)) (kk : (∀ b, b < i → T v i ≠ T v b) → J (nI (i + 1))) : ∀ n j : Nat, i < n + j → j ≤ i → (∀ b, b < j → T v i ≠ T v b) → wY_interpolate_43 post J (nI c) (nI v) (nI b) (nI N) (nI i) rr cc ce ma od po sy n (nI j) := by
  intro n
  induction n with
  | zero => intro j h1 h2; omega
  | succ n ih =>
    intro j h1 h2 h3
    rw [wY_interpolate_43]
    dsimp only
    by_cases e : j = i
    · subst e
      exact br_t (nI_le (Nat.le_refl _) (by omega)) (nm_r (nI_1 j) (kk h3))
    · rw [ed_iy, ed_iy, nI_clamp (show v * 48 + i < 2 ^ 31 by omega), nI_clamp (show v * 48 + j < 2 ^ 31 by omega), hC v i hv (by rw [hR, hN]; omega), hC v j hv (by rw [hR, hN]; omega)]
      refine br_f (nI_ge (by omega) (by omega)) ⟨vp_in_nI (by omega) (by decide), vp_in_nI (by omega) (by decide), br_c (fun c => hn (fun z => ?_)) (fun c => nm_r (nI_1 j) (ih (j + 1) (by omega) (by omega) (fun b hb => ?_)))⟩
      · have := z i j hi (by omega) (ed_Ii c)
        omega
      · by_cases q : b = j
        · subst q
          exact fun z => c (by rw [z])
        · exact h3 b (by omega)
theorem ed_yIn33 {post : Int32 → SY → Prop} (hC : ed_Ce ce R C T) {c v b N : Nat} (hv : v < 4) (hR : R v = 1) (hN : C v = N) (h16 : N ≤ 16) (hy : ed_inj (T v) N → ∃ n, wY_interpolate_94 post (nI c) (nI v) (nI b) (nI N) n 0 rr cc ce ma od po sy) (hn : ¬ ed_inj (T v) N → post 0 (rr, cc, ce, ma, od, po, sy)) : ∀ n i : Nat, N < n + i → i ≤ N → (∀ a b, a < i → b < a → T v a ≠ T v b) → wY_interpolate_33 post (nI c) (nI v) (nI b) (nI N) rr cc ce ma od po sy n (nI i) := by
  intro n
  induction n with
  | zero => intro i h1 h2; omega
  | succ n ih =>
    intro i h1 h2 h3
    rw [wY_interpolate_33]
    dsimp only
    by_cases e : i = N
    · subst e
      exact br_t (nI_le (Nat.le_refl _) (by omega)) (hy (ed_inj_of h3))
    · refine br_f (nI_ge (by omega) (by omega)) ⟨i + 1, ed_yIn43 hC hv hR hN (by omega) (by omega) hn (fun q => ih (i + 1) (by omega) (by omega) (fun a b ha hb => ?_)) (i + 1) 0 (by omega) (by omega) (fun b hb => by omega)⟩
      by_cases c : a = i
      · subst c
        exact q b hb
      · exact h3 a b (by omega) hb
theorem ed_yIn {post : Int32 → SY → Prop} (hS : ed_Sh rr cc R C) (hC : ed_Ce ce R C T) {x y z : Int32} (hy : ∀ l i j, ed_ok R C x y z l i j → R i = 1 → ed_inj (T i) (C i) → ∀ u' f, (∀ t, t < C i → ed_va f (C i) (T i t) = T j t) → ed_PY (ed_up R l 1) (ed_up C l (C i)) (ed_up T l f) u' → post 1 u') (hn : (∀ l i j, ed_ok R C x y z l i j → R i = 1 → ¬ ed_inj (T i) (C i)) → post 0 (rr, cc, ce, ma, od, po, sy)) : wpY_interpolate post (rr, cc, ce, ma, od, po, sy) x y z := by
  unfold wpY_interpolate
  dsimp only
  refine ed_yOk hS (fun l i j o => br_f (by decide) ?_) (fun h => br_t rfl (hn (fun l i j o => absurd o (h l i j))))
  have hq := hy l i j o
  have hn2 : (R i = 1 → ¬ ed_inj (T i) (C i)) → post 0 (rr, cc, ce, ma, od, po, sy) := fun q => hn (fun l' i' j' o' => by
    obtain ⟨_, rfl, _⟩ := ed_ok_u o o'
    exact q)
  clear hn hy
  obtain ⟨hl, hi, hj, rfl, rfl, rfl, er, ec⟩ := o
  obtain ⟨g1, g2, g3, g4, g5, g6, g7⟩ := hS i hi
  have va : vp_in (nI i) 4 := vp_in_nI hi (by decide)
  rw [nI_clamp (show i < 2 ^ 31 by omega), g1, g2]
  refine ⟨va, pk_le (R i) 1 (fun c => ⟨va, nm_e ?_⟩) (fun c => hn2 (fun z => by omega))⟩
  have hR : R i = 1 := by omega
  refine ⟨C i + 1, ed_yIn33 hC hi hR rfl g6 (fun hj2 => ?_) (fun h => hn2 (fun _ => h)) (C i + 1) 0 (by omega) (by omega) (fun a b ha _ => by omega)⟩
  have k := ed_yIn118 (post := post) (rr := rr) (cc := cc) (ce := ce) (ma := ma) (sy := sy) hS hC hl hi hj hR rfl (er ▸ hR) ec.symm g6 hj2 (fun ma' od' po' f q1 q2 => hq hR hj2 _ f q2 (by
    have q := ed_PYr (l := l) (od := od') (po := po') (sy := sy) hS hC hi (f := f) (b := ma') (fun t ht => q1 t (by rw [hR] at ht; omega))
    rw [hR] at q ⊢
    exact q)) (C i + 1) 0 (ed_cp od 0 (C i) (fun _ => 0)) po (fun _ => 0) (by omega) (by omega) (fun t ht => by rw [ed_cp0_in ht, ed_I_0]) (fun k hk => by
    rw [if_neg (by omega)]
    exact ed_va_z _ (fun _ _ => rfl))
  have k2 := ed_yIn94 (post := post) (rr := rr) (cc := cc) (ce := ce) (ma := ma) (od := od) (po := po) (sy := sy) g6 ⟨_, k⟩ (C i + 1) 0 (by omega) (by omega)
  rw [ed_cp0] at k2
  exact ⟨_, k2⟩
end
theorem i_vc_interpolate {k : Nat} {u : SX} {v : SY} (I : i_Rel k u v) (hk : k + 5 ≤ 2560) (v1 : Int32) (v2 : Int32) (v3 : Int32) : wpX_interpolate (fun r u' => wpY_interpolate (fun r' v' => r' = r ∧ i_Rel (k + 5) u' v') v v1 v2 v3) u v1 v2 v3 := by
  have I0 := I
  obtain ⟨R, C, T, ⟨ce, rr, cc, re, ba, cu, ol, sa, rfl, hS, hC⟩, ⟨rr', cc', ce', ma, od, po, sy, rfl, hS', hC'⟩⟩ := I
  refine ed_xIn hS hC (fun l i j o hR hj u' f hf hu => ed_yIn hS' hC' (fun l' i' j' o' hR' hj' v' f' hf' hv => ?_) (fun h => absurd hj (h l i j o hR))) (fun h => ed_yIn hS' hC' (fun l i j o hR hj => absurd hj (h l i j o hR)) (fun _ => ⟨rfl, I0⟩))
  obtain ⟨rfl, rfl, rfl⟩ := ed_ok_u o o'
  exact ⟨rfl, _, _, _, hu, ed_PYcg hv (fun t ht => ed_uniq ed_hz hj (fun s hs => by rw [hf s hs, hf' s hs]) t (by omega))⟩
