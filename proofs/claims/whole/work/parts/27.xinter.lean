/-! X: interpolate -/
def ed_inj (t : Nat → ed_K) (n : Nat) : Prop := ∀ i j, i < n → j < n → t i = t j → i = j
theorem ed_inj_of {t : Nat → ed_K} {n : Nat} (h : ∀ a b, a < n → b < a → t a ≠ t b) : ed_inj t n := by
  intro i j hi hj e
  apply Classical.byContradiction
  intro c
  by_cases l : i < j
  · exact h j i hj l e.symm
  · exact h i j hi (by omega) e
abbrev ed_J8 : Type := Int32 → (Nat → Int32) → (Nat → Int32) → (Nat → Int32) → (Nat → Int32) → (Nat → Int32) → (Nat → Int32) → (Nat → Int32) → (Nat → Int32) → Prop
section
variable {R C : Nat → Nat} {T : Nat → Nat → ed_K} {ce rr cc re ba cu ol sa : Nat → Int32}
theorem ed_xAD14 {post : Int32 → Prop} {J : Int32 → Prop} (hC : ed_Ce ce R C T) {v N i : Nat} (hv : v < 4) (hR : R v = 1) (hN : C v = N) (h16 : N ≤ 16) (hi : i < N) (hn : ¬ ed_inj (T v) N → post 0) (kk : (∀ b, b < i → T v i ≠ T v b) → J (nI (i + 1))) : ∀ n j : Nat, i < n + j → j ≤ i → (∀ b, b < j → T v i ≠ T v b) → wX_allDiffer_14 post J (nI v) (nI i) ce rr cc re ba cu ol sa n (nI j) := by
  intro n
  induction n with
  | zero => intro j h1 h2; omega
  | succ n ih =>
    intro j h1 h2 h3
    rw [wX_allDiffer_14]
    dsimp only
    by_cases e : j = i
    · subst e
      exact br_t (nI_le (Nat.le_refl _) (by omega)) (nm_r (nI_1 j) (kk h3))
    · rw [ed_ix, ed_ix, nI_clamp (show v * 48 + i < 2 ^ 31 by omega), nI_clamp (show v * 48 + j < 2 ^ 31 by omega), hC v i hv (by rw [hR, hN]; omega), hC v j hv (by rw [hR, hN]; omega)]
      refine br_f (nI_ge (by omega) (by omega)) ⟨vp_in_nI (by omega) (by decide), vp_in_nI (by omega) (by decide), br_c (fun c => hn (fun z => ?_)) (fun c => nm_r (nI_1 j) (ih (j + 1) (by omega) (by omega) (fun b hb => ?_)))⟩
      · have := z i j hi (by omega) (ed_Ii c)
        omega
      · by_cases q : b = j
        · subst q
          exact fun z => c (by rw [z])
        · exact h3 b (by omega)
theorem ed_xAD2 {post : Int32 → Prop} (hS : ed_Sh rr cc R C) (hC : ed_Ce ce R C T) {v N : Nat} (hv : v < 4) (hR : R v = 1) (hN : C v = N) (hy : ed_inj (T v) N → post 1) (hn : ¬ ed_inj (T v) N → post 0) : ∀ n i : Nat, N < n + i → i ≤ N → (∀ a b, a < i → b < a → T v a ≠ T v b) → wX_allDiffer_2 post (nI v) ce rr cc re ba cu ol sa n (nI i) := by
  intro n
  obtain ⟨g1, g2, g3, g4, g5, g6, g7⟩ := hS v hv
  have va : vp_in (nI v) 4 := vp_in_nI hv (by decide)
  induction n with
  | zero => intro i h1 h2; omega
  | succ n ih =>
    intro i h1 h2 h3
    rw [wX_allDiffer_2]
    dsimp only
    rw [nI_clamp (show v < 2 ^ 31 by omega), g2, hN]
    by_cases e : i = N
    · subst e
      exact ⟨va, br_t (nI_le (Nat.le_refl _) (by omega)) (hy (ed_inj_of h3))⟩
    · refine ⟨va, br_f (nI_ge (by omega) (by omega)) ⟨i + 1, ed_xAD14 hC hv hR hN (by omega) (by omega) hn (fun q => ih (i + 1) (by omega) (by omega) (fun a b ha hb => ?_)) (i + 1) 0 (by omega) (by omega) (fun b hb => by omega)⟩⟩
      by_cases c : a = i
      · subst c
        exact q b hb
      · exact h3 a b (by omega) hb
theorem ed_xAD {post : Int32 → Prop} (hS : ed_Sh rr cc R C) (hC : ed_Ce ce R C T) {v : Nat} (hv : v < 4) (hR : R v = 1) (hy : ed_inj (T v) (C v) → post 1) (hn : ¬ ed_inj (T v) (C v) → post 0) : wpX_allDiffer post (ce, rr, cc, re, ba, cu, ol, sa) (nI v) := by
  unfold wpX_allDiffer
  dsimp only
  exact ⟨C v + 1, ed_xAD2 hS hC hv hR rfl hy hn (C v + 1) 1 (by omega) (hS v hv).2.2.2.2.1 (fun a b ha hb => by omega)⟩
theorem ed_xAP96 {post : SX → Prop} {x0 : ed_K} {N : Nat} {b : Nat → ed_K} (h16 : N ≤ 16) (kk : ∀ ba' : Nat → Int32, ba' 0 = ed_I (-(x0 * b 0)) → (∀ t, 0 < t → t < N → ba' t = ed_I (b (t - 1) - x0 * b t)) → post (ce, rr, cc, re, ba', cu, ol, sa)) : ∀ (i n : Nat) (ba : Nat → Int32), i < n → i < N → (∀ t, t ≤ i → ba t = ed_I (b t)) → (∀ t, i < t → t < N → ba t = ed_I (b (t - 1) - x0 * b t)) → wX_addPoint_96 post (ed_I x0) n (nI i) ce rr cc re ba cu ol sa := by
  intro i
  induction i with
  | zero =>
    intro n ba h1 h2 h3 h4
    obtain ⟨m, rfl⟩ : ∃ m, n = m + 1 := ⟨n - 1, by omega⟩
    rw [wX_addPoint_96]
    dsimp only
    rw [h3 0 (by omega)]
    refine br_t (by decide) (ed_xPrm _ _ (nm_e (kk _ ed_us (fun t h5 h6 => ?_))))
    rw [ed_un (by omega)]
    exact h4 t h5 h6
  | succ i ih =>
    intro n ba h1 h2 h3 h4
    obtain ⟨m, rfl⟩ : ∃ m, n = m + 1 := ⟨n - 1, by omega⟩
    rw [wX_addPoint_96]
    dsimp only
    rw [nI_pred, pk_m1, nI_clamp (show i < 2 ^ 31 by omega), nI_clamp (show i + 1 < 2 ^ 31 by omega), h3 i (by omega), h3 (i + 1) (by omega)]
    refine br_f (nI_nlt (b := 1) (by omega) (by omega)) ⟨vp_in_nI (by omega) (by decide), vp_in_nI (by omega) (by decide), ed_xPPm _ _ _ ⟨vp_in_nI (by omega) (by decide), nm_e (nm_e (ih m _ (by omega) (by omega) (fun t ht => ?_) (fun t h5 h6 => ?_)))⟩⟩
    · rw [ed_un (by omega)]
      exact h3 t (by omega)
    · by_cases q : t = i + 1
      · subst q
        rw [ed_us]
        rfl
      · rw [ed_un q]
        exact h4 t (by omega) h6
theorem ed_xAP53 {post : SX → Prop} {x0 fc : ed_K} {N : Nat} {r b : Nat → ed_K} (h1N : 1 ≤ N) (h16 : N ≤ 16) (hr : ∀ t, t < N → re t = ed_I (r t)) (hb : ∀ t, t < N → ba t = ed_I (b t)) (kk : ∀ re' ba' : Nat → Int32, (∀ t, t < N → re' t = ed_I (r t + fc * b t)) → ba' 0 = ed_I (-(x0 * b 0)) → (∀ t, 0 < t → t < N → ba' t = ed_I (b (t - 1) - x0 * b t)) → post (ce, rr, cc, re', ba', cu, ol, sa)) : ∀ n i : Nat, N < n + i → i ≤ N → wX_addPoint_53 post (nI N) (ed_I x0) (ed_I fc) n (nI i) ce rr cc (ed_cp re 0 i (fun t => ed_I (r t + fc * b t))) ba cu ol sa := by
  intro n
  induction n with
  | zero => intro i h1 h2; omega
  | succ n ih =>
    intro i h1 h2
    rw [wX_addPoint_53]
    dsimp only
    by_cases e : i = N
    · subst e
      have e1 : nI i - 1 = nI (i - 1) := by
        obtain ⟨m, rfl⟩ : ∃ m, i = m + 1 := ⟨i - 1, by omega⟩
        exact nI_pred m
      exact br_t (nI_le (Nat.le_refl _) (by omega)) (nm_r e1 ⟨i, ed_xAP96 h16 (fun ba' q1 q2 => kk (ed_cp re 0 i (fun t => ed_I (r t + fc * b t))) ba' (fun t ht => ed_cp0_in ht) q1 q2) (i - 1) i ba (by omega) (by omega) (fun t ht => hb t (by omega)) (fun t h5 h6 => by omega)⟩)
    · rw [nI_clamp (show i < 2 ^ 31 by omega), ed_cp_out (show i < 0 ∨ 0 + i ≤ i by omega), hr i (by omega), hb i (by omega)]
      exact br_f (nI_ge (by omega) (by omega)) ⟨vp_in_nI (by omega) (by decide), vp_in_nI (by omega) (by decide), ed_xPP _ _ _ ⟨vp_in_nI (by omega) (by decide), nm_r (ed_cpS0 re i (fun t => ed_I (r t + fc * b t))) (nm_r (nI_1 i) (ih (i + 1) (by omega) (by omega)))⟩⟩
theorem ed_xAP {post : SX → Prop} {x0 y0 : ed_K} {N : Nat} {r b : Nat → ed_K} (h1N : 1 ≤ N) (h16 : N ≤ 16) (hr : ∀ t, t < N → re t = ed_I (r t)) (hb : ∀ t, t < N → ba t = ed_I (b t)) (kk : ∀ re' ba' : Nat → Int32, (∀ t, t < N → re' t = ed_I (r t + (y0 - ed_va r N x0) * ed_iv (ed_va b N x0) * b t)) → ba' 0 = ed_I (-(x0 * b 0)) → (∀ t, 0 < t → t < N → ba' t = ed_I (b (t - 1) - x0 * b t)) → post (ce, rr, cc, re', ba', cu, ol, sa)) : wpX_addPoint post (ce, rr, cc, re, ba, cu, ol, sa) (nI N) (ed_I x0) (ed_I y0) := by
  unfold wpX_addPoint
  dsimp only
  refine ed_xVr (f := 0) (s := 1) (p := r) (by omega) (fun i hi => by rw [Nat.zero_add, Nat.mul_one]; exact hr i hi) (fun i hi => by omega) ?_
  refine ed_xVb (f := 0) (s := 1) (p := b) (by omega) (fun i hi => by rw [Nat.zero_add, Nat.mul_one]; exact hb i hi) (fun i hi => by omega) ?_
  refine ed_xInv _ (ed_xDif _ _ (ed_xPro _ _ ?_))
  have g := ed_xAP53 (post := post) (ce := ce) (rr := rr) (cc := cc) (re := re) (ba := ba) (cu := cu) (ol := ol) (sa := sa) (x0 := x0) (fc := (y0 - ed_va r N x0) * ed_iv (ed_va b N x0)) h1N h16 hr hb kk (N + 1) 0 (by omega) (by omega)
  rw [ed_cp0] at g
  exact ⟨_, g⟩
theorem ed_xIn84 {post : Int32 → SX → Prop} (hC : ed_Ce ce R C T) {c a b N : Nat} (hc : c < 4) (ha : a < 4) (hb : b < 4) (hR : R a = 1) (hN : C a = N) (hR2 : R b = 1) (hN2 : C b = N) (h1N : 1 ≤ N) (h16 : N ≤ 16) (hj : ed_inj (T a) N) (kk : ∀ (re' ba' : Nat → Int32) (f : Nat → ed_K), (∀ t, t < N → re' t = ed_I (f t)) → (∀ t, t < N → ed_va f N (T a t) = T b t) → post 1 (ed_cp ce (c * 48) (1 * N) re', upd rr c (nI 1), upd cc c (nI N), re', ba', cu, ol, sa)) : ∀ (n i : Nat) (re ba : Nat → Int32) (r p : Nat → ed_K), N < n + i → i ≤ N → (∀ t, t < N → re t = ed_I (r t)) → (∀ t, t < N → ba t = ed_I (p t)) → ed_nw N (T a) (T b) i r p → wX_interpolate_84 post (nI c) (nI a) (nI b) (nI N) n (nI i) ce rr cc re ba cu ol sa := by
  intro n
  induction n with
  | zero => intro i re ba r p h1 h2; omega
  | succ n ih =>
    intro i re ba r p h1 h2 hr hp hw
    rw [wX_interpolate_84]
    dsimp only
    by_cases e : i = N
    · subst e
      exact br_t (nI_le (Nat.le_refl _) (by omega)) (ed_xDel (h := 1) hc (by omega) (kk re ba r hr hw.1))
    · rw [ed_ix, ed_ix, nI_clamp (show a * 48 + i < 2 ^ 31 by omega), nI_clamp (show b * 48 + i < 2 ^ 31 by omega), hC a i ha (by rw [hR, hN]; omega), hC b i hb (by rw [hR2, hN2]; omega)]
      refine br_f (nI_ge (by omega) (by omega)) ⟨vp_in_nI (by omega) (by decide), vp_in_nI (by omega) (by decide), ed_xAP h1N h16 hr hp (fun re' ba' q1 q2 q3 => nm_r (nI_1 i) (ih (i + 1) re' ba' (fun t => r t + (T b i - ed_va r N (T a i)) * ed_iv (ed_va p N (T a i)) * p t) (fun t => if t = 0 then -(T a i * p 0) else p (t - 1) - T a i * p t) (by omega) (by omega) q1 (fun t ht => ?_) (ed_nw_s ed_iv ed_hiv ed_hz ed_10 hj (by omega) hw (fun t _ => rfl) (if_pos rfl) (fun t h5 h6 => if_neg (by omega)))))⟩
      by_cases c : t = 0
      · subst c
        rw [if_pos rfl]
        exact q2
      · rw [if_neg c]
        exact q3 t (by omega) ht
theorem ed_xIn45 {post : Int32 → SX → Prop} {c a b N : Nat} (h1N : 1 ≤ N) (h16 : N ≤ 16) (kk : ∃ n, wX_interpolate_84 post (nI c) (nI a) (nI b) (nI N) n 0 ce rr cc (ed_cp re 0 N (fun _ => 0)) (upd (ed_cp ba 0 N (fun _ => 0)) 0 1) cu ol sa) : ∀ n i : Nat, N < n + i → i ≤ N → wX_interpolate_45 post (nI c) (nI a) (nI b) (nI N) n (nI i) ce rr cc (ed_cp re 0 i (fun _ => 0)) (ed_cp ba 0 i (fun _ => 0)) cu ol sa := by
  intro n
  induction n with
  | zero => intro i h1 h2; omega
  | succ n ih =>
    intro i h1 h2
    rw [wX_interpolate_45]
    dsimp only
    by_cases e : i = N
    · subst e
      exact br_t (nI_le (Nat.le_refl _) (by omega)) (nm_e kk)
    · rw [nI_clamp (show i < 2 ^ 31 by omega)]
      exact br_f (nI_ge (by omega) (by omega)) ⟨vp_in_nI (by omega) (by decide), nm_r (ed_cpS0 re i (fun _ => 0)) ⟨vp_in_nI (by omega) (by decide), nm_r (ed_cpS0 ba i (fun _ => 0)) (nm_r (nI_1 i) (ih (i + 1) (by omega) (by omega)))⟩⟩
theorem ed_xIn {post : Int32 → SX → Prop} (hS : ed_Sh rr cc R C) (hC : ed_Ce ce R C T) {x y z : Int32} (hy : ∀ l i j, ed_ok R C x y z l i j → R i = 1 → ed_inj (T i) (C i) → ∀ u' f, (∀ t, t < C i → ed_va f (C i) (T i t) = T j t) → ed_PX (ed_up R l 1) (ed_up C l (C i)) (ed_up T l f) u' → post 1 u') (hn : (∀ l i j, ed_ok R C x y z l i j → R i = 1 → ¬ ed_inj (T i) (C i)) → post 0 (ce, rr, cc, re, ba, cu, ol, sa)) : wpX_interpolate post (ce, rr, cc, re, ba, cu, ol, sa) x y z := by
  unfold wpX_interpolate
  dsimp only
  refine ed_xTab (fun l hl e0 => br_f (by decide) ?_) (fun h => br_t rfl (hn (fun l i j o => absurd o.2.2.2.1 (h l o.1))))
  refine ed_xRow hS (fun i hi e1 hR => br_f (by decide) ?_) (fun h => br_t rfl (hn (fun l i j o hR => absurd hR (h i o.2.1 o.2.2.2.2.1))))
  refine ed_xHss hS (fun i' j hi' hj e1' e2 er ec => br_f (by decide) ?_) (fun h => br_t rfl (hn (fun l i j o _ => absurd o.2.2.2.2.2.2.2 (h i j o.2.1 o.2.2.1 o.2.2.2.2.1 o.2.2.2.2.2.1 o.2.2.2.2.2.2.1))))
  obtain rfl := ed_nIe hi hi' (e1.symm.trans e1')
  have o : ed_ok R C x y z l i j := ⟨hl, hi, hj, e0, e1, e2, er, ec⟩
  have hq := hy l i j o hR
  have hn2 : ¬ ed_inj (T i) (C i) → post 0 (ce, rr, cc, re, ba, cu, ol, sa) := fun q => hn (fun l' i' j' o' _ => by
    obtain ⟨_, rfl, _⟩ := ed_ok_u o o'
    exact q)
  clear hn hy o e1'
  subst e0 e1 e2
  obtain ⟨g1, g2, g3, g4, g5, g6, g7⟩ := hS i hi
  refine ed_xAD hS hC hi hR (fun hj2 => br_f (by decide) ?_) (fun h => br_t rfl (hn2 h))
  rw [nI_clamp (show i < 2 ^ 31 by omega), g2]
  refine ⟨vp_in_nI hi (by decide), nm_e ?_⟩
  have h1 : 1 * C i ≤ 48 := by omega
  have k := ed_xIn84 (post := post) (ce := ce) (rr := rr) (cc := cc) (cu := cu) (ol := ol) (sa := sa) hC hl hi hj hR rfl (er ▸ hR) ec.symm g5 g6 hj2 (fun re' ba' f q1 q2 => hq hj2 _ f q2 ⟨_, _, _, _, _, _, _, _, rfl, ed_Sh_up hS (by decide) (by decide) g5 g6 h1, ed_Ce_up hC (ed_ShB hS) h1 (fun t ht => q1 t (by omega))⟩) (C i + 1) 0 (ed_cp re 0 (C i) (fun _ => 0)) (upd (ed_cp ba 0 (C i) (fun _ => 0)) 0 1) (fun _ => 0) (fun t => if t = 0 then 1 else 0) (by omega) (by omega) (fun t ht => by rw [ed_cp0_in ht, ed_I_0]) (fun t ht => by
    by_cases q : t = 0
    · subst q
      rw [ed_us, if_pos rfl, ed_I_1]
    · rw [ed_un q, if_neg q, ed_cp0_in ht, ed_I_0]) (ed_nw_0 (if_pos rfl) (fun t h5 h6 => if_neg (by omega)))
  have k2 := ed_xIn45 (post := post) (ce := ce) (rr := rr) (cc := cc) (re := re) (ba := ba) (cu := cu) (ol := ol) (sa := sa) g5 g6 ⟨_, k⟩ (C i + 1) 0 (by omega) (by omega)
  rw [ed_cp0, ed_cp0] at k2
  exact ⟨_, k2⟩
end
