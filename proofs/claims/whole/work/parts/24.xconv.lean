/-! X: convolve -/
theorem ed_wrp {q k i h : Nat} (hk : k < h) (hi : i < h) (hh : h < 1000) (hq : q < 1000) : ∀ z : Int32, (z = if q = 1 then nI k + nI i else nI k - nI i) → -(h : Int) ≤ z.toInt ∧ z.toInt < 2 * (h : Int) ∧ (z.toInt % (h : Int)).toNat = ed_cr q k i h := by
  intro z hz
  unfold ed_cr
  have tk : (nI k).toInt = (k : Int) := nI_toInt (by omega)
  have ti : (nI i).toInt = (i : Int) := nI_toInt (by omega)
  by_cases c : q = 1
  · rw [if_pos c] at hz
    rw [if_pos c, hz, nI_add, nI_toInt (by omega)]
    refine ⟨by omega, by omega, ?_⟩
    rw [← Int.natCast_emod, Int.toNat_natCast]
  · rw [if_neg c] at hz
    have e : (nI k - nI i).toInt = (k : Int) - (i : Int) := by
      rw [Jvm.Kit.i32_sub (by rw [tk, ti]; omega) (by rw [tk, ti]; omega), tk, ti]
    rw [if_neg c, hz, e]
    refine ⟨by omega, by omega, ?_⟩
    rw [← Int.add_emod_right, show (k : Int) - (i : Int) + (h : Int) = ((k + h - i : Nat) : Int) by omega, ← Int.natCast_emod, Int.toNat_natCast]
def ed_ct (r s q : Nat) (ta tb : Nat → ed_K) (k l i j : Nat) : ed_K := ta (i * s + j) * (if q = 2 ∧ l < j then - tb (ed_cr q k i r * s + ed_cr q l j s) else tb (ed_cr q k i r * s + ed_cr q l j s))
theorem ed_cv_e (r s q : Nat) (ta tb : Nat → ed_K) (k l : Nat) : ed_cv r s q ta tb k l = ed_sm (fun i => ed_sm (fun j => ed_ct r s q ta tb k l i j) s) r := rfl
theorem ed_rg_smn {K : Type} [Lean.Grind.CommRing K] (x y z : K) : x - y * z = x + y * (-z) := by grind
theorem ed_rg_as {K : Type} [Lean.Grind.CommRing K] (x y z : K) : x + y + z = x + (y + z) := by grind
theorem ed_rg_a0 {K : Type} [Lean.Grind.CommRing K] (x : K) : x + 0 = x := by grind
section
variable {R C : Nat → Nat} {T : Nat → Nat → ed_K} {ce rr cc re ba cu ol sa : Nat → Int32}
theorem ed_xCE57 {post : Int32 → Prop} {J : Int32 → Int32 → Prop} (hC : ed_Ce ce R C T) {a b q k l i h w : Nat} {s0 : ed_K} (ha : a < 4) (hb : b < 4) (hq : q ≤ 2) (hh : R a = h) (hw : C a = w) (hh2 : R b = h) (hw2 : C b = w) (h48 : h * w ≤ 48) (h16 : w ≤ 16) (hh16 : h ≤ 16) (hk : k < h) (hl : l < w) (hi : i < h) (kk : J (ed_I (s0 + ed_sm (fun j => ed_ct h w q (T a) (T b) k l i j) w)) (nI (i + 1))) : ∀ n j : Nat, w < n + j → j ≤ w → wX_convolvedElement_57 post J (nI a) (nI b) (nI q) (nI k) (nI l) (nI h) (nI w) (nI i) (nI (ed_cr q k i h)) ce rr cc re ba cu ol sa n (ed_I (s0 + ed_sm (fun j => ed_ct h w q (T a) (T b) k l i j) j)) (nI j) := by
  intro n
  induction n with
  | zero => intro j h1 h2; omega
  | succ n ih =>
    intro j h1 h2
    rw [wX_convolvedElement_57]
    dsimp only
    by_cases e : j = w
    · subst e
      exact br_t (nI_le (Nat.le_refl _) (by omega)) (nm_r (nI_1 i) kk)
    · have hj : j < w := by omega
      have i3 := ih (j + 1) (by omega) (by omega)
      have hfa := ed_fl_lt hi hj
      have hcr := ed_cr_lt q k i (show 0 < h by omega)
      have hcc := ed_cr_lt q l j (show 0 < w by omega)
      have hfb := ed_fl_lt hcr hcc
      have ea : nI a * 48 + nI i * nI w + nI j = nI (a * 48 + (i * w + j)) := by rw [pk_mul, ed_ix, nI_add, Nat.add_assoc]
      have eb : nI b * 48 + nI (ed_cr q k i h) * nI w + nI (ed_cr q l j w) = nI (b * 48 + (ed_cr q k i h * w + ed_cr q l j w)) := by rw [pk_mul, ed_ix, nI_add, Nat.add_assoc]
      have ca := hC a (i * w + j) ha (by rw [hh, hw]; exact hfa)
      have cb := hC b (ed_cr q k i h * w + ed_cr q l j w) hb (by rw [hh2, hw2]; exact hfb)
      have key : ∀ z : Int32, (z = if q = 1 then nI l + nI j else nI l - nI j) → wX_convolvedElement_82 post J (wX_convolvedElement_57 post J (nI a) (nI b) (nI q) (nI k) (nI l) (nI h) (nI w) (nI i) (nI (ed_cr q k i h)) ce rr cc re ba cu ol sa n) (nI a) (nI b) (nI q) (nI k) (nI l) (nI h) (nI w) (ed_I (s0 + ed_sm (fun j => ed_ct h w q (T a) (T b) k l i j) j)) (nI i) (nI (ed_cr q k i h)) (nI j) z ce rr cc re ba cu ol sa := fun z hz => by
        obtain ⟨z1, z2, z3⟩ := ed_wrp hl hj (by omega) (by omega) z hz
        unfold wX_convolvedElement_82
        refine ed_xWr (by omega) (by omega) z1 z2 ?_
        rw [z3, ea, eb, nI_clamp (show a * 48 + (i * w + j) < 2 ^ 31 by omega), nI_clamp (show b * 48 + (ed_cr q k i h * w + ed_cr q l j w) < 2 ^ 31 by omega), ca, cb]
        have step : ed_I (s0 + ed_sm (fun j => ed_ct h w q (T a) (T b) k l i j) j + ed_ct h w q (T a) (T b) k l i j) = ed_I (s0 + ed_sm (fun j => ed_ct h w q (T a) (T b) k l i j) (j + 1)) := by rw [ed_rg_as]; rfl
        refine ⟨vp_in_nI (by omega) (by decide), nm_e ⟨vp_in_nI (by omega) (by decide), nm_e (pk_eq q 2 (fun c => pk_le j l (fun d => ?_) (fun d => ?_)) (fun c => ?_))⟩⟩
        · unfold wX_convolvedElement_153 wX_convolvedElement_155
          refine ed_xPP _ _ _ (nm_r (nI_1 j) ?_)
          rw [← step] at i3
          unfold ed_ct at i3
          rw [if_neg (show ¬ (q = 2 ∧ l < j) by omega)] at i3
          exact i3
        · refine ed_xPPn _ _ _ (nm_r (nI_1 j) ?_)
          rw [← step] at i3
          unfold ed_ct at i3
          rw [if_pos (show (q = 2 ∧ l < j) by omega), ← ed_rg_smn] at i3
          exact i3
        · unfold wX_convolvedElement_153 wX_convolvedElement_155
          refine ed_xPP _ _ _ (nm_r (nI_1 j) ?_)
          rw [← step] at i3
          unfold ed_ct at i3
          rw [if_neg (show ¬ (q = 2 ∧ l < j) by omega)] at i3
          exact i3
      exact br_f (nI_ge (by omega) (by omega)) (pk_eq q 1 (fun c => key _ (if_pos c).symm) (fun c => key _ (if_neg c).symm))
theorem ed_xCE22 {post : Int32 → Prop} (hC : ed_Ce ce R C T) {a b q k l h w : Nat} (ha : a < 4) (hb : b < 4) (hq : q ≤ 2) (hh : R a = h) (hw : C a = w) (hh2 : R b = h) (hw2 : C b = w) (h48 : h * w ≤ 48) (h16 : w ≤ 16) (hh16 : h ≤ 16) (hk : k < h) (hl : l < w) (kk : post (ed_I (ed_cv h w q (T a) (T b) k l))) : ∀ n i : Nat, h < n + i → i ≤ h → wX_convolvedElement_22 post (nI a) (nI b) (nI q) (nI k) (nI l) (nI h) (nI w) ce rr cc re ba cu ol sa n (ed_I (ed_sm (fun i => ed_sm (fun j => ed_ct h w q (T a) (T b) k l i j) w) i)) (nI i) := by
  intro n
  induction n with
  | zero => intro i h1 h2; omega
  | succ n ih =>
    intro i h1 h2
    rw [wX_convolvedElement_22]
    dsimp only
    by_cases e : i = h
    · subst e
      exact br_t (nI_le (Nat.le_refl _) (by omega)) kk
    · have hi : i < h := by omega
      have i3 := ih (i + 1) (by omega) (by omega)
      have key : ∀ z : Int32, (z = if q = 1 then nI k + nI i else nI k - nI i) → wX_convolvedElement_47 post (wX_convolvedElement_22 post (nI a) (nI b) (nI q) (nI k) (nI l) (nI h) (nI w) ce rr cc re ba cu ol sa n) (nI a) (nI b) (nI q) (nI k) (nI l) (nI h) (nI w) (ed_I (ed_sm (fun i => ed_sm (fun j => ed_ct h w q (T a) (T b) k l i j) w) i)) (nI i) z ce rr cc re ba cu ol sa := fun z hz => by
        obtain ⟨z1, z2, z3⟩ := ed_wrp hk hi (by omega) (by omega) z hz
        unfold wX_convolvedElement_47
        refine ed_xWr (by omega) (by omega) z1 z2 ?_
        rw [z3]
        have g := ed_xCE57 (post := post) (J := wX_convolvedElement_22 post (nI a) (nI b) (nI q) (nI k) (nI l) (nI h) (nI w) ce rr cc re ba cu ol sa n) (rr := rr) (cc := cc) (re := re) (ba := ba) (cu := cu) (ol := ol) (sa := sa) (s0 := ed_sm (fun i => ed_sm (fun j => ed_ct h w q (T a) (T b) k l i j) w) i) hC ha hb hq hh hw hh2 hw2 h48 h16 hh16 hk hl hi i3 (w + 1) 0 (by omega) (by omega)
        rw [ed_sm0, ed_rg_a0] at g
        exact ⟨_, g⟩
      exact br_f (nI_ge (by omega) (by omega)) (pk_eq q 1 (fun c => key _ (if_pos c).symm) (fun c => key _ (if_neg c).symm))
theorem ed_xCE {post : Int32 → Prop} (hS : ed_Sh rr cc R C) (hC : ed_Ce ce R C T) {a b q k l : Nat} (ha : a < 4) (hb : b < 4) (hq : q ≤ 2) (hr : R a = R b) (hc : C a = C b) (hk : k < R a) (hl : l < C a) (kk : post (ed_I (ed_cv (R a) (C a) q (T a) (T b) k l))) : wpX_convolvedElement post (ce, rr, cc, re, ba, cu, ol, sa) (nI a) (nI b) (nI q) (nI k) (nI l) := by
  unfold wpX_convolvedElement
  dsimp only
  obtain ⟨g1, g2, g3, g4, g5, g6, g7⟩ := hS a ha
  have va : vp_in (nI a) 4 := vp_in_nI ha (by decide)
  rw [nI_clamp (show a < 2 ^ 31 by omega), g1, g2]
  have g := ed_xCE22 (post := post) (rr := rr) (cc := cc) (re := re) (ba := ba) (cu := cu) (ol := ol) (sa := sa) hC ha hb hq rfl rfl hr.symm hc.symm g7 g6 g4 hk hl kk (R a + 1) 0 (by omega) (by omega)
  rw [ed_sm0, ed_I_0] at g
  exact ⟨va, nm_e ⟨va, nm_e ⟨_, g⟩⟩⟩
def ed_cF (T : Nat → Nat → ed_K) (r s q a b : Nat) (t : Nat) : ed_K := ed_cv r s q (T a) (T b) (t / s) (t % s)
theorem ed_xCv46 {post : Int32 → SX → Prop} {J : Int32 → (Nat → Int32) → (Nat → Int32) → (Nat → Int32) → (Nat → Int32) → (Nat → Int32) → (Nat → Int32) → (Nat → Int32) → (Nat → Int32) → Prop} (hS : ed_Sh rr cc R C) (hC : ed_Ce ce R C T) {c a b q k s : Nat} (ha : a < 4) (hb : b < 4) (hq : q ≤ 2) (hr : R a = R b) (hc : C a = C b) (hs : C a = s) (hk : k < R a) (kk : J (nI (k + 1)) ce rr cc (ed_cp re 0 (k * s + s) (fun t => ed_I (ed_cF T (R a) s q a b t))) ba cu ol sa) : ∀ n l : Nat, s < n + l → l ≤ s → wX_convolve_46 post J (nI c) (nI a) (nI b) (nI q) (nI k) n (nI l) ce rr cc (ed_cp re 0 (k * s + l) (fun t => ed_I (ed_cF T (R a) s q a b t))) ba cu ol sa := by
  intro n
  obtain ⟨g1, g2, g3, g4, g5, g6, g7⟩ := hS a ha
  have va : vp_in (nI a) 4 := vp_in_nI ha (by decide)
  induction n with
  | zero => intro l h1 h2; omega
  | succ n ih =>
    intro l h1 h2
    rw [wX_convolve_46]
    dsimp only
    rw [nI_clamp (show a < 2 ^ 31 by omega), g2, hs]
    by_cases e : l = s
    · subst e
      exact ⟨va, br_t (nI_le (Nat.le_refl _) (by omega)) (nm_r (nI_1 k) kk)⟩
    · have hl : l < s := by omega
      have hf := ed_fl_lt hk hl
      rw [hs] at g7
      have eF : ed_cv (R a) (C a) q (T a) (T b) k l = ed_cF T (R a) s q a b (k * s + l) := by
        unfold ed_cF
        rw [ed_fl_div hl, ed_fl_mod hl, hs]
      refine ⟨va, br_f (nI_ge (by omega) (by omega)) ⟨va, ed_xCE hS hC ha hb hq hr hc hk (by omega) ?_⟩⟩
      rw [show nI k * nI s + nI l = nI (k * s + l) by rw [pk_mul, nI_add], nI_clamp (show k * s + l < 2 ^ 31 by omega), eF]
      exact ⟨vp_in_nI (by omega) (by decide), nm_r (ed_cpS0 re (k * s + l) (fun t => ed_I (ed_cF T (R a) s q a b t))) (nm_r (nI_1 l) (ih (l + 1) (by omega) (by omega)))⟩
theorem ed_xCv32 {post : Int32 → SX → Prop} (hS : ed_Sh rr cc R C) (hC : ed_Ce ce R C T) {c a b q s : Nat} (hc4 : c < 4) (ha : a < 4) (hb : b < 4) (hq : q ≤ 2) (hr : R a = R b) (hc : C a = C b) (hs : C a = s) (kk : post 1 (ed_cp ce (c * 48) (R a * s) (ed_cp re 0 (R a * s) (fun t => ed_I (ed_cF T (R a) s q a b t))), upd rr c (nI (R a)), upd cc c (nI s), ed_cp re 0 (R a * s) (fun t => ed_I (ed_cF T (R a) s q a b t)), ba, cu, ol, sa)) : ∀ n k : Nat, R a < n + k → k ≤ R a → wX_convolve_32 post (nI c) (nI a) (nI b) (nI q) n (nI k) ce rr cc (ed_cp re 0 (k * s) (fun t => ed_I (ed_cF T (R a) s q a b t))) ba cu ol sa := by
  intro n
  obtain ⟨g1, g2, g3, g4, g5, g6, g7⟩ := hS a ha
  have va : vp_in (nI a) 4 := vp_in_nI ha (by decide)
  induction n with
  | zero => intro k h1 h2; omega
  | succ n ih =>
    intro k h1 h2
    rw [wX_convolve_32]
    dsimp only
    rw [nI_clamp (show a < 2 ^ 31 by omega), g1, g2, hs]
    by_cases e : k = R a
    · subst e
      exact ⟨va, br_t (nI_le (Nat.le_refl _) (by omega)) ⟨va, va, ed_xDel hc4 (by rw [← hs]; exact g7) kk⟩⟩
    · have i3 := ih (k + 1) (by omega) (by omega)
      rw [Nat.succ_mul] at i3
      exact ⟨va, br_f (nI_ge (by omega) (by omega)) ⟨s + 1, ed_xCv46 hS hC ha hb hq hr hc hs (by omega) i3 (s + 1) 0 (by omega) (by omega)⟩⟩
theorem ed_xCv {post : Int32 → SX → Prop} (hS : ed_Sh rr cc R C) (hC : ed_Ce ce R C T) {x y z w : Int32} (hy : ∀ l i j q, ed_ok R C x y z l i j → q ≤ 2 → w = nI q → ∀ u', ed_PX (ed_up R l (R i)) (ed_up C l (C i)) (ed_up T l (ed_cF T (R i) (C i) q i j)) u' → post 1 u') (hn : (∀ l i j q, ed_ok R C x y z l i j → q ≤ 2 → w ≠ nI q) → post 0 (ce, rr, cc, re, ba, cu, ol, sa)) : wpX_convolve post (ce, rr, cc, re, ba, cu, ol, sa) x y z w := by
  unfold wpX_convolve
  dsimp only
  refine ed_xOk hS (fun l i j o => br_c (fun c => hn ?_) (fun c => ?_)) (fun h => hn (fun l i j q o => absurd o (h l i j)))
  · intro l i j q _ hq e
    rw [e] at c
    exact nI_pos (by omega) c
  · obtain ⟨q, hq, rfl⟩ := nI_of c
    refine pk_le q 2 (fun d => ?_) (fun d => hn (fun l i j q' _ hq' e => ?_))
    · have hq2 := hy l i j q o d rfl
      obtain ⟨hl, hi, hj, rfl, rfl, rfl, e3, e4⟩ := o
      have k := ed_xCv32 (post := post) (ce := ce) (re := re) (ba := ba) (cu := cu) (ol := ol) (sa := sa) hS hC hl hi hj d e3 e4 rfl (hq2 _ (ed_PXr hS hC hi (fun t ht => ed_cp0_in ht))) (R i + 1) 0 (by omega) (by omega)
      rw [Nat.zero_mul, ed_cp0] at k
      exact ⟨_, k⟩
    · have := (nI_eq hq (by omega)).mp e
      omega
end
