/-! X: the shortest recurrence -/
theorem ed_rg_f1 {K : Type} [Lean.Grind.CommRing K] (x y z : K) : x - y * z = x + (-y) * z := by grind
theorem ed_rg_f2 {K : Type} [Lean.Grind.CommRing K] {x y z : K} (h : y * z = 1) : x * z * y = x := by grind
theorem ed_i2 (n : Nat) : 2 * nI n = nI (2 * n) := by
  rw [show (2 : Int32) = nI 2 from rfl, pk_mul]
section
variable {R C : Nat → Nat} {T : Nat → Nat → ed_K} {ce rr cc re ba cu ol sa : Nat → Int32}
theorem ed_xSt2 {post : SX → Prop} (k : post (ce, rr, cc, re, ba, upd (ed_cp cu 0 17 (fun _ => 0)) 0 1, upd (ed_cp ol 0 17 (fun _ => 0)) 0 1, sa)) : ∀ n i : Nat, 17 < n + i → i ≤ 17 → wX_startRecurrence_2 post n (nI i) ce rr cc re ba (ed_cp cu 0 i (fun _ => 0)) (ed_cp ol 0 i (fun _ => 0)) sa := by
  intro n
  induction n with
  | zero => intro i h1 h2; omega
  | succ n ih =>
    intro i h1 h2
    rw [wX_startRecurrence_2]
    dsimp only
    by_cases e : i = 17
    · subst e
      exact br_t (by decide) (nm_e (nm_e k))
    · rw [nI_clamp (show i < 2 ^ 31 by omega)]
      exact br_f (nI_ge (b := 17) (by omega) (by decide)) ⟨vp_in_nI (by omega) (by decide), nm_r (ed_cpS0 cu i (fun _ => 0)) ⟨vp_in_nI (by omega) (by decide), nm_r (ed_cpS0 ol i (fun _ => 0)) (nm_r (nI_1 i) (ih (i + 1) (by omega) (by omega)))⟩⟩
theorem ed_xSt {post : SX → Prop} (k : post (ce, rr, cc, re, ba, upd (ed_cp cu 0 17 (fun _ => 0)) 0 1, upd (ed_cp ol 0 17 (fun _ => 0)) 0 1, sa)) : wpX_startRecurrence post (ce, rr, cc, re, ba, cu, ol, sa) := by
  unfold wpX_startRecurrence
  dsimp only
  have g := ed_xSt2 (post := post) (ce := ce) (rr := rr) (cc := cc) (re := re) (ba := ba) (cu := cu) (ol := ol) (sa := sa) k 18 0 (by omega) (by omega)
  rw [ed_cp0, ed_cp0] at g
  exact ⟨_, g⟩
theorem ed_xFo6 {post : Int32 → Prop} (hC : ed_Ce ce R C T) {v N i L : Nat} {q : Nat → ed_K} (hv : v < 4) (hR : R v = 1) (hN : C v = N) (h16 : N ≤ 16) (hi : i ≤ N) (hL : L ≤ i) (hq : ∀ t, t < 17 → cu t = ed_I (q t)) (k : post (ed_I (ed_sm (fun t => (- q (t + 1)) * T v (i - 1 - t)) L))) : ∀ n m : Nat, L < n + m → m ≤ L → wX_foretold_6 post (nI v) (nI i) (nI L) ce rr cc re ba cu ol sa n (ed_I (ed_sm (fun t => (- q (t + 1)) * T v (i - 1 - t)) m)) (nI (m + 1)) := by
  intro n
  induction n with
  | zero => intro m h1 h2; omega
  | succ n ih =>
    intro m h1 h2
    rw [wX_foretold_6]
    dsimp only
    by_cases e : m = L
    · subst e
      exact br_t (nI_lt (by omega) (by omega)) k
    · have i3 := ih (m + 1) (by omega) (by omega)
      rw [ed_smS, ← ed_rg_f1] at i3
      have hc := hC v (i - 1 - m) hv (by rw [hR, hN]; omega)
      rw [show v * 48 + (i - 1 - m) = v * 48 + i - (m + 1) by omega] at hc
      rw [ed_ix, pk_sub (show m + 1 ≤ v * 48 + i by omega), nI_clamp (show v * 48 + i - (m + 1) < 2 ^ 31 by omega), nI_clamp (show m + 1 < 2 ^ 31 by omega), hq (m + 1) (by omega), hc]
      exact br_f (nI_nlt (by omega) (by omega)) ⟨vp_in_nI (by omega) (by decide), vp_in_nI (by omega) (by decide), ed_xPPm _ _ _ (nm_r (nI_1 (m + 1)) i3)⟩
theorem ed_xFo {post : Int32 → Prop} (hC : ed_Ce ce R C T) {v N i L : Nat} {q : Nat → ed_K} (hv : v < 4) (hR : R v = 1) (hN : C v = N) (h16 : N ≤ 16) (hi : i ≤ N) (hL : L ≤ i) (hq : ∀ t, t < 17 → cu t = ed_I (q t)) (k : post (ed_I (ed_sm (fun t => (- q (t + 1)) * T v (i - 1 - t)) L))) : wpX_foretold post (ce, rr, cc, re, ba, cu, ol, sa) (nI v) (nI i) (nI L) := by
  unfold wpX_foretold
  dsimp only
  have g := ed_xFo6 (post := post) (rr := rr) (cc := cc) (re := re) (ba := ba) (ol := ol) (sa := sa) hC hv hR hN h16 hi hL hq k (L + 1) 0 (by omega) (by omega)
  rw [ed_sm0, ed_I_0] at g
  exact ⟨_, g⟩
theorem ed_xCo28 {post : SX → Prop} {f : ed_K} {g : Nat} {q b : Nat → ed_K} (hg : 1 ≤ g) (hb : ∀ t, t < 17 → ol t = ed_I (b t)) (k : ∀ cu' : Nat → Int32, (∀ t, t < 17 → cu' t = ed_I (if g ≤ t then q t - f * b (t - g) else q t)) → post (ce, rr, cc, re, ba, cu', ol, sa)) : ∀ (n j : Nat) (cu : Nat → Int32), 17 < n + j → j ≤ 17 → g ≤ j → (∀ t, t < 17 → cu t = ed_I (if g ≤ t ∧ t < j then q t - f * b (t - g) else q t)) → wX_correct_28 post (ed_I f) (nI g) n (nI j) ce rr cc re ba cu ol sa := by
  intro n
  induction n with
  | zero => intro j cu h1 h2; omega
  | succ n ih =>
    intro j cu h1 h2 h3 h4
    rw [wX_correct_28]
    dsimp only
    by_cases e : j = 17
    · subst e
      refine br_t (by decide) (k cu (fun t ht => ?_))
      rw [h4 t ht]
      by_cases c : g ≤ t
      · rw [if_pos c, if_pos (by omega)]
      · rw [if_neg c, if_neg (by omega)]
    · have hcj := h4 j (by omega)
      rw [if_neg (by omega)] at hcj
      rw [pk_sub h3, nI_clamp (show j < 2 ^ 31 by omega), nI_clamp (show j - g < 2 ^ 31 by omega), hcj, hb (j - g) (by omega)]
      refine br_f (nI_ge (b := 17) (by omega) (by decide)) ⟨vp_in_nI (by omega) (by decide), vp_in_nI (by omega) (by decide), ed_xPPm _ _ _ ⟨vp_in_nI (by omega) (by decide), nm_e (nm_r (nI_1 j) (ih (j + 1) _ (by omega) (by omega) (by omega) (fun t ht => ?_)))⟩⟩
      by_cases c : t = j
      · subst c
        rw [ed_us, if_pos (by omega)]
      · rw [ed_un c, h4 t ht]
        by_cases c2 : g ≤ t ∧ t < j
        · rw [if_pos c2, if_pos (by omega)]
        · rw [if_neg c2, if_neg (by omega)]
theorem ed_xCo2 {post : SX → Prop} {x1 x2 : Int32} (k : ∃ n, wX_correct_28 post x1 x2 n x2 ce rr cc re ba cu ol (ed_cp sa 0 17 cu)) : ∀ n i : Nat, 17 < n + i → i ≤ 17 → wX_correct_2 post x1 x2 n (nI i) ce rr cc re ba cu ol (ed_cp sa 0 i cu) := by
  intro n
  induction n with
  | zero => intro i h1 h2; omega
  | succ n ih =>
    intro i h1 h2
    rw [wX_correct_2]
    dsimp only
    by_cases e : i = 17
    · subst e
      exact br_t (by decide) k
    · rw [nI_clamp (show i < 2 ^ 31 by omega)]
      exact br_f (nI_ge (b := 17) (by omega) (by decide)) ⟨vp_in_nI (by omega) (by decide), vp_in_nI (by omega) (by decide), nm_r (ed_cpS0 sa i cu) (nm_r (nI_1 i) (ih (i + 1) (by omega) (by omega)))⟩
theorem ed_xCo {post : SX → Prop} {f : ed_K} {g : Nat} {q b : Nat → ed_K} (hg : 1 ≤ g) (hg2 : g ≤ 17) (hq : ∀ t, t < 17 → cu t = ed_I (q t)) (hb : ∀ t, t < 17 → ol t = ed_I (b t)) (k : ∀ cu' sa' : Nat → Int32, (∀ t, t < 17 → cu' t = ed_I (if g ≤ t then q t - f * b (t - g) else q t)) → (∀ t, t < 17 → sa' t = ed_I (q t)) → post (ce, rr, cc, re, ba, cu', ol, sa')) : wpX_correct post (ce, rr, cc, re, ba, cu, ol, sa) (ed_I f) (nI g) := by
  unfold wpX_correct
  dsimp only
  have g1 := ed_xCo28 (post := post) (ce := ce) (rr := rr) (cc := cc) (re := re) (ba := ba) (ol := ol) (sa := ed_cp sa 0 17 cu) (f := f) (q := q) hg hb (fun cu' h => k cu' _ h (fun t ht => by rw [ed_cp0_in ht]; exact hq t ht)) 18 g cu (by omega) hg2 (by omega) (fun t ht => by rw [if_neg (by omega)]; exact hq t ht)
  have g2 := ed_xCo2 (post := post) (ce := ce) (rr := rr) (cc := cc) (re := re) (ba := ba) (cu := cu) (ol := ol) (sa := sa) ⟨_, g1⟩ 18 0 (by omega) (by omega)
  rw [ed_cp0] at g2
  exact ⟨_, g2⟩
theorem ed_xKe2 {post : SX → Prop} (k : post (ce, rr, cc, re, ba, cu, ed_cp ol 0 17 sa, sa)) : ∀ n i : Nat, 17 < n + i → i ≤ 17 → wX_keepSaved_2 post n (nI i) ce rr cc re ba cu (ed_cp ol 0 i sa) sa := by
  intro n
  induction n with
  | zero => intro i h1 h2; omega
  | succ n ih =>
    intro i h1 h2
    rw [wX_keepSaved_2]
    dsimp only
    by_cases e : i = 17
    · subst e
      exact br_t (by decide) k
    · rw [nI_clamp (show i < 2 ^ 31 by omega)]
      exact br_f (nI_ge (b := 17) (by omega) (by decide)) ⟨vp_in_nI (by omega) (by decide), vp_in_nI (by omega) (by decide), nm_r (ed_cpS0 ol i sa) (nm_r (nI_1 i) (ih (i + 1) (by omega) (by omega)))⟩
theorem ed_xKe {post : SX → Prop} (k : post (ce, rr, cc, re, ba, cu, ed_cp ol 0 17 sa, sa)) : wpX_keepSaved post (ce, rr, cc, re, ba, cu, ol, sa) := by
  unfold wpX_keepSaved
  dsimp only
  have g := ed_xKe2 (post := post) (ce := ce) (rr := rr) (cc := cc) (re := re) (ba := ba) (cu := cu) (ol := ol) (sa := sa) k 18 0 (by omega) (by omega)
  rw [ed_cp0] at g
  exact ⟨_, g⟩
theorem ed_xSR14 {post : Int32 → SX → Prop} (hS : ed_Sh rr cc R C) (hC : ed_Ce ce R C T) {v N : Nat} (hv : v < 4) (hR : R v = 1) (hN : C v = N) (kk : ∀ (cu ol sa : Nat → Int32) (L g : Nat) (om : ed_K) (q b : Nat → ed_K), (∀ t, t < 17 → cu t = ed_I (q t)) → ed_bm (T v) N L g om q b → post (nI L) (ce, rr, cc, re, ba, cu, ol, sa)) : ∀ (n i L g : Nat) (om : ed_K) (q b : Nat → ed_K) (cu ol sa : Nat → Int32), N < n + i → i ≤ N → (∀ t, t < 17 → cu t = ed_I (q t)) → (∀ t, t < 17 → ol t = ed_I (b t)) → ed_bm (T v) i L g om q b → wX_shortestRecurrence_14 post (nI v) n (nI L) (nI g) (ed_I om) (nI i) ce rr cc re ba cu ol sa := by
  intro n
  obtain ⟨g1, g2, g3, g4, g5, g6, g7⟩ := hS v hv
  have va : vp_in (nI v) 4 := vp_in_nI hv (by decide)
  induction n with
  | zero => intro i L g om q b cu ol sa h1 h2; omega
  | succ n ih =>
    intro i L g om q b cu ol sa h1 h2 hq hb hm
    rw [wX_shortestRecurrence_14]
    dsimp only
    rw [nI_clamp (show v < 2 ^ 31 by omega), g2, hN]
    by_cases e : i = N
    · subst e
      exact ⟨va, br_t (nI_le (Nat.le_refl _) (by omega)) (kk cu ol sa L g om q b hq hm)⟩
    · have hm2 := hm
      obtain ⟨a1, a2, a3, a4, a5, a6, a7, a8, a9, a10, a11⟩ := hm2
      rw [ed_ix, nI_clamp (show v * 48 + i < 2 ^ 31 by omega), hC v i hv (by rw [hR, hN]; omega)]
      refine ⟨va, br_f (nI_ge (by omega) (by omega)) (ed_xFo hC hv hR hN (by omega) (by omega) a1 hq ⟨vp_in_nI (by omega) (by decide), ed_xDif _ _ ?_⟩)⟩
      rw [← ed_D_q a5 L i]
      refine br_c (fun c => nm_r (nI_1 g) (nm_r (nI_1 i) (ih (i + 1) L (g + 1) om q b cu ol sa (by omega) (by omega) hq hb (ed_bm_a hm ((ed_I_z _).mp c))))) (fun c => ?_)
      have hne : ed_D q (T v) L i ≠ 0 := fun z => c ((ed_I_z _).mpr z)
      have hf : ed_D q (T v) L i * ed_iv om * om = ed_D q (T v) L i := ed_rg_f2 (ed_hiv om a4)
      refine ed_xInv _ (ed_xPro _ _ (ed_xCo a2 (by omega) hq hb (fun cu' sa' q1 q2 => ?_)))
      rw [ed_i2]
      refine pk_lt i (2 * L) (fun d => nm_r (nI_1 g) (nm_r (nI_1 i) (ih (i + 1) L (g + 1) om (fun t => if g ≤ t then q t - ed_D q (T v) L i * ed_iv om * b (t - g) else q t) b cu' ol sa' (by omega) (by omega) q1 hb (ed_bm_b hm hne hf (fun t h5 h6 => if_pos h5) (fun t h5 h6 => if_neg (by omega)) d (by omega))))) (fun d => ?_)
      refine ed_xKe (nm_r (e' := nI (i + 1 - L)) (by rw [nI_1, pk_sub (by omega)]) (nm_r (e' := nI 1) (by decide) (nm_r (nI_1 i) (ih (i + 1) (i + 1 - L) 1 (ed_D q (T v) L i) (fun t => if g ≤ t then q t - ed_D q (T v) L i * ed_iv om * b (t - g) else q t) q cu' _ sa' (by omega) (by omega) q1 (fun t ht => ?_) (ed_bm_c hm hne hf (fun t h5 h6 => if_pos h5) (fun t h5 h6 => if_neg (by omega)) d (by omega))))))
      show ed_cp ol 0 17 sa' t = ed_I (q t)
      rw [ed_cp0_in ht]
      exact q2 t ht
theorem ed_xSR {post : Int32 → SX → Prop} (hS : ed_Sh rr cc R C) (hC : ed_Ce ce R C T) {v N : Nat} (hv : v < 4) (hR : R v = 1) (hN : C v = N) (kk : ∀ (cu ol sa : Nat → Int32) (L g : Nat) (om : ed_K) (q b : Nat → ed_K), (∀ t, t < 17 → cu t = ed_I (q t)) → ed_bm (T v) N L g om q b → post (nI L) (ce, rr, cc, re, ba, cu, ol, sa)) : wpX_shortestRecurrence post (ce, rr, cc, re, ba, cu, ol, sa) (nI v) := by
  unfold wpX_shortestRecurrence
  dsimp only
  refine ed_xSt ?_
  have hd : ∀ (f : Nat → Int32) (t : Nat), t < 17 → upd (ed_cp f 0 17 (fun _ => 0)) 0 1 t = ed_I (if t = 0 then 1 else 0) := fun f t ht => by
    by_cases c : t = 0
    · subst c
      rw [ed_us, if_pos rfl, ed_I_1]
    · rw [ed_un c, if_neg c, ed_cp0_in ht, ed_I_0]
  have g := ed_xSR14 (post := post) (re := re) (ba := ba) hS hC hv hR hN kk (N + 1) 0 0 1 1 (fun t => if t = 0 then 1 else 0) (fun t => if t = 0 then 1 else 0) _ _ sa (by omega) (by omega) (hd cu) (hd ol) (ed_bm_0 ed_10 (if_pos rfl) (fun t h5 _ => if_neg (by omega)) (fun t h5 _ => if_neg (by omega)))
  rw [ed_I_1] at g
  exact ⟨_, g⟩
theorem ed_xRe {post : Int32 → SX → Prop} (hS : ed_Sh rr cc R C) (hC : ed_Ce ce R C T) {x : Int32} (hy : ∀ v, v < 4 → x = nI v → R v = 1 → ∀ u' L, ed_least (T v) (C v) L → ed_PX R C T u' → post (nI L) u') (hn : (∀ v, v < 4 → x = nI v → R v ≠ 1) → post (-1) (ce, rr, cc, re, ba, cu, ol, sa)) : wpX_recurrence post (ce, rr, cc, re, ba, cu, ol, sa) x := by
  unfold wpX_recurrence
  dsimp only
  refine ed_xRow hS (fun v hv e hR => br_f (by decide) ?_) (fun h => br_t rfl (hn h))
  have hq := hy v hv e hR
  subst e
  refine ed_xSR hS hC hv hR rfl (fun cu ol sa L g om q b q1 q2 => ?_)
  obtain ⟨b1, b2, b3⟩ := ed_bm_end q2
  exact hq _ L ⟨b1, ⟨_, b2⟩, b3⟩ ⟨_, _, _, _, _, _, _, _, rfl, hS, hC⟩
theorem ed_xPd {post : Int32 → SX → Prop} (hS : ed_Sh rr cc R C) (hC : ed_Ce ce R C T) {x : Int32} (hy : ∀ v, v < 4 → x = nI v → R v = 1 → ∀ u' L q, ed_least (T v) (C v) L → 2 * L ≤ C v → ed_gen (T v) L q (C v) → ed_PX R C T u' → post (ed_I (ed_sm (fun t => q t * T v (C v - 1 - t)) L)) u') (hn : ∀ u', ed_PX R C T u' → (∀ v, v < 4 → x = nI v → R v = 1 → ∀ L, ed_least (T v) (C v) L → ¬ 2 * L ≤ C v) → post (-1) u') : wpX_predict post (ce, rr, cc, re, ba, cu, ol, sa) x := by
  unfold wpX_predict
  dsimp only
  refine ed_xRow hS (fun v hv e hR => br_f (by decide) ?_) (fun h => br_t rfl (hn _ ⟨_, _, _, _, _, _, _, _, rfl, hS, hC⟩ (fun v hv e hR => absurd hR (h v hv e))))
  have hq := hy v hv e hR
  have hn2 : ∀ u', ed_PX R C T u' → ∀ L, ed_least (T v) (C v) L → ¬ 2 * L ≤ C v → post (-1) u' := fun u' hu L hL h2 => hn u' hu (fun v' hv' e' _ L' hL' => by
    obtain rfl := ed_nIe hv hv' (e.symm.trans e')
    rw [ed_least_u hL' hL]
    exact h2)
  clear hn hy
  subst e
  obtain ⟨g1, g2, g3, g4, g5, g6, g7⟩ := hS v hv
  have va : vp_in (nI v) 4 := vp_in_nI hv (by decide)
  refine ed_xSR hS hC hv hR rfl (fun cu ol sa L g om q b q1 q2 => ?_)
  obtain ⟨b1, b2, b3⟩ := ed_bm_end q2
  have hu : ed_PX R C T (ce, rr, cc, re, ba, cu, ol, sa) := ⟨_, _, _, _, _, _, _, _, rfl, hS, hC⟩
  dsimp only
  rw [nI_clamp (show v < 2 ^ 31 by omega), g2, ed_i2]
  refine ⟨va, pk_le (2 * L) (C v) (fun c => ⟨va, ed_xFo hC hv hR rfl g6 (Nat.le_refl _) b1 q1 ?_⟩) (fun c => hn2 _ hu L ⟨b1, ⟨_, b2⟩, b3⟩ (by omega))⟩
  exact hq _ L _ ⟨b1, ⟨_, b2⟩, b3⟩ c b2 hu
end
