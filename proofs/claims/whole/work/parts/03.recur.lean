/-! recurrences of a sequence: Massey's bound, the only one, and Berlekamp's and Massey's steps -/
def ed_gen {K : Type} [Lean.Grind.CommRing K] (s : Nat → K) (L : Nat) (q : Nat → K) (m : Nat) : Prop := ∀ i, L ≤ i → i < m → s i = ed_sm (fun t => q t * s (i - 1 - t)) L
theorem ed_gen_le {K : Type} [Lean.Grind.CommRing K] {s : Nat → K} {L : Nat} {q : Nat → K} {m m' : Nat} (h : ed_gen s L q m) (hm : m' ≤ m) : ed_gen s L q m' := fun i h1 h2 => h i h1 (by omega)
theorem ed_massey {K : Type} [Lean.Grind.CommRing K] {s c d : Nat → K} {L1 L2 m : Nat} (h1 : ed_gen s L1 c m) (h2 : ed_gen s L2 d (m + 1)) (h : L1 + L2 ≤ m) : s m = ed_sm (fun t => c t * s (m - 1 - t)) L1 := by
  rw [h2 m (by omega) (by omega)]
  have e1 : ed_sm (fun u => d u * s (m - 1 - u)) L2 = ed_sm (fun u => ed_sm (fun t => d u * (c t * s (m - 1 - u - 1 - t))) L1) L2 :=
    ed_sm_congr (fun u hu => by
      rw [h1 (m - 1 - u) (by omega) (by omega)]
      exact (ed_sm_mul (d u) (fun t => c t * s (m - 1 - u - 1 - t)) L1).symm)
  rw [e1, ed_sm_swap (fun u t => d u * (c t * s (m - 1 - u - 1 - t)))]
  refine ed_sm_congr (fun t ht => ?_)
  show ed_sm (fun u => d u * (c t * s (m - 1 - u - 1 - t))) L2 = c t * s (m - 1 - t)
  rw [h2 (m - 1 - t) (by omega) (by omega), ← ed_sm_mul]
  exact ed_sm_congr (fun u hu => by rw [show m - 1 - u - 1 - t = m - 1 - t - 1 - u by omega]; grind)
theorem ed_quniq {K : Type} [Lean.Grind.CommRing K] (iv : K → K) (hiv : ∀ a : K, a ≠ 0 → a * iv a = 1) {s q q' : Nat → K} {L n : Nat} (hq : ed_gen s L q n) (hq' : ed_gen s L q' n) (hmin : ∀ L2 d, ed_gen s L2 d n → L ≤ L2) (h2 : 2 * L ≤ n) : ∀ t, t < L → q t = q' t := by
  intro t0
  induction t0 using Nat.strongRecOn with
  | ind t0 ih =>
    intro ht
    apply Classical.byContradiction
    intro hne
    have hr : q t0 - q' t0 ≠ 0 := fun z => hne (by grind)
    have hrv := hiv _ hr
    have hg : ed_gen s (L - 1 - t0) (fun u => - ((q (t0 + 1 + u) - q' (t0 + 1 + u)) * iv (q t0 - q' t0))) (n - 1 - t0) := by
      intro j hj hjn
      have a1 := hq (j + 1 + t0) (by omega) (by omega)
      have a2 := hq' (j + 1 + t0) (by omega) (by omega)
      have a3 : ed_sm (fun t => (q t - q' t) * s (j + 1 + t0 - 1 - t)) L = 0 := by
        have c := ed_sm_sub (fun t => q t * s (j + 1 + t0 - 1 - t)) (fun t => q' t * s (j + 1 + t0 - 1 - t)) L
        rw [← a1, ← a2] at c
        have c2 : ed_sm (fun t => (q t - q' t) * s (j + 1 + t0 - 1 - t)) L = ed_sm (fun t => q t * s (j + 1 + t0 - 1 - t) - q' t * s (j + 1 + t0 - 1 - t)) L := ed_sm_congr (fun t _ => by grind)
        rw [c2, c]; grind
      have a4 : ed_sm (fun t => (q t - q' t) * s (j + 1 + t0 - 1 - t)) L = (q t0 - q' t0) * s j + ed_sm (fun u => (q (t0 + 1 + u) - q' (t0 + 1 + u)) * s (j - 1 - u)) (L - 1 - t0) := by
        have eL : L = t0 + 1 + (L - 1 - t0) := by omega
        rw [show ed_sm (fun t => (q t - q' t) * s (j + 1 + t0 - 1 - t)) L = ed_sm (fun t => (q t - q' t) * s (j + 1 + t0 - 1 - t)) (t0 + 1 + (L - 1 - t0)) from congrArg _ eL, ed_sm_split, ed_smS]
        have b1 : ed_sm (fun t => (q t - q' t) * s (j + 1 + t0 - 1 - t)) t0 = 0 := ed_sm_z (fun t h => by rw [ih t h (by omega)]; grind)
        have b2 : ed_sm (fun i => (q (t0 + 1 + i) - q' (t0 + 1 + i)) * s (j + 1 + t0 - 1 - (t0 + 1 + i))) (L - 1 - t0) = ed_sm (fun u => (q (t0 + 1 + u) - q' (t0 + 1 + u)) * s (j - 1 - u)) (L - 1 - t0) := ed_sm_congr (fun u _ => by rw [show j + 1 + t0 - 1 - (t0 + 1 + u) = j - 1 - u by omega])
        rw [b1, b2, show j + 1 + t0 - 1 - t0 = j by omega]; grind
      have a5 : ed_sm (fun u => - ((q (t0 + 1 + u) - q' (t0 + 1 + u)) * iv (q t0 - q' t0)) * s (j - 1 - u)) (L - 1 - t0) = - iv (q t0 - q' t0) * ed_sm (fun u => (q (t0 + 1 + u) - q' (t0 + 1 + u)) * s (j - 1 - u)) (L - 1 - t0) := by
        rw [← ed_sm_mul]
        exact ed_sm_congr (fun u _ => by grind)
      rw [a5]
      rw [a4] at a3
      grind
    have hall : ∀ d m, n - 1 - t0 + d = m → m ≤ n → ed_gen s (L - 1 - t0) (fun u => - ((q (t0 + 1 + u) - q' (t0 + 1 + u)) * iv (q t0 - q' t0))) m := by
      intro d
      induction d with
      | zero => intro m e _; rw [← e]; exact hg
      | succ d ihd =>
        intro m e hm
        have g := ihd (n - 1 - t0 + d) rfl (by omega)
        intro i h1 h3
        by_cases c : i < n - 1 - t0 + d
        · exact g i h1 c
        · have ei : i = n - 1 - t0 + d := by omega
          rw [ei]
          exact ed_massey g (ed_gen_le hq (by omega)) (by omega)
    have := hmin _ _ (hall (1 + t0) n (by omega) (by omega))
    omega
def ed_D {K : Type} [Lean.Grind.CommRing K] (C s : Nat → K) (L j : Nat) : K := ed_sm (fun t => C t * s (j - t)) (L + 1)
theorem ed_D_q {K : Type} [Lean.Grind.CommRing K] {C s : Nat → K} (h : C 0 = 1) (L j : Nat) : ed_D C s L j = s j - ed_sm (fun t => (- C (t + 1)) * s (j - 1 - t)) L := by
  unfold ed_D
  rw [ed_sm_first, h, Nat.sub_zero]
  have e : ed_sm (fun i => C (i + 1) * s (j - (i + 1))) L = ed_sm (fun t => (0 - 1) * ((- C (t + 1)) * s (j - 1 - t))) L := ed_sm_congr (fun t _ => by rw [show j - (t + 1) = j - 1 - t by omega]; grind)
  rw [e, ed_sm_mul]; grind
def ed_bm {K : Type} [Lean.Grind.CommRing K] (s : Nat → K) (i L g : Nat) (om : K) (C B : Nat → K) : Prop :=
  L ≤ i ∧ 1 ≤ g ∧ g + L ≤ i + 1 ∧ om ≠ 0 ∧ C 0 = 1 ∧ (∀ t, L < t → t < 17 → C t = 0) ∧ (∀ j, L ≤ j → j < i → ed_D C s L j = 0) ∧ (∀ L2 d, ed_gen s L2 d i → L ≤ L2) ∧ (∀ t, i + 1 - g - L < t → t < 17 → B t = 0) ∧ (∀ j, i + 1 - g - L ≤ j → j + g < i → ed_D B s (i + 1 - g - L) j = 0) ∧ (g ≤ i → ed_D B s (i + 1 - g - L) (i - g) = om)
theorem ed_bm_0 {K : Type} [Lean.Grind.CommRing K] (h1 : (1 : K) ≠ 0) {s C B : Nat → K} (hC0 : C 0 = 1) (hC : ∀ t, 0 < t → t < 17 → C t = 0) (hB : ∀ t, 0 < t → t < 17 → B t = 0) : ed_bm s 0 0 1 1 C B :=
  ⟨by omega, by omega, by omega, h1, hC0, hC, fun j _ h => by omega, fun _ _ _ => by omega, fun t ht h => hB t (by omega) h, fun j _ h => by omega, fun h => by omega⟩
theorem ed_bm_a {K : Type} [Lean.Grind.CommRing K] {s C B : Nat → K} {i L g : Nat} {om : K} (h : ed_bm s i L g om C B) (hm : ed_D C s L i = 0) : ed_bm s (i + 1) L (g + 1) om C B := by
  obtain ⟨a1, a2, a3, a4, a5, a6, a7, a8, a9, a10, a11⟩ := h
  have e : i + 1 + 1 - (g + 1) - L = i + 1 - g - L := by omega
  unfold ed_bm
  rw [e]
  refine ⟨by omega, by omega, by omega, a4, a5, a6, fun j h1 h2 => ?_, fun L2 d hg => a8 L2 d (ed_gen_le hg (by omega)), a9, fun j h1 h2 => a10 j h1 (by omega), fun h1 => ?_⟩
  · by_cases c : j = i
    · rw [c]; exact hm
    · exact a7 j h1 (by omega)
  · rw [show i + 1 - (g + 1) = i - g by omega]
    exact a11 (by omega)
/-- the mended factors: they ask for nothing wrong up to i -/
theorem ed_bm_D {K : Type} [Lean.Grind.CommRing K] {s C B C' : Nat → K} {i L g L' : Nat} {om f : K} (h : ed_bm s i L g om C B) (hf : f * om = ed_D C s L i) (h1 : ∀ t, g ≤ t → t < 17 → C' t = C t - f * B (t - g)) (h0 : ∀ t, t < g → t < 17 → C' t = C t) (hL : L ≤ L') (hL2 : i + 1 - L ≤ L') (h16 : L' ≤ 16) (j : Nat) (hj : L' ≤ j) (hji : j ≤ i) : ed_D C' s L' j = 0 := by
  obtain ⟨a1, a2, a3, a4, a5, a6, a7, a8, a9, a10, a11⟩ := h
  have e1 : ed_D C' s L' j = ed_D C s L' j - ed_sm (fun t => (if g ≤ t then f * B (t - g) else 0) * s (j - t)) (L' + 1) := by
    unfold ed_D
    rw [← ed_sm_sub]
    refine ed_sm_congr (fun t ht => ?_)
    by_cases c : g ≤ t
    · rw [if_pos c, h1 t c (by omega)]; grind
    · rw [if_neg c, h0 t (by omega) (by omega)]; grind
  have e2 : ed_D C s L' j = ed_D C s L j := ed_sm_ext (by omega) (fun t h3 h4 => by rw [a6 t (by omega) (by omega)]; grind)
  have e3 : ed_sm (fun t => (if g ≤ t then f * B (t - g) else 0) * s (j - t)) (L' + 1) = f * ed_D B s (i + 1 - g - L) (j - g) := by
    rw [show L' + 1 = g + (L' + 1 - g) by omega, ed_sm_split]
    have c1 : ed_sm (fun t => (if g ≤ t then f * B (t - g) else 0) * s (j - t)) g = 0 := ed_sm_z (fun t ht => by rw [if_neg (by omega)]; grind)
    have c2 : ed_sm (fun u => (if g ≤ g + u then f * B (g + u - g) else 0) * s (j - (g + u))) (L' + 1 - g) = ed_sm (fun u => f * (B u * s (j - g - u))) (L' + 1 - g) := ed_sm_congr (fun u _ => by rw [if_pos (by omega), show g + u - g = u by omega, show j - (g + u) = j - g - u by omega]; grind)
    have c3 : ed_sm (fun u => B u * s (j - g - u)) (L' + 1 - g) = ed_sm (fun u => B u * s (j - g - u)) (i + 1 - g - L + 1) := ed_sm_ext (by omega) (fun u h3 h4 => by rw [a9 u (by omega) (by omega)]; grind)
    rw [c1, c2, ed_sm_mul, c3]
    unfold ed_D
    grind
  rw [e1, e2, e3]
  by_cases c : j = i
  · rw [c, a11 (by omega), hf]; grind
  · rw [a7 j (by omega) (by omega), a10 (j - g) (by omega) (by omega)]; grind
theorem ed_bm_min {K : Type} [Lean.Grind.CommRing K] {s C B : Nat → K} {i L g : Nat} {om : K} (h : ed_bm s i L g om C B) (hm : ed_D C s L i ≠ 0) {L2 : Nat} {d : Nat → K} (hg : ed_gen s L2 d (i + 1)) : L ≤ L2 ∧ i + 1 - L ≤ L2 := by
  obtain ⟨a1, a2, a3, a4, a5, a6, a7, a8, a9, a10, a11⟩ := h
  refine ⟨a8 L2 d (ed_gen_le hg (by omega)), ?_⟩
  apply Classical.byContradiction
  intro c
  apply hm
  have hc : ed_gen s L (fun t => - C (t + 1)) i := fun j h1 h2 => by
    have e := a7 j h1 h2
    rw [ed_D_q a5] at e
    grind
  have e := ed_massey hc hg (by omega)
  rw [ed_D_q a5, ← e]; grind
theorem ed_bm_b {K : Type} [Lean.Grind.CommRing K] {s C B C' : Nat → K} {i L g : Nat} {om f : K} (h : ed_bm s i L g om C B) (hm : ed_D C s L i ≠ 0) (hf : f * om = ed_D C s L i) (h1 : ∀ t, g ≤ t → t < 17 → C' t = C t - f * B (t - g)) (h0 : ∀ t, t < g → t < 17 → C' t = C t) (h2 : i < 2 * L) (hi : i < 16) : ed_bm s (i + 1) L (g + 1) om C' B := by
  have hD := ed_bm_D h hf h1 h0 (L' := L) (by omega) (by omega) (by have := h.1; omega)
  have hM := fun L2 d (hg : ed_gen s L2 d (i + 1)) => (ed_bm_min h hm hg).1
  obtain ⟨a1, a2, a3, a4, a5, a6, a7, a8, a9, a10, a11⟩ := h
  have e : i + 1 + 1 - (g + 1) - L = i + 1 - g - L := by omega
  unfold ed_bm
  rw [e]
  refine ⟨by omega, by omega, by omega, a4, by rw [h0 0 (by omega) (by omega), a5], fun t h3 h4 => ?_, fun j h3 h4 => hD j h3 (by omega), hM, a9, fun j h3 h4 => a10 j h3 (by omega), fun h3 => ?_⟩
  · by_cases c : g ≤ t
    · rw [h1 t c h4, a6 t h3 h4, a9 (t - g) (by omega) (by omega)]; grind
    · rw [h0 t (by omega) h4, a6 t h3 h4]
  · rw [show i + 1 - (g + 1) = i - g by omega]
    exact a11 (by omega)
theorem ed_bm_c {K : Type} [Lean.Grind.CommRing K] {s C B C' : Nat → K} {i L g : Nat} {om f : K} (h : ed_bm s i L g om C B) (hm : ed_D C s L i ≠ 0) (hf : f * om = ed_D C s L i) (h1 : ∀ t, g ≤ t → t < 17 → C' t = C t - f * B (t - g)) (h0 : ∀ t, t < g → t < 17 → C' t = C t) (h2 : 2 * L ≤ i) (hi : i < 16) : ed_bm s (i + 1) (i + 1 - L) 1 (ed_D C s L i) C' C := by
  have hD := ed_bm_D h hf h1 h0 (L' := i + 1 - L) (by omega) (by omega) (by omega)
  have hM := fun L2 d (hg : ed_gen s L2 d (i + 1)) => (ed_bm_min h hm hg).2
  obtain ⟨a1, a2, a3, a4, a5, a6, a7, a8, a9, a10, a11⟩ := h
  have e : i + 1 + 1 - 1 - (i + 1 - L) = L := by omega
  unfold ed_bm
  rw [e]
  refine ⟨by omega, by omega, by omega, hm, by rw [h0 0 (by omega) (by omega), a5], fun t h3 h4 => ?_, fun j h3 h4 => hD j h3 (by omega), hM, a6, fun j h3 h4 => a7 j h3 (by omega), fun h3 => ?_⟩
  · by_cases c : g ≤ t
    · rw [h1 t c h4, a6 t (by omega) h4, a9 (t - g) (by omega) (by omega)]; grind
    · rw [h0 t (by omega) h4, a6 t (by omega) h4]
  · rw [show i + 1 - 1 = i by omega]
/-- at the end: the length is the least, its factors make the sequence -/
theorem ed_bm_end {K : Type} [Lean.Grind.CommRing K] {s C B : Nat → K} {n L g : Nat} {om : K} (h : ed_bm s n L g om C B) : L ≤ n ∧ ed_gen s L (fun t => - C (t + 1)) n ∧ ∀ L2 d, ed_gen s L2 d n → L ≤ L2 := by
  obtain ⟨a1, a2, a3, a4, a5, a6, a7, a8, a9, a10, a11⟩ := h
  refine ⟨a1, fun j h1 h2 => ?_, a8⟩
  have e := a7 j h1 h2
  rw [ed_D_q a5] at e
  grind
