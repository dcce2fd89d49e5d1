/-! polynomials by points: division by x - a, few roots; Newton's and Lagrange's way -/
def ed_sd {K : Type} [Lean.Grind.CommRing K] (p : Nat → K) (n : Nat) (a : K) (i : Nat) : K := ed_va (fun t => p (i + 1 + t)) (n - i) a
theorem ed_sd_last {K : Type} [Lean.Grind.CommRing K] (p : Nat → K) (n : Nat) (a : K) : ed_sd p n a n = 0 := by
  unfold ed_sd
  rw [Nat.sub_self, ed_va0]
theorem ed_sd_step {K : Type} [Lean.Grind.CommRing K] (p : Nat → K) (n : Nat) (a : K) {i : Nat} (hi : i < n) : ed_sd p n a i = p (i + 1) + ed_sd p n a (i + 1) * a := by
  unfold ed_sd
  obtain ⟨d, rfl⟩ : ∃ d, n = i + 1 + d := ⟨n - (i + 1), by omega⟩
  rw [show i + 1 + d - i = d + 1 by omega, show i + 1 + d - (i + 1) = d by omega]
  exact ed_va_step p (i + 1) d a
theorem ed_sd_0 {K : Type} [Lean.Grind.CommRing K] (p : Nat → K) (n : Nat) (a : K) : ed_va p (n + 1) a = p 0 + ed_sd p n a 0 * a := by
  have h := ed_va_step p 0 n a
  have e : ed_va p (n + 1) a = ed_va (fun t => p (0 + t)) (n + 1) a := ed_va_congr a (fun t _ => by rw [Nat.zero_add])
  rw [e, h]
  unfold ed_sd
  rw [Nat.sub_zero]
theorem ed_sd_eq {K : Type} [Lean.Grind.CommRing K] (p : Nat → K) (n : Nat) (a x : K) : ed_va p (n + 1) x = ed_va p (n + 1) a + (x - a) * ed_va (ed_sd p n a) n x := by
  have h0 := ed_va_cons p n x
  have h1 := ed_sd_0 p n a
  have e1 : ed_va (fun i => p (i + 1)) n x = ed_va (ed_sd p n a) n x - ed_va (fun i => a * ed_sd p n a (i + 1)) n x := by
    rw [← ed_va_sub]
    exact ed_va_congr x (fun i hi => by rw [ed_sd_step p n a hi]; grind)
  have e2 := ed_va_mul a (fun i => ed_sd p n a (i + 1)) n x
  have e3 := ed_va_cons (ed_sd p n a) n x
  have e4 : ed_va (ed_sd p n a) (n + 1) x = ed_va (ed_sd p n a) n x := by
    unfold ed_va
    rw [ed_smS, ed_sd_last]; grind
  rw [h0, h1, e1, e2]
  rw [e4] at e3
  grind
theorem ed_root {K : Type} [Lean.Grind.CommRing K] (hz : ∀ a b : K, a * b = 0 → a = 0 ∨ b = 0) : ∀ (n : Nat) (p a : Nat → K), (∀ i j, i < n → j < n → a i = a j → i = j) → (∀ i, i < n → ed_va p n (a i) = 0) → ∀ i, i < n → p i = 0 := by
  intro n
  induction n with
  | zero => intro p a _ _ i hi; omega
  | succ n ih =>
    intro p a ha hp i hi
    have hs : ∀ i, i < n → ed_sd p n (a n) i = 0 := by
      refine ih (ed_sd p n (a n)) a (fun i j hi hj e => ha i j (by omega) (by omega) e) (fun i hi => ?_)
      have e := ed_sd_eq p n (a n) (a i)
      rw [hp i (by omega), hp n (by omega)] at e
      have e2 : (a i - a n) * ed_va (ed_sd p n (a n)) n (a i) = 0 := by grind
      rcases hz _ _ e2 with h | h
      · have e3 : a i = a n := by grind
        have := ha i n (by omega) (by omega) e3
        omega
      · exact h
    have h0 : ∀ i, i ≤ n → ed_sd p n (a n) i = 0 := fun i hi => by
      by_cases e : i = n
      · rw [e]; exact ed_sd_last p n (a n)
      · exact hs i (by omega)
    cases i with
    | zero =>
      have e := ed_sd_0 p n (a n)
      rw [hp n (by omega), h0 0 (by omega)] at e
      grind
    | succ i =>
      have e := ed_sd_step p n (a n) (i := i) (by omega)
      rw [h0 i (by omega), h0 (i + 1) (by omega)] at e
      grind
theorem ed_uniq {K : Type} [Lean.Grind.CommRing K] (hz : ∀ a b : K, a * b = 0 → a = 0 ∨ b = 0) {n : Nat} {p q a : Nat → K} (ha : ∀ i j, i < n → j < n → a i = a j → i = j) (h : ∀ i, i < n → ed_va p n (a i) = ed_va q n (a i)) (i : Nat) (hi : i < n) : p i = q i := by
  have e := ed_root hz n (fun i => p i - q i) a ha (fun i hi => by rw [ed_va_sub, h i hi]; grind) i hi
  have e2 : p i - q i = 0 := e
  grind
/-- the product of x - a j over j < i -/
def ed_pd {K : Type} [Lean.Grind.CommRing K] (a : Nat → K) (x : K) : Nat → K
  | 0 => 1
  | i + 1 => ed_pd a x i * (x - a i)
theorem ed_pd0 {K : Type} [Lean.Grind.CommRing K] (a : Nat → K) (x : K) : ed_pd a x 0 = 1 := rfl
theorem ed_pdS {K : Type} [Lean.Grind.CommRing K] (a : Nat → K) (x : K) (i : Nat) : ed_pd a x (i + 1) = ed_pd a x i * (x - a i) := rfl
theorem ed_pd_z {K : Type} [Lean.Grind.CommRing K] (a : Nat → K) (i : Nat) {j : Nat} (hj : j < i) : ed_pd a (a j) i = 0 := by
  induction i with
  | zero => omega
  | succ i ih =>
    rw [ed_pdS]
    by_cases e : j = i
    · subst e; grind
    · rw [ih (by omega)]; grind
theorem ed_pd_n {K : Type} [Lean.Grind.CommRing K] (hz : ∀ a b : K, a * b = 0 → a = 0 ∨ b = 0) (h1 : (1 : K) ≠ 0) (a : Nat → K) (x : K) (i : Nat) (h : ∀ j, j < i → x ≠ a j) : ed_pd a x i ≠ 0 := by
  induction i with
  | zero => exact h1
  | succ i ih =>
    intro e
    rw [ed_pdS] at e
    rcases hz _ _ e with e | e
    · exact ih (fun j hj => h j (by omega)) e
    · exact h i (by omega) (by grind)
/-- Newton: r has the values y at the first i points; b is the product over them, while i < n -/
def ed_nw {K : Type} [Lean.Grind.CommRing K] (n : Nat) (a y : Nat → K) (i : Nat) (r b : Nat → K) : Prop :=
  (∀ j, j < i → ed_va r n (a j) = y j) ∧ (i < n → (∀ x, ed_va b n x = ed_pd a x i) ∧ ∀ k, i < k → k < n → b k = 0)
theorem ed_nw_0 {K : Type} [Lean.Grind.CommRing K] {n : Nat} {a y r b : Nat → K} (hb0 : b 0 = 1) (hb : ∀ k, 0 < k → k < n → b k = 0) : ed_nw n a y 0 r b := by
  refine ⟨fun j hj => by omega, fun hn => ⟨fun x => ?_, fun k hk hkn => hb k hk hkn⟩⟩
  obtain ⟨m, rfl⟩ : ∃ m, n = m + 1 := ⟨n - 1, by omega⟩
  rw [ed_va_cons, hb0, ed_pd0, ed_va_z (p := fun i => b (i + 1)) (n := m) x (fun i hi => hb (i + 1) (by omega) (by omega))]; grind
theorem ed_nw_s {K : Type} [Lean.Grind.CommRing K] (iv : K → K) (hiv : ∀ a : K, a ≠ 0 → a * iv a = 1) (hz : ∀ a b : K, a * b = 0 → a = 0 ∨ b = 0) (h1 : (1 : K) ≠ 0) {n i : Nat} {a y r b r' b' : Nat → K} (ha : ∀ i j, i < n → j < n → a i = a j → i = j) (hi : i < n) (h : ed_nw n a y i r b)
    (hr : ∀ k, k < n → r' k = r k + (y i - ed_va r n (a i)) * iv (ed_va b n (a i)) * b k) (hb0 : b' 0 = - (a i * b 0)) (hb : ∀ k, 0 < k → k < n → b' k = b (k - 1) - a i * b k) : ed_nw n a y (i + 1) r' b' := by
  obtain ⟨hv, hp⟩ := h
  obtain ⟨hp, hq⟩ := hp hi
  have hn : ed_va b n (a i) ≠ 0 := by
    rw [hp]
    refine ed_pd_n hz h1 a (a i) i (fun j hj e => ?_)
    have := ha i j hi (by omega) e
    omega
  have hj := hiv _ hn
  have e : ∀ x, ed_va r' n x = ed_va r n x + (y i - ed_va r n (a i)) * iv (ed_va b n (a i)) * ed_va b n x := fun x => by
    rw [← ed_va_mul, ← ed_va_add]
    exact ed_va_congr x (fun k hk => by rw [hr k hk])
  refine ⟨fun j hj' => ?_, fun hin => ⟨fun x => ?_, fun k hk hkn => ?_⟩⟩
  · rw [e]
    by_cases q : j = i
    · subst q; grind
    · rw [hp (a j), ed_pd_z a i (by omega), hv j (by omega)]; grind
  · obtain ⟨m, rfl⟩ : ∃ m, n = m + 1 := ⟨n - 1, by omega⟩
    have e1 : ed_va b' (m + 1) x = ed_va b m x * x - a i * ed_va b (m + 1) x := by
      have c : ed_va (fun k => if k = 0 then 0 else b (k - 1)) (m + 1) x = ed_va b m x * x := by
        rw [ed_va_cons]
        have c2 : ed_va (fun k => if k + 1 = 0 then 0 else b (k + 1 - 1)) m x = ed_va b m x := ed_va_congr x (fun k _ => by rw [if_neg (by omega), Nat.add_sub_cancel])
        rw [c2, if_pos rfl]; grind
      rw [← c, ← ed_va_mul, ← ed_va_sub]
      refine ed_va_congr x (fun k hk => ?_)
      show b' k = (if k = 0 then 0 else b (k - 1)) - a i * b k
      by_cases k0 : k = 0
      · subst k0; rw [if_pos rfl, hb0]; grind
      · rw [if_neg k0, hb k (by omega) hk]
    have e2 : ed_va b (m + 1) x = ed_va b m x := by
      show ed_sm _ (m + 1) = ed_sm _ m
      rw [ed_smS, hq m (by omega) (by omega)]; grind
    have e3 := hp x
    rw [e1, e2, ed_pdS, ← e3, e2]; grind
  · rw [hb k (by omega) hkn, hq k (by omega) hkn, hq (k - 1) (by omega) (by omega)]; grind
/-- Lagrange: the product over j < m, j not i, of (x - a j) / (a i - a j) -/
def ed_lg {K : Type} [Lean.Grind.CommRing K] (iv : K → K) (a : Nat → K) (i : Nat) (x : K) : Nat → K
  | 0 => 1
  | m + 1 => if m = i then ed_lg iv a i x m else ed_lg iv a i x m * ((x - a m) * iv (a i - a m))
theorem ed_lg_eq {K : Type} [Lean.Grind.CommRing K] (iv : K → K) (a : Nat → K) {i m : Nat} (x : K) (h : m = i) : ed_lg iv a i x (m + 1) = ed_lg iv a i x m := if_pos h
theorem ed_lg_ne {K : Type} [Lean.Grind.CommRing K] (iv : K → K) (a : Nat → K) {i m : Nat} (x : K) (h : m ≠ i) : ed_lg iv a i x (m + 1) = ed_lg iv a i x m * ((x - a m) * iv (a i - a m)) := if_neg h
theorem ed_lg_1 {K : Type} [Lean.Grind.CommRing K] (iv : K → K) (hiv : ∀ a : K, a ≠ 0 → a * iv a = 1) (a : Nat → K) (i m : Nat) (h : ∀ j, j < m → a i = a j → i = j) : ed_lg iv a i (a i) m = 1 := by
  induction m with
  | zero => rfl
  | succ m ih =>
    have ih := ih (fun j hj => h j (by omega))
    by_cases e : m = i
    · rw [ed_lg_eq iv a _ e, ih]
    · have hn : a i - a m ≠ 0 := fun q => e (h m (by omega) (by grind)).symm
      rw [ed_lg_ne iv a _ e, ih, hiv _ hn]; grind
theorem ed_lg_0 {K : Type} [Lean.Grind.CommRing K] (iv : K → K) (a : Nat → K) (i m : Nat) {j : Nat} (hj : j < m) (hn : j ≠ i) : ed_lg iv a i (a j) m = 0 := by
  induction m with
  | zero => omega
  | succ m ih =>
    by_cases e : m = i
    · rw [ed_lg_eq iv a _ e, ih (by omega)]
    · rw [ed_lg_ne iv a _ e]
      by_cases q : j = m
      · subst q; grind
      · rw [ih (by omega)]; grind
/-- one factor more: D is the degree before -/
theorem ed_lg_s {K : Type} [Lean.Grind.CommRing K] {n D : Nat} {p p' : Nat → K} {z c : K} (hD : D + 1 < n) (hp : ∀ k, D < k → k < n → p k = 0) (h0 : p' 0 = (0 - z * p 0) * c) (hk : ∀ k, 0 < k → k ≤ D + 1 → p' k = (p (k - 1) - z * p k) * c) (hh : ∀ k, D + 1 < k → k < n → p' k = p k) :
    (∀ x, ed_va p' n x = ed_va p n x * ((x - z) * c)) ∧ ∀ k, D + 1 < k → k < n → p' k = 0 := by
  refine ⟨fun x => ?_, fun k h1 h2 => by rw [hh k h1 h2, hp k (by omega) h2]⟩
  obtain ⟨m, rfl⟩ : ∃ m, n = m + 1 := ⟨n - 1, by omega⟩
  have c1 : ed_va (fun k => if k = 0 then 0 else p (k - 1)) (m + 1) x = ed_va p m x * x := by
    rw [ed_va_cons]
    have c2 : ed_va (fun k => if k + 1 = 0 then 0 else p (k + 1 - 1)) m x = ed_va p m x := ed_va_congr x (fun k _ => by rw [if_neg (by omega), Nat.add_sub_cancel])
    rw [c2, if_pos rfl]; grind
  have e2 : ed_va p (m + 1) x = ed_va p m x := by
    show ed_sm _ (m + 1) = ed_sm _ m
    rw [ed_smS, hp m (by omega) (by omega)]; grind
  have e1 : ed_va p' (m + 1) x = c * (ed_va p m x * x - z * ed_va p (m + 1) x) := by
    rw [← c1, ← ed_va_mul, ← ed_va_sub, ← ed_va_mul]
    refine ed_va_congr x (fun k h => ?_)
    show p' k = c * ((if k = 0 then 0 else p (k - 1)) - z * p k)
    by_cases k0 : k = 0
    · subst k0; rw [if_pos rfl, h0]; grind
    · rw [if_neg k0]
      by_cases k1 : k ≤ D + 1
      · rw [hk k (by omega) k1]; grind
      · rw [hh k (by omega) h, hp k (by omega) h, hp (k - 1) (by omega) (by omega)]; grind
  rw [e1, e2]; grind
