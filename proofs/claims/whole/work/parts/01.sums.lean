/-! sums, powers and values of polynomials over a commutative ring -/
def ed_sm {K : Type} [Lean.Grind.CommRing K] (f : Nat → K) : Nat → K
  | 0 => 0
  | n + 1 => ed_sm f n + f n
theorem ed_sm0 {K : Type} [Lean.Grind.CommRing K] (f : Nat → K) : ed_sm f 0 = 0 := rfl
theorem ed_smS {K : Type} [Lean.Grind.CommRing K] (f : Nat → K) (n : Nat) : ed_sm f (n + 1) = ed_sm f n + f n := rfl
theorem ed_sm_congr {K : Type} [Lean.Grind.CommRing K] {f g : Nat → K} {n : Nat} (h : ∀ i, i < n → f i = g i) : ed_sm f n = ed_sm g n := by
  induction n with
  | zero => rfl
  | succ n ih => rw [ed_smS, ed_smS, ih (fun i hi => h i (by omega)), h n (by omega)]
theorem ed_sm_add {K : Type} [Lean.Grind.CommRing K] (f g : Nat → K) (n : Nat) : ed_sm (fun i => f i + g i) n = ed_sm f n + ed_sm g n := by
  induction n with
  | zero => rw [ed_sm0, ed_sm0, ed_sm0]; grind
  | succ n ih => rw [ed_smS, ed_smS, ed_smS, ih]; grind
theorem ed_sm_sub {K : Type} [Lean.Grind.CommRing K] (f g : Nat → K) (n : Nat) : ed_sm (fun i => f i - g i) n = ed_sm f n - ed_sm g n := by
  induction n with
  | zero => rw [ed_sm0, ed_sm0, ed_sm0]; grind
  | succ n ih => rw [ed_smS, ed_smS, ed_smS, ih]; grind
theorem ed_sm_mul {K : Type} [Lean.Grind.CommRing K] (c : K) (f : Nat → K) (n : Nat) : ed_sm (fun i => c * f i) n = c * ed_sm f n := by
  induction n with
  | zero => rw [ed_sm0, ed_sm0]; grind
  | succ n ih => rw [ed_smS, ed_smS, ih]; grind
theorem ed_sm_mulr {K : Type} [Lean.Grind.CommRing K] (c : K) (f : Nat → K) (n : Nat) : ed_sm (fun i => f i * c) n = ed_sm f n * c := by
  induction n with
  | zero => rw [ed_sm0, ed_sm0]; grind
  | succ n ih => rw [ed_smS, ed_smS, ih]; grind
theorem ed_sm_z {K : Type} [Lean.Grind.CommRing K] {f : Nat → K} {n : Nat} (h : ∀ i, i < n → f i = 0) : ed_sm f n = 0 := by
  induction n with
  | zero => rfl
  | succ n ih => rw [ed_smS, ih (fun i hi => h i (by omega)), h n (by omega)]; grind
theorem ed_sm_swap {K : Type} [Lean.Grind.CommRing K] (f : Nat → Nat → K) (m n : Nat) : ed_sm (fun i => ed_sm (fun j => f i j) n) m = ed_sm (fun j => ed_sm (fun i => f i j) m) n := by
  induction m with
  | zero => rw [ed_sm0]; exact (ed_sm_z (fun i _ => rfl)).symm
  | succ m ih =>
    rw [ed_smS, ih, ← ed_sm_add]
    exact ed_sm_congr (fun j _ => (ed_smS (fun i => f i j) m).symm)
theorem ed_sm_first {K : Type} [Lean.Grind.CommRing K] (f : Nat → K) (n : Nat) : ed_sm f (n + 1) = f 0 + ed_sm (fun i => f (i + 1)) n := by
  induction n with
  | zero => rw [ed_smS, ed_sm0, ed_sm0]; grind
  | succ n ih => rw [ed_smS, ih, ed_smS]; grind
theorem ed_sm_split {K : Type} [Lean.Grind.CommRing K] (f : Nat → K) (m n : Nat) : ed_sm f (m + n) = ed_sm f m + ed_sm (fun i => f (m + i)) n := by
  induction n with
  | zero => rw [ed_sm0, Nat.add_zero]; grind
  | succ n ih => rw [← Nat.add_assoc, ed_smS, ih, ed_smS]; grind
theorem ed_sm_one {K : Type} [Lean.Grind.CommRing K] {f : Nat → K} {n k : Nat} (hk : k < n) (h : ∀ i, i < n → i ≠ k → f i = 0) : ed_sm f n = f k := by
  induction n with
  | zero => omega
  | succ n ih =>
    rw [ed_smS]
    by_cases e : k = n
    · subst e
      rw [ed_sm_z (f := f) (n := k) (fun i hi => h i (by omega) (by omega))]; grind
    · rw [ih (by omega) (fun i hi hn => h i (by omega) hn), h n (by omega) (by omega)]; grind
/-- a longer sum whose further terms are naught -/
theorem ed_sm_ext {K : Type} [Lean.Grind.CommRing K] {f : Nat → K} {m n : Nat} (hm : m ≤ n) (h : ∀ i, m ≤ i → i < n → f i = 0) : ed_sm f n = ed_sm f m := by
  obtain ⟨d, rfl⟩ : ∃ d, n = m + d := ⟨n - m, by omega⟩
  rw [ed_sm_split, ed_sm_z (f := fun i => f (m + i)) (n := d) (fun i hi => h (m + i) (by omega) (by omega))]; grind
def ed_pw {K : Type} [Lean.Grind.CommRing K] (a : K) : Nat → K
  | 0 => 1
  | n + 1 => ed_pw a n * a
theorem ed_pw0 {K : Type} [Lean.Grind.CommRing K] (a : K) : ed_pw a 0 = 1 := rfl
theorem ed_pwS {K : Type} [Lean.Grind.CommRing K] (a : K) (n : Nat) : ed_pw a (n + 1) = ed_pw a n * a := rfl
theorem ed_pw1 {K : Type} [Lean.Grind.CommRing K] (a : K) : ed_pw a 1 = a := by
  rw [ed_pwS, ed_pw0]; grind
theorem ed_pw_add {K : Type} [Lean.Grind.CommRing K] (a : K) (m n : Nat) : ed_pw a (m + n) = ed_pw a m * ed_pw a n := by
  induction n with
  | zero => rw [ed_pw0, Nat.add_zero]; grind
  | succ n ih => rw [← Nat.add_assoc, ed_pwS, ih, ed_pwS]; grind
theorem ed_pw_mul {K : Type} [Lean.Grind.CommRing K] (a : K) (m n : Nat) : ed_pw a (m * n) = ed_pw (ed_pw a m) n := by
  induction n with
  | zero => rw [Nat.mul_zero, ed_pw0, ed_pw0]
  | succ n ih => rw [Nat.mul_succ, ed_pw_add, ih, ed_pwS]
theorem ed_pw_one {K : Type} [Lean.Grind.CommRing K] (n : Nat) : ed_pw (1 : K) n = 1 := by
  induction n with
  | zero => rfl
  | succ n ih => rw [ed_pwS, ih]; grind
/-- the value of the polynomial of n terms p 0, p 1, .. at x -/
def ed_va {K : Type} [Lean.Grind.CommRing K] (p : Nat → K) (n : Nat) (x : K) : K := ed_sm (fun i => p i * ed_pw x i) n
theorem ed_va0 {K : Type} [Lean.Grind.CommRing K] (p : Nat → K) (x : K) : ed_va p 0 x = 0 := rfl
theorem ed_va_congr {K : Type} [Lean.Grind.CommRing K] {p q : Nat → K} {n : Nat} (x : K) (h : ∀ i, i < n → p i = q i) : ed_va p n x = ed_va q n x :=
  ed_sm_congr (fun i hi => by rw [h i hi])
theorem ed_va_cons {K : Type} [Lean.Grind.CommRing K] (p : Nat → K) (n : Nat) (x : K) : ed_va p (n + 1) x = p 0 + ed_va (fun i => p (i + 1)) n x * x := by
  unfold ed_va
  rw [ed_sm_first, ← ed_sm_mulr, ed_pw0]
  have e : ed_sm (fun i => p (i + 1) * ed_pw x (i + 1)) n = ed_sm (fun i => p (i + 1) * ed_pw x i * x) n := ed_sm_congr (fun i _ => by rw [ed_pwS]; grind)
  rw [e]; grind
/-- one step of Horner's rule, from the end -/
theorem ed_va_step {K : Type} [Lean.Grind.CommRing K] (p : Nat → K) (i m : Nat) (x : K) : ed_va (fun t => p (i + t)) (m + 1) x = p i + ed_va (fun t => p (i + 1 + t)) m x * x := by
  rw [ed_va_cons, Nat.add_zero]
  have e : ed_va (fun t => p (i + (t + 1))) m x = ed_va (fun t => p (i + 1 + t)) m x := ed_va_congr x (fun t _ => congrArg p (by omega))
  rw [e]
theorem ed_va_add {K : Type} [Lean.Grind.CommRing K] (p q : Nat → K) (n : Nat) (x : K) : ed_va (fun i => p i + q i) n x = ed_va p n x + ed_va q n x := by
  unfold ed_va
  rw [← ed_sm_add]
  exact ed_sm_congr (fun i _ => by grind)
theorem ed_va_sub {K : Type} [Lean.Grind.CommRing K] (p q : Nat → K) (n : Nat) (x : K) : ed_va (fun i => p i - q i) n x = ed_va p n x - ed_va q n x := by
  unfold ed_va
  rw [← ed_sm_sub]
  exact ed_sm_congr (fun i _ => by grind)
theorem ed_va_mul {K : Type} [Lean.Grind.CommRing K] (c : K) (p : Nat → K) (n : Nat) (x : K) : ed_va (fun i => c * p i) n x = c * ed_va p n x := by
  unfold ed_va
  rw [← ed_sm_mul]
  exact ed_sm_congr (fun i _ => by grind)
theorem ed_va_z {K : Type} [Lean.Grind.CommRing K] {p : Nat → K} {n : Nat} (x : K) (h : ∀ i, i < n → p i = 0) : ed_va p n x = 0 :=
  ed_sm_z (fun i hi => by rw [h i hi]; grind)
