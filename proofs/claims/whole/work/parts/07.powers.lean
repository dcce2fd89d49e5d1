/-! powers by bits, powers of 17 with any exponent, sums over a grid -/
theorem ed_half (e b : Nat) : e / 2 ^ (b + 1) = e / 2 ^ b / 2 := by rw [Nat.pow_succ, Nat.div_div_eq_div_mul]
theorem ed_bit1 {K : Type} [Lean.Grind.CommRing K] (a : K) {e b : Nat} (h : e / 2 ^ b % 2 = 1) : ed_pw a (e / 2 ^ b) = ed_pw a (e / 2 ^ (b + 1)) * ed_pw a (e / 2 ^ (b + 1)) * a := by
  rw [ed_half]
  generalize e / 2 ^ b = m at h
  have e1 : m = m / 2 + m / 2 + 1 := by omega
  have e2 : ed_pw a m = ed_pw a (m / 2 + m / 2 + 1) := congrArg _ e1
  rw [e2, ed_pwS, ed_pw_add]
theorem ed_bit0 {K : Type} [Lean.Grind.CommRing K] (a : K) {e b : Nat} (h : e / 2 ^ b % 2 ≠ 1) : ed_pw a (e / 2 ^ b) = ed_pw a (e / 2 ^ (b + 1)) * ed_pw a (e / 2 ^ (b + 1)) := by
  rw [ed_half]
  generalize e / 2 ^ b = m at h
  have e1 : m = m / 2 + m / 2 := by omega
  have e2 : ed_pw a m = ed_pw a (m / 2 + m / 2) := congrArg _ e1
  rw [e2, ed_pw_add]
theorem ed_low1 {K : Type} [Lean.Grind.CommRing K] (a : K) {e b : Nat} (h : e / 2 ^ b % 2 ≠ 0) : ed_pw a (e % 2 ^ (b + 1)) = ed_pw a (e % 2 ^ b) * ed_pw a (2 ^ b) := by
  rw [Nat.pow_succ, Nat.mod_mul, show e / 2 ^ b % 2 = 1 by omega, Nat.mul_one, ed_pw_add]
theorem ed_low0 {K : Type} [Lean.Grind.CommRing K] (a : K) {e b : Nat} (h : e / 2 ^ b % 2 = 0) : ed_pw a (e % 2 ^ (b + 1)) = ed_pw a (e % 2 ^ b) := by
  rw [Nat.pow_succ, Nat.mod_mul, h, Nat.mul_zero, Nat.add_zero]
theorem ed_sqr {K : Type} [Lean.Grind.CommRing K] (a : K) (b : Nat) : ed_pw a (2 ^ (b + 1)) = ed_pw a (2 ^ b) * ed_pw a (2 ^ b) := by
  rw [Nat.pow_succ, Nat.mul_two, ed_pw_add]
/-- exponents modulo N, where g^N = 1 -/
theorem ed_pw_mod {K : Type} [Lean.Grind.CommRing K] (g : K) (N : Nat) (hN : ed_pw g N = 1) (e : Nat) : ed_pw g (e % N) = ed_pw g e := by
  have h : ed_pw g e = ed_pw g (e % N + N * (e / N)) := by rw [Nat.mod_add_div]
  rw [h, ed_pw_add, ed_pw_mul, hN, ed_pw_one]
  grind
def ed_gz (z : Int) : ed_K := ed_pw (17 : ed_K) (z % 1014773760).toNat
theorem ed_gz_n (e : Nat) : ed_gz (e : Int) = ed_pw (17 : ed_K) e := by
  unfold ed_gz
  rw [show ((e : Int) % 1014773760).toNat = e % 1014773760 by omega]
  exact ed_pw_mod (17 : ed_K) 1014773760 ed_go1 e
theorem ed_gz_c {y z : Int} (h : y % 1014773760 = z % 1014773760) : ed_gz y = ed_gz z := by
  unfold ed_gz
  rw [h]
theorem ed_gz_mul (j : Nat) (z : Int) : ed_gz ((j : Int) * z) = ed_pw (ed_gz z) j := by
  have h : ed_gz ((j : Int) * z) = ed_gz (((z % 1014773760).toNat * j : Nat) : Int) := by
    apply ed_gz_c
    have e : (((z % 1014773760).toNat : Nat) : Int) = z % 1014773760 := by omega
    have e2 : ((z % 1014773760) * (j : Int)) % 1014773760 = (z * (j : Int)) % 1014773760 := by
      rw [Int.mul_emod (z % 1014773760) (j : Int) 1014773760, Int.emod_emod, ← Int.mul_emod]
    rw [Int.natCast_mul, e, e2, Int.mul_comm]
  rw [h, ed_gz_n, ed_pw_mul]
  rfl
theorem ed_sm_grid {K : Type} [Lean.Grind.CommRing K] (f : Nat → K) (r s : Nat) : ed_sm f (r * s) = ed_sm (fun i => ed_sm (fun j => f (i * s + j)) s) r := by
  induction r with
  | zero => rw [Nat.zero_mul, ed_sm0, ed_sm0]
  | succ r ih => rw [Nat.succ_mul, ed_sm_split, ih, ed_smS]
/-- a step of X's and of Y's sums -/
theorem ed_sm_va {K : Type} [Lean.Grind.CommRing K] (p : Nat → K) (x : K) (n : Nat) : ed_va p n x = ed_sm (fun j => p j * ed_pw x j) n := rfl
/-- the element of n -/
def ed_N (n : Nat) : ed_K := ed_Z (n : Int)
theorem ed_nI (n : Nat) (h : n < 1014773761) : nI n = ed_I (ed_N n) := by
  apply Int32.toInt_inj.mp
  rw [ed_It, show ((ed_N n).val : Int) = (n : Int) % 1014773761 from ed_Zv n, nI_toInt (by omega)]
  omega
