/-! what the calls make of the tables, and long sums -/
def ed_w (n : Nat) (back : Bool) : ed_K := if back then ed_pw (17 : ed_K) (1014773760 - 1014773760 / n) else ed_pw (17 : ed_K) (1014773760 / n)
/-- a line of n elements transformed -/
def ed_tr (n : Nat) (back : Bool) (l : Nat → ed_K) (k : Nat) : ed_K := ed_sm (fun j => l j * ed_pw (ed_w n back) (j * k)) n * (if back then ed_iv (ed_N n) else 1)
theorem ed_tr_x (n : Nat) (back : Bool) (l : Nat → ed_K) (k : Nat) : ed_tr n back l k = ed_va l n (ed_pw (ed_w n back) k) * (if back then ed_iv (ed_N n) else 1) := by
  unfold ed_tr ed_va
  congr 1
  exact ed_sm_congr (fun j _ => by rw [Nat.mul_comm j k, ed_pw_mul])
theorem ed_tr_cg {n : Nat} {back : Bool} {l l' : Nat → ed_K} (h : ∀ j, j < n → l j = l' j) (k : Nat) : ed_tr n back l k = ed_tr n back l' k := by
  unfold ed_tr
  congr 1
  exact ed_sm_congr (fun j hj => by rw [h j hj])
/-- Y's root: the exponent (P - 1) / n, or its negative -/
theorem ed_w_y (n : Nat) (hn : 1 ≤ n) (back : Bool) : ed_gz (((1014773760 / n : Nat) : Int) * (if back then -1 else 1)) = ed_w n back := by
  have hle : 1014773760 / n ≤ 1014773760 := Nat.div_le_self _ _
  unfold ed_w
  cases back with
  | true =>
    show ed_gz (((1014773760 / n : Nat) : Int) * (-1)) = ed_pw (17 : ed_K) (1014773760 - 1014773760 / n)
    rw [← ed_gz_n]
    apply ed_gz_c
    generalize 1014773760 / n = m at hle
    omega
  | false =>
    show ed_gz (((1014773760 / n : Nat) : Int) * 1) = ed_pw (17 : ed_K) (1014773760 / n)
    rw [Int.mul_one, ed_gz_n]
/-- a long that holds a sum of j ints of elements, up to the sign -/
def ed_Ac (S : Int64) (j : Nat) (x : ed_K) : Prop := ed_Z S.toInt = x ∧ -((j : Int) * 1014773761) ≤ S.toInt ∧ S.toInt ≤ (j : Int) * 1014773761
theorem ed_Ac0 : ed_Ac 0 0 0 := by
  refine ⟨?_, ?_, ?_⟩ <;> decide +kernel
theorem ed_AcS {S : Int64} {j : Nat} {x : ed_K} (h : ed_Ac S j x) (hj : j < 1000) (a : ed_K) : ed_Ac (S + (ed_I a).toInt64) (j + 1) (x + a) := by
  obtain ⟨h1, h2, h3⟩ := h
  have b := ed_I0 a
  have c := ed_IP a
  have e : (S + (ed_I a).toInt64).toInt = S.toInt + (ed_I a).toInt := by
    rw [Jvm.Kit.i64_add (by rw [Jvm.Kit.i64_of_i32]; omega) (by rw [Jvm.Kit.i64_of_i32]; omega), Jvm.Kit.i64_of_i32]
  refine ⟨by rw [e, ed_Z_add, h1, ed_ZI], by rw [e]; omega, by rw [e]; omega⟩
theorem ed_AcM {S : Int64} {j : Nat} {x : ed_K} (h : ed_Ac S j x) (hj : j < 1000) (a : ed_K) : ed_Ac (S - (ed_I a).toInt64) (j + 1) (x - a) := by
  obtain ⟨h1, h2, h3⟩ := h
  have b := ed_I0 a
  have c := ed_IP a
  have e : (S - (ed_I a).toInt64).toInt = S.toInt - (ed_I a).toInt := by
    rw [Jvm.Kit.i64_sub (by rw [Jvm.Kit.i64_of_i32]; omega) (by rw [Jvm.Kit.i64_of_i32]; omega), Jvm.Kit.i64_of_i32]
  refine ⟨by rw [e, ed_Z_sub, h1, ed_ZI], by rw [e]; omega, by rw [e]; omega⟩
theorem ed_AcN {S : Int64} {j : Nat} {x : ed_K} (h : ed_Ac S j x) (hj : j < 1000) (a : ed_K) : ed_Ac (S + (-(ed_I a)).toInt64) (j + 1) (x - a) := by
  obtain ⟨h1, h2, h3⟩ := h
  have b := ed_I0 a
  have c := ed_IP a
  have n : (-(ed_I a)).toInt = -(ed_I a).toInt := Jvm.Kit.i32_neg (by omega)
  have e : (S + (-(ed_I a)).toInt64).toInt = S.toInt - (ed_I a).toInt := by
    rw [Jvm.Kit.i64_add (by rw [Jvm.Kit.i64_of_i32, n]; omega) (by rw [Jvm.Kit.i64_of_i32, n]; omega), Jvm.Kit.i64_of_i32, n]
    omega
  refine ⟨by rw [e, ed_Z_sub, h1, ed_ZI], by rw [e]; omega, by rw [e]; omega⟩
/-- one element of a convolution -/
def ed_cr (kind k i r : Nat) : Nat := if kind = 1 then (k + i) % r else (k + r - i) % r
def ed_cv (r s kind : Nat) (ta tb : Nat → ed_K) (k l : Nat) : ed_K := ed_sm (fun i => ed_sm (fun j => ta (i * s + j) * (if kind = 2 ∧ l < j then - tb (ed_cr kind k i r * s + ed_cr kind l j s) else tb (ed_cr kind k i r * s + ed_cr kind l j s))) s) r
theorem ed_cr_lt (kind k i : Nat) {r : Nat} (h : 0 < r) : ed_cr kind k i r < r := by
  unfold ed_cr
  by_cases c : kind = 1
  · rw [if_pos c]; exact Nat.mod_lt _ h
  · rw [if_neg c]; exact Nat.mod_lt _ h
/-- the reciprocal's coefficients, one after the other -/
def ed_rc (a : Nat → ed_K) (n : Nat) (f : Nat → ed_K) : Prop := (0 < n → f 0 = ed_iv (a 0)) ∧ ∀ k, 0 < k → k < n → f k = ed_iv (a 0) * (- ed_sm (fun i => a (i + 1) * f (k - (i + 1))) k)
theorem ed_rc_u {a : Nat → ed_K} {n : Nat} {f g : Nat → ed_K} (hf : ed_rc a n f) (hg : ed_rc a n g) : ∀ k, k < n → f k = g k := by
  intro k
  induction k using Nat.strongRecOn with
  | ind k ih =>
    intro hk
    by_cases c : k = 0
    · subst c; rw [hf.1 hk, hg.1 hk]
    · rw [hf.2 k (by omega) hk, hg.2 k (by omega) hk]
      have e : ed_sm (fun i => a (i + 1) * f (k - (i + 1))) k = ed_sm (fun i => a (i + 1) * g (k - (i + 1))) k := ed_sm_congr (fun i hi => by rw [ih (k - (i + 1)) (by omega) (by omega)])
      rw [e]
/-- the column from which rotate takes -/
def ed_ro (j : Nat) (b : Int) (n : Nat) : Nat := (((j : Int) + b) % (n : Int)).toNat
theorem ed_ro_lt (j : Nat) (b : Int) {n : Nat} (h : 0 < n) : ed_ro j b n < n := by
  unfold ed_ro
  have h1 := Int.emod_nonneg ((j : Int) + b) (show (n : Int) ≠ 0 by omega)
  have h2 := Int.emod_lt_of_pos ((j : Int) + b) (show 0 < (n : Int) by omega)
  omega
/-- the least length of a recurrence -/
def ed_least (s : Nat → ed_K) (n L : Nat) : Prop := L ≤ n ∧ (∃ q, ed_gen s L q n) ∧ ∀ L2 d, ed_gen s L2 d n → L ≤ L2
theorem ed_least_u {s : Nat → ed_K} {n L L' : Nat} (h : ed_least s n L) (h' : ed_least s n L') : L = L' := by
  obtain ⟨_, ⟨q, a⟩, b⟩ := h
  obtain ⟨_, ⟨q', a'⟩, b'⟩ := h'
  have c := b _ _ a'
  have c' := b' _ _ a
  omega
