/-! bits of exponents, places of cells -/
theorem ed_s_l : ∀ n, n < 32 → ((nI n &&& 31).toBitVec.smod 32).toNat = n := by decide +kernel
theorem ed_shb {e b : Nat} (he : e < 2 ^ 30) (hb : b < 32) : (nI e >>> (nI b &&& 31)) &&& 1 = nI (e / 2 ^ b % 2) := by
  have h : e / 2 ^ b ≤ e := Nat.div_le_self _ _
  rw [pk_shrN (by omega) _ b (ed_s_l b hb), pk_andN (by omega) 1 (by decide)]
theorem ed_shl {e k : Nat} (he : e < 2 ^ 30) (hk : k < 64) : (lN e >>> ((nI k).toInt64 &&& 63)) &&& 1 = lN (e / 2 ^ k % 2) := by
  have h : e / 2 ^ k ≤ e := Nat.div_le_self _ _
  rw [wb_c k hk, pf_shr (d := k) (by rw [wb_tb, wb_sm k hk, BitVec.toNat_ofNat]; exact Nat.mod_eq_of_lt (by omega)) (by omega), wb_a1 (by omega)]
theorem ed_ix (v i : Nat) : nI v * 48 + nI i = nI (v * 48 + i) := by
  rw [show (48 : Int32) = nI 48 from rfl, pk_mul, nI_add]
theorem ed_iy (v i : Nat) : 48 * nI v + nI i = nI (v * 48 + i) := by
  rw [show (48 : Int32) = nI 48 from rfl, pk_mul, nI_add, Nat.mul_comm]
theorem ed_ix0 (v : Nat) : nI v * 48 = nI (v * 48) := by
  rw [show (48 : Int32) = nI 48 from rfl, pk_mul]
theorem ed_iy0 (v : Nat) : 48 * nI v = nI (v * 48) := by
  rw [show (48 : Int32) = nI 48 from rfl, pk_mul, Nat.mul_comm]
/-- a number of a table, or none -/
theorem ed_tb (x : Int32) : x < 0 ∨ nI 4 ≤ x ∨ ∃ j : Nat, j < 4 ∧ x = nI j := pk_ix x (by decide)
