/-! ints and longs as elements -/
def ed_Z (z : Int) : ed_K := ⟨(z % 1014773761).toNat, by omega⟩
def ed_I (a : ed_K) : Int32 := nI a.val
theorem ed_Zv (z : Int) : ((ed_Z z).val : Int) = z % 1014773761 := by
  show (((z % 1014773761).toNat : Nat) : Int) = z % 1014773761
  omega
theorem ed_Ke {a b : ed_K} (h : (a.val : Int) = (b.val : Int)) : a = b := Fin.ext (by omega)
theorem ed_Z_add (a b : Int) : ed_Z (a + b) = ed_Z a + ed_Z b := by
  apply ed_Ke
  rw [ed_Zv, Fin.val_add]
  have h1 := ed_Zv a
  have h2 := ed_Zv b
  omega
theorem ed_Z_mul (a b : Int) : ed_Z (a * b) = ed_Z a * ed_Z b := by
  apply ed_Ke
  rw [ed_Zv, Fin.val_mul, Int.mul_emod, ← ed_Zv a, ← ed_Zv b, ← Int.natCast_mul]
  generalize (ed_Z a).val * (ed_Z b).val = w
  omega
theorem ed_Z_0 : ed_Z 0 = 0 := by decide +kernel
theorem ed_Z_1 : ed_Z 1 = 1 := by decide +kernel
theorem ed_rg_neg {K : Type} [Lean.Grind.CommRing K] {x y : K} (h : x + y = 0) : x = - y := by grind
theorem ed_rg_sub {K : Type} [Lean.Grind.CommRing K] {x y z : K} (h : x + y = z) : x = z - y := by grind
theorem ed_rg_0s {K : Type} [Lean.Grind.CommRing K] (x : K) : 0 - x = - x := by grind
theorem ed_Z_neg (a : Int) : ed_Z (-a) = - ed_Z a := by
  apply ed_rg_neg
  rw [← ed_Z_add, Int.add_left_neg, ed_Z_0]
theorem ed_Z_sub (a b : Int) : ed_Z (a - b) = ed_Z a - ed_Z b := by
  apply ed_rg_sub
  rw [← ed_Z_add, Int.sub_add_cancel]
theorem ed_Z_v (a : ed_K) : ed_Z (a.val : Int) = a := by
  apply ed_Ke
  rw [ed_Zv]
  have := a.isLt
  omega
theorem ed_Z_P : ed_Z 1014773761 = 0 := by decide +kernel
theorem ed_It (a : ed_K) : (ed_I a).toInt = (a.val : Int) := nI_toInt (by have := a.isLt; omega)
theorem ed_I0 (a : ed_K) : 0 ≤ (ed_I a).toInt := by rw [ed_It]; omega
theorem ed_IP (a : ed_K) : (ed_I a).toInt < 1014773761 := by
  rw [ed_It]
  have := a.isLt
  omega
theorem ed_ZI (a : ed_K) : ed_Z (ed_I a).toInt = a := by rw [ed_It, ed_Z_v]
theorem ed_Ii {a b : ed_K} (h : ed_I a = ed_I b) : a = b := by rw [← ed_ZI a, h, ed_ZI]
theorem ed_I_of {x : Int32} {z : Int} (h : x.toInt = z % 1014773761) : x = ed_I (ed_Z z) := by
  apply Int32.toInt_inj.mp
  rw [ed_It, ed_Zv, h]
theorem ed_I_0 : ed_I 0 = 0 := by decide +kernel
theorem ed_I_1 : ed_I 1 = 1 := by decide +kernel
theorem ed_I_z (a : ed_K) : ed_I a = 0 ↔ a = 0 := ⟨fun h => ed_Ii (h.trans ed_I_0.symm), fun h => by rw [h, ed_I_0]⟩
theorem ed_cP : (1014773761 : Int64).toInt = 1014773761 := by decide +kernel
theorem ed_cP32 : (1014773761 : Int32).toInt = 1014773761 := by decide +kernel
theorem ed_cPl : (1014773761 : Int32).toInt64 = 1014773761 := by decide +kernel
/-- the remainder of a long that isn't negative, as an int -/
theorem ed_rem0 (x : Int64) (h : 0 ≤ x.toInt) : (x - x / 1014773761 * 1014773761).toInt32 = ed_I (ed_Z x.toInt) := by
  have e : (x - x / 1014773761 * 1014773761).toInt = x.toInt % 1014773761 := by rw [Jvm.Kit.i64_rem_nonneg h, ed_cP]
  apply ed_I_of
  rw [Jvm.Kit.i32_of_i64 (by omega) (by omega), e]
/-- the remainder of any long, P added where it is negative -/
theorem ed_remP (x : Int64) : (¬ (x - x / 1014773761 * 1014773761) < 0 → (x - x / 1014773761 * 1014773761).toInt32 = ed_I (ed_Z x.toInt)) ∧ ((x - x / 1014773761 * 1014773761) < 0 → (x - x / 1014773761 * 1014773761 + 1014773761).toInt32 = ed_I (ed_Z x.toInt)) := by
  have e : (x - x / 1014773761 * 1014773761).toInt = x.toInt.tmod 1014773761 := by rw [Jvm.Kit.i64_rem, ed_cP]
  have b := tmod_bounds (a := x.toInt) (M := 1014773761) (by decide)
  have d := Int.tmod_add_mul_tdiv x.toInt 1014773761
  have z0 : (0 : Int64).toInt = 0 := by decide
  constructor
  · intro h
    rw [Int64.lt_iff_toInt_lt, z0, e] at h
    apply ed_I_of
    rw [Jvm.Kit.i32_of_i64 (by omega) (by omega), e]
    omega
  · intro h
    rw [Int64.lt_iff_toInt_lt, z0, e] at h
    have e2 : (x - x / 1014773761 * 1014773761 + 1014773761).toInt = x.toInt.tmod 1014773761 + 1014773761 := by
      rw [Jvm.Kit.i64_add (by rw [e, ed_cP]; omega) (by rw [e, ed_cP]; omega), e, ed_cP]
    apply ed_I_of
    rw [Jvm.Kit.i32_of_i64 (by omega) (by omega), e2]
    omega
theorem ed_mul64 (x y : Int32) : (x.toInt64 * y.toInt64).toInt = x.toInt * y.toInt ∧ -4611686018427387904 ≤ x.toInt * y.toInt ∧ x.toInt * y.toInt ≤ 4611686018427387904 := by
  have a := x.le_toInt
  have b := x.toInt_lt
  have c := y.le_toInt
  have d := y.toInt_lt
  have h : (x.toInt * y.toInt).natAbs ≤ 2147483648 * 2147483648 := by
    rw [Int.natAbs_mul]
    exact Nat.mul_le_mul (by omega) (by omega)
  have h2 : -4611686018427387904 ≤ x.toInt * y.toInt ∧ x.toInt * y.toInt ≤ 4611686018427387904 := by omega
  refine ⟨?_, h2⟩
  rw [Jvm.Kit.i64_mul (by rw [Jvm.Kit.i64_of_i32, Jvm.Kit.i64_of_i32]; omega) (by rw [Jvm.Kit.i64_of_i32, Jvm.Kit.i64_of_i32]; omega), Jvm.Kit.i64_of_i32, Jvm.Kit.i64_of_i32]
theorem ed_nn {a b : Int} (ha : 0 ≤ a) (hb : 0 ≤ b) : 0 ≤ a * b := Int.mul_nonneg ha hb
/-- P - a, the int: its element is - a -/
theorem ed_PmI (a : ed_K) : (1014773761 - ed_I a).toInt = 1014773761 - (a.val : Int) := by
  have := a.isLt
  rw [Jvm.Kit.i32_sub (by rw [ed_It, ed_cP32]; omega) (by rw [ed_It, ed_cP32]; omega), ed_It, ed_cP32]
theorem ed_ZPm (a : ed_K) : ed_Z (1014773761 - ed_I a).toInt = - a := by
  rw [ed_PmI, ed_Z_sub, ed_Z_P, ed_Z_v]
  exact ed_rg_0s a
theorem ed_Pm0 (a : ed_K) : 0 ≤ (1014773761 - ed_I a).toInt := by
  rw [ed_PmI]
  have := a.isLt
  omega
/-- what X's product answers -/
theorem ed_prod (x y : Int32) (hx : 0 ≤ x.toInt) (hy : 0 ≤ y.toInt) : (x.toInt64 * y.toInt64 - x.toInt64 * y.toInt64 / 1014773761 * 1014773761).toInt32 = ed_I (ed_Z x.toInt * ed_Z y.toInt) := by
  have h := ed_mul64 x y
  rw [ed_rem0 _ (by rw [h.1]; exact ed_nn hx hy), h.1, ed_Z_mul]
theorem ed_prodI (a b : ed_K) : ((ed_I a).toInt64 * (ed_I b).toInt64 - (ed_I a).toInt64 * (ed_I b).toInt64 / 1014773761 * 1014773761).toInt32 = ed_I (a * b) := by
  rw [ed_prod _ _ (ed_I0 a) (ed_I0 b), ed_ZI, ed_ZI]
/-- what X's plusProduct answers -/
theorem ed_pp (x y z : Int32) (hx : 0 ≤ x.toInt) (hy : 0 ≤ y.toInt) (hz : 0 ≤ z.toInt) : (x.toInt64 + y.toInt64 * z.toInt64 - (x.toInt64 + y.toInt64 * z.toInt64) / 1014773761 * 1014773761).toInt32 = ed_I (ed_Z x.toInt + ed_Z y.toInt * ed_Z z.toInt) := by
  have h := ed_mul64 y z
  have a := x.toInt_lt
  have n := ed_nn hy hz
  have e : (x.toInt64 + y.toInt64 * z.toInt64).toInt = x.toInt + y.toInt * z.toInt := by
    rw [Jvm.Kit.i64_add (by rw [h.1, Jvm.Kit.i64_of_i32]; omega) (by rw [h.1, Jvm.Kit.i64_of_i32]; omega), h.1, Jvm.Kit.i64_of_i32]
  rw [ed_rem0 _ (by rw [e]; omega), e, ed_Z_add, ed_Z_mul]
