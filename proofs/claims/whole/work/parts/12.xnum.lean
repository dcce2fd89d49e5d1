/-! X: the small methods on numbers -/
theorem ed_xTy {post : Int32 → Prop} {j : Nat} (hj : j < 4) (h : post 1) : wpX_isTable post (nI j) :=
  br_f (nI_pos (by omega)) (br_f (nI_ge (b := 4) hj (by decide)) h)
theorem ed_xTn {post : Int32 → Prop} {x : Int32} (hx : x < 0 ∨ nI 4 ≤ x) (h : post 0) : wpX_isTable post x := by
  by_cases c : x < 0
  · exact br_t c h
  · exact br_f c (br_t (hx.resolve_left c) h)
theorem ed_side (x : Int32) : (x < 1 ∨ 16 < x) ∨ ∃ s : Nat, 1 ≤ s ∧ s ≤ 16 ∧ x = nI s := by
  by_cases c : x < 1
  · exact Or.inl (Or.inl c)
  · by_cases d : 16 < x
    · exact Or.inl (Or.inr d)
    · have h1 : (1 : Int32).toInt = 1 := by decide
      have h16 : (16 : Int32).toInt = 16 := by decide
      rw [Int32.lt_iff_toInt_lt, h1] at c
      rw [Int32.lt_iff_toInt_lt, h16] at d
      refine Or.inr ⟨x.toInt.toNat, by omega, by omega, Int32.toInt_inj.mp ?_⟩
      rw [nI_toInt (by omega)]
      omega
theorem ed_xSy {post : Int32 → Prop} {s : Nat} (h1 : 1 ≤ s) (h2 : s ≤ 16) (h : post 1) : wpX_isSide post (nI s) :=
  br_f (nI_nlt (b := 1) h1 (by omega)) (br_f (nI_nlt (a := 16) h2 (by decide)) h)
theorem ed_xSn {post : Int32 → Prop} {x : Int32} (hx : x < 1 ∨ 16 < x) (h : post 0) : wpX_isSide post x := by
  by_cases c : x < 1
  · exact br_t c h
  · exact br_f c (br_t (hx.resolve_left c) h)
theorem ed_xEl {post : Int32 → Prop} (x : Int32) (h : post (ed_I (ed_Z x.toInt))) : wpX_element post x := by
  have e : (x - x / 1014773761 * 1014773761).toInt = x.toInt.tmod 1014773761 := by rw [rem_toInt, ed_cP32]
  have b := tmod_bounds (a := x.toInt) (M := 1014773761) (by decide)
  have d := Int.tmod_add_mul_tdiv x.toInt 1014773761
  have z0 : (0 : Int32).toInt = 0 := by decide
  refine ⟨by decide, nm_e (br_c (fun c => ?_) (fun c => ?_))⟩
  · rw [Int32.le_iff_toInt_le, z0, e] at c
    rw [ed_I_of (x := x - x / 1014773761 * 1014773761) (z := x.toInt) (by rw [e]; omega)]
    exact h
  · rw [Int32.le_iff_toInt_le, z0, e] at c
    have e2 : (x - x / 1014773761 * 1014773761 + 1014773761).toInt = x.toInt.tmod 1014773761 + 1014773761 := by
      rw [Jvm.Kit.i32_add (by rw [e, ed_cP32]; omega) (by rw [e, ed_cP32]; omega), e, ed_cP32]
    rw [ed_I_of (x := x - x / 1014773761 * 1014773761 + 1014773761) (z := x.toInt) (by rw [e2]; omega)]
    exact h
theorem ed_rg_pm {K : Type} [Lean.Grind.CommRing K] (x y z : K) : x + (-y) * z = x - y * z := by grind
theorem ed_rg_pn {K : Type} [Lean.Grind.CommRing K] (x y z : K) : x + y * (-z) = x - y * z := by grind
theorem ed_rg_nm {K : Type} [Lean.Grind.CommRing K] (y z : K) : (-y) * z = -(y * z) := by grind
theorem ed_xPro {post : Int32 → Prop} (a b : ed_K) (h : post (ed_I (a * b))) : wpX_product post (ed_I a) (ed_I b) :=
  ⟨by decide, by rw [ed_prodI]; exact h⟩
theorem ed_xPrm {post : Int32 → Prop} (a b : ed_K) (h : post (ed_I (-(a * b)))) : wpX_product post (1014773761 - ed_I a) (ed_I b) :=
  ⟨by decide, by rw [ed_prod _ _ (ed_Pm0 a) (ed_I0 b), ed_ZPm, ed_ZI, ed_rg_nm]; exact h⟩
theorem ed_xPrn {post : Int32 → Prop} (a b : ed_K) (h : post (ed_I (a * (-b)))) : wpX_product post (ed_I a) (1014773761 - ed_I b) :=
  ⟨by decide, by rw [ed_prod _ _ (ed_I0 a) (ed_Pm0 b), ed_ZPm, ed_ZI]; exact h⟩
theorem ed_xPP {post : Int32 → Prop} (a b c : ed_K) (h : post (ed_I (a + b * c))) : wpX_plusProduct post (ed_I a) (ed_I b) (ed_I c) :=
  ⟨by decide, by rw [ed_pp _ _ _ (ed_I0 a) (ed_I0 b) (ed_I0 c), ed_ZI, ed_ZI, ed_ZI]; exact h⟩
theorem ed_xPPm {post : Int32 → Prop} (a b c : ed_K) (h : post (ed_I (a - b * c))) : wpX_plusProduct post (ed_I a) (1014773761 - ed_I b) (ed_I c) :=
  ⟨by decide, by rw [ed_pp _ _ _ (ed_I0 a) (ed_Pm0 b) (ed_I0 c), ed_ZPm, ed_ZI, ed_ZI, ed_rg_pm]; exact h⟩
theorem ed_xPPn {post : Int32 → Prop} (a b c : ed_K) (h : post (ed_I (a - b * c))) : wpX_plusProduct post (ed_I a) (ed_I b) (1014773761 - ed_I c) :=
  ⟨by decide, by rw [ed_pp _ _ _ (ed_I0 a) (ed_I0 b) (ed_Pm0 c), ed_ZPm, ed_ZI, ed_ZI, ed_rg_pn]; exact h⟩
theorem ed_xDif {post : Int32 → Prop} (a b : ed_K) (h : post (ed_I (a - b))) : wpX_difference post (ed_I a) (ed_I b) := by
  have a1 := a.isLt
  have b1 := b.isLt
  have e : (ed_I a - ed_I b).toInt = (a.val : Int) - (b.val : Int) := by
    rw [Jvm.Kit.i32_sub (by rw [ed_It, ed_It]; omega) (by rw [ed_It, ed_It]; omega), ed_It, ed_It]
  have z : ed_Z ((a.val : Int) - (b.val : Int)) = a - b := by rw [ed_Z_sub, ed_Z_v, ed_Z_v]
  refine br_c (fun c => ?_) (fun c => ?_)
  · rw [Int32.le_iff_toInt_le, ed_It, ed_It] at c
    rw [ed_I_of (x := ed_I a - ed_I b) (z := (a.val : Int) - (b.val : Int)) (by rw [e]; omega), z]
    exact h
  · rw [Int32.le_iff_toInt_le, ed_It, ed_It] at c
    have e2 : (ed_I a - ed_I b + 1014773761).toInt = (a.val : Int) - (b.val : Int) + 1014773761 := by
      rw [Jvm.Kit.i32_add (by rw [e, ed_cP32]; omega) (by rw [e, ed_cP32]; omega), e, ed_cP32]
    rw [ed_I_of (x := ed_I a - ed_I b + 1014773761) (z := (a.val : Int) - (b.val : Int)) (by rw [e2]; omega), z]
    exact h
theorem ed_xPow5 {post : Int32 → Prop} {a : ed_K} {e : Nat} (he : e < 2 ^ 30) : ∀ b n : Nat, b ≤ 30 → b < n → post (ed_I (ed_pw a e)) → wX_power_5 post (ed_I a) (nI e) n (ed_I (ed_pw a (e / 2 ^ b))) (nI b + (-1)) := by
  intro b
  induction b with
  | zero =>
    intro n _ hn k
    obtain ⟨m, rfl⟩ : ∃ m, n = m + 1 := ⟨n - 1, by omega⟩
    rw [wX_power_5, Nat.pow_zero, Nat.div_one]
    exact br_t (by decide) k
  | succ b ih =>
    intro n hb hn k
    obtain ⟨m, rfl⟩ : ∃ m, n = m + 1 := ⟨n - 1, by omega⟩
    rw [pk_m1, wX_power_5]
    refine br_f (nI_pos (by omega)) (ed_xPro _ _ ?_)
    rw [ed_shb he (by omega)]
    by_cases c : e / 2 ^ b % 2 = 1
    · refine br_t (by rw [c]; rfl) (ed_xPro _ _ (nm_e ?_))
      rw [← ed_bit1 a c]
      exact ih m (by omega) (by omega) k
    · refine br_f (fun z => c ((nI_eq (b := 1) (by omega) (by decide)).mp z)) (nm_e ?_)
      rw [← ed_bit0 a c]
      exact ih m (by omega) (by omega) k
theorem ed_xPow {post : Int32 → Prop} (a : ed_K) {e : Nat} (he : e < 2 ^ 30) (h : post (ed_I (ed_pw a e))) : wpX_power post (ed_I a) (nI e) := by
  have k := ed_xPow5 (a := a) he 30 31 (by omega) (by omega) h
  rw [Nat.div_eq_of_lt he, ed_pw0, ed_I_1] at k
  exact ⟨31, k⟩
theorem ed_xInv {post : Int32 → Prop} (a : ed_K) (h : post (ed_I (ed_iv a))) : wpX_inverse post (ed_I a) :=
  ed_xPow (post := fun r => post r) a (e := 1014773759) (by decide) h
theorem ed_cN : (1014773760 : Int64).toInt = 1014773760 := by decide +kernel
theorem ed_17 : (17 : Int32) = ed_I (17 : ed_K) := by decide +kernel
theorem ed_xPog {post : Int32 → Prop} (x : Int64) (h : post (ed_I (ed_gz x.toInt))) : wpX_powerOfG post x := by
  have e : (x - x / 1014773760 * 1014773760).toInt = x.toInt.tmod 1014773760 := by rw [Jvm.Kit.i64_rem, ed_cN]
  have b := tmod_bounds (a := x.toInt) (M := 1014773760) (by decide)
  have d := Int.tmod_add_mul_tdiv x.toInt 1014773760
  have z0 : (0 : Int32).toInt = 0 := by decide
  have c1 : (1014773761 : Int32).toInt = 1014773761 := ed_cP32
  have c2 : (1 : Int32).toInt = 1 := by decide
  have e1 : (x - x / 1014773760 * 1014773760).toInt32.toInt = x.toInt.tmod 1014773760 := by rw [Jvm.Kit.i32_of_i64 (by omega) (by omega), e]
  have key : ∀ y : Int32, y.toInt = x.toInt % 1014773760 → wpX_power (fun r => post r) 17 y := fun y hy => by
    have hy2 : y = nI (x.toInt % 1014773760).toNat := Int32.toInt_inj.mp (by rw [hy, nI_toInt (by omega)]; omega)
    rw [hy2, ed_17]
    exact ed_xPow (post := fun r => post r) 17 (by omega) h
  refine ⟨by decide, nm_e (br_c (fun c => ?_) (fun c => ?_))⟩
  · rw [Int32.le_iff_toInt_le, z0, e1] at c
    exact key _ (by rw [e1]; omega)
  · rw [Int32.le_iff_toInt_le, z0, e1] at c
    have e2 : ((x - x / 1014773760 * 1014773760).toInt32 + 1014773761).toInt = x.toInt.tmod 1014773760 + 1014773761 := by
      rw [Jvm.Kit.i32_add (by rw [e1, c1]; omega) (by rw [e1, c1]; omega), e1, c1]
    exact key _ (by rw [Jvm.Kit.i32_sub (by rw [e2, c2]; omega) (by rw [e2, c2]; omega), e2, c2]; omega)
