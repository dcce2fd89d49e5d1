/-! Y: the small methods on numbers -/
theorem ed_yMod {post : Int32 → Prop} (x : Int64) {z : ed_K} (hz : ed_Z x.toInt = z) (h : post (ed_I z)) : wpY_mod post x := by
  refine ⟨by decide, nm_e (br_c (fun c => ?_) (fun c => ?_))⟩
  · rw [(ed_remP x).1 (Int64.not_lt.mpr c), hz]
    exact h
  · rw [(ed_remP x).2 (Int64.not_le.mp c), hz]
    exact h
theorem ed_yPro {post : Int32 → Prop} (a b : ed_K) (h : post (ed_I (a * b))) : wpY_product post (ed_I a) (ed_I b) :=
  nm_e (ed_yMod (post := fun r => post r) _ (by rw [(ed_mul64 _ _).1, ed_Z_mul, ed_ZI, ed_ZI]) h)
theorem ed_yPow27 {post : Int32 → Prop} {a : ed_K} {e : Nat} (he : e < 2 ^ 30) : ∀ n k : Nat, 30 < n + k → k ≤ 30 → post (ed_I (ed_pw a (e % 2 ^ 30))) → wY_power_27 post (lN e) n (ed_I (ed_pw a (e % 2 ^ k))) (ed_I (ed_pw a (2 ^ k))) (nI k) := by
  intro n
  induction n with
  | zero => intro k h1 h2; omega
  | succ n ih =>
    intro k h1 h2 hp
    rw [wY_power_27]
    by_cases e0 : k = 30
    · subst e0
      exact br_t (by decide) hp
    · refine br_f (nI_ge (b := 30) (by omega) (by decide)) ?_
      rw [ed_shl he (by omega)]
      by_cases c : e / 2 ^ k % 2 = 0
      · refine br_t (by rw [c]; rfl) (ed_yPro _ _ (nm_r (nI_1 k) ?_))
        rw [← ed_sqr, ← ed_low0 a c]
        exact ih (k + 1) (by omega) (by omega) hp
      · refine br_f (fun z => c ((pk_lEQ (b := 0) (by omega) (by decide)).mp z)) (ed_yPro _ _ (ed_yPro _ _ (nm_r (nI_1 k) ?_)))
        rw [← ed_sqr, ← ed_low1 a c]
        exact ih (k + 1) (by omega) (by omega) hp
theorem ed_yPow {post : Int32 → Prop} (a : ed_K) (x : Int64) (h : post (ed_I (ed_pw a (x.toInt % 1014773760).toNat))) : wpY_power post (ed_I a) x := by
  have e : (x - x / 1014773760 * 1014773760).toInt = x.toInt.tmod 1014773760 := by rw [Jvm.Kit.i64_rem, ed_cN]
  have b := tmod_bounds (a := x.toInt) (M := 1014773760) (by decide)
  have d := Int.tmod_add_mul_tdiv x.toInt 1014773760
  have z0 : (0 : Int64).toInt = 0 := by decide
  have key : ∀ y : Int64, y.toInt = x.toInt % 1014773760 → ∃ n, wY_power_27 post y n 1 (ed_I a) 0 := fun y hy => by
    have hm : (x.toInt % 1014773760).toNat < 2 ^ 30 := by omega
    have hy2 : y = lN (x.toInt % 1014773760).toNat := Int64.toInt_inj.mp (by rw [hy, pk_lT (by omega)]; omega)
    rw [hy2]
    generalize (x.toInt % 1014773760).toNat = m at hm h
    have k := ed_yPow27 (post := post) (a := a) hm 31 0 (by omega) (by omega) (by rw [Nat.mod_eq_of_lt hm]; exact h)
    rw [Nat.pow_zero, Nat.mod_one, ed_pw0, ed_pw1, ed_I_1] at k
    exact ⟨31, k⟩
  refine ⟨by decide, nm_e (br_c (fun c => ?_) (fun c => nm_e ?_))⟩
  · rw [Int64.le_iff_toInt_le, z0, e] at c
    exact key _ (by rw [e]; omega)
  · rw [Int64.le_iff_toInt_le, z0, e] at c
    exact key _ (by rw [Jvm.Kit.i64_add (by rw [e, ed_cN]; omega) (by rw [e, ed_cN]; omega), e, ed_cN]; omega)
theorem ed_yQuo {post : Int32 → Prop} (a b : ed_K) (h : post (ed_I (a * ed_iv b))) : wpY_quotient post (ed_I a) (ed_I b) := by
  have e : ((-1 : Int64).toInt % 1014773760).toNat = 1014773759 := by decide +kernel
  refine ed_yPow (post := fun r_1 => wpY_product (fun r_2 => post r_2) (ed_I a) r_1) b (-1) ?_
  rw [e]
  exact ed_yPro (post := fun r_2 => post r_2) a (ed_iv b) h
