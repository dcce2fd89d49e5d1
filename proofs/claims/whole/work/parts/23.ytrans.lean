/-! Y: transform -/
theorem ed_uu (a : Nat → Int32) (k : Nat) (x y : Int32) : upd (upd a k x) k y = upd a k y := by
  funext j
  unfold upd
  by_cases e : j = k
  · rw [if_pos e, if_pos e]
  · rw [if_neg e, if_neg e, if_neg e]
theorem ed_pmod {a : ed_K} {m : Nat} (h : m < 1014773760) {x : Int64} (hx : x.toInt = (m : Int)) : ed_pw a (x.toInt % 1014773760).toNat = ed_pw a m := by
  rw [hx]
  congr 1
  omega
theorem ed_rg_one {K : Type} [Lean.Grind.CommRing K] (x : K) : x * 1 = x := by grind
abbrev ed_J7 : Type := Int32 → (Nat → Int32) → (Nat → Int32) → (Nat → Int32) → (Nat → Int32) → (Nat → Int32) → (Nat → Int32) → (Nat → Int32) → Prop
section
variable {R C : Nat → Nat} {T : Nat → Nat → ed_K} {rr cc ce ma od po sy : Nat → Int32}
theorem ed_yA92 {post : SY → Prop} {J : ed_J7} (hS : ed_Sh rr cc R C) (hC : ed_Ce ce R C T) {v N e kk : Nat} {bk : Int32} {w : ed_K} {g : Nat → Nat} (hv : v < 4) (h1N : 1 ≤ N) (hN : N ≤ 16) (he : e < 48) (hkk : kk < 16) (hg : ∀ j, j < N → g j < R v * C v) (hi : ∀ j, j < N → 48 * nI v + nI e - nI kk + nI j = nI (v * 48 + g j)) (k : J (nI (e + 1)) rr cc ce (upd ma e (ed_I (ed_sm (fun j => T v (g j) * ed_pw w (j * kk)) N * ed_sc N (ed_bk bk)))) od po sy) : ∀ (n j : Nat) (S : Int64), N < n + j → j ≤ N → ed_Ac S j (ed_sm (fun j => T v (g j) * ed_pw w (j * kk)) j) → wY_along_92 post J (nI v) 1 bk (nI N) (ed_I w) (nI e) (nI kk) rr cc ce ma od po sy n S (nI j) := by
  intro n
  obtain ⟨g1, g2, g3, g4, g5, g6, g7⟩ := hS v hv
  have va : vp_in (nI v) 4 := vp_in_nI hv (by decide)
  have ve : vp_in (nI e) 48 := vp_in_nI he (by decide)
  induction n with
  | zero => intro j S h1 h2; omega
  | succ n ih =>
    intro j S h1 h2 h3
    rw [wY_along_92]
    dsimp only
    rw [nI_clamp (show e < 2 ^ 31 by omega), nI_clamp (show v < 2 ^ 31 by omega), g2]
    by_cases q : j = N
    · subst q
      refine br_t (nI_le (Nat.le_refl _) (by omega)) (ed_yMod S h3.1 ⟨ve, nm_e (br_c (fun c => nm_r (nI_1 e) ?_) (fun c => ⟨ve, ?_⟩))⟩)
      · rw [ed_bk_f c, ed_sc_f, ed_rg_one] at k
        exact k
      · rw [ed_us, ed_nI j (by omega)]
        refine ed_yQuo _ _ ⟨ve, nm_e (nm_r (nI_1 e) ?_)⟩
        rw [ed_bk_t c, ed_sc_t] at k
        rw [ed_uu]
        exact k
    · have hj : j < N := by omega
      have hgj := hg j hj
      have h0 : ¬ nI (C v) = 0 := nI_ne0 (by omega) (by omega)
      have hm : j * kk ≤ 16 * 16 := Nat.mul_le_mul (by omega) (by omega)
      have hx : ((nI j * nI kk).toInt64).toInt = ((j * kk : Nat) : Int) := by rw [Jvm.Kit.i64_of_i32, pk_mul, nI_toInt (by omega)]
      have i3 := ih (j + 1) (S + (ed_I (T v (g j) * ed_pw w (j * kk))).toInt64) (by omega) (by omega) (ed_AcS h3 (by omega) _)
      refine br_f (nI_ge (by omega) (by omega)) (br_f (by decide) ?_)
      rw [hi j hj, nI_clamp (show v * 48 + g j < 2 ^ 31 by omega), hC v (g j) hv hgj]
      refine ⟨vp_in_nI (by omega) (by decide), ?_⟩
      unfold wY_along_153
      refine ed_yPow _ _ ?_
      rw [ed_pmod (by omega) hx]
      exact ed_yPro _ _ (nm_e (nm_r (nI_1 j) i3))
theorem ed_yB92 {post : SY → Prop} {J : ed_J7} (hS : ed_Sh rr cc R C) (hC : ed_Ce ce R C T) {v N e kk : Nat} {bk : Int32} {w : ed_K} {g : Nat → Nat} (hv : v < 4) (h1N : 1 ≤ N) (hN : N ≤ 16) (he : e < 48) (hkk : kk < 16) (hg : ∀ j, j < N → g j < R v * C v) (hi : ∀ j, j < N → 48 * nI v + (nI e - nI e / nI (C v) * nI (C v)) + nI j * nI (C v) = nI (v * 48 + g j)) (k : J (nI (e + 1)) rr cc ce (upd ma e (ed_I (ed_sm (fun j => T v (g j) * ed_pw w (j * kk)) N * ed_sc N (ed_bk bk)))) od po sy) : ∀ (n j : Nat) (S : Int64), N < n + j → j ≤ N → ed_Ac S j (ed_sm (fun j => T v (g j) * ed_pw w (j * kk)) j) → wY_along_92 post J (nI v) 0 bk (nI N) (ed_I w) (nI e) (nI kk) rr cc ce ma od po sy n S (nI j) := by
  intro n
  obtain ⟨g1, g2, g3, g4, g5, g6, g7⟩ := hS v hv
  have va : vp_in (nI v) 4 := vp_in_nI hv (by decide)
  have ve : vp_in (nI e) 48 := vp_in_nI he (by decide)
  induction n with
  | zero => intro j S h1 h2; omega
  | succ n ih =>
    intro j S h1 h2 h3
    rw [wY_along_92]
    dsimp only
    rw [nI_clamp (show e < 2 ^ 31 by omega), nI_clamp (show v < 2 ^ 31 by omega), g2]
    by_cases q : j = N
    · subst q
      refine br_t (nI_le (Nat.le_refl _) (by omega)) (ed_yMod S h3.1 ⟨ve, nm_e (br_c (fun c => nm_r (nI_1 e) ?_) (fun c => ⟨ve, ?_⟩))⟩)
      · rw [ed_bk_f c, ed_sc_f, ed_rg_one] at k
        exact k
      · rw [ed_us, ed_nI j (by omega)]
        refine ed_yQuo _ _ ⟨ve, nm_e (nm_r (nI_1 e) ?_)⟩
        rw [ed_bk_t c, ed_sc_t] at k
        rw [ed_uu]
        exact k
    · have hj : j < N := by omega
      have hgj := hg j hj
      have h0 : ¬ nI (C v) = 0 := nI_ne0 (by omega) (by omega)
      have hm : j * kk ≤ 16 * 16 := Nat.mul_le_mul (by omega) (by omega)
      have hx : ((nI j * nI kk).toInt64).toInt = ((j * kk : Nat) : Int) := by rw [Jvm.Kit.i64_of_i32, pk_mul, nI_toInt (by omega)]
      have i3 := ih (j + 1) (S + (ed_I (T v (g j) * ed_pw w (j * kk))).toInt64) (by omega) (by omega) (ed_AcS h3 (by omega) _)
      refine br_f (nI_ge (by omega) (by omega)) (br_t rfl ?_)
      rw [hi j hj, nI_clamp (show v * 48 + g j < 2 ^ 31 by omega), hC v (g j) hv hgj]
      refine ⟨va, h0, va, vp_in_nI (by omega) (by decide), ?_⟩
      unfold wY_along_153
      refine ed_yPow _ _ ?_
      rw [ed_pmod (by omega) hx]
      exact ed_yPro _ _ (nm_e (nm_r (nI_1 j) i3))
theorem ed_yA49 {post : SY → Prop} (hS : ed_Sh rr cc R C) (hC : ed_Ce ce R C T) {v : Nat} {bk : Int32} (hv : v < 4) (k : post (upd rr v (nI (R v)), upd cc v (nI (C v)), ed_cp ce (v * 48) (R v * C v) (ed_cp ma 0 (R v * C v) (fun e => ed_I (ed_tR (C v) (ed_bk bk) (T v) e))), ed_cp ma 0 (R v * C v) (fun e => ed_I (ed_tR (C v) (ed_bk bk) (T v) e)), od, po, sy)) : ∀ n e : Nat, R v * C v < n + e → e ≤ R v * C v → wY_along_49 post (nI v) 1 bk (nI (C v)) (ed_I (ed_w (C v) (ed_bk bk))) n (nI e) rr cc ce (ed_cp ma 0 e (fun e => ed_I (ed_tR (C v) (ed_bk bk) (T v) e))) od po sy := by
  intro n
  obtain ⟨g1, g2, g3, g4, g5, g6, g7⟩ := hS v hv
  have va : vp_in (nI v) 4 := vp_in_nI hv (by decide)
  induction n with
  | zero => intro e h1 h2; omega
  | succ n ih =>
    intro e h1 h2
    rw [wY_along_49]
    refine ed_yCnt hv g1 g2 ?_
    rw [nI_clamp (show v < 2 ^ 31 by omega), g2]
    by_cases q : e = R v * C v
    · subst q
      exact br_t (nI_le (Nat.le_refl _) (by omega)) (ed_yGiv hS hv hv k)
    · have h0 : ¬ nI (C v) = 0 := nI_ne0 (by omega) (by omega)
      have hmod := Nat.mod_lt e (show 0 < C v by omega)
      have hdiv : e / C v < R v := Nat.div_lt_of_lt_mul (by rw [Nat.mul_comm]; omega)
      have hd : e / C v * C v + e % C v = e := ed_dm.symm
      have i3 := ih (e + 1) (by omega) (by omega)
      refine br_f (nI_ge (by omega) (by omega)) (br_f (by decide) ⟨va, h0, nm_r (pk_rem (show e < 2 ^ 31 by omega) (by omega) (by omega)) ⟨(C v) + 1, ed_yA92 (g := fun j => e / C v * C v + j) hS hC hv (by omega) (by omega) (by omega) (by omega) (fun j hj => ?_) (fun j hj => ?_) ?_ ((C v) + 1) 0 0 (by omega) (by omega) ed_Ac0⟩⟩)
      · exact ed_fl_lt hdiv hj
      · rw [ed_iy, pk_sub (by omega), nI_add]
        exact congrArg nI (by omega)
      · have e1 := ed_cpS0 ma e (fun e => ed_I (ed_tR (C v) (ed_bk bk) (T v) e))
        rw [← e1] at i3
        exact i3
theorem ed_yB49 {post : SY → Prop} (hS : ed_Sh rr cc R C) (hC : ed_Ce ce R C T) {v : Nat} {bk : Int32} (hv : v < 4) (k : post (upd rr v (nI (R v)), upd cc v (nI (C v)), ed_cp ce (v * 48) (R v * C v) (ed_cp ma 0 (R v * C v) (fun e => ed_I (ed_tC (R v) (C v) (ed_bk bk) (T v) e))), ed_cp ma 0 (R v * C v) (fun e => ed_I (ed_tC (R v) (C v) (ed_bk bk) (T v) e)), od, po, sy)) : ∀ n e : Nat, R v * C v < n + e → e ≤ R v * C v → wY_along_49 post (nI v) 0 bk (nI (R v)) (ed_I (ed_w (R v) (ed_bk bk))) n (nI e) rr cc ce (ed_cp ma 0 e (fun e => ed_I (ed_tC (R v) (C v) (ed_bk bk) (T v) e))) od po sy := by
  intro n
  obtain ⟨g1, g2, g3, g4, g5, g6, g7⟩ := hS v hv
  have va : vp_in (nI v) 4 := vp_in_nI hv (by decide)
  induction n with
  | zero => intro e h1 h2; omega
  | succ n ih =>
    intro e h1 h2
    rw [wY_along_49]
    refine ed_yCnt hv g1 g2 ?_
    rw [nI_clamp (show v < 2 ^ 31 by omega), g2]
    by_cases q : e = R v * C v
    · subst q
      exact br_t (nI_le (Nat.le_refl _) (by omega)) (ed_yGiv hS hv hv k)
    · have h0 : ¬ nI (C v) = 0 := nI_ne0 (by omega) (by omega)
      have hmod := Nat.mod_lt e (show 0 < C v by omega)
      have hdiv : e / C v < R v := Nat.div_lt_of_lt_mul (by rw [Nat.mul_comm]; omega)
      have hd : e / C v * C v + e % C v = e := ed_dm.symm
      have i3 := ih (e + 1) (by omega) (by omega)
      refine br_f (nI_ge (by omega) (by omega)) (br_t rfl ⟨va, h0, nm_r (pk_div (show e < 2 ^ 31 by omega) (by omega) (by omega)) ⟨(R v) + 1, ed_yB92 (g := fun j => j * C v + e % C v) hS hC hv (by omega) (by omega) (by omega) (by omega) (fun j hj => ?_) (fun j hj => ?_) ?_ ((R v) + 1) 0 0 (by omega) (by omega) ed_Ac0⟩⟩)
      · exact ed_fl_lt hj hmod
      · rw [pk_rem (show e < 2 ^ 31 by omega) (by omega) (by omega), ed_iy, pk_mul, nI_add]
        exact congrArg nI (by omega)
      · have e1 := ed_cpS0 ma e (fun e => ed_I (ed_tC (R v) (C v) (ed_bk bk) (T v) e))
        rw [← e1] at i3
        exact i3
theorem ed_yA {post : SY → Prop} (hS : ed_Sh rr cc R C) (hC : ed_Ce ce R C T) {v : Nat} {bk : Int32} (hv : v < 4) (k : ∀ u', ed_PY R C (ed_up T v (ed_tR (C v) (ed_bk bk) (T v))) u' → post u') : wpY_along post (rr, cc, ce, ma, od, po, sy) (nI v) 1 bk := by
  unfold wpY_along
  dsimp only
  obtain ⟨g1, g2, g3, g4, g5, g6, g7⟩ := hS v hv
  have va : vp_in (nI v) 4 := vp_in_nI hv (by decide)
  rw [nI_clamp (show v < 2 ^ 31 by omega), g1, g2]
  refine br_f (by decide) ⟨va, ?_⟩
  have hp : ed_PY R C (ed_up T v (ed_tR (C v) (ed_bk bk) (T v))) (upd rr v (nI (R v)), upd cc v (nI (C v)), ed_cp ce (v * 48) (R v * C v) (ed_cp ma 0 (R v * C v) (fun e => ed_I (ed_tR (C v) (ed_bk bk) (T v) e))), ed_cp ma 0 (R v * C v) (fun e => ed_I (ed_tR (C v) (ed_bk bk) (T v) e)), od, po, sy) := by
    have q := ed_PYr (l := v) (od := od) (po := po) (sy := sy) hS hC hv (f := ed_tR (C v) (ed_bk bk) (T v)) (b := ed_cp ma 0 (R v * C v) (fun e => ed_I (ed_tR (C v) (ed_bk bk) (T v) e))) (fun t ht => ed_cp0_in ht)
    rw [ed_upid, ed_upid] at q
    exact q
  have g := ed_yA49 (post := post) (ma := ma) (od := od) (po := po) (sy := sy) (bk := bk) hS hC hv (k _ hp) (R v * C v + 1) 0 (by omega) (by omega)
  rw [ed_cp0] at g
  have hle : 1014773760 / (C v) ≤ 1014773760 := Nat.div_le_self _ _
  have ed : (1014773760 : Int32) / nI (C v) = nI (1014773760 / (C v)) := pk_div (a := 1014773760) (by decide) (by omega) (by omega)
  have tm : (nI (1014773760 / (C v))).toInt64.toInt = ((1014773760 / (C v) : Nat) : Int) := by rw [Jvm.Kit.i64_of_i32, nI_toInt (Nat.lt_of_le_of_lt hle (by decide))]
  have hw := ed_w_y (C v) g5 (ed_bk bk)
  generalize 1014773760 / (C v) = m at hle ed tm hw
  unfold wY_along_19 wY_along_40
  refine ⟨nI_ne0 (by omega) (by omega), ?_⟩
  rw [ed, ed_17]
  refine br_c (fun c => ed_yPow _ _ ?_) (fun c => ed_yPow _ _ ?_)
  · have e1 : ((nI m).toInt64 * 1).toInt = (m : Int) * 1 := by
      have t1 : (1 : Int64).toInt = 1 := by decide
      rw [Jvm.Kit.i64_mul (by rw [tm, t1]; omega) (by rw [tm, t1]; omega), tm, t1]
    rw [ed_bk_f c, ed_if_f] at hw
    rw [e1, show ed_pw (17 : ed_K) ((m : Int) * 1 % 1014773760).toNat = ed_w (C v) false from hw, ← ed_bk_f c]
    exact ⟨_, g⟩
  · have e1 : ((nI m).toInt64 * (-1)).toInt = (m : Int) * (-1) := by
      have t1 : (-1 : Int64).toInt = -1 := by decide
      rw [Jvm.Kit.i64_mul (by rw [tm, t1]; omega) (by rw [tm, t1]; omega), tm, t1]
    rw [ed_bk_t c, ed_if_t] at hw
    rw [e1, show ed_pw (17 : ed_K) ((m : Int) * (-1) % 1014773760).toNat = ed_w (C v) true from hw, ← ed_bk_t c]
    exact ⟨_, g⟩
theorem ed_yB {post : SY → Prop} (hS : ed_Sh rr cc R C) (hC : ed_Ce ce R C T) {v : Nat} {bk : Int32} (hv : v < 4) (k : ∀ u', ed_PY R C (ed_up T v (ed_tC (R v) (C v) (ed_bk bk) (T v))) u' → post u') : wpY_along post (rr, cc, ce, ma, od, po, sy) (nI v) 0 bk := by
  unfold wpY_along
  dsimp only
  obtain ⟨g1, g2, g3, g4, g5, g6, g7⟩ := hS v hv
  have va : vp_in (nI v) 4 := vp_in_nI hv (by decide)
  rw [nI_clamp (show v < 2 ^ 31 by omega), g1, g2]
  refine br_t rfl ⟨va, ?_⟩
  have hp : ed_PY R C (ed_up T v (ed_tC (R v) (C v) (ed_bk bk) (T v))) (upd rr v (nI (R v)), upd cc v (nI (C v)), ed_cp ce (v * 48) (R v * C v) (ed_cp ma 0 (R v * C v) (fun e => ed_I (ed_tC (R v) (C v) (ed_bk bk) (T v) e))), ed_cp ma 0 (R v * C v) (fun e => ed_I (ed_tC (R v) (C v) (ed_bk bk) (T v) e)), od, po, sy) := by
    have q := ed_PYr (l := v) (od := od) (po := po) (sy := sy) hS hC hv (f := ed_tC (R v) (C v) (ed_bk bk) (T v)) (b := ed_cp ma 0 (R v * C v) (fun e => ed_I (ed_tC (R v) (C v) (ed_bk bk) (T v) e))) (fun t ht => ed_cp0_in ht)
    rw [ed_upid, ed_upid] at q
    exact q
  have g := ed_yB49 (post := post) (ma := ma) (od := od) (po := po) (sy := sy) (bk := bk) hS hC hv (k _ hp) (R v * C v + 1) 0 (by omega) (by omega)
  rw [ed_cp0] at g
  have hle : 1014773760 / (R v) ≤ 1014773760 := Nat.div_le_self _ _
  have ed : (1014773760 : Int32) / nI (R v) = nI (1014773760 / (R v)) := pk_div (a := 1014773760) (by decide) (by omega) (by omega)
  have tm : (nI (1014773760 / (R v))).toInt64.toInt = ((1014773760 / (R v) : Nat) : Int) := by rw [Jvm.Kit.i64_of_i32, nI_toInt (Nat.lt_of_le_of_lt hle (by decide))]
  have hw := ed_w_y (R v) g3 (ed_bk bk)
  generalize 1014773760 / (R v) = m at hle ed tm hw
  unfold wY_along_19 wY_along_40
  refine ⟨nI_ne0 (by omega) (by omega), ?_⟩
  rw [ed, ed_17]
  refine br_c (fun c => ed_yPow _ _ ?_) (fun c => ed_yPow _ _ ?_)
  · have e1 : ((nI m).toInt64 * 1).toInt = (m : Int) * 1 := by
      have t1 : (1 : Int64).toInt = 1 := by decide
      rw [Jvm.Kit.i64_mul (by rw [tm, t1]; omega) (by rw [tm, t1]; omega), tm, t1]
    rw [ed_bk_f c, ed_if_f] at hw
    rw [e1, show ed_pw (17 : ed_K) ((m : Int) * 1 % 1014773760).toNat = ed_w (R v) false from hw, ← ed_bk_f c]
    exact ⟨_, g⟩
  · have e1 : ((nI m).toInt64 * (-1)).toInt = (m : Int) * (-1) := by
      have t1 : (-1 : Int64).toInt = -1 := by decide
      rw [Jvm.Kit.i64_mul (by rw [tm, t1]; omega) (by rw [tm, t1]; omega), tm, t1]
    rw [ed_bk_t c, ed_if_t] at hw
    rw [e1, show ed_pw (17 : ed_K) ((m : Int) * (-1) % 1014773760).toNat = ed_w (R v) true from hw, ← ed_bk_t c]
    exact ⟨_, g⟩
theorem ed_yTra {post : Int32 → SY → Prop} (hS : ed_Sh rr cc R C) (hC : ed_Ce ce R C T) {x y z : Int32} (hy : ∀ v q, v < 4 → q ≤ 2 → x = nI v → y = nI q → ∀ u', ed_PY R C (ed_up T v (ed_tA q (R v) (C v) (ed_bk z) (T v))) u' → post 1 u') (hn : (∀ v q, v < 4 → q ≤ 2 → x = nI v → y ≠ nI q) → post 0 (rr, cc, ce, ma, od, po, sy)) : wpY_transform post (rr, cc, ce, ma, od, po, sy) x y z := by
  unfold wpY_transform
  dsimp only
  refine ed_yTab (fun v hv e => br_f (by decide) (br_c (fun c => hn ?_) (fun c => ?_))) (fun h => br_t rfl (hn (fun v q hv _ e => absurd e (h v hv))))
  · intro v q _ hq _ e
    rw [e] at c
    exact nI_pos (by omega) c
  · obtain ⟨q, hq, rfl⟩ := nI_of c
    refine pk_le q 2 (fun d => ?_) (fun d => hn (fun v' q' _ hq' _ e => ?_))
    · have hq2 := hy v q hv d e rfl
      subst e
      refine pk_eq q 1 (fun e1 => ?_) (fun e1 => ?_)
      · subst e1
        refine br_f (by decide) (ed_yB hS hC hv (fun u' h => ?_))
        obtain ⟨rr1, cc1, ce1, ma1, od1, po1, sy1, rfl, hS1, hC1⟩ := h
        exact hq2 _ ⟨_, _, _, _, _, _, _, rfl, hS1, hC1⟩
      · refine ed_yA hS hC hv (fun u' h => ?_)
        obtain ⟨rr1, cc1, ce1, ma1, od1, po1, sy1, rfl, hS1, hC1⟩ := h
        refine pk_eq q 0 (fun e0 => ?_) (fun e0 => ?_)
        · subst e0
          exact hq2 _ ⟨_, _, _, _, _, _, _, rfl, hS1, hC1⟩
        · refine ed_yB hS1 hC1 hv (fun u' h => ?_)
          obtain ⟨rr2, cc2, ce2, ma2, od2, po2, sy2, rfl, hS2, hC2⟩ := h
          refine hq2 _ ⟨_, _, _, _, _, _, _, rfl, hS2, ?_⟩
          rw [ed_upup, ed_ups] at hC2
          unfold ed_tA
          rw [if_neg e1, if_neg e0]
          exact hC2
    · have := (nI_eq hq (by omega)).mp e
      omega
end
theorem i_vc_transform {k : Nat} {u : SX} {v : SY} (I : i_Rel k u v) (hk : k + 5 ≤ 2560) (v1 : Int32) (v2 : Int32) (v3 : Int32) : wpX_transform (fun r u' => wpY_transform (fun r' v' => r' = r ∧ i_Rel (k + 5) u' v') v v1 v2 (lw_bz v3)) u v1 v2 (lw_bz v3) := by
  have I0 := I
  obtain ⟨R, C, T, ⟨ce, rr, cc, re, ba, cu, ol, sa, rfl, hS, hC⟩, ⟨rr', cc', ce', ma, od, po, sy, rfl, hS', hC'⟩⟩ := I
  refine ed_xTra hS hC (fun j q hj hq e1 e2 u' hu => ed_yTra hS' hC' (fun j' q' hj' hq' e1' e2' v' hv => ?_) (fun h => absurd e2 (h j q hj hq e1))) (fun h => ed_yTra hS' hC' (fun j q hj hq e1 e2 => absurd e2 (h j q hj hq e1)) (fun _ => ⟨rfl, I0⟩))
  obtain rfl := ed_nIe hj hj' (e1.symm.trans e1')
  obtain rfl := (nI_eq (by omega) (by omega)).mp (e2.symm.trans e2')
  exact ⟨rfl, _, _, _, hu, hv⟩
