/-! Y: interpolate -/
theorem ed_ysub (a b c : ed_K) : ed_Z ((ed_I a).toInt64 - ((ed_I b).toInt64 * (ed_I c).toInt64 - (ed_I b).toInt64 * (ed_I c).toInt64 / 1014773761 * 1014773761)).toInt = a - b * c := by
  have h := ed_mul64 (ed_I b) (ed_I c)
  have n := ed_nn (ed_I0 b) (ed_I0 c)
  have e : ((ed_I b).toInt64 * (ed_I c).toInt64 - (ed_I b).toInt64 * (ed_I c).toInt64 / 1014773761 * 1014773761).toInt = (ed_I b).toInt * (ed_I c).toInt % 1014773761 := by
    rw [Jvm.Kit.i64_rem_nonneg (by rw [h.1]; exact n), h.1, ed_cP]
  have p := ed_IP a
  have q := ed_I0 a
  have z : ed_Z ((ed_I b).toInt * (ed_I c).toInt % 1014773761) = b * c := by
    have z1 : ed_Z ((ed_I b).toInt * (ed_I c).toInt % 1014773761) = ed_Z ((ed_I b).toInt * (ed_I c).toInt) := by
      apply ed_Ke
      rw [ed_Zv, ed_Zv, Int.emod_emod]
    rw [z1, ed_Z_mul, ed_ZI, ed_ZI]
  rw [Jvm.Kit.i64_sub (by rw [e, Jvm.Kit.i64_of_i32]; omega) (by rw [e, Jvm.Kit.i64_of_i32]; omega), e, Jvm.Kit.i64_of_i32, ed_Z_sub, ed_ZI, z]
theorem ed_yadd (a b : ed_K) : ed_Z ((ed_I a).toInt64 + (ed_I b).toInt64).toInt = a + b := by
  rw [lg_i2l_add, ed_Z_add, ed_ZI, ed_ZI]
theorem ed_ydif (a b : ed_K) : ed_Z ((ed_I a).toInt64 - (ed_I b).toInt64).toInt = a - b := by
  rw [lg_i2l_sub, ed_Z_sub, ed_ZI, ed_ZI]
abbrev ed_J7b : Type := Int32 → Int32 → (Nat → Int32) → (Nat → Int32) → (Nat → Int32) → (Nat → Int32) → (Nat → Int32) → (Nat → Int32) → (Nat → Int32) → Prop
section
variable {R C : Nat → Nat} {T : Nat → Nat → ed_K} {rr cc ce ma od po sy : Nat → Int32}
theorem ed_yAT177 {post : SY → Prop} {N : Nat} {o p : Nat → ed_K} (h16 : N ≤ 16) (ho : ∀ t, t < N → od t = ed_I (o t)) (hp : ∀ t, t < N → po t = ed_I (p t)) (kk : ∀ od' : Nat → Int32, (∀ t, t < N → od' t = ed_I (o t + p t)) → post (rr, cc, ce, ma, od', po, sy)) : ∀ n i : Nat, N < n + i → i ≤ N → wY_addTerm_177 post (nI N) n (nI i) rr cc ce ma (ed_cp od 0 i (fun t => ed_I (o t + p t))) po sy := by
  intro n
  induction n with
  | zero => intro i h1 h2; omega
  | succ n ih =>
    intro i h1 h2
    rw [wY_addTerm_177]
    dsimp only
    by_cases e : i = N
    · subst e
      exact br_t (nI_le (Nat.le_refl _) (by omega)) (kk (ed_cp od 0 i (fun t => ed_I (o t + p t))) (fun t ht => ed_cp0_in ht))
    · rw [nI_clamp (show i < 2 ^ 31 by omega), ed_cp_out (show i < 0 ∨ 0 + i ≤ i by omega), ho i (by omega), hp i (by omega)]
      exact br_f (nI_ge (by omega) (by omega)) ⟨vp_in_nI (by omega) (by decide), vp_in_nI (by omega) (by decide), ed_yMod _ (ed_yadd _ _) ⟨vp_in_nI (by omega) (by decide), nm_r (ed_cpS0 od i (fun t => ed_I (o t + p t))) (nm_r (nI_1 i) (ih (i + 1) (by omega) (by omega)))⟩⟩
/-- the new coefficient k -/
def ed_pk (p : Nat → ed_K) (z c : ed_K) (k : Nat) : ed_K := ((if k = 0 then 0 else p (k - 1)) - z * p k) * c
theorem ed_yAT98 {post : SY → Prop} {J : ed_J7b} {x1 x2 x3 x5 : Int32} {D j : Nat} {z d : ed_K} {p : Nat → ed_K} (hD : D < 48) (kk : ∀ po' : Nat → Int32, (∀ t, t ≤ D → po' t = ed_I (ed_pk p z (ed_iv d) t)) → (∀ t, D < t → po' t = po t) → J (nI D) (nI (j + 1)) rr cc ce ma od po' sy) : ∀ (b n : Nat) (po1 : Nat → Int32), b ≤ D + 1 → b < n → (∀ t, t < b → po1 t = ed_I (p t)) → (∀ t, b ≤ t → t ≤ D → po1 t = ed_I (ed_pk p z (ed_iv d) t)) → (∀ t, D < t → po1 t = po t) → wY_addTerm_98 post J x1 x2 x3 x5 (nI D) (nI j) (ed_I z) (ed_I d) n (nI b + (-1)) rr cc ce ma od po1 sy := by
  intro b
  induction b with
  | zero =>
    intro n po1 h1 h2 h3 h4 h5
    obtain ⟨m, rfl⟩ : ∃ m, n = m + 1 := ⟨n - 1, by omega⟩
    rw [wY_addTerm_98]
    dsimp only
    exact br_t (by decide) (nm_r (nI_1 j) (kk po1 (fun t ht => h4 t (by omega) ht) h5))
  | succ b ih =>
    intro n po1 h1 h2 h3 h4 h5
    obtain ⟨m, rfl⟩ : ∃ m, n = m + 1 := ⟨n - 1, by omega⟩
    rw [pk_m1, wY_addTerm_98]
    dsimp only
    have key : ∀ (w : Int32) (y : ed_K), w = ed_I y → (y = if b = 0 then 0 else p (b - 1)) → wY_addTerm_121 post J (wY_addTerm_98 post J x1 x2 x3 x5 (nI D) (nI j) (ed_I z) (ed_I d) m) x1 x2 x3 x5 (nI D) (nI j) (ed_I z) (ed_I d) (nI b) w rr cc ce ma od po1 sy := fun w y hw hyy => by
      unfold wY_addTerm_121
      rw [nI_clamp (show b < 2 ^ 31 by omega), h3 b (by omega), hw]
      refine ⟨vp_in_nI (by omega) (by decide), by decide, nm_e (ed_yMod _ (ed_ysub _ _ _) (ed_yQuo _ _ ⟨vp_in_nI (by omega) (by decide), nm_e (nm_e (ih m _ (by omega) (by omega) (fun t ht => ?_) (fun t h6 h7 => ?_) (fun t h6 => ?_)))⟩))⟩
      · rw [ed_un (by omega)]
        exact h3 t (by omega)
      · by_cases q : t = b
        · subst q
          rw [ed_us, hyy]
          rfl
        · rw [ed_un q]
          exact h4 t (by omega) h7
      · rw [ed_un (by omega)]
        exact h5 t h6
    refine br_f (nI_pos (by omega)) (pk_le b 0 (fun c => key 0 0 ed_I_0.symm ?_) (fun c => ?_))
    · rw [if_pos (by omega)]
    · obtain ⟨b', rfl⟩ : ∃ b', b = b' + 1 := ⟨b - 1, by omega⟩
      rw [nI_pred, nI_clamp (show b' < 2 ^ 31 by omega)]
      exact ⟨vp_in_nI (by omega) (by decide), key _ (p b') (h3 b' (by omega)) (by rw [if_neg (by omega), Nat.add_sub_cancel])⟩
/-- the degree after the first j factors, i left out -/
def ed_dg (i j : Nat) : Nat := if j ≤ i then j else j - 1
theorem ed_yAT50 {post : SY → Prop} (hC : ed_Ce ce R C T) {a N i : Nat} {y : ed_K} {o : Nat → ed_K} (ha : a < 4) (hR : R a = 1) (hN : C a = N) (h16 : N ≤ 16) (hi : i < N) (ho : ∀ t, t < N → od t = ed_I (o t)) (kk : ∀ (od' po' : Nat → Int32) (p : Nat → ed_K), (∀ t, t < N → od' t = ed_I (o t + p t)) → (∀ x, ed_va p N x = y * ed_lg ed_iv (T a) i x N) → post (rr, cc, ce, ma, od', po', sy)) : ∀ (n j : Nat) (po : Nat → Int32) (p : Nat → ed_K), N < n + j → j ≤ N → (∀ t, t < N → po t = ed_I (p t)) → (∀ t, ed_dg i j < t → t < N → p t = 0) → (∀ x, ed_va p N x = y * ed_lg ed_iv (T a) i x j) → wY_addTerm_50 post (nI a) (nI i) (nI N) (ed_I (T a i)) n (nI (ed_dg i j)) (nI j) rr cc ce ma od po sy := by
  intro n
  induction n with
  | zero => intro j po p h1 h2; omega
  | succ n ih =>
    intro j po p h1 h2 hp hz hv
    rw [wY_addTerm_50]
    dsimp only
    by_cases e : j = N
    · subst e
      have g := ed_yAT177 (post := post) (rr := rr) (cc := cc) (ce := ce) (ma := ma) (od := od) (po := po) (sy := sy) (o := o) (p := p) h16 ho hp (fun od' q => kk od' po p q hv) (j + 1) 0 (by omega) (by omega)
      rw [ed_cp0] at g
      exact br_t (nI_le (Nat.le_refl _) (by omega)) ⟨_, g⟩
    · refine br_f (nI_ge (by omega) (by omega)) (pk_eq j i (fun c => nm_r (nI_1 j) ?_) (fun c => ?_))
      · have i3 := ih (j + 1) po p (by omega) (by omega) hp
        have ed : ed_dg i (j + 1) = ed_dg i j := by
          unfold ed_dg
          rw [if_neg (by omega), if_pos (by omega), Nat.add_sub_cancel]
        rw [ed] at i3
        exact i3 hz (fun x => by rw [ed_lg_eq ed_iv (T a) x c]; exact hv x)
      · have hd : ed_dg i j + 1 < N ∧ ed_dg i (j + 1) = ed_dg i j + 1 := by
          unfold ed_dg
          by_cases l : j ≤ i
          · rw [if_pos l, if_pos (by omega)]
            omega
          · rw [if_neg l, if_neg (by omega)]
            omega
        rw [ed_iy, nI_clamp (show a * 48 + j < 2 ^ 31 by omega), hC a j ha (by rw [hR, hN]; omega)]
        refine ⟨vp_in_nI (by omega) (by decide), nm_e (ed_yMod _ (ed_ydif _ _) (nm_r (nI_1 (ed_dg i j)) ⟨ed_dg i j + 3, ?_⟩))⟩
        have g := ed_yAT98 (post := post) (J := wY_addTerm_50 post (nI a) (nI i) (nI N) (ed_I (T a i)) n) (rr := rr) (cc := cc) (ce := ce) (ma := ma) (od := od) (sy := sy) (x1 := nI a) (x2 := nI i) (x3 := nI N) (x5 := ed_I (T a i)) (D := ed_dg i j + 1) (j := j) (z := T a j) (d := T a i - T a j) (p := p) (po := po) (by omega) (fun po' q1 q2 => ?_) (ed_dg i j + 2) (ed_dg i j + 3) po (by omega) (by omega) (fun t ht => hp t (by omega)) (fun t h5 h6 => by omega) (fun t _ => rfl)
        · rw [pk_m1] at g
          exact g
        · have L := ed_lg_s (n := N) (D := ed_dg i j) (p := p) (p' := fun t => if t ≤ ed_dg i j + 1 then ed_pk p (T a j) (ed_iv (T a i - T a j)) t else p t) (z := T a j) (c := ed_iv (T a i - T a j)) (by omega) hz (by
            show (if 0 ≤ ed_dg i j + 1 then ed_pk p (T a j) (ed_iv (T a i - T a j)) 0 else p 0) = _
            rw [if_pos (by omega)]
            rfl) (fun t h5 h6 => by
            show (if t ≤ ed_dg i j + 1 then ed_pk p (T a j) (ed_iv (T a i - T a j)) t else p t) = _
            rw [if_pos h6]
            unfold ed_pk
            rw [if_neg (by omega)]) (fun t h5 h6 => by
            show (if t ≤ ed_dg i j + 1 then ed_pk p (T a j) (ed_iv (T a i - T a j)) t else p t) = _
            rw [if_neg (by omega)])
          have i3 := ih (j + 1) po' (fun t => if t ≤ ed_dg i j + 1 then ed_pk p (T a j) (ed_iv (T a i - T a j)) t else p t) (by omega) (by omega) (fun t ht => by
            by_cases q : t ≤ ed_dg i j + 1
            · rw [if_pos q]
              exact q1 t q
            · rw [if_neg q, q2 t (by omega)]
              exact hp t ht)
          rw [hd.2] at i3
          exact i3 L.2 (fun x => by rw [L.1 x, hv x, ed_lg_ne ed_iv (T a) x c, Lean.Grind.Semiring.mul_assoc])
theorem ed_yAT3 {post : SY → Prop} (hC : ed_Ce ce R C T) {a N i : Nat} {y : ed_K} {o : Nat → ed_K} (ha : a < 4) (hR : R a = 1) (hN : C a = N) (h16 : N ≤ 16) (hi : i < N) (ho : ∀ t, t < N → od t = ed_I (o t)) (kk : ∀ (od' po' : Nat → Int32) (p : Nat → ed_K), (∀ t, t < N → od' t = ed_I (o t + p t)) → (∀ x, ed_va p N x = y * ed_lg ed_iv (T a) i x N) → post (rr, cc, ce, ma, od', po', sy)) : ∀ n t : Nat, N < n + t → t ≤ N → wY_addTerm_3 post (nI a) (nI i) (nI N) (ed_I y) n (nI t) rr cc ce ma od (ed_cp po 0 t (fun _ => 0)) sy := by
  intro n
  induction n with
  | zero => intro t h1 h2; omega
  | succ n ih =>
    intro t h1 h2
    rw [wY_addTerm_3]
    dsimp only
    by_cases e : t = N
    · subst e
      rw [ed_iy, nI_clamp (show a * 48 + i < 2 ^ 31 by omega), hC a i ha (by rw [hR, hN]; omega)]
      have hv : ∀ x, ed_va (fun s => if s = 0 then y else 0) t x = y * ed_lg ed_iv (T a) i x 0 := fun x => by
        obtain ⟨m, rfl⟩ : ∃ m, t = m + 1 := ⟨t - 1, by omega⟩
        rw [ed_va_cons, ed_va_z (p := fun s => if s + 1 = 0 then y else 0) (n := m) x (fun s _ => if_neg (by omega)), if_pos rfl]
        show y + 0 * x = y * 1
        rw [ed_rg_one, Lean.Grind.Semiring.zero_mul, ed_rg_a0]
      have g := ed_yAT50 (post := post) (rr := rr) (cc := cc) (ma := ma) (sy := sy) (y := y) hC ha hR hN h16 hi ho kk (t + 1) 0 (upd (ed_cp po 0 t (fun _ => 0)) 0 (ed_I y)) (fun s => if s = 0 then y else 0) (by omega) (by omega) (fun s hs => by
        by_cases q : s = 0
        · subst q
          rw [ed_us, if_pos rfl]
        · rw [ed_un q, if_neg q, ed_cp0_in hs, ed_I_0]) (fun s h5 _ => if_neg (by omega)) hv
      have d0 : ed_dg i 0 = 0 := if_pos (by omega)
      rw [d0] at g
      exact br_t (nI_le (Nat.le_refl _) (by omega)) (nm_e ⟨vp_in_nI (by omega) (by decide), nm_e ⟨_, g⟩⟩)
    · rw [nI_clamp (show t < 2 ^ 31 by omega)]
      exact br_f (nI_ge (by omega) (by omega)) ⟨vp_in_nI (by omega) (by decide), nm_r (ed_cpS0 po t (fun _ => 0)) (nm_r (nI_1 t) (ih (t + 1) (by omega) (by omega)))⟩
theorem ed_yAT {post : SY → Prop} (hC : ed_Ce ce R C T) {a N i : Nat} {y : ed_K} {o : Nat → ed_K} (ha : a < 4) (hR : R a = 1) (hN : C a = N) (h16 : N ≤ 16) (hi : i < N) (ho : ∀ t, t < N → od t = ed_I (o t)) (kk : ∀ (od' po' : Nat → Int32) (p : Nat → ed_K), (∀ t, t < N → od' t = ed_I (o t + p t)) → (∀ x, ed_va p N x = y * ed_lg ed_iv (T a) i x N) → post (rr, cc, ce, ma, od', po', sy)) : wpY_addTerm post (rr, cc, ce, ma, od, po, sy) (nI a) (nI i) (nI N) (ed_I y) := by
  unfold wpY_addTerm
  dsimp only
  have g := ed_yAT3 (post := post) (rr := rr) (cc := cc) (ma := ma) (po := po) (sy := sy) (y := y) hC ha hR hN h16 hi ho kk (N + 1) 0 (by omega) (by omega)
  rw [ed_cp0] at g
  exact ⟨_, g⟩
end
