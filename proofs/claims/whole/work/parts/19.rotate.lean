/-! rotate -/
theorem ed_xWr {post : Int32 → Prop} {p : Int32} {n : Nat} (hn : 1 ≤ n) (hn2 : n < 1000) (h1 : -(n : Int) ≤ p.toInt) (h2 : p.toInt < 2 * (n : Int)) (k : post (nI (p.toInt % (n : Int)).toNat)) : wpX_wrapped post p (nI n) := by
  have z0 : (0 : Int32).toInt = 0 := by decide
  have tn : (nI n).toInt = (n : Int) := nI_toInt (by omega)
  have g : ∀ y : Int32, y.toInt = p.toInt % (n : Int) → post y := fun y hy => by
    have a := Int.emod_nonneg p.toInt (show (n : Int) ≠ 0 by omega)
    have b := Int.emod_lt_of_pos p.toInt (show 0 < (n : Int) by omega)
    have e : y = nI (p.toInt % (n : Int)).toNat := Int32.toInt_inj.mp (by rw [hy, nI_toInt (by omega)]; omega)
    rw [e]
    exact k
  refine br_c (fun c => br_c (fun d => g _ ?_) (fun d => g _ ?_)) (fun c => g _ ?_)
  · rw [Int32.le_iff_toInt_le, z0] at c
    rw [Int32.lt_iff_toInt_lt, tn] at d
    exact (Int.emod_eq_of_lt c d).symm
  · rw [Int32.lt_iff_toInt_lt, tn] at d
    rw [Jvm.Kit.i32_sub (by rw [tn]; omega) (by rw [tn]; omega), tn, ← Int.sub_emod_right]
    exact (Int.emod_eq_of_lt (by omega) (by omega)).symm
  · rw [Int32.le_iff_toInt_le, z0] at c
    rw [Jvm.Kit.i32_add (by rw [tn]; omega) (by rw [tn]; omega), tn, ← Int.add_emod_right]
    exact (Int.emod_eq_of_lt (by omega) (by omega)).symm
theorem ed_ro_t (j : Nat) (b : Int) (n : Nat) : ed_ro j (b.tmod (n : Int)) n = ed_ro j b n := by
  unfold ed_ro
  have d := Int.tmod_add_mul_tdiv b (n : Int)
  have e : (j : Int) + b = (j : Int) + b.tmod (n : Int) + (n : Int) * b.tdiv (n : Int) := by omega
  rw [e, Int.add_mul_emod_self_left]
section
variable {R C : Nat → Nat} {T : Nat → Nat → ed_K} {ce rr cc re ba cu ol sa ma od po sy : Nat → Int32}
def ed_rF (T : Nat → Nat → ed_K) (v n : Nat) (b : Int) (t : Nat) : ed_K := T v (t / n * n + ed_ro (t % n) b n)
theorem ed_rF_f (T : Nat → Nat → ed_K) (v : Nat) {n j : Nat} (b : Int) (row : Nat) (hj : j < n) : ed_rF T v n b (row * n + j) = T v (row * n + ed_ro j b n) := by
  unfold ed_rF
  rw [ed_fl_div hj, ed_fl_mod hj]
theorem ed_xRo38 {post : Int32 → SX → Prop} {J : Int32 → (Nat → Int32) → (Nat → Int32) → (Nat → Int32) → (Nat → Int32) → (Nat → Int32) → (Nat → Int32) → (Nat → Int32) → (Nat → Int32) → Prop} (hS : ed_Sh rr cc R C) (hC : ed_Ce ce R C T) {v n row : Nat} {b : Int} {sh : Int32} (hv : v < 4) (hn : C v = n) (hsh : sh.toInt = b.tmod (n : Int)) (hrow : row < R v) (k : J (nI (row + 1)) ce rr cc (ed_cp re 0 (row * n + n) (fun t => ed_I (ed_rF T v n b t))) ba cu ol sa) : ∀ m j : Nat, n < m + j → j ≤ n → wX_rotate_38 post J (nI v) (nI n) sh (nI row) m (nI j) ce rr cc (ed_cp re 0 (row * n + j) (fun t => ed_I (ed_rF T v n b t))) ba cu ol sa := by
  intro m
  obtain ⟨g1, g2, g3, g4, g5, g6, g7⟩ := hS v hv
  induction m with
  | zero => intro j h1 h2; omega
  | succ m ih =>
    intro j h1 h2
    rw [wX_rotate_38]
    dsimp only
    by_cases e : j = n
    · subst e
      exact br_t (nI_le (Nat.le_refl _) (by omega)) (nm_r (nI_1 row) k)
    · have tb := tmod_bounds (a := b) (M := (n : Int)) (by omega)
      have tj : (nI j).toInt = (j : Int) := nI_toInt (by omega)
      have ta : (nI j + sh).toInt = (j : Int) + b.tmod (n : Int) := by
        rw [Jvm.Kit.i32_add (by rw [tj, hsh]; omega) (by rw [tj, hsh]; omega), tj, hsh]
      have hlt := ed_ro_lt j b (show 0 < n by omega)
      have hfl := ed_fl_lt hrow (show j < C v by omega)
      have hfl2 := ed_fl_lt hrow (show ed_ro j b n < C v by omega)
      rw [hn] at hfl hfl2 g7
      refine br_f (nI_ge (by omega) (by omega)) (ed_xWr (by omega) (by omega) (by rw [ta]; omega) (by rw [ta]; omega) ?_)
      rw [ta, show (((j : Int) + b.tmod (n : Int)) % (n : Int)).toNat = ed_ro j b n from ed_ro_t j b n, show nI v * 48 + nI row * nI n + nI (ed_ro j b n) = nI (v * 48 + (row * n + ed_ro j b n)) by rw [pk_mul, ed_ix, nI_add, Nat.add_assoc], show nI row * nI n + nI j = nI (row * n + j) by rw [pk_mul, nI_add], nI_clamp (show v * 48 + (row * n + ed_ro j b n) < 2 ^ 31 by omega), nI_clamp (show row * n + j < 2 ^ 31 by omega), hC v (row * n + ed_ro j b n) hv (by rw [hn]; omega), ← ed_rF_f T v b row (show j < n by omega)]
      exact ⟨vp_in_nI (by omega) (by decide), vp_in_nI (by omega) (by decide), nm_r (ed_cpS0 re (row * n + j) (fun t => ed_I (ed_rF T v n b t))) (nm_r (nI_1 j) (ih (j + 1) (by omega) (by omega)))⟩
theorem ed_xRo24 {post : Int32 → SX → Prop} (hS : ed_Sh rr cc R C) (hC : ed_Ce ce R C T) {v n : Nat} {b : Int} {sh : Int32} (hv : v < 4) (hn : C v = n) (hsh : sh.toInt = b.tmod (n : Int)) (k : post 1 (ed_cp ce (v * 48) (R v * n) (ed_cp re 0 (R v * n) (fun t => ed_I (ed_rF T v n b t))), upd rr v (nI (R v)), upd cc v (nI n), ed_cp re 0 (R v * n) (fun t => ed_I (ed_rF T v n b t)), ba, cu, ol, sa)) : ∀ m row : Nat, R v < m + row → row ≤ R v → wX_rotate_24 post (nI v) (nI n) sh m (nI row) ce rr cc (ed_cp re 0 (row * n) (fun t => ed_I (ed_rF T v n b t))) ba cu ol sa := by
  intro m
  obtain ⟨g1, g2, g3, g4, g5, g6, g7⟩ := hS v hv
  have va : vp_in (nI v) 4 := vp_in_nI hv (by decide)
  induction m with
  | zero => intro row h1 h2; omega
  | succ m ih =>
    intro row h1 h2
    rw [wX_rotate_24]
    dsimp only
    rw [nI_clamp (show v < 2 ^ 31 by omega), g1]
    by_cases e : row = R v
    · subst e
      exact ⟨va, br_t (nI_le (Nat.le_refl _) (by omega)) ⟨va, ed_xDel hv (by rw [← hn]; exact g7) k⟩⟩
    · have i := ih (row + 1) (by omega) (by omega)
      rw [Nat.succ_mul] at i
      exact ⟨va, br_f (nI_ge (by omega) (by omega)) ⟨n + 1, ed_xRo38 hS hC hv hn hsh (by omega) i (n + 1) 0 (by omega) (by omega)⟩⟩
theorem ed_xRo {post : Int32 → SX → Prop} (hS : ed_Sh rr cc R C) (hC : ed_Ce ce R C T) {x y : Int32} (hy : ∀ v, v < 4 → x = nI v → ∀ u', ed_PX (ed_up R v (R v)) (ed_up C v (C v)) (ed_up T v (ed_rF T v (C v) y.toInt)) u' → post 1 u') (hn : (∀ v, v < 4 → x ≠ nI v) → post 0 (ce, rr, cc, re, ba, cu, ol, sa)) : wpX_rotate post (ce, rr, cc, re, ba, cu, ol, sa) x y := by
  unfold wpX_rotate
  dsimp only
  refine ed_xTab (fun v hv e => br_f (by decide) ?_) (fun h => br_t rfl (hn h))
  have hq := hy v hv e
  subst e
  obtain ⟨g1, g2, g3, g4, g5, g6, g7⟩ := hS v hv
  rw [nI_clamp (show v < 2 ^ 31 by omega), g2]
  have tn : (nI (C v)).toInt = ((C v : Nat) : Int) := nI_toInt (by omega)
  have k := ed_xRo24 (post := post) (ce := ce) (re := re) (ba := ba) (cu := cu) (ol := ol) (sa := sa) (b := y.toInt) (sh := y - y / nI (C v) * nI (C v)) hS hC hv rfl (by rw [rem_toInt, tn]) (hq _ (ed_PXr hS hC hv (fun t ht => ed_cp0_in ht))) (R v + 1) 0 (by omega) (by omega)
  rw [Nat.zero_mul, ed_cp0] at k
  exact ⟨vp_in_nI hv (by decide), nm_e ⟨nI_ne0 (by omega) (by omega), nm_e ⟨_, k⟩⟩⟩
theorem ed_yRo27 {post : Int32 → SY → Prop} (hS : ed_Sh rr cc R C) (hC : ed_Ce ce R C T) {v n N : Nat} {b : Int} {d : Int32} (hv : v < 4) (hn : C v = n) (hN : R v * n = N) (hd : d.toInt = b.tmod (n : Int) + n) (k : post 1 (upd rr v (nI (R v)), upd cc v (nI (C v)), ed_cp ce (v * 48) (R v * C v) (ed_cp ma 0 N (fun t => ed_I (ed_rF T v n b t))), ed_cp ma 0 N (fun t => ed_I (ed_rF T v n b t)), od, po, sy)) : ∀ m i : Nat, N < m + i → i ≤ N → wY_rotate_27 post (nI v) (nI n) d m (nI i) rr cc ce (ed_cp ma 0 i (fun t => ed_I (ed_rF T v n b t))) od po sy := by
  intro m
  obtain ⟨g1, g2, g3, g4, g5, g6, g7⟩ := hS v hv
  rw [hn] at g2 g5 g6 g7
  induction m with
  | zero => intro i h1 h2; omega
  | succ m ih =>
    intro i h1 h2
    rw [wY_rotate_27]
    refine ed_yCnt hv g1 g2 ?_
    rw [hN]
    by_cases e : i = N
    · subst e
      exact br_t (nI_le (Nat.le_refl _) (by omega)) (ed_yGiv hS hv hv ⟨rfl, k⟩)
    · have tb := tmod_bounds (a := b) (M := (n : Int)) (by omega)
      have hD : d = nI (b.tmod (n : Int) + n).toNat := Int32.toInt_inj.mp (by rw [hd, nI_toInt (by omega)]; omega)
      have h0 : ¬ nI n = 0 := nI_ne0 (by omega) (by omega)
      have hi : i / n * n + i % n = i := by rw [Nat.mul_comm]; exact Nat.div_add_mod i n
      have hmod := Nat.mod_lt i (show 0 < n by omega)
      have hq : (i % n + (b.tmod (n : Int) + n).toNat) % n = ed_ro (i % n) b n := by
        rw [← ed_ro_t]
        unfold ed_ro
        have e1 : (((i % n : Nat) : Int) + b.tmod (n : Int)) % (n : Int) = (((i % n + (b.tmod (n : Int) + n).toNat) % n : Nat) : Int) := by
          have e3 : ((i % n : Nat) : Int) + b.tmod (n : Int) + (n : Int) = ((i % n + (b.tmod (n : Int) + n).toNat : Nat) : Int) := by omega
          rw [← Int.add_emod_right, e3, ← Int.natCast_emod]
        rw [e1, Int.toNat_natCast]
      have hrow : i / n < R v := by
        apply Nat.div_lt_of_lt_mul
        rw [Nat.mul_comm]
        omega
      have hro := ed_ro_lt (i % n) b (show 0 < n by omega)
      have hfl := ed_fl_lt hrow hro
      rw [hN] at hfl
      rw [hD, pk_rem (show i < 2 ^ 31 by omega) (by omega) (by omega), nI_add, pk_rem (show i % n + (b.tmod (n : Int) + n).toNat < 2 ^ 31 by omega) (by omega) (by omega), hq, ed_iy, pk_sub (by omega), nI_add, show v * 48 + i - i % n + ed_ro (i % n) b n = v * 48 + (i / n * n + ed_ro (i % n) b n) by omega, nI_clamp (show v * 48 + (i / n * n + ed_ro (i % n) b n) < 2 ^ 31 by omega), nI_clamp (show i < 2 ^ 31 by omega), hC v (i / n * n + ed_ro (i % n) b n) hv (by rw [hn, hN]; omega)]
      rw [← hD]
      exact br_f (nI_ge (by omega) (by omega)) ⟨h0, h0, h0, vp_in_nI (by omega) (by decide), vp_in_nI (by omega) (by decide), nm_r (ed_cpS0 ma i (fun t => ed_I (ed_rF T v n b t))) (nm_r (nI_1 i) (ih (i + 1) (by omega) (by omega)))⟩
theorem ed_yRo {post : Int32 → SY → Prop} (hS : ed_Sh rr cc R C) (hC : ed_Ce ce R C T) {x y : Int32} (hy : ∀ v, v < 4 → x = nI v → ∀ u', ed_PY (ed_up R v (R v)) (ed_up C v (C v)) (ed_up T v (ed_rF T v (C v) y.toInt)) u' → post 1 u') (hn : (∀ v, v < 4 → x ≠ nI v) → post 0 (rr, cc, ce, ma, od, po, sy)) : wpY_rotate post (rr, cc, ce, ma, od, po, sy) x y := by
  unfold wpY_rotate
  dsimp only
  refine ed_yTab (fun v hv e => br_f (by decide) ?_) (fun h => br_t rfl (hn h))
  have hq := hy v hv e
  subst e
  obtain ⟨g1, g2, g3, g4, g5, g6, g7⟩ := hS v hv
  rw [nI_clamp (show v < 2 ^ 31 by omega), g2]
  have tn : (nI (C v)).toInt = ((C v : Nat) : Int) := nI_toInt (by omega)
  have tb := tmod_bounds (a := y.toInt) (M := ((C v : Nat) : Int)) (by omega)
  have t1 : (y - y / nI (C v) * nI (C v)).toInt = y.toInt.tmod ((C v : Nat) : Int) := by rw [rem_toInt, tn]
  have t2 : (y - y / nI (C v) * nI (C v) + nI (C v)).toInt = y.toInt.tmod ((C v : Nat) : Int) + ((C v : Nat) : Int) := by
    rw [Jvm.Kit.i32_add (by rw [t1, tn]; omega) (by rw [t1, tn]; omega), t1, tn]
  have k := ed_yRo27 (post := post) (ce := ce) (ma := ma) (od := od) (po := po) (sy := sy) (b := y.toInt) hS hC hv rfl rfl t2 (hq _ (ed_PYr hS hC hv (fun t ht => ed_cp0_in ht))) (R v * C v + 1) 0 (by omega) (by omega)
  rw [ed_cp0] at k
  exact ⟨vp_in_nI hv (by decide), nm_e ⟨nI_ne0 (by omega) (by omega), nm_e ⟨_, k⟩⟩⟩
end
theorem i_vc_rotate {k : Nat} {u : SX} {v : SY} (I : i_Rel k u v) (hk : k + 5 ≤ 2560) (v1 : Int32) (v2 : Int32) : wpX_rotate (fun r u' => wpY_rotate (fun r' v' => r' = r ∧ i_Rel (k + 5) u' v') v v1 v2) u v1 v2 := by
  have I0 := I
  obtain ⟨R, C, T, ⟨ce, rr, cc, re, ba, cu, ol, sa, rfl, hS, hC⟩, ⟨rr', cc', ce', ma, od, po, sy, rfl, hS', hC'⟩⟩ := I
  refine ed_xRo hS hC (fun j hj e u' hu => ed_yRo hS' hC' (fun j' hj' e' v' hv => ?_) (fun h => absurd e (h j hj))) (fun h => ed_yRo hS' hC' (fun j hj e => absurd e (h j hj)) (fun _ => ⟨rfl, I0⟩))
  obtain rfl := ed_nIe hj hj' (e.symm.trans e')
  exact ⟨rfl, _, _, _, hu, hv⟩
