/-! Y: solve, recurrence, predict; both -/
theorem ed_72 {N L : Nat} (hN : N ≤ 16) (hL : L ≤ N) : (N - L) * (L + 1) ≤ 72 := by
  have h : ∀ L, L < 17 → (16 - L) * (L + 1) ≤ 72 := by decide
  exact Nat.le_trans (Nat.mul_le_mul_right (L + 1) (show N - L ≤ 16 - L by omega)) (h L (by omega))
theorem ed_sb {a L b : Nat} (hb : b < L) : nI (L + a) - 1 - nI b = nI (L + a - 1 - b) := by
  have e : nI (L + a) - 1 = nI (L + a - 1) := pk_sub (b := 1) (by omega)
  rw [e, pk_sub (by omega)]
/-- the equations of a recurrence of length L -/
def ed_A0 (s : Nat → ed_K) (L : Nat) (e k : Nat) : ed_K := if k < L then s (L + e - 1 - k) else s (L + e)
theorem ed_A0_g {s : Nat → ed_K} {N L : Nat} (q : Nat → ed_K) : ed_sol (ed_A0 s L) (N - L) L q ↔ ed_gen s L q N :=
  ed_sys (fun e k _ hk => if_pos hk) (fun e _ => if_neg (Nat.lt_irrefl L)) q
section
variable {R C : Nat → Nat} {T : Nat → Nat → ed_K} {rr cc ce ma od po sy : Nat → Int32}
theorem ed_ySo120 {post : Int32 → SY → Prop} {E L d : Nat} {A : Nat → Nat → ed_K} (h72 : E * (L + 1) ≤ 72) (hE : E ≤ 16) (hL : L ≤ 16) (hm : ed_Mx sy E (L + 1) A) (k1 : (∀ e, d ≤ e → e < E → A e L = 0) → post 1 (rr, cc, ce, ma, od, po, sy)) (k0 : ∀ e, d ≤ e → e < E → A e L ≠ 0 → post 0 (rr, cc, ce, ma, od, po, sy)) : ∀ n e : Nat, E < n + e → e ≤ E → d ≤ e → (∀ e', d ≤ e' → e' < e → A e' L = 0) → wY_solve_120 post (nI L) (nI E) (nI (L + 1)) rr cc ce ma od po sy n (nI e) := by
  intro n
  induction n with
  | zero => intro e h1 h2; omega
  | succ n ih =>
    intro e h1 h2 h3 h4
    rw [wY_solve_120]
    dsimp only
    by_cases q : e = E
    · subst q
      exact br_t (nI_le (Nat.le_refl _) (by omega)) (k1 h4)
    · have he : e < E := by omega
      have f1 := ed_fl_lt he (show L < L + 1 by omega)
      rw [ed_mxi, nI_clamp (show e * (L + 1) + L < 2 ^ 31 by omega), hm e L he (by omega)]
      refine br_f (nI_ge (by omega) (by omega)) ⟨vp_in_nI (by omega) (by decide), br_c (fun c => nm_r (nI_1 e) (ih (e + 1) (by omega) (by omega) (by omega) (fun e' h5 h6 => ?_))) (fun c => k0 e h3 he (fun z => c ((ed_I_z _).mpr z)))⟩
      by_cases l : e' = e
      · rw [l]
        exact (ed_I_z _).mp c
      · exact h4 e' h5 (by omega)
theorem ed_ySo86 {post : Int32 → SY → Prop} {E L : Nat} {B : Nat → Nat → ed_K} (h72 : E * (L + 1) ≤ 72) (hE : E ≤ 16) (hL : L ≤ 16) (k1 : ∀ (sy' : Nat → Int32) (A : Nat → Nat → ed_K) (d : Nat) (pc : Nat → Nat), ed_Mx sy' E (L + 1) A → ed_ge A E L d pc → (∀ q, ed_sol B E L q ↔ ed_sol A E L q) → (∃ q, ed_sol B E L q) → post 1 (rr, cc, ce, ma, od, po, sy')) (k0 : ∀ sy' : Nat → Int32, (¬ ∃ q, ed_sol B E L q) → post 0 (rr, cc, ce, ma, od, po, sy')) : ∀ (n t d : Nat) (pc : Nat → Nat) (A : Nat → Nat → ed_K) (sy : Nat → Int32), L < n + t → t ≤ L → ed_Mx sy E (L + 1) A → ed_ge A E t d pc → (∀ q, ed_sol B E L q ↔ ed_sol A E L q) → wY_solve_86 post (nI L) (nI E) (nI (L + 1)) n (nI d) (nI t) rr cc ce ma od po sy := by
  intro n
  induction n with
  | zero => intro t d pc A sy h1 h2; omega
  | succ n ih =>
    intro t d pc A sy h1 h2 hm hg hs
    rw [wY_solve_86]
    dsimp only
    have hdE := hg.2.1
    by_cases q : t = L
    · subst q
      refine br_t (nI_le (Nat.le_refl _) (by omega)) ⟨E + 1, ed_ySo120 h72 hE hL hm (fun h => k1 sy A d pc hm hg hs ?_) (fun e h5 h6 h7 => k0 sy (fun z => ?_)) (E + 1) d (by omega) hdE (Nat.le_refl _) (fun e h5 h6 => by omega)⟩
      · obtain ⟨q, hq⟩ := ed_ge_yes hg h
        exact ⟨q, (hs q).mpr hq⟩
      · obtain ⟨q, hq⟩ := z
        exact h7 (ed_ge_no hg ((hs q).mp hq) e h5 h6)
    · refine br_f (nI_ge (by omega) (by omega)) (ed_yEl h72 hE (by omega) hdE (by omega) hm (fun h => br_t rfl (nm_r (nI_1 t) (ih (t + 1) d pc A sy (by omega) (by omega) hm (ed_ge_n hg h) hs))) (fun p sy' h5 h6 h7 hm' => br_f (by decide) (nm_r (nI_1 d) (nm_r (nI_1 t) ?_))))
      obtain ⟨s1, s2⟩ := ed_st_p (L := L) hg (by omega) h5 h6 h7
      exact ih (t + 1) (d + 1) _ _ sy' (by omega) (by omega) hm' s1 (fun q => (hs q).trans (s2 q))
theorem ed_ySo13 {post : Int32 → SY → Prop} (hC : ed_Ce ce R C T) {v N L : Nat} (hv : v < 4) (hR : R v = 1) (hN : C v = N) (h16 : N ≤ 16) (hL : L ≤ N) (kk : ∃ n, wY_solve_86 post (nI L) (nI (N - L)) (nI (L + 1)) n 0 0 rr cc ce ma od po (ed_cp sy 0 ((N - L) * (L + 1)) (fun e => ed_I (ed_A0 (T v) L (e / (L + 1)) (e % (L + 1)))))) : ∀ n e : Nat, (N - L) * (L + 1) < n + e → e ≤ (N - L) * (L + 1) → wY_solve_13 post (nI v) (nI L) (nI (N - L)) (nI (L + 1)) n (nI e) rr cc ce ma od po (ed_cp sy 0 e (fun e => ed_I (ed_A0 (T v) L (e / (L + 1)) (e % (L + 1))))) := by
  intro n
  have h72 := ed_72 h16 hL
  have hw : ¬ nI (L + 1) = 0 := nI_ne0 (by omega) (by omega)
  induction n with
  | zero => intro e h1 h2; omega
  | succ n ih =>
    intro e h1 h2
    rw [wY_solve_13]
    dsimp only
    rw [pk_mul]
    by_cases q : e = (N - L) * (L + 1)
    · subst q
      exact br_t (nI_le (Nat.le_refl _) (by omega)) kk
    · have i3 := ih (e + 1) (by omega) (by omega)
      have hd : e / (L + 1) < N - L := Nat.div_lt_of_lt_mul (by rw [Nat.mul_comm]; omega)
      have hmo := Nat.mod_lt e (show 0 < L + 1 by omega)
      have st := ed_cpS0 sy e (fun e => ed_I (ed_A0 (T v) L (e / (L + 1)) (e % (L + 1))))
      rw [nI_clamp (show e < 2 ^ 31 by omega)]
      refine br_f (nI_ge (by omega) (by omega)) ⟨hw, nm_r (e' := nI (L + e / (L + 1))) (by rw [pk_div (show e < 2 ^ 31 by omega) (by omega) (by omega), nI_add]) ⟨hw, nm_r (pk_rem (show e < 2 ^ 31 by omega) (by omega) (by omega)) (pk_le L (e % (L + 1)) (fun c => ?_) (fun c => ?_))⟩⟩
      · have hA : ed_A0 (T v) L (e / (L + 1)) (e % (L + 1)) = T v (L + e / (L + 1)) := if_neg (by omega)
        have hc := hC v (L + e / (L + 1)) hv (by rw [hR, hN]; omega)
        rw [ed_iy, nI_clamp (show v * 48 + (L + e / (L + 1)) < 2 ^ 31 by omega), hc, ← hA]
        exact ⟨vp_in_nI (by omega) (by decide), vp_in_nI (by omega) (by decide), nm_r st (nm_r (nI_1 e) i3)⟩
      · have hA : ed_A0 (T v) L (e / (L + 1)) (e % (L + 1)) = T v (L + e / (L + 1) - 1 - e % (L + 1)) := if_pos (by omega)
        have hc := hC v (L + e / (L + 1) - 1 - e % (L + 1)) hv (by rw [hR, hN]; omega)
        rw [ed_sb c, ed_iy, nI_clamp (show v * 48 + (L + e / (L + 1) - 1 - e % (L + 1)) < 2 ^ 31 by omega), hc, ← hA]
        exact ⟨vp_in_nI (by omega) (by decide), vp_in_nI (by omega) (by decide), nm_r st (nm_r (nI_1 e) i3)⟩
theorem ed_ySo {post : Int32 → SY → Prop} (hC : ed_Ce ce R C T) {v N L : Nat} (hv : v < 4) (hR : R v = 1) (hN : C v = N) (h16 : N ≤ 16) (hL : L ≤ N) (k1 : ∀ (sy' : Nat → Int32) (A : Nat → Nat → ed_K) (d : Nat) (pc : Nat → Nat), ed_Mx sy' (N - L) (L + 1) A → ed_ge A (N - L) L d pc → (∀ q, ed_gen (T v) L q N ↔ ed_sol A (N - L) L q) → (∃ q, ed_gen (T v) L q N) → post 1 (rr, cc, ce, ma, od, po, sy')) (k0 : ∀ sy' : Nat → Int32, (¬ ∃ q, ed_gen (T v) L q N) → post 0 (rr, cc, ce, ma, od, po, sy')) : wpY_solve post (rr, cc, ce, ma, od, po, sy) (nI v) (nI N) (nI L) := by
  unfold wpY_solve
  dsimp only
  have h72 := ed_72 h16 hL
  have g := ed_ySo86 (post := post) (rr := rr) (cc := cc) (ce := ce) (ma := ma) (od := od) (po := po) (E := N - L) (L := L) (B := ed_A0 (T v) L) h72 (by omega) (by omega) (fun sy' A d pc hm hg hs hx => k1 sy' A d pc hm hg (fun q => (ed_A0_g q).symm.trans (hs q)) (by obtain ⟨q, hq⟩ := hx; exact ⟨q, (ed_A0_g q).mp hq⟩)) (fun sy' h => k0 sy' (fun z => h (by obtain ⟨q, hq⟩ := z; exact ⟨q, (ed_A0_g q).mpr hq⟩))) (L + 1) 0 0 (fun _ => 0) (ed_A0 (T v) L) (ed_cp sy 0 ((N - L) * (L + 1)) (fun e => ed_I (ed_A0 (T v) L (e / (L + 1)) (e % (L + 1))))) (by omega) (by omega) (fun e k he hk => by
    rw [ed_cp0_in (ed_fl_lt he hk), ed_fl_div hk, ed_fl_mod hk]) (ed_ge_0 _ _ _) (fun q => Iff.rfl)
  have g2 := ed_ySo13 (post := post) (rr := rr) (cc := cc) (ma := ma) (od := od) (po := po) (sy := sy) hC hv hR hN h16 hL ⟨_, g⟩ ((N - L) * (L + 1) + 1) 0 (by omega) (by omega)
  rw [ed_cp0] at g2
  exact nm_r (pk_sub hL) (nm_r (nI_1 L) ⟨_, g2⟩)
theorem ed_yRe29 {post : Int32 → SY → Prop} (hC : ed_Ce ce R C T) {v N : Nat} (hv : v < 4) (hR : R v = 1) (hN : C v = N) (h16 : N ≤ 16) (kk : ∀ (sy' : Nat → Int32) (L : Nat), ed_least (T v) N L → post (nI L) (rr, cc, ce, ma, od, po, sy')) : ∀ (n L : Nat) (sy : Nat → Int32), N < n + L → L ≤ N → (∀ L', L' < L → ¬ ∃ q, ed_gen (T v) L' q N) → wY_recurrence_29 post (nI v) (nI N) n (nI L) rr cc ce ma od po sy := by
  intro n
  induction n with
  | zero => intro L sy h1 h2; omega
  | succ n ih =>
    intro L sy h1 h2 h3
    rw [wY_recurrence_29]
    dsimp only
    have hmin : ∀ L2 d, ed_gen (T v) L2 d N → L ≤ L2 := fun L2 d hd => by
      apply Classical.byContradiction
      intro c
      exact h3 L2 (by omega) ⟨d, hd⟩
    by_cases q : L = N
    · subst q
      exact br_t (nI_le (Nat.le_refl _) (by omega)) (kk sy L ⟨Nat.le_refl _, ⟨fun _ => 0, fun i h5 h6 => by omega⟩, hmin⟩)
    · refine br_f (nI_ge (by omega) (by omega)) (ed_ySo hC hv hR hN h16 h2 (fun sy' A d pc hm hg hs hx => br_f (by decide) (kk sy' L ⟨h2, hx, hmin⟩)) (fun sy' h => br_t rfl (nm_r (nI_1 L) (ih (L + 1) sy' (by omega) (by omega) (fun L' h5 => ?_)))))
      by_cases l : L' = L
      · rw [l]
        exact h
      · exact h3 L' (by omega)
theorem ed_yRe {post : Int32 → SY → Prop} (hS : ed_Sh rr cc R C) (hC : ed_Ce ce R C T) {x : Int32} (hy : ∀ v, v < 4 → x = nI v → R v = 1 → ∀ (sy' : Nat → Int32) (L : Nat), ed_least (T v) (C v) L → post (nI L) (rr, cc, ce, ma, od, po, sy')) (hn : (∀ v, v < 4 → x = nI v → R v ≠ 1) → post (-1) (rr, cc, ce, ma, od, po, sy)) : wpY_recurrence post (rr, cc, ce, ma, od, po, sy) x := by
  unfold wpY_recurrence
  dsimp only
  refine ed_yRow hS (fun v hv e hR => ?_) hn
  have hq := hy v hv e hR
  subst e
  obtain ⟨g1, g2, g3, g4, g5, g6, g7⟩ := hS v hv
  rw [nI_clamp (show v < 2 ^ 31 by omega), g2]
  exact ⟨vp_in_nI hv (by decide), nm_e ⟨C v + 1, ed_yRe29 hC hv hR rfl g6 hq (C v + 1) 0 sy (by omega) (by omega) (fun L' h => by omega)⟩⟩
theorem ed_yPd45 {post : Int32 → SY → Prop} (hC : ed_Ce ce R C T) {v N L : Nat} {A : Nat → Nat → ed_K} (hv : v < 4) (hR : R v = 1) (hN : C v = N) (h16 : N ≤ 16) (h2L : 2 * L ≤ N) (hm : ed_Mx sy (N - L) (L + 1) A) (kk : post (ed_I (ed_sm (fun t => A t L * T v (N - 1 - t)) L)) (rr, cc, ce, ma, od, po, sy)) : ∀ (n t : Nat) (S : Int64), L < n + t → t ≤ L → ed_Ac S t (ed_sm (fun t => A t L * T v (N - 1 - t)) t) → wY_predict_45 post (nI v) (nI L) (nI N) rr cc ce ma od po sy n S (nI t) := by
  intro n
  have h72 := ed_72 h16 (show L ≤ N by omega)
  induction n with
  | zero => intro t S h1 h2; omega
  | succ n ih =>
    intro t S h1 h2 h3
    rw [wY_predict_45]
    dsimp only
    by_cases q : t = L
    · subst q
      exact br_t (nI_le (Nat.le_refl _) (by omega)) (ed_yMod S h3.1 kk)
    · have ht : t < N - L := by omega
      have f1 := ed_fl_lt ht (show L < L + 1 by omega)
      have hc := hC v (N - 1 - t) hv (by rw [hR, hN]; omega)
      have e1 : 48 * nI v + nI N - 1 - nI t = nI (v * 48 + (N - 1 - t)) := by
        have e2 : nI (v * 48 + N) - 1 = nI (v * 48 + N - 1) := pk_sub (b := 1) (by omega)
        rw [ed_iy, e2, pk_sub (by omega)]
        exact congrArg nI (by omega)
      rw [nI_1, ed_mxi, e1, nI_clamp (show t * (L + 1) + L < 2 ^ 31 by omega), nI_clamp (show v * 48 + (N - 1 - t) < 2 ^ 31 by omega), hm t L ht (by omega), hc]
      exact br_f (nI_ge (by omega) (by omega)) ⟨vp_in_nI (by omega) (by decide), vp_in_nI (by omega) (by decide), ed_yPro _ _ (nm_e (nm_r (nI_1 t) (ih (t + 1) _ (by omega) (by omega) (ed_AcS h3 (by omega) _))))⟩
theorem ed_yPd {post : Int32 → SY → Prop} (hS : ed_Sh rr cc R C) (hC : ed_Ce ce R C T) {x : Int32} (hy : ∀ v, v < 4 → x = nI v → R v = 1 → ∀ u' L q, ed_least (T v) (C v) L → 2 * L ≤ C v → ed_gen (T v) L q (C v) → ed_PY R C T u' → post (ed_I (ed_sm (fun t => q t * T v (C v - 1 - t)) L)) u') (hn : ∀ u', ed_PY R C T u' → (∀ v, v < 4 → x = nI v → R v = 1 → ∀ L, ed_least (T v) (C v) L → ¬ 2 * L ≤ C v) → post (-1) u') : wpY_predict post (rr, cc, ce, ma, od, po, sy) x := by
  unfold wpY_predict
  dsimp only
  refine ed_yRe hS hC (fun v hv e hR sy1 L hL => ?_) (fun h => br_t (by decide) (hn _ ⟨_, _, _, _, _, _, _, rfl, hS, hC⟩ (fun v hv e hR => absurd hR (h v hv e))))
  have hq := hy v hv e hR
  have hn2 : ∀ u', ed_PY R C T u' → ¬ 2 * L ≤ C v → post (-1) u' := fun u' hu h2 => hn u' hu (fun v' hv' e' _ L' hL' => by
    obtain rfl := ed_nIe hv hv' (e.symm.trans e')
    rw [ed_least_u hL' hL]
    exact h2)
  clear hn hy
  subst e
  obtain ⟨g1, g2, g3, g4, g5, g6, g7⟩ := hS v hv
  have va : vp_in (nI v) 4 := vp_in_nI hv (by decide)
  have hLN := hL.1
  dsimp only
  rw [nI_clamp (show v < 2 ^ 31 by omega), g2, ed_i2]
  refine br_f (nI_pos (by omega)) ⟨va, pk_le (2 * L) (C v) (fun c => ⟨va, nm_e (ed_ySo hC hv hR rfl g6 hLN (fun sy' A d pc hm hg hs hx => ?_) (fun sy' h => absurd hL.2.1 h))⟩) (fun c => hn2 _ ⟨_, _, _, _, _, _, _, rfl, hS, hC⟩ (by omega))⟩
  obtain ⟨q, hgq⟩ := hx
  have one := ed_ge_one ed_10 hg ((hs q).mp hgq) (fun q' hq' t ht => ed_quniq ed_iv ed_hiv ((hs q').mpr hq') hgq hL.2.2 c t ht)
  have es : ed_sm (fun t => A t L * T v (C v - 1 - t)) L = ed_sm (fun t => q t * T v (C v - 1 - t)) L := ed_sm_congr (fun t ht => by rw [one.2 t ht])
  refine ⟨L + 1, ed_yPd45 hC hv hR rfl g6 c hm ?_ (L + 1) 0 0 (by omega) (by omega) ed_Ac0⟩
  rw [es]
  exact hq _ L q hL c hgq ⟨_, _, _, _, _, _, _, rfl, hS, hC⟩
end
theorem i_vc_recurrence {k : Nat} {u : SX} {v : SY} (I : i_Rel k u v) (hk : k + 5 ≤ 2560) (v1 : Int32) : wpX_recurrence (fun r u' => wpY_recurrence (fun r' v' => r' = r ∧ i_Rel (k + 5) u' v') v v1) u v1 := by
  have I0 := I
  obtain ⟨R, C, T, ⟨ce, rr, cc, re, ba, cu, ol, sa, rfl, hS, hC⟩, ⟨rr', cc', ce', ma, od, po, sy, rfl, hS', hC'⟩⟩ := I
  refine ed_xRe hS hC (fun j hj e hR u' L hL hu => ed_yRe hS' hC' (fun j' hj' e' hR' sy' L' hL' => ?_) (fun h => absurd hR (h j hj e))) (fun h => ed_yRe hS' hC' (fun j hj e hR => absurd hR (h j hj e)) (fun _ => ⟨rfl, I0⟩))
  obtain rfl := ed_nIe hj hj' (e.symm.trans e')
  rw [ed_least_u hL' hL]
  exact ⟨rfl, _, _, _, hu, ⟨_, _, _, _, _, _, _, rfl, hS', hC'⟩⟩
theorem i_vc_predict {k : Nat} {u : SX} {v : SY} (I : i_Rel k u v) (hk : k + 5 ≤ 2560) (v1 : Int32) : wpX_predict (fun r u' => wpY_predict (fun r' v' => r' = r ∧ i_Rel (k + 5) u' v') v v1) u v1 := by
  obtain ⟨R, C, T, ⟨ce, rr, cc, re, ba, cu, ol, sa, rfl, hS, hC⟩, ⟨rr', cc', ce', ma, od, po, sy, rfl, hS', hC'⟩⟩ := I
  refine ed_xPd hS hC (fun j hj e hR u' L q hL h2 hq hu => ed_yPd hS' hC' (fun j' hj' e' hR' v' L' q' hL' h2' hq' hv => ?_) (fun v' hv h => absurd h2 (h j hj e hR L hL))) (fun u' hu h => ed_yPd hS' hC' (fun j hj e hR v' L q hL h2 hq hv => absurd h2 (h j hj e hR L hL)) (fun v' hv _ => ⟨rfl, _, _, _, hu, hv⟩))
  obtain rfl := ed_nIe hj hj' (e.symm.trans e')
  obtain rfl := ed_least_u hL' hL
  have es : ed_sm (fun t => q' t * T j (C j - 1 - t)) L' = ed_sm (fun t => q t * T j (C j - 1 - t)) L' := ed_sm_congr (fun t ht => by rw [ed_quniq ed_iv ed_hiv hq' hq hL.2.2 h2 t ht])
  rw [es]
  exact ⟨rfl, _, _, _, hu, hv⟩
