/-! reciprocal -/
theorem ed_rc_x {a f : Nat → ed_K} {k : Nat} {v : ed_K} (h : ed_rc a k f) (h0 : k = 0 → v = ed_iv (a 0)) (hv : 0 < k → v = ed_iv (a 0) * (- ed_sm (fun i => a (i + 1) * f (k - (i + 1))) k)) : ed_rc a (k + 1) (ed_up f k v) := by
  have hs : ∀ t, 0 < t → t ≤ k → ed_sm (fun i => a (i + 1) * ed_up f k v (t - (i + 1))) t = ed_sm (fun i => a (i + 1) * f (t - (i + 1))) t := fun t h1 h2 => ed_sm_congr (fun i hi => by rw [ed_upn _ _ (by omega)])
  refine ⟨fun _ => ?_, fun t h1 h2 => ?_⟩
  · by_cases c : k = 0
    · subst c
      rw [ed_ups]
      exact h0 rfl
    · rw [ed_upn _ _ (by omega)]
      exact h.1 (by omega)
  · rw [hs t h1 (by omega)]
    by_cases c : t = k
    · subst c
      rw [ed_ups]
      exact hv h1
    · rw [ed_upn _ _ c]
      exact h.2 t h1 (by omega)
theorem ed_rg_r1 {K : Type} [Lean.Grind.CommRing K] (x y : K) : (0 - x) * y = y * (-x) := by grind
theorem ed_rg_r2 {K : Type} [Lean.Grind.CommRing K] (y : K) : (1 - 0) * y = y := by grind
theorem ed_rg_r3 {K : Type} [Lean.Grind.CommRing K] (x y z : K) : x - y - z = x - (y + z) := by grind
section
variable {R C : Nat → Nat} {T : Nat → Nat → ed_K} {ce rr cc re ba cu ol sa ma od po sy : Nat → Int32}
theorem ed_xRc73 {post : Int32 → SX → Prop} {J : Int32 → (Nat → Int32) → (Nat → Int32) → (Nat → Int32) → (Nat → Int32) → (Nat → Int32) → (Nat → Int32) → (Nat → Int32) → (Nat → Int32) → Prop} (hC : ed_Ce ce R C T) {c a N k : Nat} {f : Nat → ed_K} {ld : ed_K} (ha : a < 4) (hR : R a = 1) (hN : C a = N) (h16 : N ≤ 16) (hk : k < N) (hf : ∀ t, t < k → re t = ed_I (f t)) (kk : J (nI (k + 1)) ce rr cc (upd re k (ed_I (ld * (- ed_sm (fun i => T a (i + 1) * f (k - (i + 1))) k)))) ba cu ol sa) : ∀ n m : Nat, k < n + m → m ≤ k → wX_reciprocal_73 post J (nI c) (nI a) (nI N) (ed_I ld) (nI k) ce rr cc re ba cu ol sa n (ed_I (ed_sm (fun i => T a (i + 1) * f (k - (i + 1))) m)) (nI (m + 1)) := by
  intro n
  induction n with
  | zero => intro m h1 h2; omega
  | succ n ih =>
    intro m h1 h2
    rw [wX_reciprocal_73]
    dsimp only
    by_cases e : m = k
    · subst e
      rw [nI_clamp (show m < 2 ^ 31 by omega)]
      exact br_t (nI_lt (by omega) (by omega)) (ed_xPrn _ _ ⟨vp_in_nI (by omega) (by decide), nm_e (nm_r (nI_1 m) kk)⟩)
    · have i3 := ih (m + 1) (by omega) (by omega)
      rw [ed_ix, pk_sub (show m + 1 ≤ k by omega), nI_clamp (show a * 48 + (m + 1) < 2 ^ 31 by omega), nI_clamp (show k - (m + 1) < 2 ^ 31 by omega), hC a (m + 1) ha (by rw [hR, hN]; omega), hf (k - (m + 1)) (by omega)]
      exact br_f (nI_nlt (by omega) (by omega)) ⟨vp_in_nI (by omega) (by decide), vp_in_nI (by omega) (by decide), ed_xPP _ _ _ (nm_r (nI_1 (m + 1)) i3)⟩
theorem ed_xRc61 {post : Int32 → SX → Prop} (hC : ed_Ce ce R C T) {c a N : Nat} (hc : c < 4) (ha : a < 4) (hR : R a = 1) (hN : C a = N) (h16 : N ≤ 16) (kk : ∀ (re' : Nat → Int32) (f : Nat → ed_K), (∀ t, t < N → re' t = ed_I (f t)) → ed_rc (T a) N f → post 1 (ed_cp ce (c * 48) (1 * N) re', upd rr c (nI 1), upd cc c (nI N), re', ba, cu, ol, sa)) : ∀ (n k : Nat) (re : Nat → Int32) (f : Nat → ed_K), N < n + k → 1 ≤ k → k ≤ N → (∀ t, t < k → re t = ed_I (f t)) → ed_rc (T a) k f → wX_reciprocal_61 post (nI c) (nI a) (nI N) (ed_I (ed_iv (T a 0))) n (nI k) ce rr cc re ba cu ol sa := by
  intro n
  induction n with
  | zero => intro k re f h1 h2 h3; omega
  | succ n ih =>
    intro k re f h1 h2 h3 hf hr
    rw [wX_reciprocal_61]
    dsimp only
    by_cases e : k = N
    · subst e
      exact br_t (nI_le (Nat.le_refl _) (by omega)) (ed_xDel (h := 1) hc (by omega) (kk re f hf hr))
    · refine br_f (nI_ge (by omega) (by omega)) ⟨k + 1, ?_⟩
      have g := ed_xRc73 (post := post) (J := wX_reciprocal_61 post (nI c) (nI a) (nI N) (ed_I (ed_iv (T a 0))) n) (rr := rr) (cc := cc) (ba := ba) (cu := cu) (ol := ol) (sa := sa) (c := c) (ld := ed_iv (T a 0)) hC ha hR hN h16 (by omega) hf (ih (k + 1) _ (ed_up f k (ed_iv (T a 0) * (- ed_sm (fun i => T a (i + 1) * f (k - (i + 1))) k))) (by omega) (by omega) (by omega) (fun t ht => by
        by_cases q : t = k
        · subst q
          rw [ed_us, ed_ups]
        · rw [ed_un q, ed_upn _ _ q]
          exact hf t (by omega)) (ed_rc_x hr (fun z => by omega) (fun _ => rfl))) (k + 1) 0 (by omega) (by omega)
      rw [ed_sm0, ed_I_0] at g
      exact g
theorem ed_xRc {post : Int32 → SX → Prop} (hS : ed_Sh rr cc R C) (hC : ed_Ce ce R C T) {x y : Int32} (hy : ∀ l a, l < 4 → a < 4 → x = nI l → y = nI a → R a = 1 → T a 0 ≠ 0 → ∀ u' f, ed_rc (T a) (C a) f → ed_PX (ed_up R l 1) (ed_up C l (C a)) (ed_up T l f) u' → post 1 u') (hn : (∀ l a, l < 4 → a < 4 → x = nI l → y = nI a → R a = 1 → T a 0 = 0) → post 0 (ce, rr, cc, re, ba, cu, ol, sa)) : wpX_reciprocal post (ce, rr, cc, re, ba, cu, ol, sa) x y := by
  unfold wpX_reciprocal
  dsimp only
  refine ed_xTab (fun l hl e => br_f (by decide) (ed_xRow hS (fun a ha e2 hR => br_f (by decide) ?_) (fun h => br_t rfl (hn (fun l a hl ha _ e hR => absurd hR (h a ha e)))))) (fun h => br_t rfl (hn (fun l a hl ha e => absurd e (h l hl))))
  have hq := hy l a hl ha e e2 hR
  have hn2 : T a 0 = 0 → post 0 (ce, rr, cc, re, ba, cu, ol, sa) := fun z => hn (fun l' a' hl' ha' _ e _ => by rw [← ed_nIe ha ha' (e2.symm.trans e)]; exact z)
  subst e e2
  obtain ⟨g1, g2, g3, g4, g5, g6, g7⟩ := hS a ha
  have h0 := hC a 0 ha (by rw [hR]; omega)
  rw [Nat.add_zero] at h0
  have v0 : vp_in (nI (a * 48)) 192 := vp_in_nI (by omega) (by decide)
  rw [ed_ix0, nI_clamp (show a * 48 < 2 ^ 31 by omega), nI_clamp (show a < 2 ^ 31 by omega), g2, h0]
  refine ⟨v0, br_c (fun c => hn2 ((ed_I_z _).mp c)) (fun c => ⟨vp_in_nI ha (by decide), nm_e ⟨v0, ed_xInv _ (nm_e ?_)⟩⟩)⟩
  have h1 : 1 * C a ≤ 48 := by omega
  have k := ed_xRc61 (post := post) (ce := ce) (rr := rr) (cc := cc) (ba := ba) (cu := cu) (ol := ol) (sa := sa) hC hl ha hR rfl g6 (fun re' f hf hr => hq (fun z => c ((ed_I_z _).mpr z)) _ f hr ⟨_, _, _, _, _, _, _, _, rfl, ed_Sh_up hS (by decide) (by decide) g5 g6 h1, ed_Ce_up hC (ed_ShB hS) h1 (fun i hi => hf i (by omega))⟩) (C a + 1) 1 (upd re 0 (ed_I (ed_iv (T a 0)))) (fun _ => ed_iv (T a 0)) (by omega) (by omega) g5 (fun t ht => by
    have t0 : t = 0 := by omega
    subst t0
    rw [ed_us]) ⟨fun _ => rfl, fun k h1 h2 => by omega⟩
  exact ⟨_, k⟩
theorem ed_yRc71 {post : Int32 → SY → Prop} {J : ed_J7} (hC : ed_Ce ce R C T) {c a N k : Nat} {f : Nat → ed_K} {i0 : ed_K} (ha : a < 4) (hR : R a = 1) (hN : C a = N) (h16 : N ≤ 16) (hk : k < N) (hf : ∀ t, t < k → ma t = ed_I (f t)) (kk : J (nI (k + 1)) rr cc ce (upd ma k (ed_I ((i0 - ed_sm (fun i => T a (i + 1) * f (k - (i + 1))) k) * ed_iv (T a 0)))) od po sy) : ∀ (n m : Nat) (S : Int64), k < n + m → m ≤ k → ed_Ac S (m + 1) (i0 - ed_sm (fun i => T a (i + 1) * f (k - (i + 1))) m) → wY_reciprocal_71 post J (nI c) (nI a) (nI N) (nI k) rr cc ce ma od po sy n S (nI (m + 1)) := by
  intro n
  have h0 := hC a 0 ha (by rw [hR, hN]; omega)
  rw [Nat.add_zero] at h0
  induction n with
  | zero => intro m S h1 h2; omega
  | succ n ih =>
    intro m S h1 h2 h3
    rw [wY_reciprocal_71]
    dsimp only
    by_cases e : m = k
    · subst e
      rw [ed_iy0, nI_clamp (show a * 48 < 2 ^ 31 by omega), nI_clamp (show m < 2 ^ 31 by omega), h0]
      exact br_t (nI_lt (by omega) (by omega)) (ed_yMod S h3.1 ⟨vp_in_nI (by omega) (by decide), ed_yQuo _ _ ⟨vp_in_nI (by omega) (by decide), nm_e (nm_r (nI_1 m) kk)⟩⟩)
    · have i3 := fun S' h => ih (m + 1) S' (by omega) (by omega) h
      rw [ed_smS, ← ed_rg_r3] at i3
      rw [ed_iy, pk_sub (show m + 1 ≤ k by omega), nI_clamp (show a * 48 + (m + 1) < 2 ^ 31 by omega), nI_clamp (show k - (m + 1) < 2 ^ 31 by omega), hC a (m + 1) ha (by rw [hR, hN]; omega), hf (k - (m + 1)) (by omega)]
      exact br_f (nI_nlt (by omega) (by omega)) ⟨vp_in_nI (by omega) (by decide), vp_in_nI (by omega) (by decide), ed_yPro _ _ (nm_e (nm_r (nI_1 (m + 1)) (i3 _ (ed_AcM h3 (by omega) _))))⟩
theorem ed_Ac1 : ed_Ac 1 1 1 := by
  refine ⟨?_, ?_, ?_⟩ <;> decide +kernel
theorem ed_Ac01 : ed_Ac 0 1 0 := by
  refine ⟨?_, ?_, ?_⟩ <;> decide +kernel
theorem ed_rg_s0 {K : Type} [Lean.Grind.CommRing K] (x : K) : x - 0 = x := by grind
theorem ed_yRc50 {post : Int32 → SY → Prop} (hS : ed_Sh rr cc R C) (hC : ed_Ce ce R C T) {c a N : Nat} (hc : c < 4) (ha : a < 4) (hR : R a = 1) (hN : C a = N) (h16 : N ≤ 16) (kk : ∀ (ma' : Nat → Int32) (f : Nat → ed_K), (∀ t, t < N → ma' t = ed_I (f t)) → ed_rc (T a) N f → post 1 (upd rr c (nI (R a)), upd cc c (nI (C a)), ed_cp ce (c * 48) (R a * C a) ma', ma', od, po, sy)) : ∀ (n k : Nat) (ma : Nat → Int32) (f : Nat → ed_K), N < n + k → k ≤ N → (∀ t, t < k → ma t = ed_I (f t)) → ed_rc (T a) k f → wY_reciprocal_50 post (nI c) (nI a) (nI N) n (nI k) rr cc ce ma od po sy := by
  intro n
  induction n with
  | zero => intro k ma f h1 h2; omega
  | succ n ih =>
    intro k ma f h1 h2 hf hr
    rw [wY_reciprocal_50]
    dsimp only
    by_cases e : k = N
    · subst e
      exact br_t (nI_le (Nat.le_refl _) (by omega)) (ed_yGiv hS hc ha ⟨rfl, kk ma f hf hr⟩)
    · have nx : ∀ v : ed_K, (k = 0 → v = ed_iv (T a 0)) → (0 < k → v = ed_iv (T a 0) * (- ed_sm (fun i => T a (i + 1) * f (k - (i + 1))) k)) → wY_reciprocal_50 post (nI c) (nI a) (nI N) n (nI (k + 1)) rr cc ce (upd ma k (ed_I v)) od po sy := fun v v0 v1 => ih (k + 1) _ (ed_up f k v) (by omega) (by omega) (fun t ht => by
        by_cases q : t = k
        · subst q
          rw [ed_us, ed_ups]
        · rw [ed_un q, ed_upn _ _ q]
          exact hf t (by omega)) (ed_rc_x hr v0 v1)
      refine br_f (nI_ge (by omega) (by omega)) (pk_eq k 0 (fun c0 => ⟨k + 1, ?_⟩) (fun c0 => ⟨k + 1, ?_⟩))
      · exact ed_yRc71 (i0 := 1) hC ha hR hN h16 (by omega) hf (nx _ (fun _ => by subst c0; rw [ed_sm0, ed_rg_r2]) (fun z => by omega)) (k + 1) 0 1 (by omega) (by omega) (by rw [ed_sm0, ed_rg_s0]; exact ed_Ac1)
      · exact ed_yRc71 (i0 := 0) hC ha hR hN h16 (by omega) hf (nx _ (fun z => absurd z c0) (fun _ => ed_rg_r1 _ _)) (k + 1) 0 0 (by omega) (by omega) (by rw [ed_sm0, ed_rg_s0]; exact ed_Ac01)
theorem ed_yRc {post : Int32 → SY → Prop} (hS : ed_Sh rr cc R C) (hC : ed_Ce ce R C T) {x y : Int32} (hy : ∀ l a, l < 4 → a < 4 → x = nI l → y = nI a → R a = 1 → T a 0 ≠ 0 → ∀ u' f, ed_rc (T a) (C a) f → ed_PY (ed_up R l 1) (ed_up C l (C a)) (ed_up T l f) u' → post 1 u') (hn : (∀ l a, l < 4 → a < 4 → x = nI l → y = nI a → R a = 1 → T a 0 = 0) → post 0 (rr, cc, ce, ma, od, po, sy)) : wpY_reciprocal post (rr, cc, ce, ma, od, po, sy) x y := by
  unfold wpY_reciprocal
  dsimp only
  refine ed_yTab (fun a ha e2 => br_f (by decide) (ed_yTab (fun l hl e => br_f (by decide) ?_) (fun h => br_t rfl (hn (fun l a hl ha e => absurd e (h l hl)))))) (fun h => br_t rfl (hn (fun l a hl ha _ e => absurd e (h a ha))))
  have hq := hy l a hl ha e e2
  have hn2 : (R a = 1 → T a 0 = 0) → post 0 (rr, cc, ce, ma, od, po, sy) := fun z => hn (fun l' a' hl' ha' _ e h => by rw [← ed_nIe ha ha' (e2.symm.trans e)] at h ⊢; exact z h)
  subst e e2
  obtain ⟨g1, g2, g3, g4, g5, g6, g7⟩ := hS a ha
  have va : vp_in (nI a) 4 := vp_in_nI ha (by decide)
  have v0 : vp_in (nI (a * 48)) 192 := vp_in_nI (by omega) (by decide)
  rw [ed_iy0, nI_clamp (show a * 48 < 2 ^ 31 by omega), nI_clamp (show a < 2 ^ 31 by omega), g1, g2]
  refine ⟨va, pk_lt 1 (R a) (fun c => hn2 (fun z => by omega)) (fun c => ⟨v0, ?_⟩)⟩
  have hR : R a = 1 := by omega
  have h0 := hC a 0 ha (by rw [hR]; omega)
  rw [Nat.add_zero] at h0
  rw [h0]
  refine br_c (fun c => hn2 (fun _ => (ed_I_z _).mp c)) (fun c => ⟨va, nm_e ?_⟩)
  have k := ed_yRc50 (post := post) (rr := rr) (cc := cc) (ce := ce) (od := od) (po := po) (sy := sy) hS hC hl ha hR rfl g6 (fun ma' f hf hr => hq hR (fun z => c ((ed_I_z _).mpr z)) _ f hr (by
    have q := ed_PYr (l := l) (od := od) (po := po) (sy := sy) hS hC ha (f := f) (b := ma') (fun i hi => hf i (by rw [hR] at hi; omega))
    rw [hR] at q ⊢
    exact q)) (C a + 1) 0 ma (fun _ => 0) (by omega) (by omega) (fun t ht => by omega) ⟨fun z => by omega, fun k h1 h2 => by omega⟩
  exact ⟨_, k⟩
/-- the same table but for elements that aren't there -/
theorem ed_PYcg {R C : Nat → Nat} {T : Nat → Nat → ed_K} {l r s : Nat} {f g : Nat → ed_K} {v : SY} (h : ed_PY (ed_up R l r) (ed_up C l s) (ed_up T l f) v) (e : ∀ t, t < r * s → f t = g t) : ed_PY (ed_up R l r) (ed_up C l s) (ed_up T l g) v := by
  obtain ⟨rr1, cc1, ce1, ma1, od1, po1, sy1, rfl, hS1, hC1⟩ := h
  refine ⟨_, _, _, _, _, _, _, rfl, hS1, ed_Ce_cg hC1 (fun v i hv hi => ?_)⟩
  by_cases q : v = l
  · subst q
    rw [ed_ups, ed_ups] at hi
    rw [ed_ups, ed_ups]
    exact e i hi
  · rw [ed_upn _ _ q, ed_upn _ _ q]
end
theorem i_vc_reciprocal {k : Nat} {u : SX} {v : SY} (I : i_Rel k u v) (hk : k + 5 ≤ 2560) (v1 : Int32) (v2 : Int32) : wpX_reciprocal (fun r u' => wpY_reciprocal (fun r' v' => r' = r ∧ i_Rel (k + 5) u' v') v v1 v2) u v1 v2 := by
  have I0 := I
  obtain ⟨R, C, T, ⟨ce, rr, cc, re, ba, cu, ol, sa, rfl, hS, hC⟩, ⟨rr', cc', ce', ma, od, po, sy, rfl, hS', hC'⟩⟩ := I
  refine ed_xRc hS hC (fun l a hl ha e1 e2 hR h0 u' f hf hu => ed_yRc hS' hC' (fun l' a' hl' ha' e1' e2' hR' h0' v' f' hf' hv => ?_) (fun h => absurd (h l a hl ha e1 e2 hR) h0)) (fun h => ed_yRc hS' hC' (fun l a hl ha e1 e2 hR h0 => absurd (h l a hl ha e1 e2 hR) h0) (fun _ => ⟨rfl, I0⟩))
  obtain rfl := ed_nIe hl hl' (e1.symm.trans e1')
  obtain rfl := ed_nIe ha ha' (e2.symm.trans e2')
  exact ⟨rfl, _, _, _, hu, ed_PYcg hv (fun t ht => ed_rc_u hf' hf t (by omega))⟩
