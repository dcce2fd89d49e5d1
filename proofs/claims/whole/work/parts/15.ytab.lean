/-! Y: tests of numbers and shapes, count, give -/
section
variable {R C : Nat → Nat} {rr cc ce ma od po sy : Nat → Int32}
theorem ed_yTab {post : Int32 → Prop} {x : Int32} (hy : ∀ j, j < 4 → x = nI j → post 1) (hn : (∀ j, j < 4 → x ≠ nI j) → post 0) : wpY_table post (rr, cc, ce, ma, od, po, sy) x := by
  unfold wpY_table
  dsimp only
  rcases ed_tb x with h | h | ⟨j, hj, e⟩
  · exact br_t h (hn (fun j hj e => by rw [e] at h; exact nI_pos (by omega) h))
  · by_cases c : x < 0
    · exact br_t c (hn (fun j hj e => by rw [e] at h; exact nI_ge hj (by decide) h))
    · exact br_f c (br_t h (hn (fun j hj e => by rw [e] at h; exact nI_ge hj (by decide) h)))
  · rw [e]
    exact br_f (nI_pos (by omega)) (br_f (nI_ge (b := 4) hj (by decide)) (hy j hj e))
theorem ed_yCnt {post : Int32 → Prop} {v r s : Nat} (hv : v < 4) (hr : rr v = nI r) (hs : cc v = nI s) (k : post (nI (r * s))) : wpY_count post (rr, cc, ce, ma, od, po, sy) (nI v) := by
  unfold wpY_count
  dsimp only
  have h : vp_in (nI v) 4 := vp_in_nI hv (by decide)
  rw [nI_clamp (by omega), hr, hs, pk_mul]
  exact ⟨h, h, k⟩
theorem ed_nb : ∀ r, r < 17 → (nI r).toInt8.toInt32 = nI r := by decide +kernel
theorem ed_vb {r : Nat} (h : r ≤ 16) : vp_nar .byte (nI r) = nI r := by rw [vp_nar_byte, ed_nb r (by omega)]
theorem ed_yGiv26 {post : Int32 → SY → Prop} {c r s N : Nat} (hc : c < 4) (hr : rr c = nI r) (hs : cc c = nI s) (hN : r * s = N) (hb : N ≤ 48) : ∀ n i : Nat, N < n + i → i ≤ N → post 1 (rr, cc, ed_cp ce (c * 48) N ma, ma, od, po, sy) → wY_give_26 post (nI c) n (nI i) rr cc (ed_cp ce (c * 48) i ma) ma od po sy := by
  intro n
  induction n with
  | zero => intro i h1 h2; omega
  | succ n ih =>
    intro i h1 h2 k
    rw [wY_give_26]
    refine ed_yCnt hc hr hs ?_
    rw [hN, ed_iy, nI_clamp (show i < 2 ^ 31 by omega), nI_clamp (show c * 48 + i < 2 ^ 31 by omega)]
    by_cases e : i = N
    · subst e
      exact br_t (nI_le (Nat.le_refl _) (by omega)) k
    · exact br_f (nI_ge (by omega) (by omega)) ⟨vp_in_nI (by omega) (by decide), vp_in_nI (by omega) (by decide), nm_r (ed_cpS ce (c * 48) i ma) (nm_r (nI_1 i) (ih (i + 1) (by omega) (by omega) k))⟩
theorem ed_yGiv {post : Int32 → SY → Prop} {c a : Nat} (hS : ed_Sh rr cc R C) (hc : c < 4) (ha : a < 4) (k : post 1 (upd rr c (nI (R a)), upd cc c (nI (C a)), ed_cp ce (c * 48) (R a * C a) ma, ma, od, po, sy)) : wpY_give post (rr, cc, ce, ma, od, po, sy) (nI c) (nI a) := by
  unfold wpY_give
  dsimp only
  obtain ⟨h1, h2, h3, h4, h5, h6, h7⟩ := hS a ha
  have hv : vp_in (nI c) 4 := vp_in_nI hc (by decide)
  have hw : vp_in (nI a) 4 := vp_in_nI ha (by decide)
  rw [nI_clamp (show c < 2 ^ 31 by omega), nI_clamp (show a < 2 ^ 31 by omega), h1, h2, ed_vb h4, ed_vb h6]
  refine ⟨hw, hv, nm_e ⟨hw, hv, nm_e ⟨R a * C a + 1, ?_⟩⟩⟩
  have := ed_yGiv26 (post := post) (rr := upd rr c (nI (R a))) (cc := upd cc c (nI (C a))) (ce := ce) (ma := ma) (od := od) (po := po) (sy := sy) hc ed_us ed_us rfl h7 (R a * C a + 1) 0 (by omega) (by omega) k
  rw [ed_cp0] at this
  exact this
theorem ed_yPair {post : Int32 → Prop} (hS : ed_Sh rr cc R C) {z x y : Int32} (hy : ∀ l i j, l < 4 → i < 4 → j < 4 → z = nI l → x = nI i → y = nI j → R i = R j → C i = C j → post 1) (hn : (∀ l i j, l < 4 → i < 4 → j < 4 → z = nI l → x = nI i → y = nI j → R i = R j → C i ≠ C j) → post 0) : wpY_pair post (rr, cc, ce, ma, od, po, sy) z x y := by
  unfold wpY_pair
  dsimp only
  refine ed_yTab (fun i hi e => ?_) (fun h => br_t rfl (hn (fun l i j _ hi _ _ e => absurd e (h i hi))))
  subst e
  refine br_f (by decide) (ed_yTab (fun j hj e => ?_) (fun h => br_t rfl (hn (fun l i j _ _ hj _ _ e => absurd e (h j hj)))))
  subst e
  refine br_f (by decide) (ed_yTab (fun l hl e => ?_) (fun h => br_t rfl (hn (fun l i j hl _ _ e => absurd e (h l hl)))))
  subst e
  obtain ⟨h1, h2, h3, h4, h5, h6, h7⟩ := hS i hi
  obtain ⟨g1, g2, g3, g4, g5, g6, g7⟩ := hS j hj
  have vi : vp_in (nI i) 4 := vp_in_nI hi (by decide)
  have vj : vp_in (nI j) 4 := vp_in_nI hj (by decide)
  refine br_f (by decide) ⟨vi, vj, ?_⟩
  rw [nI_clamp (show i < 2 ^ 31 by omega), nI_clamp (show j < 2 ^ 31 by omega), h1, h2, g1, g2]
  refine pk_eq (R i) (R j) (fun c => ⟨vi, vj, pk_eq (C i) (C j) (fun d => hy l i j hl hi hj rfl rfl rfl c d) (fun d => hn ?_)⟩) (fun c => hn ?_)
  · intro l' i' j' hl' hi' hj' e0 e1 e2 _
    rw [← ed_nIe hi hi' e1, ← ed_nIe hj hj' e2]
    exact d
  · intro l' i' j' hl' hi' hj' e0 e1 e2 e3
    rw [← ed_nIe hi hi' e1, ← ed_nIe hj hj' e2] at e3
    exact absurd e3 c
end
