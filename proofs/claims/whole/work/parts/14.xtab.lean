/-! X: tests of numbers and shapes, deliver, values -/
section
variable {R C : Nat → Nat} {ce rr cc re ba cu ol sa : Nat → Int32}
theorem ed_nIe {i j : Nat} (hi : i < 4) (hj : j < 4) (e : nI i = nI j) : i = j := (nI_eq (by omega) (by omega)).mp e
theorem ed_xTab {post : Int32 → Prop} {x : Int32} (hy : ∀ j, j < 4 → x = nI j → post 1) (hn : (∀ j, j < 4 → x ≠ nI j) → post 0) : wpX_isTable post x := by
  rcases ed_tb x with h | h | ⟨j, hj, e⟩
  · exact br_t h (hn (fun j hj e => by rw [e] at h; exact nI_pos (by omega) h))
  · exact ed_xTn (Or.inr h) (hn (fun j hj e => by rw [e] at h; exact nI_ge hj (by decide) h))
  · rw [e]
    exact ed_xTy hj (hy j hj e)
theorem ed_xRow {post : Int32 → Prop} (hS : ed_Sh rr cc R C) {x : Int32} (hy : ∀ j, j < 4 → x = nI j → R j = 1 → post 1) (hn : (∀ j, j < 4 → x = nI j → R j ≠ 1) → post 0) : wpX_isRow post (ce, rr, cc, re, ba, cu, ol, sa) x := by
  unfold wpX_isRow
  dsimp only
  refine ed_xTab (fun j hj e => ?_) (fun h => ?_)
  · subst e
    obtain ⟨h1, h2, h3, h4, h5, h6, h7⟩ := hS j hj
    refine br_f (by decide) ⟨vp_in_nI hj (by decide), ?_⟩
    rw [nI_clamp (by omega), h1]
    refine pk_eq (R j) 1 (fun c => hy j hj rfl c) (fun c => hn ?_)
    intro j' hj' e
    rw [← ed_nIe hj hj' e]
    exact c
  · exact br_t rfl (hn (fun j hj e => absurd e (h j hj)))
theorem ed_xHas {post : Int32 → Prop} (hS : ed_Sh rr cc R C) {x y : Int32} (hy : ∀ j i, j < 4 → i < R j * C j → x = nI j → y = nI i → post 1) (hn : (∀ j i, j < 4 → i < R j * C j → x = nI j → y ≠ nI i) → post 0) : wpX_hasElement post (ce, rr, cc, re, ba, cu, ol, sa) x y := by
  unfold wpX_hasElement
  dsimp only
  refine ed_xTab (fun j hj e => ?_) (fun h => ?_)
  · subst e
    obtain ⟨h1, h2, h3, h4, h5, h6, h7⟩ := hS j hj
    refine br_f (by decide) (br_c (fun c => hn ?_) (fun c => ?_))
    · intro j' i hj' hi _ e2
      have := (hS j' hj').2.2.2.2.2.2
      rw [e2] at c
      exact nI_pos (by omega) c
    · obtain ⟨i, hi, rfl⟩ := nI_of c
      have hv : vp_in (nI j) 4 := vp_in_nI hj (by decide)
      refine ⟨hv, hv, ?_⟩
      rw [nI_clamp (by omega), h1, h2, pk_mul]
      refine pk_le (R j * C j) i (fun c => hn ?_) (fun c => hy j i hj c rfl rfl)
      intro j' i' hj' hi' e1 e2
      have ej := ed_nIe hj hj' e1
      subst ej
      have ei := (nI_eq hi (by omega)).mp e2
      omega
  · exact br_t rfl (hn (fun j i hj hi e => absurd e (h j hj)))
theorem ed_xHss {post : Int32 → Prop} (hS : ed_Sh rr cc R C) {x y : Int32} (hy : ∀ i j, i < 4 → j < 4 → x = nI i → y = nI j → R i = R j → C i = C j → post 1) (hn : (∀ i j, i < 4 → j < 4 → x = nI i → y = nI j → R i = R j → C i ≠ C j) → post 0) : wpX_haveSameShape post (ce, rr, cc, re, ba, cu, ol, sa) x y := by
  unfold wpX_haveSameShape
  dsimp only
  refine ed_xTab (fun i hi e => ?_) (fun h => ?_)
  · subst e
    refine br_f (by decide) (ed_xTab (fun j hj e => ?_) (fun h => ?_))
    · subst e
      obtain ⟨h1, h2, h3, h4, h5, h6, h7⟩ := hS i hi
      obtain ⟨g1, g2, g3, g4, g5, g6, g7⟩ := hS j hj
      have vi : vp_in (nI i) 4 := vp_in_nI hi (by decide)
      have vj : vp_in (nI j) 4 := vp_in_nI hj (by decide)
      refine br_f (by decide) ⟨vi, vj, ?_⟩
      rw [nI_clamp (show i < 2 ^ 31 by omega), nI_clamp (show j < 2 ^ 31 by omega), h1, h2, g1, g2]
      refine pk_eq (R i) (R j) (fun c => ⟨vi, vj, pk_eq (C i) (C j) (fun d => hy i j hi hj rfl rfl c d) (fun d => hn ?_)⟩) (fun c => hn ?_)
      · intro i' j' hi' hj' e1 e2 _
        rw [← ed_nIe hi hi' e1, ← ed_nIe hj hj' e2]
        exact d
      · intro i' j' hi' hj' e1 e2 e3
        rw [← ed_nIe hi hi' e1, ← ed_nIe hj hj' e2] at e3
        exact absurd e3 c
    · exact br_t rfl (hn (fun i j hi hj _ e => absurd e (h j hj)))
  · exact br_t rfl (hn (fun i j hi hj e => absurd e (h i hi)))
theorem ed_xDel17 {post : SX → Prop} {c h w N : Nat} (hc : c < 4) (hN : h * w = N) (hb : N ≤ 48) : ∀ n i : Nat, N < n + i → i ≤ N → post (ed_cp ce (c * 48) N re, rr, cc, re, ba, cu, ol, sa) → wX_deliver_17 post (nI c) (nI h) (nI w) n (nI i) (ed_cp ce (c * 48) i re) rr cc re ba cu ol sa := by
  intro n
  induction n with
  | zero => intro i h1 h2; omega
  | succ n ih =>
    intro i h1 h2 k
    rw [wX_deliver_17]
    dsimp only
    rw [pk_mul, hN, ed_ix, nI_clamp (show i < 2 ^ 31 by omega), nI_clamp (show c * 48 + i < 2 ^ 31 by omega)]
    by_cases e : i = N
    · subst e
      exact br_t (nI_le (Nat.le_refl _) (by omega)) k
    · exact br_f (nI_ge (by omega) (by omega)) ⟨vp_in_nI (by omega) (by decide), vp_in_nI (by omega) (by decide), nm_r (ed_cpS ce (c * 48) i re) (nm_r (nI_1 i) (ih (i + 1) (by omega) (by omega) k))⟩
theorem ed_xDel {post : SX → Prop} {c h w : Nat} (hc : c < 4) (hb : h * w ≤ 48) (k : post (ed_cp ce (c * 48) (h * w) re, upd rr c (nI h), upd cc c (nI w), re, ba, cu, ol, sa)) : wpX_deliver post (ce, rr, cc, re, ba, cu, ol, sa) (nI c) (nI h) (nI w) := by
  unfold wpX_deliver
  dsimp only
  have hv : vp_in (nI c) 4 := vp_in_nI hc (by decide)
  rw [nI_clamp (show c < 2 ^ 31 by omega)]
  refine ⟨hv, nm_e ⟨hv, nm_e ⟨h * w + 1, ?_⟩⟩⟩
  have := ed_xDel17 (post := post) (ce := ce) (rr := upd rr c (nI h)) (cc := upd cc c (nI w)) (re := re) (ba := ba) (cu := cu) (ol := ol) (sa := sa) hc rfl hb (h * w + 1) 0 (by omega) (by omega) k
  rw [ed_cp0] at this
  exact this
theorem ed_xVc8 {post : Int32 → Prop} {f s : Nat} {x : ed_K} {p : Nat → ed_K} {N : Nat} (hN : N < 1000) (h : ∀ i, i < N → ce (f + i * s) = ed_I (p i)) (hb : ∀ i, i < N → f + i * s < 192) : ∀ b n : Nat, b ≤ N → b < n → post (ed_I (ed_va p N x)) → wX_valueOf__cells_8 post (nI f) (nI s) (ed_I x) ce rr cc re ba cu ol sa n (ed_I (ed_va (fun t => p (b + t)) (N - b) x)) (nI b + (-1)) := by
  intro b
  induction b with
  | zero =>
    intro n _ hn k
    obtain ⟨m, rfl⟩ : ∃ m, n = m + 1 := ⟨n - 1, by omega⟩
    have e : ed_va (fun t => p (0 + t)) (N - 0) x = ed_va p N x := by
      rw [Nat.sub_zero]
      exact ed_va_congr x (fun t _ => by rw [Nat.zero_add])
    rw [wX_valueOf__cells_8]
    dsimp only
    rw [e]
    exact br_t (by decide) k
  | succ b ih =>
    intro n hbN hn k
    obtain ⟨m, rfl⟩ : ∃ m, n = m + 1 := ⟨n - 1, by omega⟩
    have hi := hb b (by omega)
    have e : p b + ed_va (fun t => p (b + 1 + t)) (N - (b + 1)) x * x = ed_va (fun t => p (b + t)) (N - b) x := by
      rw [show N - b = N - (b + 1) + 1 by omega]
      exact (ed_va_step p b (N - (b + 1)) x).symm
    rw [pk_m1, wX_valueOf__cells_8]
    dsimp only
    rw [show nI f + nI b * nI s = nI (f + b * s) by rw [pk_mul, nI_add], nI_clamp (show f + b * s < 2 ^ 31 by omega), h b (by omega)]
    refine br_f (nI_pos (by omega)) ⟨vp_in_nI hi (by decide), ed_xPP _ _ _ (nm_e ?_)⟩
    rw [e]
    exact ih m (by omega) (by omega) k
theorem ed_xVc {post : Int32 → Prop} {f s : Nat} {x : ed_K} {p : Nat → ed_K} {N : Nat} (hN : N < 1000) (h : ∀ i, i < N → ce (f + i * s) = ed_I (p i)) (hb : ∀ i, i < N → f + i * s < 192) (k : post (ed_I (ed_va p N x))) : wpX_valueOf__cells post (ce, rr, cc, re, ba, cu, ol, sa) (nI f) (nI s) (nI N) (ed_I x) := by
  unfold wpX_valueOf__cells
  dsimp only
  have l := ed_xVc8 (post := post) (ce := ce) (rr := rr) (cc := cc) (re := re) (ba := ba) (cu := cu) (ol := ol) (sa := sa) (x := x) hN h hb N (N + 1) (by omega) (by omega) k
  rw [Nat.sub_self, ed_va0, ed_I_0] at l
  exact nm_r (Int32.sub_eq_add_neg _ _) ⟨N + 1, l⟩
theorem ed_xVr8 {post : Int32 → Prop} {f s : Nat} {x : ed_K} {p : Nat → ed_K} {N : Nat} (hN : N < 1000) (h : ∀ i, i < N → re (f + i * s) = ed_I (p i)) (hb : ∀ i, i < N → f + i * s < 48) : ∀ b n : Nat, b ≤ N → b < n → post (ed_I (ed_va p N x)) → wX_valueOf__result_8 post (nI f) (nI s) (ed_I x) ce rr cc re ba cu ol sa n (ed_I (ed_va (fun t => p (b + t)) (N - b) x)) (nI b + (-1)) := by
  intro b
  induction b with
  | zero =>
    intro n _ hn k
    obtain ⟨m, rfl⟩ : ∃ m, n = m + 1 := ⟨n - 1, by omega⟩
    have e : ed_va (fun t => p (0 + t)) (N - 0) x = ed_va p N x := by
      rw [Nat.sub_zero]
      exact ed_va_congr x (fun t _ => by rw [Nat.zero_add])
    rw [wX_valueOf__result_8]
    dsimp only
    rw [e]
    exact br_t (by decide) k
  | succ b ih =>
    intro n hbN hn k
    obtain ⟨m, rfl⟩ : ∃ m, n = m + 1 := ⟨n - 1, by omega⟩
    have hi := hb b (by omega)
    have e : p b + ed_va (fun t => p (b + 1 + t)) (N - (b + 1)) x * x = ed_va (fun t => p (b + t)) (N - b) x := by
      rw [show N - b = N - (b + 1) + 1 by omega]
      exact (ed_va_step p b (N - (b + 1)) x).symm
    rw [pk_m1, wX_valueOf__result_8]
    dsimp only
    rw [show nI f + nI b * nI s = nI (f + b * s) by rw [pk_mul, nI_add], nI_clamp (show f + b * s < 2 ^ 31 by omega), h b (by omega)]
    refine br_f (nI_pos (by omega)) ⟨vp_in_nI hi (by decide), ed_xPP _ _ _ (nm_e ?_)⟩
    rw [e]
    exact ih m (by omega) (by omega) k
theorem ed_xVr {post : Int32 → Prop} {f s : Nat} {x : ed_K} {p : Nat → ed_K} {N : Nat} (hN : N < 1000) (h : ∀ i, i < N → re (f + i * s) = ed_I (p i)) (hb : ∀ i, i < N → f + i * s < 48) (k : post (ed_I (ed_va p N x))) : wpX_valueOf__result post (ce, rr, cc, re, ba, cu, ol, sa) (nI f) (nI s) (nI N) (ed_I x) := by
  unfold wpX_valueOf__result
  dsimp only
  have l := ed_xVr8 (post := post) (ce := ce) (rr := rr) (cc := cc) (re := re) (ba := ba) (cu := cu) (ol := ol) (sa := sa) (x := x) hN h hb N (N + 1) (by omega) (by omega) k
  rw [Nat.sub_self, ed_va0, ed_I_0] at l
  exact nm_r (Int32.sub_eq_add_neg _ _) ⟨N + 1, l⟩
theorem ed_xVb8 {post : Int32 → Prop} {f s : Nat} {x : ed_K} {p : Nat → ed_K} {N : Nat} (hN : N < 1000) (h : ∀ i, i < N → ba (f + i * s) = ed_I (p i)) (hb : ∀ i, i < N → f + i * s < 16) : ∀ b n : Nat, b ≤ N → b < n → post (ed_I (ed_va p N x)) → wX_valueOf__basis_8 post (nI f) (nI s) (ed_I x) ce rr cc re ba cu ol sa n (ed_I (ed_va (fun t => p (b + t)) (N - b) x)) (nI b + (-1)) := by
  intro b
  induction b with
  | zero =>
    intro n _ hn k
    obtain ⟨m, rfl⟩ : ∃ m, n = m + 1 := ⟨n - 1, by omega⟩
    have e : ed_va (fun t => p (0 + t)) (N - 0) x = ed_va p N x := by
      rw [Nat.sub_zero]
      exact ed_va_congr x (fun t _ => by rw [Nat.zero_add])
    rw [wX_valueOf__basis_8]
    dsimp only
    rw [e]
    exact br_t (by decide) k
  | succ b ih =>
    intro n hbN hn k
    obtain ⟨m, rfl⟩ : ∃ m, n = m + 1 := ⟨n - 1, by omega⟩
    have hi := hb b (by omega)
    have e : p b + ed_va (fun t => p (b + 1 + t)) (N - (b + 1)) x * x = ed_va (fun t => p (b + t)) (N - b) x := by
      rw [show N - b = N - (b + 1) + 1 by omega]
      exact (ed_va_step p b (N - (b + 1)) x).symm
    rw [pk_m1, wX_valueOf__basis_8]
    dsimp only
    rw [show nI f + nI b * nI s = nI (f + b * s) by rw [pk_mul, nI_add], nI_clamp (show f + b * s < 2 ^ 31 by omega), h b (by omega)]
    refine br_f (nI_pos (by omega)) ⟨vp_in_nI hi (by decide), ed_xPP _ _ _ (nm_e ?_)⟩
    rw [e]
    exact ih m (by omega) (by omega) k
theorem ed_xVb {post : Int32 → Prop} {f s : Nat} {x : ed_K} {p : Nat → ed_K} {N : Nat} (hN : N < 1000) (h : ∀ i, i < N → ba (f + i * s) = ed_I (p i)) (hb : ∀ i, i < N → f + i * s < 16) (k : post (ed_I (ed_va p N x))) : wpX_valueOf__basis post (ce, rr, cc, re, ba, cu, ol, sa) (nI f) (nI s) (nI N) (ed_I x) := by
  unfold wpX_valueOf__basis
  dsimp only
  have l := ed_xVb8 (post := post) (ce := ce) (rr := rr) (cc := cc) (re := re) (ba := ba) (cu := cu) (ol := ol) (sa := sa) (x := x) hN h hb N (N + 1) (by omega) (by omega) k
  rw [Nat.sub_self, ed_va0, ed_I_0] at l
  exact nm_r (Int32.sub_eq_add_neg _ _) ⟨N + 1, l⟩
end
