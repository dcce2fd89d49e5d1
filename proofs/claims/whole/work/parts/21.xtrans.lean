/-! X: transform -/
theorem ed_cpcg {a : Nat → Int32} {n i : Nat} {b : Nat → Int32} (h : i < n) : ed_cp a 0 n b i = b i := ed_cp0_in h
def ed_st (a : Nat → Int32) (f s : Nat) (b : Nat → Int32) : Nat → (Nat → Int32)
  | 0 => a
  | k + 1 => upd (ed_st a f s b k) (f + k * s) (b k)
theorem ed_st_out {a b : Nat → Int32} {f s m : Nat} : ∀ k : Nat, (∀ j, j < k → m ≠ f + j * s) → ed_st a f s b k m = a m := by
  intro k
  induction k with
  | zero => intro _; rfl
  | succ k ih =>
    intro h
    show upd (ed_st a f s b k) (f + k * s) (b k) m = a m
    rw [ed_un (h k (by omega)), ih (fun j hj => h j (by omega))]
theorem ed_st_in {a b : Nat → Int32} {f s : Nat} (hs : 1 ≤ s) : ∀ k j : Nat, j < k → ed_st a f s b k (f + j * s) = b j := by
  intro k
  induction k with
  | zero => intro j hj; omega
  | succ k ih =>
    intro j hj
    show upd (ed_st a f s b k) (f + k * s) (b k) (f + j * s) = b j
    by_cases e : j = k
    · subst e
      exact ed_us
    · have hm : j * s < k * s := Nat.mul_lt_mul_of_pos_right (by omega) (by omega)
      rw [ed_un (by omega)]
      exact ih j (by omega)
def ed_bk (x : Int32) : Bool := decide (¬ x = 0)
theorem ed_bk_f {x : Int32} (h : x = 0) : ed_bk x = false := by
  unfold ed_bk
  exact decide_eq_false (fun z => z h)
theorem ed_bk_t {x : Int32} (h : ¬ x = 0) : ed_bk x = true := by
  unfold ed_bk
  exact decide_eq_true h
def ed_sc (n : Nat) (back : Bool) : ed_K := if back then ed_iv (ed_N n) else 1
theorem ed_if_f {α : Type} (a b : α) : (if (false : Bool) = true then a else b) = b := if_neg (by decide)
theorem ed_if_t {α : Type} (a b : α) : (if (true : Bool) = true then a else b) = a := if_pos rfl
theorem ed_w_f (n : Nat) : ed_w n false = ed_pw (17 : ed_K) (1014773760 / n) := by
  unfold ed_w
  rw [ed_if_f]
theorem ed_w_t (n : Nat) : ed_w n true = ed_pw (17 : ed_K) (1014773760 - 1014773760 / n) := by
  unfold ed_w
  rw [ed_if_t]
theorem ed_sc_f (n : Nat) : ed_sc n false = 1 := by
  unfold ed_sc
  rw [ed_if_f]
theorem ed_sc_t (n : Nat) : ed_sc n true = ed_iv (ed_N n) := by
  unfold ed_sc
  rw [ed_if_t]
section
variable {R C : Nat → Nat} {T : Nat → Nat → ed_K} {ce rr cc re ba cu ol sa : Nat → Int32}
theorem ed_xTL101 {post : SX → Prop} {f s N : Nat} (hN : N ≤ 16) (hb : ∀ j, j < N → f + j * s < 192) (k : post (ed_st ce f s re N, rr, cc, re, ba, cu, ol, sa)) : ∀ n i : Nat, N < n + i → i ≤ N → wX_transformLine_101 post (nI f) (nI s) (nI N) n (nI i) (ed_st ce f s re i) rr cc re ba cu ol sa := by
  intro n
  induction n with
  | zero => intro i h1 h2; omega
  | succ n ih =>
    intro i h1 h2
    rw [wX_transformLine_101]
    dsimp only
    by_cases e : i = N
    · subst e
      exact br_t (nI_le (Nat.le_refl _) (by omega)) k
    · have hi := hb i (by omega)
      rw [show nI f + nI i * nI s = nI (f + i * s) by rw [pk_mul, nI_add], nI_clamp (show i < 2 ^ 31 by omega), nI_clamp (show f + i * s < 2 ^ 31 by omega)]
      exact br_f (nI_ge (by omega) (by omega)) ⟨vp_in_nI (by omega) (by decide), vp_in_nI hi (by decide), nm_e (nm_r (nI_1 i) (ih (i + 1) (by omega) (by omega)))⟩
theorem ed_xTL49 {post : SX → Prop} {f s N : Nat} {bk : Bool} {l : Nat → ed_K} (h1N : 1 ≤ N) (hN : N ≤ 16) (hl : ∀ j, j < N → ce (f + j * s) = ed_I (l j)) (hb : ∀ j, j < N → f + j * s < 192) (k : post (ed_st ce f s (ed_cp re 0 N (fun k => ed_I (ed_tr N bk l k))) N, rr, cc, ed_cp re 0 N (fun k => ed_I (ed_tr N bk l k)), ba, cu, ol, sa)) : ∀ n i : Nat, N < n + i → i ≤ N → wX_transformLine_49 post (nI f) (nI s) (nI N) (ed_I (ed_w N bk)) (ed_I (ed_sc N bk)) n (ed_I (ed_pw (ed_w N bk) i)) (nI i) ce rr cc (ed_cp re 0 i (fun k => ed_I (ed_tr N bk l k))) ba cu ol sa := by
  intro n
  induction n with
  | zero => intro i h1 h2; omega
  | succ n ih =>
    intro i h1 h2
    rw [wX_transformLine_49]
    dsimp only
    by_cases e : i = N
    · subst e
      exact br_t (nI_le (Nat.le_refl _) (by omega)) ⟨i + 1, ed_xTL101 (by omega) hb k (i + 1) 0 (by omega) (by omega)⟩
    · refine br_f (nI_ge (by omega) (by omega)) (ed_xVc (by omega) hl hb (ed_xPro _ _ ?_))
      rw [nI_clamp (show i < 2 ^ 31 by omega), show ed_va l N (ed_pw (ed_w N bk) i) * ed_sc N bk = ed_tr N bk l i from (ed_tr_x N bk l i).symm]
      exact ⟨vp_in_nI (by omega) (by decide), nm_r (ed_cpS0 re i (fun k => ed_I (ed_tr N bk l k))) (ed_xPro _ _ (nm_r (nI_1 i) (ih (i + 1) (by omega) (by omega))))⟩
theorem ed_xTL {post : SX → Prop} {f s N : Nat} {bk : Int32} {l : Nat → ed_K} (h1N : 1 ≤ N) (hN : N ≤ 16) (hl : ∀ j, j < N → ce (f + j * s) = ed_I (l j)) (hb : ∀ j, j < N → f + j * s < 192) (k : post (ed_st ce f s (ed_cp re 0 N (fun k => ed_I (ed_tr N (ed_bk bk) l k))) N, rr, cc, ed_cp re 0 N (fun k => ed_I (ed_tr N (ed_bk bk) l k)), ba, cu, ol, sa)) : wpX_transformLine post (ce, rr, cc, re, ba, cu, ol, sa) (nI f) (nI s) (nI N) bk := by
  unfold wpX_transformLine
  dsimp only
  have hle : 1014773760 / N ≤ 1014773760 := Nat.div_le_self _ _
  have ed : (1014773760 : Int32) / nI N = nI (1014773760 / N) := pk_div (a := 1014773760) (by decide) (by omega) (by omega)
  have es : (1014773760 : Int32) - nI (1014773760 / N) = nI (1014773760 - 1014773760 / N) := pk_sub (a := 1014773760) hle
  have g := ed_xTL49 (post := post) (ce := ce) (rr := rr) (cc := cc) (re := re) (ba := ba) (cu := cu) (ol := ol) (sa := sa) (bk := ed_bk bk) h1N hN hl hb k (N + 1) 0 (by omega) (by omega)
  rw [ed_cp0, ed_pw0, ed_I_1] at g
  refine ⟨nI_ne0 (by omega) (by omega), nm_r ed (br_c (fun c => ?_) (fun c => ?_))⟩
  · have hw : ed_w N (ed_bk bk) = ed_pw (17 : ed_K) (1014773760 / N) := by rw [ed_bk_f c, ed_w_f]
    have hs : ed_sc N (ed_bk bk) = 1 := by rw [ed_bk_f c, ed_sc_f]
    rw [hw, hs, ed_I_1] at g
    unfold wX_transformLine_23
    rw [ed_17]
    exact ed_xPow _ (Nat.lt_of_le_of_lt hle (by decide)) (br_t c ⟨_, g⟩)
  · have hw : ed_w N (ed_bk bk) = ed_pw (17 : ed_K) (1014773760 - 1014773760 / N) := by rw [ed_bk_t c, ed_w_t]
    have hs : ed_sc N (ed_bk bk) = ed_iv (ed_N N) := by rw [ed_bk_t c, ed_sc_t]
    rw [hw, hs] at g
    rw [es]
    unfold wX_transformLine_23
    rw [ed_17]
    refine ed_xPow _ (Nat.lt_of_le_of_lt (Nat.sub_le _ _) (by decide)) (br_f c ?_)
    have h2 : wpX_inverse (fun r_26 => ∃ n49 : Nat, wX_transformLine_49 post (nI f) (nI s) (nI N) (ed_I (ed_pw (17 : ed_K) (1014773760 - 1014773760 / N))) r_26 n49 1 0 ce rr cc re ba cu ol sa) (nI N) := by
      rw [show (nI N) = ed_I (ed_N N) from ed_nI N (by omega)] at g ⊢
      exact ed_xInv _ ⟨_, g⟩
    exact h2
def ed_tR (n : Nat) (back : Bool) (t : Nat → ed_K) (e : Nat) : ed_K := ed_tr n back (fun j => t (e / n * n + j)) (e % n)
def ed_tC (r n : Nat) (back : Bool) (t : Nat → ed_K) (e : Nat) : ed_K := ed_tr r back (fun j => t (j * n + e % n)) (e / n)
/-- table v is half done: D says which elements -/
def ed_hf (a a0 : Nat → Int32) (v N : Nat) (t t' : Nat → ed_K) (D : Nat → Prop) : Prop := (∀ e, e < N → (D e → a (v * 48 + e) = ed_I (t' e)) ∧ (¬ D e → a (v * 48 + e) = ed_I (t e))) ∧ ∀ m, (m < v * 48 ∨ v * 48 + N ≤ m) → a m = a0 m
theorem ed_hf_Ce {a a0 : Nat → Int32} {v : Nat} {t' : Nat → ed_K} {D : Nat → Prop} (hC : ed_Ce a0 R C T) (hB : ∀ v, v < 4 → R v * C v ≤ 48) (h : ed_hf a a0 v (R v * C v) (T v) t' D) (hD : ∀ e, e < R v * C v → D e) : ed_Ce a R C (ed_up T v t') := by
  intro w i hw hi
  by_cases e : w = v
  · subst e
    rw [ed_ups]
    exact (h.1 i hi).1 (hD i hi)
  · rw [ed_upn _ _ e]
    have h1 := hB w hw
    have h2 : R v * C v ≤ 48 ∨ 48 < R v * C v := by omega
    rw [h.2 (w * 48 + i) (by
      by_cases q : v < 4
      · have := hB v q
        omega
      · omega)]
    exact hC w i hw hi
end
