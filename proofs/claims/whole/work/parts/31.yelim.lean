/-! Y: elimination -/
section
variable {rr cc ce ma od po sy : Nat → Int32}
theorem ed_mxi {e w k : Nat} : nI e * nI w + nI k = nI (e * w + k) := by rw [pk_mul, nI_add]
theorem ed_ySu16 {post : SY → Prop} {E w e d t : Nat} {A : Nat → Nat → ed_K} (h72 : E * w ≤ 72) (hE : E ≤ 16) (hw : w ≤ 17) (he : e < E) (hd : d < E) (hne : d ≠ e) (ht : t < w) (kk : ∀ sy' : Nat → Int32, ed_Mx sy' E w (fun e' k => if e' = e then A e k - A e t * A d k else A e' k) → post (rr, cc, ce, ma, od, po, sy')) : ∀ (n k : Nat) (sy : Nat → Int32), w < n + k → k ≤ w → ed_Mx sy E w (fun e' j => if e' = e ∧ j < k then A e j - A e t * A d j else A e' j) → wY_subtract_16 post (nI e) (nI d) (nI w) (ed_I (A e t)) n (nI k) rr cc ce ma od po sy := by
  intro n
  induction n with
  | zero => intro k sy h1 h2; omega
  | succ n ih =>
    intro k sy h1 h2 hm
    rw [wY_subtract_16]
    dsimp only
    by_cases q : k = w
    · subst q
      refine br_t (nI_le (Nat.le_refl _) (by omega)) (kk sy (ed_Mx_cg hm (fun e' j he' hj => ?_)))
      by_cases c : e' = e
      · rw [if_pos c, if_pos ⟨c, hj⟩]
      · rw [if_neg c, if_neg (fun z => c z.1)]
    · have hk : k < w := by omega
      have f1 := ed_fl_lt he hk
      have f2 := ed_fl_lt hd hk
      have m1 : sy (e * w + k) = ed_I (if e = e ∧ k < k then A e k - A e t * A d k else A e k) := hm e k he hk
      have m2 : sy (d * w + k) = ed_I (if d = e ∧ k < k then A e k - A e t * A d k else A d k) := hm d k hd hk
      rw [if_neg (by omega)] at m1 m2
      rw [ed_mxi, ed_mxi, nI_clamp (show e * w + k < 2 ^ 31 by omega), nI_clamp (show d * w + k < 2 ^ 31 by omega), m1, m2]
      refine br_f (nI_ge (by omega) (by omega)) ⟨vp_in_nI (by omega) (by decide), vp_in_nI (by omega) (by decide), by decide, ed_yMod _ (ed_ysub _ _ _) ⟨vp_in_nI (by omega) (by decide), nm_e (nm_r (nI_1 k) (ih (k + 1) _ (by omega) (by omega) (ed_Mx_cg (ed_Mx_put hm hk _) (fun e' j he' hj => ?_))))⟩⟩
      by_cases c : e' = e ∧ j = k
      · rw [if_pos c, if_pos (by omega), c.2]
      · rw [if_neg c]
        by_cases c2 : e' = e ∧ j < k
        · rw [if_pos c2, if_pos (by omega)]
        · rw [if_neg c2, if_neg (by omega)]
theorem ed_ySu {post : SY → Prop} {E w e d t : Nat} {A : Nat → Nat → ed_K} (h72 : E * w ≤ 72) (hE : E ≤ 16) (hw : w ≤ 17) (he : e < E) (hd : d < E) (hne : d ≠ e) (ht : t < w) (hm : ed_Mx sy E w A) (kk : ∀ sy' : Nat → Int32, ed_Mx sy' E w (fun e' k => if e' = e then A e k - A e t * A d k else A e' k) → post (rr, cc, ce, ma, od, po, sy')) : wpY_subtract post (rr, cc, ce, ma, od, po, sy) (nI e) (nI d) (nI t) (nI w) := by
  unfold wpY_subtract
  dsimp only
  have f1 := ed_fl_lt he ht
  rw [ed_mxi, nI_clamp (show e * w + t < 2 ^ 31 by omega), hm e t he ht]
  exact ⟨vp_in_nI (by omega) (by decide), nm_e ⟨w + 1, ed_ySu16 h72 hE hw he hd hne ht kk (w + 1) 0 sy (by omega) (by omega) (ed_Mx_cg hm (fun e' j _ _ => by rw [if_neg (by omega)]))⟩⟩
theorem ed_yEl130 {post : Int32 → SY → Prop} {E w d t : Nat} {B : Nat → Nat → ed_K} (h72 : E * w ≤ 72) (hE : E ≤ 16) (hw : w ≤ 17) (hd : d < E) (ht : t < w) (kk : ∀ sy' : Nat → Int32, ed_Mx sy' E w (ed_el B d t) → post 1 (rr, cc, ce, ma, od, po, sy')) : ∀ (n e : Nat) (sy : Nat → Int32), E < n + e → e ≤ E → ed_Mx sy E w (fun e' k => if e' < e then ed_el B d t e' k else B e' k) → wY_eliminate_130 post (nI d) (nI t) (nI E) (nI w) n (nI e) rr cc ce ma od po sy := by
  intro n
  induction n with
  | zero => intro e sy h1 h2; omega
  | succ n ih =>
    intro e sy h1 h2 hm
    rw [wY_eliminate_130]
    dsimp only
    by_cases q : e = E
    · subst q
      exact br_t (nI_le (Nat.le_refl _) (by omega)) (kk sy (ed_Mx_cg hm (fun e' k he' _ => by rw [if_pos he'])))
    · refine br_f (nI_ge (by omega) (by omega)) (pk_eq e d (fun c => nm_r (nI_1 e) (ih (e + 1) sy (by omega) (by omega) (ed_Mx_cg hm (fun e' k he' _ => ?_)))) (fun c => ?_))
      · by_cases l : e' < e
        · rw [if_pos l, if_pos (by omega)]
        · rw [if_neg l]
          by_cases l2 : e' < e + 1
          · have e3 : e' = d := by omega
            rw [if_pos l2, e3, ed_el_d]
          · rw [if_neg l2]
      · refine ed_ySu h72 hE hw (by omega) hd (fun z => c z.symm) ht hm (fun sy' hm' => nm_r (nI_1 e) (ih (e + 1) sy' (by omega) (by omega) (ed_Mx_cg hm' (fun e' k he' _ => ?_))))
        have hdd : (if d < e then ed_el B d t d k else B d k) = B d k := by
          by_cases l : d < e
          · rw [if_pos l, ed_el_d]
          · rw [if_neg l]
        by_cases l : e' = e
        · rw [if_pos l, if_neg (Nat.lt_irrefl e), if_neg (Nat.lt_irrefl e), hdd, if_pos (by omega), l, ed_el_n B t k c]
        · rw [if_neg l]
          by_cases l2 : e' < e
          · rw [if_pos l2, if_pos (by omega)]
          · rw [if_neg l2, if_neg (by omega)]
theorem ed_yEl55 {post : Int32 → SY → Prop} {E w d t p : Nat} {A : Nat → Nat → ed_K} (h72 : E * w ≤ 72) (hE : E ≤ 16) (hw : w ≤ 17) (hd : d < E) (hp : p < E) (ht : t < w) (kk : ∀ sy' : Nat → Int32, ed_Mx sy' E w (ed_el (ed_sw A p d t) d t) → post 1 (rr, cc, ce, ma, od, po, sy')) : ∀ (n k : Nat) (sy : Nat → Int32), w < n + k → k ≤ w → ed_Mx sy E w (fun e j => if j < k then ed_sw A p d t e j else A e j) → wY_eliminate_55 post (nI d) (nI t) (nI E) (nI w) (nI p) (ed_I (A p t)) n (nI k) rr cc ce ma od po sy := by
  intro n
  induction n with
  | zero => intro k sy h1 h2; omega
  | succ n ih =>
    intro k sy h1 h2 hm
    rw [wY_eliminate_55]
    dsimp only
    by_cases q : k = w
    · subst q
      exact br_t (nI_le (Nat.le_refl _) (by omega)) ⟨E + 1, ed_yEl130 h72 hE hw hd ht kk (E + 1) 0 sy (by omega) (by omega) (ed_Mx_cg hm (fun e j _ hj => by rw [if_pos hj, if_neg (Nat.not_lt_zero e)]))⟩
    · have hk : k < w := by omega
      have f1 := ed_fl_lt hp hk
      have f2 := ed_fl_lt hd hk
      have m1 : sy (p * w + k) = ed_I (if k < k then ed_sw A p d t p k else A p k) := hm p k hp hk
      have m2 : sy (d * w + k) = ed_I (if k < k then ed_sw A p d t d k else A d k) := hm d k hd hk
      rw [if_neg (Nat.lt_irrefl k)] at m1 m2
      rw [ed_mxi, ed_mxi, nI_clamp (show p * w + k < 2 ^ 31 by omega), nI_clamp (show d * w + k < 2 ^ 31 by omega), m1, m2]
      refine br_f (nI_ge (by omega) (by omega)) ⟨vp_in_nI (by omega) (by decide), nm_e ⟨vp_in_nI (by omega) (by decide), vp_in_nI (by omega) (by decide), nm_e (ed_yQuo _ _ ⟨vp_in_nI (by omega) (by decide), nm_e (nm_r (nI_1 k) (ih (k + 1) _ (by omega) (by omega) (ed_Mx_cg (ed_Mx_put (ed_Mx_put hm hk _) hk _) (fun e j he hj => ?_))))⟩)⟩⟩
      by_cases c : e = d ∧ j = k
      · rw [if_pos c, if_pos (by omega), c.1, c.2, ed_sw_d]
      · rw [if_neg c]
        by_cases c2 : e = p ∧ j = k
        · have hed : e ≠ d := fun z => c ⟨z, c2.2⟩
          rw [if_pos c2, if_pos (by omega), ed_sw_n A p t j hed, c2.2]
          unfold ed_rw
          rw [if_pos c2.1]
        · rw [if_neg c2]
          by_cases l : j < k
          · rw [if_pos l, if_pos (by omega)]
          · rw [if_neg l]
            by_cases l2 : j < k + 1
            · have ej : j = k := by omega
              have hed : e ≠ d := fun z => c ⟨z, ej⟩
              have hep : ¬ e = p := fun z => c2 ⟨z, ej⟩
              rw [if_pos l2, ed_sw_n A p t j hed]
              unfold ed_rw
              rw [if_neg hep]
            · rw [if_neg l2]
theorem ed_yEl3 {post : Int32 → SY → Prop} {E w d t : Nat} {A : Nat → Nat → ed_K} (h72 : E * w ≤ 72) (hE : E ≤ 16) (hw : w ≤ 17) (hd : d ≤ E) (ht : t < w) (hm : ed_Mx sy E w A) (k0 : (∀ e, d ≤ e → e < E → A e t = 0) → post 0 (rr, cc, ce, ma, od, po, sy)) (k1 : ∀ (p : Nat) (sy' : Nat → Int32), d ≤ p → p < E → A p t ≠ 0 → ed_Mx sy' E w (ed_el (ed_sw A p d t) d t) → post 1 (rr, cc, ce, ma, od, po, sy')) : ∀ n p : Nat, E < n + p → p ≤ E → d ≤ p → (∀ e, d ≤ e → e < p → A e t = 0) → wY_eliminate_3 post (nI d) (nI t) (nI E) (nI w) rr cc ce ma od po sy n (nI p) := by
  intro n
  induction n with
  | zero => intro p h1 h2; omega
  | succ n ih =>
    intro p h1 h2 h3 h4
    rw [wY_eliminate_3]
    dsimp only
    by_cases q : p = E
    · subst q
      exact br_t (nI_le (Nat.le_refl _) (by omega)) (br_f (nI_nlt (Nat.le_refl _) (by omega)) (k0 h4))
    · have hp : p < E := by omega
      have f1 := ed_fl_lt hp ht
      rw [ed_mxi, nI_clamp (show p * w + t < 2 ^ 31 by omega), hm p t hp ht]
      refine br_f (nI_ge (by omega) (by omega)) ⟨vp_in_nI (by omega) (by decide), br_c (fun c => nm_r (nI_1 p) (ih (p + 1) (by omega) (by omega) (by omega) (fun e h5 h6 => ?_))) (fun c => ?_)⟩
      · by_cases l : e = p
        · rw [l]
          exact (ed_I_z _).mp c
        · exact h4 e h5 (by omega)
      · unfold wY_eliminate_30
        rw [ed_mxi, nI_clamp (show p * w + t < 2 ^ 31 by omega), hm p t hp ht]
        exact br_t (nI_lt hp (by omega)) ⟨vp_in_nI (by omega) (by decide), nm_e ⟨w + 1, ed_yEl55 h72 hE hw (by omega) hp ht (fun sy' hm' => k1 p sy' h3 hp (fun z => c ((ed_I_z _).mpr z)) hm') (w + 1) 0 sy (by omega) (by omega) (ed_Mx_cg hm (fun e j _ _ => by rw [if_neg (Nat.not_lt_zero j)]))⟩⟩
theorem ed_yEl {post : Int32 → SY → Prop} {E w d t : Nat} {A : Nat → Nat → ed_K} (h72 : E * w ≤ 72) (hE : E ≤ 16) (hw : w ≤ 17) (hd : d ≤ E) (ht : t < w) (hm : ed_Mx sy E w A) (k0 : (∀ e, d ≤ e → e < E → A e t = 0) → post 0 (rr, cc, ce, ma, od, po, sy)) (k1 : ∀ (p : Nat) (sy' : Nat → Int32), d ≤ p → p < E → A p t ≠ 0 → ed_Mx sy' E w (ed_el (ed_sw A p d t) d t) → post 1 (rr, cc, ce, ma, od, po, sy')) : wpY_eliminate post (rr, cc, ce, ma, od, po, sy) (nI d) (nI t) (nI E) (nI w) := by
  unfold wpY_eliminate
  dsimp only
  exact ⟨E + 1, ed_yEl3 h72 hE hw hd ht hm k0 k1 (E + 1) d (by omega) hd (Nat.le_refl _) (fun e h5 h6 => by omega)⟩
end
