/-! X: transform, the lines one after the other -/
section
variable {R C : Nat → Nat} {T : Nat → Nat → ed_K} {ce rr cc re ba cu ol sa : Nat → Int32}
theorem ed_hf_s {a a0 F : Nat → Int32} {v N f s n : Nat} {t t' : Nat → ed_K} {D D' : Nat → Prop} (h : ed_hf a a0 v N t t' D) (g : Nat → Nat) (hg : ∀ j, j < n → g j < N ∧ f + j * s = v * 48 + g j) (hs : 1 ≤ s) (hF : ∀ j, j < n → F j = ed_I (t' (g j))) (hD : ∀ e, e < N → (D' e ↔ D e ∨ ∃ j, j < n ∧ e = g j)) : ed_hf (ed_st a f s F n) a0 v N t t' D' := by
  refine ⟨fun e he => ⟨fun d => ?_, fun d => ?_⟩, fun m hm => ?_⟩
  · by_cases q : ∃ j, j < n ∧ e = g j
    · obtain ⟨j, hj, rfl⟩ := q
      rw [← (hg j hj).2, ed_st_in hs n j hj, hF j hj]
    · rw [ed_st_out n (fun j hj z => q ⟨j, hj, by have := (hg j hj).2; omega⟩)]
      exact (h.1 e he).1 (((hD e he).mp d).resolve_right q)
  · have q : ¬ ∃ j, j < n ∧ e = g j := fun q => d ((hD e he).mpr (Or.inr q))
    rw [ed_st_out n (fun j hj z => q ⟨j, hj, by have := (hg j hj).2; omega⟩)]
    exact (h.1 e he).2 (fun q => d ((hD e he).mpr (Or.inl q)))
  · rw [ed_st_out n (fun j hj z => by have := hg j hj; omega)]
    exact h.2 m hm
theorem ed_hf_0 {a : Nat → Int32} (hC : ed_Ce a R C T) {v : Nat} (hv : v < 4) {t' : Nat → ed_K} {D : Nat → Prop} (hD : ∀ e, ¬ D e) : ed_hf a a v (R v * C v) (T v) t' D :=
  ⟨fun e he => ⟨fun d => absurd d (hD e), fun _ => hC v e hv he⟩, fun _ _ => rfl⟩
theorem ed_dm {e n : Nat} : e = e / n * n + e % n := by
  rw [Nat.mul_comm]
  exact (Nat.div_add_mod e n).symm
theorem ed_xTR2 {post : SX → Prop} (hS : ed_Sh rr cc R C) {v : Nat} {bk : Int32} {ce0 : Nat → Int32} (hv : v < 4) (k : ∀ ce' re', ed_hf ce' ce0 v (R v * C v) (T v) (ed_tR (C v) (ed_bk bk) (T v)) (fun e => e / C v < R v) → post (ce', rr, cc, re', ba, cu, ol, sa)) : ∀ (n row : Nat) (ce re : Nat → Int32), R v < n + row → row ≤ R v → ed_hf ce ce0 v (R v * C v) (T v) (ed_tR (C v) (ed_bk bk) (T v)) (fun e => e / C v < row) → wX_transformRows_2 post (nI v) bk n (nI row) ce rr cc re ba cu ol sa := by
  intro n
  obtain ⟨g1, g2, g3, g4, g5, g6, g7⟩ := hS v hv
  have va : vp_in (nI v) 4 := vp_in_nI hv (by decide)
  induction n with
  | zero => intro row ce re h1 h2; omega
  | succ n ih =>
    intro row ce re h1 h2 h
    rw [wX_transformRows_2]
    dsimp only
    rw [nI_clamp (show v < 2 ^ 31 by omega), g1, g2]
    by_cases e : row = R v
    · subst e
      exact ⟨va, br_t (nI_le (Nat.le_refl _) (by omega)) (k ce re h)⟩
    · have hlt : ∀ j, j < C v → row * C v + j < R v * C v := fun j hj => ed_fl_lt (by omega) hj
      rw [show nI v * 48 + nI row * nI (C v) = nI (v * 48 + row * C v) by rw [pk_mul, ed_ix]]
      refine ⟨va, br_f (nI_ge (by omega) (by omega)) ⟨va, va, ed_xTL (s := 1) (l := fun j => T v (row * C v + j)) g5 g6 (fun j hj => ?_) (fun j hj => by have := hlt j hj; omega) ?_⟩⟩
      · have q := (h.1 (row * C v + j) (hlt j hj)).2 (by show ¬ (row * C v + j) / C v < row; rw [ed_fl_div hj]; omega)
        rw [show v * 48 + row * C v + j * 1 = v * 48 + (row * C v + j) by omega]
        exact q
      · refine nm_r (nI_1 row) (ih (row + 1) _ _ (by omega) (by omega) (ed_hf_s h (fun j => row * C v + j) (fun j hj => ⟨hlt j hj, by omega⟩) (by decide) (fun j hj => ?_) (fun e he => ⟨fun d => ?_, fun d => ?_⟩)))
        · rw [ed_cp0_in hj]
          unfold ed_tR
          rw [ed_fl_div hj, ed_fl_mod hj]
        · by_cases q : e / C v < row
          · exact Or.inl q
          · refine Or.inr ⟨e % C v, Nat.mod_lt _ (by omega), ?_⟩
            have q2 : e / C v = row := by omega
            rw [← q2]
            exact ed_dm
        · rcases d with d | ⟨j, hj, rfl⟩
          · exact Nat.lt_succ_of_lt d
          · rw [ed_fl_div hj]
            exact Nat.lt_succ_self row
theorem ed_xTC2 {post : SX → Prop} (hS : ed_Sh rr cc R C) {v : Nat} {bk : Int32} {ce0 : Nat → Int32} (hv : v < 4) (k : ∀ ce' re', ed_hf ce' ce0 v (R v * C v) (T v) (ed_tC (R v) (C v) (ed_bk bk) (T v)) (fun e => e % C v < C v) → post (ce', rr, cc, re', ba, cu, ol, sa)) : ∀ (n col : Nat) (ce re : Nat → Int32), C v < n + col → col ≤ C v → ed_hf ce ce0 v (R v * C v) (T v) (ed_tC (R v) (C v) (ed_bk bk) (T v)) (fun e => e % C v < col) → wX_transformColumns_2 post (nI v) bk n (nI col) ce rr cc re ba cu ol sa := by
  intro n
  obtain ⟨g1, g2, g3, g4, g5, g6, g7⟩ := hS v hv
  have va : vp_in (nI v) 4 := vp_in_nI hv (by decide)
  induction n with
  | zero => intro col ce re h1 h2; omega
  | succ n ih =>
    intro col ce re h1 h2 h
    rw [wX_transformColumns_2]
    dsimp only
    rw [nI_clamp (show v < 2 ^ 31 by omega), g1, g2]
    by_cases e : col = C v
    · subst e
      exact ⟨va, br_t (nI_le (Nat.le_refl _) (by omega)) (k ce re h)⟩
    · have hc : col < C v := by omega
      have hlt : ∀ j, j < R v → j * C v + col < R v * C v := fun j hj => ed_fl_lt hj hc
      rw [ed_ix]
      refine ⟨va, br_f (nI_ge (by omega) (by omega)) ⟨va, va, ed_xTL (s := C v) (l := fun j => T v (j * C v + col)) g3 g4 (fun j hj => ?_) (fun j hj => by have := hlt j hj; omega) ?_⟩⟩
      · have q := (h.1 (j * C v + col) (hlt j hj)).2 (by show ¬ (j * C v + col) % C v < col; rw [ed_fl_mod hc]; omega)
        rw [show v * 48 + col + j * C v = v * 48 + (j * C v + col) by omega]
        exact q
      · refine nm_r (nI_1 col) (ih (col + 1) _ _ (by omega) (by omega) (ed_hf_s h (fun j => j * C v + col) (fun j hj => ⟨hlt j hj, by omega⟩) g5 (fun j hj => ?_) (fun e he => ⟨fun d => ?_, fun d => ?_⟩)))
        · rw [ed_cp0_in hj]
          unfold ed_tC
          rw [ed_fl_div hc, ed_fl_mod hc]
        · by_cases q : e % C v < col
          · exact Or.inl q
          · have q2 : e % C v = col := by omega
            refine Or.inr ⟨e / C v, ?_, ?_⟩
            · apply Nat.div_lt_of_lt_mul
              rw [Nat.mul_comm]
              exact he
            · rw [← q2]
              exact ed_dm
        · rcases d with d | ⟨j, hj, rfl⟩
          · exact Nat.lt_succ_of_lt d
          · rw [ed_fl_mod hc]
            exact Nat.lt_succ_self col
theorem ed_xTR {post : SX → Prop} (hS : ed_Sh rr cc R C) (hC : ed_Ce ce R C T) {v : Nat} {bk : Int32} (hv : v < 4) (k : ∀ ce' re', ed_Ce ce' R C (ed_up T v (ed_tR (C v) (ed_bk bk) (T v))) → post (ce', rr, cc, re', ba, cu, ol, sa)) : wpX_transformRows post (ce, rr, cc, re, ba, cu, ol, sa) (nI v) bk := by
  unfold wpX_transformRows
  dsimp only
  exact ⟨R v + 1, ed_xTR2 hS hv (fun ce' re' h => k ce' re' (ed_hf_Ce hC (ed_ShB hS) h (fun e he => Nat.div_lt_of_lt_mul (by rw [Nat.mul_comm]; exact he)))) (R v + 1) 0 ce re (by omega) (by omega) (ed_hf_0 hC hv (fun e => Nat.not_lt_zero _))⟩
theorem ed_xTC {post : SX → Prop} (hS : ed_Sh rr cc R C) (hC : ed_Ce ce R C T) {v : Nat} {bk : Int32} (hv : v < 4) (k : ∀ ce' re', ed_Ce ce' R C (ed_up T v (ed_tC (R v) (C v) (ed_bk bk) (T v))) → post (ce', rr, cc, re', ba, cu, ol, sa)) : wpX_transformColumns post (ce, rr, cc, re, ba, cu, ol, sa) (nI v) bk := by
  unfold wpX_transformColumns
  dsimp only
  exact ⟨C v + 1, ed_xTC2 hS hv (fun ce' re' h => k ce' re' (ed_hf_Ce hC (ed_ShB hS) h (fun e he => Nat.mod_lt _ (hS v hv).2.2.2.2.1))) (C v + 1) 0 ce re (by omega) (by omega) (ed_hf_0 hC hv (fun e => Nat.not_lt_zero _))⟩
def ed_tA (q r n : Nat) (back : Bool) (t : Nat → ed_K) : Nat → ed_K := if q = 1 then ed_tC r n back t else if q = 0 then ed_tR n back t else ed_tC r n back (ed_tR n back t)
theorem ed_upup {α : Type} (f : Nat → α) (c : Nat) (x y : α) : ed_up (ed_up f c x) c y = ed_up f c y := by
  funext v
  by_cases e : v = c
  · subst e
    rw [ed_ups, ed_ups]
  · rw [ed_upn _ _ e, ed_upn _ _ e, ed_upn _ _ e]
theorem ed_upid {α : Type} (f : Nat → α) (c : Nat) : ed_up f c (f c) = f := by
  funext v
  by_cases e : v = c
  · subst e
    rw [ed_ups]
  · rw [ed_upn _ _ e]
theorem ed_xTra {post : Int32 → SX → Prop} (hS : ed_Sh rr cc R C) (hC : ed_Ce ce R C T) {x y z : Int32} (hy : ∀ v q, v < 4 → q ≤ 2 → x = nI v → y = nI q → ∀ u', ed_PX R C (ed_up T v (ed_tA q (R v) (C v) (ed_bk z) (T v))) u' → post 1 u') (hn : (∀ v q, v < 4 → q ≤ 2 → x = nI v → y ≠ nI q) → post 0 (ce, rr, cc, re, ba, cu, ol, sa)) : wpX_transform post (ce, rr, cc, re, ba, cu, ol, sa) x y z := by
  unfold wpX_transform
  dsimp only
  refine ed_xTab (fun v hv e => br_f (by decide) (br_c (fun c => hn ?_) (fun c => ?_))) (fun h => br_t rfl (hn (fun v q hv _ e => absurd e (h v hv))))
  · intro v q _ hq _ e
    rw [e] at c
    exact nI_pos (by omega) c
  · obtain ⟨q, hq, rfl⟩ := nI_of c
    refine pk_le q 2 (fun d => ?_) (fun d => hn (fun v' q' _ hq' _ e => ?_))
    · have hq2 := hy v q hv d e rfl
      subst e
      refine pk_eq q 1 (fun e1 => ?_) (fun e1 => ?_)
      · subst e1
        refine br_f (by decide) (ed_xTC hS hC hv (fun ce' re' h => hq2 _ ⟨_, _, _, _, _, _, _, _, rfl, hS, h⟩))
      · refine ed_xTR hS hC hv (fun ce' re' h => ?_)
        refine pk_eq q 0 (fun e0 => ?_) (fun e0 => ?_)
        · subst e0
          exact hq2 _ ⟨_, _, _, _, _, _, _, _, rfl, hS, h⟩
        · refine ed_xTC hS h hv (fun ce'' re'' h' => hq2 _ ⟨_, _, _, _, _, _, _, _, rfl, hS, ?_⟩)
          rw [ed_upup, ed_ups] at h'
          unfold ed_tA
          rw [if_neg e1, if_neg e0]
          exact h'
    · have := (nI_eq hq (by omega)).mp e
      omega
end
