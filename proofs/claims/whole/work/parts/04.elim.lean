/-! equations: elimination column by column; A e k is the factor of unknown k in row e, A e L the right side -/
def ed_sol {K : Type} [Lean.Grind.CommRing K] (A : Nat → Nat → K) (E L : Nat) (q : Nat → K) : Prop := ∀ e, e < E → ed_sm (fun t => A e t * q t) L = A e L
def ed_ge {K : Type} [Lean.Grind.CommRing K] (A : Nat → Nat → K) (E t d : Nat) (pc : Nat → Nat) : Prop :=
  d ≤ t ∧ d ≤ E ∧ (∀ e, e < d → pc e < t) ∧ (∀ e e', e < E → e' < d → A e (pc e') = if e = e' then 1 else 0) ∧ (∀ e k, d ≤ e → e < E → k < t → A e k = 0) ∧ (d = t → ∀ e, e < d → pc e = e) ∧ (d < t → ∃ t0, t0 < t ∧ ∀ e, e < d → pc e ≠ t0)
theorem ed_ge_0 {K : Type} [Lean.Grind.CommRing K] (A : Nat → Nat → K) (E : Nat) (pc : Nat → Nat) : ed_ge A E 0 0 pc :=
  ⟨by omega, by omega, fun e h => by omega, fun e e' _ h => by omega, fun e k _ _ h => by omega, fun _ e h => by omega, fun h => by omega⟩
theorem ed_ge_n {K : Type} [Lean.Grind.CommRing K] {A : Nat → Nat → K} {E t d : Nat} {pc : Nat → Nat} (h : ed_ge A E t d pc) (hn : ∀ e, d ≤ e → e < E → A e t = 0) : ed_ge A E (t + 1) d pc := by
  obtain ⟨a1, a2, a3, a4, a5, a6, a7⟩ := h
  refine ⟨by omega, a2, fun e h => by have := a3 e h; omega, a4, fun e k h1 h2 h3 => ?_, fun h => by omega, fun _ => ⟨t, by omega, fun e h => by have := a3 e h; omega⟩⟩
  by_cases c : k = t
  · rw [c]; exact hn e h1 h2
  · exact a5 e k h1 h2 (by omega)
/-- row e after the swap of rows p and d, row d's place taken as p's -/
def ed_rw {K : Type} (A : Nat → Nat → K) (p d e : Nat) : Nat → K := if e = p then A d else A e
theorem ed_ge_p {K : Type} [Lean.Grind.CommRing K] (iv : K → K) (hiv : ∀ a : K, a ≠ 0 → a * iv a = 1) {A A' : Nat → Nat → K} {E L t d p : Nat} {pc : Nat → Nat} (h : ed_ge A E t d pc) (ht : t < L) (hp : d ≤ p) (hpE : p < E) (hl : A p t ≠ 0)
    (hd : ∀ k, k ≤ L → A' d k = A p k * iv (A p t)) (he : ∀ e k, e < E → e ≠ d → k ≤ L → A' e k = ed_rw A p d e k - ed_rw A p d e t * A' d k) : ed_ge A' E (t + 1) (d + 1) (fun e => if e = d then t else pc e) := by
  obtain ⟨a1, a2, a3, a4, a5, a6, a7⟩ := h
  have h1 : A' d t = 1 := by rw [hd t (by omega)]; exact hiv _ hl
  have hz : ∀ k, k < t → A' d k = 0 := fun k hk => by
    rw [hd k (by omega), a5 p k hp hpE hk]; grind
  refine ⟨by omega, by omega, fun e h => ?_, fun e e' h h' => ?_, fun e k h2 h3 h4 => ?_, fun h e h' => ?_, fun h => ?_⟩
  · show (if e = d then t else pc e) < t + 1
    by_cases c : e = d
    · rw [if_pos c]; omega
    · rw [if_neg c]; have := a3 e (by omega); omega
  · show A' e (if e' = d then t else pc e') = _
    by_cases c : e' = d
    · rw [if_pos c]
      by_cases c2 : e = d
      · rw [if_pos (by omega), c2]; exact h1
      · rw [if_neg (by omega), he e t h c2 (by omega), h1]; grind
    · have hq := a3 e' (by omega)
      rw [if_neg c]
      by_cases c2 : e = d
      · rw [if_neg (by omega), c2, hd _ (by omega), a4 p e' hpE (by omega), if_neg (by omega)]; grind
      · rw [he e _ h c2 (by omega), hd _ (by omega), a4 p e' hpE (by omega), if_neg (show ¬ p = e' by omega)]
        unfold ed_rw
        by_cases c3 : e = p
        · rw [if_pos c3, if_neg (show ¬ e = e' by omega), a4 d e' (by omega) (by omega), if_neg (show ¬ d = e' by omega)]; grind
        · rw [if_neg c3, a4 e e' h (by omega)]; grind
  · by_cases c : k = t
    · rw [c, he e t h3 (by omega) (by omega), h1]; grind
    · rw [he e k h3 (by omega) (by omega), hz k (by omega)]
      unfold ed_rw
      by_cases c3 : e = p
      · rw [if_pos c3, a5 d k (by omega) (by omega) (by omega)]; grind
      · rw [if_neg c3, a5 e k (by omega) h3 (by omega)]; grind
  · show (if e = d then t else pc e) = e
    by_cases c : e = d
    · rw [if_pos c]; omega
    · rw [if_neg c]; exact a6 (by omega) e (by omega)
  · obtain ⟨t0, b1, b2⟩ := a7 (by omega)
    refine ⟨t0, by omega, fun e h' => ?_⟩
    show (if e = d then t else pc e) ≠ t0
    by_cases c : e = d
    · rw [if_pos c]; omega
    · rw [if_neg c]; exact b2 e (by omega)
theorem ed_sol_p {K : Type} [Lean.Grind.CommRing K] (iv : K → K) (hiv : ∀ a : K, a ≠ 0 → a * iv a = 1) {A A' : Nat → Nat → K} {E L t d p : Nat} (ht : t < L) (hp : d ≤ p) (hpE : p < E) (hl : A p t ≠ 0)
    (hd : ∀ k, k ≤ L → A' d k = A p k * iv (A p t)) (he : ∀ e k, e < E → e ≠ d → k ≤ L → A' e k = ed_rw A p d e k - ed_rw A p d e t * A' d k) (q : Nat → K) : ed_sol A E L q ↔ ed_sol A' E L q := by
  have hi := hiv _ hl
  have key : ∀ (f g : Nat → K) (c : K), ed_sm (fun t => (f t + c * g t) * q t) L = ed_sm (fun t => f t * q t) L + c * ed_sm (fun t => g t * q t) L := fun f g c => by
    rw [← ed_sm_mul, ← ed_sm_add]
    exact ed_sm_congr (fun t _ => by grind)
  constructor
  · intro h
    have hD : ed_sm (fun t => A' d t * q t) L = A' d L := by
      have e1 : ed_sm (fun t => A' d t * q t) L = iv (A p t) * ed_sm (fun t => A p t * q t) L := by
        rw [← ed_sm_mul]
        exact ed_sm_congr (fun k hk => by rw [hd k (by omega)]; grind)
      rw [e1, h p hpE, hd L (by omega)]; grind
    intro e h1
    by_cases c : e = d
    · rw [c]; exact hD
    · have e1 : ed_sm (fun k => A' e k * q k) L = ed_sm (fun k => (ed_rw A p d e k + (- ed_rw A p d e t) * A' d k) * q k) L :=
        ed_sm_congr (fun k hk => by rw [he e k h1 c (by omega)]; grind)
      have e2 : ed_sm (fun k => ed_rw A p d e k * q k) L = ed_rw A p d e L := by
        unfold ed_rw
        by_cases c3 : e = p
        · rw [if_pos c3]; exact h d (by omega)
        · rw [if_neg c3]; exact h e h1
      rw [e1, key, e2, hD, he e L h1 c (by omega)]; grind
  · intro h
    have hD := h d (by omega)
    have hP : ed_sm (fun t => A p t * q t) L = A p L := by
      have e1 : ed_sm (fun k => A p k * q k) L = A p t * ed_sm (fun k => A' d k * q k) L := by
        rw [← ed_sm_mul]
        exact ed_sm_congr (fun k hk => by rw [hd k (by omega)]; grind)
      rw [e1, hD, hd L (by omega)]; grind
    have hR : ∀ e, e < E → e ≠ d → ed_sm (fun k => ed_rw A p d e k * q k) L = ed_rw A p d e L := fun e h1 c => by
      have e1 : ed_sm (fun k => ed_rw A p d e k * q k) L = ed_sm (fun k => (A' e k + ed_rw A p d e t * A' d k) * q k) L :=
        ed_sm_congr (fun k hk => by rw [he e k h1 c (by omega)]; grind)
      rw [e1, key, hD, h e h1, he e L h1 c (by omega)]; grind
    intro e h1
    by_cases c : e = p
    · rw [c]; exact hP
    · by_cases c2 : e = d
      · have r := hR p hpE (by omega)
        unfold ed_rw at r
        rw [if_pos rfl] at r
        rw [c2]; exact r
      · have r := hR e h1 c2
        unfold ed_rw at r
        rw [if_neg c] at r
        exact r
/-- a sum picked out by the columns of the leading ones -/
theorem ed_pick {K : Type} [Lean.Grind.CommRing K] (f g : Nat → K) (pc : Nat → Nat) (d L : Nat) (h : ∀ e, e < d → pc e < L) : ed_sm (fun k => f k * ed_sm (fun e => if pc e = k then g e else 0) d) L = ed_sm (fun e => f (pc e) * g e) d := by
  have e1 : ed_sm (fun k => f k * ed_sm (fun e => if pc e = k then g e else 0) d) L = ed_sm (fun k => ed_sm (fun e => f k * (if pc e = k then g e else 0)) d) L :=
    ed_sm_congr (fun k _ => (ed_sm_mul (f k) (fun e => if pc e = k then g e else 0) d).symm)
  rw [e1, ed_sm_swap (fun k e => f k * (if pc e = k then g e else 0))]
  refine ed_sm_congr (fun e he => ?_)
  have e2 := ed_sm_one (f := fun k => f k * (if pc e = k then g e else 0)) (h e he) (fun k _ hk => by
    show f k * (if pc e = k then g e else 0) = 0
    rw [if_neg (fun z => hk z.symm)]; grind)
  have e3 : ed_sm (fun k => f k * (if pc e = k then g e else 0)) L = f (pc e) * (if pc e = pc e then g e else 0) := e2
  show ed_sm (fun k => f k * (if pc e = k then g e else 0)) L = f (pc e) * g e
  rw [e3, if_pos rfl]
theorem ed_ge_yes {K : Type} [Lean.Grind.CommRing K] {A : Nat → Nat → K} {E L d : Nat} {pc : Nat → Nat} (h : ed_ge A E L d pc) (hr : ∀ e, d ≤ e → e < E → A e L = 0) : ∃ q, ed_sol A E L q := by
  obtain ⟨a1, a2, a3, a4, a5, a6, a7⟩ := h
  refine ⟨fun k => ed_sm (fun e => if pc e = k then A e L else 0) d, fun e he => ?_⟩
  have e1 := ed_pick (fun k => A e k) (fun e => A e L) pc d L a3
  rw [e1]
  by_cases c : e < d
  · rw [ed_sm_one (f := fun e' => A e (pc e') * A e' L) c (fun e' h1 h2 => by
      show A e (pc e') * A e' L = 0
      rw [a4 e e' he h1, if_neg (fun z => h2 z.symm)]; grind)]
    rw [a4 e e he c, if_pos rfl]; grind
  · rw [ed_sm_z (f := fun e' => A e (pc e') * A e' L) (n := d) (fun e' h1 => by
      show A e (pc e') * A e' L = 0
      rw [a4 e e' he h1, if_neg (by omega)]; grind), hr e (by omega) he]
theorem ed_ge_no {K : Type} [Lean.Grind.CommRing K] {A : Nat → Nat → K} {E L d : Nat} {pc : Nat → Nat} (h : ed_ge A E L d pc) {q : Nat → K} (hq : ed_sol A E L q) : ∀ e, d ≤ e → e < E → A e L = 0 := by
  obtain ⟨a1, a2, a3, a4, a5, a6, a7⟩ := h
  intro e h1 h2
  rw [← hq e h2]
  exact ed_sm_z (fun k hk => by rw [a5 e k h1 h2 hk]; grind)
/-- where the solution is the only one it stands at the right -/
theorem ed_ge_one {K : Type} [Lean.Grind.CommRing K] (h1 : (1 : K) ≠ 0) {A : Nat → Nat → K} {E L d : Nat} {pc : Nat → Nat} (h : ed_ge A E L d pc) {q : Nat → K} (hq : ed_sol A E L q) (hu : ∀ q', ed_sol A E L q' → ∀ t, t < L → q' t = q t) : L ≤ E ∧ ∀ t, t < L → A t L = q t := by
  obtain ⟨a1, a2, a3, a4, a5, a6, a7⟩ := h
  have hd : d = L := by
    apply Classical.byContradiction
    intro c
    obtain ⟨t0, b1, b2⟩ := a7 (by omega)
    have hs : ed_sol A E L (fun k => q k + ((if k = t0 then 1 else 0) - ed_sm (fun e => if pc e = k then A e t0 else 0) d)) := by
      intro e he
      have e1 : ed_sm (fun k => A e k * (q k + ((if k = t0 then 1 else 0) - ed_sm (fun e => if pc e = k then A e t0 else 0) d))) L = ed_sm (fun k => A e k * q k) L + (ed_sm (fun k => A e k * (if k = t0 then 1 else 0)) L - ed_sm (fun k => A e k * ed_sm (fun e => if pc e = k then A e t0 else 0) d) L) := by
        rw [← ed_sm_sub, ← ed_sm_add]
        exact ed_sm_congr (fun k _ => by grind)
      have e2 : ed_sm (fun k => A e k * (if k = t0 then 1 else 0)) L = A e t0 := by
        rw [ed_sm_one (f := fun k => A e k * (if k = t0 then 1 else 0)) b1 (fun k _ hk => by
          show A e k * (if k = t0 then 1 else 0) = 0
          rw [if_neg hk]; grind)]
        rw [if_pos rfl]; grind
      have e3 := ed_pick (fun k => A e k) (fun e => A e t0) pc d L a3
      have e4 : ed_sm (fun e' => A e (pc e') * A e' t0) d = A e t0 := by
        by_cases c : e < d
        · rw [ed_sm_one (f := fun e' => A e (pc e') * A e' t0) c (fun e' h1 h2 => by
            show A e (pc e') * A e' t0 = 0
            rw [a4 e e' he h1, if_neg (fun z => h2 z.symm)]; grind)]
          rw [a4 e e he c, if_pos rfl]; grind
        · rw [ed_sm_z (f := fun e' => A e (pc e') * A e' t0) (n := d) (fun e' h1 => by
            show A e (pc e') * A e' t0 = 0
            rw [a4 e e' he h1, if_neg (by omega)]; grind), a5 e t0 (by omega) he b1]
      rw [e1, e2, e3, e4, hq e he]; grind
    have := hu _ hs t0 b1
    have e5 : q t0 + ((if t0 = t0 then 1 else 0) - ed_sm (fun e => if pc e = t0 then A e t0 else 0) d) = q t0 := this
    rw [if_pos rfl, ed_sm_z (f := fun e => if pc e = t0 then A e t0 else 0) (n := d) (fun e h => if_neg (b2 e h))] at e5
    exact h1 (by grind)
  subst hd
  refine ⟨a2, fun t ht => ?_⟩
  rw [← hq t (by omega)]
  rw [ed_sm_one (f := fun k => A t k * q k) ht (fun k hk hne => by
    show A t k * q k = 0
    have e := a4 t k (by omega) hk
    rw [a6 rfl k hk, if_neg (fun z => hne z.symm)] at e
    rw [e]; grind)]
  have e := a4 t t (by omega) ht
  rw [a6 rfl t ht, if_pos rfl] at e
  rw [e]; grind
