/-! the relation; the constructors, shape, put, at, size -/
def ed_PX (R C : Nat → Nat) (T : Nat → Nat → ed_K) (u : SX) : Prop := ∃ ce rr cc re ba cu ol sa : Nat → Int32, u = (ce, rr, cc, re, ba, cu, ol, sa) ∧ ed_Sh rr cc R C ∧ ed_Ce ce R C T
def ed_PY (R C : Nat → Nat) (T : Nat → Nat → ed_K) (v : SY) : Prop := ∃ rr cc ce ma od po sy : Nat → Int32, v = (rr, cc, ce, ma, od, po, sy) ∧ ed_Sh rr cc R C ∧ ed_Ce ce R C T
/-- both hold the same tables: shapes R, C, elements T -/
def i_Rel (_ : Nat) (u : SX) (v : SY) : Prop := ∃ R C T, ed_PX R C T u ∧ ed_PY R C T v
theorem i_up {k : Nat} {u : SX} {v : SY} (h : i_Rel k u v) : i_Rel (k + 5) u v := h
section
variable {R C : Nat → Nat} {T : Nat → Nat → ed_K} {ce rr cc re ba cu ol sa ma od po sy : Nat → Int32}
theorem ed_xIni {post : SX → Prop} : ∀ n i : Nat, 4 < n + i → i ≤ 4 → post (ce, ed_cp rr 0 4 (fun _ => 1), ed_cp cc 0 4 (fun _ => 1), re, ba, cu, ol, sa) → wX_init_69 post n (nI i) ce (ed_cp rr 0 i (fun _ => 1)) (ed_cp cc 0 i (fun _ => 1)) re ba cu ol sa := by
  intro n
  induction n with
  | zero => intro i h1 h2; omega
  | succ n ih =>
    intro i h1 h2 k
    have e1 := ed_cpS rr 0 i (fun _ => 1)
    have e2 := ed_cpS cc 0 i (fun _ => 1)
    rw [Nat.zero_add] at e1 e2
    rw [wX_init_69]
    dsimp only
    rw [nI_clamp (show i < 2 ^ 31 by omega)]
    by_cases e : i = 4
    · subst e
      exact br_t (by decide) k
    · have hv : vp_in (nI i) 4 := vp_in_nI (by omega) (by decide)
      exact br_f (nI_ge (b := 4) (by omega) (by decide)) ⟨hv, nm_r e1 ⟨hv, nm_r e2 (nm_r (nI_1 i) (ih (i + 1) (by omega) (by omega) k))⟩⟩
theorem ed_yIni {post : SY → Prop} : ∀ n i : Nat, 4 < n + i → i ≤ 4 → post (ed_cp rr 0 4 (fun _ => 1), ed_cp cc 0 4 (fun _ => 1), ce, ma, od, po, sy) → wY_init_61 post n (nI i) (ed_cp rr 0 i (fun _ => 1)) (ed_cp cc 0 i (fun _ => 1)) ce ma od po sy := by
  intro n
  induction n with
  | zero => intro i h1 h2; omega
  | succ n ih =>
    intro i h1 h2 k
    have e1 := ed_cpS rr 0 i (fun _ => 1)
    have e2 := ed_cpS cc 0 i (fun _ => 1)
    have e3 : vp_nar .byte 1 = 1 := ed_vb (r := 1) (by decide)
    rw [Nat.zero_add] at e1 e2
    rw [wY_init_61]
    dsimp only
    rw [nI_clamp (show i < 2 ^ 31 by omega), e3]
    by_cases e : i = 4
    · subst e
      exact br_t (by decide) k
    · have hv : vp_in (nI i) 4 := vp_in_nI (by omega) (by decide)
      exact br_f (nI_ge (b := 4) (by omega) (by decide)) ⟨hv, nm_r e1 ⟨hv, nm_r e2 (nm_r (nI_1 i) (ih (i + 1) (by omega) (by omega) k))⟩⟩
theorem ed_Sh0 (f g : Nat → Int32) : ed_Sh (ed_cp f 0 4 (fun _ => 1)) (ed_cp g 0 4 (fun _ => 1)) (fun _ => 1) (fun _ => 1) := by
  intro v hv
  have e1 := ed_cp_in (a := f) (o := 0) (n := 4) (b := fun _ => 1) hv
  have e2 := ed_cp_in (a := g) (o := 0) (n := 4) (b := fun _ => 1) hv
  rw [Nat.zero_add] at e1 e2
  rw [e1, e2]
  exact ⟨rfl, rfl, (by decide : (1 : Nat) ≤ 1), (by decide : (1 : Nat) ≤ 16), (by decide : (1 : Nat) ≤ 1), (by decide : (1 : Nat) ≤ 16), (by decide : (1 : Nat) * 1 ≤ 48)⟩
theorem ed_Ce0 : ed_Ce (fun _ => 0) (fun _ => 1) (fun _ => 1) (fun _ _ => 0) := fun v i _ _ => ed_I_0.symm
theorem i_vc0 : wpX_init (fun u => wpY_init (fun v => i_Rel 0 u v)) := by
  have hY : ∀ u, ed_PX (fun _ => 1) (fun _ => 1) (fun _ _ => 0) u → wpY_init (fun v => i_Rel 0 u v) := fun u hu => by
    have k := ed_yIni (post := fun v => i_Rel 0 u v) (rr := fun _ => 0) (cc := fun _ => 0) (ce := fun _ => 0) (ma := fun _ => 0) (od := fun _ => 0) (po := fun _ => 0) (sy := fun _ => 0) 5 0 (by omega) (by omega) ⟨_, _, _, hu, _, _, _, _, _, _, _, rfl, ed_Sh0 _ _, ed_Ce0⟩
    rw [ed_cp0] at k
    exact ⟨5, k⟩
  have k := ed_xIni (post := fun u => wpY_init (fun v => i_Rel 0 u v)) (ce := fun _ => 0) (rr := fun _ => 0) (cc := fun _ => 0) (re := fun _ => 0) (ba := fun _ => 0) (cu := fun _ => 0) (ol := fun _ => 0) (sa := fun _ => 0) 5 0 (by omega) (by omega) (hY _ ⟨_, _, _, _, _, _, _, _, rfl, ed_Sh0 _ _, ed_Ce0⟩)
  rw [ed_cp0] at k
  exact ⟨5, k⟩
theorem ed_xShp34 {post : Int32 → SX → Prop} {v r s N : Nat} (hv : v < 4) (hN : r * s = N) (hb : N ≤ 48) : ∀ n i : Nat, N < n + i → i ≤ N → post 1 (ed_cp ce (v * 48) (r * s) (ed_cp re 0 N (fun _ => 0)), upd rr v (nI r), upd cc v (nI s), ed_cp re 0 N (fun _ => 0), ba, cu, ol, sa) → wX_shape_34 post (nI v) (nI r) (nI s) n (nI i) ce rr cc (ed_cp re 0 i (fun _ => 0)) ba cu ol sa := by
  intro n
  induction n with
  | zero => intro i h1 h2; omega
  | succ n ih =>
    intro i h1 h2 k
    have e1 := ed_cpS re 0 i (fun _ => 0)
    rw [Nat.zero_add] at e1
    rw [wX_shape_34]
    dsimp only
    rw [pk_mul, hN, nI_clamp (show i < 2 ^ 31 by omega)]
    by_cases e : i = N
    · subst e
      exact br_t (nI_le (Nat.le_refl _) (by omega)) (ed_xDel hv (by omega) k)
    · exact br_f (nI_ge (by omega) (by omega)) ⟨vp_in_nI (by omega) (by decide), nm_r e1 (nm_r (nI_1 i) (ih (i + 1) (by omega) (by omega) k))⟩
theorem ed_nsd {r : Nat} {x : Int32} (h1 : 1 ≤ r) (h2 : r ≤ 16) (e : x = nI r) : ¬ (x < 1 ∨ 16 < x) := by
  rw [e]
  intro h
  rcases h with h | h
  · exact nI_nlt (b := 1) h1 (by omega) h
  · exact nI_nlt (a := 16) h2 (by decide) h
theorem ed_xShp {post : Int32 → SX → Prop} (hS : ed_Sh rr cc R C) (hC : ed_Ce ce R C T) {x y z : Int32}
    (hy : ∀ j r s, j < 4 → 1 ≤ r → r ≤ 16 → 1 ≤ s → s ≤ 16 → r * s ≤ 48 → x = nI j → y = nI r → z = nI s → ∀ u', ed_PX (ed_up R j r) (ed_up C j s) (ed_up T j (fun _ => 0)) u' → post 1 u')
    (hn : (∀ j r s, j < 4 → 1 ≤ r → r ≤ 16 → 1 ≤ s → s ≤ 16 → r * s ≤ 48 → x = nI j → y = nI r → z ≠ nI s) → post 0 (ce, rr, cc, re, ba, cu, ol, sa)) : wpX_shape post (ce, rr, cc, re, ba, cu, ol, sa) x y z := by
  unfold wpX_shape
  dsimp only
  refine ed_xTab (fun j hj e => ?_) (fun h => br_t rfl (hn (fun j r s hj _ _ _ _ _ e => absurd e (h j hj))))
  subst e
  refine br_f (by decide) ?_
  rcases ed_side y with h | ⟨r, r1, r2, e⟩
  · exact ed_xSn h (br_t rfl (hn (fun j r s _ a b _ _ _ _ e => absurd h (ed_nsd a b e))))
  subst e
  refine ed_xSy r1 r2 (br_f (by decide) ?_)
  rcases ed_side z with h | ⟨s, s1, s2, e⟩
  · exact ed_xSn h (br_t rfl (hn (fun j r s _ _ _ a b _ _ _ e => ed_nsd a b e h)))
  subst e
  refine ed_xSy s1 s2 (br_f (by decide) ?_)
  rw [pk_mul]
  have hm : r * s ≤ 16 * 16 := Nat.mul_le_mul r2 s2
  refine pk_le (r * s) 48 (fun c => ?_) (fun c => hn ?_)
  · have hB : ∀ v, v < 4 → R v * C v ≤ 48 := fun v hv => (hS v hv).2.2.2.2.2.2
    have e0 : ∀ i, i < r * s → ed_cp re 0 (r * s) (fun _ => 0) i = ed_I 0 := fun i hi => by
      have e1 := ed_cp_in (a := re) (o := 0) (n := r * s) (b := fun _ => 0) hi
      rw [Nat.zero_add] at e1
      rw [e1, ed_I_0]
    have k := ed_xShp34 (post := post) (ce := ce) (rr := rr) (cc := cc) (re := re) (ba := ba) (cu := cu) (ol := ol) (sa := sa) hj rfl c (r * s + 1) 0 (by omega) (by omega) (hy j r s hj r1 r2 s1 s2 c rfl rfl rfl _ ⟨_, _, _, _, _, _, _, _, rfl, ed_Sh_up hS r1 r2 s1 s2 c, ed_Ce_up hC hB c e0⟩)
    rw [ed_cp0] at k
    exact ⟨_, k⟩
  · intro j' r' s' _ _ _ _ b c' _ e1 e2
    have a1 := (nI_eq (by omega) (by omega)).mp e1
    have a2 := (nI_eq (by omega) (by omega)).mp e2
    subst a1 a2
    omega
theorem ed_yShp59 {post : Int32 → SY → Prop} {v : Nat} (hv : v < 4) : ∀ n i : Nat, 48 < n + i → i ≤ 48 → post 1 (rr, cc, ed_cp ce (v * 48) 48 (fun _ => 0), ma, od, po, sy) → wY_shape_59 post (nI v) n (nI i) rr cc (ed_cp ce (v * 48) i (fun _ => 0)) ma od po sy := by
  intro n
  induction n with
  | zero => intro i h1 h2; omega
  | succ n ih =>
    intro i h1 h2 k
    rw [wY_shape_59]
    dsimp only
    rw [ed_iy, nI_clamp (show v * 48 + i < 2 ^ 31 by omega)]
    by_cases e : i = 48
    · subst e
      exact br_t (by decide) k
    · exact br_f (nI_ge (b := 48) (by omega) (by decide)) ⟨vp_in_nI (by omega) (by decide), nm_r (ed_cpS ce (v * 48) i (fun _ => 0)) (nm_r (nI_1 i) (ih (i + 1) (by omega) (by omega) k))⟩
theorem ed_cp_le {a : Nat → Int32} {R C : Nat → Nat} {T : Nat → Nat → ed_K} (hC : ed_Ce a R C T) (hB : ∀ v, v < 4 → R v * C v ≤ 48) {v r s : Nat} (h : r * s ≤ 48) : ed_Ce (ed_cp a (v * 48) 48 (fun _ => 0)) (ed_up R v r) (ed_up C v s) (ed_up T v (fun _ => 0)) := by
  intro w i hw hi
  by_cases e : w = v
  · subst e
    rw [ed_ups, ed_ups] at hi
    rw [ed_ups, ed_cp_in (by omega), ed_I_0]
  · rw [ed_upn _ _ e, ed_upn _ _ e] at hi
    rw [ed_upn _ _ e]
    have := hB w hw
    rw [ed_cp_out (by omega)]
    exact hC w i hw hi
theorem ed_yShp {post : Int32 → SY → Prop} (hS : ed_Sh rr cc R C) (hC : ed_Ce ce R C T) {x y z : Int32}
    (hy : ∀ j r s, j < 4 → 1 ≤ r → r ≤ 16 → 1 ≤ s → s ≤ 16 → r * s ≤ 48 → x = nI j → y = nI r → z = nI s → ∀ u', ed_PY (ed_up R j r) (ed_up C j s) (ed_up T j (fun _ => 0)) u' → post 1 u')
    (hn : (∀ j r s, j < 4 → 1 ≤ r → r ≤ 16 → 1 ≤ s → s ≤ 16 → r * s ≤ 48 → x = nI j → y = nI r → z ≠ nI s) → post 0 (rr, cc, ce, ma, od, po, sy)) : wpY_shape post (rr, cc, ce, ma, od, po, sy) x y z := by
  unfold wpY_shape
  dsimp only
  refine ed_yTab (fun j hj e => ?_) (fun h => br_t rfl (hn (fun j r s hj _ _ _ _ _ e => absurd e (h j hj))))
  subst e
  refine br_f (by decide) ?_
  rcases ed_side y with h | ⟨r, r1, r2, e⟩
  · by_cases c : y < 1
    · exact br_t c (hn (fun j r s _ a b _ _ _ _ e => absurd h (ed_nsd a b e)))
    · exact br_f c (br_t (h.resolve_left c) (hn (fun j r s _ a b _ _ _ _ e => absurd h (ed_nsd a b e))))
  subst e
  refine br_f (nI_nlt (b := 1) r1 (by omega)) (br_f (nI_nlt (a := 16) r2 (by decide)) ?_)
  rcases ed_side z with h | ⟨s, s1, s2, e⟩
  · by_cases c : z < 1
    · exact br_t c (hn (fun j r s _ _ _ a b _ _ _ e => ed_nsd a b e h))
    · exact br_f c (br_t (h.resolve_left c) (hn (fun j r s _ _ _ a b _ _ _ e => ed_nsd a b e h)))
  subst e
  refine br_f (nI_nlt (b := 1) s1 (by omega)) (br_f (nI_nlt (a := 16) s2 (by decide)) ?_)
  rw [pk_mul, ed_nb r (by omega), ed_nb s (by omega), ed_vb r2, ed_vb s2, nI_clamp (show j < 2 ^ 31 by omega)]
  have hm : r * s ≤ 16 * 16 := Nat.mul_le_mul r2 s2
  have hv : vp_in (nI j) 4 := vp_in_nI hj (by decide)
  refine pk_le (r * s) 48 (fun c => ⟨hv, nm_e ⟨hv, nm_e ?_⟩⟩) (fun c => hn ?_)
  · have hB : ∀ v, v < 4 → R v * C v ≤ 48 := fun v hv => (hS v hv).2.2.2.2.2.2
    have k := ed_yShp59 (post := post) (rr := upd rr j (nI r)) (cc := upd cc j (nI s)) (ce := ce) (ma := ma) (od := od) (po := po) (sy := sy) hj 49 0 (by omega) (by omega) (hy j r s hj r1 r2 s1 s2 c rfl rfl rfl _ ⟨_, _, _, _, _, _, _, rfl, ed_Sh_up hS r1 r2 s1 s2 c, ed_cp_le hC hB c⟩)
    rw [ed_cp0] at k
    exact ⟨_, k⟩
  · intro j' r' s' _ _ _ _ b c' _ e1 e2
    have a1 := (nI_eq (by omega) (by omega)).mp e1
    have a2 := (nI_eq (by omega) (by omega)).mp e2
    subst a1 a2
    omega
end
theorem i_vc_shape {k : Nat} {u : SX} {v : SY} (I : i_Rel k u v) (hk : k + 5 ≤ 2560) (v1 : Int32) (v2 : Int32) (v3 : Int32) : wpX_shape (fun r u' => wpY_shape (fun r' v' => r' = r ∧ i_Rel (k + 5) u' v') v v1 v2 v3) u v1 v2 v3 := by
  have I0 := I
  obtain ⟨R, C, T, ⟨ce, rr, cc, re, ba, cu, ol, sa, rfl, hS, hC⟩, ⟨rr', cc', ce', ma, od, po, sy, rfl, hS', hC'⟩⟩ := I
  refine ed_xShp hS hC (fun j r s hj r1 r2 s1 s2 m e1 e2 e3 u' hu => ?_) (fun h => ?_)
  · refine ed_yShp hS' hC' (fun j' r' s' hj' r1' r2' s1' s2' m' e1' e2' e3' v' hv => ?_) (fun h => absurd e3 (h j r s hj r1 r2 s1 s2 m e1 e2))
    have a1 := (nI_eq (by omega) (by omega)).mp (e1.symm.trans e1')
    have a2 := (nI_eq (by omega) (by omega)).mp (e2.symm.trans e2')
    have a3 := (nI_eq (by omega) (by omega)).mp (e3.symm.trans e3')
    subst a1 a2 a3
    exact ⟨rfl, _, _, _, hu, hv⟩
  · exact ed_yShp hS' hC' (fun j r s hj r1 r2 s1 s2 m e1 e2 e3 => absurd e3 (h j r s hj r1 r2 s1 s2 m e1 e2)) (fun _ => ⟨rfl, I0⟩)
