/-! the tables: shapes, contents, copies; the equations of a recurrence -/
def ed_Sh (rr cc : Nat → Int32) (R C : Nat → Nat) : Prop := ∀ v, v < 4 → rr v = nI (R v) ∧ cc v = nI (C v) ∧ 1 ≤ R v ∧ R v ≤ 16 ∧ 1 ≤ C v ∧ C v ≤ 16 ∧ R v * C v ≤ 48
def ed_Ce (a : Nat → Int32) (R C : Nat → Nat) (T : Nat → Nat → ed_K) : Prop := ∀ v i, v < 4 → i < R v * C v → a (v * 48 + i) = ed_I (T v i)
def ed_up {α : Type} (f : Nat → α) (c : Nat) (x : α) : Nat → α := fun v => if v = c then x else f v
theorem ed_ups {α : Type} (f : Nat → α) (c : Nat) (x : α) : ed_up f c x c = x := if_pos rfl
theorem ed_upn {α : Type} (f : Nat → α) {c v : Nat} (x : α) (h : v ≠ c) : ed_up f c x v = f v := if_neg h
theorem ed_us {f : Nat → Int32} {k : Nat} {x : Int32} : upd f k x k = x := if_pos rfl
theorem ed_un {f : Nat → Int32} {k j : Nat} {x : Int32} (h : j ≠ k) : upd f k x j = f j := if_neg h
/-- a with b 0 .. b (n - 1) from place o on -/
def ed_cp (a : Nat → Int32) (o n : Nat) (b : Nat → Int32) : Nat → Int32 := fun j => if o ≤ j ∧ j < o + n then b (j - o) else a j
theorem ed_cp0 (a : Nat → Int32) (o : Nat) (b : Nat → Int32) : ed_cp a o 0 b = a := funext fun j => if_neg (by omega)
theorem ed_cpS (a : Nat → Int32) (o n : Nat) (b : Nat → Int32) : upd (ed_cp a o n b) (o + n) (b n) = ed_cp a o (n + 1) b := by
  funext j
  unfold upd ed_cp
  by_cases c : j = o + n
  · rw [if_pos c, if_pos (by omega), c, Nat.add_sub_cancel_left]
  · rw [if_neg c]
    by_cases d : o ≤ j ∧ j < o + n
    · rw [if_pos d, if_pos (by omega)]
    · rw [if_neg d, if_neg (by omega)]
theorem ed_cp_in {a : Nat → Int32} {o n : Nat} {b : Nat → Int32} {i : Nat} (h : i < n) : ed_cp a o n b (o + i) = b i := by
  unfold ed_cp
  rw [if_pos (by omega), Nat.add_sub_cancel_left]
theorem ed_cp_out {a : Nat → Int32} {o n : Nat} {b : Nat → Int32} {j : Nat} (h : j < o ∨ o + n ≤ j) : ed_cp a o n b j = a j := if_neg (by omega)
theorem ed_Sh_up {rr cc : Nat → Int32} {R C : Nat → Nat} (h : ed_Sh rr cc R C) {c r s : Nat} (h1 : 1 ≤ r) (h2 : r ≤ 16) (h3 : 1 ≤ s) (h4 : s ≤ 16) (h5 : r * s ≤ 48) : ed_Sh (upd rr c (nI r)) (upd cc c (nI s)) (ed_up R c r) (ed_up C c s) := by
  intro v hv
  by_cases e : v = c
  · subst e
    rw [ed_us, ed_us, ed_ups, ed_ups]
    exact ⟨rfl, rfl, h1, h2, h3, h4, h5⟩
  · rw [ed_un e, ed_un e, ed_upn _ _ e, ed_upn _ _ e]
    exact h v hv
theorem ed_Ce_up {a b : Nat → Int32} {R C : Nat → Nat} {T : Nat → Nat → ed_K} (h : ed_Ce a R C T) (hB : ∀ v, v < 4 → R v * C v ≤ 48) {c r s : Nat} (h5 : r * s ≤ 48) {f : Nat → ed_K} (hb : ∀ i, i < r * s → b i = ed_I (f i)) : ed_Ce (ed_cp a (c * 48) (r * s) b) (ed_up R c r) (ed_up C c s) (ed_up T c f) := by
  intro v i hv hi
  by_cases e : v = c
  · subst e
    rw [ed_ups, ed_ups] at hi
    rw [ed_ups, ed_cp_in hi, hb i hi]
  · rw [ed_upn _ _ e, ed_upn _ _ e] at hi
    rw [ed_upn _ _ e]
    have := hB v hv
    rw [ed_cp_out (by omega)]
    exact h v i hv hi
theorem ed_Ce_put {a : Nat → Int32} {R C : Nat → Nat} {T : Nat → Nat → ed_K} (h : ed_Ce a R C T) (hB : ∀ v, v < 4 → R v * C v ≤ 48) {c k : Nat} (hk : k < 48) (x : ed_K) : ed_Ce (upd a (c * 48 + k) (ed_I x)) R C (ed_up T c (ed_up (T c) k x)) := by
  intro v i hv hi
  have hb := hB v hv
  by_cases e : v = c
  · subst e
    rw [ed_ups]
    by_cases e2 : i = k
    · subst e2
      rw [ed_us, ed_ups]
    · rw [ed_un (by omega), ed_upn _ _ e2]
      exact h v i hv hi
  · rw [ed_upn _ _ e, ed_un (by omega)]
    exact h v i hv hi
theorem ed_Ce_cg {a : Nat → Int32} {R C : Nat → Nat} {T T' : Nat → Nat → ed_K} (h : ed_Ce a R C T) (e : ∀ v i, v < 4 → i < R v * C v → T v i = T' v i) : ed_Ce a R C T' := fun v i hv hi => by rw [h v i hv hi, e v i hv hi]
theorem ed_sys {K : Type} [Lean.Grind.CommRing K] {s : Nat → K} {A : Nat → Nat → K} {n L : Nat} (hA : ∀ e k, e < n - L → k < L → A e k = s (L + e - 1 - k)) (hR : ∀ e, e < n - L → A e L = s (L + e)) (q : Nat → K) : ed_sol A (n - L) L q ↔ ed_gen s L q n := by
  constructor
  · intro h i h1 h2
    have e := h (i - L) (by omega)
    rw [hR (i - L) (by omega), show L + (i - L) = i by omega] at e
    rw [← e]
    exact ed_sm_congr (fun t ht => by rw [hA (i - L) t (by omega) ht, show L + (i - L) - 1 - t = i - 1 - t by omega]; grind)
  · intro h e he
    rw [hR e he, h (L + e) (by omega) (by omega)]
    exact ed_sm_congr (fun t ht => by rw [hA e t he ht]; grind)
