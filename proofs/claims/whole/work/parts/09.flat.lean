/-! a matrix held row by row in one array -/
theorem ed_fl_div {e k w : Nat} (hk : k < w) : (e * w + k) / w = e := by
  rw [Nat.add_comm, Nat.mul_comm, Nat.add_mul_div_left _ _ (by omega), Nat.div_eq_of_lt hk, Nat.zero_add]
theorem ed_fl_mod {e k w : Nat} (hk : k < w) : (e * w + k) % w = k := by
  rw [Nat.add_comm, Nat.mul_comm, Nat.add_mul_mod_self_left, Nat.mod_eq_of_lt hk]
theorem ed_fl {e e' k k' w : Nat} (hk : k < w) (hk' : k' < w) (h : e * w + k = e' * w + k') : e = e' ∧ k = k' := by
  have h1 := ed_fl_div (e := e) hk
  have h2 := ed_fl_mod (e := e) hk
  rw [h] at h1 h2
  rw [ed_fl_div hk'] at h1
  rw [ed_fl_mod hk'] at h2
  exact ⟨h1.symm, h2.symm⟩
theorem ed_fl_lt {e k w E : Nat} (he : e < E) (hk : k < w) : e * w + k < E * w := by
  have h : (e + 1) * w ≤ E * w := Nat.mul_le_mul_right w he
  rw [Nat.succ_mul] at h
  omega
def ed_Mx (a : Nat → Int32) (E w : Nat) (A : Nat → Nat → ed_K) : Prop := ∀ e k, e < E → k < w → a (e * w + k) = ed_I (A e k)
theorem ed_Mx_put {a : Nat → Int32} {E w : Nat} {A : Nat → Nat → ed_K} (h : ed_Mx a E w A) {e0 k0 : Nat} (hk0 : k0 < w) (x : ed_K) : ed_Mx (upd a (e0 * w + k0) (ed_I x)) E w (fun e k => if e = e0 ∧ k = k0 then x else A e k) := by
  intro e k he hk
  show upd a (e0 * w + k0) (ed_I x) (e * w + k) = ed_I (if e = e0 ∧ k = k0 then x else A e k)
  by_cases c : e = e0 ∧ k = k0
  · rw [if_pos c, c.1, c.2, ed_us]
  · rw [if_neg c, ed_un (fun z => c (ed_fl hk hk0 z))]
    exact h e k he hk
theorem ed_Mx_cg {a : Nat → Int32} {E w : Nat} {A A' : Nat → Nat → ed_K} (h : ed_Mx a E w A) (c : ∀ e k, e < E → k < w → A e k = A' e k) : ed_Mx a E w A' := fun e k he hk => by rw [h e k he hk, c e k he hk]
/-- rows p and d swapped, the new row d divided by its element of column t -/
def ed_sw (A : Nat → Nat → ed_K) (p d t : Nat) : Nat → Nat → ed_K := fun e k => if e = d then A p k * ed_iv (A p t) else ed_rw A p d e k
def ed_el (A : Nat → Nat → ed_K) (d t : Nat) : Nat → Nat → ed_K := fun e k => if e = d then A d k else A e k - A e t * A d k
theorem ed_sw_d (A : Nat → Nat → ed_K) (p d t k : Nat) : ed_sw A p d t d k = A p k * ed_iv (A p t) := if_pos rfl
theorem ed_sw_n (A : Nat → Nat → ed_K) (p t : Nat) {d e : Nat} (k : Nat) (h : e ≠ d) : ed_sw A p d t e k = ed_rw A p d e k := if_neg h
theorem ed_el_d (A : Nat → Nat → ed_K) (d t k : Nat) : ed_el A d t d k = A d k := if_pos rfl
theorem ed_el_n (A : Nat → Nat → ed_K) (t : Nat) {d e : Nat} (k : Nat) (h : e ≠ d) : ed_el A d t e k = A e k - A e t * A d k := if_neg h
theorem ed_st_p {A : Nat → Nat → ed_K} {E L t d p : Nat} {pc : Nat → Nat} (h : ed_ge A E t d pc) (ht : t < L) (hp : d ≤ p) (hpE : p < E) (hl : A p t ≠ 0) : ed_ge (ed_el (ed_sw A p d t) d t) E (t + 1) (d + 1) (fun e => if e = d then t else pc e) ∧ ∀ q, ed_sol A E L q ↔ ed_sol (ed_el (ed_sw A p d t) d t) E L q := by
  have hd : ∀ k, k ≤ L → ed_el (ed_sw A p d t) d t d k = A p k * ed_iv (A p t) := fun k _ => by rw [ed_el_d, ed_sw_d]
  have he : ∀ e k, e < E → e ≠ d → k ≤ L → ed_el (ed_sw A p d t) d t e k = ed_rw A p d e k - ed_rw A p d e t * ed_el (ed_sw A p d t) d t d k := fun e k _ hn _ => by rw [ed_el_n _ _ _ hn, ed_el_d, ed_sw_n _ _ _ _ hn, ed_sw_n _ _ _ _ hn]
  exact ⟨ed_ge_p ed_iv ed_hiv h ht hp hpE hl hd he, ed_sol_p ed_iv ed_hiv ht hp hpE hl hd he⟩
