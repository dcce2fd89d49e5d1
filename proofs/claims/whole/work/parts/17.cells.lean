/-! put, at, size -/
section
variable {R C : Nat → Nat} {T : Nat → Nat → ed_K} {ce rr cc re ba cu ol sa ma od po sy : Nat → Int32}
theorem ed_ShB (hS : ed_Sh rr cc R C) : ∀ v, v < 4 → R v * C v ≤ 48 := fun v hv => (hS v hv).2.2.2.2.2.2
theorem ed_yHas {A B : Prop} (hS : ed_Sh rr cc R C) {x y : Int32} (hy : ∀ j i, j < 4 → i < R j * C j → x = nI j → y = nI i → B) (hn : (∀ j i, j < 4 → i < R j * C j → x = nI j → y ≠ nI i) → A) : wpY_table (fun r => ((r = 0 → A) ∧ (¬ r = 0 → ((y < 0 → A) ∧ (¬ y < 0 → wpY_count (fun c => ((y < c → B) ∧ (¬ y < c → A))) (rr, cc, ce, ma, od, po, sy) x))))) (rr, cc, ce, ma, od, po, sy) x := by
  refine ed_yTab (fun j hj e => ?_) (fun h => br_t rfl (hn (fun j i hj _ e => absurd e (h j hj))))
  subst e
  obtain ⟨h1, h2, h3, h4, h5, h6, h7⟩ := hS j hj
  refine br_f (by decide) (br_c (fun c => hn ?_) (fun c => ed_yCnt hj h1 h2 ?_))
  · intro j' i hj' hi _ e2
    have := ed_ShB hS j' hj'
    rw [e2] at c
    exact nI_pos (by omega) c
  · obtain ⟨i, hi, rfl⟩ := nI_of c
    refine pk_lt i (R j * C j) (fun d => hy j i hj d rfl rfl) (fun d => hn ?_)
    intro j' i' hj' hi' e1 e2
    have ej := ed_nIe hj hj' e1
    subst ej
    have ei := (nI_eq hi (by omega)).mp e2
    omega
end
theorem i_vc_put {k : Nat} {u : SX} {v : SY} (I : i_Rel k u v) (hk : k + 5 ≤ 2560) (v1 : Int32) (v2 : Int32) (v3 : Int32) : wpX_put (fun r u' => wpY_put (fun r' v' => r' = r ∧ i_Rel (k + 5) u' v') v v1 v2 v3) u v1 v2 v3 := by
  have I0 := I
  obtain ⟨R, C, T, ⟨ce, rr, cc, re, ba, cu, ol, sa, rfl, hS, hC⟩, ⟨rr', cc', ce', ma, od, po, sy, rfl, hS', hC'⟩⟩ := I
  unfold wpX_put wpY_put
  dsimp only
  refine ed_xHas hS (fun j i hj hi e1 e2 => br_f (by decide) (ed_xEl _ ?_)) (fun h => br_t rfl ?_)
  · subst e1 e2
    have hb := ed_ShB hS j hj
    rw [ed_ix, nI_clamp (show j * 48 + i < 2 ^ 31 by omega)]
    refine ⟨vp_in_nI (by omega) (by decide), nm_e ?_⟩
    refine ed_yHas hS' (fun j' i' hj' hi' e1 e2 => ?_) (fun h => absurd rfl (h j i hj hi rfl))
    refine ed_yMod (z := ed_Z v3.toInt) _ (by rw [Jvm.Kit.i64_of_i32]) ?_
    rw [ed_iy, nI_clamp (show j * 48 + i < 2 ^ 31 by omega)]
    exact ⟨vp_in_nI (by omega) (by decide), nm_e ⟨rfl, R, C, _, ⟨_, _, _, _, _, _, _, _, rfl, hS, ed_Ce_put hC (ed_ShB hS) (by omega) _⟩, ⟨_, _, _, _, _, _, _, rfl, hS', ed_Ce_put hC' (ed_ShB hS') (by omega) _⟩⟩⟩
  · exact ed_yHas hS' (fun j i hj hi e1 e2 => absurd e2 (h j i hj hi e1)) (fun _ => ⟨rfl, I0⟩)
theorem i_vc_at {k : Nat} {u : SX} {v : SY} (I : i_Rel k u v) (hk : k + 5 ≤ 2560) (v1 : Int32) (v2 : Int32) : wpX_at (fun r => wpY_at (fun r' => r' = r ∧ i_Rel (k + 5) u v) v v1 v2) u v1 v2 := by
  have I0 := I
  obtain ⟨R, C, T, ⟨ce, rr, cc, re, ba, cu, ol, sa, rfl, hS, hC⟩, ⟨rr', cc', ce', ma, od, po, sy, rfl, hS', hC'⟩⟩ := I
  unfold wpX_at wpY_at
  dsimp only
  refine ed_xHas hS (fun j i hj hi e1 e2 => br_f (by decide) ?_) (fun h => br_t rfl ?_)
  · subst e1 e2
    have hb := ed_ShB hS j hj
    rw [ed_ix, nI_clamp (show j * 48 + i < 2 ^ 31 by omega)]
    refine ⟨vp_in_nI (by omega) (by decide), ?_⟩
    refine ed_yHas hS' (fun j' i' hj' hi' e1 e2 => ?_) (fun h => absurd rfl (h j i hj hi rfl))
    rw [ed_iy, nI_clamp (show j * 48 + i < 2 ^ 31 by omega)]
    exact ⟨vp_in_nI (by omega) (by decide), by rw [hC j i hj hi, hC' j i hj hi], I0⟩
  · exact ed_yHas hS' (fun j i hj hi e1 e2 => absurd e2 (h j i hj hi e1)) (fun _ => ⟨rfl, I0⟩)
theorem i_vc_size {k : Nat} {u : SX} {v : SY} (I : i_Rel k u v) (hk : k + 5 ≤ 2560) (v1 : Int32) : wpX_size (fun r => wpY_size (fun r' => r' = r ∧ i_Rel (k + 5) u v) v v1) u v1 := by
  have I0 := I
  obtain ⟨R, C, T, ⟨ce, rr, cc, re, ba, cu, ol, sa, rfl, hS, hC⟩, ⟨rr', cc', ce', ma, od, po, sy, rfl, hS', hC'⟩⟩ := I
  unfold wpX_size wpY_size
  dsimp only
  refine ed_xTab (fun j hj e => br_f (by decide) ?_) (fun h => br_t rfl ?_)
  · subst e
    have hv : vp_in (nI j) 4 := vp_in_nI hj (by decide)
    rw [nI_clamp (show j < 2 ^ 31 by omega)]
    refine ⟨hv, hv, ed_yTab (fun j' hj' e => br_f (by decide) ⟨hv, hv, ?_, I0⟩) (fun h => absurd rfl (h j hj))⟩
    rw [(hS j hj).1, (hS j hj).2.1, (hS' j hj).1, (hS' j hj).2.1]
  · exact ed_yTab (fun j hj e => absurd e (h j hj)) (fun _ => br_t rfl ⟨rfl, I0⟩)
