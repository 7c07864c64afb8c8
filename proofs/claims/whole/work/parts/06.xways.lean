/-! the two ways that the component finds -/
section
variable {post : Int32 → Prop} {sz io il wf : Int32} {n : Nat} {K V E L B en el be oO oL fw sw ra sa wa : Nat → Int32} {p : Nat}
theorem du_kc {k : Int32} {j : Nat} (hj : j < 10) (hk : k = nI j) : k = 0 ∨ k = 1 ∨ k = 2 ∨ k = 3 ∨ k = 4 ∨ k = 5 ∨ k = 6 ∨ k = 7 ∨ k = 8 ∨ k = 9 := by
  rw [hk]
  exact (by decide +kernel : ∀ j, j < 10 → nI j = 0 ∨ nI j = 1 ∨ nI j = 2 ∨ nI j = 3 ∨ nI j = 4 ∨ nI j = 5 ∨ nI j = 6 ∨ nI j = 7 ∨ nI j = 8 ∨ nI j = 9) j hj
theorem du_a3 (h : K p = 3) : du_a K E B p = E (B p).toNatClampNeg := if_pos h
theorem du_a6 (h : K p = 6) : du_a K E B p = if K (B p).toNatClampNeg = 2 then nI (p + 1) else B p := by
  unfold du_a
  rw [if_neg (by rw [h]; decide), if_pos h]
theorem du_a7 (h : K p = 7) : du_a K E B p = E (B p).toNatClampNeg + 1 := by
  unfold du_a
  rw [if_neg (by rw [h]; decide), if_neg (by rw [h]; decide), if_pos h]
theorem du_a8 (h : K p = 8) : du_a K E B p = B p := by
  unfold du_a
  rw [if_neg (by rw [h]; decide), if_neg (by rw [h]; decide), if_neg (by rw [h]; decide), if_pos h]
theorem du_a9 (h : K p = 9) : du_a K E B p = -1 := by
  unfold du_a
  rw [if_neg (by rw [h]; decide), if_neg (by rw [h]; decide), if_neg (by rw [h]; decide), if_neg (by rw [h]; decide), if_pos h]
theorem du_aO (h3 : ¬ K p = 3) (h6 : ¬ K p = 6) (h7 : ¬ K p = 7) (h8 : ¬ K p = 8) (h9 : ¬ K p = 9) : du_a K E B p = nI (p + 1) := by
  unfold du_a
  rw [if_neg h3, if_neg h6, if_neg h7, if_neg h8, if_neg h9]
theorem du_b2 (h : K p = 2) : du_b K E L p = if L p = -1 then E p else L p + 1 := if_pos h
theorem du_b4 (h : K p = 4) : du_b K E L p = E p + 1 := by
  unfold du_b
  rw [if_neg (by rw [h]; decide), if_pos h]
theorem du_bO (h2 : ¬ K p = 2) (h4 : ¬ K p = 4) : du_b K E L p = -1 := by
  unfold du_b
  rw [if_neg h2, if_neg h4]
theorem du_w_first (hn : n ≤ 40) (hk : du_ok n K V) (G : du_G n K E L B en el be) (hp : p < n) (h : post (du_a K E B p)) : wpX_firstWayFrom post (sz, io, il, wf, K, V, en, el, be, oO, oL, fw, sw, ra, sa, wa) (nI p) := by
  have hcl : (nI p).toNatClampNeg = p := nI_clamp (by omega)
  have hin : vp_in (nI p) 40 := vp_in_nI (by omega) (by decide)
  obtain ⟨⟨j, hj, hkj⟩, _⟩ := hk p hp
  obtain ⟨hr, g1, g2, g3⟩ := G
  obtain ⟨_, _, _, _, j5, j6, j7⟩ := du_J_run n _ (by omega) hr
  refine ⟨hin, fun k ek => ?_⟩
  rw [hcl] at ek ⊢
  have nx : nI p + 1 = nI (p + 1) := nI_1 p
  rcases du_kc hj (ek.trans hkj) with z | z | z | z | z | z | z | z | z | z <;> rw [z] at ek ⊢
  · refine br_t (by decide) ?_
    rw [nx, ← du_aO (K := K) (E := E) (B := B) (by rw [← ek]; decide) (by rw [← ek]; decide) (by rw [← ek]; decide) (by rw [← ek]; decide) (by rw [← ek]; decide)]
    exact h
  · refine br_t (by decide) ?_
    rw [nx, ← du_aO (K := K) (E := E) (B := B) (by rw [← ek]; decide) (by rw [← ek]; decide) (by rw [← ek]; decide) (by rw [← ek]; decide) (by rw [← ek]; decide)]
    exact h
  · refine br_t (by decide) ?_
    rw [nx, ← du_aO (K := K) (E := E) (B := B) (by rw [← ek]; decide) (by rw [← ek]; decide) (by rw [← ek]; decide) (by rw [← ek]; decide) (by rw [← ek]; decide)]
    exact h
  · obtain ⟨b, b1, b2, b3, b4⟩ := j5 p hp ek.symm
    have b2 : B p = nI b := b2
    have e1 : be p = nI b := (g3 p hp (Or.inl ek.symm)).trans b2
    have hcb : (nI b).toNatClampNeg = b := nI_clamp (by omega)
    refine br_f (by decide) (br_f (by decide) (br_t rfl ⟨hin, ?_⟩))
    rw [du_a3 ek.symm, b2, hcb, ← g1 b (by omega) (Or.inl b3)] at h
    rw [e1, hcb]
    exact ⟨vp_in_nI (by omega) (by decide), h⟩
  · refine br_f (by decide) (br_f (by decide) (br_f (by decide) (br_t rfl ?_)))
    rw [nx, ← du_aO (K := K) (E := E) (B := B) (by rw [← ek]; decide) (by rw [← ek]; decide) (by rw [← ek]; decide) (by rw [← ek]; decide) (by rw [← ek]; decide)]
    exact h
  · refine br_f (by decide) (br_f (by decide) (br_f (by decide) (br_f (by decide) (br_t rfl ?_))))
    rw [nx, ← du_aO (K := K) (E := E) (B := B) (by rw [← ek]; decide) (by rw [← ek]; decide) (by rw [← ek]; decide) (by rw [← ek]; decide) (by rw [← ek]; decide)]
    exact h
  · obtain ⟨b, b1, b2, b3⟩ := j6 p hp ek.symm
    have b2 : B p = nI b := b2
    have e1 : be p = nI b := (g3 p hp (Or.inr (Or.inl ek.symm))).trans b2
    have hcb : (nI b).toNatClampNeg = b := nI_clamp (by omega)
    refine br_f (by decide) (br_f (by decide) (br_f (by decide) (br_f (by decide) (br_f (by decide) (br_t rfl ⟨hin, ?_⟩)))))
    rw [du_a6 ek.symm, b2, hcb] at h
    rw [e1, hcb]
    refine ⟨vp_in_nI (by omega) (by decide), ?_⟩
    by_cases y : K b = 2
    · rw [if_pos y] at h
      exact br_t y (by rw [nx]; exact h)
    · rw [if_neg y] at h
      exact br_f y ⟨hin, h⟩
  · obtain ⟨b, b1, b2, b3, b4⟩ := j7 p hp (Or.inl ek.symm)
    have b2 : B p = nI b := b2
    have e1 : be p = nI b := (g3 p hp (Or.inr (Or.inr (Or.inl ek.symm)))).trans b2
    have hcb : (nI b).toNatClampNeg = b := nI_clamp (by omega)
    refine br_f (by decide) (br_f (by decide) (br_f (by decide) (br_f (by decide) (br_f (by decide) (br_f (by decide) (br_t rfl ⟨hin, ?_⟩))))))
    rw [du_a7 ek.symm, b2, hcb, ← g1 b (by omega) b3] at h
    rw [e1, hcb]
    exact ⟨vp_in_nI (by omega) (by decide), h⟩
  · obtain ⟨b, b1, b2, b3, b4⟩ := j7 p hp (Or.inr ek.symm)
    have e1 : be p = B p := g3 p hp (Or.inr (Or.inr (Or.inr ek.symm)))
    refine br_f (by decide) (br_f (by decide) (br_f (by decide) (br_f (by decide) (br_f (by decide) (br_f (by decide) (br_f (by decide) (br_t rfl ⟨hin, ?_⟩)))))))
    rw [du_a8 ek.symm, ← e1] at h
    exact h
  · refine br_f (by decide) (br_f (by decide) (br_f (by decide) (br_f (by decide) (br_f (by decide) (br_f (by decide) (br_f (by decide) (br_f (by decide) (br_t rfl ?_))))))))
    rw [du_a9 ek.symm] at h
    exact h
theorem du_w_second (hn : n ≤ 40) (G : du_G n K E L B en el be) (hp : p < n) (h : post (du_b K E L p)) : wpX_secondWayFrom post (sz, io, il, wf, K, V, en, el, be, oO, oL, fw, sw, ra, sa, wa) (nI p) := by
  have hcl : (nI p).toNatClampNeg = p := nI_clamp (by omega)
  have hin : vp_in (nI p) 40 := vp_in_nI (by omega) (by decide)
  obtain ⟨hr, g1, g2, g3⟩ := G
  refine ⟨hin, fun k ek => ?_⟩
  rw [hcl] at ek ⊢
  by_cases h2 : K p = 2
  · rw [du_b2 h2, ← g2 p hp (Or.inl h2), ← g1 p hp (Or.inl h2)] at h
    refine br_t (ek.trans h2) ⟨hin, ?_⟩
    by_cases y : el p = -1
    · rw [if_pos y] at h
      exact br_t y ⟨hin, h⟩
    · rw [if_neg y] at h
      exact br_f y ⟨hin, h⟩
  · refine br_f (fun z => h2 (ek.symm.trans z)) ?_
    by_cases h4 : K p = 4
    · rw [du_b4 h4, ← g1 p hp (Or.inr (Or.inl h4))] at h
      exact br_t (ek.trans h4) ⟨hin, h⟩
    · rw [du_bO h2 h4] at h
      exact br_f (fun z => h4 (ek.symm.trans z)) h
end
theorem du_w_ways1 {post : SX → Prop} {io il wf : Int32} {n : Nat} {K V E L B en el be oO oL ra sa wa : Nat → Int32} (hn : n ≤ 40) (hk : du_ok n K V) (G : du_G n K E L B en el be)
    (h : ∀ fw sw : Nat → Int32, (∀ q, q < n → fw q = du_a K E B q ∧ sw q = du_b K E L q) → post ((nI n), io, il, wf, K, V, en, el, be, oO, oL, fw, sw, ra, sa, wa)) :
    ∀ (d p : Nat) (fw sw : Nat → Int32), p + d = n → (∀ q, q < p → fw q = du_a K E B q ∧ sw q = du_b K E L q) → wX_findWays_2 post (nI n) io il wf (d + 1) (nI p) K V en el be oO oL fw sw ra sa wa := by
  intro d
  induction d with
  | zero =>
    intro p fw sw hp hi
    have e : p = n := hp
    subst e
    exact br_t (nI_le (Nat.le_refl _) (by omega)) (h fw sw hi)
  | succ d ih =>
    intro p fw sw hp hi
    have hcl : (nI p).toNatClampNeg = p := nI_clamp (by omega)
    have hin : vp_in (nI p) 40 := vp_in_nI (by omega) (by decide)
    refine br_f (nI_ge (by omega) (by omega)) (du_w_first hn hk G (by omega) ⟨hin, fun a1 e1 => du_w_second hn G (by omega) ⟨hin, fun a2 e2 x ex => ?_⟩⟩)
    rw [hcl] at e1 e2
    rw [ex, nI_1]
    refine ih (p + 1) a1 a2 (by omega) (fun q hq => ?_)
    subst e1 e2
    by_cases e : q = p
    · subst e
      exact ⟨pk_us, pk_us⟩
    · rw [pk_un e, pk_un e]
      exact hi q (by omega)
theorem du_w_ways {post : SX → Prop} {io il wf : Int32} {n : Nat} {K V E L B en el be oO oL fw sw ra sa wa : Nat → Int32} (hn : n ≤ 40) (hk : du_ok n K V) (G : du_G n K E L B en el be)
    (h : ∀ fw sw : Nat → Int32, (∀ q, q < n → fw q = du_a K E B q ∧ sw q = du_b K E L q) → post ((nI n), io, il, wf, K, V, en, el, be, oO, oL, fw, sw, ra, sa, wa)) : wpX_findWays post ((nI n), io, il, wf, K, V, en, el, be, oO, oL, fw, sw, ra, sa, wa) :=
  ⟨n + 1, du_w_ways1 hn hk G h n 0 fw sw (Nat.zero_add n) (fun q hq => absurd hq (Nat.not_lt_zero q))⟩
