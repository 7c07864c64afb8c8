/-! add, change: which tokens are refused -/
def du_tk (k v : Int32) : Prop := (∃ j, j < 10 ∧ k = nI j) ∧ ((k = 0 ∨ k = 1) → ∃ w, w < 6 ∧ v = nI w)
theorem du_ft (k v : Int32) : ∃ r : Int32, (∀ post : Int32 → Prop, post r → wpX_tokenFault post k v) ∧ (∀ (post : Int32 → Prop) (u : SY), post r → wpY_refusal post u k v) ∧ ((r = 0 ∧ du_tk k v) ∨ (¬ r = 0 ∧ ¬ 0 ≤ r)) := by
  by_cases h0 : k < 0
  · exact ⟨-1, fun _ h => br_t h0 h, fun _ _ h => br_t h0 h, Or.inr (by decide)⟩
  obtain ⟨j, hj, rfl⟩ := nI_of h0
  by_cases h1 : j < 10
  · by_cases h2 : 2 ≤ j
    · have a0 : ¬ nI j = 0 := nI_ne0 (by omega) hj
      have a1 : ¬ nI j = 1 := fun e => by
        have := (nI_eq (b := 1) hj (by decide)).mp e
        omega
      exact ⟨0, fun _ h => br_f h0 (br_t (nI_lt (b := 10) h1 (by decide)) (br_f a0 (br_f a1 (br_t rfl h)))), fun _ _ h => br_f h0 (br_t (nI_le (b := 9) (by omega) (by decide)) (br_t (nI_le (a := 2) h2 hj) h)), Or.inl ⟨rfl, ⟨j, h1, rfl⟩, fun z => (z.elim a0 a1).elim⟩⟩
    · have xx : ∀ post : Int32 → Prop, wX_tokenFault_26 post v 1 → wpX_tokenFault post (nI j) v := by
        intro post h
        refine br_f h0 (br_t (nI_lt (b := 10) h1 (by decide)) ?_)
        by_cases z : j = 0
        · subst z
          exact br_t rfl h
        · have e : j = 1 := by omega
          subst e
          exact br_f (by decide) (br_t rfl h)
      have a2 : ¬ (2 : Int32) ≤ nI j := nI_ge (b := 2) (by omega) (by decide)
      have a9 : nI j ≤ 9 := nI_le (b := 9) (by omega) (by decide)
      by_cases v0 : v < 0
      · exact ⟨-2, fun post h => xx post (br_f (by decide) (br_t v0 h)), fun _ _ h => br_f h0 (br_t a9 (br_f a2 (br_t v0 h))), Or.inr (by decide)⟩
      obtain ⟨w, hw, rfl⟩ := nI_of v0
      by_cases w6 : w < 6
      · exact ⟨0, fun post h => xx post (br_f (by decide) (br_f v0 (br_t (nI_lt (b := 6) w6 (by decide)) h))), fun _ _ h => br_f h0 (br_t a9 (br_f a2 (br_f v0 (br_t (nI_le (b := 5) (by omega) (by decide)) h)))), Or.inl ⟨rfl, ⟨j, h1, rfl⟩, fun _ => ⟨w, w6, rfl⟩⟩⟩
      · exact ⟨-2, fun post h => xx post (br_f (by decide) (br_f v0 (br_f (nI_nlt (b := 6) (by omega) hw) h))), fun _ _ h => br_f h0 (br_t a9 (br_f a2 (br_f v0 (br_f (nI_ge (a := 5) (by omega) hw) h)))), Or.inr (by decide)⟩
  · exact ⟨-1, fun _ h => br_f h0 (br_f (nI_nlt (b := 10) (by omega) hj) h), fun _ _ h => br_f h0 (br_f (nI_ge (a := 9) (by omega) hj) h), Or.inr (by decide)⟩
theorem du_ok_up {n p : Nat} {K V : Nat → Int32} {k v : Int32} {m : Nat} (hk : du_ok n K V) (ht : du_tk k v) (hm : ∀ q, q < m → q ≠ p → q < n) : du_ok m (upd K p k) (upd V p v) := by
  intro q hq
  by_cases e : q = p
  · subst e
    rw [pk_us, pk_us]
    exact ht
  · rw [pk_un e, pk_un e]
    exact hk q (hm q hq e)
section
variable {n : Nat} {io il wf : Int32} {K V en el be oO oL fw sw ra sa wa : Nat → Int32} {p : Nat} {x : Int32}
theorem du_q_pf0 {post : Int32 → Prop} {sz : Int32} (h : post (-4)) : wpX_placeFault post (sz, io, il, 0, K, V, en, el, be, oO, oL, fw, sw, ra, sa, wa) x := br_t rfl h
theorem du_q_pf1 {post : Int32 → Prop} (hx : x < 0 ∨ nI n ≤ x) (h : post (-5)) : wpX_placeFault post ((nI n), io, il, 1, K, V, en, el, be, oO, oL, fw, sw, ra, sa, wa) x := br_f (by decide) (du_q_not hx (br_t rfl h))
theorem du_q_pf2 {post : Int32 → Prop} (hn : n ≤ 40) (hp : p < n) (h : post 0) : wpX_placeFault post ((nI n), io, il, 1, K, V, en, el, be, oO, oL, fw, sw, ra, sa, wa) (nI p) := br_f (by decide) (du_q_tok hn hp (br_f (by decide) h))
theorem du_ix (x : Int32) (hn : n ≤ 40) : (x < 0 ∨ nI n ≤ x) ∨ ∃ j : Nat, j < n ∧ x = nI j := by
  rcases pk_ix x (n := n) (by omega) with z | z | z
  · exact Or.inl (Or.inl z)
  · exact Or.inl (Or.inr z)
  · exact Or.inr z
end
/-- equal masks -/
theorem du_eqm {m m' : Int32} (h : ∀ i, bt m i = true ↔ bt m' i = true) : m = m' := b_ext (fun i _ => Bool.eq_iff_iff.mpr (h i))
