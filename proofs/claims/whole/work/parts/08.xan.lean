/-! analyse: what the component holds of a program -/
/-- n tokens with kinds K and variables V: the rest of the component's state -/
def du_A (n : Nat) (K V : Nat → Int32) (wf : Int32) (en fw sw ra sa wa : Nat → Int32) : Prop :=
  (¬ du_W K n ∧ wf = 0) ∨ (wf = 1 ∧ ∃ E L B : Nat → Int32, du_run K n = some ([], E, L, B) ∧ (∀ q, q < n → du_bg (K q) → en q = E q) ∧
    du_wy n (du_a K E B) (du_b K E L) fw sw ∧
    (∀ q, q ≤ n → (¬ ra q = 0 ↔ du_F n K V (du_a K E B) (du_b K E L) (-1) 0 q)) ∧
    (du_hi n sa ∧ ∀ q, q ≤ n → ∀ v, v < 6 → (¬ bt (sa q) v = true ↔ du_F n K V (du_a K E B) (du_b K E L) (nI v) 0 q)) ∧
    (du_hi n wa ∧ ∀ q, q ≤ n → ∀ v, v < 6 → (bt (wa q) v = true ↔ du_V n (du_a K E B) (du_b K E L) (du_st K V (nI v)) (du_us K V (nI v)) q)))
theorem du_w_an {post : SX → Prop} {n : Nat} {io il wf : Int32} {K V en el be oO oL fw sw ra sa wa : Nat → Int32} (hn : n ≤ 40) (hk : du_ok n K V)
    (h : ∀ (io il wf : Int32) (en el be oO oL fw sw ra sa wa : Nat → Int32), du_A n K V wf en fw sw ra sa wa → post ((nI n), io, il, wf, K, V, en, el, be, oO, oL, fw, sw, ra, sa, wa)) : wpX_analyse post ((nI n), io, il, wf, K, V, en, el, be, oO, oL, fw, sw, ra, sa, wa) := by
  unfold wpX_analyse
  refine du_w_match hn hk (fun E L B io il en el be oO oL G => ?_) (fun hW io il en el be oO oL => ?_) io il en el be oO oL
  · refine ⟨rfl, rfl, br_f (by decide) ?_⟩
    have J := du_J_run n _ (by omega) G.1
    refine du_w_ways hn hk G (fun fw sw hw => ?_)
    have hw' : du_wy n (du_a K E B) (du_b K E L) fw sw := fun p hp => ⟨(hw p hp).1, (hw p hp).2, du_a_in hn J hp, du_b_in J hp⟩
    refine du_w_reached hn hk hw' (fun ra hra => ?_)
    refine du_w_surely hn hk hw' (fun sa hs1 hs2 => ?_)
    refine du_w_wanted hn hk hw' (fun wa hwa1 hwa2 => ?_)
    exact h _ _ _ _ _ _ _ _ _ _ _ _ _ (Or.inr ⟨rfl, E, L, B, G.1, G.2.1, hw', hra, ⟨hs1, hs2⟩, ⟨hwa1, hwa2⟩⟩)
  · exact ⟨rfl, rfl, br_t rfl (h _ _ _ _ _ _ _ _ _ _ _ _ _ (Or.inl ⟨hW, rfl⟩))⟩
