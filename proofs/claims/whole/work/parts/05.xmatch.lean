/-! the component's matching against the pure one -/
def du_ch (K oO oL : Nat → Int32) : List Nat → Prop
  | [] => True
  | b :: t => oO b = du_tp t ∧ oL b = du_lp K t ∧ du_ch K oO oL t
theorem du_ch_upd {K oO oL : Nat → Int32} {p : Nat} {x y : Int32} : ∀ s : List Nat, (∀ b, b ∈ s → b < p) → du_ch K oO oL s → du_ch K (upd oO p x) (upd oL p y) s := by
  intro s
  induction s with
  | nil => exact fun _ _ => trivial
  | cons b t ih =>
    intro hb h
    have hbp := hb b (List.mem_cons_self ..)
    exact ⟨(pk_un (by omega)).trans h.1, (pk_un (by omega)).trans h.2.1, ih (fun c hc => hb c (List.mem_cons_of_mem _ hc)) h.2.2⟩
def du_X (K : Nat → Int32) (p : Nat) (s : List Nat) (E L B : Nat → Int32) (io il : Int32) (en el be oO oL : Nat → Int32) : Prop :=
  du_run K p = some (s, E, L, B) ∧ io = du_tp s ∧ il = du_lp K s ∧ du_ch K oO oL s ∧ (∀ q, q < p → du_bg (K q) → ¬ q ∈ s → en q = E q) ∧ (∀ q, q < p → du_bg (K q) → el q = L q) ∧ (∀ q, q < p → (K q = 3 ∨ K q = 6 ∨ K q = 7 ∨ K q = 8) → be q = B q)
section
variable {sz io il wf : Int32} {K V en el be oO oL fw sw ra sa wa : Nat → Int32} {p : Nat} {s : List Nat} {E L B : Nat → Int32}
theorem du_X_open (hX : du_X K p s E L B io il en el be oO oL) (hp : p < 40) (h : du_bg (K p)) : du_X K (p + 1) (p :: s) E (upd L p (-1)) B (nI p) (if K p = 2 then il else nI p) en (upd el p (-1)) be (upd oO p io) (upd oL p il) := by
  obtain ⟨hr, rfl, rfl, hc, h1, h2, h3⟩ := hX
  have J := du_J_run p _ (by omega) hr
  have j1 : ∀ b, b ∈ s → b < p ∧ du_bg (K b) := J.1
  refine ⟨?_, rfl, rfl, ⟨pk_us, pk_us, du_ch_upd s (fun b hb => (j1 b hb).1) hc⟩, fun q hq hk hn => ?_, fun q hq hk => ?_, fun q hq hk => ?_⟩
  · rw [du_run_s hr, du_s_open h]
  · have a : q ≠ p := fun e => hn (by rw [e]; exact List.mem_cons_self ..)
    exact h1 q (by omega) hk (fun z => hn (List.mem_cons_of_mem _ z))
  · by_cases e : q = p
    · subst e
      exact pk_us.trans pk_us.symm
    · exact (pk_un e).trans ((h2 q (by omega) hk).trans (pk_un e).symm)
  · by_cases e : q = p
    · subst e
      rcases hk with hk | hk | hk | hk <;> rw [hk] at h <;> exact absurd h (by decide)
    · exact h3 q (by omega) hk
theorem du_X_other (hX : du_X K p s E L B io il en el be oO oL) (h1 : ¬ du_bg (K p)) (h2 : ¬ K p = 3) (h3 : ¬ K p = 6) (h4 : ¬ (K p = 7 ∨ K p = 8)) : du_X K (p + 1) s E L B io il en el be oO oL := by
  obtain ⟨hr, e1, e2, hc, a1, a2, a3⟩ := hX
  refine ⟨?_, e1, e2, hc, fun q hq hk hn => ?_, fun q hq hk => ?_, fun q hq hk => ?_⟩
  · rw [du_run_s hr, du_s_other h1 h2 h3 h4]
  · have a : q ≠ p := fun e => h1 (e ▸ hk)
    exact a1 q (by omega) hk hn
  · have a : q ≠ p := fun e => h1 (e ▸ hk)
    exact a2 q (by omega) hk
  · have a : q ≠ p := by
      intro e
      subst e
      rcases hk with hk | hk | hk
      · exact h2 hk
      · exact h3 hk
      · exact h4 hk
    exact a3 q (by omega) hk
theorem du_X_jump (hX : du_X K p s E L B io il en el be oO oL) (h : K p = 7 ∨ K p = 8) (hl : ¬ il = -1) : du_X K (p + 1) s E L (upd B p il) io il en el (upd be p il) oO oL := by
  obtain ⟨hr, e1, rfl, hc, a1, a2, a3⟩ := hX
  have nb : ¬ du_bg (K p) := by rcases h with h | h <;> rw [h] <;> decide
  refine ⟨?_, e1, rfl, hc, fun q hq hk hn => ?_, fun q hq hk => ?_, fun q hq hk => ?_⟩
  · rw [du_run_s hr, du_s_jump h]
    exact if_neg hl
  · have a : q ≠ p := fun e => nb (e ▸ hk)
    exact a1 q (by omega) hk hn
  · have a : q ≠ p := fun e => nb (e ▸ hk)
    exact a2 q (by omega) hk
  · by_cases e : q = p
    · subst e
      exact pk_us.trans pk_us.symm
    · exact (pk_un e).trans ((a3 q (by omega) hk).trans (pk_un e).symm)
theorem du_X_else {b : Nat} {t : List Nat} (hX : du_X K p (b :: t) E L B io il en el be oO oL) (h : K p = 3) (hb : K b = 2) (hl : L b = -1) : du_X K (p + 1) (b :: t) E (upd L b (nI p)) (upd B p (nI b)) io il en (upd el b (nI p)) (upd be p (nI b)) oO oL := by
  obtain ⟨hr, e1, e2, hc, a1, a2, a3⟩ := hX
  have nb : ¬ du_bg (K p) := by rw [h]; decide
  refine ⟨?_, e1, e2, hc, fun q hq hk hn => ?_, fun q hq hk => ?_, fun q hq hk => ?_⟩
  · rw [du_run_s hr, du_s_else h]
    exact if_pos ⟨hb, hl⟩
  · have a : q ≠ p := fun e => nb (e ▸ hk)
    exact a1 q (by omega) hk hn
  · have a : q ≠ p := fun e => nb (e ▸ hk)
    by_cases e : q = b
    · subst e
      exact pk_us.trans pk_us.symm
    · exact (pk_un e).trans ((a2 q (by omega) hk).trans (pk_un e).symm)
  · by_cases e : q = p
    · subst e
      exact pk_us.trans pk_us.symm
    · exact (pk_un e).trans ((a3 q (by omega) hk).trans (pk_un e).symm)
theorem du_X_end {b : Nat} {t : List Nat} (hX : du_X K p (b :: t) E L B io il en el be oO oL) (h : K p = 6) : du_X K (p + 1) t (upd E b (nI p)) L (upd B p (nI b)) (oO b) (oL b) (upd en b (nI p)) el (upd be p (nI b)) oO oL := by
  obtain ⟨hr, e1, e2, hc, a1, a2, a3⟩ := hX
  have nb : ¬ du_bg (K p) := by rw [h]; decide
  refine ⟨?_, hc.1, hc.2.1, hc.2.2, fun q hq hk hn => ?_, fun q hq hk => ?_, fun q hq hk => ?_⟩
  · rw [du_run_s hr, du_s_end h]
    rfl
  · have a : q ≠ p := fun e => nb (e ▸ hk)
    by_cases e : q = b
    · subst e
      exact pk_us.trans pk_us.symm
    · refine (pk_un e).trans ((a1 q (by omega) hk (fun z => ?_)).trans (pk_un e).symm)
      rcases List.mem_cons.mp z with z | z
      · exact e z
      · exact hn z
  · have a : q ≠ p := fun e => nb (e ▸ hk)
    exact a2 q (by omega) hk
  · by_cases e : q = p
    · subst e
      exact pk_us.trans pk_us.symm
    · exact (pk_un e).trans ((a3 q (by omega) hk).trans (pk_un e).symm)
theorem du_w_open {post : SX → Prop} (hX : du_X K p s E L B io il en el be oO oL) (hp : p < 40) (h : du_bg (K p))
    (ok : ∀ (s : List Nat) (E L B : Nat → Int32) (io il : Int32) (en el be oO oL : Nat → Int32), du_X K (p + 1) s E L B io il en el be oO oL → post (sz, io, il, wf, K, V, en, el, be, oO, oL, fw, sw, ra, sa, wa)) : wpX_open post (sz, io, il, wf, K, V, en, el, be, oO, oL, fw, sw, ra, sa, wa) (nI p) := by
  have hcl : (nI p).toNatClampNeg = p := nI_clamp (by omega)
  have hin : vp_in (nI p) 40 := vp_in_nI hp (by decide)
  have hX' := du_X_open hX hp h
  refine ⟨hin, fun a1 e1 => ⟨hin, fun a2 e2 => ⟨hin, fun a3 e3 => ⟨hin, ?_⟩⟩⟩⟩
  rw [hcl] at e1 e2 e3 ⊢
  subst e1 e2 e3
  by_cases h2 : K p = 2
  · rw [if_pos h2] at hX'
    exact br_t h2 (ok _ _ _ _ _ _ _ _ _ _ _ hX')
  · rw [if_neg h2] at hX'
    exact br_f h2 (ok _ _ _ _ _ _ _ _ _ _ _ hX')
theorem du_w_else {post : Int32 → SX → Prop} (hX : du_X K p s E L B io il en el be oO oL) (hp : p < 40) (h : K p = 3)
    (ok : ∀ (s : List Nat) (E L B : Nat → Int32) (io il : Int32) (en el be oO oL : Nat → Int32), du_X K (p + 1) s E L B io il en el be oO oL → post 1 (sz, io, il, wf, K, V, en, el, be, oO, oL, fw, sw, ra, sa, wa))
    (no : du_run K (p + 1) = none → post 0 (sz, io, il, wf, K, V, en, el, be, oO, oL, fw, sw, ra, sa, wa)) : wpX_matchElse post (sz, io, il, wf, K, V, en, el, be, oO, oL, fw, sw, ra, sa, wa) (nI p) := by
  have hcl : (nI p).toNatClampNeg = p := nI_clamp (by omega)
  have hin : vp_in (nI p) 40 := vp_in_nI hp (by decide)
  have hr : du_run K p = some (s, E, L, B) := hX.1
  have J := du_J_run p _ (by omega) hr
  have e1 : io = du_tp s := hX.2.1
  cases s with
  | nil =>
    subst e1
    exact br_t rfl (no (by rw [du_run_s hr, du_s_else h]; rfl))
  | cons b t =>
    have e1 : io = nI b := e1
    have hb : b < p := (J.1 b (List.mem_cons_self ..)).1
    have hbg : du_bg (K b) := (J.1 b (List.mem_cons_self ..)).2
    have hcb : (nI b).toNatClampNeg = b := nI_clamp (by omega)
    have hib : vp_in (nI b) 40 := vp_in_nI (by omega) (by decide)
    have hel : el b = L b := hX.2.2.2.2.2.1 b hb hbg
    subst e1
    refine br_f (du_nm1 (by omega)) ⟨hib, ?_⟩
    rw [hcb]
    by_cases h2 : K b = 2
    · refine br_t h2 ⟨hib, ?_⟩
      by_cases hl : L b = -1
      · refine br_t (hel.trans hl) ⟨hin, fun x ex => ⟨hib, fun y ey => ?_⟩⟩
        rw [hcl] at ex
        subst ex ey
        exact ok _ _ _ _ _ _ _ _ _ _ _ (du_X_else hX h h2 hl)
      · refine br_f (fun z => hl (hel.symm.trans z)) (no ?_)
        rw [du_run_s hr, du_s_else h]
        exact if_neg (fun z => hl z.2)
    · refine br_f h2 (no ?_)
      rw [du_run_s hr, du_s_else h]
      exact if_neg (fun z => h2 z.1)
theorem du_w_end {post : Int32 → SX → Prop} (hX : du_X K p s E L B io il en el be oO oL) (hp : p < 40) (h : K p = 6)
    (ok : ∀ (s : List Nat) (E L B : Nat → Int32) (io il : Int32) (en el be oO oL : Nat → Int32), du_X K (p + 1) s E L B io il en el be oO oL → post 1 (sz, io, il, wf, K, V, en, el, be, oO, oL, fw, sw, ra, sa, wa))
    (no : du_run K (p + 1) = none → post 0 (sz, io, il, wf, K, V, en, el, be, oO, oL, fw, sw, ra, sa, wa)) : wpX_matchEnd post (sz, io, il, wf, K, V, en, el, be, oO, oL, fw, sw, ra, sa, wa) (nI p) := by
  have hcl : (nI p).toNatClampNeg = p := nI_clamp (by omega)
  have hin : vp_in (nI p) 40 := vp_in_nI hp (by decide)
  have hr : du_run K p = some (s, E, L, B) := hX.1
  have J := du_J_run p _ (by omega) hr
  have e1 : io = du_tp s := hX.2.1
  cases s with
  | nil =>
    subst e1
    exact br_t rfl (no (by rw [du_run_s hr, du_s_end h]; rfl))
  | cons b t =>
    have e1 : io = nI b := e1
    have hb : b < p := (J.1 b (List.mem_cons_self ..)).1
    have hcb : (nI b).toNatClampNeg = b := nI_clamp (by omega)
    have hib : vp_in (nI b) 40 := vp_in_nI (by omega) (by decide)
    subst e1
    refine br_f (du_nm1 (by omega)) ⟨hin, fun a1 x1 => ⟨hib, fun a2 x2 => ⟨hib, fun a3 x3 => ⟨hib, fun a4 x4 => ?_⟩⟩⟩⟩
    rw [hcl] at x1
    rw [hcb] at x2 x3 x4
    subst x1 x2 x3 x4
    exact ok _ _ _ _ _ _ _ _ _ _ _ (du_X_end hX h)
theorem du_w_tok {post : Int32 → SX → Prop} {j : Nat} (hX : du_X K p s E L B io il en el be oO oL) (hp : p < 40) (hj : j < 10) (hk : K p = nI j)
    (ok : ∀ (s : List Nat) (E L B : Nat → Int32) (io il : Int32) (en el be oO oL : Nat → Int32), du_X K (p + 1) s E L B io il en el be oO oL → post 1 (sz, io, il, wf, K, V, en, el, be, oO, oL, fw, sw, ra, sa, wa))
    (no : du_run K (p + 1) = none → ∀ be : Nat → Int32, post 0 (sz, io, il, wf, K, V, en, el, be, oO, oL, fw, sw, ra, sa, wa)) : wpX_matchToken post (sz, io, il, wf, K, V, en, el, be, oO, oL, fw, sw, ra, sa, wa) (nI p) := by
  have hcl : (nI p).toNatClampNeg = p := nI_clamp (by omega)
  have hin : vp_in (nI p) 40 := vp_in_nI hp (by decide)
  have hr : du_run K p = some (s, E, L, B) := hX.1
  have jump : (K p = 7 ∨ K p = 8) → wX_matchToken_67 post (nI p) sz io il wf K V en el be oO oL fw sw ra sa wa := by
    intro h
    refine ⟨hin, fun a1 x1 => ?_⟩
    rw [hcl] at x1
    subst x1
    by_cases z : il = -1
    · refine br_t z (no ?_ _)
      rw [du_run_s hr, du_s_jump h]
      exact if_pos (hX.2.2.1.symm.trans z)
    · exact br_f z (ok _ _ _ _ _ _ _ _ _ _ _ (du_X_jump hX h z))
  have opn : du_bg (K p) → wX_matchToken_48 post (nI p) sz io il wf K V en el be oO oL fw sw ra sa wa := by
    intro h
    unfold wX_matchToken_48
    exact du_w_open hX hp h (fun s E L B io il en el be oO oL h => ok s E L B io il en el be oO oL h)
  have oth : ¬ du_bg (K p) → ¬ K p = 3 → ¬ K p = 6 → ¬ (K p = 7 ∨ K p = 8) → post 1 (sz, io, il, wf, K, V, en, el, be, oO, oL, fw, sw, ra, sa, wa) := fun h1 h2 h3 h4 => ok _ _ _ _ _ _ _ _ _ _ _ (du_X_other hX h1 h2 h3 h4)
  refine ⟨hin, fun k ek => ?_⟩
  rw [hcl] at ek
  have kc : k = 0 ∨ k = 1 ∨ k = 2 ∨ k = 3 ∨ k = 4 ∨ k = 5 ∨ k = 6 ∨ k = 7 ∨ k = 8 ∨ k = 9 := by
    rw [ek, hk]
    exact (by decide +kernel : ∀ j, j < 10 → nI j = 0 ∨ nI j = 1 ∨ nI j = 2 ∨ nI j = 3 ∨ nI j = 4 ∨ nI j = 5 ∨ nI j = 6 ∨ nI j = 7 ∨ nI j = 8 ∨ nI j = 9) j hj
  rcases kc with h | h | h | h | h | h | h | h | h | h <;> rw [h] at ek ⊢
  · exact br_t (by decide) (oth (by rw [← ek]; decide) (by rw [← ek]; decide) (by rw [← ek]; decide) (by rw [← ek]; decide))
  · exact br_t (by decide) (oth (by rw [← ek]; decide) (by rw [← ek]; decide) (by rw [← ek]; decide) (by rw [← ek]; decide))
  · exact br_f (by decide) (br_f (by decide) (br_t rfl (opn (by rw [← ek]; decide))))
  · refine br_f (by decide) (br_f (by decide) (br_f (by decide) (br_t rfl ?_)))
    exact du_w_else hX hp ek.symm (fun s E L B io il en el be oO oL h => ⟨rfl, ok s E L B io il en el be oO oL h⟩) (fun h => ⟨rfl, no h _⟩)
  · exact br_f (by decide) (br_f (by decide) (br_f (by decide) (br_f (by decide) (br_t rfl (opn (by rw [← ek]; decide))))))
  · exact br_f (by decide) (br_f (by decide) (br_f (by decide) (br_f (by decide) (br_f (by decide) (br_t rfl (opn (by rw [← ek]; decide)))))))
  · refine br_f (by decide) (br_f (by decide) (br_f (by decide) (br_f (by decide) (br_f (by decide) (br_f (by decide) (br_t rfl ?_))))))
    exact du_w_end hX hp ek.symm (fun s E L B io il en el be oO oL h => ⟨rfl, ok s E L B io il en el be oO oL h⟩) (fun h => ⟨rfl, no h _⟩)
  · exact br_f (by decide) (br_f (by decide) (br_f (by decide) (br_f (by decide) (br_f (by decide) (br_f (by decide) (br_f (by decide) (br_t rfl (jump (Or.inl ek.symm)))))))))
  · exact br_f (by decide) (br_f (by decide) (br_f (by decide) (br_f (by decide) (br_f (by decide) (br_f (by decide) (br_f (by decide) (br_f (by decide) (br_t rfl (jump (Or.inr ek.symm))))))))))
  · exact br_f (by decide) (br_t (by decide) (oth (by rw [← ek]; decide) (by rw [← ek]; decide) (by rw [← ek]; decide) (by rw [← ek]; decide)))
end
/-- the tokens of a program: kinds 0 to 9, variables 0 to 5 where looked at -/
def du_ok (n : Nat) (K V : Nat → Int32) : Prop := ∀ p, p < n → (∃ j, j < 10 ∧ K p = nI j) ∧ ((K p = 0 ∨ K p = 1) → ∃ v, v < 6 ∧ V p = nI v)
/-- what the component's matching leaves where the program is sound -/
def du_G (n : Nat) (K E L B en el be : Nat → Int32) : Prop :=
  du_run K n = some ([], E, L, B) ∧ (∀ q, q < n → du_bg (K q) → en q = E q) ∧ (∀ q, q < n → du_bg (K q) → el q = L q) ∧ (∀ q, q < n → (K q = 3 ∨ K q = 6 ∨ K q = 7 ∨ K q = 8) → be q = B q)
theorem du_w_toks {post : Int32 → SX → Prop} {n : Nat} {wf : Int32} {K V fw sw ra sa wa : Nat → Int32} (hn : n ≤ 40) (hk : du_ok n K V)
    (yes : ∀ (E L B : Nat → Int32) (io il : Int32) (en el be oO oL : Nat → Int32), du_G n K E L B en el be → post 1 ((nI n), io, il, wf, K, V, en, el, be, oO, oL, fw, sw, ra, sa, wa))
    (no : ¬ du_W K n → ∀ (io il : Int32) (en el be oO oL : Nat → Int32), post 0 ((nI n), io, il, wf, K, V, en, el, be, oO, oL, fw, sw, ra, sa, wa)) :
    ∀ (d p : Nat) (s : List Nat) (E L B : Nat → Int32) (io il : Int32) (en el be oO oL : Nat → Int32), p + d = n → du_X K p s E L B io il en el be oO oL → wX_matchTokens_12 post (d + 1) (nI p) (nI n) io il wf K V en el be oO oL fw sw ra sa wa := by
  intro d
  induction d with
  | zero =>
    intro p s E L B io il en el be oO oL hp hX
    have e : p = n := hp
    subst e
    refine br_t (nI_le (Nat.le_refl _) (by omega)) ?_
    obtain ⟨hr, e1, e2, hc, a1, a2, a3⟩ := hX
    cases s with
    | nil => exact br_t e1 (yes E L B io il en el be oO oL ⟨hr, fun q hq hk => a1 q hq hk (fun z => by cases z), a2, a3⟩)
    | cons b t =>
      have J := du_J_run p _ (by omega) hr
      have hb : b < p := (J.1 b (List.mem_cons_self ..)).1
      refine br_f (fun z => du_nm1 (q := b) (by omega) (e1.symm.trans z)) (no ?_ io il en el be oO oL)
      intro ⟨E', L', B', w⟩
      rw [hr] at w
      cases w
  | succ d ih =>
    intro p s E L B io il en el be oO oL hp hX
    refine br_f (nI_ge (by omega) (by omega)) ?_
    obtain ⟨⟨j, hj, hkj⟩, _⟩ := hk p (by omega)
    refine du_w_tok hX (by omega) hj hkj (fun s E L B io il en el be oO oL h => ?_) (fun h be => ?_)
    · refine br_f (by decide) (fun x ex => ?_)
      rw [ex, nI_1]
      exact ih (p + 1) s E L B io il en el be oO oL (by omega) h
    · exact br_t rfl (no (du_nW h (by omega)) io il en el be oO oL)
theorem du_w_match {post : Int32 → SX → Prop} {n : Nat} {wf : Int32} {K V fw sw ra sa wa : Nat → Int32} (hn : n ≤ 40) (hk : du_ok n K V)
    (yes : ∀ (E L B : Nat → Int32) (io il : Int32) (en el be oO oL : Nat → Int32), du_G n K E L B en el be → post 1 ((nI n), io, il, wf, K, V, en, el, be, oO, oL, fw, sw, ra, sa, wa))
    (no : ¬ du_W K n → ∀ (io il : Int32) (en el be oO oL : Nat → Int32), post 0 ((nI n), io, il, wf, K, V, en, el, be, oO, oL, fw, sw, ra, sa, wa))
    (io il : Int32) (en el be oO oL : Nat → Int32) : wpX_matchTokens post ((nI n), io, il, wf, K, V, en, el, be, oO, oL, fw, sw, ra, sa, wa) :=
  ⟨n + 1, du_w_toks hn hk yes no n 0 [] _ _ _ (-1) (-1) en el be oO oL (Nat.zero_add n) ⟨rfl, rfl, rfl, trivial, fun q hq => absurd hq (Nat.not_lt_zero q), fun q hq => absurd hq (Nat.not_lt_zero q), fun q hq => absurd hq (Nat.not_lt_zero q)⟩⟩
