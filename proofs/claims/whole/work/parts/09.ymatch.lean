/-! the reference's matching against the pure one -/
def du_sk (op : Nat → Int32) : List Nat → Prop
  | [] => True
  | b :: t => op t.length = nI b ∧ du_sk op t
theorem du_sk_upd {op : Nat → Int32} {x : Int32} {i : Nat} : ∀ s : List Nat, s.length ≤ i → du_sk op s → du_sk (upd op i x) s := by
  intro s
  induction s with
  | nil => exact fun _ _ => trivial
  | cons b t ih =>
    intro hi h
    have hi : t.length + 1 ≤ i := hi
    exact ⟨(pk_un (by omega)).trans h.1, ih (by omega) h.2⟩
section
variable {sz : Int32} {K V en el cl lo op : Nat → Int32}
theorem du_y_in1 {post : Int32 → Prop} : ∀ s : List Nat, (∀ b, b ∈ s → b < 40) → s.length ≤ 40 → du_sk op s → post (du_lp K s) → wY_innermost_4 post sz K V en el cl lo op (s.length + 1) (nI s.length - 1) := by
  intro s
  induction s with
  | nil => exact fun _ _ _ h => br_t (by decide) h
  | cons b t ih =>
    intro hb hl hs h
    have hl : t.length + 1 ≤ 40 := hl
    have hb1 := hb b (List.mem_cons_self ..)
    have e : nI (b :: t).length - 1 = nI t.length := nI_pred t.length
    have hcl : (nI t.length).toNatClampNeg = t.length := nI_clamp (by omega)
    have hcb : (nI b).toNatClampNeg = b := nI_clamp (by omega)
    rw [e]
    refine br_f (nI_pos (by omega)) ⟨vp_in_nI (by omega) (by decide), ?_⟩
    rw [hcl, hs.1, hcb]
    refine ⟨vp_in_nI hb1 (by decide), ?_⟩
    by_cases z : K b = 2
    · have e2 : du_lp K (b :: t) = du_lp K t := if_pos z
      rw [e2] at h
      refine br_t z (fun x ex => ?_)
      rw [ex, ← Int32.sub_eq_add_neg]
      exact ih (fun c hc => hb c (List.mem_cons_of_mem _ hc)) (by omega) hs.2 h
    · have e2 : du_lp K (b :: t) = nI b := if_neg z
      rw [e2] at h
      exact br_f z ⟨vp_in_nI (by omega) (by decide), h⟩
theorem du_y_in {post : Int32 → Prop} {s : List Nat} (hb : ∀ b, b ∈ s → b < 40) (hl : s.length ≤ 40) (hs : du_sk op s) (h : post (du_lp K s)) : wpY_innermost post (sz, K, V, en, el, cl, lo, op) (nI s.length) := by
  intro x ex
  refine ⟨s.length + 1, ?_⟩
  rw [ex]
  exact du_y_in1 s hb hl hs h
end
/-- what the reference's arrays hold ahead of token p -/
def du_Y (K : Nat → Int32) (p : Nat) (s : List Nat) (E L B : Nat → Int32) (en el cl lo op : Nat → Int32) : Prop :=
  du_run K p = some (s, E, L, B) ∧ du_sk op s ∧ (∀ q, q < p → du_bg (K q) → ¬ q ∈ s → en q = E q) ∧ (∀ q, q < p → K q = 3 → ∀ c, B q = nI c → c < q → ¬ c ∈ s → en q = E c) ∧ (∀ q, q < p → du_bg (K q) → el q = L q) ∧
  (∀ q, q < p → K q = 6 → cl q = if K (B q).toNatClampNeg = 2 then -1 else B q) ∧ (∀ q, q < p → (K q = 7 ∨ K q = 8) → lo q = B q)
section
variable {sz : Int32} {K V en el cl lo op : Nat → Int32} {p : Nat} {s : List Nat} {E L B : Nat → Int32}
theorem du_Y_open (hY : du_Y K p s E L B en el cl lo op) (hp : p < 40) (h : du_bg (K p)) (x : Int32) : du_Y K (p + 1) (p :: s) E (upd L p (-1)) B en (upd el p (-1)) (upd cl p (-1)) (upd lo p x) (upd op s.length (nI p)) := by
  obtain ⟨hr, h0, h1, h2, h3, h4, h5⟩ := hY
  have n3 : ∀ q, K q = 3 → q ≠ p := fun q hq e => by subst e; rw [hq] at h; exact absurd h (by decide)
  have n6 : ∀ q, K q = 6 → q ≠ p := fun q hq e => by subst e; rw [hq] at h; exact absurd h (by decide)
  have n7 : ∀ q, (K q = 7 ∨ K q = 8) → q ≠ p := fun q hq e => by subst e; rcases hq with hq | hq <;> rw [hq] at h <;> exact absurd h (by decide)
  refine ⟨?_, ⟨pk_us, du_sk_upd s (Nat.le_refl _) h0⟩, fun q hq hk hn => ?_, fun q hq hk c hc hcq hn => ?_, fun q hq hk => ?_, fun q hq hk => ?_, fun q hq hk => ?_⟩
  · rw [du_run_s hr, du_s_open h]
  · have a : q ≠ p := fun e => hn (by rw [e]; exact List.mem_cons_self ..)
    exact h1 q (by omega) hk (fun z => hn (List.mem_cons_of_mem _ z))
  · have a := n3 q hk
    exact h2 q (by omega) hk c hc hcq (fun z => hn (List.mem_cons_of_mem _ z))
  · by_cases e : q = p
    · subst e
      exact pk_us.trans pk_us.symm
    · exact (pk_un e).trans ((h3 q (by omega) hk).trans (pk_un e).symm)
  · have a := n6 q hk
    exact (pk_un a).trans (h4 q (by omega) hk)
  · have a := n7 q hk
    exact (pk_un a).trans (h5 q (by omega) hk)
theorem du_Y_other (hY : du_Y K p s E L B en el cl lo op) (h1' : ¬ du_bg (K p)) (h2' : ¬ K p = 3) (h3' : ¬ K p = 6) (h4' : ¬ (K p = 7 ∨ K p = 8)) (x : Int32) : du_Y K (p + 1) s E L B en (upd el p (-1)) (upd cl p (-1)) (upd lo p x) op := by
  obtain ⟨hr, h0, h1, h2, h3, h4, h5⟩ := hY
  refine ⟨?_, h0, fun q hq hk hn => ?_, fun q hq hk c hc hcq hn => ?_, fun q hq hk => ?_, fun q hq hk => ?_, fun q hq hk => ?_⟩
  · rw [du_run_s hr, du_s_other h1' h2' h3' h4']
  · have a : q ≠ p := fun e => h1' (e ▸ hk)
    exact h1 q (by omega) hk hn
  · have a : q ≠ p := fun e => h2' (e ▸ hk)
    exact h2 q (by omega) hk c hc hcq hn
  · have a : q ≠ p := fun e => h1' (e ▸ hk)
    exact (pk_un a).trans (h3 q (by omega) hk)
  · have a : q ≠ p := fun e => h3' (e ▸ hk)
    exact (pk_un a).trans (h4 q (by omega) hk)
  · have a : q ≠ p := fun e => h4' (e ▸ hk)
    exact (pk_un a).trans (h5 q (by omega) hk)
theorem du_Y_jump (hY : du_Y K p s E L B en el cl lo op) (h : K p = 7 ∨ K p = 8) (hl : ¬ du_lp K s = -1) : du_Y K (p + 1) s E L (upd B p (du_lp K s)) en (upd el p (-1)) (upd cl p (-1)) (upd lo p (du_lp K s)) op := by
  obtain ⟨hr, h0, h1, h2, h3, h4, h5⟩ := hY
  have nb : ¬ du_bg (K p) := by rcases h with h | h <;> rw [h] <;> decide
  have n3 : ¬ K p = 3 := by rcases h with h | h <;> rw [h] <;> decide
  have n6 : ¬ K p = 6 := by rcases h with h | h <;> rw [h] <;> decide
  refine ⟨?_, h0, fun q hq hk hn => ?_, fun q hq hk c hc hcq hn => ?_, fun q hq hk => ?_, fun q hq hk => ?_, fun q hq hk => ?_⟩
  · rw [du_run_s hr, du_s_jump h]
    exact if_neg hl
  · have a : q ≠ p := fun e => nb (e ▸ hk)
    exact h1 q (by omega) hk hn
  · have a : q ≠ p := fun e => n3 (e ▸ hk)
    rw [pk_un a] at hc
    exact h2 q (by omega) hk c hc hcq hn
  · have a : q ≠ p := fun e => nb (e ▸ hk)
    exact (pk_un a).trans (h3 q (by omega) hk)
  · have a : q ≠ p := fun e => n6 (e ▸ hk)
    rw [pk_un a, pk_un a]
    exact h4 q (by omega) hk
  · by_cases e : q = p
    · subst e
      exact pk_us.trans pk_us.symm
    · exact (pk_un e).trans ((h5 q (by omega) hk).trans (pk_un e).symm)
theorem du_Y_else {b : Nat} {t : List Nat} (hY : du_Y K p (b :: t) E L B en el cl lo op) (h : K p = 3) (hbp : b < p) (hb : K b = 2) (hl : L b = -1) (hp : p < 40) (x : Int32) : du_Y K (p + 1) (b :: t) E (upd L b (nI p)) (upd B p (nI b)) en (upd (upd el p (-1)) b (nI p)) (upd cl p (-1)) (upd lo p x) op := by
  obtain ⟨hr, h0, h1, h2, h3, h4, h5⟩ := hY
  have nb : ¬ du_bg (K p) := by rw [h]; decide
  have n6 : ¬ K p = 6 := by rw [h]; decide
  have n7 : ¬ (K p = 7 ∨ K p = 8) := by rw [h]; decide
  refine ⟨?_, h0, fun q hq hk hn => ?_, fun q hq hk c hc hcq hn => ?_, fun q hq hk => ?_, fun q hq hk => ?_, fun q hq hk => ?_⟩
  · rw [du_run_s hr, du_s_else h]
    exact if_pos ⟨hb, hl⟩
  · have a : q ≠ p := fun e => nb (e ▸ hk)
    exact h1 q (by omega) hk hn
  · by_cases e : q = p
    · subst e
      rw [pk_us] at hc
      have e2 := (nI_eq (by omega) (by omega)).mp hc
      subst e2
      exact absurd (List.mem_cons_self ..) hn
    · rw [pk_un e] at hc
      exact h2 q (by omega) hk c hc hcq hn
  · have a : q ≠ p := fun e => nb (e ▸ hk)
    by_cases e : q = b
    · subst e
      exact pk_us.trans pk_us.symm
    · rw [pk_un e, pk_un a, pk_un e]
      exact h3 q (by omega) hk
  · have a : q ≠ p := fun e => n6 (e ▸ hk)
    rw [pk_un a, pk_un a]
    exact h4 q (by omega) hk
  · have a : q ≠ p := fun e => n7 (e ▸ hk)
    rw [pk_un a, pk_un a]
    exact h5 q (by omega) hk
/-- an END: the ends written are en', which agree with en but at the begin, and at its ELSE if it has one -/
theorem du_Y_end {b : Nat} {t : List Nat} {en' cl' : Nat → Int32} (hY : du_Y K p (b :: t) E L B en el cl lo op) (h : K p = 6) (hp : p < 40) (x : Int32)
    (e1 : en' b = nI p) (e2 : ∀ q, q ≠ b → (¬ (K b = 2 ∧ L b = nI q)) → en' q = en q) (e3 : K b = 2 → ∀ q, q < 40 → L b = nI q → en' q = nI p)
    (c1 : cl' p = if K b = 2 then -1 else nI b) (c2 : ∀ q, q ≠ p → cl' q = cl q) : du_Y K (p + 1) t (upd E b (nI p)) L (upd B p (nI b)) en' (upd el p (-1)) cl' (upd lo p x) op := by
  obtain ⟨hr, h0, h1, h2, h3, h4, h5⟩ := hY
  obtain ⟨j1, _, _, j4, j5, _, _⟩ := du_J_run p _ (by omega) hr
  have hbp : b < p := (j1 b (List.mem_cons_self ..)).1
  have hbg : du_bg (K b) := (j1 b (List.mem_cons_self ..)).2
  have nb : ¬ du_bg (K p) := by rw [h]; decide
  have n3 : ¬ K p = 3 := by rw [h]; decide
  have n7 : ¬ (K p = 7 ∨ K p = 8) := by rw [h]; decide
  have hL : ∀ q, q < p → L b = nI q → K q = 3 ∧ B q = nI b := by
    intro q hq hl
    rcases j4 b hbp hbg with z | ⟨e, z1, z2, z3, z4, z5⟩
    · exact absurd (hl.symm.trans z) (du_nm1 (by omega))
    · have ee : e = q := (nI_eq (by omega) (by omega)).mp (z3.symm.trans hl)
      subst ee
      exact ⟨z4, z5⟩
  refine ⟨?_, h0.2, fun q hq hk hn => ?_, fun q hq hk c hc hcq hn => ?_, fun q hq hk => ?_, fun q hq hk => ?_, fun q hq hk => ?_⟩
  · rw [du_run_s hr, du_s_end h]
    rfl
  · have a : q ≠ p := fun e => nb (e ▸ hk)
    by_cases e : q = b
    · subst e
      exact e1.trans pk_us.symm
    · rw [pk_un e, e2 q e ?_]
      · refine h1 q (by omega) hk (fun z => ?_)
        rcases List.mem_cons.mp z with z | z
        · exact e z
        · exact hn z
      · intro z
        have := (hL q (by omega) z.2).1
        rw [this] at hk
        exact absurd hk (by decide)
  · have a : q ≠ p := fun e => n3 (e ▸ hk)
    rw [pk_un a] at hc
    have qb : q ≠ b := by
      intro e
      subst e
      rw [hk] at hbg
      exact absurd hbg (by decide)
    obtain ⟨c', y1, y2, y3, y4⟩ := j5 q (by omega) hk
    have y2 : B q = nI c' := y2
    have y4 : L c' = nI q := y4
    have ec : c' = c := (nI_eq (by omega) (by omega)).mp (y2.symm.trans hc)
    subst ec
    by_cases e : c' = b
    · subst e
      rw [pk_us]
      exact e3 y3 q (by omega) y4
    · rw [pk_un e, e2 q qb ?_]
      · refine h2 q (by omega) hk c' hc hcq (fun z => ?_)
        rcases List.mem_cons.mp z with z | z
        · exact e z
        · exact hn z
      · intro z
        have w := (hL q (by omega) z.2).2
        exact e ((nI_eq (by omega) (by omega)).mp (hc.symm.trans w))
  · have a : q ≠ p := fun e => nb (e ▸ hk)
    exact (pk_un a).trans (h3 q (by omega) hk)
  · by_cases e : q = p
    · subst e
      rw [c1, pk_us, nI_clamp (by omega)]
    · rw [c2 q e, pk_un e]
      exact h4 q (by omega) hk
  · have a : q ≠ p := fun e => n7 (e ▸ hk)
    rw [pk_un a, pk_un a]
    exact h5 q (by omega) hk
theorem du_y_close {post : SY → Prop} {b : Nat} (hb : b < 40) (hp : p < 40) (hl : el b = -1 ∨ ∃ e, e < 40 ∧ e ≠ b ∧ el b = nI e)
    (h : ∀ en' cl' : Nat → Int32, en' b = nI p → (∀ q, q ≠ b → (¬ (K b = 2 ∧ el b = nI q)) → en' q = en q) → (K b = 2 → ∀ q, q < 40 → el b = nI q → en' q = nI p) → cl' p = (if K b = 2 then cl p else nI b) → (∀ q, q ≠ p → cl' q = cl q) → post (sz, K, V, en', el, cl', lo, op)) : wpY_close post (sz, K, V, en, el, cl, lo, op) (nI b) (nI p) := by
  have hcb : (nI b).toNatClampNeg = b := nI_clamp (by omega)
  have hcp : (nI p).toNatClampNeg = p := nI_clamp (by omega)
  have hib : vp_in (nI b) 40 := vp_in_nI hb (by decide)
  refine ⟨hib, fun a1 x1 => ⟨hib, ?_⟩⟩
  rw [hcb] at x1 ⊢
  subst x1
  by_cases z : K b = 2
  · refine br_t z ⟨hib, ?_⟩
    rw [hcb]
    refine br_t z ⟨hib, ?_⟩
    rcases hl with y | ⟨e, y1, y2, y3⟩
    · refine br_t (by rw [y]; decide) (h _ _ pk_us (fun q hq _ => pk_un hq) (fun _ q hq w => absurd (w.symm.trans y) (du_nm1 (by omega))) (if_pos z).symm (fun q _ => rfl))
    · refine br_f (by rw [y3]; exact nI_pos (by omega)) ⟨hib, ?_⟩
      rw [y3, nI_clamp (by omega)]
      refine ⟨vp_in_nI y1 (by decide), fun a2 x2 => ?_⟩
      subst x2
      refine h _ _ ((pk_un (fun w => y2 w.symm)).trans pk_us) (fun q hq w => ?_) (fun _ q hq w => ?_) (if_pos z).symm (fun q _ => rfl)
      · have qe : q ≠ e := fun w2 => w ⟨z, by rw [w2]; exact y3⟩
        rw [pk_un qe, pk_un hq]
      · have qe : e = q := (nI_eq (by omega) (by omega)).mp (y3.symm.trans w)
        subst qe
        exact pk_us
  · refine br_f z ⟨vp_in_nI hp (by decide), fun a2 x2 => ⟨hib, ?_⟩⟩
    rw [hcp] at x2
    subst x2
    rw [hcb]
    refine br_f z (h _ _ pk_us (fun q hq _ => pk_un hq) (fun w => absurd w z) ?_ (fun q hq => pk_un hq))
    rw [pk_us, if_neg z]
end
