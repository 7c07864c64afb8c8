/-! the matching of begins, ELSEs and ENDs, pure: a stack of begins, ends E, elses L, begins B -/
abbrev du_bg (k : Int32) : Prop := k = 2 ∨ k = 4 ∨ k = 5
abbrev du_M : Type := List Nat × (Nat → Int32) × (Nat → Int32) × (Nat → Int32)
def du_lp (K : Nat → Int32) : List Nat → Int32
  | [] => -1
  | b :: t => if K b = 2 then du_lp K t else nI b
def du_tp : List Nat → Int32
  | [] => -1
  | b :: _ => nI b
def du_else (K : Nat → Int32) (p : Nat) : du_M → Option du_M
  | ([], _) => none
  | (b :: t, E, L, B) => if K b = 2 ∧ L b = -1 then some (b :: t, E, upd L b (nI p), upd B p (nI b)) else none
def du_end (p : Nat) : du_M → Option du_M
  | ([], _) => none
  | (b :: t, E, L, B) => some (t, upd E b (nI p), L, upd B p (nI b))
def du_step (K : Nat → Int32) (p : Nat) (m : du_M) : Option du_M :=
  if du_bg (K p) then some (p :: m.1, m.2.1, upd m.2.2.1 p (-1), m.2.2.2)
  else if K p = 3 then du_else K p m
  else if K p = 6 then du_end p m
  else if K p = 7 ∨ K p = 8 then (if du_lp K m.1 = -1 then none else some (m.1, m.2.1, m.2.2.1, upd m.2.2.2 p (du_lp K m.1)))
  else some m
def du_run (K : Nat → Int32) : Nat → Option du_M
  | 0 => some ([], fun _ => 0, fun _ => 0, fun _ => 0)
  | p + 1 => match du_run K p with
    | none => none
    | some m => du_step K p m
theorem du_s_open {K : Nat → Int32} {p : Nat} {m : du_M} (h : du_bg (K p)) : du_step K p m = some (p :: m.1, m.2.1, upd m.2.2.1 p (-1), m.2.2.2) := if_pos h
theorem du_s_else {K : Nat → Int32} {p : Nat} {m : du_M} (h : K p = 3) : du_step K p m = du_else K p m := by
  unfold du_step
  rw [if_neg (by rw [h]; decide), if_pos h]
theorem du_s_end {K : Nat → Int32} {p : Nat} {m : du_M} (h : K p = 6) : du_step K p m = du_end p m := by
  unfold du_step
  rw [if_neg (by rw [h]; decide), if_neg (by rw [h]; decide), if_pos h]
theorem du_s_jump {K : Nat → Int32} {p : Nat} {m : du_M} (h : K p = 7 ∨ K p = 8) : du_step K p m = if du_lp K m.1 = -1 then none else some (m.1, m.2.1, m.2.2.1, upd m.2.2.2 p (du_lp K m.1)) := by
  unfold du_step
  have h1 : ¬ du_bg (K p) := by rcases h with h | h <;> rw [h] <;> decide
  have h2 : ¬ K p = 3 := by rcases h with h | h <;> rw [h] <;> decide
  have h3 : ¬ K p = 6 := by rcases h with h | h <;> rw [h] <;> decide
  rw [if_neg h1, if_neg h2, if_neg h3, if_pos h]
theorem du_s_other {K : Nat → Int32} {p : Nat} {m : du_M} (h1 : ¬ du_bg (K p)) (h2 : ¬ K p = 3) (h3 : ¬ K p = 6) (h4 : ¬ (K p = 7 ∨ K p = 8)) : du_step K p m = some m := by
  unfold du_step
  rw [if_neg h1, if_neg h2, if_neg h3, if_neg h4]
theorem du_run_s {K : Nat → Int32} {p : Nat} {m : du_M} (h : du_run K p = some m) : du_run K (p + 1) = du_step K p m := by
  rw [du_run, h]
theorem du_run_n {K : Nat → Int32} {p : Nat} (h : du_run K p = none) : du_run K (p + 1) = none := by
  rw [du_run, h]
theorem du_run_d {K : Nat → Int32} {p : Nat} (h : du_run K p = none) : ∀ d, du_run K (p + d) = none := by
  intro d
  induction d with
  | zero => exact h
  | succ d ih => exact du_run_n ih
theorem du_run_none {K : Nat → Int32} {p n : Nat} (h : du_run K p = none) (hn : p ≤ n) : du_run K n = none := by
  have := du_run_d h (n - p)
  rwa [show p + (n - p) = n by omega] at this
/-- sound -/
def du_W (K : Nat → Int32) (n : Nat) : Prop := ∃ E L B, du_run K n = some ([], E, L, B)
theorem du_nW {K : Nat → Int32} {p n : Nat} (h : du_run K p = none) (hn : p ≤ n) : ¬ du_W K n := by
  intro ⟨E, L, B, e⟩
  rw [du_run_none h hn] at e
  cases e
theorem du_nm1 {q : Nat} (h : q < 2 ^ 31) : ¬ nI q = -1 := by
  intro e
  exact nI_pos h (by rw [e]; decide)
theorem du_lp_in {K : Nat → Int32} : ∀ s : List Nat, du_lp K s = -1 ∨ ∃ b, b ∈ s ∧ K b ≠ 2 ∧ du_lp K s = nI b := by
  intro s
  induction s with
  | nil => exact Or.inl rfl
  | cons b t ih =>
    by_cases h : K b = 2
    · have e : du_lp K (b :: t) = du_lp K t := if_pos h
      rcases ih with z | ⟨c, c1, c2, c3⟩
      · exact Or.inl (e.trans z)
      · exact Or.inr ⟨c, List.mem_cons_of_mem _ c1, c2, e.trans c3⟩
    · exact Or.inr ⟨b, List.mem_cons_self .., h, if_neg h⟩
/-- what holds of the matching ahead of token p -/
def du_J (K : Nat → Int32) (p : Nat) (m : du_M) : Prop :=
  (∀ b, b ∈ m.1 → b < p ∧ du_bg (K b)) ∧ m.1.length ≤ p ∧
  (∀ b, b < p → du_bg (K b) → b ∈ m.1 ∨ ∃ e, b < e ∧ e < p ∧ m.2.1 b = nI e) ∧
  (∀ b, b < p → du_bg (K b) → m.2.2.1 b = -1 ∨ ∃ e, b < e ∧ e < p ∧ m.2.2.1 b = nI e ∧ K e = 3 ∧ m.2.2.2 e = nI b) ∧
  (∀ q, q < p → K q = 3 → ∃ b, b < q ∧ m.2.2.2 q = nI b ∧ K b = 2 ∧ m.2.2.1 b = nI q) ∧
  (∀ q, q < p → K q = 6 → ∃ b, b < q ∧ m.2.2.2 q = nI b ∧ du_bg (K b)) ∧
  (∀ q, q < p → (K q = 7 ∨ K q = 8) → ∃ b, b < q ∧ m.2.2.2 q = nI b ∧ du_bg (K b) ∧ K b ≠ 2)
theorem du_J_0 {K : Nat → Int32} : du_J K 0 ([], fun _ => 0, fun _ => 0, fun _ => 0) :=
  ⟨fun b hb => (by have hb : b ∈ ([] : List Nat) := hb; cases hb), Nat.le_refl 0, fun b hb => absurd hb (Nat.not_lt_zero b), fun b hb => absurd hb (Nat.not_lt_zero b), fun b hb => absurd hb (Nat.not_lt_zero b), fun b hb => absurd hb (Nat.not_lt_zero b), fun b hb => absurd hb (Nat.not_lt_zero b)⟩
theorem du_J_open {K : Nat → Int32} {p : Nat} {s : List Nat} {E L B : Nat → Int32} (J : du_J K p (s, E, L, B)) (h : du_bg (K p)) : du_J K (p + 1) (p :: s, E, upd L p (-1), B) := by
  obtain ⟨j1, j2, j3, j4, j5, j6, j7⟩ := J
  refine ⟨fun b hb => ?_, Nat.succ_le_succ j2, fun b hb hk => ?_, fun b hb hk => ?_, fun q hq hk => ?_, fun q hq hk => ?_, fun q hq hk => ?_⟩
  · rcases List.mem_cons.mp hb with e | hb
    · subst e
      exact ⟨Nat.lt_succ_self _, h⟩
    · exact ⟨Nat.lt_succ_of_lt (j1 b hb).1, (j1 b hb).2⟩
  · by_cases e : b = p
    · subst e
      exact Or.inl (List.mem_cons_self ..)
    · rcases j3 b (by omega) hk with z | ⟨e1, e2, e3, e4⟩
      · exact Or.inl (List.mem_cons_of_mem _ z)
      · exact Or.inr ⟨e1, e2, by omega, e4⟩
  · by_cases e : b = p
    · subst e
      exact Or.inl pk_us
    · rcases j4 b (by omega) hk with z | ⟨e1, e2, e3, e4, e5, e6⟩
      · exact Or.inl ((pk_un e).trans z)
      · exact Or.inr ⟨e1, e2, by omega, (pk_un e).trans e4, e5, e6⟩
  · by_cases e : q = p
    · subst e
      rw [hk] at h
      exact absurd h (by decide)
    · obtain ⟨b, b1, b2, b3, b4⟩ := j5 q (by omega) hk
      exact ⟨b, b1, b2, b3, (pk_un (by omega)).trans b4⟩
  · by_cases e : q = p
    · subst e
      rw [hk] at h
      exact absurd h (by decide)
    · exact j6 q (by omega) hk
  · by_cases e : q = p
    · subst e
      rcases hk with hk | hk <;> rw [hk] at h <;> exact absurd h (by decide)
    · exact j7 q (by omega) hk
theorem du_J_else {K : Nat → Int32} {p b : Nat} {t : List Nat} {E L B : Nat → Int32} (hp : p < 2 ^ 31) (J : du_J K p (b :: t, E, L, B)) (h : K p = 3) (hb : K b = 2) (hl : L b = -1) : du_J K (p + 1) (b :: t, E, upd L b (nI p), upd B p (nI b)) := by
  obtain ⟨j1, j2, j3, j4, j5, j6, j7⟩ := J
  have hbp : b < p := (j1 b (List.mem_cons_self ..)).1
  refine ⟨fun c hc => ?_, Nat.le_succ_of_le j2, fun c hc hk => ?_, fun c hc hk => ?_, fun q hq hk => ?_, fun q hq hk => ?_, fun q hq hk => ?_⟩
  · exact ⟨Nat.lt_succ_of_lt (j1 c hc).1, (j1 c hc).2⟩
  · by_cases e : c = p
    · subst e
      rw [h] at hk
      exact absurd hk (by decide)
    · rcases j3 c (by omega) hk with z | ⟨e1, e2, e3, e4⟩
      · exact Or.inl z
      · exact Or.inr ⟨e1, e2, by omega, e4⟩
  · by_cases e : c = b
    · subst e
      exact Or.inr ⟨p, hbp, Nat.lt_succ_self _, pk_us, h, pk_us⟩
    · by_cases e2 : c = p
      · subst e2
        rw [h] at hk
        exact absurd hk (by decide)
      · rcases j4 c (by omega) hk with z | ⟨e1, e2, e3, e4, e5, e6⟩
        · exact Or.inl ((pk_un e).trans z)
        · exact Or.inr ⟨e1, e2, by omega, (pk_un e).trans e4, e5, (pk_un (by omega)).trans e6⟩
  · by_cases e : q = p
    · subst e
      exact ⟨b, hbp, pk_us, hb, pk_us⟩
    · obtain ⟨c, c1, c2, c3, c4⟩ := j5 q (by omega) hk
      refine ⟨c, c1, (pk_un e).trans c2, c3, (pk_un ?_).trans c4⟩
      intro z
      subst z
      exact du_nm1 (by omega) (c4.symm.trans hl)
  · by_cases e : q = p
    · subst e
      rw [h] at hk
      exact absurd hk (by decide)
    · obtain ⟨c, c1, c2, c3⟩ := j6 q (by omega) hk
      exact ⟨c, c1, (pk_un e).trans c2, c3⟩
  · by_cases e : q = p
    · subst e
      rcases hk with hk | hk <;> rw [h] at hk <;> exact absurd hk (by decide)
    · obtain ⟨c, c1, c2, c3⟩ := j7 q (by omega) hk
      exact ⟨c, c1, (pk_un e).trans c2, c3⟩
theorem du_J_end {K : Nat → Int32} {p b : Nat} {t : List Nat} {E L B : Nat → Int32} (J : du_J K p (b :: t, E, L, B)) (h : K p = 6) : du_J K (p + 1) (t, upd E b (nI p), L, upd B p (nI b)) := by
  obtain ⟨j1, j2, j3, j4, j5, j6, j7⟩ := J
  have hbp := j1 b (List.mem_cons_self ..)
  have hlen : t.length + 1 ≤ p := j2
  refine ⟨fun c hc => ?_, Nat.le_trans (by omega : t.length ≤ p) (Nat.le_succ p), fun c hc hk => ?_, fun c hc hk => ?_, fun q hq hk => ?_, fun q hq hk => ?_, fun q hq hk => ?_⟩
  · have z := j1 c (List.mem_cons_of_mem _ hc)
    exact ⟨Nat.lt_succ_of_lt z.1, z.2⟩
  · by_cases e : c = b
    · subst e
      exact Or.inr ⟨p, hbp.1, Nat.lt_succ_self _, pk_us⟩
    · by_cases e2 : c = p
      · subst e2
        rw [h] at hk
        exact absurd hk (by decide)
      · rcases j3 c (by omega) hk with z | ⟨e1, e2, e3, e4⟩
        · rcases List.mem_cons.mp z with z | z
          · exact absurd z e
          · exact Or.inl z
        · exact Or.inr ⟨e1, e2, by omega, (pk_un e).trans e4⟩
  · by_cases e2 : c = p
    · subst e2
      rw [h] at hk
      exact absurd hk (by decide)
    · rcases j4 c (by omega) hk with z | ⟨e1, e2, e3, e4, e5, e6⟩
      · exact Or.inl z
      · exact Or.inr ⟨e1, e2, by omega, e4, e5, (pk_un (by omega)).trans e6⟩
  · by_cases e : q = p
    · subst e
      rw [h] at hk
      exact absurd hk (by decide)
    · obtain ⟨c, c1, c2, c3, c4⟩ := j5 q (by omega) hk
      exact ⟨c, c1, (pk_un e).trans c2, c3, c4⟩
  · by_cases e : q = p
    · subst e
      exact ⟨b, hbp.1, pk_us, hbp.2⟩
    · obtain ⟨c, c1, c2, c3⟩ := j6 q (by omega) hk
      exact ⟨c, c1, (pk_un e).trans c2, c3⟩
  · by_cases e : q = p
    · subst e
      rcases hk with hk | hk <;> rw [h] at hk <;> exact absurd hk (by decide)
    · obtain ⟨c, c1, c2, c3⟩ := j7 q (by omega) hk
      exact ⟨c, c1, (pk_un e).trans c2, c3⟩
theorem du_J_jump {K : Nat → Int32} {p : Nat} {s : List Nat} {E L B : Nat → Int32} (J : du_J K p (s, E, L, B)) (h : K p = 7 ∨ K p = 8) (hl : ¬ du_lp K s = -1) : du_J K (p + 1) (s, E, L, upd B p (du_lp K s)) := by
  obtain ⟨j1, j2, j3, j4, j5, j6, j7⟩ := J
  have nb : ¬ du_bg (K p) := by rcases h with h | h <;> rw [h] <;> decide
  have n3 : ¬ K p = 3 := by rcases h with h | h <;> rw [h] <;> decide
  have n6 : ¬ K p = 6 := by rcases h with h | h <;> rw [h] <;> decide
  refine ⟨fun c hc => ?_, Nat.le_succ_of_le j2, fun c hc hk => ?_, fun c hc hk => ?_, fun q hq hk => ?_, fun q hq hk => ?_, fun q hq hk => ?_⟩
  · exact ⟨Nat.lt_succ_of_lt (j1 c hc).1, (j1 c hc).2⟩
  · by_cases e : c = p
    · subst e
      exact absurd hk nb
    · rcases j3 c (by omega) hk with z | ⟨e1, e2, e3, e4⟩
      · exact Or.inl z
      · exact Or.inr ⟨e1, e2, by omega, e4⟩
  · by_cases e : c = p
    · subst e
      exact absurd hk nb
    · rcases j4 c (by omega) hk with z | ⟨e1, e2, e3, e4, e5, e6⟩
      · exact Or.inl z
      · exact Or.inr ⟨e1, e2, by omega, e4, e5, (pk_un (by omega)).trans e6⟩
  · by_cases e : q = p
    · subst e
      exact absurd hk n3
    · obtain ⟨c, c1, c2, c3, c4⟩ := j5 q (by omega) hk
      exact ⟨c, c1, (pk_un e).trans c2, c3, c4⟩
  · by_cases e : q = p
    · subst e
      exact absurd hk n6
    · obtain ⟨c, c1, c2, c3⟩ := j6 q (by omega) hk
      exact ⟨c, c1, (pk_un e).trans c2, c3⟩
  · by_cases e : q = p
    · subst e
      rcases du_lp_in (K := K) s with z | ⟨c, c1, c2, c3⟩
      · exact absurd z hl
      · exact ⟨c, (j1 c c1).1, pk_us.trans c3, (j1 c c1).2, c2⟩
    · obtain ⟨c, c1, c2, c3⟩ := j7 q (by omega) hk
      exact ⟨c, c1, (pk_un e).trans c2, c3⟩
theorem du_J_other {K : Nat → Int32} {p : Nat} {m : du_M} (J : du_J K p m) (h1 : ¬ du_bg (K p)) (h2 : ¬ K p = 3) (h3 : ¬ K p = 6) (h4 : ¬ (K p = 7 ∨ K p = 8)) : du_J K (p + 1) m := by
  obtain ⟨j1, j2, j3, j4, j5, j6, j7⟩ := J
  refine ⟨fun c hc => ?_, Nat.le_succ_of_le j2, fun c hc hk => ?_, fun c hc hk => ?_, fun q hq hk => ?_, fun q hq hk => ?_, fun q hq hk => ?_⟩
  · exact ⟨Nat.lt_succ_of_lt (j1 c hc).1, (j1 c hc).2⟩
  · by_cases e : c = p
    · subst e
      exact absurd hk h1
    · rcases j3 c (by omega) hk with z | ⟨e1, e2, e3, e4⟩
      · exact Or.inl z
      · exact Or.inr ⟨e1, e2, by omega, e4⟩
  · by_cases e : c = p
    · subst e
      exact absurd hk h1
    · rcases j4 c (by omega) hk with z | ⟨e1, e2, e3, e4, e5, e6⟩
      · exact Or.inl z
      · exact Or.inr ⟨e1, e2, by omega, e4, e5, e6⟩
  · by_cases e : q = p
    · subst e
      exact absurd hk h2
    · exact j5 q (by omega) hk
  · by_cases e : q = p
    · subst e
      exact absurd hk h3
    · exact j6 q (by omega) hk
  · by_cases e : q = p
    · subst e
      exact absurd hk h4
    · exact j7 q (by omega) hk
theorem du_J_step {K : Nat → Int32} {p : Nat} {m m' : du_M} (hp : p < 2 ^ 31) (J : du_J K p m) (h : du_step K p m = some m') : du_J K (p + 1) m' := by
  obtain ⟨s, E, L, B⟩ := m
  by_cases h1 : du_bg (K p)
  · rw [du_s_open h1] at h
    cases h
    exact du_J_open J h1
  by_cases h3 : K p = 3
  · rw [du_s_else h3] at h
    cases s with
    | nil => cases h
    | cons b t =>
      by_cases z : K b = 2 ∧ L b = -1
      · have e : du_else K p (b :: t, E, L, B) = some (b :: t, E, upd L b (nI p), upd B p (nI b)) := if_pos z
        rw [e] at h
        cases h
        exact du_J_else hp J h3 z.1 z.2
      · have e : du_else K p (b :: t, E, L, B) = none := if_neg z
        rw [e] at h
        cases h
  by_cases h6 : K p = 6
  · rw [du_s_end h6] at h
    cases s with
    | nil => cases h
    | cons b t =>
      cases h
      exact du_J_end J h6
  by_cases h7 : K p = 7 ∨ K p = 8
  · rw [du_s_jump h7] at h
    by_cases z : du_lp K s = -1
    · rw [if_pos z] at h
      cases h
    · rw [if_neg z] at h
      cases h
      exact du_J_jump J h7 z
  rw [du_s_other h1 h3 h6 h7] at h
  cases h
  exact du_J_other J h1 h3 h6 h7
theorem du_J_run {K : Nat → Int32} : ∀ p m, p < 2 ^ 31 → du_run K p = some m → du_J K p m := by
  intro p
  induction p with
  | zero =>
    intro m _ h
    cases h
    exact du_J_0
  | succ p ih =>
    intro m hp h
    cases e : du_run K p with
    | none =>
      rw [du_run_n e] at h
      cases h
    | some m0 =>
      rw [du_run_s e] at h
      exact du_J_step (by omega) (ih m0 (by omega) e) h
/-! the two ways behind a token -/
def du_a (K E B : Nat → Int32) (p : Nat) : Int32 :=
  if K p = 3 then E (B p).toNatClampNeg
  else if K p = 6 then (if K (B p).toNatClampNeg = 2 then nI (p + 1) else B p)
  else if K p = 7 then E (B p).toNatClampNeg + 1
  else if K p = 8 then B p
  else if K p = 9 then -1
  else nI (p + 1)
def du_b (K E L : Nat → Int32) (p : Nat) : Int32 :=
  if K p = 2 then (if L p = -1 then E p else L p + 1)
  else if K p = 4 then E p + 1
  else -1
def du_in (n : Nat) (x : Int32) : Prop := x = -1 ∨ ∃ q, q ≤ n ∧ x = nI q
theorem du_a_in {K E L B : Nat → Int32} {n : Nat} (hn : n ≤ 40) (J : du_J K n ([], E, L, B)) {p : Nat} (hp : p < n) : du_in n (du_a K E B p) := by
  obtain ⟨_, _, j3, _, j5, j6, j7⟩ := J
  have cl : ∀ b, b < n → du_bg (K b) → ∃ e, e < n ∧ E b = nI e := by
    intro b hb hk
    rcases j3 b hb hk with z | ⟨e, e1, e2, e3⟩
    · cases z
    · exact ⟨e, e2, e3⟩
  unfold du_a
  by_cases h3 : K p = 3
  · rw [if_pos h3]
    obtain ⟨b, b1, b2, b3, _⟩ := j5 p hp h3
    obtain ⟨e, e1, e2⟩ := cl b (by omega) (Or.inl b3)
    have b2 : B p = nI b := b2
    rw [b2, nI_clamp (by omega), e2]
    exact Or.inr ⟨e, by omega, rfl⟩
  rw [if_neg h3]
  by_cases h6 : K p = 6
  · rw [if_pos h6]
    obtain ⟨b, b1, b2, b3⟩ := j6 p hp h6
    have b2 : B p = nI b := b2
    split
    · exact Or.inr ⟨p + 1, by omega, rfl⟩
    · exact Or.inr ⟨b, by omega, b2⟩
  rw [if_neg h6]
  by_cases h7 : K p = 7
  · rw [if_pos h7]
    obtain ⟨b, b1, b2, b3, _⟩ := j7 p hp (Or.inl h7)
    obtain ⟨e, e1, e2⟩ := cl b (by omega) b3
    have b2 : B p = nI b := b2
    rw [b2, nI_clamp (by omega), e2, nI_1]
    exact Or.inr ⟨e + 1, by omega, rfl⟩
  rw [if_neg h7]
  by_cases h8 : K p = 8
  · rw [if_pos h8]
    obtain ⟨b, b1, b2, b3, _⟩ := j7 p hp (Or.inr h8)
    exact Or.inr ⟨b, by omega, b2⟩
  rw [if_neg h8]
  split
  · exact Or.inl rfl
  · exact Or.inr ⟨p + 1, by omega, rfl⟩
theorem du_b_in {K E L B : Nat → Int32} {n : Nat} (J : du_J K n ([], E, L, B)) {p : Nat} (hp : p < n) : du_in n (du_b K E L p) := by
  obtain ⟨_, _, j3, j4, _, _, _⟩ := J
  have cl : ∀ b, b < n → du_bg (K b) → ∃ e, e < n ∧ E b = nI e := by
    intro b hb hk
    rcases j3 b hb hk with z | ⟨e, e1, e2, e3⟩
    · cases z
    · exact ⟨e, e2, e3⟩
  unfold du_b
  by_cases h2 : K p = 2
  · rw [if_pos h2]
    split
    · obtain ⟨e, e1, e2⟩ := cl p hp (Or.inl h2)
      exact Or.inr ⟨e, by omega, e2⟩
    · next hl =>
      rcases j4 p hp (Or.inl h2) with z | ⟨e, e1, e2, e3, _⟩
      · exact absurd z hl
      · have e3 : L p = nI e := e3
        rw [e3, nI_1]
        exact Or.inr ⟨e + 1, by omega, rfl⟩
  rw [if_neg h2]
  by_cases h4 : K p = 4
  · rw [if_pos h4]
    obtain ⟨e, e1, e2⟩ := cl p hp (Or.inr (Or.inl h4))
    rw [e2, nI_1]
    exact Or.inr ⟨e + 1, by omega, rfl⟩
  rw [if_neg h4]
  exact Or.inl rfl
theorem du_a_set {K E B : Nat → Int32} {p : Nat} (h : K p = 0) : du_a K E B p = nI (p + 1) := by
  unfold du_a
  rw [if_neg (by rw [h]; decide), if_neg (by rw [h]; decide), if_neg (by rw [h]; decide), if_neg (by rw [h]; decide), if_neg (by rw [h]; decide)]
theorem du_b_set {K E L : Nat → Int32} {p : Nat} (h : K p = 0) : du_b K E L p = -1 := by
  unfold du_b
  rw [if_neg (by rw [h]; decide), if_neg (by rw [h]; decide)]
