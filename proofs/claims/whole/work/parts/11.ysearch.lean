/-! the reference's ways and searches -/
section
variable {n : Nat} {K V en el cl lo op : Nat → Int32} {E L B : Nat → Int32} {p : Nat}
theorem du_y_next {post : Int32 → Prop} (hn : n ≤ 40) (hY : du_YA n K E L B en el cl lo) (hp : p < n) (h : post (du_a K E B p)) : wpY_next post ((nI n), K, V, en, el, cl, lo, op) (nI p) := by
  have hcl : (nI p).toNatClampNeg = p := nI_clamp (by omega)
  have hin : vp_in (nI p) 40 := vp_in_nI (by omega) (by decide)
  have nx : nI p + 1 = nI (p + 1) := nI_1 p
  obtain ⟨hr, y1, y2, y3, y4, y5⟩ := hY
  obtain ⟨_, _, _, _, _, j6, j7⟩ := du_J_run n _ (by omega) hr
  refine ⟨hin, fun k ek => ?_⟩
  rw [hcl] at ek ⊢
  by_cases h3 : K p = 3
  · rw [du_a3 h3, ← y2 p hp h3] at h
    exact br_t (ek.trans h3) ⟨hin, h⟩
  refine br_f (fun z => h3 (ek.symm.trans z)) ?_
  by_cases h6 : K p = 6
  · obtain ⟨b, b1, b2, b3⟩ := j6 p hp h6
    have b2 : B p = nI b := b2
    have hc := y4 p hp h6
    rw [du_a6 h6] at h
    rw [b2, nI_clamp (by omega)] at hc h
    refine br_t (ek.trans h6) ⟨hin, ?_⟩
    by_cases z : K b = 2
    · rw [if_pos z] at hc h
      rw [hc]
      have e6 : k = 6 := ek.trans h6
      subst e6
      refine br_t (by decide) (br_f (by decide) (br_f (by decide) (br_f (by decide) ?_)))
      rw [nx]
      exact h
    · rw [if_neg z] at hc h
      rw [hc]
      exact br_f (nI_pos (by omega)) ⟨hin, h⟩
  refine br_f (fun z => h6 (ek.symm.trans z)) ?_
  by_cases h7 : K p = 7
  · obtain ⟨b, b1, b2, b3, b4⟩ := j7 p hp (Or.inl h7)
    have b2 : B p = nI b := b2
    have hc : lo p = nI b := (y5 p hp (Or.inl h7)).trans b2
    rw [du_a7 h7, b2, nI_clamp (by omega), ← y1 b (by omega) b3] at h
    refine br_t (ek.trans h7) ⟨hin, ?_⟩
    rw [hcl, hc, nI_clamp (by omega)]
    exact br_f (nI_pos (by omega)) ⟨hin, vp_in_nI (by omega) (by decide), h⟩
  refine br_f (fun z => h7 (ek.symm.trans z)) ?_
  by_cases h8 : K p = 8
  · rw [du_a8 h8, ← y5 p hp (Or.inr h8)] at h
    refine br_t (ek.trans h8) ⟨hin, ?_⟩
    rw [hcl]
    exact h
  refine br_f (fun z => h8 (ek.symm.trans z)) ?_
  by_cases h9 : K p = 9
  · rw [du_a9 h9] at h
    exact br_t (ek.trans h9) h
  · rw [du_aO h3 h6 h7 h8 h9, ← nx] at h
    exact br_f (fun z => h9 (ek.symm.trans z)) h
theorem du_y_other {post : Int32 → Prop} (hn : n ≤ 40) (hY : du_YA n K E L B en el cl lo) (hp : p < n) (h : post (du_b K E L p)) : wpY_other post ((nI n), K, V, en, el, cl, lo, op) (nI p) := by
  have hcl : (nI p).toNatClampNeg = p := nI_clamp (by omega)
  have hin : vp_in (nI p) 40 := vp_in_nI (by omega) (by decide)
  obtain ⟨hr, y1, y2, y3, y4, y5⟩ := hY
  obtain ⟨_, _, _, j4, _, _, _⟩ := du_J_run n _ (by omega) hr
  refine ⟨hin, ?_⟩
  rw [hcl]
  by_cases h2 : K p = 2
  · rw [du_b2 h2, ← y1 p hp (Or.inl h2)] at h
    have e3 := y3 p hp (Or.inl h2)
    refine br_t h2 ⟨hin, ?_⟩
    rw [e3]
    rcases j4 p hp (Or.inl h2) with z | ⟨e, z1, z2, z3, _⟩
    · have z : L p = -1 := z
      rw [if_pos z] at h
      rw [z]
      exact br_t (by decide) ⟨hin, h⟩
    · have z3 : L p = nI e := z3
      rw [if_neg (by rw [z3]; exact du_nm1 (by omega))] at h
      rw [z3] at h ⊢
      exact br_f (nI_pos (by omega)) ⟨hin, h⟩
  · refine br_f h2 ⟨hin, ?_⟩
    by_cases h4 : K p = 4
    · rw [du_b4 h4, ← y1 p hp (Or.inr (Or.inl h4))] at h
      exact br_t h4 ⟨hin, h⟩
    · rw [du_bO h2 h4] at h
      exact br_f h4 h
theorem du_y_bit {post : Int64 → Prop} {sz x : Int32} (hn : n ≤ 40) (hx : du_in n x) (h : ∀ r : Int64, (∀ q, q ≤ n → (du_t r q = true ↔ x = nI q)) → post r) : wpY_bit post (sz, K, V, en, el, cl, lo, op) x := by
  rcases hx with e | ⟨r, hr, e⟩
  · subst e
    refine br_f (by decide) (h 0 (fun q hq => ?_))
    rw [du_t_0]
    exact ⟨fun z => absurd z (by decide), fun z => absurd z (du_n1 (by omega))⟩
  · subst e
    refine br_t (nI_pos' (by omega)) (h _ (fun q hq => ?_))
    rw [du_t_1 (by omega), decide_eq_true_iff, nI_eq (by omega) (by omega)]
def du_S4 (n : Nat) (s : Int64) (q : Nat) : Prop := q ≤ n ∧ du_t s q = true
theorem du_y_51 {post : Int64 → Prop} {J6 J16 : Int64 → Int32 → Prop} {v k : Int32} {s : Int64} (hn : n ≤ 40) (hY : du_YA n K E L B en el cl lo) (hp : p < n)
    (h : ∀ s' : Int64, (∀ q, du_S4 n s' q ↔ du_S4 n s q ∨ (du_S4 n s p ∧ du_E n (du_a K E B) (du_b K E L) p q)) → J16 s' (nI (p + 1))) : wY_search_51 post J6 J16 v s k (nI p) 0 (nI n) K V en el cl lo op := by
  have J := du_J_run n _ (by omega) hY.1
  have i1 := du_a_in hn J hp
  have i2 := du_b_in J hp
  by_cases z : du_t s p = true
  · refine br_t ((du_at s (by omega)).mpr z) (br_t rfl ?_)
    refine du_y_next hn hY hp (du_y_other hn hY hp (du_y_bit hn i1 (fun r1 h1 => du_y_bit hn i2 (fun r2 h2 => ?_))))
    intro s' es x ex
    rw [ex, nI_1]
    subst es
    refine h _ (fun q => ?_)
    constructor
    · intro ⟨y1, y2⟩
      rw [du_t_or, du_t_or, Bool.or_eq_true, Bool.or_eq_true, h1 q y1, h2 q y1] at y2
      rcases y2 with (y2 | y2) | y2
      · exact Or.inl ⟨y1, y2⟩
      · exact Or.inr ⟨⟨by omega, z⟩, hp, y1, Or.inl y2⟩
      · exact Or.inr ⟨⟨by omega, z⟩, hp, y1, Or.inr y2⟩
    · rintro (⟨y1, y2⟩ | ⟨_, _, y1, y2⟩)
      · refine ⟨y1, ?_⟩
        rw [du_t_or, du_t_or, y2]
        rfl
      · refine ⟨y1, ?_⟩
        rw [du_t_or, du_t_or, Bool.or_eq_true, Bool.or_eq_true, h1 q y1, h2 q y1]
        rcases y2 with y2 | y2
        · exact Or.inl (Or.inr y2)
        · exact Or.inr y2
  · refine br_f (fun y => z ((du_at s (by omega)).mp y)) (fun x ex => ?_)
    rw [ex, nI_1]
    exact h s (fun q => ⟨Or.inl, fun y => y.elim id (fun w => absurd w.1.2 z)⟩)
theorem du_y_51s {post : Int64 → Prop} {J6 J16 : Int64 → Int32 → Prop} {v k sz : Int32} {s : Int64} (h : J16 s (nI (p + 1))) : wY_search_51 post J6 J16 v s k (nI p) 1 sz K V en el cl lo op := by
  have e : ∀ x : Int32, x = nI p + 1 → J16 s x := by
    intro x ex
    rw [ex, nI_1]
    exact h
  exact br_c (fun _ => br_f (by decide) e) (fun _ => e)
theorem du_y_16 {post : Int64 → Prop} {J6 : Int64 → Int32 → Prop} {v : Int32} {k : Nat} {f : Nat → Prop} (hn : n ≤ 40) (hY : du_YA n K E L B en el cl lo)
    (h : ∀ s : Int64, du_I n (du_a K E B) (du_b K E L) (du_st K V v) f k n (du_S4 n s) → J6 s (nI (k + 1))) :
    ∀ (d p : Nat) (s : Int64), p + d = n → du_I n (du_a K E B) (du_b K E L) (du_st K V v) f k p (du_S4 n s) → wY_search_16 post J6 v (nI k) (nI n) K V en el cl lo op (d + 1) s (nI p) := by
  intro d
  induction d with
  | zero =>
    intro p s hp hI
    have e : p = n := hp
    subst e
    refine br_t (nI_le (Nat.le_refl _) (by omega)) (fun x ex => ?_)
    rw [ex, nI_1]
    exact h s hI
  | succ d ih =>
    intro p s hp hI
    have hpn : p < n := by omega
    have hcl : (nI p).toNatClampNeg = p := nI_clamp (by omega)
    have hin : vp_in (nI p) 40 := vp_in_nI (by omega) (by decide)
    refine br_f (nI_ge (by omega) (by omega)) ⟨hin, ?_⟩
    rw [hcl]
    have go : ¬ du_st K V v p → wY_search_51 post J6 (wY_search_16 post J6 v (nI k) (nI n) K V en el cl lo op (d + 1)) v s (nI k) (nI p) 0 (nI n) K V en el cl lo op := by
      intro hs
      refine du_y_51 hn hY hpn (fun s' h' => ih (p + 1) s' (by omega) (du_Is hI (fun q => ?_)))
      rw [h' q]
      exact ⟨fun y => y.elim Or.inl (fun w => Or.inr ⟨w.1, hs, w.2⟩), fun y => y.elim Or.inl (fun w => Or.inr ⟨w.1, w.2.2⟩)⟩
    by_cases z : K p = 0
    · refine br_t z ⟨hin, ?_⟩
      by_cases y : V p = v
      · refine br_t y (du_y_51s (ih (p + 1) s (by omega) (du_Is hI (fun q => ⟨Or.inl, fun w => w.elim id (fun w => absurd ⟨z, y⟩ w.2.1)⟩))))
      · exact br_f y (go (fun w => y w.2))
    · exact br_f z (go (fun w => z w.1))
theorem du_y_6 {post : Int64 → Prop} {v : Int32} {f : Nat → Prop} (hn : n ≤ 40) (hY : du_YA n K E L B en el cl lo)
    (h : ∀ s : Int64, (∀ q, q ≤ n → (du_t s q = true ↔ du_T n (du_a K E B) (du_b K E L) (du_st K V v) f q)) → post s) :
    ∀ (d k : Nat) (s : Int64), k + d = 41 → du_I n (du_a K E B) (du_b K E L) (du_st K V v) f k 0 (du_S4 n s) → wY_search_6 post v (nI n) K V en el cl lo op (d + 1) s (nI k) := by
  intro d
  induction d with
  | zero =>
    intro k s hk hI
    have e : k = 41 := hk
    subst e
    refine br_t (by decide) (h s (fun q hq => ?_))
    have f := du_If hI (Nat.le_trans (by omega : n + 1 ≤ 41) (Nat.le_add_left 41 _)) q
    exact ⟨fun z => f.mp ⟨hq, z⟩, fun z => (f.mpr z).2⟩
  | succ d ih =>
    intro k s hk hI
    exact br_f (nI_ge (b := 41) (by omega) (by decide)) ⟨n + 1, du_y_16 hn hY (fun s hI => ih (k + 1) s (by omega) (du_In hI)) n 0 s (Nat.zero_add n) hI⟩
theorem du_y_search {post : Int64 → Prop} {v : Int32} {f : Nat → Prop} {s : Int64} (hn : n ≤ 40) (hY : du_YA n K E L B en el cl lo) (hs : ∀ q, q ≤ n → (du_t s q = true ↔ f q))
    (h : ∀ s : Int64, (∀ q, q ≤ n → (du_t s q = true ↔ du_T n (du_a K E B) (du_b K E L) (du_st K V v) f q)) → post s) : wpY_search post ((nI n), K, V, en, el, cl, lo, op) s v :=
  ⟨42, du_y_6 hn hY h 41 0 s rfl (du_I0 (fun q => ⟨fun z => ⟨z.1, (hs q z.1).mp z.2⟩, fun z => ⟨z.1, (hs q z.1).mpr z.2⟩⟩))⟩
theorem du_y_at {post : Int32 → Prop} {sz : Int32} {s : Int64} {q : Nat} (hq : q ≤ 40) (h1 : du_t s q = true → post 1) (h0 : ¬ du_t s q = true → post 0) : wpY_at post (sz, K, V, en, el, cl, lo, op) s (nI q) :=
  br_c (fun z => h1 ((du_at s (by omega)).mp z)) (fun z => h0 (fun y => z ((du_at s (by omega)).mpr y)))
theorem du_y_uses1 {post : Int32 → Prop} {s : Int64} {v : Int32} (hn : n ≤ 40) (h1 : (∃ q, q < n ∧ du_us K V v q ∧ du_t s q = true) → post 1) (h0 : ¬ (∃ q, q < n ∧ du_us K V v q ∧ du_t s q = true) → post 0) :
    ∀ (d p : Nat), p + d = n → (∀ q, q < p → ¬ (du_us K V v q ∧ du_t s q = true)) → wY_uses_3 post s v (nI n) K V en el cl lo op (d + 1) (nI p) := by
  intro d
  induction d with
  | zero =>
    intro p hp hI
    have e : p = n := hp
    subst e
    exact br_t (nI_le (Nat.le_refl _) (by omega)) (h0 (fun ⟨q, q1, q2⟩ => hI q q1 q2))
  | succ d ih =>
    intro p hp hI
    have hcl : (nI p).toNatClampNeg = p := nI_clamp (by omega)
    have hin : vp_in (nI p) 40 := vp_in_nI (by omega) (by decide)
    have nx : ¬ (du_us K V v p ∧ du_t s p = true) → ∀ x : Int32, x = nI p + 1 → wY_uses_3 post s v (nI n) K V en el cl lo op (d + 1) x := by
      intro hp' x ex
      rw [ex, nI_1]
      refine ih (p + 1) (by omega) (fun q hq => ?_)
      by_cases e : q = p
      · rw [e]
        exact hp'
      · exact hI q (by omega)
    refine br_f (nI_ge (by omega) (by omega)) (du_y_at (by omega) (fun z => br_f (by decide) ⟨hin, ?_⟩) (fun z => br_t rfl (nx (fun w => z w.2))))
    rw [hcl]
    by_cases a : K p = 1
    · refine br_t a ⟨hin, ?_⟩
      by_cases b : V p = v
      · exact br_t b (h1 ⟨p, by omega, ⟨a, b⟩, z⟩)
      · exact br_f b (nx (fun w => b w.1.2))
    · exact br_f a (nx (fun w => a w.1.1))
theorem du_y_uses {post : Int32 → Prop} {s : Int64} {v : Int32} (hn : n ≤ 40) (h1 : (∃ q, q < n ∧ du_us K V v q ∧ du_t s q = true) → post 1) (h0 : ¬ (∃ q, q < n ∧ du_us K V v q ∧ du_t s q = true) → post 0) : wpY_uses post ((nI n), K, V, en, el, cl, lo, op) s v :=
  ⟨n + 1, du_y_uses1 hn h1 h0 n 0 (Nat.zero_add n) (fun q hq => absurd hq (Nat.not_lt_zero q))⟩
/-- from place f, before v is set: is v used? -/
theorem du_y_eq {A W : Nat → Int32} {s : Int64} {v : Int32} {f : Nat} (hf : f ≤ n) (hr : ∀ q, q ≤ n → (du_t s q = true ↔ du_T n A W (du_st K V v) (fun x => x = f) q)) : (∃ q, q < n ∧ du_us K V v q ∧ du_t s q = true) ↔ du_V n A W (du_st K V v) (du_us K V v) f := by
  rw [du_VT hf]
  constructor
  · rintro ⟨q, q1, q2, q3⟩
    exact ⟨q, q1, q2, (hr q (by omega)).mp q3⟩
  · rintro ⟨q, q1, q2, q3⟩
    exact ⟨q, q1, q2, (hr q (by omega)).mpr q3⟩
end
