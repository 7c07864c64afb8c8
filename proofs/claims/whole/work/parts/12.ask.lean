/-! the asking calls -/
section
variable {n : Nat} {io il wf : Int32} {K V en el be oO oL fw sw ra sa wa : Nat → Int32} {cl lo op : Nat → Int32} {E L B : Nat → Int32} {p : Nat} {x : Int32}
theorem du_q_tok {post : Int32 → Prop} (hn : n ≤ 40) (hp : p < n) (h : post 1) : wpX_isToken post ((nI n), io, il, wf, K, V, en, el, be, oO, oL, fw, sw, ra, sa, wa) (nI p) :=
  br_f (nI_pos (by omega)) (br_f (nI_ge hp (by omega)) h)
theorem du_q_not {post : Int32 → Prop} (hx : x < 0 ∨ nI n ≤ x) (h : post 0) : wpX_isToken post ((nI n), io, il, wf, K, V, en, el, be, oO, oL, fw, sw, ra, sa, wa) x := by
  by_cases z : x < 0
  · exact br_t z h
  · exact br_f z (br_t (hx.resolve_left z) h)
theorem du_y_tok {post : Int32 → Prop} (hn : n ≤ 40) (hp : p < n) (h : post 0) : wpY_bad post ((nI n), K, V, en, el, cl, lo, op) (nI p) :=
  br_f (nI_pos (by omega)) (br_t (nI_lt hp (by omega)) h)
theorem du_y_not {post : Int32 → Prop} (hx : x < 0 ∨ nI n ≤ x) (h : post 1) : wpY_bad post ((nI n), K, V, en, el, cl, lo, op) x := by
  by_cases z : x < 0
  · exact br_t z h
  · exact br_f z (br_f (Int32.not_lt.mpr (hx.resolve_left z)) h)
theorem du_y_no {post : Int32 → SY → Prop} (hn : n ≤ 40) (hW : ¬ du_W K n) (h : ∀ en el cl lo op : Nat → Int32, post 0 ((nI n), K, V, en, el, cl, lo, op)) : wpY_sound post ((nI n), K, V, en, el, cl, lo, op) :=
  du_y_sound hn (fun E L B _ _ _ _ _ hY => absurd ⟨E, L, B, hY.1⟩ hW) (fun _ => h)
theorem du_y_yes {post : Int32 → SY → Prop} (hn : n ≤ 40) (hr : du_run K n = some ([], E, L, B)) (h : ∀ en el cl lo op : Nat → Int32, du_YA n K E L B en el cl lo → post 1 ((nI n), K, V, en, el, cl, lo, op)) : wpY_sound post ((nI n), K, V, en, el, cl, lo, op) := by
  refine du_y_sound hn (fun E' L' B' en el cl lo op hY => h en el cl lo op ?_) (fun hW => absurd ⟨E, L, B, hr⟩ hW)
  have e := hr.symm.trans hY.1
  cases e
  exact hY
theorem du_F_1 {A W : Nat → Int32} {v : Int32} {f q : Nat} (hk : du_ok n K V) (h : du_F n K V A W v f q) : du_F n K V A W (-1) f q :=
  du_Tl (S := du_F n K V A W (-1) f) (fun _ hy hf => du_T0 hy hf) (fun _ _ ha _ he => du_T1 ha (du_nst hk he.1) he) q h
/-- token p is an idle SET -/
def du_dl (n : Nat) (K V A W : Nat → Int32) (p : Nat) : Prop := K p = 0 ∧ du_F n K V A W (-1) 0 p ∧ ¬ du_V n A W (du_st K V (V p)) (du_us K V (V p)) (p + 1)
/-- token p is a USE in doubt -/
def du_db (n : Nat) (K V A W : Nat → Int32) (p : Nat) : Prop := K p = 1 ∧ du_F n K V A W (V p) 0 p
theorem du_q_dl {post : Int32 → Prop} {sz : Int32} (hn : n ≤ 40) (hk : du_ok n K V) (hp : p < n) (hw : du_wy n (du_a K E B) (du_b K E L) fw sw)
    (hra : ∀ q, q ≤ n → (¬ ra q = 0 ↔ du_F n K V (du_a K E B) (du_b K E L) (-1) 0 q))
    (hwa : ∀ q, q ≤ n → ∀ v, v < 6 → (bt (wa q) v = true ↔ du_V n (du_a K E B) (du_b K E L) (du_st K V (nI v)) (du_us K V (nI v)) q))
    (h1 : du_dl n K V (du_a K E B) (du_b K E L) p → post 1) (h0 : ¬ du_dl n K V (du_a K E B) (du_b K E L) p → post 0) : wpX_isIdleSet post (sz, io, il, wf, K, V, en, el, be, oO, oL, fw, sw, ra, sa, wa) (nI p) := by
  have hcl : (nI p).toNatClampNeg = p := nI_clamp (by omega)
  refine ⟨vp_in_nI (by omega) (by decide), ?_⟩
  rw [hcl]
  by_cases z : K p = 0
  · refine br_t z ⟨du_in41 hn (by omega), ?_⟩
    by_cases y : ra p = 0
    · exact br_t y (h0 (fun w => (hra p (by omega)).mpr w.2.1 y))
    · refine br_f y ?_
      obtain ⟨v, v1, v2⟩ := (hk p hp).2 (Or.inl z)
      refine du_w_wb hn hw hp (fun r hr => du_w_vbit (by omega) v2 ?_)
      have e : bt r v = true ↔ du_V n (du_a K E B) (du_b K E L) (du_st K V (V p)) (du_us K V (V p)) (p + 1) := by
        rw [hr v, v2, ← hwa (p + 1) (by omega) v v1]
        constructor
        · rintro ⟨q, ⟨_, q1, q2⟩, q3⟩
          rw [du_a_set z, du_b_set z] at q2
          rcases q2 with q2 | q2
          · have e := (nI_eq (by omega) (by omega)).mp q2
            rw [e]
            exact q3
          · exact absurd q2 (du_n1 (by omega))
        · exact fun q3 => ⟨p + 1, ⟨hp, by omega, Or.inl (du_a_set z)⟩, q3⟩
      by_cases b : bt r v = true
      · exact br_f (fun w => absurd ((du_and0 (by omega)).mp w) (by rw [b]; decide)) (h0 (fun w => w.2.2 (e.mp b)))
      · exact br_t ((du_and0 (by omega)).mpr (by simpa using b)) (h1 ⟨z, (hra p (by omega)).mp y, fun w => b (e.mpr w)⟩)
  · exact br_f z (h0 (fun w => z w.1))
theorem du_q_db {post : Int32 → Prop} {sz : Int32} (hn : n ≤ 40) (hk : du_ok n K V) (hp : p < n)
    (hra : ∀ q, q ≤ n → (¬ ra q = 0 ↔ du_F n K V (du_a K E B) (du_b K E L) (-1) 0 q))
    (hsa : ∀ q, q ≤ n → ∀ v, v < 6 → (¬ bt (sa q) v = true ↔ du_F n K V (du_a K E B) (du_b K E L) (nI v) 0 q))
    (h1 : du_db n K V (du_a K E B) (du_b K E L) p → post 1) (h0 : ¬ du_db n K V (du_a K E B) (du_b K E L) p → post 0) : wpX_isDoubtfulUse post (sz, io, il, wf, K, V, en, el, be, oO, oL, fw, sw, ra, sa, wa) (nI p) := by
  have hcl : (nI p).toNatClampNeg = p := nI_clamp (by omega)
  refine ⟨vp_in_nI (by omega) (by decide), ?_⟩
  rw [hcl]
  by_cases z : K p = 1
  · obtain ⟨v, v1, v2⟩ := (hk p hp).2 (Or.inr z)
    refine br_t z ⟨du_in41 hn (by omega), ?_⟩
    by_cases y : ra p = 0
    · exact br_t y (h0 (fun w => (hra p (by omega)).mpr (du_F_1 hk w.2) y))
    · refine br_f y ⟨du_in41 hn (by omega), du_w_vbit (by omega) v2 ?_⟩
      have e := hsa p (by omega) v v1
      rw [← v2] at e
      by_cases b : bt (sa p) v = true
      · exact br_f (fun w => absurd ((du_and0 (by omega)).mp w) (by rw [b]; decide)) (h0 (fun w => e.mpr w.2 b))
      · exact br_t ((du_and0 (by omega)).mpr (by simpa using b)) (h1 ⟨z, e.mp b⟩)
  · exact br_f z (h0 (fun w => z w.1))
theorem du_q_dls {post : Int32 → Prop} (hn : n ≤ 40) (hk : du_ok n K V) (hw : du_wy n (du_a K E B) (du_b K E L) fw sw)
    (hra : ∀ q, q ≤ n → (¬ ra q = 0 ↔ du_F n K V (du_a K E B) (du_b K E L) (-1) 0 q))
    (hwa : ∀ q, q ≤ n → ∀ v, v < 6 → (bt (wa q) v = true ↔ du_V n (du_a K E B) (du_b K E L) (du_st K V (nI v)) (du_us K V (nI v)) q))
    (h : post (nI (du_c (du_dl n K V (du_a K E B) (du_b K E L)) n))) :
    ∀ d p : Nat, p + d = n → wX_idles_14 post (nI n) io il wf K V en el be oO oL fw sw ra sa wa (d + 1) (nI (du_c (du_dl n K V (du_a K E B) (du_b K E L)) p)) (nI p) := by
  intro d
  induction d with
  | zero =>
    intro p hp
    have e : p = n := hp
    subst e
    exact br_t (nI_le (Nat.le_refl _) (by omega)) h
  | succ d ih =>
    intro p hp
    refine br_f (nI_ge (by omega) (by omega)) (du_q_dl hn hk (by omega) hw hra hwa (fun z => br_f (by decide) (fun a ea b eb => ?_)) (fun z => br_t rfl (fun b eb => ?_)))
    · rw [ea, eb, nI_1, nI_1, ← du_c_t z]
      exact ih (p + 1) (by omega)
    · rw [eb, nI_1, ← du_c_f z]
      exact ih (p + 1) (by omega)
theorem du_q_dbs {post : Int32 → Prop} (hn : n ≤ 40) (hk : du_ok n K V)
    (hra : ∀ q, q ≤ n → (¬ ra q = 0 ↔ du_F n K V (du_a K E B) (du_b K E L) (-1) 0 q))
    (hsa : ∀ q, q ≤ n → ∀ v, v < 6 → (¬ bt (sa q) v = true ↔ du_F n K V (du_a K E B) (du_b K E L) (nI v) 0 q))
    (h : post (nI (du_c (du_db n K V (du_a K E B) (du_b K E L)) n))) :
    ∀ d p : Nat, p + d = n → wX_doubts_14 post (nI n) io il wf K V en el be oO oL fw sw ra sa wa (d + 1) (nI (du_c (du_db n K V (du_a K E B) (du_b K E L)) p)) (nI p) := by
  intro d
  induction d with
  | zero =>
    intro p hp
    have e : p = n := hp
    subst e
    exact br_t (nI_le (Nat.le_refl _) (by omega)) h
  | succ d ih =>
    intro p hp
    refine br_f (nI_ge (by omega) (by omega)) (du_q_db hn hk (by omega) hra hsa (fun z => br_f (by decide) (fun a ea b eb => ?_)) (fun z => br_t rfl (fun b eb => ?_)))
    · rw [ea, eb, nI_1, nI_1, ← du_c_t z]
      exact ih (p + 1) (by omega)
    · rw [eb, nI_1, ← du_c_f z]
      exact ih (p + 1) (by omega)
/-! the reference's -/
theorem du_s1 (q : Nat) : du_t 1 q = true ↔ q = 0 := by
  rw [du_t_from1, decide_eq_true_iff]
  exact eq_comm
theorem du_y_reach {post : Int32 → SY → Prop} (hn : n ≤ 40) (hr : du_run K n = some ([], E, L, B)) (hp : p < n)
    (h1 : du_F n K V (du_a K E B) (du_b K E L) (-1) 0 p → ∀ en el cl lo op : Nat → Int32, du_YA n K E L B en el cl lo → post 1 ((nI n), K, V, en, el, cl, lo, op))
    (h0 : ¬ du_F n K V (du_a K E B) (du_b K E L) (-1) 0 p → ∀ en el cl lo op : Nat → Int32, post 0 ((nI n), K, V, en, el, cl, lo, op)) : wpY_reached post ((nI n), K, V, en, el, cl, lo, op) (nI p) := by
  unfold wpY_reached
  refine du_y_yes hn hr (fun en el cl lo op hY => br_f (by decide) (du_y_tok hn hp (br_t rfl (du_y_search hn hY (fun q _ => du_s1 q) (fun s hs => du_y_at (by omega) (fun z => ⟨rfl, ?_⟩) (fun z => ⟨rfl, ?_⟩))))))
  · exact h1 ((hs p (by omega)).mp z) en el cl lo op hY
  · exact h0 (fun w => z ((hs p (by omega)).mpr w)) en el cl lo op
theorem du_y_dl {post : Int32 → SY → Prop} (hn : n ≤ 40) (hr : du_run K n = some ([], E, L, B)) (hp : p < n)
    (h1 : du_dl n K V (du_a K E B) (du_b K E L) p → ∀ en el cl lo op : Nat → Int32, post 1 ((nI n), K, V, en, el, cl, lo, op))
    (h0 : ¬ du_dl n K V (du_a K E B) (du_b K E L) p → ∀ en el cl lo op : Nat → Int32, post 0 ((nI n), K, V, en, el, cl, lo, op)) : wpY_idle post ((nI n), K, V, en, el, cl, lo, op) (nI p) := by
  unfold wpY_idle
  have hcl : (nI p).toNatClampNeg = p := nI_clamp (by omega)
  have hin : vp_in (nI p) 40 := vp_in_nI (by omega) (by decide)
  refine du_y_reach hn hr hp (fun hF en el cl lo op hY => br_f (by decide) ⟨hin, ?_⟩) (fun hF en el cl lo op => br_t rfl (h0 (fun w => hF w.2.1) en el cl lo op))
  rw [hcl, nI_1]
  by_cases z : K p = 0
  · refine br_t z (du_y_bit hn (Or.inr ⟨p + 1, by omega, rfl⟩) (fun r hb => ⟨hin, du_y_search hn hY (f := fun q => q = p + 1) (fun q hq => ?_) (fun s hs => ⟨hin, ?_⟩)⟩))
    · rw [hb q hq, nI_eq (by omega) (by omega)]
      exact eq_comm
    · have e := du_y_eq (by omega) hs
      exact du_y_uses hn (fun w => br_f (by decide) (h0 (fun y => y.2.2 (e.mp w)) en el cl lo op)) (fun w => br_t rfl (h1 ⟨z, hF, fun y => w (e.mpr y)⟩ en el cl lo op))
  · exact br_f z (h0 (fun w => z w.1) en el cl lo op)
theorem du_y_dls {post : Int32 → SY → Prop} (hn : n ≤ 40) (hr : du_run K n = some ([], E, L, B))
    (h : ∀ en el cl lo op : Nat → Int32, post (nI (du_c (du_dl n K V (du_a K E B) (du_b K E L)) n)) ((nI n), K, V, en, el, cl, lo, op)) :
    ∀ (d p : Nat) (en el cl lo op : Nat → Int32), p + d = n → wY_idles_14 post (d + 1) (nI (du_c (du_dl n K V (du_a K E B) (du_b K E L)) p)) (nI p) (nI n) K V en el cl lo op := by
  intro d
  induction d with
  | zero =>
    intro p en el cl lo op hp
    have e : p = n := hp
    subst e
    exact br_t (nI_le (Nat.le_refl _) (by omega)) (h en el cl lo op)
  | succ d ih =>
    intro p en el cl lo op hp
    refine br_f (nI_ge (by omega) (by omega)) (du_y_dl hn hr (by omega) (fun z en el cl lo op => br_f (by decide) (fun a ea b eb => ?_)) (fun z en el cl lo op => br_t rfl (fun b eb => ?_)))
    · rw [ea, eb, nI_1, nI_1, ← du_c_t z]
      exact ih (p + 1) en el cl lo op (by omega)
    · rw [eb, nI_1, ← du_c_f z]
      exact ih (p + 1) en el cl lo op (by omega)
theorem du_y_dbs {post : Int32 → SY → Prop} (hn : n ≤ 40) (hY : du_YA n K E L B en el cl lo)
    (h : post (nI (du_c (du_db n K V (du_a K E B) (du_b K E L)) n)) ((nI n), K, V, en, el, cl, lo, op)) :
    ∀ d p : Nat, p + d = n → wY_doubts_14 post (nI n) K V en el cl lo op (d + 1) (nI (du_c (du_db n K V (du_a K E B) (du_b K E L)) p)) (nI p) := by
  intro d
  induction d with
  | zero =>
    intro p hp
    have e : p = n := hp
    subst e
    exact br_t (nI_le (Nat.le_refl _) (by omega)) h
  | succ d ih =>
    intro p hp
    have hcl : (nI p).toNatClampNeg = p := nI_clamp (by omega)
    have hin : vp_in (nI p) 40 := vp_in_nI (by omega) (by decide)
    have n0 : ¬ du_db n K V (du_a K E B) (du_b K E L) p → ∀ b : Int32, b = nI p + 1 → wY_doubts_14 post (nI n) K V en el cl lo op (d + 1) (nI (du_c (du_db n K V (du_a K E B) (du_b K E L)) p)) b := by
      intro z b eb
      rw [eb, nI_1, ← du_c_f z]
      exact ih (p + 1) (by omega)
    refine br_f (nI_ge (by omega) (by omega)) ⟨hin, ?_⟩
    rw [hcl]
    by_cases y : K p = 1
    · refine br_t y ⟨hin, du_y_search hn hY (fun q _ => du_s1 q) (fun s hs => du_y_at (by omega) (fun z => br_f (by decide) (fun a ea b eb => ?_)) (fun z => br_t rfl (n0 (fun w => z ((hs p (by omega)).mpr w.2)))))⟩
      rw [ea, eb, nI_1, nI_1, ← du_c_t (P := du_db n K V (du_a K E B) (du_b K E L)) (m := p) ⟨y, (hs p (by omega)).mp z⟩]
      exact ih (p + 1) (by omega)
    · exact br_f y (n0 (fun w => y w.1))
theorem du_y_sure {post : Int32 → SY → Prop} (hn : n ≤ 40) (hY : du_YA n K E L B en el cl lo) (hp : p < n)
    (h : ∀ m : Int32, (∀ i, bt m i = true ↔ i < 6 ∧ ¬ du_F n K V (du_a K E B) (du_b K E L) (nI i) 0 p) → post m ((nI n), K, V, en, el, cl, lo, op)) :
    ∀ (d v : Nat) (m : Int32), v + d = 6 → (∀ i, bt m i = true ↔ i < v ∧ ¬ du_F n K V (du_a K E B) (du_b K E L) (nI i) 0 p) → wY_surely_25 post (nI p) (nI n) K V en el cl lo op (d + 1) m (nI v) := by
  intro d
  induction d with
  | zero =>
    intro v m hv hm
    have e : v = 6 := hv
    subst e
    exact br_t (by decide) (h m hm)
  | succ d ih =>
    intro v m hv hm
    refine br_f (nI_ge (b := 6) (by omega) (by decide)) (du_y_search hn hY (fun q _ => du_s1 q) (fun s hs => du_y_at (by omega) (fun z => br_f (by decide) (fun b eb => ?_)) (fun z => br_t rfl (fun a ea b eb => ?_))))
    · rw [eb, nI_1]
      refine ih (v + 1) m (by omega) (fun i => (hm i).trans ⟨fun w => ⟨by omega, w.2⟩, fun w => ⟨?_, w.2⟩⟩)
      have : i ≠ v := fun e => w.2 (by rw [e]; exact (hs p (by omega)).mp z)
      omega
    · rw [ea, eb, nI_1]
      refine ih (v + 1) _ (by omega) (fun i => ?_)
      rw [b_or, du_b1 (by omega), Bool.or_eq_true, decide_eq_true_iff, hm i]
      constructor
      · rintro (w | w)
        · exact ⟨by omega, w.2⟩
        · subst w
          exact ⟨by omega, fun y => z ((hs p (by omega)).mpr y)⟩
      · intro w
        by_cases e : v = i
        · exact Or.inr e
        · exact Or.inl ⟨by omega, w.2⟩
theorem du_y_want {post : Int32 → SY → Prop} (hn : n ≤ 40) (hY : du_YA n K E L B en el cl lo) (hp : p < n)
    (h : ∀ m : Int32, (∀ i, bt m i = true ↔ i < 6 ∧ du_V n (du_a K E B) (du_b K E L) (du_st K V (nI i)) (du_us K V (nI i)) p) → post m ((nI n), K, V, en, el, cl, lo, op)) :
    ∀ (d v : Nat) (m : Int32), v + d = 6 → (∀ i, bt m i = true ↔ i < v ∧ du_V n (du_a K E B) (du_b K E L) (du_st K V (nI i)) (du_us K V (nI i)) p) → wY_wanted_25 post (nI p) (nI n) K V en el cl lo op (d + 1) m (nI v) := by
  intro d
  induction d with
  | zero =>
    intro v m hv hm
    have e : v = 6 := hv
    subst e
    exact br_t (by decide) (h m hm)
  | succ d ih =>
    intro v m hv hm
    refine br_f (nI_ge (b := 6) (by omega) (by decide)) (du_y_bit hn (Or.inr ⟨p, by omega, rfl⟩) (fun r hb => du_y_search hn hY (f := fun q => q = p) (fun q hq => ?_) (fun s hs => ?_)))
    · rw [hb q hq, nI_eq (by omega) (by omega)]
      exact eq_comm
    · have e := du_y_eq (by omega) hs
      refine du_y_uses hn (fun z => br_f (by decide) (fun a ea b eb => ?_)) (fun z => br_t rfl (fun b eb => ?_))
      · rw [ea, eb, nI_1]
        refine ih (v + 1) _ (by omega) (fun i => ?_)
        rw [b_or, du_b1 (by omega), Bool.or_eq_true, decide_eq_true_iff, hm i]
        constructor
        · rintro (w | w)
          · exact ⟨by omega, w.2⟩
          · subst w
            exact ⟨by omega, e.mp z⟩
        · intro w
          by_cases e : v = i
          · exact Or.inr e
          · exact Or.inl ⟨by omega, w.2⟩
      · rw [eb, nI_1]
        refine ih (v + 1) m (by omega) (fun i => (hm i).trans ⟨fun w => ⟨by omega, w.2⟩, fun w => ⟨?_, w.2⟩⟩)
        have : i ≠ v := fun e2 => z (e.mpr (by rw [← e2]; exact w.2))
        omega
end
