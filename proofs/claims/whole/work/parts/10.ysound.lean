/-! the reference's sound() -/
section
variable {sz : Int32} {K V en el cl lo op : Nat → Int32} {p : Nat} {s : List Nat} {E L B : Nat → Int32}
theorem du_y_s35 {post : Int32 → SY → Prop} {J : Int32 → Int32 → Int32 → (Nat → Int32) → (Nat → Int32) → (Nat → Int32) → (Nat → Int32) → (Nat → Int32) → (Nat → Int32) → (Nat → Int32) → Prop} {k : Int32} (hY : du_Y K p s E L B en el cl lo op) (hp : p < 40) (ek : k = K p)
    (ok : ∀ (s : List Nat) (E L B en el cl lo op : Nat → Int32), du_Y K (p + 1) s E L B en el cl lo op → J (nI s.length) (nI (p + 1)) sz K V en el cl lo op)
    (no : du_run K (p + 1) = none → ∀ el cl lo : Nat → Int32, post 0 (sz, K, V, en, el, cl, lo, op)) : wY_sound_35 post J (nI s.length) (nI p) k (du_tp s) sz K V en el cl lo op := by
  have hcl : (nI p).toNatClampNeg = p := nI_clamp (by omega)
  have hin : vp_in (nI p) 40 := vp_in_nI hp (by decide)
  have hr : du_run K p = some (s, E, L, B) := hY.1
  obtain ⟨j1, j2, _, j4, _, _, _⟩ := du_J_run p _ (by omega) hr
  have j1 : ∀ b, b ∈ s → b < p ∧ du_bg (K b) := j1
  have j2 : s.length ≤ p := j2
  refine du_y_in (fun b hb => by have := (j1 b hb).1; omega) (by omega) hY.2.1 ⟨hin, fun lo1 e1 => ⟨hin, fun el1 e2 => ⟨hin, fun cl1 e3 => ?_⟩⟩⟩
  rw [hcl] at e1 e2 e3
  subst e1 e2 e3
  have opn : du_bg (K p) → wY_sound_77 post J (nI s.length) (nI p) sz K V en (upd el p (-1)) (upd cl p (-1)) (upd lo p (du_lp K s)) op := by
    intro h
    have hc2 : (nI s.length).toNatClampNeg = s.length := nI_clamp (by omega)
    refine ⟨vp_in_nI (by omega) (by decide), fun a ea x ex y ey => ?_⟩
    rw [hc2] at ea
    rw [ex, ey, nI_1, nI_1]
    subst ea
    exact ok (p :: s) _ _ _ _ _ _ _ _ (du_Y_open hY hp h _)
  have jump : (K p = 7 ∨ K p = 8) → wY_sound_172 post J (nI s.length) (nI p) sz K V en (upd el p (-1)) (upd cl p (-1)) (upd lo p (du_lp K s)) op := by
    intro h
    refine ⟨hin, ?_⟩
    rw [hcl, pk_us]
    rcases du_lp_in (K := K) s with z | ⟨c, c1, c2, c3⟩
    · refine br_f (by rw [z]; decide) (no ?_ _ _ _)
      rw [du_run_s hr, du_s_jump h]
      exact if_pos z
    · have cp := (j1 c c1).1
      refine br_t (by rw [c3]; exact nI_pos' (by omega)) (fun x ex => ?_)
      rw [ex, nI_1]
      exact ok s _ _ _ _ _ _ _ _ (du_Y_jump hY h (by rw [c3]; exact du_nm1 (by omega)))
  by_cases h2 : k = 2
  · exact br_t h2 (opn (Or.inl (ek.symm.trans h2)))
  refine br_f h2 ?_
  by_cases h4 : k = 4
  · exact br_t h4 (opn (Or.inr (Or.inl (ek.symm.trans h4))))
  refine br_f h4 ?_
  by_cases h5 : k = 5
  · exact br_t h5 (opn (Or.inr (Or.inr (ek.symm.trans h5))))
  refine br_f h5 ?_
  by_cases h3 : k = 3
  · have hk : K p = 3 := ek.symm.trans h3
    refine br_t h3 ?_
    cases s with
    | nil => exact br_t (by decide) (no (by rw [du_run_s hr, du_s_else hk]; rfl) _ _ _)
    | cons b t =>
      have hb : b < p := (j1 b (List.mem_cons_self ..)).1
      have hbg : du_bg (K b) := (j1 b (List.mem_cons_self ..)).2
      have hcb : (nI b).toNatClampNeg = b := nI_clamp (by omega)
      have hib : vp_in (nI b) 40 := vp_in_nI (by omega) (by decide)
      have hel : upd el p (-1) b = L b := (pk_un (by omega)).trans (hY.2.2.2.2.1 b hb hbg)
      refine br_f (nI_pos (n := b) (by omega)) ⟨hib, ?_⟩
      show (K (nI b).toNatClampNeg = 2 → _) ∧ (¬ K (nI b).toNatClampNeg = 2 → _)
      rw [hcb]
      by_cases z2 : K b = 2
      · refine br_t z2 ⟨hib, ?_⟩
        show (upd el p (-1) (nI b).toNatClampNeg < 0 → _) ∧ (¬ upd el p (-1) (nI b).toNatClampNeg < 0 → _)
        rw [hcb, hel]
        by_cases zl : L b = -1
        · refine br_t (by rw [zl]; decide) ⟨hib, fun a ea x ex => ?_⟩
          have ea : a = upd (upd el p (-1)) (nI b).toNatClampNeg (nI p) := ea
          rw [hcb] at ea
          rw [ex, nI_1]
          subst ea
          exact ok (b :: t) _ _ _ _ _ _ _ _ (du_Y_else hY hk hb z2 zl hp _)
        · rcases j4 b hb hbg with z | ⟨e, z1, z3, z4, _⟩
          · exact absurd z zl
          · have z4 : L b = nI e := z4
            refine br_f (by rw [z4]; exact nI_pos (by omega)) (no ?_ _ _ _)
            rw [du_run_s hr, du_s_else hk]
            exact if_neg (fun w => zl w.2)
      · refine br_f z2 (no ?_ _ _ _)
        rw [du_run_s hr, du_s_else hk]
        exact if_neg (fun w => z2 w.1)
  refine br_f h3 ?_
  by_cases h6 : k = 6
  · have hk : K p = 6 := ek.symm.trans h6
    refine br_t h6 ?_
    cases s with
    | nil => exact br_f (by decide) (no (by rw [du_run_s hr, du_s_end hk]; rfl) _ _ _)
    | cons b t =>
      have hb : b < p := (j1 b (List.mem_cons_self ..)).1
      have hbg : du_bg (K b) := (j1 b (List.mem_cons_self ..)).2
      have hel : upd el p (-1) b = L b := (pk_un (by omega)).trans (hY.2.2.2.2.1 b hb hbg)
      refine br_t (nI_pos' (n := b) (by omega)) (du_y_close (by omega) hp ?_ (fun en' cl' g1 g2 g3 g4 g5 => ?_))
      · rw [hel]
        rcases j4 b hb hbg with z | ⟨e, z1, z3, z4, _⟩
        · exact Or.inl z
        · exact Or.inr ⟨e, by omega, by omega, z4⟩
      · intro x ex y ey
        have hx : x = nI t.length := by
          rw [ex]
          exact pk_m1 t.length
        rw [hx, ey, nI_1]
        rw [hel] at g2 g3
        rw [pk_us] at g4
        exact ok t _ _ _ _ _ _ _ _ (du_Y_end hY hk hp _ g1 g2 g3 g4 (fun q hq => (g5 q hq).trans (pk_un hq)))
  refine br_f h6 ?_
  by_cases h7 : k = 7
  · exact br_t h7 (jump (Or.inl (ek.symm.trans h7)))
  refine br_f h7 ?_
  by_cases h8 : k = 8
  · exact br_t h8 (jump (Or.inr (ek.symm.trans h8)))
  refine br_f h8 (fun x ex => ?_)
  rw [ex, nI_1]
  subst ek
  refine ok s _ _ _ _ _ _ _ _ (du_Y_other hY ?_ h3 h6 ?_ _)
  · rintro (z | z | z)
    · exact h2 z
    · exact h4 z
    · exact h5 z
  · rintro (z | z)
    · exact h7 z
    · exact h8 z
end
/-- what the reference's arrays hold where sound() says true -/
def du_YA (n : Nat) (K E L B en el cl lo : Nat → Int32) : Prop :=
  du_run K n = some ([], E, L, B) ∧ (∀ q, q < n → du_bg (K q) → en q = E q) ∧ (∀ q, q < n → K q = 3 → en q = E (B q).toNatClampNeg) ∧ (∀ q, q < n → du_bg (K q) → el q = L q) ∧
  (∀ q, q < n → K q = 6 → cl q = if K (B q).toNatClampNeg = 2 then -1 else B q) ∧ (∀ q, q < n → (K q = 7 ∨ K q = 8) → lo q = B q)
theorem du_y_s4 {post : Int32 → SY → Prop} {n : Nat} {K V : Nat → Int32} (hn : n ≤ 40)
    (yes : ∀ E L B en el cl lo op : Nat → Int32, du_YA n K E L B en el cl lo → post 1 ((nI n), K, V, en, el, cl, lo, op))
    (no : ¬ du_W K n → ∀ en el cl lo op : Nat → Int32, post 0 ((nI n), K, V, en, el, cl, lo, op)) :
    ∀ (d p : Nat) (s : List Nat) (E L B en el cl lo op : Nat → Int32), p + d = n → du_Y K p s E L B en el cl lo op → wY_sound_4 post (d + 1) (nI s.length) (nI p) (nI n) K V en el cl lo op := by
  intro d
  induction d with
  | zero =>
    intro p s E L B en el cl lo op hp hY
    have e : p = n := hp
    subst e
    refine br_t (nI_le (Nat.le_refl _) (by omega)) ?_
    obtain ⟨hr, h0, h1, h2, h3, h4, h5⟩ := hY
    have J := du_J_run p _ (by omega) hr
    have hlen : s.length ≤ p := J.2.1
    cases s with
    | nil =>
      refine br_t nI_0 (yes E L B en el cl lo op ⟨hr, fun q hq hk => h1 q hq hk (fun z => by cases z), fun q hq hk => ?_, h3, h4, h5⟩)
      obtain ⟨b, b1, b2, _⟩ := J.2.2.2.2.1 q hq hk
      have b2 : B q = nI b := b2
      rw [b2, nI_clamp (by omega)]
      exact h2 q hq hk b b2 b1 (fun z => by cases z)
    | cons b t =>
      have hlen : t.length + 1 ≤ p := hlen
      refine br_f (nI_ne0 (n := t.length + 1) (by omega) (by omega)) (no ?_ en el cl lo op)
      intro ⟨E', L', B', w⟩
      rw [hr] at w
      cases w
  | succ d ih =>
    intro p s E L B en el cl lo op hp hY
    have hcl : (nI p).toNatClampNeg = p := nI_clamp (by omega)
    have hlen : s.length ≤ p := (du_J_run p _ (by omega) hY.1).2.1
    refine br_f (nI_ge (by omega) (by omega)) ⟨vp_in_nI (by omega) (by decide), fun k ek => ?_⟩
    rw [hcl] at ek
    have main : wY_sound_35 post (wY_sound_4 post (d + 1)) (nI s.length) (nI p) k (du_tp s) (nI n) K V en el cl lo op :=
      du_y_s35 hY (by omega) ek (fun s E L B en el cl lo op h => ih (p + 1) s E L B en el cl lo op (by omega) h) (fun h el cl lo => no (du_nW h (by omega)) en el cl lo op)
    cases s with
    | nil => exact br_t (by decide) main
    | cons b t =>
      have hlen : t.length + 1 ≤ p := hlen
      have e : nI (b :: t).length - 1 = nI t.length := nI_pred t.length
      have hc2 : (nI t.length).toNatClampNeg = t.length := nI_clamp (by omega)
      refine br_f (nI_nle (n := t.length + 1) (by omega) (by omega)) ?_
      rw [e, hc2, hY.2.1.1]
      exact ⟨vp_in_nI (by omega) (by decide), main⟩
theorem du_y_sound {post : Int32 → SY → Prop} {n : Nat} {K V en el cl lo op : Nat → Int32} (hn : n ≤ 40)
    (yes : ∀ E L B en el cl lo op : Nat → Int32, du_YA n K E L B en el cl lo → post 1 ((nI n), K, V, en, el, cl, lo, op))
    (no : ¬ du_W K n → ∀ en el cl lo op : Nat → Int32, post 0 ((nI n), K, V, en, el, cl, lo, op)) : wpY_sound post ((nI n), K, V, en, el, cl, lo, op) :=
  ⟨n + 1, du_y_s4 hn yes no n 0 [] _ _ _ en el cl lo op (Nat.zero_add n) ⟨rfl, trivial, fun q hq => absurd hq (Nat.not_lt_zero q), fun q hq => absurd hq (Nat.not_lt_zero q), fun q hq => absurd hq (Nat.not_lt_zero q), fun q hq => absurd hq (Nat.not_lt_zero q), fun q hq => absurd hq (Nat.not_lt_zero q)⟩⟩
