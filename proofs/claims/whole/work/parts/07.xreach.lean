/-! the component's three searches -/
/-- the token sets, or uses, variable v -/
def du_st (K V : Nat → Int32) (v : Int32) (p : Nat) : Prop := K p = 0 ∧ V p = v
def du_us (K V : Nat → Int32) (v : Int32) (p : Nat) : Prop := K p = 1 ∧ V p = v
/-- place q is come to from place f without leaving a SET of v -/
def du_F (n : Nat) (K V A B : Nat → Int32) (v : Int32) (f q : Nat) : Prop := du_T n A B (du_st K V v) (fun x => x = f) q
/-- the ways: fw, sw are A, B, and lead to places -/
def du_wy (n : Nat) (A B fw sw : Nat → Int32) : Prop := ∀ p, p < n → fw p = A p ∧ sw p = B p ∧ du_in n (A p) ∧ du_in n (B p)
theorem du_nst {n : Nat} {K V : Nat → Int32} (hk : du_ok n K V) {p : Nat} (hp : p < n) : ¬ du_st K V (-1) p := by
  intro ⟨h0, hv⟩
  obtain ⟨v, v1, v2⟩ := (hk p hp).2 (Or.inl h0)
  exact du_nm1 (q := v) (by omega) (v2.symm.trans hv)
section
variable {io il wf : Int32} {n : Nat} {K V en el be oO oL fw sw ra sa wa : Nat → Int32} {A B : Nat → Int32}
theorem du_w_mark {post : SX → Prop} {sz x : Int32} (hn : n ≤ 40) (hx : du_in n x)
    (h : ∀ ra' : Nat → Int32, (∀ q, q ≤ n → (¬ ra' q = 0 ↔ ¬ ra q = 0 ∨ x = nI q)) → post (sz, io, il, wf, K, V, en, el, be, oO, oL, fw, sw, ra', sa, wa)) : wpX_markReached post (sz, io, il, wf, K, V, en, el, be, oO, oL, fw, sw, ra, sa, wa) x := by
  rcases hx with e | ⟨r, hr, e⟩
  · refine br_t e (h ra (fun q hq => ⟨Or.inl, fun z => ?_⟩))
    rcases z with z | z
    · exact z
    · exact absurd (e.symm.trans z) (du_n1 (by omega))
  · subst e
    refine br_f (du_nm1 (by omega)) ⟨du_in41 hn hr, fun a ea => h a (fun q hq => ?_)⟩
    rw [nI_clamp (by omega), du_nb1] at ea
    subst ea
    by_cases y : q = r
    · subst y
      rw [pk_us]
      exact ⟨fun _ => Or.inr rfl, fun _ => by decide⟩
    · rw [pk_un y, nI_eq (by omega) (by omega)]
      exact ⟨Or.inl, fun z => z.resolve_right (fun w => y w.symm)⟩
def du_S1 (n : Nat) (ra : Nat → Int32) (q : Nat) : Prop := q ≤ n ∧ ¬ ra q = 0
theorem du_w_r43 {post : SX → Prop} {J : Int32 → Int32 → Int32 → Int32 → Int32 → (Nat → Int32) → (Nat → Int32) → (Nat → Int32) → (Nat → Int32) → (Nat → Int32) → (Nat → Int32) → (Nat → Int32) → (Nat → Int32) → (Nat → Int32) → (Nat → Int32) → (Nat → Int32) → (Nat → Int32) → Prop} {k : Nat} (hn : n ≤ 40) (hk : du_ok n K V) (hw : du_wy n A B fw sw)
    (h : ∀ ra : Nat → Int32, du_I n A B (du_st K V (-1)) (fun x => x = 0) k n (du_S1 n ra) → J (nI (k + 1)) (nI n) io il wf K V en el be oO oL fw sw ra sa wa) :
    ∀ (d p : Nat) (ra : Nat → Int32), p + d = n → du_I n A B (du_st K V (-1)) (fun x => x = 0) k p (du_S1 n ra) → wX_findReached_43 post J (nI k) (d + 1) (nI p) (nI n) io il wf K V en el be oO oL fw sw ra sa wa := by
  intro d
  induction d with
  | zero =>
    intro p ra hp hI
    have e : p = n := hp
    subst e
    refine br_t (nI_le (Nat.le_refl _) (by omega)) (fun x ex => ?_)
    rw [ex, nI_1]
    exact h ra hI
  | succ d ih =>
    intro p ra hp hI
    have hpn : p < n := by omega
    have hcl : (nI p).toNatClampNeg = p := nI_clamp (by omega)
    have hin : vp_in (nI p) 40 := vp_in_nI (by omega) (by decide)
    obtain ⟨w1, w2, w3, w4⟩ := hw p hpn
    refine br_f (nI_ge (by omega) (by omega)) ⟨du_in41 hn (by omega), ?_⟩
    rw [hcl]
    by_cases z : ra p = 0
    · refine br_t z (fun x ex => ?_)
      rw [ex, nI_1]
      refine ih (p + 1) ra (by omega) (du_Is hI (fun q => ⟨Or.inl, fun y => ?_⟩))
      rcases y with y | ⟨y, _⟩
      · exact y
      · exact absurd z y.2
    · refine br_f z ⟨hin, ?_⟩
      rw [w1]
      refine du_w_mark hn w3 (fun ra1 h1 => ⟨hin, ?_⟩)
      rw [w2]
      refine du_w_mark hn w4 (fun ra2 h2 => ?_)
      intro x ex
      rw [ex, nI_1]
      refine ih (p + 1) ra2 (by omega) (du_Is hI (fun q => ?_))
      constructor
      · intro ⟨y1, y2⟩
        rcases (h2 q y1).mp y2 with y | y
        · rcases (h1 q y1).mp y with y | y
          · exact Or.inl ⟨y1, y⟩
          · exact Or.inr ⟨⟨by omega, z⟩, du_nst hk hpn, hpn, y1, Or.inl y⟩
        · exact Or.inr ⟨⟨by omega, z⟩, du_nst hk hpn, hpn, y1, Or.inr y⟩
      · intro y
        rcases y with ⟨y1, y2⟩ | ⟨_, _, _, y1, y2 | y2⟩
        · exact ⟨y1, (h2 q y1).mpr (Or.inl ((h1 q y1).mpr (Or.inl y2)))⟩
        · exact ⟨y1, (h2 q y1).mpr (Or.inl ((h1 q y1).mpr (Or.inr y2)))⟩
        · exact ⟨y1, (h2 q y1).mpr (Or.inr y2)⟩
theorem du_w_r33 {post : SX → Prop} (hn : n ≤ 40) (hk : du_ok n K V) (hw : du_wy n A B fw sw)
    (h : ∀ ra : Nat → Int32, (∀ q, q ≤ n → (¬ ra q = 0 ↔ du_F n K V A B (-1) 0 q)) → post ((nI n), io, il, wf, K, V, en, el, be, oO, oL, fw, sw, ra, sa, wa)) :
    ∀ (d k : Nat) (ra : Nat → Int32), k + d = n → du_I n A B (du_st K V (-1)) (fun x => x = 0) k 0 (du_S1 n ra) → wX_findReached_33 post (d + 1) (nI k) (nI n) io il wf K V en el be oO oL fw sw ra sa wa := by
  intro d
  induction d with
  | zero =>
    intro k ra hp hI
    have e : k = n := hp
    subst e
    refine br_t (nI_le (Nat.le_refl _) (by omega)) (h ra (fun q hq => ?_))
    have f := du_If hI (du_K1 (Nat.zero_le _) rfl) q
    exact ⟨fun z => f.mp ⟨hq, z⟩, fun z => (f.mpr z).2⟩
  | succ d ih =>
    intro k ra hp hI
    exact br_f (nI_ge (by omega) (by omega)) ⟨n + 1, du_w_r43 hn hk hw (fun ra hI => ih (k + 1) ra (by omega) (du_In hI)) n 0 ra (Nat.zero_add n) hI⟩
theorem du_w_r2 {post : SX → Prop} (hn : n ≤ 40) (hk : du_ok n K V) (hw : du_wy n A B fw sw)
    (h : ∀ ra : Nat → Int32, (∀ q, q ≤ n → (¬ ra q = 0 ↔ du_F n K V A B (-1) 0 q)) → post ((nI n), io, il, wf, K, V, en, el, be, oO, oL, fw, sw, ra, sa, wa)) :
    ∀ (d p : Nat) (ra : Nat → Int32), p + d = n + 1 → (∀ q, q < p → (¬ ra q = 0 ↔ q = 0)) → wX_findReached_2 post (nI n) io il wf (d + 1) (nI p) K V en el be oO oL fw sw ra sa wa := by
  intro d
  induction d with
  | zero =>
    intro p ra hp hI
    refine br_t (nI_lt (by omega) (by omega)) ⟨n + 1, du_w_r33 hn hk hw h n 0 ra (Nat.zero_add n) (du_I0 (fun q => ?_))⟩
    exact ⟨fun z => ⟨z.1, (hI q (by have := z.1; omega)).mp z.2⟩, fun z => ⟨z.1, (hI q (by have := z.1; omega)).mpr z.2⟩⟩
  | succ d ih =>
    intro p ra hp hI
    have hcl : (nI p).toNatClampNeg = p := nI_clamp (by omega)
    refine br_f (nI_nlt (by omega) (by omega)) ?_
    by_cases z : p = 0
    · subst z
      refine br_t nI_0 ⟨du_in41 hn (by omega), fun a ea x ex => ?_⟩
      rw [hcl, du_nb1] at ea
      rw [ex, nI_1]
      subst ea
      refine ih 1 _ (by omega) (fun q hq => ?_)
      have e : q = 0 := by omega
      subst e
      rw [pk_us]
      exact ⟨fun _ => rfl, fun _ => by decide⟩
    · refine br_f (nI_ne0 (by omega) (by omega)) ⟨du_in41 hn (by omega), fun a ea x ex => ?_⟩
      rw [hcl, du_nb0] at ea
      rw [ex, nI_1]
      subst ea
      refine ih (p + 1) _ (by omega) (fun q hq => ?_)
      by_cases e : q = p
      · subst e
        rw [pk_us]
        exact ⟨fun y => absurd rfl y, fun y => absurd y z⟩
      · rw [pk_un e]
        exact hI q (by omega)
theorem du_w_reached {post : SX → Prop} (hn : n ≤ 40) (hk : du_ok n K V) (hw : du_wy n A B fw sw)
    (h : ∀ ra : Nat → Int32, (∀ q, q ≤ n → (¬ ra q = 0 ↔ du_F n K V A B (-1) 0 q)) → post ((nI n), io, il, wf, K, V, en, el, be, oO, oL, fw, sw, ra, sa, wa)) : wpX_findReached post ((nI n), io, il, wf, K, V, en, el, be, oO, oL, fw, sw, ra, sa, wa) :=
  ⟨n + 2, du_w_r2 hn hk hw h (n + 1) 0 ra (Nat.zero_add _) (fun q hq => absurd hq (Nat.not_lt_zero q))⟩
/-! surely -/
theorem du_w_vbit {post : Int32 → Prop} {sz : Int32} {p v : Nat} (hp : p < 40) (hv : V p = nI v) (h : post ((1 : Int32) <<< (nI v &&& 31))) : wpX_variableBit post (sz, io, il, wf, K, V, en, el, be, oO, oL, fw, sw, ra, sa, wa) (nI p) := by
  have hcl : (nI p).toNatClampNeg = p := nI_clamp (by omega)
  refine ⟨vp_in_nI hp (by decide), ?_⟩
  rw [hcl, hv]
  exact h
theorem du_w_sb {post : Int32 → Prop} {sz : Int32} {p : Nat} (hn : n ≤ 40) (hk : du_ok n K V) (hp : p < n)
    (h : ∀ m : Int32, (∀ i, bt m i = true ↔ bt (sa p) i = true ∨ (i < 6 ∧ du_st K V (nI i) p)) → post m) : wpX_surelyBehind post (sz, io, il, wf, K, V, en, el, be, oO, oL, fw, sw, ra, sa, wa) (nI p) := by
  have hcl : (nI p).toNatClampNeg = p := nI_clamp (by omega)
  refine ⟨vp_in_nI (by omega) (by decide), ?_⟩
  rw [hcl]
  by_cases z : K p = 0
  · obtain ⟨v, v1, v2⟩ := (hk p hp).2 (Or.inl z)
    refine br_t z ⟨du_in41 hn (by omega), du_w_vbit (by omega) v2 (h _ (fun i => ?_))⟩
    rw [b_or, du_b1 (by omega), Bool.or_eq_true, decide_eq_true_iff]
    constructor
    · rintro (y | y)
      · exact Or.inl y
      · subst y
        exact Or.inr ⟨v1, z, v2⟩
    · rintro (y | ⟨y, _, y2⟩)
      · exact Or.inl y
      · exact Or.inr ((nI_eq (by omega) (by omega)).mp (v2.symm.trans y2))
  · exact br_f z ⟨du_in41 hn (by omega), h _ (fun i => ⟨Or.inl, fun y => y.resolve_right (fun w => z w.2.1)⟩)⟩
theorem du_w_keep {post : SX → Prop} {sz x m : Int32} (hn : n ≤ 40) (hx : du_in n x)
    (h : ∀ sa' : Nat → Int32, (∀ q, q ≤ n → ∀ i, (bt (sa' q) i = true ↔ bt (sa q) i = true ∧ (x = nI q → bt m i = true))) → post (sz, io, il, wf, K, V, en, el, be, oO, oL, fw, sw, ra, sa', wa)) : wpX_keepSurely post (sz, io, il, wf, K, V, en, el, be, oO, oL, fw, sw, ra, sa, wa) x m := by
  rcases hx with e | ⟨r, hr, e⟩
  · exact br_t e (h sa (fun q hq i => ⟨fun z => ⟨z, fun w => absurd (e.symm.trans w) (du_n1 (by omega))⟩, fun z => z.1⟩))
  · subst e
    refine br_f (du_nm1 (by omega)) ⟨du_in41 hn hr, du_in41 hn hr, fun a ea => h a (fun q hq i => ?_)⟩
    rw [nI_clamp (by omega)] at ea
    subst ea
    by_cases y : q = r
    · subst y
      rw [pk_us, b_and, Bool.and_eq_true]
      exact ⟨fun z => ⟨z.1, fun _ => z.2⟩, fun z => ⟨z.1, z.2 rfl⟩⟩
    · rw [pk_un y]
      exact ⟨fun z => ⟨z, fun w => absurd ((nI_eq (by omega) (by omega)).mp w).symm y⟩, fun z => z.1⟩
def du_S2 (n : Nat) (sa : Nat → Int32) (v q : Nat) : Prop := q ≤ n ∧ ¬ bt (sa q) v = true
def du_hi (n : Nat) (sa : Nat → Int32) : Prop := ∀ q, q ≤ n → ∀ i, 6 ≤ i → ¬ bt (sa q) i = true
def du_IS (n : Nat) (K V A B sa : Nat → Int32) (k p : Nat) : Prop := du_hi n sa ∧ ∀ v, v < 6 → du_I n A B (du_st K V (nI v)) (fun x => x = 0) k p (du_S2 n sa v)
theorem du_w_s44 {post : SX → Prop} {J : Int32 → Int32 → Int32 → Int32 → Int32 → (Nat → Int32) → (Nat → Int32) → (Nat → Int32) → (Nat → Int32) → (Nat → Int32) → (Nat → Int32) → (Nat → Int32) → (Nat → Int32) → (Nat → Int32) → (Nat → Int32) → (Nat → Int32) → (Nat → Int32) → Prop} {k : Nat} (hn : n ≤ 40) (hk : du_ok n K V) (hw : du_wy n A B fw sw)
    (h : ∀ sa : Nat → Int32, du_IS n K V A B sa k n → J (nI (k + 1)) (nI n) io il wf K V en el be oO oL fw sw ra sa wa) :
    ∀ (d p : Nat) (sa : Nat → Int32), p + d = n → du_IS n K V A B sa k p → wX_findSurely_44 post J (nI k) (d + 1) (nI p) (nI n) io il wf K V en el be oO oL fw sw ra sa wa := by
  intro d
  induction d with
  | zero =>
    intro p sa hp hI
    have e : p = n := hp
    subst e
    refine br_t (nI_le (Nat.le_refl _) (by omega)) (fun x ex => ?_)
    rw [ex, nI_1]
    exact h sa hI
  | succ d ih =>
    intro p sa hp hI
    have hpn : p < n := by omega
    have hcl : (nI p).toNatClampNeg = p := nI_clamp (by omega)
    have hin : vp_in (nI p) 40 := vp_in_nI (by omega) (by decide)
    obtain ⟨w1, w2, w3, w4⟩ := hw p hpn
    refine br_f (nI_ge (by omega) (by omega)) (du_w_sb hn hk hpn (fun m hm => ⟨hin, ?_⟩))
    rw [hcl, w1]
    refine du_w_keep hn w3 (fun sa1 h1 => ⟨hin, ?_⟩)
    rw [w2]
    refine du_w_keep hn w4 (fun sa2 h2 => ?_)
    intro x ex
    rw [ex, nI_1]
    refine ih (p + 1) sa2 (by omega) ⟨fun q hq i hi z => ?_, fun v hv => du_Is (hI.2 v hv) (fun q => ?_)⟩
    · exact hI.1 q hq i hi ((h1 q hq i).mp ((h2 q hq i).mp z).1).1
    · have hs : (¬ bt m v = true) ↔ ¬ bt (sa p) v = true ∧ ¬ du_st K V (nI v) p := by
        rw [hm v]
        exact ⟨fun z => ⟨fun y => z (Or.inl y), fun y => z (Or.inr ⟨hv, y⟩)⟩, fun z y => y.elim z.1 (fun w => z.2 w.2)⟩
      constructor
      · intro ⟨y1, y2⟩
        rw [h2 q y1 v, h1 q y1 v] at y2
        by_cases b0 : bt (sa q) v = true
        · right
          have b1 : ¬ bt m v = true := fun bm => y2 ⟨⟨b0, fun _ => bm⟩, fun _ => bm⟩
          have b2 : A p = nI q ∨ B p = nI q := by
            by_cases c1 : A p = nI q
            · exact Or.inl c1
            · by_cases c2 : B p = nI q
              · exact Or.inr c2
              · exact absurd ⟨⟨b0, fun c => absurd c c1⟩, fun c => absurd c c2⟩ y2
          exact ⟨⟨by omega, (hs.mp b1).1⟩, (hs.mp b1).2, hpn, y1, b2⟩
        · exact Or.inl ⟨y1, b0⟩
      · rintro (⟨y1, y2⟩ | ⟨⟨_, y2⟩, y3, _, y1, y4⟩)
        · exact ⟨y1, fun z => y2 ((h1 q y1 v).mp ((h2 q y1 v).mp z).1).1⟩
        · have b1 : ¬ bt m v = true := hs.mpr ⟨y2, y3⟩
          refine ⟨y1, fun z => ?_⟩
          have z2 := (h2 q y1 v).mp z
          rcases y4 with y4 | y4
          · exact b1 (((h1 q y1 v).mp z2.1).2 y4)
          · exact b1 (z2.2 y4)
theorem du_w_s34 {post : SX → Prop} (hn : n ≤ 40) (hk : du_ok n K V) (hw : du_wy n A B fw sw)
    (h : ∀ sa : Nat → Int32, du_hi n sa → (∀ q, q ≤ n → ∀ v, v < 6 → (¬ bt (sa q) v = true ↔ du_F n K V A B (nI v) 0 q)) → post ((nI n), io, il, wf, K, V, en, el, be, oO, oL, fw, sw, ra, sa, wa)) :
    ∀ (d k : Nat) (sa : Nat → Int32), k + d = n → du_IS n K V A B sa k 0 → wX_findSurely_34 post (d + 1) (nI k) (nI n) io il wf K V en el be oO oL fw sw ra sa wa := by
  intro d
  induction d with
  | zero =>
    intro k sa hp hI
    have e : k = n := hp
    subst e
    refine br_t (nI_le (Nat.le_refl _) (by omega)) (h sa hI.1 (fun q hq v hv => ?_))
    have f := du_If (hI.2 v hv) (du_K1 (Nat.zero_le _) rfl) q
    exact ⟨fun z => f.mp ⟨hq, z⟩, fun z => (f.mpr z).2⟩
  | succ d ih =>
    intro k sa hp hI
    exact br_f (nI_ge (by omega) (by omega)) ⟨n + 1, du_w_s44 hn hk hw (fun sa hI => ih (k + 1) sa (by omega) ⟨hI.1, fun v hv => du_In (hI.2 v hv)⟩) n 0 sa (Nat.zero_add n) hI⟩
theorem du_w_s2 {post : SX → Prop} (hn : n ≤ 40) (hk : du_ok n K V) (hw : du_wy n A B fw sw)
    (h : ∀ sa : Nat → Int32, du_hi n sa → (∀ q, q ≤ n → ∀ v, v < 6 → (¬ bt (sa q) v = true ↔ du_F n K V A B (nI v) 0 q)) → post ((nI n), io, il, wf, K, V, en, el, be, oO, oL, fw, sw, ra, sa, wa)) :
    ∀ (d p : Nat) (sa : Nat → Int32), p + d = n + 1 → (∀ q, q < p → sa q = if q = 0 then 0 else 63) → wX_findSurely_2 post (nI n) io il wf (d + 1) (nI p) K V en el be oO oL fw sw ra sa wa := by
  intro d
  induction d with
  | zero =>
    intro p sa hp hI
    refine br_t (nI_lt (by omega) (by omega)) ⟨n + 1, du_w_s34 hn hk hw h n 0 sa (Nat.zero_add n) ⟨fun q hq i hi => ?_, fun v hv => du_I0 (fun q => ?_)⟩⟩
    · rw [hI q (by omega)]
      by_cases z : q = 0
      · rw [if_pos z, b_0]; decide
      · rw [if_neg z, du_63, decide_eq_true_iff]; omega
    · constructor
      · intro ⟨y1, y2⟩
        refine ⟨y1, ?_⟩
        rw [hI q (by omega)] at y2
        by_cases z : q = 0
        · exact z
        · rw [if_neg z, du_63, decide_eq_true_iff] at y2
          exact absurd hv y2
      · intro ⟨y1, y2⟩
        refine ⟨y1, ?_⟩
        rw [hI q (by omega), if_pos y2, b_0]
        decide
  | succ d ih =>
    intro p sa hp hI
    have hcl : (nI p).toNatClampNeg = p := nI_clamp (by omega)
    refine br_f (nI_nlt (by omega) (by omega)) ?_
    by_cases z : p = 0
    · subst z
      refine br_t nI_0 ⟨du_in41 hn (by omega), fun a ea x ex => ?_⟩
      rw [hcl] at ea
      rw [ex, nI_1]
      subst ea
      refine ih 1 _ (by omega) (fun q hq => ?_)
      have e : q = 0 := by omega
      subst e
      rw [pk_us, if_pos rfl]
    · refine br_f (nI_ne0 (by omega) (by omega)) ⟨du_in41 hn (by omega), fun a ea x ex => ?_⟩
      rw [hcl] at ea
      rw [ex, nI_1]
      subst ea
      refine ih (p + 1) _ (by omega) (fun q hq => ?_)
      by_cases e : q = p
      · subst e
        rw [pk_us, if_neg z]
      · rw [pk_un e]
        exact hI q (by omega)
theorem du_w_surely {post : SX → Prop} (hn : n ≤ 40) (hk : du_ok n K V) (hw : du_wy n A B fw sw)
    (h : ∀ sa : Nat → Int32, du_hi n sa → (∀ q, q ≤ n → ∀ v, v < 6 → (¬ bt (sa q) v = true ↔ du_F n K V A B (nI v) 0 q)) → post ((nI n), io, il, wf, K, V, en, el, be, oO, oL, fw, sw, ra, sa, wa)) : wpX_findSurely post ((nI n), io, il, wf, K, V, en, el, be, oO, oL, fw, sw, ra, sa, wa) :=
  ⟨n + 2, du_w_s2 hn hk hw h (n + 1) 0 sa (Nat.zero_add _) (fun q hq => absurd hq (Nat.not_lt_zero q))⟩
/-! wanted -/
theorem du_w_of {post : Int32 → Prop} {sz x : Int32} (hn : n ≤ 40) (hx : du_in n x) (h : ∀ r : Int32, (∀ i, bt r i = true ↔ ∃ q, q ≤ n ∧ x = nI q ∧ bt (wa q) i = true) → post r) : wpX_wantedOf post (sz, io, il, wf, K, V, en, el, be, oO, oL, fw, sw, ra, sa, wa) x := by
  rcases hx with e | ⟨r, hr, e⟩
  · refine br_t e (h 0 (fun i => ?_))
    rw [b_0]
    exact ⟨fun z => absurd z (by decide), fun ⟨q, q1, q2, _⟩ => absurd (e.symm.trans q2) (du_n1 (by omega))⟩
  · subst e
    refine br_f (du_nm1 (by omega)) ⟨du_in41 hn hr, h _ (fun i => ?_)⟩
    rw [nI_clamp (by omega)]
    constructor
    · exact fun z => ⟨r, hr, rfl, z⟩
    · rintro ⟨q, q1, q2, q3⟩
      have e := (nI_eq (by omega) (by omega)).mp q2
      subst e
      exact q3
theorem du_w_wb {post : Int32 → Prop} {sz : Int32} {p : Nat} (hn : n ≤ 40) (hw : du_wy n A B fw sw) (hp : p < n)
    (h : ∀ r : Int32, (∀ i, bt r i = true ↔ ∃ q, du_E n A B p q ∧ bt (wa q) i = true) → post r) : wpX_wantedBehind post (sz, io, il, wf, K, V, en, el, be, oO, oL, fw, sw, ra, sa, wa) (nI p) := by
  have hcl : (nI p).toNatClampNeg = p := nI_clamp (by omega)
  have hin : vp_in (nI p) 40 := vp_in_nI (by omega) (by decide)
  obtain ⟨w1, w2, w3, w4⟩ := hw p hp
  refine ⟨hin, ?_⟩
  rw [hcl, w1]
  refine du_w_of hn w3 (fun r1 h1 => ⟨hin, ?_⟩)
  rw [w2]
  refine du_w_of hn w4 (fun r2 h2 => h _ (fun i => ?_))
  rw [b_or, Bool.or_eq_true, h1 i, h2 i]
  constructor
  · rintro (⟨q, q1, q2, q3⟩ | ⟨q, q1, q2, q3⟩)
    · exact ⟨q, ⟨hp, q1, Or.inl q2⟩, q3⟩
    · exact ⟨q, ⟨hp, q1, Or.inr q2⟩, q3⟩
  · rintro ⟨q, ⟨_, q1, q2 | q2⟩, q3⟩
    · exact Or.inl ⟨q, q1, q2, q3⟩
    · exact Or.inr ⟨q, q1, q2, q3⟩
theorem du_w_bef {post : Int32 → Prop} {sz b : Int32} {p : Nat} (hn : n ≤ 40) (hk : du_ok n K V) (hp : p < n)
    (h : ∀ r : Int32, (∀ i, i < 32 → (bt r i = true ↔ (i < 6 ∧ du_us K V (nI i) p) ∨ (¬ (i < 6 ∧ du_st K V (nI i) p) ∧ bt b i = true))) → post r) : wpX_wantedBefore post (sz, io, il, wf, K, V, en, el, be, oO, oL, fw, sw, ra, sa, wa) (nI p) b := by
  have hcl : (nI p).toNatClampNeg = p := nI_clamp (by omega)
  have hin : vp_in (nI p) 40 := vp_in_nI (by omega) (by decide)
  refine ⟨hin, fun k ek => ?_⟩
  rw [hcl] at ek
  subst ek
  by_cases z0 : K p = 0
  · obtain ⟨v, v1, v2⟩ := (hk p hp).2 (Or.inl z0)
    refine br_t z0 (du_w_vbit (by omega) v2 (h _ (fun i hi => ?_)))
    rw [b_and, b_xor, du_b1 (by omega), b_m1 i hi, Bool.and_eq_true]
    constructor
    · rintro ⟨y1, y2⟩
      refine Or.inr ⟨fun w => ?_, y1⟩
      have e := (nI_eq (by omega) (by omega)).mp (v2.symm.trans w.2.2)
      subst e
      simp at y2
    · rintro (⟨_, y, _⟩ | ⟨y1, y2⟩)
      · rw [z0] at y
        exact absurd y (by decide)
      · refine ⟨y2, ?_⟩
        have e : ¬ v = i := fun e => y1 ⟨by omega, z0, by rw [v2, e]⟩
        simp [e]
  · refine br_f z0 ?_
    by_cases z1 : K p = 1
    · obtain ⟨v, v1, v2⟩ := (hk p hp).2 (Or.inr z1)
      refine br_t z1 (du_w_vbit (by omega) v2 (h _ (fun i hi => ?_)))
      rw [b_or, du_b1 (by omega), Bool.or_eq_true, decide_eq_true_iff]
      constructor
      · rintro (y | y)
        · exact Or.inr ⟨fun w => z0 w.2.1, y⟩
        · subst y
          exact Or.inl ⟨v1, z1, v2⟩
      · rintro (⟨_, _, y⟩ | ⟨_, y⟩)
        · exact Or.inr ((nI_eq (by omega) (by omega)).mp (v2.symm.trans y))
        · exact Or.inl y
    · refine br_f z1 (h _ (fun i hi => ⟨fun y => Or.inr ⟨fun w => z0 w.2.1, y⟩, ?_⟩))
      rintro (⟨_, y, _⟩ | ⟨_, y⟩)
      · exact absurd y z1
      · exact y
def du_S3 (n : Nat) (wa : Nat → Int32) (v q : Nat) : Prop := q ≤ n ∧ bt (wa q) v = true
def du_IW (n : Nat) (K V A B wa : Nat → Int32) (k i : Nat) : Prop := du_hi n wa ∧ ∀ v, v < 6 → du_J1 n A B (du_st K V (nI v)) (du_us K V (nI v)) k i (du_S3 n wa v)
theorem du_w_w40 {post : SX → Prop} {J : Int32 → (Nat → Int32) → (Nat → Int32) → (Nat → Int32) → (Nat → Int32) → (Nat → Int32) → (Nat → Int32) → (Nat → Int32) → (Nat → Int32) → (Nat → Int32) → (Nat → Int32) → (Nat → Int32) → (Nat → Int32) → Prop} {k : Nat} (hn : n ≤ 40) (hk : du_ok n K V) (hw : du_wy n A B fw sw)
    (h : ∀ wa : Nat → Int32, du_IW n K V A B wa k 0 → J (nI (k + 1)) K V en el be oO oL fw sw ra sa wa) :
    ∀ (i : Nat) (wa : Nat → Int32), i ≤ n → du_IW n K V A B wa k i → wX_findWanted_40 post J (nI k) (nI n) io il wf (i + 1) (nI i - 1) K V en el be oO oL fw sw ra sa wa := by
  intro i
  induction i with
  | zero =>
    intro wa hi hI
    refine br_t (by decide) (fun x ex => ?_)
    rw [ex, nI_1]
    exact h wa hI
  | succ i ih =>
    intro wa hi hI
    have hcl : (nI i).toNatClampNeg = i := nI_clamp (by omega)
    rw [nI_pred]
    refine br_f (nI_pos (by omega)) (du_w_wb hn hw (by omega) (fun b hb => du_w_bef hn hk (by omega) (fun r hr => ⟨du_in41 hn (by omega), fun a ea x ex => ?_⟩)))
    rw [hcl] at ea
    rw [ex, ← Int32.sub_eq_add_neg]
    subst ea
    have hbit : ∀ v, v < 32 → (bt r v = true ↔ (v < 6 ∧ du_us K V (nI v) i) ∨ (¬ (v < 6 ∧ du_st K V (nI v) i) ∧ ∃ q, du_E n A B i q ∧ bt (wa q) v = true)) := by
      intro v hv
      rw [hr v hv, hb v]
    refine ih _ (by omega) ⟨fun q hq v hv z => ?_, fun v hv => du_Js (hI.2 v hv) (by omega) (fun q hq => ?_) ?_⟩
    · by_cases e : q = i
      · subst e
        rw [pk_us] at z
        rcases Nat.lt_or_ge v 32 with h32 | h32
        · rcases (hbit v h32).mp z with y | ⟨_, r1, r2, r3⟩
          · have := y.1
            omega
          · exact hI.1 r1 r2.2.1 v hv r3
        · rw [b_big h32] at z
          exact absurd z (by decide)
      · rw [pk_un e] at z
        exact hI.1 q hq v hv z
    · unfold du_S3
      rw [pk_un hq]
    · unfold du_S3
      rw [pk_us, hbit v (by omega)]
      constructor
      · rintro ⟨_, y | ⟨y1, r1, r2, r3⟩⟩
        · exact Or.inl y.2
        · exact Or.inr ⟨fun w => y1 ⟨hv, w⟩, r1, r2, r2.2.1, r3⟩
      · rintro (y | ⟨y1, r1, r2, _, r3⟩)
        · exact ⟨by omega, Or.inl ⟨hv, y⟩⟩
        · exact ⟨by omega, Or.inr ⟨fun w => y1 w.2, r1, r2, r3⟩⟩
theorem du_w_w25 {post : SX → Prop} (hn : n ≤ 40) (hk : du_ok n K V) (hw : du_wy n A B fw sw)
    (h : ∀ wa : Nat → Int32, du_hi n wa → (∀ q, q ≤ n → ∀ v, v < 6 → (bt (wa q) v = true ↔ du_V n A B (du_st K V (nI v)) (du_us K V (nI v)) q)) → post ((nI n), io, il, wf, K, V, en, el, be, oO, oL, fw, sw, ra, sa, wa)) :
    ∀ (d k : Nat) (wa : Nat → Int32), k + d = n → du_IW n K V A B wa k n → wX_findWanted_25 post (nI n) io il wf (d + 1) (nI k) K V en el be oO oL fw sw ra sa wa := by
  intro d
  induction d with
  | zero =>
    intro k wa hp hI
    have e : k = n := hp
    subst e
    refine br_t (nI_le (Nat.le_refl _) (by omega)) (h wa hI.1 (fun q hq v hv => ?_))
    have f := du_Jf (hI.2 v hv) q
    exact ⟨fun z => f.mp ⟨hq, z⟩, fun z => (f.mpr z).2⟩
  | succ d ih =>
    intro k wa hp hI
    refine br_f (nI_ge (by omega) (by omega)) (fun x ex => ⟨n + 1, ?_⟩)
    rw [ex]
    exact du_w_w40 hn hk hw (fun wa hI => ih (k + 1) wa (by omega) ⟨hI.1, fun v hv => du_Jn (hI.2 v hv)⟩) n wa (Nat.le_refl n) hI
theorem du_w_w2 {post : SX → Prop} (hn : n ≤ 40) (hk : du_ok n K V) (hw : du_wy n A B fw sw)
    (h : ∀ wa : Nat → Int32, du_hi n wa → (∀ q, q ≤ n → ∀ v, v < 6 → (bt (wa q) v = true ↔ du_V n A B (du_st K V (nI v)) (du_us K V (nI v)) q)) → post ((nI n), io, il, wf, K, V, en, el, be, oO, oL, fw, sw, ra, sa, wa)) :
    ∀ (d p : Nat) (wa : Nat → Int32), p + d = n + 1 → (∀ q, q < p → wa q = 0) → wX_findWanted_2 post (nI n) io il wf (d + 1) (nI p) K V en el be oO oL fw sw ra sa wa := by
  intro d
  induction d with
  | zero =>
    intro p wa hp hI
    have z : ∀ q, q ≤ n → ∀ v, ¬ bt (wa q) v = true := by
      intro q hq v
      rw [hI q (by omega), b_0]
      decide
    exact br_t (nI_lt (by omega) (by omega)) ⟨n + 1, du_w_w25 hn hk hw h n 0 wa (Nat.zero_add n) ⟨fun q hq i _ => z q hq i, fun v hv => du_J0 (fun q y => z q y.1 v y.2)⟩⟩
  | succ d ih =>
    intro p wa hp hI
    have hcl : (nI p).toNatClampNeg = p := nI_clamp (by omega)
    refine br_f (nI_nlt (by omega) (by omega)) ⟨du_in41 hn (by omega), fun a ea x ex => ?_⟩
    rw [hcl] at ea
    rw [ex, nI_1]
    subst ea
    refine ih (p + 1) _ (by omega) (fun q hq => ?_)
    by_cases e : q = p
    · subst e
      exact pk_us
    · rw [pk_un e]
      exact hI q (by omega)
theorem du_w_wanted {post : SX → Prop} (hn : n ≤ 40) (hk : du_ok n K V) (hw : du_wy n A B fw sw)
    (h : ∀ wa : Nat → Int32, du_hi n wa → (∀ q, q ≤ n → ∀ v, v < 6 → (bt (wa q) v = true ↔ du_V n A B (du_st K V (nI v)) (du_us K V (nI v)) q)) → post ((nI n), io, il, wf, K, V, en, el, be, oO, oL, fw, sw, ra, sa, wa)) : wpX_findWanted post ((nI n), io, il, wf, K, V, en, el, be, oO, oL, fw, sw, ra, sa, wa) :=
  ⟨n + 2, du_w_w2 hn hk hw h (n + 1) 0 wa (Nat.zero_add _) (fun q hq => absurd hq (Nat.not_lt_zero q))⟩
end
