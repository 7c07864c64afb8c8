/-! counting, saturation, reachability by rounds -/
noncomputable def du_c (P : Nat → Prop) : Nat → Nat
  | 0 => 0
  | m + 1 => du_c P m + @ite Nat (P m) (Classical.propDecidable (P m)) 1 0
theorem du_c_t {P : Nat → Prop} {m : Nat} (h : P m) : du_c P (m + 1) = du_c P m + 1 := by
  show du_c P m + @ite Nat (P m) (Classical.propDecidable (P m)) 1 0 = _
  rw [if_pos h]
theorem du_c_f {P : Nat → Prop} {m : Nat} (h : ¬ P m) : du_c P (m + 1) = du_c P m := by
  show du_c P m + @ite Nat (P m) (Classical.propDecidable (P m)) 1 0 = _
  rw [if_neg h, Nat.add_zero]
theorem du_c_le (P : Nat → Prop) : ∀ m, du_c P m ≤ m := by
  intro m
  induction m with
  | zero => exact Nat.le_refl 0
  | succ m ih =>
    by_cases h : P m
    · rw [du_c_t h]; omega
    · rw [du_c_f h]; omega
theorem du_c_mono {P Q : Nat → Prop} : ∀ m, (∀ q, q < m → P q → Q q) → du_c P m ≤ du_c Q m := by
  intro m
  induction m with
  | zero => intro _; exact Nat.le_refl 0
  | succ m ih =>
    intro h
    have h1 := ih (fun q hq => h q (by omega))
    by_cases hp : P m
    · rw [du_c_t hp, du_c_t (h m (by omega) hp)]; omega
    · rw [du_c_f hp]
      by_cases hq : Q m
      · rw [du_c_t hq]; omega
      · rw [du_c_f hq]; omega
theorem du_c_lt {P Q : Nat → Prop} : ∀ m, (∀ q, q < m → P q → Q q) → (∃ q, q < m ∧ Q q ∧ ¬ P q) → du_c P m < du_c Q m := by
  intro m
  induction m with
  | zero => intro _ ⟨q, hq, _⟩; omega
  | succ m ih =>
    intro h ⟨q, hq, hQ, hP⟩
    have h1 : du_c P m ≤ du_c Q m := du_c_mono m (fun q hq => h q (by omega))
    by_cases e : q = m
    · subst e
      rw [du_c_f hP, du_c_t hQ]; omega
    · have h2 := ih (fun q hq => h q (by omega)) ⟨q, by omega, hQ, hP⟩
      by_cases hp : P m
      · rw [du_c_t hp, du_c_t (h m (by omega) hp)]; omega
      · rw [du_c_f hp]
        by_cases hq : Q m
        · rw [du_c_t hq]; omega
        · rw [du_c_f hq]; omega
theorem du_c_p {P : Nat → Prop} {m q : Nat} (hq : q < m) (h : P q) : 1 ≤ du_c P m := by
  have := du_c_lt (P := fun _ => False) (Q := P) m (fun _ _ z => z.elim) ⟨q, hq, h, fun z => z⟩
  omega
theorem du_c_eq {P Q : Nat → Prop} {m : Nat} (h : ∀ q, q < m → (P q ↔ Q q)) : du_c P m = du_c Q m :=
  Nat.le_antisymm (du_c_mono m fun q hq => (h q hq).mp) (du_c_mono m fun q hq => (h q hq).mpr)
theorem du_sat {P : Nat → Nat → Prop} {m K : Nat} (hm : ∀ k q, P k q → P (k + 1) q) (hs : ∀ k, (∀ q, P (k + 1) q → P k q) → ∀ q, P (k + 2) q → P (k + 1) q) (hb : ∀ k q, P k q → q < m) (hK : m ≤ du_c (P 0) m + K) : ∀ i q, P i q → P K q := by
  have mono : ∀ d k q, P k q → P (k + d) q := by
    intro d
    induction d with
    | zero => exact fun k q h => h
    | succ d ih => exact fun k q h => hm _ _ (ih k q h)
  have grow : ∀ k, (∃ j, j < k ∧ ∀ q, P (j + 1) q → P j q) ∨ du_c (P 0) m + k ≤ du_c (P k) m := by
    intro k
    induction k with
    | zero => exact Or.inr (Nat.le_refl _)
    | succ k ih =>
      rcases ih with ⟨j, hj, h⟩ | h
      · exact Or.inl ⟨j, by omega, h⟩
      · by_cases z : ∀ q, P (k + 1) q → P k q
        · exact Or.inl ⟨k, by omega, z⟩
        · right
          obtain ⟨q, hq⟩ := Classical.not_forall.mp z
          have hq1 : P (k + 1) q ∧ ¬ P k q := Classical.not_imp.mp hq
          have := du_c_lt (P := P k) (Q := P (k + 1)) m (fun q _ hp => hm k q hp) ⟨q, hb _ _ hq1.1, hq1.1, hq1.2⟩
          omega
  obtain ⟨j, hj, hst⟩ : ∃ j, j < K + 1 ∧ ∀ q, P (j + 1) q → P j q := by
    rcases grow (K + 1) with h | h
    · exact h
    · have := du_c_le (P (K + 1)) m
      omega
  have stab : ∀ d q, P (j + d + 1) q → P (j + d) q := by
    intro d
    induction d with
    | zero => exact hst
    | succ d ih => exact hs (j + d) ih
  have back : ∀ d q, P (j + d) q → P j q := by
    intro d
    induction d with
    | zero => exact fun q h => h
    | succ d ih => exact fun q h => ih q (stab d q h)
  intro i q h
  have h0 := mono j i q h
  rw [Nat.add_comm] at h0
  have h1 : P j q := back i q h0
  have h2 := mono (K - j) j q h1
  rwa [show j + (K - j) = K by omega] at h2
/-- the flow graph: its nodes 0 to n, its edges by two way arrays -/
def du_E (n : Nat) (A B : Nat → Int32) (p q : Nat) : Prop := p < n ∧ q ≤ n ∧ (A p = nI q ∨ B p = nI q)
def du_R (n : Nat) (A B : Nat → Int32) (st f : Nat → Prop) : Nat → Nat → Prop
  | 0 => fun q => q ≤ n ∧ f q
  | k + 1 => fun q => du_R n A B st f k q ∨ ∃ p, du_R n A B st f k p ∧ ¬ st p ∧ du_E n A B p q
def du_T (n : Nat) (A B : Nat → Int32) (st f : Nat → Prop) (q : Nat) : Prop := ∃ k, du_R n A B st f k q
section
variable {n : Nat} {A B : Nat → Int32} {st f : Nat → Prop}
theorem du_Rb : ∀ k q, du_R n A B st f k q → q < n + 1 := by
  intro k
  induction k with
  | zero => exact fun q h => Nat.lt_succ_of_le h.1
  | succ k ih =>
    intro q h
    rcases h with h | ⟨p, _, _, he⟩
    · exact ih q h
    · exact Nat.lt_succ_of_le he.2.1
theorem du_TK {K : Nat} (hK : n + 1 ≤ du_c (du_R n A B st f 0) (n + 1) + K) {q : Nat} (h : du_T n A B st f q) : du_R n A B st f K q := by
  obtain ⟨i, hi⟩ := h
  refine du_sat (P := du_R n A B st f) (m := n + 1) (fun k q h => Or.inl h) (fun k h q hq => ?_) du_Rb hK i q hi
  rcases hq with hq | ⟨p, hp, hs, he⟩
  · exact hq
  · exact Or.inr ⟨p, h p hp, hs, he⟩
theorem du_Tb {q : Nat} (h : du_T n A B st f q) : q ≤ n := by
  obtain ⟨k, hk⟩ := h
  exact Nat.le_of_lt_succ (du_Rb k q hk)
theorem du_T0 {q : Nat} (hq : q ≤ n) (h : f q) : du_T n A B st f q := ⟨0, hq, h⟩
theorem du_T1 {p q : Nat} (h : du_T n A B st f p) (hs : ¬ st p) (he : du_E n A B p q) : du_T n A B st f q := by
  obtain ⟨k, hk⟩ := h
  exact ⟨k + 1, Or.inr ⟨p, hk, hs, he⟩⟩
theorem du_Tl {S : Nat → Prop} (h0 : ∀ q, q ≤ n → f q → S q) (h1 : ∀ p q, S p → ¬ st p → du_E n A B p q → S q) : ∀ q, du_T n A B st f q → S q := by
  intro q ⟨k, hk⟩
  revert q
  induction k with
  | zero => exact fun q h => h0 q h.1 h.2
  | succ k ih =>
    intro q h
    rcases h with h | ⟨p, hp, hs, he⟩
    · exact ih q h
    · exact h1 p q (ih p hp) hs he
/-- forward rounds: what holds in round k ahead of token p -/
def du_I (n : Nat) (A B : Nat → Int32) (st f : Nat → Prop) (k p : Nat) (S : Nat → Prop) : Prop :=
  (∀ q, du_R n A B st f k q → S q) ∧ (∀ p' q, p' < p → du_R n A B st f k p' → ¬ st p' → du_E n A B p' q → S q) ∧ (∀ q, S q → du_T n A B st f q)
theorem du_I0 {S : Nat → Prop} (h : ∀ q, S q ↔ q ≤ n ∧ f q) : du_I n A B st f 0 0 S :=
  ⟨fun q hq => (h q).mpr hq, fun p' _ hp => absurd hp (Nat.not_lt_zero p'), fun q hq => ⟨0, (h q).mp hq⟩⟩
theorem du_Is {k p : Nat} {S S' : Nat → Prop} (I : du_I n A B st f k p S) (h : ∀ q, S' q ↔ S q ∨ (S p ∧ ¬ st p ∧ du_E n A B p q)) : du_I n A B st f k (p + 1) S' := by
  obtain ⟨h1, h2, h3⟩ := I
  refine ⟨fun q hq => (h q).mpr (Or.inl (h1 q hq)), fun p' q hp hr hs he => ?_, fun q hq => ?_⟩
  · by_cases e : p' = p
    · subst e
      exact (h q).mpr (Or.inr ⟨h1 _ hr, hs, he⟩)
    · exact (h q).mpr (Or.inl (h2 p' q (by omega) hr hs he))
  · rcases (h q).mp hq with hq | ⟨hp, hs, he⟩
    · exact h3 q hq
    · exact du_T1 (h3 p hp) hs he
theorem du_In {k : Nat} {S : Nat → Prop} (I : du_I n A B st f k n S) : du_I n A B st f (k + 1) 0 S := by
  refine ⟨fun q hq => ?_, fun p' _ hp => absurd hp (Nat.not_lt_zero p'), I.2.2⟩
  rcases hq with hq | ⟨p, hp, hs, he⟩
  · exact I.1 q hq
  · exact I.2.1 p q he.1 hp hs he
theorem du_If {K : Nat} {S : Nat → Prop} (I : du_I n A B st f K 0 S) (hK : n + 1 ≤ du_c (du_R n A B st f 0) (n + 1) + K) (q : Nat) : S q ↔ du_T n A B st f q :=
  ⟨I.2.2 q, fun h => I.1 q (du_TK hK h)⟩
theorem du_K1 {p : Nat} (hp : p ≤ n) (h : f p) : n + 1 ≤ du_c (du_R n A B st f 0) (n + 1) + n := by
  have := du_c_p (P := du_R n A B st f 0) (m := n + 1) (q := p) (by omega) ⟨hp, h⟩
  omega
end
/-! backward rounds -/
def du_U (n : Nat) (A B : Nat → Int32) (st us : Nat → Prop) : Nat → Nat → Prop
  | 0 => fun _ => False
  | k + 1 => fun p => p < n ∧ (us p ∨ (¬ st p ∧ ∃ q, du_E n A B p q ∧ du_U n A B st us k q))
def du_V (n : Nat) (A B : Nat → Int32) (st us : Nat → Prop) (p : Nat) : Prop := ∃ k, du_U n A B st us k p
section
variable {n : Nat} {A B : Nat → Int32} {st us : Nat → Prop}
theorem du_Ub : ∀ k q, du_U n A B st us k q → q < n := by
  intro k
  cases k with
  | zero => exact fun q h => h.elim
  | succ k => exact fun q h => h.1
theorem du_Um : ∀ k q, du_U n A B st us k q → du_U n A B st us (k + 1) q := by
  intro k
  induction k with
  | zero => exact fun q h => h.elim
  | succ k ih =>
    intro q h
    rcases h with ⟨h1, h2 | ⟨h2, r, h3, h4⟩⟩
    · exact ⟨h1, Or.inl h2⟩
    · exact ⟨h1, Or.inr ⟨h2, r, h3, ih r h4⟩⟩
theorem du_Us (k : Nat) (h : ∀ q, du_U n A B st us (k + 1) q → du_U n A B st us k q) : ∀ q, du_U n A B st us (k + 2) q → du_U n A B st us (k + 1) q := by
  intro q hq
  rcases hq with ⟨h1, h2 | ⟨h2, r, h3, h4⟩⟩
  · exact ⟨h1, Or.inl h2⟩
  · exact ⟨h1, Or.inr ⟨h2, r, h3, h r h4⟩⟩
theorem du_VK {q : Nat} (h : du_V n A B st us q) : du_U n A B st us n q := by
  obtain ⟨i, hi⟩ := h
  exact du_sat (P := du_U n A B st us) (m := n) du_Um du_Us du_Ub (Nat.le_add_left _ _) i q hi
theorem du_V1 {p : Nat} (hp : p < n) (h : us p) : du_V n A B st us p := ⟨1, hp, Or.inl h⟩
theorem du_V2 {p q : Nat} (hs : ¬ st p) (he : du_E n A B p q) (h : du_V n A B st us q) : du_V n A B st us p := by
  obtain ⟨k, hk⟩ := h
  exact ⟨k + 1, he.1, Or.inr ⟨hs, q, he, hk⟩⟩
def du_J1 (n : Nat) (A B : Nat → Int32) (st us : Nat → Prop) (k i : Nat) (S : Nat → Prop) : Prop :=
  (∀ q, du_U n A B st us k q → S q) ∧ (∀ q, i ≤ q → du_U n A B st us (k + 1) q → S q) ∧ (∀ q, S q → du_V n A B st us q)
theorem du_J0 {S : Nat → Prop} (h : ∀ q, ¬ S q) : du_J1 n A B st us 0 n S :=
  ⟨fun _ z => z.elim, fun q hq z => absurd (du_Ub 1 q z) (by omega), fun q z => absurd z (h q)⟩
theorem du_Js {k i : Nat} {S S' : Nat → Prop} (I : du_J1 n A B st us k (i + 1) S) (hi : i < n) (h : ∀ q, q ≠ i → (S' q ↔ S q)) (h' : S' i ↔ (us i ∨ (¬ st i ∧ ∃ q, du_E n A B i q ∧ S q))) : du_J1 n A B st us k i S' := by
  obtain ⟨h1, h2, h3⟩ := I
  have a : du_U n A B st us (k + 1) i → S' i := by
    intro z
    rcases z with ⟨_, z | ⟨z1, q, z2, z3⟩⟩
    · exact h'.mpr (Or.inl z)
    · exact h'.mpr (Or.inr ⟨z1, q, z2, h1 q z3⟩)
  refine ⟨fun q hq => ?_, fun q hq hu => ?_, fun q hq => ?_⟩
  · by_cases e : q = i
    · subst e
      exact a (du_Um k _ hq)
    · exact (h q e).mpr (h1 q hq)
  · by_cases e : q = i
    · subst e
      exact a hu
    · exact (h q e).mpr (h2 q (by omega) hu)
  · by_cases e : q = i
    · subst e
      rcases h'.mp hq with z | ⟨z1, r, z2, z3⟩
      · exact du_V1 hi z
      · exact du_V2 z1 z2 (h3 r z3)
    · exact h3 q ((h q e).mp hq)
theorem du_Jn {k : Nat} {S : Nat → Prop} (I : du_J1 n A B st us k 0 S) : du_J1 n A B st us (k + 1) n S :=
  ⟨fun q hq => I.2.1 q (Nat.zero_le q) hq, fun q hq z => absurd (du_Ub _ q z) (by omega), I.2.2⟩
theorem du_Jf {S : Nat → Prop} (I : du_J1 n A B st us n n S) (q : Nat) : S q ↔ du_V n A B st us q :=
  ⟨I.2.2 q, fun h => I.1 q (du_VK h)⟩
/-- wanted backward is: a use is come to forward -/
theorem du_VT {p : Nat} (hp : p ≤ n) : du_V n A B st us p ↔ ∃ q, q < n ∧ us q ∧ du_T n A B st (fun x => x = p) q := by
  have key : ∀ k p, p ≤ n → du_U n A B st us k p → ∃ q, q < n ∧ us q ∧ du_T n A B st (fun x => x = p) q := by
    intro k
    induction k with
    | zero => exact fun _ _ z => z.elim
    | succ k ih =>
      intro p hp z
      rcases z with ⟨z1, z2 | ⟨z2, r, z3, z4⟩⟩
      · exact ⟨p, z1, z2, du_T0 hp rfl⟩
      · obtain ⟨q, q1, q2, q3⟩ := ih r z3.2.1 z4
        refine ⟨q, q1, q2, du_Tl (S := du_T n A B st (fun x => x = p)) (fun y _ hy => ?_) (fun a b ha hs he => du_T1 ha hs he) q q3⟩
        have hy : y = r := hy
        subst hy
        exact du_T1 (du_T0 hp rfl) z2 z3
  constructor
  · intro ⟨k, hk⟩
    exact key k p hp hk
  · intro ⟨q, q1, q2, q3⟩
    have h := du_Tl (S := fun x => du_V n A B st us x → du_V n A B st us p) (fun y _ hy => by have hy : y = p := hy; subst hy; exact fun z => z) (fun a b ha hs he z => ha (du_V2 hs he z)) q q3
    exact h (du_V1 q1 q2)
end
