section
theorem pk_us {f : Nat → Int32} {k : Nat} {x : Int32} : upd f k x k = x := if_pos rfl
theorem pk_un {f : Nat → Int32} {k j : Nat} {x : Int32} (h : j ≠ k) : upd f k x j = f j := if_neg h
theorem pk_m1 (n : Nat) : nI (n + 1) + (-1) = nI n := by
  rw [← nI_1, Int32.add_assoc, show (1 : Int32) + (-1) = 0 from rfl, Int32.add_zero]
theorem pk_ix (x : Int32) {n : Nat} (hn : n < 2 ^ 31) : x < 0 ∨ nI n ≤ x ∨ ∃ j : Nat, j < n ∧ x = nI j := by
  by_cases h : x < 0
  · exact Or.inl h
  · obtain ⟨j, hj, rfl⟩ := nI_of h
    by_cases h2 : j < n
    · exact Or.inr (Or.inr ⟨j, h2, rfl⟩)
    · exact Or.inr (Or.inl (nI_le (by omega) hj))
def bt (x : Int32) (i : Nat) : Bool := x.toBitVec.getLsbD i
theorem b_ext {x y : Int32} (h : ∀ i, i < 32 → bt x i = bt y i) : x = y := Int32.toBitVec_inj.mp (BitVec.eq_of_getLsbD_eq (fun i hi => h i hi))
theorem b_or (x y : Int32) (i : Nat) : bt (x ||| y) i = (bt x i || bt y i) := by unfold bt; rw [Int32.toBitVec_or, BitVec.getLsbD_or]
theorem b_and (x y : Int32) (i : Nat) : bt (x &&& y) i = (bt x i && bt y i) := by unfold bt; rw [Int32.toBitVec_and, BitVec.getLsbD_and]
theorem b_xor (x y : Int32) (i : Nat) : bt (x ^^^ y) i = (bt x i ^^ bt y i) := by unfold bt; rw [Int32.toBitVec_xor, BitVec.getLsbD_xor]
theorem b_big {x : Int32} {i : Nat} (h : 32 ≤ i) : bt x i = false := BitVec.getLsbD_of_ge _ _ h
theorem b_m1 : ∀ i, i < 32 → bt (-1) i = true := by decide +kernel
theorem b_0 (i : Nat) : bt 0 i = false := BitVec.getLsbD_zero
end
section
/-! counting, saturation, reachability by rounds -/
noncomputable def du_c (P : Nat → Prop) : Nat → Nat
  | 0 => 0
  | m + 1 => du_c P m + @ite Nat (P m) (Classical.propDecidable (P m)) 1 0
theorem du_c_t {P : Nat → Prop} {m : Nat} (h : P m) : du_c P (m + 1) = du_c P m + 1 := by
  show du_c P m + @ite Nat (P m) (Classical.propDecidable (P m)) 1 0 = _
  rw [if_pos h]
theorem du_c_f {P : Nat → Prop} {m : Nat} (h : ¬ P m) : du_c P (m + 1) = du_c P m := by
  show du_c P m + @ite Nat (P m) (Classical.propDecidable (P m)) 1 0 = _
  rw [if_neg h, Nat.add_zero]
theorem du_c_le (P : Nat → Prop) : ∀ m, du_c P m ≤ m := by
  intro m
  induction m with
  | zero => exact Nat.le_refl 0
  | succ m ih =>
    by_cases h : P m
    · rw [du_c_t h]; omega
    · rw [du_c_f h]; omega
theorem du_c_mono {P Q : Nat → Prop} : ∀ m, (∀ q, q < m → P q → Q q) → du_c P m ≤ du_c Q m := by
  intro m
  induction m with
  | zero => intro _; exact Nat.le_refl 0
  | succ m ih =>
    intro h
    have h1 := ih (fun q hq => h q (by omega))
    by_cases hp : P m
    · rw [du_c_t hp, du_c_t (h m (by omega) hp)]; omega
    · rw [du_c_f hp]
      by_cases hq : Q m
      · rw [du_c_t hq]; omega
      · rw [du_c_f hq]; omega
theorem du_c_lt {P Q : Nat → Prop} : ∀ m, (∀ q, q < m → P q → Q q) → (∃ q, q < m ∧ Q q ∧ ¬ P q) → du_c P m < du_c Q m := by
  intro m
  induction m with
  | zero => intro _ ⟨q, hq, _⟩; omega
  | succ m ih =>
    intro h ⟨q, hq, hQ, hP⟩
    have h1 : du_c P m ≤ du_c Q m := du_c_mono m (fun q hq => h q (by omega))
    by_cases e : q = m
    · subst e
      rw [du_c_f hP, du_c_t hQ]; omega
    · have h2 := ih (fun q hq => h q (by omega)) ⟨q, by omega, hQ, hP⟩
      by_cases hp : P m
      · rw [du_c_t hp, du_c_t (h m (by omega) hp)]; omega
      · rw [du_c_f hp]
        by_cases hq : Q m
        · rw [du_c_t hq]; omega
        · rw [du_c_f hq]; omega
theorem du_c_p {P : Nat → Prop} {m q : Nat} (hq : q < m) (h : P q) : 1 ≤ du_c P m := by
  have := du_c_lt (P := fun _ => False) (Q := P) m (fun _ _ z => z.elim) ⟨q, hq, h, fun z => z⟩
  omega
theorem du_c_eq {P Q : Nat → Prop} {m : Nat} (h : ∀ q, q < m → (P q ↔ Q q)) : du_c P m = du_c Q m :=
  Nat.le_antisymm (du_c_mono m fun q hq => (h q hq).mp) (du_c_mono m fun q hq => (h q hq).mpr)
theorem du_sat {P : Nat → Nat → Prop} {m K : Nat} (hm : ∀ k q, P k q → P (k + 1) q) (hs : ∀ k, (∀ q, P (k + 1) q → P k q) → ∀ q, P (k + 2) q → P (k + 1) q) (hb : ∀ k q, P k q → q < m) (hK : m ≤ du_c (P 0) m + K) : ∀ i q, P i q → P K q := by
  have mono : ∀ d k q, P k q → P (k + d) q := by
    intro d
    induction d with
    | zero => exact fun k q h => h
    | succ d ih => exact fun k q h => hm _ _ (ih k q h)
  have grow : ∀ k, (∃ j, j < k ∧ ∀ q, P (j + 1) q → P j q) ∨ du_c (P 0) m + k ≤ du_c (P k) m := by
    intro k
    induction k with
    | zero => exact Or.inr (Nat.le_refl _)
    | succ k ih =>
      rcases ih with ⟨j, hj, h⟩ | h
      · exact Or.inl ⟨j, by omega, h⟩
      · by_cases z : ∀ q, P (k + 1) q → P k q
        · exact Or.inl ⟨k, by omega, z⟩
        · right
          obtain ⟨q, hq⟩ := Classical.not_forall.mp z
          have hq1 : P (k + 1) q ∧ ¬ P k q := Classical.not_imp.mp hq
          have := du_c_lt (P := P k) (Q := P (k + 1)) m (fun q _ hp => hm k q hp) ⟨q, hb _ _ hq1.1, hq1.1, hq1.2⟩
          omega
  obtain ⟨j, hj, hst⟩ : ∃ j, j < K + 1 ∧ ∀ q, P (j + 1) q → P j q := by
    rcases grow (K + 1) with h | h
    · exact h
    · have := du_c_le (P (K + 1)) m
      omega
  have stab : ∀ d q, P (j + d + 1) q → P (j + d) q := by
    intro d
    induction d with
    | zero => exact hst
    | succ d ih => exact hs (j + d) ih
  have back : ∀ d q, P (j + d) q → P j q := by
    intro d
    induction d with
    | zero => exact fun q h => h
    | succ d ih => exact fun q h => ih q (stab d q h)
  intro i q h
  have h0 := mono j i q h
  rw [Nat.add_comm] at h0
  have h1 : P j q := back i q h0
  have h2 := mono (K - j) j q h1
  rwa [show j + (K - j) = K by omega] at h2
/-- the flow graph: its nodes 0 to n, its edges by two way arrays -/
def du_E (n : Nat) (A B : Nat → Int32) (p q : Nat) : Prop := p < n ∧ q ≤ n ∧ (A p = nI q ∨ B p = nI q)
def du_R (n : Nat) (A B : Nat → Int32) (st f : Nat → Prop) : Nat → Nat → Prop
  | 0 => fun q => q ≤ n ∧ f q
  | k + 1 => fun q => du_R n A B st f k q ∨ ∃ p, du_R n A B st f k p ∧ ¬ st p ∧ du_E n A B p q
def du_T (n : Nat) (A B : Nat → Int32) (st f : Nat → Prop) (q : Nat) : Prop := ∃ k, du_R n A B st f k q
section
variable {n : Nat} {A B : Nat → Int32} {st f : Nat → Prop}
theorem du_Rb : ∀ k q, du_R n A B st f k q → q < n + 1 := by
  intro k
  induction k with
  | zero => exact fun q h => Nat.lt_succ_of_le h.1
  | succ k ih =>
    intro q h
    rcases h with h | ⟨p, _, _, he⟩
    · exact ih q h
    · exact Nat.lt_succ_of_le he.2.1
theorem du_TK {K : Nat} (hK : n + 1 ≤ du_c (du_R n A B st f 0) (n + 1) + K) {q : Nat} (h : du_T n A B st f q) : du_R n A B st f K q := by
  obtain ⟨i, hi⟩ := h
  refine du_sat (P := du_R n A B st f) (m := n + 1) (fun k q h => Or.inl h) (fun k h q hq => ?_) du_Rb hK i q hi
  rcases hq with hq | ⟨p, hp, hs, he⟩
  · exact hq
  · exact Or.inr ⟨p, h p hp, hs, he⟩
theorem du_Tb {q : Nat} (h : du_T n A B st f q) : q ≤ n := by
  obtain ⟨k, hk⟩ := h
  exact Nat.le_of_lt_succ (du_Rb k q hk)
theorem du_T0 {q : Nat} (hq : q ≤ n) (h : f q) : du_T n A B st f q := ⟨0, hq, h⟩
theorem du_T1 {p q : Nat} (h : du_T n A B st f p) (hs : ¬ st p) (he : du_E n A B p q) : du_T n A B st f q := by
  obtain ⟨k, hk⟩ := h
  exact ⟨k + 1, Or.inr ⟨p, hk, hs, he⟩⟩
theorem du_Tl {S : Nat → Prop} (h0 : ∀ q, q ≤ n → f q → S q) (h1 : ∀ p q, S p → ¬ st p → du_E n A B p q → S q) : ∀ q, du_T n A B st f q → S q := by
  intro q ⟨k, hk⟩
  revert q
  induction k with
  | zero => exact fun q h => h0 q h.1 h.2
  | succ k ih =>
    intro q h
    rcases h with h | ⟨p, hp, hs, he⟩
    · exact ih q h
    · exact h1 p q (ih p hp) hs he
/-- forward rounds: what holds in round k ahead of token p -/
def du_I (n : Nat) (A B : Nat → Int32) (st f : Nat → Prop) (k p : Nat) (S : Nat → Prop) : Prop :=
  (∀ q, du_R n A B st f k q → S q) ∧ (∀ p' q, p' < p → du_R n A B st f k p' → ¬ st p' → du_E n A B p' q → S q) ∧ (∀ q, S q → du_T n A B st f q)
theorem du_I0 {S : Nat → Prop} (h : ∀ q, S q ↔ q ≤ n ∧ f q) : du_I n A B st f 0 0 S :=
  ⟨fun q hq => (h q).mpr hq, fun p' _ hp => absurd hp (Nat.not_lt_zero p'), fun q hq => ⟨0, (h q).mp hq⟩⟩
theorem du_Is {k p : Nat} {S S' : Nat → Prop} (I : du_I n A B st f k p S) (h : ∀ q, S' q ↔ S q ∨ (S p ∧ ¬ st p ∧ du_E n A B p q)) : du_I n A B st f k (p + 1) S' := by
  obtain ⟨h1, h2, h3⟩ := I
  refine ⟨fun q hq => (h q).mpr (Or.inl (h1 q hq)), fun p' q hp hr hs he => ?_, fun q hq => ?_⟩
  · by_cases e : p' = p
    · subst e
      exact (h q).mpr (Or.inr ⟨h1 _ hr, hs, he⟩)
    · exact (h q).mpr (Or.inl (h2 p' q (by omega) hr hs he))
  · rcases (h q).mp hq with hq | ⟨hp, hs, he⟩
    · exact h3 q hq
    · exact du_T1 (h3 p hp) hs he
theorem du_In {k : Nat} {S : Nat → Prop} (I : du_I n A B st f k n S) : du_I n A B st f (k + 1) 0 S := by
  refine ⟨fun q hq => ?_, fun p' _ hp => absurd hp (Nat.not_lt_zero p'), I.2.2⟩
  rcases hq with hq | ⟨p, hp, hs, he⟩
  · exact I.1 q hq
  · exact I.2.1 p q he.1 hp hs he
theorem du_If {K : Nat} {S : Nat → Prop} (I : du_I n A B st f K 0 S) (hK : n + 1 ≤ du_c (du_R n A B st f 0) (n + 1) + K) (q : Nat) : S q ↔ du_T n A B st f q :=
  ⟨I.2.2 q, fun h => I.1 q (du_TK hK h)⟩
theorem du_K1 {p : Nat} (hp : p ≤ n) (h : f p) : n + 1 ≤ du_c (du_R n A B st f 0) (n + 1) + n := by
  have := du_c_p (P := du_R n A B st f 0) (m := n + 1) (q := p) (by omega) ⟨hp, h⟩
  omega
end
/-! backward rounds -/
def du_U (n : Nat) (A B : Nat → Int32) (st us : Nat → Prop) : Nat → Nat → Prop
  | 0 => fun _ => False
  | k + 1 => fun p => p < n ∧ (us p ∨ (¬ st p ∧ ∃ q, du_E n A B p q ∧ du_U n A B st us k q))
def du_V (n : Nat) (A B : Nat → Int32) (st us : Nat → Prop) (p : Nat) : Prop := ∃ k, du_U n A B st us k p
section
variable {n : Nat} {A B : Nat → Int32} {st us : Nat → Prop}
theorem du_Ub : ∀ k q, du_U n A B st us k q → q < n := by
  intro k
  cases k with
  | zero => exact fun q h => h.elim
  | succ k => exact fun q h => h.1
theorem du_Um : ∀ k q, du_U n A B st us k q → du_U n A B st us (k + 1) q := by
  intro k
  induction k with
  | zero => exact fun q h => h.elim
  | succ k ih =>
    intro q h
    rcases h with ⟨h1, h2 | ⟨h2, r, h3, h4⟩⟩
    · exact ⟨h1, Or.inl h2⟩
    · exact ⟨h1, Or.inr ⟨h2, r, h3, ih r h4⟩⟩
theorem du_Us (k : Nat) (h : ∀ q, du_U n A B st us (k + 1) q → du_U n A B st us k q) : ∀ q, du_U n A B st us (k + 2) q → du_U n A B st us (k + 1) q := by
  intro q hq
  rcases hq with ⟨h1, h2 | ⟨h2, r, h3, h4⟩⟩
  · exact ⟨h1, Or.inl h2⟩
  · exact ⟨h1, Or.inr ⟨h2, r, h3, h r h4⟩⟩
theorem du_VK {q : Nat} (h : du_V n A B st us q) : du_U n A B st us n q := by
  obtain ⟨i, hi⟩ := h
  exact du_sat (P := du_U n A B st us) (m := n) du_Um du_Us du_Ub (Nat.le_add_left _ _) i q hi
theorem du_V1 {p : Nat} (hp : p < n) (h : us p) : du_V n A B st us p := ⟨1, hp, Or.inl h⟩
theorem du_V2 {p q : Nat} (hs : ¬ st p) (he : du_E n A B p q) (h : du_V n A B st us q) : du_V n A B st us p := by
  obtain ⟨k, hk⟩ := h
  exact ⟨k + 1, he.1, Or.inr ⟨hs, q, he, hk⟩⟩
def du_J1 (n : Nat) (A B : Nat → Int32) (st us : Nat → Prop) (k i : Nat) (S : Nat → Prop) : Prop :=
  (∀ q, du_U n A B st us k q → S q) ∧ (∀ q, i ≤ q → du_U n A B st us (k + 1) q → S q) ∧ (∀ q, S q → du_V n A B st us q)
theorem du_J0 {S : Nat → Prop} (h : ∀ q, ¬ S q) : du_J1 n A B st us 0 n S :=
  ⟨fun _ z => z.elim, fun q hq z => absurd (du_Ub 1 q z) (by omega), fun q z => absurd z (h q)⟩
theorem du_Js {k i : Nat} {S S' : Nat → Prop} (I : du_J1 n A B st us k (i + 1) S) (hi : i < n) (h : ∀ q, q ≠ i → (S' q ↔ S q)) (h' : S' i ↔ (us i ∨ (¬ st i ∧ ∃ q, du_E n A B i q ∧ S q))) : du_J1 n A B st us k i S' := by
  obtain ⟨h1, h2, h3⟩ := I
  have a : du_U n A B st us (k + 1) i → S' i := by
    intro z
    rcases z with ⟨_, z | ⟨z1, q, z2, z3⟩⟩
    · exact h'.mpr (Or.inl z)
    · exact h'.mpr (Or.inr ⟨z1, q, z2, h1 q z3⟩)
  refine ⟨fun q hq => ?_, fun q hq hu => ?_, fun q hq => ?_⟩
  · by_cases e : q = i
    · subst e
      exact a (du_Um k _ hq)
    · exact (h q e).mpr (h1 q hq)
  · by_cases e : q = i
    · subst e
      exact a hu
    · exact (h q e).mpr (h2 q (by omega) hu)
  · by_cases e : q = i
    · subst e
      rcases h'.mp hq with z | ⟨z1, r, z2, z3⟩
      · exact du_V1 hi z
      · exact du_V2 z1 z2 (h3 r z3)
    · exact h3 q ((h q e).mp hq)
theorem du_Jn {k : Nat} {S : Nat → Prop} (I : du_J1 n A B st us k 0 S) : du_J1 n A B st us (k + 1) n S :=
  ⟨fun q hq => I.2.1 q (Nat.zero_le q) hq, fun q hq z => absurd (du_Ub _ q z) (by omega), I.2.2⟩
theorem du_Jf {S : Nat → Prop} (I : du_J1 n A B st us n n S) (q : Nat) : S q ↔ du_V n A B st us q :=
  ⟨I.2.2 q, fun h => I.1 q (du_VK h)⟩
/-- wanted backward is: a use is come to forward -/
theorem du_VT {p : Nat} (hp : p ≤ n) : du_V n A B st us p ↔ ∃ q, q < n ∧ us q ∧ du_T n A B st (fun x => x = p) q := by
  have key : ∀ k p, p ≤ n → du_U n A B st us k p → ∃ q, q < n ∧ us q ∧ du_T n A B st (fun x => x = p) q := by
    intro k
    induction k with
    | zero => exact fun _ _ z => z.elim
    | succ k ih =>
      intro p hp z
      rcases z with ⟨z1, z2 | ⟨z2, r, z3, z4⟩⟩
      · exact ⟨p, z1, z2, du_T0 hp rfl⟩
      · obtain ⟨q, q1, q2, q3⟩ := ih r z3.2.1 z4
        refine ⟨q, q1, q2, du_Tl (S := du_T n A B st (fun x => x = p)) (fun y _ hy => ?_) (fun a b ha hs he => du_T1 ha hs he) q q3⟩
        have hy : y = r := hy
        subst hy
        exact du_T1 (du_T0 hp rfl) z2 z3
  constructor
  · intro ⟨k, hk⟩
    exact key k p hp hk
  · intro ⟨q, q1, q2, q3⟩
    have h := du_Tl (S := fun x => du_V n A B st us x → du_V n A B st us p) (fun y _ hy => by have hy : y = p := hy; subst hy; exact fun z => z) (fun a b ha hs he z => ha (du_V2 hs he z)) q q3
    exact h (du_V1 q1 q2)
end
end
section
/-! the matching of begins, ELSEs and ENDs, pure: a stack of begins, ends E, elses L, begins B -/
abbrev du_bg (k : Int32) : Prop := k = 2 ∨ k = 4 ∨ k = 5
abbrev du_M : Type := List Nat × (Nat → Int32) × (Nat → Int32) × (Nat → Int32)
def du_lp (K : Nat → Int32) : List Nat → Int32
  | [] => -1
  | b :: t => if K b = 2 then du_lp K t else nI b
def du_tp : List Nat → Int32
  | [] => -1
  | b :: _ => nI b
def du_else (K : Nat → Int32) (p : Nat) : du_M → Option du_M
  | ([], _) => none
  | (b :: t, E, L, B) => if K b = 2 ∧ L b = -1 then some (b :: t, E, upd L b (nI p), upd B p (nI b)) else none
def du_end (p : Nat) : du_M → Option du_M
  | ([], _) => none
  | (b :: t, E, L, B) => some (t, upd E b (nI p), L, upd B p (nI b))
def du_step (K : Nat → Int32) (p : Nat) (m : du_M) : Option du_M :=
  if du_bg (K p) then some (p :: m.1, m.2.1, upd m.2.2.1 p (-1), m.2.2.2)
  else if K p = 3 then du_else K p m
  else if K p = 6 then du_end p m
  else if K p = 7 ∨ K p = 8 then (if du_lp K m.1 = -1 then none else some (m.1, m.2.1, m.2.2.1, upd m.2.2.2 p (du_lp K m.1)))
  else some m
def du_run (K : Nat → Int32) : Nat → Option du_M
  | 0 => some ([], fun _ => 0, fun _ => 0, fun _ => 0)
  | p + 1 => match du_run K p with
    | none => none
    | some m => du_step K p m
theorem du_s_open {K : Nat → Int32} {p : Nat} {m : du_M} (h : du_bg (K p)) : du_step K p m = some (p :: m.1, m.2.1, upd m.2.2.1 p (-1), m.2.2.2) := if_pos h
theorem du_s_else {K : Nat → Int32} {p : Nat} {m : du_M} (h : K p = 3) : du_step K p m = du_else K p m := by
  unfold du_step
  rw [if_neg (by rw [h]; decide), if_pos h]
theorem du_s_end {K : Nat → Int32} {p : Nat} {m : du_M} (h : K p = 6) : du_step K p m = du_end p m := by
  unfold du_step
  rw [if_neg (by rw [h]; decide), if_neg (by rw [h]; decide), if_pos h]
theorem du_s_jump {K : Nat → Int32} {p : Nat} {m : du_M} (h : K p = 7 ∨ K p = 8) : du_step K p m = if du_lp K m.1 = -1 then none else some (m.1, m.2.1, m.2.2.1, upd m.2.2.2 p (du_lp K m.1)) := by
  unfold du_step
  have h1 : ¬ du_bg (K p) := by rcases h with h | h <;> rw [h] <;> decide
  have h2 : ¬ K p = 3 := by rcases h with h | h <;> rw [h] <;> decide
  have h3 : ¬ K p = 6 := by rcases h with h | h <;> rw [h] <;> decide
  rw [if_neg h1, if_neg h2, if_neg h3, if_pos h]
theorem du_s_other {K : Nat → Int32} {p : Nat} {m : du_M} (h1 : ¬ du_bg (K p)) (h2 : ¬ K p = 3) (h3 : ¬ K p = 6) (h4 : ¬ (K p = 7 ∨ K p = 8)) : du_step K p m = some m := by
  unfold du_step
  rw [if_neg h1, if_neg h2, if_neg h3, if_neg h4]
theorem du_run_s {K : Nat → Int32} {p : Nat} {m : du_M} (h : du_run K p = some m) : du_run K (p + 1) = du_step K p m := by
  rw [du_run, h]
theorem du_run_n {K : Nat → Int32} {p : Nat} (h : du_run K p = none) : du_run K (p + 1) = none := by
  rw [du_run, h]
theorem du_run_d {K : Nat → Int32} {p : Nat} (h : du_run K p = none) : ∀ d, du_run K (p + d) = none := by
  intro d
  induction d with
  | zero => exact h
  | succ d ih => exact du_run_n ih
theorem du_run_none {K : Nat → Int32} {p n : Nat} (h : du_run K p = none) (hn : p ≤ n) : du_run K n = none := by
  have := du_run_d h (n - p)
  rwa [show p + (n - p) = n by omega] at this
/-- sound -/
def du_W (K : Nat → Int32) (n : Nat) : Prop := ∃ E L B, du_run K n = some ([], E, L, B)
theorem du_nW {K : Nat → Int32} {p n : Nat} (h : du_run K p = none) (hn : p ≤ n) : ¬ du_W K n := by
  intro ⟨E, L, B, e⟩
  rw [du_run_none h hn] at e
  cases e
theorem du_nm1 {q : Nat} (h : q < 2 ^ 31) : ¬ nI q = -1 := by
  intro e
  exact nI_pos h (by rw [e]; decide)
theorem du_lp_in {K : Nat → Int32} : ∀ s : List Nat, du_lp K s = -1 ∨ ∃ b, b ∈ s ∧ K b ≠ 2 ∧ du_lp K s = nI b := by
  intro s
  induction s with
  | nil => exact Or.inl rfl
  | cons b t ih =>
    by_cases h : K b = 2
    · have e : du_lp K (b :: t) = du_lp K t := if_pos h
      rcases ih with z | ⟨c, c1, c2, c3⟩
      · exact Or.inl (e.trans z)
      · exact Or.inr ⟨c, List.mem_cons_of_mem _ c1, c2, e.trans c3⟩
    · exact Or.inr ⟨b, List.mem_cons_self .., h, if_neg h⟩
/-- what holds of the matching ahead of token p -/
def du_J (K : Nat → Int32) (p : Nat) (m : du_M) : Prop :=
  (∀ b, b ∈ m.1 → b < p ∧ du_bg (K b)) ∧ m.1.length ≤ p ∧
  (∀ b, b < p → du_bg (K b) → b ∈ m.1 ∨ ∃ e, b < e ∧ e < p ∧ m.2.1 b = nI e) ∧
  (∀ b, b < p → du_bg (K b) → m.2.2.1 b = -1 ∨ ∃ e, b < e ∧ e < p ∧ m.2.2.1 b = nI e ∧ K e = 3 ∧ m.2.2.2 e = nI b) ∧
  (∀ q, q < p → K q = 3 → ∃ b, b < q ∧ m.2.2.2 q = nI b ∧ K b = 2 ∧ m.2.2.1 b = nI q) ∧
  (∀ q, q < p → K q = 6 → ∃ b, b < q ∧ m.2.2.2 q = nI b ∧ du_bg (K b)) ∧
  (∀ q, q < p → (K q = 7 ∨ K q = 8) → ∃ b, b < q ∧ m.2.2.2 q = nI b ∧ du_bg (K b) ∧ K b ≠ 2)
theorem du_J_0 {K : Nat → Int32} : du_J K 0 ([], fun _ => 0, fun _ => 0, fun _ => 0) :=
  ⟨fun b hb => (by have hb : b ∈ ([] : List Nat) := hb; cases hb), Nat.le_refl 0, fun b hb => absurd hb (Nat.not_lt_zero b), fun b hb => absurd hb (Nat.not_lt_zero b), fun b hb => absurd hb (Nat.not_lt_zero b), fun b hb => absurd hb (Nat.not_lt_zero b), fun b hb => absurd hb (Nat.not_lt_zero b)⟩
theorem du_J_open {K : Nat → Int32} {p : Nat} {s : List Nat} {E L B : Nat → Int32} (J : du_J K p (s, E, L, B)) (h : du_bg (K p)) : du_J K (p + 1) (p :: s, E, upd L p (-1), B) := by
  obtain ⟨j1, j2, j3, j4, j5, j6, j7⟩ := J
  refine ⟨fun b hb => ?_, Nat.succ_le_succ j2, fun b hb hk => ?_, fun b hb hk => ?_, fun q hq hk => ?_, fun q hq hk => ?_, fun q hq hk => ?_⟩
  · rcases List.mem_cons.mp hb with e | hb
    · subst e
      exact ⟨Nat.lt_succ_self _, h⟩
    · exact ⟨Nat.lt_succ_of_lt (j1 b hb).1, (j1 b hb).2⟩
  · by_cases e : b = p
    · subst e
      exact Or.inl (List.mem_cons_self ..)
    · rcases j3 b (by omega) hk with z | ⟨e1, e2, e3, e4⟩
      · exact Or.inl (List.mem_cons_of_mem _ z)
      · exact Or.inr ⟨e1, e2, by omega, e4⟩
  · by_cases e : b = p
    · subst e
      exact Or.inl pk_us
    · rcases j4 b (by omega) hk with z | ⟨e1, e2, e3, e4, e5, e6⟩
      · exact Or.inl ((pk_un e).trans z)
      · exact Or.inr ⟨e1, e2, by omega, (pk_un e).trans e4, e5, e6⟩
  · by_cases e : q = p
    · subst e
      rw [hk] at h
      exact absurd h (by decide)
    · obtain ⟨b, b1, b2, b3, b4⟩ := j5 q (by omega) hk
      exact ⟨b, b1, b2, b3, (pk_un (by omega)).trans b4⟩
  · by_cases e : q = p
    · subst e
      rw [hk] at h
      exact absurd h (by decide)
    · exact j6 q (by omega) hk
  · by_cases e : q = p
    · subst e
      rcases hk with hk | hk <;> rw [hk] at h <;> exact absurd h (by decide)
    · exact j7 q (by omega) hk
theorem du_J_else {K : Nat → Int32} {p b : Nat} {t : List Nat} {E L B : Nat → Int32} (hp : p < 2 ^ 31) (J : du_J K p (b :: t, E, L, B)) (h : K p = 3) (hb : K b = 2) (hl : L b = -1) : du_J K (p + 1) (b :: t, E, upd L b (nI p), upd B p (nI b)) := by
  obtain ⟨j1, j2, j3, j4, j5, j6, j7⟩ := J
  have hbp : b < p := (j1 b (List.mem_cons_self ..)).1
  refine ⟨fun c hc => ?_, Nat.le_succ_of_le j2, fun c hc hk => ?_, fun c hc hk => ?_, fun q hq hk => ?_, fun q hq hk => ?_, fun q hq hk => ?_⟩
  · exact ⟨Nat.lt_succ_of_lt (j1 c hc).1, (j1 c hc).2⟩
  · by_cases e : c = p
    · subst e
      rw [h] at hk
      exact absurd hk (by decide)
    · rcases j3 c (by omega) hk with z | ⟨e1, e2, e3, e4⟩
      · exact Or.inl z
      · exact Or.inr ⟨e1, e2, by omega, e4⟩
  · by_cases e : c = b
    · subst e
      exact Or.inr ⟨p, hbp, Nat.lt_succ_self _, pk_us, h, pk_us⟩
    · by_cases e2 : c = p
      · subst e2
        rw [h] at hk
        exact absurd hk (by decide)
      · rcases j4 c (by omega) hk with z | ⟨e1, e2, e3, e4, e5, e6⟩
        · exact Or.inl ((pk_un e).trans z)
        · exact Or.inr ⟨e1, e2, by omega, (pk_un e).trans e4, e5, (pk_un (by omega)).trans e6⟩
  · by_cases e : q = p
    · subst e
      exact ⟨b, hbp, pk_us, hb, pk_us⟩
    · obtain ⟨c, c1, c2, c3, c4⟩ := j5 q (by omega) hk
      refine ⟨c, c1, (pk_un e).trans c2, c3, (pk_un ?_).trans c4⟩
      intro z
      subst z
      exact du_nm1 (by omega) (c4.symm.trans hl)
  · by_cases e : q = p
    · subst e
      rw [h] at hk
      exact absurd hk (by decide)
    · obtain ⟨c, c1, c2, c3⟩ := j6 q (by omega) hk
      exact ⟨c, c1, (pk_un e).trans c2, c3⟩
  · by_cases e : q = p
    · subst e
      rcases hk with hk | hk <;> rw [h] at hk <;> exact absurd hk (by decide)
    · obtain ⟨c, c1, c2, c3⟩ := j7 q (by omega) hk
      exact ⟨c, c1, (pk_un e).trans c2, c3⟩
theorem du_J_end {K : Nat → Int32} {p b : Nat} {t : List Nat} {E L B : Nat → Int32} (J : du_J K p (b :: t, E, L, B)) (h : K p = 6) : du_J K (p + 1) (t, upd E b (nI p), L, upd B p (nI b)) := by
  obtain ⟨j1, j2, j3, j4, j5, j6, j7⟩ := J
  have hbp := j1 b (List.mem_cons_self ..)
  have hlen : t.length + 1 ≤ p := j2
  refine ⟨fun c hc => ?_, Nat.le_trans (by omega : t.length ≤ p) (Nat.le_succ p), fun c hc hk => ?_, fun c hc hk => ?_, fun q hq hk => ?_, fun q hq hk => ?_, fun q hq hk => ?_⟩
  · have z := j1 c (List.mem_cons_of_mem _ hc)
    exact ⟨Nat.lt_succ_of_lt z.1, z.2⟩
  · by_cases e : c = b
    · subst e
      exact Or.inr ⟨p, hbp.1, Nat.lt_succ_self _, pk_us⟩
    · by_cases e2 : c = p
      · subst e2
        rw [h] at hk
        exact absurd hk (by decide)
      · rcases j3 c (by omega) hk with z | ⟨e1, e2, e3, e4⟩
        · rcases List.mem_cons.mp z with z | z
          · exact absurd z e
          · exact Or.inl z
        · exact Or.inr ⟨e1, e2, by omega, (pk_un e).trans e4⟩
  · by_cases e2 : c = p
    · subst e2
      rw [h] at hk
      exact absurd hk (by decide)
    · rcases j4 c (by omega) hk with z | ⟨e1, e2, e3, e4, e5, e6⟩
      · exact Or.inl z
      · exact Or.inr ⟨e1, e2, by omega, e4, e5, (pk_un (by omega)).trans e6⟩
  · by_cases e : q = p
    · subst e
      rw [h] at hk
      exact absurd hk (by decide)
    · obtain ⟨c, c1, c2, c3, c4⟩ := j5 q (by omega) hk
      exact ⟨c, c1, (pk_un e).trans c2, c3, c4⟩
  · by_cases e : q = p
    · subst e
      exact ⟨b, hbp.1, pk_us, hbp.2⟩
    · obtain ⟨c, c1, c2, c3⟩ := j6 q (by omega) hk
      exact ⟨c, c1, (pk_un e).trans c2, c3⟩
  · by_cases e : q = p
    · subst e
      rcases hk with hk | hk <;> rw [h] at hk <;> exact absurd hk (by decide)
    · obtain ⟨c, c1, c2, c3⟩ := j7 q (by omega) hk
      exact ⟨c, c1, (pk_un e).trans c2, c3⟩
theorem du_J_jump {K : Nat → Int32} {p : Nat} {s : List Nat} {E L B : Nat → Int32} (J : du_J K p (s, E, L, B)) (h : K p = 7 ∨ K p = 8) (hl : ¬ du_lp K s = -1) : du_J K (p + 1) (s, E, L, upd B p (du_lp K s)) := by
  obtain ⟨j1, j2, j3, j4, j5, j6, j7⟩ := J
  have nb : ¬ du_bg (K p) := by rcases h with h | h <;> rw [h] <;> decide
  have n3 : ¬ K p = 3 := by rcases h with h | h <;> rw [h] <;> decide
  have n6 : ¬ K p = 6 := by rcases h with h | h <;> rw [h] <;> decide
  refine ⟨fun c hc => ?_, Nat.le_succ_of_le j2, fun c hc hk => ?_, fun c hc hk => ?_, fun q hq hk => ?_, fun q hq hk => ?_, fun q hq hk => ?_⟩
  · exact ⟨Nat.lt_succ_of_lt (j1 c hc).1, (j1 c hc).2⟩
  · by_cases e : c = p
    · subst e
      exact absurd hk nb
    · rcases j3 c (by omega) hk with z | ⟨e1, e2, e3, e4⟩
      · exact Or.inl z
      · exact Or.inr ⟨e1, e2, by omega, e4⟩
  · by_cases e : c = p
    · subst e
      exact absurd hk nb
    · rcases j4 c (by omega) hk with z | ⟨e1, e2, e3, e4, e5, e6⟩
      · exact Or.inl z
      · exact Or.inr ⟨e1, e2, by omega, e4, e5, (pk_un (by omega)).trans e6⟩
  · by_cases e : q = p
    · subst e
      exact absurd hk n3
    · obtain ⟨c, c1, c2, c3, c4⟩ := j5 q (by omega) hk
      exact ⟨c, c1, (pk_un e).trans c2, c3, c4⟩
  · by_cases e : q = p
    · subst e
      exact absurd hk n6
    · obtain ⟨c, c1, c2, c3⟩ := j6 q (by omega) hk
      exact ⟨c, c1, (pk_un e).trans c2, c3⟩
  · by_cases e : q = p
    · subst e
      rcases du_lp_in (K := K) s with z | ⟨c, c1, c2, c3⟩
      · exact absurd z hl
      · exact ⟨c, (j1 c c1).1, pk_us.trans c3, (j1 c c1).2, c2⟩
    · obtain ⟨c, c1, c2, c3⟩ := j7 q (by omega) hk
      exact ⟨c, c1, (pk_un e).trans c2, c3⟩
theorem du_J_other {K : Nat → Int32} {p : Nat} {m : du_M} (J : du_J K p m) (h1 : ¬ du_bg (K p)) (h2 : ¬ K p = 3) (h3 : ¬ K p = 6) (h4 : ¬ (K p = 7 ∨ K p = 8)) : du_J K (p + 1) m := by
  obtain ⟨j1, j2, j3, j4, j5, j6, j7⟩ := J
  refine ⟨fun c hc => ?_, Nat.le_succ_of_le j2, fun c hc hk => ?_, fun c hc hk => ?_, fun q hq hk => ?_, fun q hq hk => ?_, fun q hq hk => ?_⟩
  · exact ⟨Nat.lt_succ_of_lt (j1 c hc).1, (j1 c hc).2⟩
  · by_cases e : c = p
    · subst e
      exact absurd hk h1
    · rcases j3 c (by omega) hk with z | ⟨e1, e2, e3, e4⟩
      · exact Or.inl z
      · exact Or.inr ⟨e1, e2, by omega, e4⟩
  · by_cases e : c = p
    · subst e
      exact absurd hk h1
    · rcases j4 c (by omega) hk with z | ⟨e1, e2, e3, e4, e5, e6⟩
      · exact Or.inl z
      · exact Or.inr ⟨e1, e2, by omega, e4, e5, e6⟩
  · by_cases e : q = p
    · subst e
      exact absurd hk h2
    · exact j5 q (by omega) hk
  · by_cases e : q = p
    · subst e
      exact absurd hk h3
    · exact j6 q (by omega) hk
  · by_cases e : q = p
    · subst e
      exact absurd hk h4
    · exact j7 q (by omega) hk
theorem du_J_step {K : Nat → Int32} {p : Nat} {m m' : du_M} (hp : p < 2 ^ 31) (J : du_J K p m) (h : du_step K p m = some m') : du_J K (p + 1) m' := by
  obtain ⟨s, E, L, B⟩ := m
  by_cases h1 : du_bg (K p)
  · rw [du_s_open h1] at h
    cases h
    exact du_J_open J h1
  by_cases h3 : K p = 3
  · rw [du_s_else h3] at h
    cases s with
    | nil => cases h
    | cons b t =>
      by_cases z : K b = 2 ∧ L b = -1
      · have e : du_else K p (b :: t, E, L, B) = some (b :: t, E, upd L b (nI p), upd B p (nI b)) := if_pos z
        rw [e] at h
        cases h
        exact du_J_else hp J h3 z.1 z.2
      · have e : du_else K p (b :: t, E, L, B) = none := if_neg z
        rw [e] at h
        cases h
  by_cases h6 : K p = 6
  · rw [du_s_end h6] at h
    cases s with
    | nil => cases h
    | cons b t =>
      cases h
      exact du_J_end J h6
  by_cases h7 : K p = 7 ∨ K p = 8
  · rw [du_s_jump h7] at h
    by_cases z : du_lp K s = -1
    · rw [if_pos z] at h
      cases h
    · rw [if_neg z] at h
      cases h
      exact du_J_jump J h7 z
  rw [du_s_other h1 h3 h6 h7] at h
  cases h
  exact du_J_other J h1 h3 h6 h7
theorem du_J_run {K : Nat → Int32} : ∀ p m, p < 2 ^ 31 → du_run K p = some m → du_J K p m := by
  intro p
  induction p with
  | zero =>
    intro m _ h
    cases h
    exact du_J_0
  | succ p ih =>
    intro m hp h
    cases e : du_run K p with
    | none =>
      rw [du_run_n e] at h
      cases h
    | some m0 =>
      rw [du_run_s e] at h
      exact du_J_step (by omega) (ih m0 (by omega) e) h
/-! the two ways behind a token -/
def du_a (K E B : Nat → Int32) (p : Nat) : Int32 :=
  if K p = 3 then E (B p).toNatClampNeg
  else if K p = 6 then (if K (B p).toNatClampNeg = 2 then nI (p + 1) else B p)
  else if K p = 7 then E (B p).toNatClampNeg + 1
  else if K p = 8 then B p
  else if K p = 9 then -1
  else nI (p + 1)
def du_b (K E L : Nat → Int32) (p : Nat) : Int32 :=
  if K p = 2 then (if L p = -1 then E p else L p + 1)
  else if K p = 4 then E p + 1
  else -1
def du_in (n : Nat) (x : Int32) : Prop := x = -1 ∨ ∃ q, q ≤ n ∧ x = nI q
theorem du_a_in {K E L B : Nat → Int32} {n : Nat} (hn : n ≤ 40) (J : du_J K n ([], E, L, B)) {p : Nat} (hp : p < n) : du_in n (du_a K E B p) := by
  obtain ⟨_, _, j3, _, j5, j6, j7⟩ := J
  have cl : ∀ b, b < n → du_bg (K b) → ∃ e, e < n ∧ E b = nI e := by
    intro b hb hk
    rcases j3 b hb hk with z | ⟨e, e1, e2, e3⟩
    · cases z
    · exact ⟨e, e2, e3⟩
  unfold du_a
  by_cases h3 : K p = 3
  · rw [if_pos h3]
    obtain ⟨b, b1, b2, b3, _⟩ := j5 p hp h3
    obtain ⟨e, e1, e2⟩ := cl b (by omega) (Or.inl b3)
    have b2 : B p = nI b := b2
    rw [b2, nI_clamp (by omega), e2]
    exact Or.inr ⟨e, by omega, rfl⟩
  rw [if_neg h3]
  by_cases h6 : K p = 6
  · rw [if_pos h6]
    obtain ⟨b, b1, b2, b3⟩ := j6 p hp h6
    have b2 : B p = nI b := b2
    split
    · exact Or.inr ⟨p + 1, by omega, rfl⟩
    · exact Or.inr ⟨b, by omega, b2⟩
  rw [if_neg h6]
  by_cases h7 : K p = 7
  · rw [if_pos h7]
    obtain ⟨b, b1, b2, b3, _⟩ := j7 p hp (Or.inl h7)
    obtain ⟨e, e1, e2⟩ := cl b (by omega) b3
    have b2 : B p = nI b := b2
    rw [b2, nI_clamp (by omega), e2, nI_1]
    exact Or.inr ⟨e + 1, by omega, rfl⟩
  rw [if_neg h7]
  by_cases h8 : K p = 8
  · rw [if_pos h8]
    obtain ⟨b, b1, b2, b3, _⟩ := j7 p hp (Or.inr h8)
    exact Or.inr ⟨b, by omega, b2⟩
  rw [if_neg h8]
  split
  · exact Or.inl rfl
  · exact Or.inr ⟨p + 1, by omega, rfl⟩
theorem du_b_in {K E L B : Nat → Int32} {n : Nat} (J : du_J K n ([], E, L, B)) {p : Nat} (hp : p < n) : du_in n (du_b K E L p) := by
  obtain ⟨_, _, j3, j4, _, _, _⟩ := J
  have cl : ∀ b, b < n → du_bg (K b) → ∃ e, e < n ∧ E b = nI e := by
    intro b hb hk
    rcases j3 b hb hk with z | ⟨e, e1, e2, e3⟩
    · cases z
    · exact ⟨e, e2, e3⟩
  unfold du_b
  by_cases h2 : K p = 2
  · rw [if_pos h2]
    split
    · obtain ⟨e, e1, e2⟩ := cl p hp (Or.inl h2)
      exact Or.inr ⟨e, by omega, e2⟩
    · next hl =>
      rcases j4 p hp (Or.inl h2) with z | ⟨e, e1, e2, e3, _⟩
      · exact absurd z hl
      · have e3 : L p = nI e := e3
        rw [e3, nI_1]
        exact Or.inr ⟨e + 1, by omega, rfl⟩
  rw [if_neg h2]
  by_cases h4 : K p = 4
  · rw [if_pos h4]
    obtain ⟨e, e1, e2⟩ := cl p hp (Or.inr (Or.inl h4))
    rw [e2, nI_1]
    exact Or.inr ⟨e + 1, by omega, rfl⟩
  rw [if_neg h4]
  exact Or.inl rfl
theorem du_a_set {K E B : Nat → Int32} {p : Nat} (h : K p = 0) : du_a K E B p = nI (p + 1) := by
  unfold du_a
  rw [if_neg (by rw [h]; decide), if_neg (by rw [h]; decide), if_neg (by rw [h]; decide), if_neg (by rw [h]; decide), if_neg (by rw [h]; decide)]
theorem du_b_set {K E L : Nat → Int32} {p : Nat} (h : K p = 0) : du_b K E L p = -1 := by
  unfold du_b
  rw [if_neg (by rw [h]; decide), if_neg (by rw [h]; decide)]
end
section
/-! bits of a mask of variables (Int32), bits of a set of places (Int64) -/
theorem du_tp2 : ∀ l, l < 32 → ((1 : Int32) <<< (nI l &&& 31)).toBitVec = BitVec.twoPow 32 l := by decide +kernel
theorem du_b1 {v i : Nat} (hv : v < 32) : bt ((1 : Int32) <<< (nI v &&& 31)) i = decide (v = i) := by
  unfold bt
  rw [du_tp2 v hv, BitVec.getLsbD_twoPow]
  simp [hv]
theorem du_63 (i : Nat) : bt 63 i = decide (i < 6) := by
  rcases Nat.lt_or_ge i 32 with h | h
  · exact (by decide +kernel : ∀ i, i < 32 → bt 63 i = decide (i < 6)) i h
  · rw [b_big h, decide_eq_false (by omega)]
/-- a mask meets the bit of v: the bit is there -/
theorem du_and0 {m : Int32} {v : Nat} (hv : v < 32) : (m &&& ((1 : Int32) <<< (nI v &&& 31))) = 0 ↔ bt m v = false := by
  constructor
  · intro h
    have e : bt (m &&& ((1 : Int32) <<< (nI v &&& 31))) v = false := by rw [h]; exact b_0 v
    rw [b_and, du_b1 hv] at e
    simpa using e
  · intro h
    apply b_ext
    intro i hi
    rw [b_and, du_b1 hv, b_0]
    by_cases e : v = i
    · subst e
      rw [h]
      rfl
    · simp [e]
def du_t (s : Int64) (j : Nat) : Bool := s.toBitVec.getLsbD j
theorem du_t_or (a b : Int64) (j : Nat) : du_t (a ||| b) j = (du_t a j || du_t b j) := by
  unfold du_t
  rw [Int64.toBitVec_or, BitVec.getLsbD_or]
theorem du_t_0 (j : Nat) : du_t 0 j = false := BitVec.getLsbD_zero
theorem du_sm : ∀ k, k < 64 → (((nI k).toInt64 &&& 63).toBitVec.smod 64).toNat = k := by decide +kernel
theorem du_tpL : ∀ l, l < 64 → ((1 : Int64) <<< ((nI l).toInt64 &&& 63)).toBitVec = BitVec.twoPow 64 l := by decide +kernel
theorem du_t_1 {l j : Nat} (hl : l < 64) : du_t ((1 : Int64) <<< ((nI l).toInt64 &&& 63)) j = decide (l = j) := by
  unfold du_t
  rw [du_tpL l hl, BitVec.getLsbD_twoPow]
  simp [hl]
theorem du_at (s : Int64) {j : Nat} (hj : j < 64) : ((s >>> ((nI j).toInt64 &&& 63)) &&& 1) = 1 ↔ du_t s j = true := by
  have e : (s >>> ((nI j).toInt64 &&& 63)).toBitVec = s.toBitVec.sshiftRight j := by
    rw [Int64.toBitVec_shiftRight]
    show s.toBitVec.sshiftRight (((nI j).toInt64 &&& 63).toBitVec.smod 64).toNat = _
    rw [du_sm j hj]
  rw [← Int64.toBitVec_inj, Int64.toBitVec_and, e]
  show s.toBitVec.sshiftRight j &&& 1#64 = 1#64 ↔ _
  unfold du_t
  constructor
  · intro h
    have t := congrArg (fun x => x.getLsbD 0) h
    simp only [BitVec.getLsbD_and, BitVec.getLsbD_sshiftRight] at t
    simpa [hj] using t
  · intro h
    apply BitVec.eq_of_getLsbD_eq
    intro i hi
    rw [BitVec.getLsbD_and, BitVec.getLsbD_sshiftRight]
    cases i with
    | zero => simp [hj, h]
    | succ i => simp
theorem du_t_from1 (j : Nat) : du_t 1 j = decide (0 = j) := by
  have e : (1 : Int64) = (1 : Int64) <<< ((nI 0).toInt64 &&& 63) := by decide +kernel
  rw [e, du_t_1 (by decide)]
theorem du_nb0 : vp_nar .boolean 0 = 0 := by decide
theorem du_nb1 : vp_nar .boolean 1 = 1 := by decide
theorem du_n1 {q : Nat} (h : q < 2 ^ 31) : ¬ (-1 : Int32) = nI q := fun e => du_nm1 h e.symm
theorem du_in41 {n : Nat} (hn : n ≤ 40) {q : Nat} (hq : q ≤ n) : vp_in (nI q) 41 := vp_in_nI (by omega) (by decide)
end
section
/-! the component's matching against the pure one -/
def du_ch (K oO oL : Nat → Int32) : List Nat → Prop
  | [] => True
  | b :: t => oO b = du_tp t ∧ oL b = du_lp K t ∧ du_ch K oO oL t
theorem du_ch_upd {K oO oL : Nat → Int32} {p : Nat} {x y : Int32} : ∀ s : List Nat, (∀ b, b ∈ s → b < p) → du_ch K oO oL s → du_ch K (upd oO p x) (upd oL p y) s := by
  intro s
  induction s with
  | nil => exact fun _ _ => trivial
  | cons b t ih =>
    intro hb h
    have hbp := hb b (List.mem_cons_self ..)
    exact ⟨(pk_un (by omega)).trans h.1, (pk_un (by omega)).trans h.2.1, ih (fun c hc => hb c (List.mem_cons_of_mem _ hc)) h.2.2⟩
def du_X (K : Nat → Int32) (p : Nat) (s : List Nat) (E L B : Nat → Int32) (io il : Int32) (en el be oO oL : Nat → Int32) : Prop :=
  du_run K p = some (s, E, L, B) ∧ io = du_tp s ∧ il = du_lp K s ∧ du_ch K oO oL s ∧ (∀ q, q < p → du_bg (K q) → ¬ q ∈ s → en q = E q) ∧ (∀ q, q < p → du_bg (K q) → el q = L q) ∧ (∀ q, q < p → (K q = 3 ∨ K q = 6 ∨ K q = 7 ∨ K q = 8) → be q = B q)
section
variable {sz io il wf : Int32} {K V en el be oO oL fw sw ra sa wa : Nat → Int32} {p : Nat} {s : List Nat} {E L B : Nat → Int32}
theorem du_X_open (hX : du_X K p s E L B io il en el be oO oL) (hp : p < 40) (h : du_bg (K p)) : du_X K (p + 1) (p :: s) E (upd L p (-1)) B (nI p) (if K p = 2 then il else nI p) en (upd el p (-1)) be (upd oO p io) (upd oL p il) := by
  obtain ⟨hr, rfl, rfl, hc, h1, h2, h3⟩ := hX
  have J := du_J_run p _ (by omega) hr
  have j1 : ∀ b, b ∈ s → b < p ∧ du_bg (K b) := J.1
  refine ⟨?_, rfl, rfl, ⟨pk_us, pk_us, du_ch_upd s (fun b hb => (j1 b hb).1) hc⟩, fun q hq hk hn => ?_, fun q hq hk => ?_, fun q hq hk => ?_⟩
  · rw [du_run_s hr, du_s_open h]
  · have a : q ≠ p := fun e => hn (by rw [e]; exact List.mem_cons_self ..)
    exact h1 q (by omega) hk (fun z => hn (List.mem_cons_of_mem _ z))
  · by_cases e : q = p
    · subst e
      exact pk_us.trans pk_us.symm
    · exact (pk_un e).trans ((h2 q (by omega) hk).trans (pk_un e).symm)
  · by_cases e : q = p
    · subst e
      rcases hk with hk | hk | hk | hk <;> rw [hk] at h <;> exact absurd h (by decide)
    · exact h3 q (by omega) hk
theorem du_X_other (hX : du_X K p s E L B io il en el be oO oL) (h1 : ¬ du_bg (K p)) (h2 : ¬ K p = 3) (h3 : ¬ K p = 6) (h4 : ¬ (K p = 7 ∨ K p = 8)) : du_X K (p + 1) s E L B io il en el be oO oL := by
  obtain ⟨hr, e1, e2, hc, a1, a2, a3⟩ := hX
  refine ⟨?_, e1, e2, hc, fun q hq hk hn => ?_, fun q hq hk => ?_, fun q hq hk => ?_⟩
  · rw [du_run_s hr, du_s_other h1 h2 h3 h4]
  · have a : q ≠ p := fun e => h1 (e ▸ hk)
    exact a1 q (by omega) hk hn
  · have a : q ≠ p := fun e => h1 (e ▸ hk)
    exact a2 q (by omega) hk
  · have a : q ≠ p := by
      intro e
      subst e
      rcases hk with hk | hk | hk
      · exact h2 hk
      · exact h3 hk
      · exact h4 hk
    exact a3 q (by omega) hk
theorem du_X_jump (hX : du_X K p s E L B io il en el be oO oL) (h : K p = 7 ∨ K p = 8) (hl : ¬ il = -1) : du_X K (p + 1) s E L (upd B p il) io il en el (upd be p il) oO oL := by
  obtain ⟨hr, e1, rfl, hc, a1, a2, a3⟩ := hX
  have nb : ¬ du_bg (K p) := by rcases h with h | h <;> rw [h] <;> decide
  refine ⟨?_, e1, rfl, hc, fun q hq hk hn => ?_, fun q hq hk => ?_, fun q hq hk => ?_⟩
  · rw [du_run_s hr, du_s_jump h]
    exact if_neg hl
  · have a : q ≠ p := fun e => nb (e ▸ hk)
    exact a1 q (by omega) hk hn
  · have a : q ≠ p := fun e => nb (e ▸ hk)
    exact a2 q (by omega) hk
  · by_cases e : q = p
    · subst e
      exact pk_us.trans pk_us.symm
    · exact (pk_un e).trans ((a3 q (by omega) hk).trans (pk_un e).symm)
theorem du_X_else {b : Nat} {t : List Nat} (hX : du_X K p (b :: t) E L B io il en el be oO oL) (h : K p = 3) (hb : K b = 2) (hl : L b = -1) : du_X K (p + 1) (b :: t) E (upd L b (nI p)) (upd B p (nI b)) io il en (upd el b (nI p)) (upd be p (nI b)) oO oL := by
  obtain ⟨hr, e1, e2, hc, a1, a2, a3⟩ := hX
  have nb : ¬ du_bg (K p) := by rw [h]; decide
  refine ⟨?_, e1, e2, hc, fun q hq hk hn => ?_, fun q hq hk => ?_, fun q hq hk => ?_⟩
  · rw [du_run_s hr, du_s_else h]
    exact if_pos ⟨hb, hl⟩
  · have a : q ≠ p := fun e => nb (e ▸ hk)
    exact a1 q (by omega) hk hn
  · have a : q ≠ p := fun e => nb (e ▸ hk)
    by_cases e : q = b
    · subst e
      exact pk_us.trans pk_us.symm
    · exact (pk_un e).trans ((a2 q (by omega) hk).trans (pk_un e).symm)
  · by_cases e : q = p
    · subst e
      exact pk_us.trans pk_us.symm
    · exact (pk_un e).trans ((a3 q (by omega) hk).trans (pk_un e).symm)
theorem du_X_end {b : Nat} {t : List Nat} (hX : du_X K p (b :: t) E L B io il en el be oO oL) (h : K p = 6) : du_X K (p + 1) t (upd E b (nI p)) L (upd B p (nI b)) (oO b) (oL b) (upd en b (nI p)) el (upd be p (nI b)) oO oL := by
  obtain ⟨hr, e1, e2, hc, a1, a2, a3⟩ := hX
  have nb : ¬ du_bg (K p) := by rw [h]; decide
  refine ⟨?_, hc.1, hc.2.1, hc.2.2, fun q hq hk hn => ?_, fun q hq hk => ?_, fun q hq hk => ?_⟩
  · rw [du_run_s hr, du_s_end h]
    rfl
  · have a : q ≠ p := fun e => nb (e ▸ hk)
    by_cases e : q = b
    · subst e
      exact pk_us.trans pk_us.symm
    · refine (pk_un e).trans ((a1 q (by omega) hk (fun z => ?_)).trans (pk_un e).symm)
      rcases List.mem_cons.mp z with z | z
      · exact e z
      · exact hn z
  · have a : q ≠ p := fun e => nb (e ▸ hk)
    exact a2 q (by omega) hk
  · by_cases e : q = p
    · subst e
      exact pk_us.trans pk_us.symm
    · exact (pk_un e).trans ((a3 q (by omega) hk).trans (pk_un e).symm)
theorem du_w_open {post : SX → Prop} (hX : du_X K p s E L B io il en el be oO oL) (hp : p < 40) (h : du_bg (K p))
    (ok : ∀ (s : List Nat) (E L B : Nat → Int32) (io il : Int32) (en el be oO oL : Nat → Int32), du_X K (p + 1) s E L B io il en el be oO oL → post (sz, io, il, wf, K, V, en, el, be, oO, oL, fw, sw, ra, sa, wa)) : wpX_open post (sz, io, il, wf, K, V, en, el, be, oO, oL, fw, sw, ra, sa, wa) (nI p) := by
  have hcl : (nI p).toNatClampNeg = p := nI_clamp (by omega)
  have hin : vp_in (nI p) 40 := vp_in_nI hp (by decide)
  have hX' := du_X_open hX hp h
  refine ⟨hin, fun a1 e1 => ⟨hin, fun a2 e2 => ⟨hin, fun a3 e3 => ⟨hin, ?_⟩⟩⟩⟩
  rw [hcl] at e1 e2 e3 ⊢
  subst e1 e2 e3
  by_cases h2 : K p = 2
  · rw [if_pos h2] at hX'
    exact br_t h2 (ok _ _ _ _ _ _ _ _ _ _ _ hX')
  · rw [if_neg h2] at hX'
    exact br_f h2 (ok _ _ _ _ _ _ _ _ _ _ _ hX')
theorem du_w_else {post : Int32 → SX → Prop} (hX : du_X K p s E L B io il en el be oO oL) (hp : p < 40) (h : K p = 3)
    (ok : ∀ (s : List Nat) (E L B : Nat → Int32) (io il : Int32) (en el be oO oL : Nat → Int32), du_X K (p + 1) s E L B io il en el be oO oL → post 1 (sz, io, il, wf, K, V, en, el, be, oO, oL, fw, sw, ra, sa, wa))
    (no : du_run K (p + 1) = none → post 0 (sz, io, il, wf, K, V, en, el, be, oO, oL, fw, sw, ra, sa, wa)) : wpX_matchElse post (sz, io, il, wf, K, V, en, el, be, oO, oL, fw, sw, ra, sa, wa) (nI p) := by
  have hcl : (nI p).toNatClampNeg = p := nI_clamp (by omega)
  have hin : vp_in (nI p) 40 := vp_in_nI hp (by decide)
  have hr : du_run K p = some (s, E, L, B) := hX.1
  have J := du_J_run p _ (by omega) hr
  have e1 : io = du_tp s := hX.2.1
  cases s with
  | nil =>
    subst e1
    exact br_t rfl (no (by rw [du_run_s hr, du_s_else h]; rfl))
  | cons b t =>
    have e1 : io = nI b := e1
    have hb : b < p := (J.1 b (List.mem_cons_self ..)).1
    have hbg : du_bg (K b) := (J.1 b (List.mem_cons_self ..)).2
    have hcb : (nI b).toNatClampNeg = b := nI_clamp (by omega)
    have hib : vp_in (nI b) 40 := vp_in_nI (by omega) (by decide)
    have hel : el b = L b := hX.2.2.2.2.2.1 b hb hbg
    subst e1
    refine br_f (du_nm1 (by omega)) ⟨hib, ?_⟩
    rw [hcb]
    by_cases h2 : K b = 2
    · refine br_t h2 ⟨hib, ?_⟩
      by_cases hl : L b = -1
      · refine br_t (hel.trans hl) ⟨hin, fun x ex => ⟨hib, fun y ey => ?_⟩⟩
        rw [hcl] at ex
        subst ex ey
        exact ok _ _ _ _ _ _ _ _ _ _ _ (du_X_else hX h h2 hl)
      · refine br_f (fun z => hl (hel.symm.trans z)) (no ?_)
        rw [du_run_s hr, du_s_else h]
        exact if_neg (fun z => hl z.2)
    · refine br_f h2 (no ?_)
      rw [du_run_s hr, du_s_else h]
      exact if_neg (fun z => h2 z.1)
theorem du_w_end {post : Int32 → SX → Prop} (hX : du_X K p s E L B io il en el be oO oL) (hp : p < 40) (h : K p = 6)
    (ok : ∀ (s : List Nat) (E L B : Nat → Int32) (io il : Int32) (en el be oO oL : Nat → Int32), du_X K (p + 1) s E L B io il en el be oO oL → post 1 (sz, io, il, wf, K, V, en, el, be, oO, oL, fw, sw, ra, sa, wa))
    (no : du_run K (p + 1) = none → post 0 (sz, io, il, wf, K, V, en, el, be, oO, oL, fw, sw, ra, sa, wa)) : wpX_matchEnd post (sz, io, il, wf, K, V, en, el, be, oO, oL, fw, sw, ra, sa, wa) (nI p) := by
  have hcl : (nI p).toNatClampNeg = p := nI_clamp (by omega)
  have hin : vp_in (nI p) 40 := vp_in_nI hp (by decide)
  have hr : du_run K p = some (s, E, L, B) := hX.1
  have J := du_J_run p _ (by omega) hr
  have e1 : io = du_tp s := hX.2.1
  cases s with
  | nil =>
    subst e1
    exact br_t rfl (no (by rw [du_run_s hr, du_s_end h]; rfl))
  | cons b t =>
    have e1 : io = nI b := e1
    have hb : b < p := (J.1 b (List.mem_cons_self ..)).1
    have hcb : (nI b).toNatClampNeg = b := nI_clamp (by omega)
    have hib : vp_in (nI b) 40 := vp_in_nI (by omega) (by decide)
    subst e1
    refine br_f (du_nm1 (by omega)) ⟨hin, fun a1 x1 => ⟨hib, fun a2 x2 => ⟨hib, fun a3 x3 => ⟨hib, fun a4 x4 => ?_⟩⟩⟩⟩
    rw [hcl] at x1
    rw [hcb] at x2 x3 x4
    subst x1 x2 x3 x4
    exact ok _ _ _ _ _ _ _ _ _ _ _ (du_X_end hX h)
theorem du_w_tok {post : Int32 → SX → Prop} {j : Nat} (hX : du_X K p s E L B io il en el be oO oL) (hp : p < 40) (hj : j < 10) (hk : K p = nI j)
    (ok : ∀ (s : List Nat) (E L B : Nat → Int32) (io il : Int32) (en el be oO oL : Nat → Int32), du_X K (p + 1) s E L B io il en el be oO oL → post 1 (sz, io, il, wf, K, V, en, el, be, oO, oL, fw, sw, ra, sa, wa))
    (no : du_run K (p + 1) = none → ∀ be : Nat → Int32, post 0 (sz, io, il, wf, K, V, en, el, be, oO, oL, fw, sw, ra, sa, wa)) : wpX_matchToken post (sz, io, il, wf, K, V, en, el, be, oO, oL, fw, sw, ra, sa, wa) (nI p) := by
  have hcl : (nI p).toNatClampNeg = p := nI_clamp (by omega)
  have hin : vp_in (nI p) 40 := vp_in_nI hp (by decide)
  have hr : du_run K p = some (s, E, L, B) := hX.1
  have jump : (K p = 7 ∨ K p = 8) → wX_matchToken_67 post (nI p) sz io il wf K V en el be oO oL fw sw ra sa wa := by
    intro h
    refine ⟨hin, fun a1 x1 => ?_⟩
    rw [hcl] at x1
    subst x1
    by_cases z : il = -1
    · refine br_t z (no ?_ _)
      rw [du_run_s hr, du_s_jump h]
      exact if_pos (hX.2.2.1.symm.trans z)
    · exact br_f z (ok _ _ _ _ _ _ _ _ _ _ _ (du_X_jump hX h z))
  have opn : du_bg (K p) → wX_matchToken_48 post (nI p) sz io il wf K V en el be oO oL fw sw ra sa wa := by
    intro h
    unfold wX_matchToken_48
    exact du_w_open hX hp h (fun s E L B io il en el be oO oL h => ok s E L B io il en el be oO oL h)
  have oth : ¬ du_bg (K p) → ¬ K p = 3 → ¬ K p = 6 → ¬ (K p = 7 ∨ K p = 8) → post 1 (sz, io, il, wf, K, V, en, el, be, oO, oL, fw, sw, ra, sa, wa) := fun h1 h2 h3 h4 => ok _ _ _ _ _ _ _ _ _ _ _ (du_X_other hX h1 h2 h3 h4)
  refine ⟨hin, fun k ek => ?_⟩
  rw [hcl] at ek
  have kc : k = 0 ∨ k = 1 ∨ k = 2 ∨ k = 3 ∨ k = 4 ∨ k = 5 ∨ k = 6 ∨ k = 7 ∨ k = 8 ∨ k = 9 := by
    rw [ek, hk]
    exact (by decide +kernel : ∀ j, j < 10 → nI j = 0 ∨ nI j = 1 ∨ nI j = 2 ∨ nI j = 3 ∨ nI j = 4 ∨ nI j = 5 ∨ nI j = 6 ∨ nI j = 7 ∨ nI j = 8 ∨ nI j = 9) j hj
  rcases kc with h | h | h | h | h | h | h | h | h | h <;> rw [h] at ek ⊢
  · exact br_t (by decide) (oth (by rw [← ek]; decide) (by rw [← ek]; decide) (by rw [← ek]; decide) (by rw [← ek]; decide))
  · exact br_t (by decide) (oth (by rw [← ek]; decide) (by rw [← ek]; decide) (by rw [← ek]; decide) (by rw [← ek]; decide))
  · exact br_f (by decide) (br_f (by decide) (br_t rfl (opn (by rw [← ek]; decide))))
  · refine br_f (by decide) (br_f (by decide) (br_f (by decide) (br_t rfl ?_)))
    exact du_w_else hX hp ek.symm (fun s E L B io il en el be oO oL h => ⟨rfl, ok s E L B io il en el be oO oL h⟩) (fun h => ⟨rfl, no h _⟩)
  · exact br_f (by decide) (br_f (by decide) (br_f (by decide) (br_f (by decide) (br_t rfl (opn (by rw [← ek]; decide))))))
  · exact br_f (by decide) (br_f (by decide) (br_f (by decide) (br_f (by decide) (br_f (by decide) (br_t rfl (opn (by rw [← ek]; decide)))))))
  · refine br_f (by decide) (br_f (by decide) (br_f (by decide) (br_f (by decide) (br_f (by decide) (br_f (by decide) (br_t rfl ?_))))))
    exact du_w_end hX hp ek.symm (fun s E L B io il en el be oO oL h => ⟨rfl, ok s E L B io il en el be oO oL h⟩) (fun h => ⟨rfl, no h _⟩)
  · exact br_f (by decide) (br_f (by decide) (br_f (by decide) (br_f (by decide) (br_f (by decide) (br_f (by decide) (br_f (by decide) (br_t rfl (jump (Or.inl ek.symm)))))))))
  · exact br_f (by decide) (br_f (by decide) (br_f (by decide) (br_f (by decide) (br_f (by decide) (br_f (by decide) (br_f (by decide) (br_f (by decide) (br_t rfl (jump (Or.inr ek.symm))))))))))
  · exact br_f (by decide) (br_t (by decide) (oth (by rw [← ek]; decide) (by rw [← ek]; decide) (by rw [← ek]; decide) (by rw [← ek]; decide)))
end
/-- the tokens of a program: kinds 0 to 9, variables 0 to 5 where looked at -/
def du_ok (n : Nat) (K V : Nat → Int32) : Prop := ∀ p, p < n → (∃ j, j < 10 ∧ K p = nI j) ∧ ((K p = 0 ∨ K p = 1) → ∃ v, v < 6 ∧ V p = nI v)
/-- what the component's matching leaves where the program is sound -/
def du_G (n : Nat) (K E L B en el be : Nat → Int32) : Prop :=
  du_run K n = some ([], E, L, B) ∧ (∀ q, q < n → du_bg (K q) → en q = E q) ∧ (∀ q, q < n → du_bg (K q) → el q = L q) ∧ (∀ q, q < n → (K q = 3 ∨ K q = 6 ∨ K q = 7 ∨ K q = 8) → be q = B q)
theorem du_w_toks {post : Int32 → SX → Prop} {n : Nat} {wf : Int32} {K V fw sw ra sa wa : Nat → Int32} (hn : n ≤ 40) (hk : du_ok n K V)
    (yes : ∀ (E L B : Nat → Int32) (io il : Int32) (en el be oO oL : Nat → Int32), du_G n K E L B en el be → post 1 ((nI n), io, il, wf, K, V, en, el, be, oO, oL, fw, sw, ra, sa, wa))
    (no : ¬ du_W K n → ∀ (io il : Int32) (en el be oO oL : Nat → Int32), post 0 ((nI n), io, il, wf, K, V, en, el, be, oO, oL, fw, sw, ra, sa, wa)) :
    ∀ (d p : Nat) (s : List Nat) (E L B : Nat → Int32) (io il : Int32) (en el be oO oL : Nat → Int32), p + d = n → du_X K p s E L B io il en el be oO oL → wX_matchTokens_12 post (d + 1) (nI p) (nI n) io il wf K V en el be oO oL fw sw ra sa wa := by
  intro d
  induction d with
  | zero =>
    intro p s E L B io il en el be oO oL hp hX
    have e : p = n := hp
    subst e
    refine br_t (nI_le (Nat.le_refl _) (by omega)) ?_
    obtain ⟨hr, e1, e2, hc, a1, a2, a3⟩ := hX
    cases s with
    | nil => exact br_t e1 (yes E L B io il en el be oO oL ⟨hr, fun q hq hk => a1 q hq hk (fun z => by cases z), a2, a3⟩)
    | cons b t =>
      have J := du_J_run p _ (by omega) hr
      have hb : b < p := (J.1 b (List.mem_cons_self ..)).1
      refine br_f (fun z => du_nm1 (q := b) (by omega) (e1.symm.trans z)) (no ?_ io il en el be oO oL)
      intro ⟨E', L', B', w⟩
      rw [hr] at w
      cases w
  | succ d ih =>
    intro p s E L B io il en el be oO oL hp hX
    refine br_f (nI_ge (by omega) (by omega)) ?_
    obtain ⟨⟨j, hj, hkj⟩, _⟩ := hk p (by omega)
    refine du_w_tok hX (by omega) hj hkj (fun s E L B io il en el be oO oL h => ?_) (fun h be => ?_)
    · refine br_f (by decide) (fun x ex => ?_)
      rw [ex, nI_1]
      exact ih (p + 1) s E L B io il en el be oO oL (by omega) h
    · exact br_t rfl (no (du_nW h (by omega)) io il en el be oO oL)
theorem du_w_match {post : Int32 → SX → Prop} {n : Nat} {wf : Int32} {K V fw sw ra sa wa : Nat → Int32} (hn : n ≤ 40) (hk : du_ok n K V)
    (yes : ∀ (E L B : Nat → Int32) (io il : Int32) (en el be oO oL : Nat → Int32), du_G n K E L B en el be → post 1 ((nI n), io, il, wf, K, V, en, el, be, oO, oL, fw, sw, ra, sa, wa))
    (no : ¬ du_W K n → ∀ (io il : Int32) (en el be oO oL : Nat → Int32), post 0 ((nI n), io, il, wf, K, V, en, el, be, oO, oL, fw, sw, ra, sa, wa))
    (io il : Int32) (en el be oO oL : Nat → Int32) : wpX_matchTokens post ((nI n), io, il, wf, K, V, en, el, be, oO, oL, fw, sw, ra, sa, wa) :=
  ⟨n + 1, du_w_toks hn hk yes no n 0 [] _ _ _ (-1) (-1) en el be oO oL (Nat.zero_add n) ⟨rfl, rfl, rfl, trivial, fun q hq => absurd hq (Nat.not_lt_zero q), fun q hq => absurd hq (Nat.not_lt_zero q), fun q hq => absurd hq (Nat.not_lt_zero q)⟩⟩
end
section
/-! the two ways that the component finds -/
section
variable {post : Int32 → Prop} {sz io il wf : Int32} {n : Nat} {K V E L B en el be oO oL fw sw ra sa wa : Nat → Int32} {p : Nat}
theorem du_kc {k : Int32} {j : Nat} (hj : j < 10) (hk : k = nI j) : k = 0 ∨ k = 1 ∨ k = 2 ∨ k = 3 ∨ k = 4 ∨ k = 5 ∨ k = 6 ∨ k = 7 ∨ k = 8 ∨ k = 9 := by
  rw [hk]
  exact (by decide +kernel : ∀ j, j < 10 → nI j = 0 ∨ nI j = 1 ∨ nI j = 2 ∨ nI j = 3 ∨ nI j = 4 ∨ nI j = 5 ∨ nI j = 6 ∨ nI j = 7 ∨ nI j = 8 ∨ nI j = 9) j hj
theorem du_a3 (h : K p = 3) : du_a K E B p = E (B p).toNatClampNeg := if_pos h
theorem du_a6 (h : K p = 6) : du_a K E B p = if K (B p).toNatClampNeg = 2 then nI (p + 1) else B p := by
  unfold du_a
  rw [if_neg (by rw [h]; decide), if_pos h]
theorem du_a7 (h : K p = 7) : du_a K E B p = E (B p).toNatClampNeg + 1 := by
  unfold du_a
  rw [if_neg (by rw [h]; decide), if_neg (by rw [h]; decide), if_pos h]
theorem du_a8 (h : K p = 8) : du_a K E B p = B p := by
  unfold du_a
  rw [if_neg (by rw [h]; decide), if_neg (by rw [h]; decide), if_neg (by rw [h]; decide), if_pos h]
theorem du_a9 (h : K p = 9) : du_a K E B p = -1 := by
  unfold du_a
  rw [if_neg (by rw [h]; decide), if_neg (by rw [h]; decide), if_neg (by rw [h]; decide), if_neg (by rw [h]; decide), if_pos h]
theorem du_aO (h3 : ¬ K p = 3) (h6 : ¬ K p = 6) (h7 : ¬ K p = 7) (h8 : ¬ K p = 8) (h9 : ¬ K p = 9) : du_a K E B p = nI (p + 1) := by
  unfold du_a
  rw [if_neg h3, if_neg h6, if_neg h7, if_neg h8, if_neg h9]
theorem du_b2 (h : K p = 2) : du_b K E L p = if L p = -1 then E p else L p + 1 := if_pos h
theorem du_b4 (h : K p = 4) : du_b K E L p = E p + 1 := by
  unfold du_b
  rw [if_neg (by rw [h]; decide), if_pos h]
theorem du_bO (h2 : ¬ K p = 2) (h4 : ¬ K p = 4) : du_b K E L p = -1 := by
  unfold du_b
  rw [if_neg h2, if_neg h4]
theorem du_w_first (hn : n ≤ 40) (hk : du_ok n K V) (G : du_G n K E L B en el be) (hp : p < n) (h : post (du_a K E B p)) : wpX_firstWayFrom post (sz, io, il, wf, K, V, en, el, be, oO, oL, fw, sw, ra, sa, wa) (nI p) := by
  have hcl : (nI p).toNatClampNeg = p := nI_clamp (by omega)
  have hin : vp_in (nI p) 40 := vp_in_nI (by omega) (by decide)
  obtain ⟨⟨j, hj, hkj⟩, _⟩ := hk p hp
  obtain ⟨hr, g1, g2, g3⟩ := G
  obtain ⟨_, _, _, _, j5, j6, j7⟩ := du_J_run n _ (by omega) hr
  refine ⟨hin, fun k ek => ?_⟩
  rw [hcl] at ek ⊢
  have nx : nI p + 1 = nI (p + 1) := nI_1 p
  rcases du_kc hj (ek.trans hkj) with z | z | z | z | z | z | z | z | z | z <;> rw [z] at ek ⊢
  · refine br_t (by decide) ?_
    rw [nx, ← du_aO (K := K) (E := E) (B := B) (by rw [← ek]; decide) (by rw [← ek]; decide) (by rw [← ek]; decide) (by rw [← ek]; decide) (by rw [← ek]; decide)]
    exact h
  · refine br_t (by decide) ?_
    rw [nx, ← du_aO (K := K) (E := E) (B := B) (by rw [← ek]; decide) (by rw [← ek]; decide) (by rw [← ek]; decide) (by rw [← ek]; decide) (by rw [← ek]; decide)]
    exact h
  · refine br_t (by decide) ?_
    rw [nx, ← du_aO (K := K) (E := E) (B := B) (by rw [← ek]; decide) (by rw [← ek]; decide) (by rw [← ek]; decide) (by rw [← ek]; decide) (by rw [← ek]; decide)]
    exact h
  · obtain ⟨b, b1, b2, b3, b4⟩ := j5 p hp ek.symm
    have b2 : B p = nI b := b2
    have e1 : be p = nI b := (g3 p hp (Or.inl ek.symm)).trans b2
    have hcb : (nI b).toNatClampNeg = b := nI_clamp (by omega)
    refine br_f (by decide) (br_f (by decide) (br_t rfl ⟨hin, ?_⟩))
    rw [du_a3 ek.symm, b2, hcb, ← g1 b (by omega) (Or.inl b3)] at h
    rw [e1, hcb]
    exact ⟨vp_in_nI (by omega) (by decide), h⟩
  · refine br_f (by decide) (br_f (by decide) (br_f (by decide) (br_t rfl ?_)))
    rw [nx, ← du_aO (K := K) (E := E) (B := B) (by rw [← ek]; decide) (by rw [← ek]; decide) (by rw [← ek]; decide) (by rw [← ek]; decide) (by rw [← ek]; decide)]
    exact h
  · refine br_f (by decide) (br_f (by decide) (br_f (by decide) (br_f (by decide) (br_t rfl ?_))))
    rw [nx, ← du_aO (K := K) (E := E) (B := B) (by rw [← ek]; decide) (by rw [← ek]; decide) (by rw [← ek]; decide) (by rw [← ek]; decide) (by rw [← ek]; decide)]
    exact h
  · obtain ⟨b, b1, b2, b3⟩ := j6 p hp ek.symm
    have b2 : B p = nI b := b2
    have e1 : be p = nI b := (g3 p hp (Or.inr (Or.inl ek.symm))).trans b2
    have hcb : (nI b).toNatClampNeg = b := nI_clamp (by omega)
    refine br_f (by decide) (br_f (by decide) (br_f (by decide) (br_f (by decide) (br_f (by decide) (br_t rfl ⟨hin, ?_⟩)))))
    rw [du_a6 ek.symm, b2, hcb] at h
    rw [e1, hcb]
    refine ⟨vp_in_nI (by omega) (by decide), ?_⟩
    by_cases y : K b = 2
    · rw [if_pos y] at h
      exact br_t y (by rw [nx]; exact h)
    · rw [if_neg y] at h
      exact br_f y ⟨hin, h⟩
  · obtain ⟨b, b1, b2, b3, b4⟩ := j7 p hp (Or.inl ek.symm)
    have b2 : B p = nI b := b2
    have e1 : be p = nI b := (g3 p hp (Or.inr (Or.inr (Or.inl ek.symm)))).trans b2
    have hcb : (nI b).toNatClampNeg = b := nI_clamp (by omega)
    refine br_f (by decide) (br_f (by decide) (br_f (by decide) (br_f (by decide) (br_f (by decide) (br_f (by decide) (br_t rfl ⟨hin, ?_⟩))))))
    rw [du_a7 ek.symm, b2, hcb, ← g1 b (by omega) b3] at h
    rw [e1, hcb]
    exact ⟨vp_in_nI (by omega) (by decide), h⟩
  · obtain ⟨b, b1, b2, b3, b4⟩ := j7 p hp (Or.inr ek.symm)
    have e1 : be p = B p := g3 p hp (Or.inr (Or.inr (Or.inr ek.symm)))
    refine br_f (by decide) (br_f (by decide) (br_f (by decide) (br_f (by decide) (br_f (by decide) (br_f (by decide) (br_f (by decide) (br_t rfl ⟨hin, ?_⟩)))))))
    rw [du_a8 ek.symm, ← e1] at h
    exact h
  · refine br_f (by decide) (br_f (by decide) (br_f (by decide) (br_f (by decide) (br_f (by decide) (br_f (by decide) (br_f (by decide) (br_f (by decide) (br_t rfl ?_))))))))
    rw [du_a9 ek.symm] at h
    exact h
theorem du_w_second (hn : n ≤ 40) (G : du_G n K E L B en el be) (hp : p < n) (h : post (du_b K E L p)) : wpX_secondWayFrom post (sz, io, il, wf, K, V, en, el, be, oO, oL, fw, sw, ra, sa, wa) (nI p) := by
  have hcl : (nI p).toNatClampNeg = p := nI_clamp (by omega)
  have hin : vp_in (nI p) 40 := vp_in_nI (by omega) (by decide)
  obtain ⟨hr, g1, g2, g3⟩ := G
  refine ⟨hin, fun k ek => ?_⟩
  rw [hcl] at ek ⊢
  by_cases h2 : K p = 2
  · rw [du_b2 h2, ← g2 p hp (Or.inl h2), ← g1 p hp (Or.inl h2)] at h
    refine br_t (ek.trans h2) ⟨hin, ?_⟩
    by_cases y : el p = -1
    · rw [if_pos y] at h
      exact br_t y ⟨hin, h⟩
    · rw [if_neg y] at h
      exact br_f y ⟨hin, h⟩
  · refine br_f (fun z => h2 (ek.symm.trans z)) ?_
    by_cases h4 : K p = 4
    · rw [du_b4 h4, ← g1 p hp (Or.inr (Or.inl h4))] at h
      exact br_t (ek.trans h4) ⟨hin, h⟩
    · rw [du_bO h2 h4] at h
      exact br_f (fun z => h4 (ek.symm.trans z)) h
end
theorem du_w_ways1 {post : SX → Prop} {io il wf : Int32} {n : Nat} {K V E L B en el be oO oL ra sa wa : Nat → Int32} (hn : n ≤ 40) (hk : du_ok n K V) (G : du_G n K E L B en el be)
    (h : ∀ fw sw : Nat → Int32, (∀ q, q < n → fw q = du_a K E B q ∧ sw q = du_b K E L q) → post ((nI n), io, il, wf, K, V, en, el, be, oO, oL, fw, sw, ra, sa, wa)) :
    ∀ (d p : Nat) (fw sw : Nat → Int32), p + d = n → (∀ q, q < p → fw q = du_a K E B q ∧ sw q = du_b K E L q) → wX_findWays_2 post (nI n) io il wf (d + 1) (nI p) K V en el be oO oL fw sw ra sa wa := by
  intro d
  induction d with
  | zero =>
    intro p fw sw hp hi
    have e : p = n := hp
    subst e
    exact br_t (nI_le (Nat.le_refl _) (by omega)) (h fw sw hi)
  | succ d ih =>
    intro p fw sw hp hi
    have hcl : (nI p).toNatClampNeg = p := nI_clamp (by omega)
    have hin : vp_in (nI p) 40 := vp_in_nI (by omega) (by decide)
    refine br_f (nI_ge (by omega) (by omega)) (du_w_first hn hk G (by omega) ⟨hin, fun a1 e1 => du_w_second hn G (by omega) ⟨hin, fun a2 e2 x ex => ?_⟩⟩)
    rw [hcl] at e1 e2
    rw [ex, nI_1]
    refine ih (p + 1) a1 a2 (by omega) (fun q hq => ?_)
    subst e1 e2
    by_cases e : q = p
    · subst e
      exact ⟨pk_us, pk_us⟩
    · rw [pk_un e, pk_un e]
      exact hi q (by omega)
theorem du_w_ways {post : SX → Prop} {io il wf : Int32} {n : Nat} {K V E L B en el be oO oL fw sw ra sa wa : Nat → Int32} (hn : n ≤ 40) (hk : du_ok n K V) (G : du_G n K E L B en el be)
    (h : ∀ fw sw : Nat → Int32, (∀ q, q < n → fw q = du_a K E B q ∧ sw q = du_b K E L q) → post ((nI n), io, il, wf, K, V, en, el, be, oO, oL, fw, sw, ra, sa, wa)) : wpX_findWays post ((nI n), io, il, wf, K, V, en, el, be, oO, oL, fw, sw, ra, sa, wa) :=
  ⟨n + 1, du_w_ways1 hn hk G h n 0 fw sw (Nat.zero_add n) (fun q hq => absurd hq (Nat.not_lt_zero q))⟩
end
section
/-! the component's three searches -/
/-- the token sets, or uses, variable v -/
def du_st (K V : Nat → Int32) (v : Int32) (p : Nat) : Prop := K p = 0 ∧ V p = v
def du_us (K V : Nat → Int32) (v : Int32) (p : Nat) : Prop := K p = 1 ∧ V p = v
/-- place q is come to from place f without leaving a SET of v -/
def du_F (n : Nat) (K V A B : Nat → Int32) (v : Int32) (f q : Nat) : Prop := du_T n A B (du_st K V v) (fun x => x = f) q
/-- the ways: fw, sw are A, B, and lead to places -/
def du_wy (n : Nat) (A B fw sw : Nat → Int32) : Prop := ∀ p, p < n → fw p = A p ∧ sw p = B p ∧ du_in n (A p) ∧ du_in n (B p)
theorem du_nst {n : Nat} {K V : Nat → Int32} (hk : du_ok n K V) {p : Nat} (hp : p < n) : ¬ du_st K V (-1) p := by
  intro ⟨h0, hv⟩
  obtain ⟨v, v1, v2⟩ := (hk p hp).2 (Or.inl h0)
  exact du_nm1 (q := v) (by omega) (v2.symm.trans hv)
section
variable {io il wf : Int32} {n : Nat} {K V en el be oO oL fw sw ra sa wa : Nat → Int32} {A B : Nat → Int32}
theorem du_w_mark {post : SX → Prop} {sz x : Int32} (hn : n ≤ 40) (hx : du_in n x)
    (h : ∀ ra' : Nat → Int32, (∀ q, q ≤ n → (¬ ra' q = 0 ↔ ¬ ra q = 0 ∨ x = nI q)) → post (sz, io, il, wf, K, V, en, el, be, oO, oL, fw, sw, ra', sa, wa)) : wpX_markReached post (sz, io, il, wf, K, V, en, el, be, oO, oL, fw, sw, ra, sa, wa) x := by
  rcases hx with e | ⟨r, hr, e⟩
  · refine br_t e (h ra (fun q hq => ⟨Or.inl, fun z => ?_⟩))
    rcases z with z | z
    · exact z
    · exact absurd (e.symm.trans z) (du_n1 (by omega))
  · subst e
    refine br_f (du_nm1 (by omega)) ⟨du_in41 hn hr, fun a ea => h a (fun q hq => ?_)⟩
    rw [nI_clamp (by omega), du_nb1] at ea
    subst ea
    by_cases y : q = r
    · subst y
      rw [pk_us]
      exact ⟨fun _ => Or.inr rfl, fun _ => by decide⟩
    · rw [pk_un y, nI_eq (by omega) (by omega)]
      exact ⟨Or.inl, fun z => z.resolve_right (fun w => y w.symm)⟩
def du_S1 (n : Nat) (ra : Nat → Int32) (q : Nat) : Prop := q ≤ n ∧ ¬ ra q = 0
theorem du_w_r43 {post : SX → Prop} {J : Int32 → Int32 → Int32 → Int32 → Int32 → (Nat → Int32) → (Nat → Int32) → (Nat → Int32) → (Nat → Int32) → (Nat → Int32) → (Nat → Int32) → (Nat → Int32) → (Nat → Int32) → (Nat → Int32) → (Nat → Int32) → (Nat → Int32) → (Nat → Int32) → Prop} {k : Nat} (hn : n ≤ 40) (hk : du_ok n K V) (hw : du_wy n A B fw sw)
    (h : ∀ ra : Nat → Int32, du_I n A B (du_st K V (-1)) (fun x => x = 0) k n (du_S1 n ra) → J (nI (k + 1)) (nI n) io il wf K V en el be oO oL fw sw ra sa wa) :
    ∀ (d p : Nat) (ra : Nat → Int32), p + d = n → du_I n A B (du_st K V (-1)) (fun x => x = 0) k p (du_S1 n ra) → wX_findReached_43 post J (nI k) (d + 1) (nI p) (nI n) io il wf K V en el be oO oL fw sw ra sa wa := by
  intro d
  induction d with
  | zero =>
    intro p ra hp hI
    have e : p = n := hp
    subst e
    refine br_t (nI_le (Nat.le_refl _) (by omega)) (fun x ex => ?_)
    rw [ex, nI_1]
    exact h ra hI
  | succ d ih =>
    intro p ra hp hI
    have hpn : p < n := by omega
    have hcl : (nI p).toNatClampNeg = p := nI_clamp (by omega)
    have hin : vp_in (nI p) 40 := vp_in_nI (by omega) (by decide)
    obtain ⟨w1, w2, w3, w4⟩ := hw p hpn
    refine br_f (nI_ge (by omega) (by omega)) ⟨du_in41 hn (by omega), ?_⟩
    rw [hcl]
    by_cases z : ra p = 0
    · refine br_t z (fun x ex => ?_)
      rw [ex, nI_1]
      refine ih (p + 1) ra (by omega) (du_Is hI (fun q => ⟨Or.inl, fun y => ?_⟩))
      rcases y with y | ⟨y, _⟩
      · exact y
      · exact absurd z y.2
    · refine br_f z ⟨hin, ?_⟩
      rw [w1]
      refine du_w_mark hn w3 (fun ra1 h1 => ⟨hin, ?_⟩)
      rw [w2]
      refine du_w_mark hn w4 (fun ra2 h2 => ?_)
      intro x ex
      rw [ex, nI_1]
      refine ih (p + 1) ra2 (by omega) (du_Is hI (fun q => ?_))
      constructor
      · intro ⟨y1, y2⟩
        rcases (h2 q y1).mp y2 with y | y
        · rcases (h1 q y1).mp y with y | y
          · exact Or.inl ⟨y1, y⟩
          · exact Or.inr ⟨⟨by omega, z⟩, du_nst hk hpn, hpn, y1, Or.inl y⟩
        · exact Or.inr ⟨⟨by omega, z⟩, du_nst hk hpn, hpn, y1, Or.inr y⟩
      · intro y
        rcases y with ⟨y1, y2⟩ | ⟨_, _, _, y1, y2 | y2⟩
        · exact ⟨y1, (h2 q y1).mpr (Or.inl ((h1 q y1).mpr (Or.inl y2)))⟩
        · exact ⟨y1, (h2 q y1).mpr (Or.inl ((h1 q y1).mpr (Or.inr y2)))⟩
        · exact ⟨y1, (h2 q y1).mpr (Or.inr y2)⟩
theorem du_w_r33 {post : SX → Prop} (hn : n ≤ 40) (hk : du_ok n K V) (hw : du_wy n A B fw sw)
    (h : ∀ ra : Nat → Int32, (∀ q, q ≤ n → (¬ ra q = 0 ↔ du_F n K V A B (-1) 0 q)) → post ((nI n), io, il, wf, K, V, en, el, be, oO, oL, fw, sw, ra, sa, wa)) :
    ∀ (d k : Nat) (ra : Nat → Int32), k + d = n → du_I n A B (du_st K V (-1)) (fun x => x = 0) k 0 (du_S1 n ra) → wX_findReached_33 post (d + 1) (nI k) (nI n) io il wf K V en el be oO oL fw sw ra sa wa := by
  intro d
  induction d with
  | zero =>
    intro k ra hp hI
    have e : k = n := hp
    subst e
    refine br_t (nI_le (Nat.le_refl _) (by omega)) (h ra (fun q hq => ?_))
    have f := du_If hI (du_K1 (Nat.zero_le _) rfl) q
    exact ⟨fun z => f.mp ⟨hq, z⟩, fun z => (f.mpr z).2⟩
  | succ d ih =>
    intro k ra hp hI
    exact br_f (nI_ge (by omega) (by omega)) ⟨n + 1, du_w_r43 hn hk hw (fun ra hI => ih (k + 1) ra (by omega) (du_In hI)) n 0 ra (Nat.zero_add n) hI⟩
theorem du_w_r2 {post : SX → Prop} (hn : n ≤ 40) (hk : du_ok n K V) (hw : du_wy n A B fw sw)
    (h : ∀ ra : Nat → Int32, (∀ q, q ≤ n → (¬ ra q = 0 ↔ du_F n K V A B (-1) 0 q)) → post ((nI n), io, il, wf, K, V, en, el, be, oO, oL, fw, sw, ra, sa, wa)) :
    ∀ (d p : Nat) (ra : Nat → Int32), p + d = n + 1 → (∀ q, q < p → (¬ ra q = 0 ↔ q = 0)) → wX_findReached_2 post (nI n) io il wf (d + 1) (nI p) K V en el be oO oL fw sw ra sa wa := by
  intro d
  induction d with
  | zero =>
    intro p ra hp hI
    refine br_t (nI_lt (by omega) (by omega)) ⟨n + 1, du_w_r33 hn hk hw h n 0 ra (Nat.zero_add n) (du_I0 (fun q => ?_))⟩
    exact ⟨fun z => ⟨z.1, (hI q (by have := z.1; omega)).mp z.2⟩, fun z => ⟨z.1, (hI q (by have := z.1; omega)).mpr z.2⟩⟩
  | succ d ih =>
    intro p ra hp hI
    have hcl : (nI p).toNatClampNeg = p := nI_clamp (by omega)
    refine br_f (nI_nlt (by omega) (by omega)) ?_
    by_cases z : p = 0
    · subst z
      refine br_t nI_0 ⟨du_in41 hn (by omega), fun a ea x ex => ?_⟩
      rw [hcl, du_nb1] at ea
      rw [ex, nI_1]
      subst ea
      refine ih 1 _ (by omega) (fun q hq => ?_)
      have e : q = 0 := by omega
      subst e
      rw [pk_us]
      exact ⟨fun _ => rfl, fun _ => by decide⟩
    · refine br_f (nI_ne0 (by omega) (by omega)) ⟨du_in41 hn (by omega), fun a ea x ex => ?_⟩
      rw [hcl, du_nb0] at ea
      rw [ex, nI_1]
      subst ea
      refine ih (p + 1) _ (by omega) (fun q hq => ?_)
      by_cases e : q = p
      · subst e
        rw [pk_us]
        exact ⟨fun y => absurd rfl y, fun y => absurd y z⟩
      · rw [pk_un e]
        exact hI q (by omega)
theorem du_w_reached {post : SX → Prop} (hn : n ≤ 40) (hk : du_ok n K V) (hw : du_wy n A B fw sw)
    (h : ∀ ra : Nat → Int32, (∀ q, q ≤ n → (¬ ra q = 0 ↔ du_F n K V A B (-1) 0 q)) → post ((nI n), io, il, wf, K, V, en, el, be, oO, oL, fw, sw, ra, sa, wa)) : wpX_findReached post ((nI n), io, il, wf, K, V, en, el, be, oO, oL, fw, sw, ra, sa, wa) :=
  ⟨n + 2, du_w_r2 hn hk hw h (n + 1) 0 ra (Nat.zero_add _) (fun q hq => absurd hq (Nat.not_lt_zero q))⟩
/-! surely -/
theorem du_w_vbit {post : Int32 → Prop} {sz : Int32} {p v : Nat} (hp : p < 40) (hv : V p = nI v) (h : post ((1 : Int32) <<< (nI v &&& 31))) : wpX_variableBit post (sz, io, il, wf, K, V, en, el, be, oO, oL, fw, sw, ra, sa, wa) (nI p) := by
  have hcl : (nI p).toNatClampNeg = p := nI_clamp (by omega)
  refine ⟨vp_in_nI hp (by decide), ?_⟩
  rw [hcl, hv]
  exact h
theorem du_w_sb {post : Int32 → Prop} {sz : Int32} {p : Nat} (hn : n ≤ 40) (hk : du_ok n K V) (hp : p < n)
    (h : ∀ m : Int32, (∀ i, bt m i = true ↔ bt (sa p) i = true ∨ (i < 6 ∧ du_st K V (nI i) p)) → post m) : wpX_surelyBehind post (sz, io, il, wf, K, V, en, el, be, oO, oL, fw, sw, ra, sa, wa) (nI p) := by
  have hcl : (nI p).toNatClampNeg = p := nI_clamp (by omega)
  refine ⟨vp_in_nI (by omega) (by decide), ?_⟩
  rw [hcl]
  by_cases z : K p = 0
  · obtain ⟨v, v1, v2⟩ := (hk p hp).2 (Or.inl z)
    refine br_t z ⟨du_in41 hn (by omega), du_w_vbit (by omega) v2 (h _ (fun i => ?_))⟩
    rw [b_or, du_b1 (by omega), Bool.or_eq_true, decide_eq_true_iff]
    constructor
    · rintro (y | y)
      · exact Or.inl y
      · subst y
        exact Or.inr ⟨v1, z, v2⟩
    · rintro (y | ⟨y, _, y2⟩)
      · exact Or.inl y
      · exact Or.inr ((nI_eq (by omega) (by omega)).mp (v2.symm.trans y2))
  · exact br_f z ⟨du_in41 hn (by omega), h _ (fun i => ⟨Or.inl, fun y => y.resolve_right (fun w => z w.2.1)⟩)⟩
theorem du_w_keep {post : SX → Prop} {sz x m : Int32} (hn : n ≤ 40) (hx : du_in n x)
    (h : ∀ sa' : Nat → Int32, (∀ q, q ≤ n → ∀ i, (bt (sa' q) i = true ↔ bt (sa q) i = true ∧ (x = nI q → bt m i = true))) → post (sz, io, il, wf, K, V, en, el, be, oO, oL, fw, sw, ra, sa', wa)) : wpX_keepSurely post (sz, io, il, wf, K, V, en, el, be, oO, oL, fw, sw, ra, sa, wa) x m := by
  rcases hx with e | ⟨r, hr, e⟩
  · exact br_t e (h sa (fun q hq i => ⟨fun z => ⟨z, fun w => absurd (e.symm.trans w) (du_n1 (by omega))⟩, fun z => z.1⟩))
  · subst e
    refine br_f (du_nm1 (by omega)) ⟨du_in41 hn hr, du_in41 hn hr, fun a ea => h a (fun q hq i => ?_)⟩
    rw [nI_clamp (by omega)] at ea
    subst ea
    by_cases y : q = r
    · subst y
      rw [pk_us, b_and, Bool.and_eq_true]
      exact ⟨fun z => ⟨z.1, fun _ => z.2⟩, fun z => ⟨z.1, z.2 rfl⟩⟩
    · rw [pk_un y]
      exact ⟨fun z => ⟨z, fun w => absurd ((nI_eq (by omega) (by omega)).mp w).symm y⟩, fun z => z.1⟩
def du_S2 (n : Nat) (sa : Nat → Int32) (v q : Nat) : Prop := q ≤ n ∧ ¬ bt (sa q) v = true
def du_hi (n : Nat) (sa : Nat → Int32) : Prop := ∀ q, q ≤ n → ∀ i, 6 ≤ i → ¬ bt (sa q) i = true
def du_IS (n : Nat) (K V A B sa : Nat → Int32) (k p : Nat) : Prop := du_hi n sa ∧ ∀ v, v < 6 → du_I n A B (du_st K V (nI v)) (fun x => x = 0) k p (du_S2 n sa v)
theorem du_w_s44 {post : SX → Prop} {J : Int32 → Int32 → Int32 → Int32 → Int32 → (Nat → Int32) → (Nat → Int32) → (Nat → Int32) → (Nat → Int32) → (Nat → Int32) → (Nat → Int32) → (Nat → Int32) → (Nat → Int32) → (Nat → Int32) → (Nat → Int32) → (Nat → Int32) → (Nat → Int32) → Prop} {k : Nat} (hn : n ≤ 40) (hk : du_ok n K V) (hw : du_wy n A B fw sw)
    (h : ∀ sa : Nat → Int32, du_IS n K V A B sa k n → J (nI (k + 1)) (nI n) io il wf K V en el be oO oL fw sw ra sa wa) :
    ∀ (d p : Nat) (sa : Nat → Int32), p + d = n → du_IS n K V A B sa k p → wX_findSurely_44 post J (nI k) (d + 1) (nI p) (nI n) io il wf K V en el be oO oL fw sw ra sa wa := by
  intro d
  induction d with
  | zero =>
    intro p sa hp hI
    have e : p = n := hp
    subst e
    refine br_t (nI_le (Nat.le_refl _) (by omega)) (fun x ex => ?_)
    rw [ex, nI_1]
    exact h sa hI
  | succ d ih =>
    intro p sa hp hI
    have hpn : p < n := by omega
    have hcl : (nI p).toNatClampNeg = p := nI_clamp (by omega)
    have hin : vp_in (nI p) 40 := vp_in_nI (by omega) (by decide)
    obtain ⟨w1, w2, w3, w4⟩ := hw p hpn
    refine br_f (nI_ge (by omega) (by omega)) (du_w_sb hn hk hpn (fun m hm => ⟨hin, ?_⟩))
    rw [hcl, w1]
    refine du_w_keep hn w3 (fun sa1 h1 => ⟨hin, ?_⟩)
    rw [w2]
    refine du_w_keep hn w4 (fun sa2 h2 => ?_)
    intro x ex
    rw [ex, nI_1]
    refine ih (p + 1) sa2 (by omega) ⟨fun q hq i hi z => ?_, fun v hv => du_Is (hI.2 v hv) (fun q => ?_)⟩
    · exact hI.1 q hq i hi ((h1 q hq i).mp ((h2 q hq i).mp z).1).1
    · have hs : (¬ bt m v = true) ↔ ¬ bt (sa p) v = true ∧ ¬ du_st K V (nI v) p := by
        rw [hm v]
        exact ⟨fun z => ⟨fun y => z (Or.inl y), fun y => z (Or.inr ⟨hv, y⟩)⟩, fun z y => y.elim z.1 (fun w => z.2 w.2)⟩
      constructor
      · intro ⟨y1, y2⟩
        rw [h2 q y1 v, h1 q y1 v] at y2
        by_cases b0 : bt (sa q) v = true
        · right
          have b1 : ¬ bt m v = true := fun bm => y2 ⟨⟨b0, fun _ => bm⟩, fun _ => bm⟩
          have b2 : A p = nI q ∨ B p = nI q := by
            by_cases c1 : A p = nI q
            · exact Or.inl c1
            · by_cases c2 : B p = nI q
              · exact Or.inr c2
              · exact absurd ⟨⟨b0, fun c => absurd c c1⟩, fun c => absurd c c2⟩ y2
          exact ⟨⟨by omega, (hs.mp b1).1⟩, (hs.mp b1).2, hpn, y1, b2⟩
        · exact Or.inl ⟨y1, b0⟩
      · rintro (⟨y1, y2⟩ | ⟨⟨_, y2⟩, y3, _, y1, y4⟩)
        · exact ⟨y1, fun z => y2 ((h1 q y1 v).mp ((h2 q y1 v).mp z).1).1⟩
        · have b1 : ¬ bt m v = true := hs.mpr ⟨y2, y3⟩
          refine ⟨y1, fun z => ?_⟩
          have z2 := (h2 q y1 v).mp z
          rcases y4 with y4 | y4
          · exact b1 (((h1 q y1 v).mp z2.1).2 y4)
          · exact b1 (z2.2 y4)
theorem du_w_s34 {post : SX → Prop} (hn : n ≤ 40) (hk : du_ok n K V) (hw : du_wy n A B fw sw)
    (h : ∀ sa : Nat → Int32, du_hi n sa → (∀ q, q ≤ n → ∀ v, v < 6 → (¬ bt (sa q) v = true ↔ du_F n K V A B (nI v) 0 q)) → post ((nI n), io, il, wf, K, V, en, el, be, oO, oL, fw, sw, ra, sa, wa)) :
    ∀ (d k : Nat) (sa : Nat → Int32), k + d = n → du_IS n K V A B sa k 0 → wX_findSurely_34 post (d + 1) (nI k) (nI n) io il wf K V en el be oO oL fw sw ra sa wa := by
  intro d
  induction d with
  | zero =>
    intro k sa hp hI
    have e : k = n := hp
    subst e
    refine br_t (nI_le (Nat.le_refl _) (by omega)) (h sa hI.1 (fun q hq v hv => ?_))
    have f := du_If (hI.2 v hv) (du_K1 (Nat.zero_le _) rfl) q
    exact ⟨fun z => f.mp ⟨hq, z⟩, fun z => (f.mpr z).2⟩
  | succ d ih =>
    intro k sa hp hI
    exact br_f (nI_ge (by omega) (by omega)) ⟨n + 1, du_w_s44 hn hk hw (fun sa hI => ih (k + 1) sa (by omega) ⟨hI.1, fun v hv => du_In (hI.2 v hv)⟩) n 0 sa (Nat.zero_add n) hI⟩
theorem du_w_s2 {post : SX → Prop} (hn : n ≤ 40) (hk : du_ok n K V) (hw : du_wy n A B fw sw)
    (h : ∀ sa : Nat → Int32, du_hi n sa → (∀ q, q ≤ n → ∀ v, v < 6 → (¬ bt (sa q) v = true ↔ du_F n K V A B (nI v) 0 q)) → post ((nI n), io, il, wf, K, V, en, el, be, oO, oL, fw, sw, ra, sa, wa)) :
    ∀ (d p : Nat) (sa : Nat → Int32), p + d = n + 1 → (∀ q, q < p → sa q = if q = 0 then 0 else 63) → wX_findSurely_2 post (nI n) io il wf (d + 1) (nI p) K V en el be oO oL fw sw ra sa wa := by
  intro d
  induction d with
  | zero =>
    intro p sa hp hI
    refine br_t (nI_lt (by omega) (by omega)) ⟨n + 1, du_w_s34 hn hk hw h n 0 sa (Nat.zero_add n) ⟨fun q hq i hi => ?_, fun v hv => du_I0 (fun q => ?_)⟩⟩
    · rw [hI q (by omega)]
      by_cases z : q = 0
      · rw [if_pos z, b_0]; decide
      · rw [if_neg z, du_63, decide_eq_true_iff]; omega
    · constructor
      · intro ⟨y1, y2⟩
        refine ⟨y1, ?_⟩
        rw [hI q (by omega)] at y2
        by_cases z : q = 0
        · exact z
        · rw [if_neg z, du_63, decide_eq_true_iff] at y2
          exact absurd hv y2
      · intro ⟨y1, y2⟩
        refine ⟨y1, ?_⟩
        rw [hI q (by omega), if_pos y2, b_0]
        decide
  | succ d ih =>
    intro p sa hp hI
    have hcl : (nI p).toNatClampNeg = p := nI_clamp (by omega)
    refine br_f (nI_nlt (by omega) (by omega)) ?_
    by_cases z : p = 0
    · subst z
      refine br_t nI_0 ⟨du_in41 hn (by omega), fun a ea x ex => ?_⟩
      rw [hcl] at ea
      rw [ex, nI_1]
      subst ea
      refine ih 1 _ (by omega) (fun q hq => ?_)
      have e : q = 0 := by omega
      subst e
      rw [pk_us, if_pos rfl]
    · refine br_f (nI_ne0 (by omega) (by omega)) ⟨du_in41 hn (by omega), fun a ea x ex => ?_⟩
      rw [hcl] at ea
      rw [ex, nI_1]
      subst ea
      refine ih (p + 1) _ (by omega) (fun q hq => ?_)
      by_cases e : q = p
      · subst e
        rw [pk_us, if_neg z]
      · rw [pk_un e]
        exact hI q (by omega)
theorem du_w_surely {post : SX → Prop} (hn : n ≤ 40) (hk : du_ok n K V) (hw : du_wy n A B fw sw)
    (h : ∀ sa : Nat → Int32, du_hi n sa → (∀ q, q ≤ n → ∀ v, v < 6 → (¬ bt (sa q) v = true ↔ du_F n K V A B (nI v) 0 q)) → post ((nI n), io, il, wf, K, V, en, el, be, oO, oL, fw, sw, ra, sa, wa)) : wpX_findSurely post ((nI n), io, il, wf, K, V, en, el, be, oO, oL, fw, sw, ra, sa, wa) :=
  ⟨n + 2, du_w_s2 hn hk hw h (n + 1) 0 sa (Nat.zero_add _) (fun q hq => absurd hq (Nat.not_lt_zero q))⟩
/-! wanted -/
theorem du_w_of {post : Int32 → Prop} {sz x : Int32} (hn : n ≤ 40) (hx : du_in n x) (h : ∀ r : Int32, (∀ i, bt r i = true ↔ ∃ q, q ≤ n ∧ x = nI q ∧ bt (wa q) i = true) → post r) : wpX_wantedOf post (sz, io, il, wf, K, V, en, el, be, oO, oL, fw, sw, ra, sa, wa) x := by
  rcases hx with e | ⟨r, hr, e⟩
  · refine br_t e (h 0 (fun i => ?_))
    rw [b_0]
    exact ⟨fun z => absurd z (by decide), fun ⟨q, q1, q2, _⟩ => absurd (e.symm.trans q2) (du_n1 (by omega))⟩
  · subst e
    refine br_f (du_nm1 (by omega)) ⟨du_in41 hn hr, h _ (fun i => ?_)⟩
    rw [nI_clamp (by omega)]
    constructor
    · exact fun z => ⟨r, hr, rfl, z⟩
    · rintro ⟨q, q1, q2, q3⟩
      have e := (nI_eq (by omega) (by omega)).mp q2
      subst e
      exact q3
theorem du_w_wb {post : Int32 → Prop} {sz : Int32} {p : Nat} (hn : n ≤ 40) (hw : du_wy n A B fw sw) (hp : p < n)
    (h : ∀ r : Int32, (∀ i, bt r i = true ↔ ∃ q, du_E n A B p q ∧ bt (wa q) i = true) → post r) : wpX_wantedBehind post (sz, io, il, wf, K, V, en, el, be, oO, oL, fw, sw, ra, sa, wa) (nI p) := by
  have hcl : (nI p).toNatClampNeg = p := nI_clamp (by omega)
  have hin : vp_in (nI p) 40 := vp_in_nI (by omega) (by decide)
  obtain ⟨w1, w2, w3, w4⟩ := hw p hp
  refine ⟨hin, ?_⟩
  rw [hcl, w1]
  refine du_w_of hn w3 (fun r1 h1 => ⟨hin, ?_⟩)
  rw [w2]
  refine du_w_of hn w4 (fun r2 h2 => h _ (fun i => ?_))
  rw [b_or, Bool.or_eq_true, h1 i, h2 i]
  constructor
  · rintro (⟨q, q1, q2, q3⟩ | ⟨q, q1, q2, q3⟩)
    · exact ⟨q, ⟨hp, q1, Or.inl q2⟩, q3⟩
    · exact ⟨q, ⟨hp, q1, Or.inr q2⟩, q3⟩
  · rintro ⟨q, ⟨_, q1, q2 | q2⟩, q3⟩
    · exact Or.inl ⟨q, q1, q2, q3⟩
    · exact Or.inr ⟨q, q1, q2, q3⟩
theorem du_w_bef {post : Int32 → Prop} {sz b : Int32} {p : Nat} (hn : n ≤ 40) (hk : du_ok n K V) (hp : p < n)
    (h : ∀ r : Int32, (∀ i, i < 32 → (bt r i = true ↔ (i < 6 ∧ du_us K V (nI i) p) ∨ (¬ (i < 6 ∧ du_st K V (nI i) p) ∧ bt b i = true))) → post r) : wpX_wantedBefore post (sz, io, il, wf, K, V, en, el, be, oO, oL, fw, sw, ra, sa, wa) (nI p) b := by
  have hcl : (nI p).toNatClampNeg = p := nI_clamp (by omega)
  have hin : vp_in (nI p) 40 := vp_in_nI (by omega) (by decide)
  refine ⟨hin, fun k ek => ?_⟩
  rw [hcl] at ek
  subst ek
  by_cases z0 : K p = 0
  · obtain ⟨v, v1, v2⟩ := (hk p hp).2 (Or.inl z0)
    refine br_t z0 (du_w_vbit (by omega) v2 (h _ (fun i hi => ?_)))
    rw [b_and, b_xor, du_b1 (by omega), b_m1 i hi, Bool.and_eq_true]
    constructor
    · rintro ⟨y1, y2⟩
      refine Or.inr ⟨fun w => ?_, y1⟩
      have e := (nI_eq (by omega) (by omega)).mp (v2.symm.trans w.2.2)
      subst e
      simp at y2
    · rintro (⟨_, y, _⟩ | ⟨y1, y2⟩)
      · rw [z0] at y
        exact absurd y (by decide)
      · refine ⟨y2, ?_⟩
        have e : ¬ v = i := fun e => y1 ⟨by omega, z0, by rw [v2, e]⟩
        simp [e]
  · refine br_f z0 ?_
    by_cases z1 : K p = 1
    · obtain ⟨v, v1, v2⟩ := (hk p hp).2 (Or.inr z1)
      refine br_t z1 (du_w_vbit (by omega) v2 (h _ (fun i hi => ?_)))
      rw [b_or, du_b1 (by omega), Bool.or_eq_true, decide_eq_true_iff]
      constructor
      · rintro (y | y)
        · exact Or.inr ⟨fun w => z0 w.2.1, y⟩
        · subst y
          exact Or.inl ⟨v1, z1, v2⟩
      · rintro (⟨_, _, y⟩ | ⟨_, y⟩)
        · exact Or.inr ((nI_eq (by omega) (by omega)).mp (v2.symm.trans y))
        · exact Or.inl y
    · refine br_f z1 (h _ (fun i hi => ⟨fun y => Or.inr ⟨fun w => z0 w.2.1, y⟩, ?_⟩))
      rintro (⟨_, y, _⟩ | ⟨_, y⟩)
      · exact absurd y z1
      · exact y
def du_S3 (n : Nat) (wa : Nat → Int32) (v q : Nat) : Prop := q ≤ n ∧ bt (wa q) v = true
def du_IW (n : Nat) (K V A B wa : Nat → Int32) (k i : Nat) : Prop := du_hi n wa ∧ ∀ v, v < 6 → du_J1 n A B (du_st K V (nI v)) (du_us K V (nI v)) k i (du_S3 n wa v)
theorem du_w_w40 {post : SX → Prop} {J : Int32 → (Nat → Int32) → (Nat → Int32) → (Nat → Int32) → (Nat → Int32) → (Nat → Int32) → (Nat → Int32) → (Nat → Int32) → (Nat → Int32) → (Nat → Int32) → (Nat → Int32) → (Nat → Int32) → (Nat → Int32) → Prop} {k : Nat} (hn : n ≤ 40) (hk : du_ok n K V) (hw : du_wy n A B fw sw)
    (h : ∀ wa : Nat → Int32, du_IW n K V A B wa k 0 → J (nI (k + 1)) K V en el be oO oL fw sw ra sa wa) :
    ∀ (i : Nat) (wa : Nat → Int32), i ≤ n → du_IW n K V A B wa k i → wX_findWanted_40 post J (nI k) (nI n) io il wf (i + 1) (nI i - 1) K V en el be oO oL fw sw ra sa wa := by
  intro i
  induction i with
  | zero =>
    intro wa hi hI
    refine br_t (by decide) (fun x ex => ?_)
    rw [ex, nI_1]
    exact h wa hI
  | succ i ih =>
    intro wa hi hI
    have hcl : (nI i).toNatClampNeg = i := nI_clamp (by omega)
    rw [nI_pred]
    refine br_f (nI_pos (by omega)) (du_w_wb hn hw (by omega) (fun b hb => du_w_bef hn hk (by omega) (fun r hr => ⟨du_in41 hn (by omega), fun a ea x ex => ?_⟩)))
    rw [hcl] at ea
    rw [ex, ← Int32.sub_eq_add_neg]
    subst ea
    have hbit : ∀ v, v < 32 → (bt r v = true ↔ (v < 6 ∧ du_us K V (nI v) i) ∨ (¬ (v < 6 ∧ du_st K V (nI v) i) ∧ ∃ q, du_E n A B i q ∧ bt (wa q) v = true)) := by
      intro v hv
      rw [hr v hv, hb v]
    refine ih _ (by omega) ⟨fun q hq v hv z => ?_, fun v hv => du_Js (hI.2 v hv) (by omega) (fun q hq => ?_) ?_⟩
    · by_cases e : q = i
      · subst e
        rw [pk_us] at z
        rcases Nat.lt_or_ge v 32 with h32 | h32
        · rcases (hbit v h32).mp z with y | ⟨_, r1, r2, r3⟩
          · have := y.1
            omega
          · exact hI.1 r1 r2.2.1 v hv r3
        · rw [b_big h32] at z
          exact absurd z (by decide)
      · rw [pk_un e] at z
        exact hI.1 q hq v hv z
    · unfold du_S3
      rw [pk_un hq]
    · unfold du_S3
      rw [pk_us, hbit v (by omega)]
      constructor
      · rintro ⟨_, y | ⟨y1, r1, r2, r3⟩⟩
        · exact Or.inl y.2
        · exact Or.inr ⟨fun w => y1 ⟨hv, w⟩, r1, r2, r2.2.1, r3⟩
      · rintro (y | ⟨y1, r1, r2, _, r3⟩)
        · exact ⟨by omega, Or.inl ⟨hv, y⟩⟩
        · exact ⟨by omega, Or.inr ⟨fun w => y1 w.2, r1, r2, r3⟩⟩
theorem du_w_w25 {post : SX → Prop} (hn : n ≤ 40) (hk : du_ok n K V) (hw : du_wy n A B fw sw)
    (h : ∀ wa : Nat → Int32, du_hi n wa → (∀ q, q ≤ n → ∀ v, v < 6 → (bt (wa q) v = true ↔ du_V n A B (du_st K V (nI v)) (du_us K V (nI v)) q)) → post ((nI n), io, il, wf, K, V, en, el, be, oO, oL, fw, sw, ra, sa, wa)) :
    ∀ (d k : Nat) (wa : Nat → Int32), k + d = n → du_IW n K V A B wa k n → wX_findWanted_25 post (nI n) io il wf (d + 1) (nI k) K V en el be oO oL fw sw ra sa wa := by
  intro d
  induction d with
  | zero =>
    intro k wa hp hI
    have e : k = n := hp
    subst e
    refine br_t (nI_le (Nat.le_refl _) (by omega)) (h wa hI.1 (fun q hq v hv => ?_))
    have f := du_Jf (hI.2 v hv) q
    exact ⟨fun z => f.mp ⟨hq, z⟩, fun z => (f.mpr z).2⟩
  | succ d ih =>
    intro k wa hp hI
    refine br_f (nI_ge (by omega) (by omega)) (fun x ex => ⟨n + 1, ?_⟩)
    rw [ex]
    exact du_w_w40 hn hk hw (fun wa hI => ih (k + 1) wa (by omega) ⟨hI.1, fun v hv => du_Jn (hI.2 v hv)⟩) n wa (Nat.le_refl n) hI
theorem du_w_w2 {post : SX → Prop} (hn : n ≤ 40) (hk : du_ok n K V) (hw : du_wy n A B fw sw)
    (h : ∀ wa : Nat → Int32, du_hi n wa → (∀ q, q ≤ n → ∀ v, v < 6 → (bt (wa q) v = true ↔ du_V n A B (du_st K V (nI v)) (du_us K V (nI v)) q)) → post ((nI n), io, il, wf, K, V, en, el, be, oO, oL, fw, sw, ra, sa, wa)) :
    ∀ (d p : Nat) (wa : Nat → Int32), p + d = n + 1 → (∀ q, q < p → wa q = 0) → wX_findWanted_2 post (nI n) io il wf (d + 1) (nI p) K V en el be oO oL fw sw ra sa wa := by
  intro d
  induction d with
  | zero =>
    intro p wa hp hI
    have z : ∀ q, q ≤ n → ∀ v, ¬ bt (wa q) v = true := by
      intro q hq v
      rw [hI q (by omega), b_0]
      decide
    exact br_t (nI_lt (by omega) (by omega)) ⟨n + 1, du_w_w25 hn hk hw h n 0 wa (Nat.zero_add n) ⟨fun q hq i _ => z q hq i, fun v hv => du_J0 (fun q y => z q y.1 v y.2)⟩⟩
  | succ d ih =>
    intro p wa hp hI
    have hcl : (nI p).toNatClampNeg = p := nI_clamp (by omega)
    refine br_f (nI_nlt (by omega) (by omega)) ⟨du_in41 hn (by omega), fun a ea x ex => ?_⟩
    rw [hcl] at ea
    rw [ex, nI_1]
    subst ea
    refine ih (p + 1) _ (by omega) (fun q hq => ?_)
    by_cases e : q = p
    · subst e
      exact pk_us
    · rw [pk_un e]
      exact hI q (by omega)
theorem du_w_wanted {post : SX → Prop} (hn : n ≤ 40) (hk : du_ok n K V) (hw : du_wy n A B fw sw)
    (h : ∀ wa : Nat → Int32, du_hi n wa → (∀ q, q ≤ n → ∀ v, v < 6 → (bt (wa q) v = true ↔ du_V n A B (du_st K V (nI v)) (du_us K V (nI v)) q)) → post ((nI n), io, il, wf, K, V, en, el, be, oO, oL, fw, sw, ra, sa, wa)) : wpX_findWanted post ((nI n), io, il, wf, K, V, en, el, be, oO, oL, fw, sw, ra, sa, wa) :=
  ⟨n + 2, du_w_w2 hn hk hw h (n + 1) 0 wa (Nat.zero_add _) (fun q hq => absurd hq (Nat.not_lt_zero q))⟩
end
end
section
/-! analyse: what the component holds of a program -/
/-- n tokens with kinds K and variables V: the rest of the component's state -/
def du_A (n : Nat) (K V : Nat → Int32) (wf : Int32) (en fw sw ra sa wa : Nat → Int32) : Prop :=
  (¬ du_W K n ∧ wf = 0) ∨ (wf = 1 ∧ ∃ E L B : Nat → Int32, du_run K n = some ([], E, L, B) ∧ (∀ q, q < n → du_bg (K q) → en q = E q) ∧
    du_wy n (du_a K E B) (du_b K E L) fw sw ∧
    (∀ q, q ≤ n → (¬ ra q = 0 ↔ du_F n K V (du_a K E B) (du_b K E L) (-1) 0 q)) ∧
    (du_hi n sa ∧ ∀ q, q ≤ n → ∀ v, v < 6 → (¬ bt (sa q) v = true ↔ du_F n K V (du_a K E B) (du_b K E L) (nI v) 0 q)) ∧
    (du_hi n wa ∧ ∀ q, q ≤ n → ∀ v, v < 6 → (bt (wa q) v = true ↔ du_V n (du_a K E B) (du_b K E L) (du_st K V (nI v)) (du_us K V (nI v)) q)))
theorem du_w_an {post : SX → Prop} {n : Nat} {io il wf : Int32} {K V en el be oO oL fw sw ra sa wa : Nat → Int32} (hn : n ≤ 40) (hk : du_ok n K V)
    (h : ∀ (io il wf : Int32) (en el be oO oL fw sw ra sa wa : Nat → Int32), du_A n K V wf en fw sw ra sa wa → post ((nI n), io, il, wf, K, V, en, el, be, oO, oL, fw, sw, ra, sa, wa)) : wpX_analyse post ((nI n), io, il, wf, K, V, en, el, be, oO, oL, fw, sw, ra, sa, wa) := by
  unfold wpX_analyse
  refine du_w_match hn hk (fun E L B io il en el be oO oL G => ?_) (fun hW io il en el be oO oL => ?_) io il en el be oO oL
  · refine ⟨rfl, rfl, br_f (by decide) ?_⟩
    have J := du_J_run n _ (by omega) G.1
    refine du_w_ways hn hk G (fun fw sw hw => ?_)
    have hw' : du_wy n (du_a K E B) (du_b K E L) fw sw := fun p hp => ⟨(hw p hp).1, (hw p hp).2, du_a_in hn J hp, du_b_in J hp⟩
    refine du_w_reached hn hk hw' (fun ra hra => ?_)
    refine du_w_surely hn hk hw' (fun sa hs1 hs2 => ?_)
    refine du_w_wanted hn hk hw' (fun wa hwa1 hwa2 => ?_)
    exact h _ _ _ _ _ _ _ _ _ _ _ _ _ (Or.inr ⟨rfl, E, L, B, G.1, G.2.1, hw', hra, ⟨hs1, hs2⟩, ⟨hwa1, hwa2⟩⟩)
  · exact ⟨rfl, rfl, br_t rfl (h _ _ _ _ _ _ _ _ _ _ _ _ _ (Or.inl ⟨hW, rfl⟩))⟩
end
section
/-! the reference's matching against the pure one -/
def du_sk (op : Nat → Int32) : List Nat → Prop
  | [] => True
  | b :: t => op t.length = nI b ∧ du_sk op t
theorem du_sk_upd {op : Nat → Int32} {x : Int32} {i : Nat} : ∀ s : List Nat, s.length ≤ i → du_sk op s → du_sk (upd op i x) s := by
  intro s
  induction s with
  | nil => exact fun _ _ => trivial
  | cons b t ih =>
    intro hi h
    have hi : t.length + 1 ≤ i := hi
    exact ⟨(pk_un (by omega)).trans h.1, ih (by omega) h.2⟩
section
variable {sz : Int32} {K V en el cl lo op : Nat → Int32}
theorem du_y_in1 {post : Int32 → Prop} : ∀ s : List Nat, (∀ b, b ∈ s → b < 40) → s.length ≤ 40 → du_sk op s → post (du_lp K s) → wY_innermost_4 post sz K V en el cl lo op (s.length + 1) (nI s.length - 1) := by
  intro s
  induction s with
  | nil => exact fun _ _ _ h => br_t (by decide) h
  | cons b t ih =>
    intro hb hl hs h
    have hl : t.length + 1 ≤ 40 := hl
    have hb1 := hb b (List.mem_cons_self ..)
    have e : nI (b :: t).length - 1 = nI t.length := nI_pred t.length
    have hcl : (nI t.length).toNatClampNeg = t.length := nI_clamp (by omega)
    have hcb : (nI b).toNatClampNeg = b := nI_clamp (by omega)
    rw [e]
    refine br_f (nI_pos (by omega)) ⟨vp_in_nI (by omega) (by decide), ?_⟩
    rw [hcl, hs.1, hcb]
    refine ⟨vp_in_nI hb1 (by decide), ?_⟩
    by_cases z : K b = 2
    · have e2 : du_lp K (b :: t) = du_lp K t := if_pos z
      rw [e2] at h
      refine br_t z (fun x ex => ?_)
      rw [ex, ← Int32.sub_eq_add_neg]
      exact ih (fun c hc => hb c (List.mem_cons_of_mem _ hc)) (by omega) hs.2 h
    · have e2 : du_lp K (b :: t) = nI b := if_neg z
      rw [e2] at h
      exact br_f z ⟨vp_in_nI (by omega) (by decide), h⟩
theorem du_y_in {post : Int32 → Prop} {s : List Nat} (hb : ∀ b, b ∈ s → b < 40) (hl : s.length ≤ 40) (hs : du_sk op s) (h : post (du_lp K s)) : wpY_innermost post (sz, K, V, en, el, cl, lo, op) (nI s.length) := by
  intro x ex
  refine ⟨s.length + 1, ?_⟩
  rw [ex]
  exact du_y_in1 s hb hl hs h
end
/-- what the reference's arrays hold ahead of token p -/
def du_Y (K : Nat → Int32) (p : Nat) (s : List Nat) (E L B : Nat → Int32) (en el cl lo op : Nat → Int32) : Prop :=
  du_run K p = some (s, E, L, B) ∧ du_sk op s ∧ (∀ q, q < p → du_bg (K q) → ¬ q ∈ s → en q = E q) ∧ (∀ q, q < p → K q = 3 → ∀ c, B q = nI c → c < q → ¬ c ∈ s → en q = E c) ∧ (∀ q, q < p → du_bg (K q) → el q = L q) ∧
  (∀ q, q < p → K q = 6 → cl q = if K (B q).toNatClampNeg = 2 then -1 else B q) ∧ (∀ q, q < p → (K q = 7 ∨ K q = 8) → lo q = B q)
section
variable {sz : Int32} {K V en el cl lo op : Nat → Int32} {p : Nat} {s : List Nat} {E L B : Nat → Int32}
theorem du_Y_open (hY : du_Y K p s E L B en el cl lo op) (hp : p < 40) (h : du_bg (K p)) (x : Int32) : du_Y K (p + 1) (p :: s) E (upd L p (-1)) B en (upd el p (-1)) (upd cl p (-1)) (upd lo p x) (upd op s.length (nI p)) := by
  obtain ⟨hr, h0, h1, h2, h3, h4, h5⟩ := hY
  have n3 : ∀ q, K q = 3 → q ≠ p := fun q hq e => by subst e; rw [hq] at h; exact absurd h (by decide)
  have n6 : ∀ q, K q = 6 → q ≠ p := fun q hq e => by subst e; rw [hq] at h; exact absurd h (by decide)
  have n7 : ∀ q, (K q = 7 ∨ K q = 8) → q ≠ p := fun q hq e => by subst e; rcases hq with hq | hq <;> rw [hq] at h <;> exact absurd h (by decide)
  refine ⟨?_, ⟨pk_us, du_sk_upd s (Nat.le_refl _) h0⟩, fun q hq hk hn => ?_, fun q hq hk c hc hcq hn => ?_, fun q hq hk => ?_, fun q hq hk => ?_, fun q hq hk => ?_⟩
  · rw [du_run_s hr, du_s_open h]
  · have a : q ≠ p := fun e => hn (by rw [e]; exact List.mem_cons_self ..)
    exact h1 q (by omega) hk (fun z => hn (List.mem_cons_of_mem _ z))
  · have a := n3 q hk
    exact h2 q (by omega) hk c hc hcq (fun z => hn (List.mem_cons_of_mem _ z))
  · by_cases e : q = p
    · subst e
      exact pk_us.trans pk_us.symm
    · exact (pk_un e).trans ((h3 q (by omega) hk).trans (pk_un e).symm)
  · have a := n6 q hk
    exact (pk_un a).trans (h4 q (by omega) hk)
  · have a := n7 q hk
    exact (pk_un a).trans (h5 q (by omega) hk)
theorem du_Y_other (hY : du_Y K p s E L B en el cl lo op) (h1' : ¬ du_bg (K p)) (h2' : ¬ K p = 3) (h3' : ¬ K p = 6) (h4' : ¬ (K p = 7 ∨ K p = 8)) (x : Int32) : du_Y K (p + 1) s E L B en (upd el p (-1)) (upd cl p (-1)) (upd lo p x) op := by
  obtain ⟨hr, h0, h1, h2, h3, h4, h5⟩ := hY
  refine ⟨?_, h0, fun q hq hk hn => ?_, fun q hq hk c hc hcq hn => ?_, fun q hq hk => ?_, fun q hq hk => ?_, fun q hq hk => ?_⟩
  · rw [du_run_s hr, du_s_other h1' h2' h3' h4']
  · have a : q ≠ p := fun e => h1' (e ▸ hk)
    exact h1 q (by omega) hk hn
  · have a : q ≠ p := fun e => h2' (e ▸ hk)
    exact h2 q (by omega) hk c hc hcq hn
  · have a : q ≠ p := fun e => h1' (e ▸ hk)
    exact (pk_un a).trans (h3 q (by omega) hk)
  · have a : q ≠ p := fun e => h3' (e ▸ hk)
    exact (pk_un a).trans (h4 q (by omega) hk)
  · have a : q ≠ p := fun e => h4' (e ▸ hk)
    exact (pk_un a).trans (h5 q (by omega) hk)
theorem du_Y_jump (hY : du_Y K p s E L B en el cl lo op) (h : K p = 7 ∨ K p = 8) (hl : ¬ du_lp K s = -1) : du_Y K (p + 1) s E L (upd B p (du_lp K s)) en (upd el p (-1)) (upd cl p (-1)) (upd lo p (du_lp K s)) op := by
  obtain ⟨hr, h0, h1, h2, h3, h4, h5⟩ := hY
  have nb : ¬ du_bg (K p) := by rcases h with h | h <;> rw [h] <;> decide
  have n3 : ¬ K p = 3 := by rcases h with h | h <;> rw [h] <;> decide
  have n6 : ¬ K p = 6 := by rcases h with h | h <;> rw [h] <;> decide
  refine ⟨?_, h0, fun q hq hk hn => ?_, fun q hq hk c hc hcq hn => ?_, fun q hq hk => ?_, fun q hq hk => ?_, fun q hq hk => ?_⟩
  · rw [du_run_s hr, du_s_jump h]
    exact if_neg hl
  · have a : q ≠ p := fun e => nb (e ▸ hk)
    exact h1 q (by omega) hk hn
  · have a : q ≠ p := fun e => n3 (e ▸ hk)
    rw [pk_un a] at hc
    exact h2 q (by omega) hk c hc hcq hn
  · have a : q ≠ p := fun e => nb (e ▸ hk)
    exact (pk_un a).trans (h3 q (by omega) hk)
  · have a : q ≠ p := fun e => n6 (e ▸ hk)
    rw [pk_un a, pk_un a]
    exact h4 q (by omega) hk
  · by_cases e : q = p
    · subst e
      exact pk_us.trans pk_us.symm
    · exact (pk_un e).trans ((h5 q (by omega) hk).trans (pk_un e).symm)
theorem du_Y_else {b : Nat} {t : List Nat} (hY : du_Y K p (b :: t) E L B en el cl lo op) (h : K p = 3) (hbp : b < p) (hb : K b = 2) (hl : L b = -1) (hp : p < 40) (x : Int32) : du_Y K (p + 1) (b :: t) E (upd L b (nI p)) (upd B p (nI b)) en (upd (upd el p (-1)) b (nI p)) (upd cl p (-1)) (upd lo p x) op := by
  obtain ⟨hr, h0, h1, h2, h3, h4, h5⟩ := hY
  have nb : ¬ du_bg (K p) := by rw [h]; decide
  have n6 : ¬ K p = 6 := by rw [h]; decide
  have n7 : ¬ (K p = 7 ∨ K p = 8) := by rw [h]; decide
  refine ⟨?_, h0, fun q hq hk hn => ?_, fun q hq hk c hc hcq hn => ?_, fun q hq hk => ?_, fun q hq hk => ?_, fun q hq hk => ?_⟩
  · rw [du_run_s hr, du_s_else h]
    exact if_pos ⟨hb, hl⟩
  · have a : q ≠ p := fun e => nb (e ▸ hk)
    exact h1 q (by omega) hk hn
  · by_cases e : q = p
    · subst e
      rw [pk_us] at hc
      have e2 := (nI_eq (by omega) (by omega)).mp hc
      subst e2
      exact absurd (List.mem_cons_self ..) hn
    · rw [pk_un e] at hc
      exact h2 q (by omega) hk c hc hcq hn
  · have a : q ≠ p := fun e => nb (e ▸ hk)
    by_cases e : q = b
    · subst e
      exact pk_us.trans pk_us.symm
    · rw [pk_un e, pk_un a, pk_un e]
      exact h3 q (by omega) hk
  · have a : q ≠ p := fun e => n6 (e ▸ hk)
    rw [pk_un a, pk_un a]
    exact h4 q (by omega) hk
  · have a : q ≠ p := fun e => n7 (e ▸ hk)
    rw [pk_un a, pk_un a]
    exact h5 q (by omega) hk
/-- an END: the ends written are en', which agree with en but at the begin, and at its ELSE if it has one -/
theorem du_Y_end {b : Nat} {t : List Nat} {en' cl' : Nat → Int32} (hY : du_Y K p (b :: t) E L B en el cl lo op) (h : K p = 6) (hp : p < 40) (x : Int32)
    (e1 : en' b = nI p) (e2 : ∀ q, q ≠ b → (¬ (K b = 2 ∧ L b = nI q)) → en' q = en q) (e3 : K b = 2 → ∀ q, q < 40 → L b = nI q → en' q = nI p)
    (c1 : cl' p = if K b = 2 then -1 else nI b) (c2 : ∀ q, q ≠ p → cl' q = cl q) : du_Y K (p + 1) t (upd E b (nI p)) L (upd B p (nI b)) en' (upd el p (-1)) cl' (upd lo p x) op := by
  obtain ⟨hr, h0, h1, h2, h3, h4, h5⟩ := hY
  obtain ⟨j1, _, _, j4, j5, _, _⟩ := du_J_run p _ (by omega) hr
  have hbp : b < p := (j1 b (List.mem_cons_self ..)).1
  have hbg : du_bg (K b) := (j1 b (List.mem_cons_self ..)).2
  have nb : ¬ du_bg (K p) := by rw [h]; decide
  have n3 : ¬ K p = 3 := by rw [h]; decide
  have n7 : ¬ (K p = 7 ∨ K p = 8) := by rw [h]; decide
  have hL : ∀ q, q < p → L b = nI q → K q = 3 ∧ B q = nI b := by
    intro q hq hl
    rcases j4 b hbp hbg with z | ⟨e, z1, z2, z3, z4, z5⟩
    · exact absurd (hl.symm.trans z) (du_nm1 (by omega))
    · have ee : e = q := (nI_eq (by omega) (by omega)).mp (z3.symm.trans hl)
      subst ee
      exact ⟨z4, z5⟩
  refine ⟨?_, h0.2, fun q hq hk hn => ?_, fun q hq hk c hc hcq hn => ?_, fun q hq hk => ?_, fun q hq hk => ?_, fun q hq hk => ?_⟩
  · rw [du_run_s hr, du_s_end h]
    rfl
  · have a : q ≠ p := fun e => nb (e ▸ hk)
    by_cases e : q = b
    · subst e
      exact e1.trans pk_us.symm
    · rw [pk_un e, e2 q e ?_]
      · refine h1 q (by omega) hk (fun z => ?_)
        rcases List.mem_cons.mp z with z | z
        · exact e z
        · exact hn z
      · intro z
        have := (hL q (by omega) z.2).1
        rw [this] at hk
        exact absurd hk (by decide)
  · have a : q ≠ p := fun e => n3 (e ▸ hk)
    rw [pk_un a] at hc
    have qb : q ≠ b := by
      intro e
      subst e
      rw [hk] at hbg
      exact absurd hbg (by decide)
    obtain ⟨c', y1, y2, y3, y4⟩ := j5 q (by omega) hk
    have y2 : B q = nI c' := y2
    have y4 : L c' = nI q := y4
    have ec : c' = c := (nI_eq (by omega) (by omega)).mp (y2.symm.trans hc)
    subst ec
    by_cases e : c' = b
    · subst e
      rw [pk_us]
      exact e3 y3 q (by omega) y4
    · rw [pk_un e, e2 q qb ?_]
      · refine h2 q (by omega) hk c' hc hcq (fun z => ?_)
        rcases List.mem_cons.mp z with z | z
        · exact e z
        · exact hn z
      · intro z
        have w := (hL q (by omega) z.2).2
        exact e ((nI_eq (by omega) (by omega)).mp (hc.symm.trans w))
  · have a : q ≠ p := fun e => nb (e ▸ hk)
    exact (pk_un a).trans (h3 q (by omega) hk)
  · by_cases e : q = p
    · subst e
      rw [c1, pk_us, nI_clamp (by omega)]
    · rw [c2 q e, pk_un e]
      exact h4 q (by omega) hk
  · have a : q ≠ p := fun e => n7 (e ▸ hk)
    rw [pk_un a, pk_un a]
    exact h5 q (by omega) hk
theorem du_y_close {post : SY → Prop} {b : Nat} (hb : b < 40) (hp : p < 40) (hl : el b = -1 ∨ ∃ e, e < 40 ∧ e ≠ b ∧ el b = nI e)
    (h : ∀ en' cl' : Nat → Int32, en' b = nI p → (∀ q, q ≠ b → (¬ (K b = 2 ∧ el b = nI q)) → en' q = en q) → (K b = 2 → ∀ q, q < 40 → el b = nI q → en' q = nI p) → cl' p = (if K b = 2 then cl p else nI b) → (∀ q, q ≠ p → cl' q = cl q) → post (sz, K, V, en', el, cl', lo, op)) : wpY_close post (sz, K, V, en, el, cl, lo, op) (nI b) (nI p) := by
  have hcb : (nI b).toNatClampNeg = b := nI_clamp (by omega)
  have hcp : (nI p).toNatClampNeg = p := nI_clamp (by omega)
  have hib : vp_in (nI b) 40 := vp_in_nI hb (by decide)
  refine ⟨hib, fun a1 x1 => ⟨hib, ?_⟩⟩
  rw [hcb] at x1 ⊢
  subst x1
  by_cases z : K b = 2
  · refine br_t z ⟨hib, ?_⟩
    rw [hcb]
    refine br_t z ⟨hib, ?_⟩
    rcases hl with y | ⟨e, y1, y2, y3⟩
    · refine br_t (by rw [y]; decide) (h _ _ pk_us (fun q hq _ => pk_un hq) (fun _ q hq w => absurd (w.symm.trans y) (du_nm1 (by omega))) (if_pos z).symm (fun q _ => rfl))
    · refine br_f (by rw [y3]; exact nI_pos (by omega)) ⟨hib, ?_⟩
      rw [y3, nI_clamp (by omega)]
      refine ⟨vp_in_nI y1 (by decide), fun a2 x2 => ?_⟩
      subst x2
      refine h _ _ ((pk_un (fun w => y2 w.symm)).trans pk_us) (fun q hq w => ?_) (fun _ q hq w => ?_) (if_pos z).symm (fun q _ => rfl)
      · have qe : q ≠ e := fun w2 => w ⟨z, by rw [w2]; exact y3⟩
        rw [pk_un qe, pk_un hq]
      · have qe : e = q := (nI_eq (by omega) (by omega)).mp (y3.symm.trans w)
        subst qe
        exact pk_us
  · refine br_f z ⟨vp_in_nI hp (by decide), fun a2 x2 => ⟨hib, ?_⟩⟩
    rw [hcp] at x2
    subst x2
    rw [hcb]
    refine br_f z (h _ _ pk_us (fun q hq _ => pk_un hq) (fun w => absurd w z) ?_ (fun q hq => pk_un hq))
    rw [pk_us, if_neg z]
end
end
section
/-! the reference's sound() -/
section
variable {sz : Int32} {K V en el cl lo op : Nat → Int32} {p : Nat} {s : List Nat} {E L B : Nat → Int32}
theorem du_y_s35 {post : Int32 → SY → Prop} {J : Int32 → Int32 → Int32 → (Nat → Int32) → (Nat → Int32) → (Nat → Int32) → (Nat → Int32) → (Nat → Int32) → (Nat → Int32) → (Nat → Int32) → Prop} {k : Int32} (hY : du_Y K p s E L B en el cl lo op) (hp : p < 40) (ek : k = K p)
    (ok : ∀ (s : List Nat) (E L B en el cl lo op : Nat → Int32), du_Y K (p + 1) s E L B en el cl lo op → J (nI s.length) (nI (p + 1)) sz K V en el cl lo op)
    (no : du_run K (p + 1) = none → ∀ el cl lo : Nat → Int32, post 0 (sz, K, V, en, el, cl, lo, op)) : wY_sound_35 post J (nI s.length) (nI p) k (du_tp s) sz K V en el cl lo op := by
  have hcl : (nI p).toNatClampNeg = p := nI_clamp (by omega)
  have hin : vp_in (nI p) 40 := vp_in_nI hp (by decide)
  have hr : du_run K p = some (s, E, L, B) := hY.1
  obtain ⟨j1, j2, _, j4, _, _, _⟩ := du_J_run p _ (by omega) hr
  have j1 : ∀ b, b ∈ s → b < p ∧ du_bg (K b) := j1
  have j2 : s.length ≤ p := j2
  refine du_y_in (fun b hb => by have := (j1 b hb).1; omega) (by omega) hY.2.1 ⟨hin, fun lo1 e1 => ⟨hin, fun el1 e2 => ⟨hin, fun cl1 e3 => ?_⟩⟩⟩
  rw [hcl] at e1 e2 e3
  subst e1 e2 e3
  have opn : du_bg (K p) → wY_sound_77 post J (nI s.length) (nI p) sz K V en (upd el p (-1)) (upd cl p (-1)) (upd lo p (du_lp K s)) op := by
    intro h
    have hc2 : (nI s.length).toNatClampNeg = s.length := nI_clamp (by omega)
    refine ⟨vp_in_nI (by omega) (by decide), fun a ea x ex y ey => ?_⟩
    rw [hc2] at ea
    rw [ex, ey, nI_1, nI_1]
    subst ea
    exact ok (p :: s) _ _ _ _ _ _ _ _ (du_Y_open hY hp h _)
  have jump : (K p = 7 ∨ K p = 8) → wY_sound_172 post J (nI s.length) (nI p) sz K V en (upd el p (-1)) (upd cl p (-1)) (upd lo p (du_lp K s)) op := by
    intro h
    refine ⟨hin, ?_⟩
    rw [hcl, pk_us]
    rcases du_lp_in (K := K) s with z | ⟨c, c1, c2, c3⟩
    · refine br_f (by rw [z]; decide) (no ?_ _ _ _)
      rw [du_run_s hr, du_s_jump h]
      exact if_pos z
    · have cp := (j1 c c1).1
      refine br_t (by rw [c3]; exact nI_pos' (by omega)) (fun x ex => ?_)
      rw [ex, nI_1]
      exact ok s _ _ _ _ _ _ _ _ (du_Y_jump hY h (by rw [c3]; exact du_nm1 (by omega)))
  by_cases h2 : k = 2
  · exact br_t h2 (opn (Or.inl (ek.symm.trans h2)))
  refine br_f h2 ?_
  by_cases h4 : k = 4
  · exact br_t h4 (opn (Or.inr (Or.inl (ek.symm.trans h4))))
  refine br_f h4 ?_
  by_cases h5 : k = 5
  · exact br_t h5 (opn (Or.inr (Or.inr (ek.symm.trans h5))))
  refine br_f h5 ?_
  by_cases h3 : k = 3
  · have hk : K p = 3 := ek.symm.trans h3
    refine br_t h3 ?_
    cases s with
    | nil => exact br_t (by decide) (no (by rw [du_run_s hr, du_s_else hk]; rfl) _ _ _)
    | cons b t =>
      have hb : b < p := (j1 b (List.mem_cons_self ..)).1
      have hbg : du_bg (K b) := (j1 b (List.mem_cons_self ..)).2
      have hcb : (nI b).toNatClampNeg = b := nI_clamp (by omega)
      have hib : vp_in (nI b) 40 := vp_in_nI (by omega) (by decide)
      have hel : upd el p (-1) b = L b := (pk_un (by omega)).trans (hY.2.2.2.2.1 b hb hbg)
      refine br_f (nI_pos (n := b) (by omega)) ⟨hib, ?_⟩
      show (K (nI b).toNatClampNeg = 2 → _) ∧ (¬ K (nI b).toNatClampNeg = 2 → _)
      rw [hcb]
      by_cases z2 : K b = 2
      · refine br_t z2 ⟨hib, ?_⟩
        show (upd el p (-1) (nI b).toNatClampNeg < 0 → _) ∧ (¬ upd el p (-1) (nI b).toNatClampNeg < 0 → _)
        rw [hcb, hel]
        by_cases zl : L b = -1
        · refine br_t (by rw [zl]; decide) ⟨hib, fun a ea x ex => ?_⟩
          have ea : a = upd (upd el p (-1)) (nI b).toNatClampNeg (nI p) := ea
          rw [hcb] at ea
          rw [ex, nI_1]
          subst ea
          exact ok (b :: t) _ _ _ _ _ _ _ _ (du_Y_else hY hk hb z2 zl hp _)
        · rcases j4 b hb hbg with z | ⟨e, z1, z3, z4, _⟩
          · exact absurd z zl
          · have z4 : L b = nI e := z4
            refine br_f (by rw [z4]; exact nI_pos (by omega)) (no ?_ _ _ _)
            rw [du_run_s hr, du_s_else hk]
            exact if_neg (fun w => zl w.2)
      · refine br_f z2 (no ?_ _ _ _)
        rw [du_run_s hr, du_s_else hk]
        exact if_neg (fun w => z2 w.1)
  refine br_f h3 ?_
  by_cases h6 : k = 6
  · have hk : K p = 6 := ek.symm.trans h6
    refine br_t h6 ?_
    cases s with
    | nil => exact br_f (by decide) (no (by rw [du_run_s hr, du_s_end hk]; rfl) _ _ _)
    | cons b t =>
      have hb : b < p := (j1 b (List.mem_cons_self ..)).1
      have hbg : du_bg (K b) := (j1 b (List.mem_cons_self ..)).2
      have hel : upd el p (-1) b = L b := (pk_un (by omega)).trans (hY.2.2.2.2.1 b hb hbg)
      refine br_t (nI_pos' (n := b) (by omega)) (du_y_close (by omega) hp ?_ (fun en' cl' g1 g2 g3 g4 g5 => ?_))
      · rw [hel]
        rcases j4 b hb hbg with z | ⟨e, z1, z3, z4, _⟩
        · exact Or.inl z
        · exact Or.inr ⟨e, by omega, by omega, z4⟩
      · intro x ex y ey
        have hx : x = nI t.length := by
          rw [ex]
          exact pk_m1 t.length
        rw [hx, ey, nI_1]
        rw [hel] at g2 g3
        rw [pk_us] at g4
        exact ok t _ _ _ _ _ _ _ _ (du_Y_end hY hk hp _ g1 g2 g3 g4 (fun q hq => (g5 q hq).trans (pk_un hq)))
  refine br_f h6 ?_
  by_cases h7 : k = 7
  · exact br_t h7 (jump (Or.inl (ek.symm.trans h7)))
  refine br_f h7 ?_
  by_cases h8 : k = 8
  · exact br_t h8 (jump (Or.inr (ek.symm.trans h8)))
  refine br_f h8 (fun x ex => ?_)
  rw [ex, nI_1]
  subst ek
  refine ok s _ _ _ _ _ _ _ _ (du_Y_other hY ?_ h3 h6 ?_ _)
  · rintro (z | z | z)
    · exact h2 z
    · exact h4 z
    · exact h5 z
  · rintro (z | z)
    · exact h7 z
    · exact h8 z
end
/-- what the reference's arrays hold where sound() says true -/
def du_YA (n : Nat) (K E L B en el cl lo : Nat → Int32) : Prop :=
  du_run K n = some ([], E, L, B) ∧ (∀ q, q < n → du_bg (K q) → en q = E q) ∧ (∀ q, q < n → K q = 3 → en q = E (B q).toNatClampNeg) ∧ (∀ q, q < n → du_bg (K q) → el q = L q) ∧
  (∀ q, q < n → K q = 6 → cl q = if K (B q).toNatClampNeg = 2 then -1 else B q) ∧ (∀ q, q < n → (K q = 7 ∨ K q = 8) → lo q = B q)
theorem du_y_s4 {post : Int32 → SY → Prop} {n : Nat} {K V : Nat → Int32} (hn : n ≤ 40)
    (yes : ∀ E L B en el cl lo op : Nat → Int32, du_YA n K E L B en el cl lo → post 1 ((nI n), K, V, en, el, cl, lo, op))
    (no : ¬ du_W K n → ∀ en el cl lo op : Nat → Int32, post 0 ((nI n), K, V, en, el, cl, lo, op)) :
    ∀ (d p : Nat) (s : List Nat) (E L B en el cl lo op : Nat → Int32), p + d = n → du_Y K p s E L B en el cl lo op → wY_sound_4 post (d + 1) (nI s.length) (nI p) (nI n) K V en el cl lo op := by
  intro d
  induction d with
  | zero =>
    intro p s E L B en el cl lo op hp hY
    have e : p = n := hp
    subst e
    refine br_t (nI_le (Nat.le_refl _) (by omega)) ?_
    obtain ⟨hr, h0, h1, h2, h3, h4, h5⟩ := hY
    have J := du_J_run p _ (by omega) hr
    have hlen : s.length ≤ p := J.2.1
    cases s with
    | nil =>
      refine br_t nI_0 (yes E L B en el cl lo op ⟨hr, fun q hq hk => h1 q hq hk (fun z => by cases z), fun q hq hk => ?_, h3, h4, h5⟩)
      obtain ⟨b, b1, b2, _⟩ := J.2.2.2.2.1 q hq hk
      have b2 : B q = nI b := b2
      rw [b2, nI_clamp (by omega)]
      exact h2 q hq hk b b2 b1 (fun z => by cases z)
    | cons b t =>
      have hlen : t.length + 1 ≤ p := hlen
      refine br_f (nI_ne0 (n := t.length + 1) (by omega) (by omega)) (no ?_ en el cl lo op)
      intro ⟨E', L', B', w⟩
      rw [hr] at w
      cases w
  | succ d ih =>
    intro p s E L B en el cl lo op hp hY
    have hcl : (nI p).toNatClampNeg = p := nI_clamp (by omega)
    have hlen : s.length ≤ p := (du_J_run p _ (by omega) hY.1).2.1
    refine br_f (nI_ge (by omega) (by omega)) ⟨vp_in_nI (by omega) (by decide), fun k ek => ?_⟩
    rw [hcl] at ek
    have main : wY_sound_35 post (wY_sound_4 post (d + 1)) (nI s.length) (nI p) k (du_tp s) (nI n) K V en el cl lo op :=
      du_y_s35 hY (by omega) ek (fun s E L B en el cl lo op h => ih (p + 1) s E L B en el cl lo op (by omega) h) (fun h el cl lo => no (du_nW h (by omega)) en el cl lo op)
    cases s with
    | nil => exact br_t (by decide) main
    | cons b t =>
      have hlen : t.length + 1 ≤ p := hlen
      have e : nI (b :: t).length - 1 = nI t.length := nI_pred t.length
      have hc2 : (nI t.length).toNatClampNeg = t.length := nI_clamp (by omega)
      refine br_f (nI_nle (n := t.length + 1) (by omega) (by omega)) ?_
      rw [e, hc2, hY.2.1.1]
      exact ⟨vp_in_nI (by omega) (by decide), main⟩
theorem du_y_sound {post : Int32 → SY → Prop} {n : Nat} {K V en el cl lo op : Nat → Int32} (hn : n ≤ 40)
    (yes : ∀ E L B en el cl lo op : Nat → Int32, du_YA n K E L B en el cl lo → post 1 ((nI n), K, V, en, el, cl, lo, op))
    (no : ¬ du_W K n → ∀ en el cl lo op : Nat → Int32, post 0 ((nI n), K, V, en, el, cl, lo, op)) : wpY_sound post ((nI n), K, V, en, el, cl, lo, op) :=
  ⟨n + 1, du_y_s4 hn yes no n 0 [] _ _ _ en el cl lo op (Nat.zero_add n) ⟨rfl, trivial, fun q hq => absurd hq (Nat.not_lt_zero q), fun q hq => absurd hq (Nat.not_lt_zero q), fun q hq => absurd hq (Nat.not_lt_zero q), fun q hq => absurd hq (Nat.not_lt_zero q), fun q hq => absurd hq (Nat.not_lt_zero q)⟩⟩
end
section
/-! the reference's ways and searches -/
section
variable {n : Nat} {K V en el cl lo op : Nat → Int32} {E L B : Nat → Int32} {p : Nat}
theorem du_y_next {post : Int32 → Prop} (hn : n ≤ 40) (hY : du_YA n K E L B en el cl lo) (hp : p < n) (h : post (du_a K E B p)) : wpY_next post ((nI n), K, V, en, el, cl, lo, op) (nI p) := by
  have hcl : (nI p).toNatClampNeg = p := nI_clamp (by omega)
  have hin : vp_in (nI p) 40 := vp_in_nI (by omega) (by decide)
  have nx : nI p + 1 = nI (p + 1) := nI_1 p
  obtain ⟨hr, y1, y2, y3, y4, y5⟩ := hY
  obtain ⟨_, _, _, _, _, j6, j7⟩ := du_J_run n _ (by omega) hr
  refine ⟨hin, fun k ek => ?_⟩
  rw [hcl] at ek ⊢
  by_cases h3 : K p = 3
  · rw [du_a3 h3, ← y2 p hp h3] at h
    exact br_t (ek.trans h3) ⟨hin, h⟩
  refine br_f (fun z => h3 (ek.symm.trans z)) ?_
  by_cases h6 : K p = 6
  · obtain ⟨b, b1, b2, b3⟩ := j6 p hp h6
    have b2 : B p = nI b := b2
    have hc := y4 p hp h6
    rw [du_a6 h6] at h
    rw [b2, nI_clamp (by omega)] at hc h
    refine br_t (ek.trans h6) ⟨hin, ?_⟩
    by_cases z : K b = 2
    · rw [if_pos z] at hc h
      rw [hc]
      have e6 : k = 6 := ek.trans h6
      subst e6
      refine br_t (by decide) (br_f (by decide) (br_f (by decide) (br_f (by decide) ?_)))
      rw [nx]
      exact h
    · rw [if_neg z] at hc h
      rw [hc]
      exact br_f (nI_pos (by omega)) ⟨hin, h⟩
  refine br_f (fun z => h6 (ek.symm.trans z)) ?_
  by_cases h7 : K p = 7
  · obtain ⟨b, b1, b2, b3, b4⟩ := j7 p hp (Or.inl h7)
    have b2 : B p = nI b := b2
    have hc : lo p = nI b := (y5 p hp (Or.inl h7)).trans b2
    rw [du_a7 h7, b2, nI_clamp (by omega), ← y1 b (by omega) b3] at h
    refine br_t (ek.trans h7) ⟨hin, ?_⟩
    rw [hcl, hc, nI_clamp (by omega)]
    exact br_f (nI_pos (by omega)) ⟨hin, vp_in_nI (by omega) (by decide), h⟩
  refine br_f (fun z => h7 (ek.symm.trans z)) ?_
  by_cases h8 : K p = 8
  · rw [du_a8 h8, ← y5 p hp (Or.inr h8)] at h
    refine br_t (ek.trans h8) ⟨hin, ?_⟩
    rw [hcl]
    exact h
  refine br_f (fun z => h8 (ek.symm.trans z)) ?_
  by_cases h9 : K p = 9
  · rw [du_a9 h9] at h
    exact br_t (ek.trans h9) h
  · rw [du_aO h3 h6 h7 h8 h9, ← nx] at h
    exact br_f (fun z => h9 (ek.symm.trans z)) h
theorem du_y_other {post : Int32 → Prop} (hn : n ≤ 40) (hY : du_YA n K E L B en el cl lo) (hp : p < n) (h : post (du_b K E L p)) : wpY_other post ((nI n), K, V, en, el, cl, lo, op) (nI p) := by
  have hcl : (nI p).toNatClampNeg = p := nI_clamp (by omega)
  have hin : vp_in (nI p) 40 := vp_in_nI (by omega) (by decide)
  obtain ⟨hr, y1, y2, y3, y4, y5⟩ := hY
  obtain ⟨_, _, _, j4, _, _, _⟩ := du_J_run n _ (by omega) hr
  refine ⟨hin, ?_⟩
  rw [hcl]
  by_cases h2 : K p = 2
  · rw [du_b2 h2, ← y1 p hp (Or.inl h2)] at h
    have e3 := y3 p hp (Or.inl h2)
    refine br_t h2 ⟨hin, ?_⟩
    rw [e3]
    rcases j4 p hp (Or.inl h2) with z | ⟨e, z1, z2, z3, _⟩
    · have z : L p = -1 := z
      rw [if_pos z] at h
      rw [z]
      exact br_t (by decide) ⟨hin, h⟩
    · have z3 : L p = nI e := z3
      rw [if_neg (by rw [z3]; exact du_nm1 (by omega))] at h
      rw [z3] at h ⊢
      exact br_f (nI_pos (by omega)) ⟨hin, h⟩
  · refine br_f h2 ⟨hin, ?_⟩
    by_cases h4 : K p = 4
    · rw [du_b4 h4, ← y1 p hp (Or.inr (Or.inl h4))] at h
      exact br_t h4 ⟨hin, h⟩
    · rw [du_bO h2 h4] at h
      exact br_f h4 h
theorem du_y_bit {post : Int64 → Prop} {sz x : Int32} (hn : n ≤ 40) (hx : du_in n x) (h : ∀ r : Int64, (∀ q, q ≤ n → (du_t r q = true ↔ x = nI q)) → post r) : wpY_bit post (sz, K, V, en, el, cl, lo, op) x := by
  rcases hx with e | ⟨r, hr, e⟩
  · subst e
    refine br_f (by decide) (h 0 (fun q hq => ?_))
    rw [du_t_0]
    exact ⟨fun z => absurd z (by decide), fun z => absurd z (du_n1 (by omega))⟩
  · subst e
    refine br_t (nI_pos' (by omega)) (h _ (fun q hq => ?_))
    rw [du_t_1 (by omega), decide_eq_true_iff, nI_eq (by omega) (by omega)]
def du_S4 (n : Nat) (s : Int64) (q : Nat) : Prop := q ≤ n ∧ du_t s q = true
theorem du_y_51 {post : Int64 → Prop} {J6 J16 : Int64 → Int32 → Prop} {v k : Int32} {s : Int64} (hn : n ≤ 40) (hY : du_YA n K E L B en el cl lo) (hp : p < n)
    (h : ∀ s' : Int64, (∀ q, du_S4 n s' q ↔ du_S4 n s q ∨ (du_S4 n s p ∧ du_E n (du_a K E B) (du_b K E L) p q)) → J16 s' (nI (p + 1))) : wY_search_51 post J6 J16 v s k (nI p) 0 (nI n) K V en el cl lo op := by
  have J := du_J_run n _ (by omega) hY.1
  have i1 := du_a_in hn J hp
  have i2 := du_b_in J hp
  by_cases z : du_t s p = true
  · refine br_t ((du_at s (by omega)).mpr z) (br_t rfl ?_)
    refine du_y_next hn hY hp (du_y_other hn hY hp (du_y_bit hn i1 (fun r1 h1 => du_y_bit hn i2 (fun r2 h2 => ?_))))
    intro s' es x ex
    rw [ex, nI_1]
    subst es
    refine h _ (fun q => ?_)
    constructor
    · intro ⟨y1, y2⟩
      rw [du_t_or, du_t_or, Bool.or_eq_true, Bool.or_eq_true, h1 q y1, h2 q y1] at y2
      rcases y2 with (y2 | y2) | y2
      · exact Or.inl ⟨y1, y2⟩
      · exact Or.inr ⟨⟨by omega, z⟩, hp, y1, Or.inl y2⟩
      · exact Or.inr ⟨⟨by omega, z⟩, hp, y1, Or.inr y2⟩
    · rintro (⟨y1, y2⟩ | ⟨_, _, y1, y2⟩)
      · refine ⟨y1, ?_⟩
        rw [du_t_or, du_t_or, y2]
        rfl
      · refine ⟨y1, ?_⟩
        rw [du_t_or, du_t_or, Bool.or_eq_true, Bool.or_eq_true, h1 q y1, h2 q y1]
        rcases y2 with y2 | y2
        · exact Or.inl (Or.inr y2)
        · exact Or.inr y2
  · refine br_f (fun y => z ((du_at s (by omega)).mp y)) (fun x ex => ?_)
    rw [ex, nI_1]
    exact h s (fun q => ⟨Or.inl, fun y => y.elim id (fun w => absurd w.1.2 z)⟩)
theorem du_y_51s {post : Int64 → Prop} {J6 J16 : Int64 → Int32 → Prop} {v k sz : Int32} {s : Int64} (h : J16 s (nI (p + 1))) : wY_search_51 post J6 J16 v s k (nI p) 1 sz K V en el cl lo op := by
  have e : ∀ x : Int32, x = nI p + 1 → J16 s x := by
    intro x ex
    rw [ex, nI_1]
    exact h
  exact br_c (fun _ => br_f (by decide) e) (fun _ => e)
theorem du_y_16 {post : Int64 → Prop} {J6 : Int64 → Int32 → Prop} {v : Int32} {k : Nat} {f : Nat → Prop} (hn : n ≤ 40) (hY : du_YA n K E L B en el cl lo)
    (h : ∀ s : Int64, du_I n (du_a K E B) (du_b K E L) (du_st K V v) f k n (du_S4 n s) → J6 s (nI (k + 1))) :
    ∀ (d p : Nat) (s : Int64), p + d = n → du_I n (du_a K E B) (du_b K E L) (du_st K V v) f k p (du_S4 n s) → wY_search_16 post J6 v (nI k) (nI n) K V en el cl lo op (d + 1) s (nI p) := by
  intro d
  induction d with
  | zero =>
    intro p s hp hI
    have e : p = n := hp
    subst e
    refine br_t (nI_le (Nat.le_refl _) (by omega)) (fun x ex => ?_)
    rw [ex, nI_1]
    exact h s hI
  | succ d ih =>
    intro p s hp hI
    have hpn : p < n := by omega
    have hcl : (nI p).toNatClampNeg = p := nI_clamp (by omega)
    have hin : vp_in (nI p) 40 := vp_in_nI (by omega) (by decide)
    refine br_f (nI_ge (by omega) (by omega)) ⟨hin, ?_⟩
    rw [hcl]
    have go : ¬ du_st K V v p → wY_search_51 post J6 (wY_search_16 post J6 v (nI k) (nI n) K V en el cl lo op (d + 1)) v s (nI k) (nI p) 0 (nI n) K V en el cl lo op := by
      intro hs
      refine du_y_51 hn hY hpn (fun s' h' => ih (p + 1) s' (by omega) (du_Is hI (fun q => ?_)))
      rw [h' q]
      exact ⟨fun y => y.elim Or.inl (fun w => Or.inr ⟨w.1, hs, w.2⟩), fun y => y.elim Or.inl (fun w => Or.inr ⟨w.1, w.2.2⟩)⟩
    by_cases z : K p = 0
    · refine br_t z ⟨hin, ?_⟩
      by_cases y : V p = v
      · refine br_t y (du_y_51s (ih (p + 1) s (by omega) (du_Is hI (fun q => ⟨Or.inl, fun w => w.elim id (fun w => absurd ⟨z, y⟩ w.2.1)⟩))))
      · exact br_f y (go (fun w => y w.2))
    · exact br_f z (go (fun w => z w.1))
theorem du_y_6 {post : Int64 → Prop} {v : Int32} {f : Nat → Prop} (hn : n ≤ 40) (hY : du_YA n K E L B en el cl lo)
    (h : ∀ s : Int64, (∀ q, q ≤ n → (du_t s q = true ↔ du_T n (du_a K E B) (du_b K E L) (du_st K V v) f q)) → post s) :
    ∀ (d k : Nat) (s : Int64), k + d = 41 → du_I n (du_a K E B) (du_b K E L) (du_st K V v) f k 0 (du_S4 n s) → wY_search_6 post v (nI n) K V en el cl lo op (d + 1) s (nI k) := by
  intro d
  induction d with
  | zero =>
    intro k s hk hI
    have e : k = 41 := hk
    subst e
    refine br_t (by decide) (h s (fun q hq => ?_))
    have f := du_If hI (Nat.le_trans (by omega : n + 1 ≤ 41) (Nat.le_add_left 41 _)) q
    exact ⟨fun z => f.mp ⟨hq, z⟩, fun z => (f.mpr z).2⟩
  | succ d ih =>
    intro k s hk hI
    exact br_f (nI_ge (b := 41) (by omega) (by decide)) ⟨n + 1, du_y_16 hn hY (fun s hI => ih (k + 1) s (by omega) (du_In hI)) n 0 s (Nat.zero_add n) hI⟩
theorem du_y_search {post : Int64 → Prop} {v : Int32} {f : Nat → Prop} {s : Int64} (hn : n ≤ 40) (hY : du_YA n K E L B en el cl lo) (hs : ∀ q, q ≤ n → (du_t s q = true ↔ f q))
    (h : ∀ s : Int64, (∀ q, q ≤ n → (du_t s q = true ↔ du_T n (du_a K E B) (du_b K E L) (du_st K V v) f q)) → post s) : wpY_search post ((nI n), K, V, en, el, cl, lo, op) s v :=
  ⟨42, du_y_6 hn hY h 41 0 s rfl (du_I0 (fun q => ⟨fun z => ⟨z.1, (hs q z.1).mp z.2⟩, fun z => ⟨z.1, (hs q z.1).mpr z.2⟩⟩))⟩
theorem du_y_at {post : Int32 → Prop} {sz : Int32} {s : Int64} {q : Nat} (hq : q ≤ 40) (h1 : du_t s q = true → post 1) (h0 : ¬ du_t s q = true → post 0) : wpY_at post (sz, K, V, en, el, cl, lo, op) s (nI q) :=
  br_c (fun z => h1 ((du_at s (by omega)).mp z)) (fun z => h0 (fun y => z ((du_at s (by omega)).mpr y)))
theorem du_y_uses1 {post : Int32 → Prop} {s : Int64} {v : Int32} (hn : n ≤ 40) (h1 : (∃ q, q < n ∧ du_us K V v q ∧ du_t s q = true) → post 1) (h0 : ¬ (∃ q, q < n ∧ du_us K V v q ∧ du_t s q = true) → post 0) :
    ∀ (d p : Nat), p + d = n → (∀ q, q < p → ¬ (du_us K V v q ∧ du_t s q = true)) → wY_uses_3 post s v (nI n) K V en el cl lo op (d + 1) (nI p) := by
  intro d
  induction d with
  | zero =>
    intro p hp hI
    have e : p = n := hp
    subst e
    exact br_t (nI_le (Nat.le_refl _) (by omega)) (h0 (fun ⟨q, q1, q2⟩ => hI q q1 q2))
  | succ d ih =>
    intro p hp hI
    have hcl : (nI p).toNatClampNeg = p := nI_clamp (by omega)
    have hin : vp_in (nI p) 40 := vp_in_nI (by omega) (by decide)
    have nx : ¬ (du_us K V v p ∧ du_t s p = true) → ∀ x : Int32, x = nI p + 1 → wY_uses_3 post s v (nI n) K V en el cl lo op (d + 1) x := by
      intro hp' x ex
      rw [ex, nI_1]
      refine ih (p + 1) (by omega) (fun q hq => ?_)
      by_cases e : q = p
      · rw [e]
        exact hp'
      · exact hI q (by omega)
    refine br_f (nI_ge (by omega) (by omega)) (du_y_at (by omega) (fun z => br_f (by decide) ⟨hin, ?_⟩) (fun z => br_t rfl (nx (fun w => z w.2))))
    rw [hcl]
    by_cases a : K p = 1
    · refine br_t a ⟨hin, ?_⟩
      by_cases b : V p = v
      · exact br_t b (h1 ⟨p, by omega, ⟨a, b⟩, z⟩)
      · exact br_f b (nx (fun w => b w.1.2))
    · exact br_f a (nx (fun w => a w.1.1))
theorem du_y_uses {post : Int32 → Prop} {s : Int64} {v : Int32} (hn : n ≤ 40) (h1 : (∃ q, q < n ∧ du_us K V v q ∧ du_t s q = true) → post 1) (h0 : ¬ (∃ q, q < n ∧ du_us K V v q ∧ du_t s q = true) → post 0) : wpY_uses post ((nI n), K, V, en, el, cl, lo, op) s v :=
  ⟨n + 1, du_y_uses1 hn h1 h0 n 0 (Nat.zero_add n) (fun q hq => absurd hq (Nat.not_lt_zero q))⟩
/-- from place f, before v is set: is v used? -/
theorem du_y_eq {A W : Nat → Int32} {s : Int64} {v : Int32} {f : Nat} (hf : f ≤ n) (hr : ∀ q, q ≤ n → (du_t s q = true ↔ du_T n A W (du_st K V v) (fun x => x = f) q)) : (∃ q, q < n ∧ du_us K V v q ∧ du_t s q = true) ↔ du_V n A W (du_st K V v) (du_us K V v) f := by
  rw [du_VT hf]
  constructor
  · rintro ⟨q, q1, q2, q3⟩
    exact ⟨q, q1, q2, (hr q (by omega)).mp q3⟩
  · rintro ⟨q, q1, q2, q3⟩
    exact ⟨q, q1, q2, (hr q (by omega)).mpr q3⟩
end
end
section
/-! the asking calls -/
section
variable {n : Nat} {io il wf : Int32} {K V en el be oO oL fw sw ra sa wa : Nat → Int32} {cl lo op : Nat → Int32} {E L B : Nat → Int32} {p : Nat} {x : Int32}
theorem du_q_tok {post : Int32 → Prop} (hn : n ≤ 40) (hp : p < n) (h : post 1) : wpX_isToken post ((nI n), io, il, wf, K, V, en, el, be, oO, oL, fw, sw, ra, sa, wa) (nI p) :=
  br_f (nI_pos (by omega)) (br_f (nI_ge hp (by omega)) h)
theorem du_q_not {post : Int32 → Prop} (hx : x < 0 ∨ nI n ≤ x) (h : post 0) : wpX_isToken post ((nI n), io, il, wf, K, V, en, el, be, oO, oL, fw, sw, ra, sa, wa) x := by
  by_cases z : x < 0
  · exact br_t z h
  · exact br_f z (br_t (hx.resolve_left z) h)
theorem du_y_tok {post : Int32 → Prop} (hn : n ≤ 40) (hp : p < n) (h : post 0) : wpY_bad post ((nI n), K, V, en, el, cl, lo, op) (nI p) :=
  br_f (nI_pos (by omega)) (br_t (nI_lt hp (by omega)) h)
theorem du_y_not {post : Int32 → Prop} (hx : x < 0 ∨ nI n ≤ x) (h : post 1) : wpY_bad post ((nI n), K, V, en, el, cl, lo, op) x := by
  by_cases z : x < 0
  · exact br_t z h
  · exact br_f z (br_f (Int32.not_lt.mpr (hx.resolve_left z)) h)
theorem du_y_no {post : Int32 → SY → Prop} (hn : n ≤ 40) (hW : ¬ du_W K n) (h : ∀ en el cl lo op : Nat → Int32, post 0 ((nI n), K, V, en, el, cl, lo, op)) : wpY_sound post ((nI n), K, V, en, el, cl, lo, op) :=
  du_y_sound hn (fun E L B _ _ _ _ _ hY => absurd ⟨E, L, B, hY.1⟩ hW) (fun _ => h)
theorem du_y_yes {post : Int32 → SY → Prop} (hn : n ≤ 40) (hr : du_run K n = some ([], E, L, B)) (h : ∀ en el cl lo op : Nat → Int32, du_YA n K E L B en el cl lo → post 1 ((nI n), K, V, en, el, cl, lo, op)) : wpY_sound post ((nI n), K, V, en, el, cl, lo, op) := by
  refine du_y_sound hn (fun E' L' B' en el cl lo op hY => h en el cl lo op ?_) (fun hW => absurd ⟨E, L, B, hr⟩ hW)
  have e := hr.symm.trans hY.1
  cases e
  exact hY
theorem du_F_1 {A W : Nat → Int32} {v : Int32} {f q : Nat} (hk : du_ok n K V) (h : du_F n K V A W v f q) : du_F n K V A W (-1) f q :=
  du_Tl (S := du_F n K V A W (-1) f) (fun _ hy hf => du_T0 hy hf) (fun _ _ ha _ he => du_T1 ha (du_nst hk he.1) he) q h
/-- token p is an idle SET -/
def du_dl (n : Nat) (K V A W : Nat → Int32) (p : Nat) : Prop := K p = 0 ∧ du_F n K V A W (-1) 0 p ∧ ¬ du_V n A W (du_st K V (V p)) (du_us K V (V p)) (p + 1)
/-- token p is a USE in doubt -/
def du_db (n : Nat) (K V A W : Nat → Int32) (p : Nat) : Prop := K p = 1 ∧ du_F n K V A W (V p) 0 p
theorem du_q_dl {post : Int32 → Prop} {sz : Int32} (hn : n ≤ 40) (hk : du_ok n K V) (hp : p < n) (hw : du_wy n (du_a K E B) (du_b K E L) fw sw)
    (hra : ∀ q, q ≤ n → (¬ ra q = 0 ↔ du_F n K V (du_a K E B) (du_b K E L) (-1) 0 q))
    (hwa : ∀ q, q ≤ n → ∀ v, v < 6 → (bt (wa q) v = true ↔ du_V n (du_a K E B) (du_b K E L) (du_st K V (nI v)) (du_us K V (nI v)) q))
    (h1 : du_dl n K V (du_a K E B) (du_b K E L) p → post 1) (h0 : ¬ du_dl n K V (du_a K E B) (du_b K E L) p → post 0) : wpX_isIdleSet post (sz, io, il, wf, K, V, en, el, be, oO, oL, fw, sw, ra, sa, wa) (nI p) := by
  have hcl : (nI p).toNatClampNeg = p := nI_clamp (by omega)
  refine ⟨vp_in_nI (by omega) (by decide), ?_⟩
  rw [hcl]
  by_cases z : K p = 0
  · refine br_t z ⟨du_in41 hn (by omega), ?_⟩
    by_cases y : ra p = 0
    · exact br_t y (h0 (fun w => (hra p (by omega)).mpr w.2.1 y))
    · refine br_f y ?_
      obtain ⟨v, v1, v2⟩ := (hk p hp).2 (Or.inl z)
      refine du_w_wb hn hw hp (fun r hr => du_w_vbit (by omega) v2 ?_)
      have e : bt r v = true ↔ du_V n (du_a K E B) (du_b K E L) (du_st K V (V p)) (du_us K V (V p)) (p + 1) := by
        rw [hr v, v2, ← hwa (p + 1) (by omega) v v1]
        constructor
        · rintro ⟨q, ⟨_, q1, q2⟩, q3⟩
          rw [du_a_set z, du_b_set z] at q2
          rcases q2 with q2 | q2
          · have e := (nI_eq (by omega) (by omega)).mp q2
            rw [e]
            exact q3
          · exact absurd q2 (du_n1 (by omega))
        · exact fun q3 => ⟨p + 1, ⟨hp, by omega, Or.inl (du_a_set z)⟩, q3⟩
      by_cases b : bt r v = true
      · exact br_f (fun w => absurd ((du_and0 (by omega)).mp w) (by rw [b]; decide)) (h0 (fun w => w.2.2 (e.mp b)))
      · exact br_t ((du_and0 (by omega)).mpr (by simpa using b)) (h1 ⟨z, (hra p (by omega)).mp y, fun w => b (e.mpr w)⟩)
  · exact br_f z (h0 (fun w => z w.1))
theorem du_q_db {post : Int32 → Prop} {sz : Int32} (hn : n ≤ 40) (hk : du_ok n K V) (hp : p < n)
    (hra : ∀ q, q ≤ n → (¬ ra q = 0 ↔ du_F n K V (du_a K E B) (du_b K E L) (-1) 0 q))
    (hsa : ∀ q, q ≤ n → ∀ v, v < 6 → (¬ bt (sa q) v = true ↔ du_F n K V (du_a K E B) (du_b K E L) (nI v) 0 q))
    (h1 : du_db n K V (du_a K E B) (du_b K E L) p → post 1) (h0 : ¬ du_db n K V (du_a K E B) (du_b K E L) p → post 0) : wpX_isDoubtfulUse post (sz, io, il, wf, K, V, en, el, be, oO, oL, fw, sw, ra, sa, wa) (nI p) := by
  have hcl : (nI p).toNatClampNeg = p := nI_clamp (by omega)
  refine ⟨vp_in_nI (by omega) (by decide), ?_⟩
  rw [hcl]
  by_cases z : K p = 1
  · obtain ⟨v, v1, v2⟩ := (hk p hp).2 (Or.inr z)
    refine br_t z ⟨du_in41 hn (by omega), ?_⟩
    by_cases y : ra p = 0
    · exact br_t y (h0 (fun w => (hra p (by omega)).mpr (du_F_1 hk w.2) y))
    · refine br_f y ⟨du_in41 hn (by omega), du_w_vbit (by omega) v2 ?_⟩
      have e := hsa p (by omega) v v1
      rw [← v2] at e
      by_cases b : bt (sa p) v = true
      · exact br_f (fun w => absurd ((du_and0 (by omega)).mp w) (by rw [b]; decide)) (h0 (fun w => e.mpr w.2 b))
      · exact br_t ((du_and0 (by omega)).mpr (by simpa using b)) (h1 ⟨z, e.mp b⟩)
  · exact br_f z (h0 (fun w => z w.1))
theorem du_q_dls {post : Int32 → Prop} (hn : n ≤ 40) (hk : du_ok n K V) (hw : du_wy n (du_a K E B) (du_b K E L) fw sw)
    (hra : ∀ q, q ≤ n → (¬ ra q = 0 ↔ du_F n K V (du_a K E B) (du_b K E L) (-1) 0 q))
    (hwa : ∀ q, q ≤ n → ∀ v, v < 6 → (bt (wa q) v = true ↔ du_V n (du_a K E B) (du_b K E L) (du_st K V (nI v)) (du_us K V (nI v)) q))
    (h : post (nI (du_c (du_dl n K V (du_a K E B) (du_b K E L)) n))) :
    ∀ d p : Nat, p + d = n → wX_idles_14 post (nI n) io il wf K V en el be oO oL fw sw ra sa wa (d + 1) (nI (du_c (du_dl n K V (du_a K E B) (du_b K E L)) p)) (nI p) := by
  intro d
  induction d with
  | zero =>
    intro p hp
    have e : p = n := hp
    subst e
    exact br_t (nI_le (Nat.le_refl _) (by omega)) h
  | succ d ih =>
    intro p hp
    refine br_f (nI_ge (by omega) (by omega)) (du_q_dl hn hk (by omega) hw hra hwa (fun z => br_f (by decide) (fun a ea b eb => ?_)) (fun z => br_t rfl (fun b eb => ?_)))
    · rw [ea, eb, nI_1, nI_1, ← du_c_t z]
      exact ih (p + 1) (by omega)
    · rw [eb, nI_1, ← du_c_f z]
      exact ih (p + 1) (by omega)
theorem du_q_dbs {post : Int32 → Prop} (hn : n ≤ 40) (hk : du_ok n K V)
    (hra : ∀ q, q ≤ n → (¬ ra q = 0 ↔ du_F n K V (du_a K E B) (du_b K E L) (-1) 0 q))
    (hsa : ∀ q, q ≤ n → ∀ v, v < 6 → (¬ bt (sa q) v = true ↔ du_F n K V (du_a K E B) (du_b K E L) (nI v) 0 q))
    (h : post (nI (du_c (du_db n K V (du_a K E B) (du_b K E L)) n))) :
    ∀ d p : Nat, p + d = n → wX_doubts_14 post (nI n) io il wf K V en el be oO oL fw sw ra sa wa (d + 1) (nI (du_c (du_db n K V (du_a K E B) (du_b K E L)) p)) (nI p) := by
  intro d
  induction d with
  | zero =>
    intro p hp
    have e : p = n := hp
    subst e
    exact br_t (nI_le (Nat.le_refl _) (by omega)) h
  | succ d ih =>
    intro p hp
    refine br_f (nI_ge (by omega) (by omega)) (du_q_db hn hk (by omega) hra hsa (fun z => br_f (by decide) (fun a ea b eb => ?_)) (fun z => br_t rfl (fun b eb => ?_)))
    · rw [ea, eb, nI_1, nI_1, ← du_c_t z]
      exact ih (p + 1) (by omega)
    · rw [eb, nI_1, ← du_c_f z]
      exact ih (p + 1) (by omega)
/-! the reference's -/
theorem du_s1 (q : Nat) : du_t 1 q = true ↔ q = 0 := by
  rw [du_t_from1, decide_eq_true_iff]
  exact eq_comm
theorem du_y_reach {post : Int32 → SY → Prop} (hn : n ≤ 40) (hr : du_run K n = some ([], E, L, B)) (hp : p < n)
    (h1 : du_F n K V (du_a K E B) (du_b K E L) (-1) 0 p → ∀ en el cl lo op : Nat → Int32, du_YA n K E L B en el cl lo → post 1 ((nI n), K, V, en, el, cl, lo, op))
    (h0 : ¬ du_F n K V (du_a K E B) (du_b K E L) (-1) 0 p → ∀ en el cl lo op : Nat → Int32, post 0 ((nI n), K, V, en, el, cl, lo, op)) : wpY_reached post ((nI n), K, V, en, el, cl, lo, op) (nI p) := by
  unfold wpY_reached
  refine du_y_yes hn hr (fun en el cl lo op hY => br_f (by decide) (du_y_tok hn hp (br_t rfl (du_y_search hn hY (fun q _ => du_s1 q) (fun s hs => du_y_at (by omega) (fun z => ⟨rfl, ?_⟩) (fun z => ⟨rfl, ?_⟩))))))
  · exact h1 ((hs p (by omega)).mp z) en el cl lo op hY
  · exact h0 (fun w => z ((hs p (by omega)).mpr w)) en el cl lo op
theorem du_y_dl {post : Int32 → SY → Prop} (hn : n ≤ 40) (hr : du_run K n = some ([], E, L, B)) (hp : p < n)
    (h1 : du_dl n K V (du_a K E B) (du_b K E L) p → ∀ en el cl lo op : Nat → Int32, post 1 ((nI n), K, V, en, el, cl, lo, op))
    (h0 : ¬ du_dl n K V (du_a K E B) (du_b K E L) p → ∀ en el cl lo op : Nat → Int32, post 0 ((nI n), K, V, en, el, cl, lo, op)) : wpY_idle post ((nI n), K, V, en, el, cl, lo, op) (nI p) := by
  unfold wpY_idle
  have hcl : (nI p).toNatClampNeg = p := nI_clamp (by omega)
  have hin : vp_in (nI p) 40 := vp_in_nI (by omega) (by decide)
  refine du_y_reach hn hr hp (fun hF en el cl lo op hY => br_f (by decide) ⟨hin, ?_⟩) (fun hF en el cl lo op => br_t rfl (h0 (fun w => hF w.2.1) en el cl lo op))
  rw [hcl, nI_1]
  by_cases z : K p = 0
  · refine br_t z (du_y_bit hn (Or.inr ⟨p + 1, by omega, rfl⟩) (fun r hb => ⟨hin, du_y_search hn hY (f := fun q => q = p + 1) (fun q hq => ?_) (fun s hs => ⟨hin, ?_⟩)⟩))
    · rw [hb q hq, nI_eq (by omega) (by omega)]
      exact eq_comm
    · have e := du_y_eq (by omega) hs
      exact du_y_uses hn (fun w => br_f (by decide) (h0 (fun y => y.2.2 (e.mp w)) en el cl lo op)) (fun w => br_t rfl (h1 ⟨z, hF, fun y => w (e.mpr y)⟩ en el cl lo op))
  · exact br_f z (h0 (fun w => z w.1) en el cl lo op)
theorem du_y_dls {post : Int32 → SY → Prop} (hn : n ≤ 40) (hr : du_run K n = some ([], E, L, B))
    (h : ∀ en el cl lo op : Nat → Int32, post (nI (du_c (du_dl n K V (du_a K E B) (du_b K E L)) n)) ((nI n), K, V, en, el, cl, lo, op)) :
    ∀ (d p : Nat) (en el cl lo op : Nat → Int32), p + d = n → wY_idles_14 post (d + 1) (nI (du_c (du_dl n K V (du_a K E B) (du_b K E L)) p)) (nI p) (nI n) K V en el cl lo op := by
  intro d
  induction d with
  | zero =>
    intro p en el cl lo op hp
    have e : p = n := hp
    subst e
    exact br_t (nI_le (Nat.le_refl _) (by omega)) (h en el cl lo op)
  | succ d ih =>
    intro p en el cl lo op hp
    refine br_f (nI_ge (by omega) (by omega)) (du_y_dl hn hr (by omega) (fun z en el cl lo op => br_f (by decide) (fun a ea b eb => ?_)) (fun z en el cl lo op => br_t rfl (fun b eb => ?_)))
    · rw [ea, eb, nI_1, nI_1, ← du_c_t z]
      exact ih (p + 1) en el cl lo op (by omega)
    · rw [eb, nI_1, ← du_c_f z]
      exact ih (p + 1) en el cl lo op (by omega)
theorem du_y_dbs {post : Int32 → SY → Prop} (hn : n ≤ 40) (hY : du_YA n K E L B en el cl lo)
    (h : post (nI (du_c (du_db n K V (du_a K E B) (du_b K E L)) n)) ((nI n), K, V, en, el, cl, lo, op)) :
    ∀ d p : Nat, p + d = n → wY_doubts_14 post (nI n) K V en el cl lo op (d + 1) (nI (du_c (du_db n K V (du_a K E B) (du_b K E L)) p)) (nI p) := by
  intro d
  induction d with
  | zero =>
    intro p hp
    have e : p = n := hp
    subst e
    exact br_t (nI_le (Nat.le_refl _) (by omega)) h
  | succ d ih =>
    intro p hp
    have hcl : (nI p).toNatClampNeg = p := nI_clamp (by omega)
    have hin : vp_in (nI p) 40 := vp_in_nI (by omega) (by decide)
    have n0 : ¬ du_db n K V (du_a K E B) (du_b K E L) p → ∀ b : Int32, b = nI p + 1 → wY_doubts_14 post (nI n) K V en el cl lo op (d + 1) (nI (du_c (du_db n K V (du_a K E B) (du_b K E L)) p)) b := by
      intro z b eb
      rw [eb, nI_1, ← du_c_f z]
      exact ih (p + 1) (by omega)
    refine br_f (nI_ge (by omega) (by omega)) ⟨hin, ?_⟩
    rw [hcl]
    by_cases y : K p = 1
    · refine br_t y ⟨hin, du_y_search hn hY (fun q _ => du_s1 q) (fun s hs => du_y_at (by omega) (fun z => br_f (by decide) (fun a ea b eb => ?_)) (fun z => br_t rfl (n0 (fun w => z ((hs p (by omega)).mpr w.2)))))⟩
      rw [ea, eb, nI_1, nI_1, ← du_c_t (P := du_db n K V (du_a K E B) (du_b K E L)) (m := p) ⟨y, (hs p (by omega)).mp z⟩]
      exact ih (p + 1) (by omega)
    · exact br_f y (n0 (fun w => y w.1))
theorem du_y_sure {post : Int32 → SY → Prop} (hn : n ≤ 40) (hY : du_YA n K E L B en el cl lo) (hp : p < n)
    (h : ∀ m : Int32, (∀ i, bt m i = true ↔ i < 6 ∧ ¬ du_F n K V (du_a K E B) (du_b K E L) (nI i) 0 p) → post m ((nI n), K, V, en, el, cl, lo, op)) :
    ∀ (d v : Nat) (m : Int32), v + d = 6 → (∀ i, bt m i = true ↔ i < v ∧ ¬ du_F n K V (du_a K E B) (du_b K E L) (nI i) 0 p) → wY_surely_25 post (nI p) (nI n) K V en el cl lo op (d + 1) m (nI v) := by
  intro d
  induction d with
  | zero =>
    intro v m hv hm
    have e : v = 6 := hv
    subst e
    exact br_t (by decide) (h m hm)
  | succ d ih =>
    intro v m hv hm
    refine br_f (nI_ge (b := 6) (by omega) (by decide)) (du_y_search hn hY (fun q _ => du_s1 q) (fun s hs => du_y_at (by omega) (fun z => br_f (by decide) (fun b eb => ?_)) (fun z => br_t rfl (fun a ea b eb => ?_))))
    · rw [eb, nI_1]
      refine ih (v + 1) m (by omega) (fun i => (hm i).trans ⟨fun w => ⟨by omega, w.2⟩, fun w => ⟨?_, w.2⟩⟩)
      have : i ≠ v := fun e => w.2 (by rw [e]; exact (hs p (by omega)).mp z)
      omega
    · rw [ea, eb, nI_1]
      refine ih (v + 1) _ (by omega) (fun i => ?_)
      rw [b_or, du_b1 (by omega), Bool.or_eq_true, decide_eq_true_iff, hm i]
      constructor
      · rintro (w | w)
        · exact ⟨by omega, w.2⟩
        · subst w
          exact ⟨by omega, fun y => z ((hs p (by omega)).mpr y)⟩
      · intro w
        by_cases e : v = i
        · exact Or.inr e
        · exact Or.inl ⟨by omega, w.2⟩
theorem du_y_want {post : Int32 → SY → Prop} (hn : n ≤ 40) (hY : du_YA n K E L B en el cl lo) (hp : p < n)
    (h : ∀ m : Int32, (∀ i, bt m i = true ↔ i < 6 ∧ du_V n (du_a K E B) (du_b K E L) (du_st K V (nI i)) (du_us K V (nI i)) p) → post m ((nI n), K, V, en, el, cl, lo, op)) :
    ∀ (d v : Nat) (m : Int32), v + d = 6 → (∀ i, bt m i = true ↔ i < v ∧ du_V n (du_a K E B) (du_b K E L) (du_st K V (nI i)) (du_us K V (nI i)) p) → wY_wanted_25 post (nI p) (nI n) K V en el cl lo op (d + 1) m (nI v) := by
  intro d
  induction d with
  | zero =>
    intro v m hv hm
    have e : v = 6 := hv
    subst e
    exact br_t (by decide) (h m hm)
  | succ d ih =>
    intro v m hv hm
    refine br_f (nI_ge (b := 6) (by omega) (by decide)) (du_y_bit hn (Or.inr ⟨p, by omega, rfl⟩) (fun r hb => du_y_search hn hY (f := fun q => q = p) (fun q hq => ?_) (fun s hs => ?_)))
    · rw [hb q hq, nI_eq (by omega) (by omega)]
      exact eq_comm
    · have e := du_y_eq (by omega) hs
      refine du_y_uses hn (fun z => br_f (by decide) (fun a ea b eb => ?_)) (fun z => br_t rfl (fun b eb => ?_))
      · rw [ea, eb, nI_1]
        refine ih (v + 1) _ (by omega) (fun i => ?_)
        rw [b_or, du_b1 (by omega), Bool.or_eq_true, decide_eq_true_iff, hm i]
        constructor
        · rintro (w | w)
          · exact ⟨by omega, w.2⟩
          · subst w
            exact ⟨by omega, e.mp z⟩
        · intro w
          by_cases e : v = i
          · exact Or.inr e
          · exact Or.inl ⟨by omega, w.2⟩
      · rw [eb, nI_1]
        refine ih (v + 1) m (by omega) (fun i => (hm i).trans ⟨fun w => ⟨by omega, w.2⟩, fun w => ⟨?_, w.2⟩⟩)
        have : i ≠ v := fun e2 => z (e.mpr (by rw [← e2]; exact w.2))
        omega
end
end
section
/-! add, change: which tokens are refused -/
def du_tk (k v : Int32) : Prop := (∃ j, j < 10 ∧ k = nI j) ∧ ((k = 0 ∨ k = 1) → ∃ w, w < 6 ∧ v = nI w)
theorem du_ft (k v : Int32) : ∃ r : Int32, (∀ post : Int32 → Prop, post r → wpX_tokenFault post k v) ∧ (∀ (post : Int32 → Prop) (u : SY), post r → wpY_refusal post u k v) ∧ ((r = 0 ∧ du_tk k v) ∨ (¬ r = 0 ∧ ¬ 0 ≤ r)) := by
  by_cases h0 : k < 0
  · exact ⟨-1, fun _ h => br_t h0 h, fun _ _ h => br_t h0 h, Or.inr (by decide)⟩
  obtain ⟨j, hj, rfl⟩ := nI_of h0
  by_cases h1 : j < 10
  · by_cases h2 : 2 ≤ j
    · have a0 : ¬ nI j = 0 := nI_ne0 (by omega) hj
      have a1 : ¬ nI j = 1 := fun e => by
        have := (nI_eq (b := 1) hj (by decide)).mp e
        omega
      exact ⟨0, fun _ h => br_f h0 (br_t (nI_lt (b := 10) h1 (by decide)) (br_f a0 (br_f a1 (br_t rfl h)))), fun _ _ h => br_f h0 (br_t (nI_le (b := 9) (by omega) (by decide)) (br_t (nI_le (a := 2) h2 hj) h)), Or.inl ⟨rfl, ⟨j, h1, rfl⟩, fun z => (z.elim a0 a1).elim⟩⟩
    · have xx : ∀ post : Int32 → Prop, wX_tokenFault_26 post v 1 → wpX_tokenFault post (nI j) v := by
        intro post h
        refine br_f h0 (br_t (nI_lt (b := 10) h1 (by decide)) ?_)
        by_cases z : j = 0
        · subst z
          exact br_t rfl h
        · have e : j = 1 := by omega
          subst e
          exact br_f (by decide) (br_t rfl h)
      have a2 : ¬ (2 : Int32) ≤ nI j := nI_ge (b := 2) (by omega) (by decide)
      have a9 : nI j ≤ 9 := nI_le (b := 9) (by omega) (by decide)
      by_cases v0 : v < 0
      · exact ⟨-2, fun post h => xx post (br_f (by decide) (br_t v0 h)), fun _ _ h => br_f h0 (br_t a9 (br_f a2 (br_t v0 h))), Or.inr (by decide)⟩
      obtain ⟨w, hw, rfl⟩ := nI_of v0
      by_cases w6 : w < 6
      · exact ⟨0, fun post h => xx post (br_f (by decide) (br_f v0 (br_t (nI_lt (b := 6) w6 (by decide)) h))), fun _ _ h => br_f h0 (br_t a9 (br_f a2 (br_f v0 (br_t (nI_le (b := 5) (by omega) (by decide)) h)))), Or.inl ⟨rfl, ⟨j, h1, rfl⟩, fun _ => ⟨w, w6, rfl⟩⟩⟩
      · exact ⟨-2, fun post h => xx post (br_f (by decide) (br_f v0 (br_f (nI_nlt (b := 6) (by omega) hw) h))), fun _ _ h => br_f h0 (br_t a9 (br_f a2 (br_f v0 (br_f (nI_ge (a := 5) (by omega) hw) h)))), Or.inr (by decide)⟩
  · exact ⟨-1, fun _ h => br_f h0 (br_f (nI_nlt (b := 10) (by omega) hj) h), fun _ _ h => br_f h0 (br_f (nI_ge (a := 9) (by omega) hj) h), Or.inr (by decide)⟩
theorem du_ok_up {n p : Nat} {K V : Nat → Int32} {k v : Int32} {m : Nat} (hk : du_ok n K V) (ht : du_tk k v) (hm : ∀ q, q < m → q ≠ p → q < n) : du_ok m (upd K p k) (upd V p v) := by
  intro q hq
  by_cases e : q = p
  · subst e
    rw [pk_us, pk_us]
    exact ht
  · rw [pk_un e, pk_un e]
    exact hk q (hm q hq e)
section
variable {n : Nat} {io il wf : Int32} {K V en el be oO oL fw sw ra sa wa : Nat → Int32} {p : Nat} {x : Int32}
theorem du_q_pf0 {post : Int32 → Prop} {sz : Int32} (h : post (-4)) : wpX_placeFault post (sz, io, il, 0, K, V, en, el, be, oO, oL, fw, sw, ra, sa, wa) x := br_t rfl h
theorem du_q_pf1 {post : Int32 → Prop} (hx : x < 0 ∨ nI n ≤ x) (h : post (-5)) : wpX_placeFault post ((nI n), io, il, 1, K, V, en, el, be, oO, oL, fw, sw, ra, sa, wa) x := br_f (by decide) (du_q_not hx (br_t rfl h))
theorem du_q_pf2 {post : Int32 → Prop} (hn : n ≤ 40) (hp : p < n) (h : post 0) : wpX_placeFault post ((nI n), io, il, 1, K, V, en, el, be, oO, oL, fw, sw, ra, sa, wa) (nI p) := br_f (by decide) (du_q_tok hn hp (br_f (by decide) h))
theorem du_ix (x : Int32) (hn : n ≤ 40) : (x < 0 ∨ nI n ≤ x) ∨ ∃ j : Nat, j < n ∧ x = nI j := by
  rcases pk_ix x (n := n) (by omega) with z | z | z
  · exact Or.inl (Or.inl z)
  · exact Or.inl (Or.inr z)
  · exact Or.inr z
end
/-- equal masks -/
theorem du_eqm {m m' : Int32} (h : ∀ i, bt m i = true ↔ bt m' i = true) : m = m' := b_ext (fun i _ => Bool.eq_iff_iff.mpr (h i))
end
section
/-- both hold the same n tokens; the component's analysis is that of these tokens -/
def i_Rel (_ : Nat) (u : SX) (v : SY) : Prop := ∃ (n : Nat) (io il wf : Int32) (K V en el be oO oL fw sw ra sa wa en' el' cl lo op : Nat → Int32), u = ((nI n), io, il, wf, K, V, en, el, be, oO, oL, fw, sw, ra, sa, wa) ∧ v = ((nI n), K, V, en', el', cl, lo, op) ∧ n ≤ 40 ∧ du_ok n K V ∧ du_A n K V wf en fw sw ra sa wa
theorem du_rl {k n : Nat} {io il wf : Int32} {K V en el be oO oL fw sw ra sa wa en' el' cl lo op : Nat → Int32} (hn : n ≤ 40) (hk : du_ok n K V) (hA : du_A n K V wf en fw sw ra sa wa) : i_Rel k ((nI n), io, il, wf, K, V, en, el, be, oO, oL, fw, sw, ra, sa, wa) ((nI n), K, V, en', el', cl, lo, op) :=
  ⟨n, io, il, wf, K, V, en, el, be, oO, oL, fw, sw, ra, sa, wa, en', el', cl, lo, op, rfl, rfl, hn, hk, hA⟩
theorem i_up {k : Nat} {u : SX} {v : SY} (h : i_Rel k u v) : i_Rel (k + 4) u v := h
theorem i_vc0 : wpX_init (fun u => wpY_init (fun v => i_Rel 0 u v)) := by
  unfold wpX_init wpY_init
  exact du_w_an (n := 0) (by decide) (fun p hp => absurd hp (Nat.not_lt_zero p)) (fun io il wf en el be oO oL fw sw ra sa wa hA => du_rl (n := 0) (by decide) (fun p hp => absurd hp (Nat.not_lt_zero p)) hA)
theorem i_vc_add {k : Nat} {u : SX} {v : SY} (I : i_Rel k u v) (hk : k + 4 ≤ 2048) (v1 : Int32) (v2 : Int32) : wpX_add (fun r u' => wpY_add (fun r' v' => r' = r ∧ i_Rel (k + 4) u' v') v v1 v2) u v1 v2 := by
  obtain ⟨n, io, il, wf, K, V, en, el, be, oO, oL, fw, sw, ra, sa, wa, en', el', cl, lo, op, rfl, rfl, hn, hok, hA⟩ := I
  obtain ⟨r, hX, hY, ht⟩ := du_ft v1 v2
  unfold wpX_add wpY_add
  refine hX _ ?_
  rcases ht with ⟨rfl, ht⟩ | ⟨h1, h2⟩
  · refine br_t rfl ?_
    by_cases h40 : n < 40
    · have hcl : (nI n).toNatClampNeg = n := nI_clamp (by omega)
      have hin : vp_in (nI n) 40 := vp_in_nI h40 (by decide)
      refine br_t (nI_lt (b := 40) h40 (by decide)) ⟨hin, fun a ea => ⟨hin, fun b eb c ec => ?_⟩⟩
      rw [hcl] at ea eb
      rw [ec, nI_1]
      subst ea eb
      have hok' : du_ok (n + 1) (upd K n v1) (upd V n v2) := du_ok_up hok ht (fun q _ _ => by omega)
      refine du_w_an (by omega) hok' (fun io il wf en el be oO oL fw sw ra sa wa hA => ?_)
      refine hY _ _ (br_t (by decide) (br_f (fun z => ?_) ⟨hin, fun a ea => ⟨hin, fun b eb c ec => ?_⟩⟩))
      · have := (nI_eq (b := 40) (by omega) (by decide)).mp z
        omega
      · rw [hcl] at ea eb
        rw [ec, nI_1, nI_pred]
        subst ea eb
        exact ⟨rfl, du_rl (by omega) hok' hA⟩
    · have e : n = 40 := by omega
      subst e
      exact br_f (by decide) (hY _ _ (br_t (by decide) (br_t rfl ⟨rfl, du_rl hn hok hA⟩)))
  · exact br_f h1 (hY _ _ (br_f h2 ⟨rfl, du_rl hn hok hA⟩))
theorem i_vc_change {k : Nat} {u : SX} {v : SY} (I : i_Rel k u v) (hk : k + 4 ≤ 2048) (v1 : Int32) (v2 : Int32) (v3 : Int32) : wpX_change (fun r u' => wpY_change (fun r' v' => r' = r ∧ i_Rel (k + 4) u' v') v v1 v2 v3) u v1 v2 v3 := by
  obtain ⟨n, io, il, wf, K, V, en, el, be, oO, oL, fw, sw, ra, sa, wa, en', el', cl, lo, op, rfl, rfl, hn, hok, hA⟩ := I
  obtain ⟨r, hX, hY, ht⟩ := du_ft v2 v3
  unfold wpX_change wpY_change
  rcases du_ix v1 hn with hx | ⟨p, hp, rfl⟩
  · exact du_q_not hx (br_t rfl (du_y_not hx (br_f (by decide) ⟨rfl, du_rl hn hok hA⟩)))
  refine du_q_tok hn hp (br_f (by decide) (hX _ ?_))
  rcases ht with ⟨rfl, ht⟩ | ⟨h1, h2⟩
  · have hcl : (nI p).toNatClampNeg = p := nI_clamp (by omega)
    have hin : vp_in (nI p) 40 := vp_in_nI (by omega) (by decide)
    refine br_t rfl ⟨hin, fun o eo => ⟨hin, fun a ea => ⟨hin, fun b eb => ?_⟩⟩⟩
    rw [hcl] at eo ea eb
    subst eo ea eb
    have hok' : du_ok n (upd K p v2) (upd V p v3) := du_ok_up hok ht (fun q hq _ => hq)
    refine du_w_an hn hok' (fun io il wf en el be oO oL fw sw ra sa wa hA => ?_)
    refine du_y_tok hn hp (br_t rfl (hY _ _ (br_t (by decide) ⟨hin, fun o eo => ⟨hin, fun a ea => ⟨hin, fun b eb => ?_⟩⟩⟩)))
    rw [hcl] at eo ea eb
    subst eo ea eb
    exact ⟨rfl, du_rl hn hok' hA⟩
  · exact br_f h1 (du_y_tok hn hp (br_t rfl (hY _ _ (br_f h2 ⟨rfl, du_rl hn hok hA⟩))))
theorem i_vc_drop {k : Nat} {u : SX} {v : SY} (I : i_Rel k u v) (hk : k + 4 ≤ 2048) : wpX_drop (fun r u' => wpY_drop (fun r' v' => r' = r ∧ i_Rel (k + 4) u' v') v) u := by
  obtain ⟨n, io, il, wf, K, V, en, el, be, oO, oL, fw, sw, ra, sa, wa, en', el', cl, lo, op, rfl, rfl, hn, hok, hA⟩ := I
  cases n with
  | zero => exact br_t nI_0 (br_t nI_0 ⟨rfl, du_rl hn hok hA⟩)
  | succ n =>
    have h0 : ¬ nI (n + 1) = 0 := nI_ne0 (by omega) (by omega)
    refine br_f h0 (fun a ea => ?_)
    rw [ea, nI_pred]
    have hok' : du_ok n K V := fun q hq => hok q (by omega)
    refine du_w_an (by omega) hok' (fun io il wf en el be oO oL fw sw ra sa wa hA => ?_)
    refine br_f h0 (fun b eb => ?_)
    rw [eb, nI_pred]
    exact ⟨rfl, du_rl (by omega) hok' hA⟩
theorem i_vc_sound {k : Nat} {u : SX} {v : SY} (I : i_Rel k u v) (hk : k + 4 ≤ 2048) : wpX_sound (fun r => wpY_sound (fun r' v' => r' = r ∧ i_Rel (k + 4) u v') v) u := by
  obtain ⟨n, io, il, wf, K, V, en, el, be, oO, oL, fw, sw, ra, sa, wa, en', el', cl, lo, op, rfl, rfl, hn, hok, hA⟩ := I
  have hA' := hA
  rcases hA with ⟨hW, rfl⟩ | ⟨rfl, E, L, B, hr, _⟩
  · exact ⟨rfl, du_y_no hn hW (fun en' el' cl lo op => ⟨rfl, du_rl hn hok hA'⟩)⟩
  · exact ⟨rfl, du_y_yes hn hr (fun en' el' cl lo op _ => ⟨rfl, du_rl hn hok hA'⟩)⟩
theorem i_vc_reached {k : Nat} {u : SX} {v : SY} (I : i_Rel k u v) (hk : k + 4 ≤ 2048) (v1 : Int32) : wpX_reached (fun r => wpY_reached (fun r' v' => r' = r ∧ i_Rel (k + 4) u v') v v1) u v1 := by
  obtain ⟨n, io, il, wf, K, V, en, el, be, oO, oL, fw, sw, ra, sa, wa, en', el', cl, lo, op, rfl, rfl, hn, hok, hA⟩ := I
  have hA' := hA
  rcases hA with ⟨hW, rfl⟩ | ⟨rfl, E, L, B, hr, _, _, hra, _, _⟩
  · refine br_t rfl ?_
    unfold wpY_reached
    exact du_y_no hn hW (fun en' el' cl lo op => br_t rfl ⟨rfl, du_rl hn hok hA'⟩)
  · refine br_f (by decide) ?_
    rcases du_ix v1 hn with hx | ⟨p, hp, rfl⟩
    · refine du_q_not hx (br_t rfl ?_)
      unfold wpY_reached
      exact du_y_yes hn hr (fun en' el' cl lo op _ => br_f (by decide) (du_y_not hx (br_f (by decide) ⟨rfl, du_rl hn hok hA'⟩)))
    · have hcl : (nI p).toNatClampNeg = p := nI_clamp (by omega)
      refine du_q_tok hn hp (br_f (by decide) ⟨du_in41 hn (by omega), ?_⟩)
      rw [hcl]
      have e := hra p (by omega)
      by_cases z : ra p = 0
      · exact br_t z (du_y_reach hn hr hp (fun w => absurd z (e.mpr w)) (fun _ en' el' cl lo op => ⟨rfl, du_rl hn hok hA'⟩))
      · exact br_f z (du_y_reach hn hr hp (fun _ en' el' cl lo op _ => ⟨rfl, du_rl hn hok hA'⟩) (fun w => absurd (e.mp z) w))
theorem i_vc_surely {k : Nat} {u : SX} {v : SY} (I : i_Rel k u v) (hk : k + 4 ≤ 2048) (v1 : Int32) : wpX_surely (fun r => wpY_surely (fun r' v' => r' = r ∧ i_Rel (k + 4) u v') v v1) u v1 := by
  obtain ⟨n, io, il, wf, K, V, en, el, be, oO, oL, fw, sw, ra, sa, wa, en', el', cl, lo, op, rfl, rfl, hn, hok, hA⟩ := I
  have hA' := hA
  unfold wpX_surely wpY_surely
  rcases hA with ⟨hW, rfl⟩ | ⟨rfl, E, L, B, hr, _, _, _, ⟨hs1, hs2⟩, _⟩
  · exact du_q_pf0 (br_f (by decide) (du_y_no hn hW (fun en' el' cl lo op => br_t rfl ⟨rfl, du_rl hn hok hA'⟩)))
  · rcases du_ix v1 hn with hx | ⟨p, hp, rfl⟩
    · exact du_q_pf1 hx (br_f (by decide) (du_y_yes hn hr (fun en' el' cl lo op _ => br_f (by decide) (du_y_not hx (br_f (by decide) ⟨rfl, du_rl hn hok hA'⟩)))))
    · have hcl : (nI p).toNatClampNeg = p := nI_clamp (by omega)
      refine du_q_pf2 hn hp (br_t rfl ⟨du_in41 hn (by omega), du_y_yes hn hr (fun en' el' cl lo op hY => br_f (by decide) (du_y_tok hn hp (br_t rfl ⟨7, du_y_sure hn hY hp (fun m hm => ⟨?_, du_rl hn hok hA'⟩) 6 0 0 rfl (fun i => ?_)⟩)))⟩)
      · rw [b_0]
        exact ⟨fun w => absurd w (by decide), fun w => absurd w.1 (Nat.not_lt_zero i)⟩
      · rw [hcl]
        refine du_eqm (fun i => (hm i).trans ?_)
        by_cases h6 : i < 6
        · have e := hs2 p (by omega) i h6
          exact ⟨fun w => Classical.byContradiction (fun y => w.2 (e.mp y)), fun w => ⟨h6, fun y => e.mpr y w⟩⟩
        · exact ⟨fun w => absurd w.1 h6, fun w => absurd w (hs1 p (by omega) i (by omega))⟩
theorem i_vc_doubts {k : Nat} {u : SX} {v : SY} (I : i_Rel k u v) (hk : k + 4 ≤ 2048) : wpX_doubts (fun r => wpY_doubts (fun r' v' => r' = r ∧ i_Rel (k + 4) u v') v) u := by
  obtain ⟨n, io, il, wf, K, V, en, el, be, oO, oL, fw, sw, ra, sa, wa, en', el', cl, lo, op, rfl, rfl, hn, hok, hA⟩ := I
  have hA' := hA
  unfold wpX_doubts wpY_doubts
  rcases hA with ⟨hW, rfl⟩ | ⟨rfl, E, L, B, hr, _, _, hra, ⟨_, hs2⟩, _⟩
  · exact br_t rfl (du_y_no hn hW (fun en' el' cl lo op => br_t rfl ⟨rfl, du_rl hn hok hA'⟩))
  · refine br_f (by decide) ⟨n + 1, du_q_dbs (E := E) (L := L) (B := B) hn hok hra hs2 ?_ n 0 (Nat.zero_add n)⟩
    exact du_y_yes hn hr (fun en' el' cl lo op hY => br_f (by decide) ⟨n + 1, du_y_dbs hn hY ⟨rfl, du_rl hn hok hA'⟩ n 0 (Nat.zero_add n)⟩)
theorem i_vc_completes {k : Nat} {u : SX} {v : SY} (I : i_Rel k u v) (hk : k + 4 ≤ 2048) : wpX_completes (fun r => wpY_completes (fun r' v' => r' = r ∧ i_Rel (k + 4) u v') v) u := by
  obtain ⟨n, io, il, wf, K, V, en, el, be, oO, oL, fw, sw, ra, sa, wa, en', el', cl, lo, op, rfl, rfl, hn, hok, hA⟩ := I
  have hA' := hA
  unfold wpX_completes wpY_completes
  rcases hA with ⟨hW, rfl⟩ | ⟨rfl, E, L, B, hr, _, _, hra, _, _⟩
  · exact br_t rfl (du_y_no hn hW (fun en' el' cl lo op => br_t rfl ⟨rfl, du_rl hn hok hA'⟩))
  · have hcl : (nI n).toNatClampNeg = n := nI_clamp (by omega)
    refine br_f (by decide) ⟨du_in41 hn (Nat.le_refl n), ?_⟩
    rw [hcl]
    have e := hra n (Nat.le_refl n)
    by_cases z : ra n = 0
    · refine br_t z (du_y_yes hn hr (fun en' el' cl lo op hY => br_f (by decide) (du_y_search hn hY (fun q _ => du_s1 q) (fun s hs => du_y_at hn (fun y => ?_) (fun y => ⟨rfl, rfl, du_rl hn hok hA'⟩)))))
      exact absurd z (e.mpr ((hs n (Nat.le_refl n)).mp y))
    · refine br_f z (du_y_yes hn hr (fun en' el' cl lo op hY => br_f (by decide) (du_y_search hn hY (fun q _ => du_s1 q) (fun s hs => du_y_at hn (fun y => ⟨rfl, rfl, du_rl hn hok hA'⟩) (fun y => ?_)))))
      exact absurd ((hs n (Nat.le_refl n)).mpr (e.mp z)) y
theorem i_vc_idle {k : Nat} {u : SX} {v : SY} (I : i_Rel k u v) (hk : k + 4 ≤ 2048) (v1 : Int32) : wpX_idle (fun r => wpY_idle (fun r' v' => r' = r ∧ i_Rel (k + 4) u v') v v1) u v1 := by
  obtain ⟨n, io, il, wf, K, V, en, el, be, oO, oL, fw, sw, ra, sa, wa, en', el', cl, lo, op, rfl, rfl, hn, hok, hA⟩ := I
  have hA' := hA
  rcases hA with ⟨hW, rfl⟩ | ⟨rfl, E, L, B, hr, _, hw, hra, _, ⟨_, hwa⟩⟩
  · refine br_t rfl ?_
    unfold wpY_idle wpY_reached
    exact du_y_no hn hW (fun en' el' cl lo op => br_t rfl (br_t rfl ⟨rfl, du_rl hn hok hA'⟩))
  · refine br_f (by decide) ?_
    rcases du_ix v1 hn with hx | ⟨p, hp, rfl⟩
    · refine du_q_not hx (br_t rfl ?_)
      unfold wpY_idle wpY_reached
      exact du_y_yes hn hr (fun en' el' cl lo op _ => br_f (by decide) (du_y_not hx (br_f (by decide) (br_t rfl ⟨rfl, du_rl hn hok hA'⟩))))
    · refine du_q_tok hn hp (br_f (by decide) (du_q_dl (E := E) (L := L) (B := B) hn hok hp hw hra hwa (fun z => br_f (by decide) ?_) (fun z => br_t rfl ?_)))
      · exact du_y_dl hn hr hp (fun _ en' el' cl lo op => ⟨rfl, du_rl hn hok hA'⟩) (fun y => absurd z y)
      · exact du_y_dl hn hr hp (fun y => absurd y z) (fun _ en' el' cl lo op => ⟨rfl, du_rl hn hok hA'⟩)
theorem i_vc_idles {k : Nat} {u : SX} {v : SY} (I : i_Rel k u v) (hk : k + 4 ≤ 2048) : wpX_idles (fun r => wpY_idles (fun r' v' => r' = r ∧ i_Rel (k + 4) u v') v) u := by
  obtain ⟨n, io, il, wf, K, V, en, el, be, oO, oL, fw, sw, ra, sa, wa, en', el', cl, lo, op, rfl, rfl, hn, hok, hA⟩ := I
  have hA' := hA
  unfold wpX_idles wpY_idles
  rcases hA with ⟨hW, rfl⟩ | ⟨rfl, E, L, B, hr, _, hw, hra, _, ⟨_, hwa⟩⟩
  · exact br_t rfl (du_y_no hn hW (fun en' el' cl lo op => br_t rfl ⟨rfl, du_rl hn hok hA'⟩))
  · refine br_f (by decide) ⟨n + 1, du_q_dls (E := E) (L := L) (B := B) hn hok hw hra hwa ?_ n 0 (Nat.zero_add n)⟩
    exact du_y_yes hn hr (fun en' el' cl lo op hY => br_f (by decide) ⟨n + 1, du_y_dls hn hr (fun en' el' cl lo op => ⟨rfl, du_rl hn hok hA'⟩) n 0 en' el' cl lo op (Nat.zero_add n)⟩)
theorem i_vc_wanted {k : Nat} {u : SX} {v : SY} (I : i_Rel k u v) (hk : k + 4 ≤ 2048) (v1 : Int32) : wpX_wanted (fun r => wpY_wanted (fun r' v' => r' = r ∧ i_Rel (k + 4) u v') v v1) u v1 := by
  obtain ⟨n, io, il, wf, K, V, en, el, be, oO, oL, fw, sw, ra, sa, wa, en', el', cl, lo, op, rfl, rfl, hn, hok, hA⟩ := I
  have hA' := hA
  unfold wpX_wanted wpY_wanted
  rcases hA with ⟨hW, rfl⟩ | ⟨rfl, E, L, B, hr, _, _, _, _, ⟨hw1, hw2⟩⟩
  · exact du_q_pf0 (br_f (by decide) (du_y_no hn hW (fun en' el' cl lo op => br_t rfl ⟨rfl, du_rl hn hok hA'⟩)))
  · rcases du_ix v1 hn with hx | ⟨p, hp, rfl⟩
    · exact du_q_pf1 hx (br_f (by decide) (du_y_yes hn hr (fun en' el' cl lo op _ => br_f (by decide) (du_y_not hx (br_f (by decide) ⟨rfl, du_rl hn hok hA'⟩)))))
    · have hcl : (nI p).toNatClampNeg = p := nI_clamp (by omega)
      refine du_q_pf2 hn hp (br_t rfl ⟨du_in41 hn (by omega), du_y_yes hn hr (fun en' el' cl lo op hY => br_f (by decide) (du_y_tok hn hp (br_t rfl ⟨7, du_y_want hn hY hp (fun m hm => ⟨?_, du_rl hn hok hA'⟩) 6 0 0 rfl (fun i => ?_)⟩)))⟩)
      · rw [b_0]
        exact ⟨fun w => absurd w (by decide), fun w => absurd w.1 (Nat.not_lt_zero i)⟩
      · rw [hcl]
        refine du_eqm (fun i => (hm i).trans ?_)
        by_cases h6 : i < 6
        · exact ⟨fun w => (hw2 p (by omega) i h6).mpr w.2, fun w => ⟨h6, (hw2 p (by omega) i h6).mp w⟩⟩
        · exact ⟨fun w => absurd w.1 h6, fun w => absurd w (hw1 p (by omega) i (by omega))⟩
theorem i_vc_endOf {k : Nat} {u : SX} {v : SY} (I : i_Rel k u v) (hk : k + 4 ≤ 2048) (v1 : Int32) : wpX_endOf (fun r => wpY_endOf (fun r' v' => r' = r ∧ i_Rel (k + 4) u v') v v1) u v1 := by
  obtain ⟨n, io, il, wf, K, V, en, el, be, oO, oL, fw, sw, ra, sa, wa, en', el', cl, lo, op, rfl, rfl, hn, hok, hA⟩ := I
  have hA' := hA
  unfold wpX_endOf wpY_endOf
  rcases hA with ⟨hW, rfl⟩ | ⟨rfl, E, L, B, hr, hen, _⟩
  · exact du_q_pf0 (br_f (by decide) (du_y_no hn hW (fun en' el' cl lo op => br_t rfl ⟨rfl, du_rl hn hok hA'⟩)))
  · rcases du_ix v1 hn with hx | ⟨p, hp, rfl⟩
    · exact du_q_pf1 hx (br_f (by decide) (du_y_yes hn hr (fun en' el' cl lo op _ => br_f (by decide) (du_y_not hx (br_f (by decide) ⟨rfl, du_rl hn hok hA'⟩)))))
    · have hcl : (nI p).toNatClampNeg = p := nI_clamp (by omega)
      have hin : vp_in (nI p) 40 := vp_in_nI (by omega) (by decide)
      refine du_q_pf2 hn hp (br_t rfl ⟨hin, ?_⟩)
      rw [hcl]
      by_cases h2 : K p = 2
      · refine br_t h2 (br_f (by decide) ⟨hin, du_y_yes hn hr (fun en' el' cl lo op hY => br_f (by decide) (du_y_tok hn hp (br_t rfl ⟨hin, ?_⟩)))⟩)
        have e : en' p = en p := (hY.2.1 p hp (Or.inl h2)).trans (hen p hp (Or.inl h2)).symm
        rw [e]
        exact br_t h2 ⟨hin, rfl, du_rl hn hok hA'⟩
      · refine br_f h2 ?_
        by_cases h4 : K p = 4
        · refine br_t h4 (br_f (by decide) ⟨hin, du_y_yes hn hr (fun en' el' cl lo op hY => br_f (by decide) (du_y_tok hn hp (br_t rfl ⟨hin, ?_⟩)))⟩)
          have e : en' p = en p := (hY.2.1 p hp (Or.inr (Or.inl h4))).trans (hen p hp (Or.inr (Or.inl h4))).symm
          rw [e]
          exact br_f h2 ⟨hin, br_t h4 ⟨hin, rfl, du_rl hn hok hA'⟩⟩
        · refine br_f h4 ?_
          by_cases h5 : K p = 5
          · refine br_t h5 (br_f (by decide) ⟨hin, du_y_yes hn hr (fun en' el' cl lo op hY => br_f (by decide) (du_y_tok hn hp (br_t rfl ⟨hin, ?_⟩)))⟩)
            have e : en' p = en p := (hY.2.1 p hp (Or.inr (Or.inr h5))).trans (hen p hp (Or.inr (Or.inr h5))).symm
            rw [e]
            exact br_f h2 ⟨hin, br_f h4 ⟨hin, br_t h5 ⟨hin, rfl, du_rl hn hok hA'⟩⟩⟩
          · refine br_f h5 (br_t rfl (du_y_yes hn hr (fun en' el' cl lo op hY => br_f (by decide) (du_y_tok hn hp (br_t rfl ⟨hin, ?_⟩)))))
            exact br_f h2 ⟨hin, br_f h4 ⟨hin, br_f h5 ⟨rfl, du_rl hn hok hA'⟩⟩⟩
end
