/-! bits of a mask of variables (Int32), bits of a set of places (Int64) -/
theorem du_tp2 : ∀ l, l < 32 → ((1 : Int32) <<< (nI l &&& 31)).toBitVec = BitVec.twoPow 32 l := by decide +kernel
theorem du_b1 {v i : Nat} (hv : v < 32) : bt ((1 : Int32) <<< (nI v &&& 31)) i = decide (v = i) := by
  unfold bt
  rw [du_tp2 v hv, BitVec.getLsbD_twoPow]
  simp [hv]
theorem du_63 (i : Nat) : bt 63 i = decide (i < 6) := by
  rcases Nat.lt_or_ge i 32 with h | h
  · exact (by decide +kernel : ∀ i, i < 32 → bt 63 i = decide (i < 6)) i h
  · rw [b_big h, decide_eq_false (by omega)]
/-- a mask meets the bit of v: the bit is there -/
theorem du_and0 {m : Int32} {v : Nat} (hv : v < 32) : (m &&& ((1 : Int32) <<< (nI v &&& 31))) = 0 ↔ bt m v = false := by
  constructor
  · intro h
    have e : bt (m &&& ((1 : Int32) <<< (nI v &&& 31))) v = false := by rw [h]; exact b_0 v
    rw [b_and, du_b1 hv] at e
    simpa using e
  · intro h
    apply b_ext
    intro i hi
    rw [b_and, du_b1 hv, b_0]
    by_cases e : v = i
    · subst e
      rw [h]
      rfl
    · simp [e]
def du_t (s : Int64) (j : Nat) : Bool := s.toBitVec.getLsbD j
theorem du_t_or (a b : Int64) (j : Nat) : du_t (a ||| b) j = (du_t a j || du_t b j) := by
  unfold du_t
  rw [Int64.toBitVec_or, BitVec.getLsbD_or]
theorem du_t_0 (j : Nat) : du_t 0 j = false := BitVec.getLsbD_zero
theorem du_sm : ∀ k, k < 64 → (((nI k).toInt64 &&& 63).toBitVec.smod 64).toNat = k := by decide +kernel
theorem du_tpL : ∀ l, l < 64 → ((1 : Int64) <<< ((nI l).toInt64 &&& 63)).toBitVec = BitVec.twoPow 64 l := by decide +kernel
theorem du_t_1 {l j : Nat} (hl : l < 64) : du_t ((1 : Int64) <<< ((nI l).toInt64 &&& 63)) j = decide (l = j) := by
  unfold du_t
  rw [du_tpL l hl, BitVec.getLsbD_twoPow]
  simp [hl]
theorem du_at (s : Int64) {j : Nat} (hj : j < 64) : ((s >>> ((nI j).toInt64 &&& 63)) &&& 1) = 1 ↔ du_t s j = true := by
  have e : (s >>> ((nI j).toInt64 &&& 63)).toBitVec = s.toBitVec.sshiftRight j := by
    rw [Int64.toBitVec_shiftRight]
    show s.toBitVec.sshiftRight (((nI j).toInt64 &&& 63).toBitVec.smod 64).toNat = _
    rw [du_sm j hj]
  rw [← Int64.toBitVec_inj, Int64.toBitVec_and, e]
  show s.toBitVec.sshiftRight j &&& 1#64 = 1#64 ↔ _
  unfold du_t
  constructor
  · intro h
    have t := congrArg (fun x => x.getLsbD 0) h
    simp only [BitVec.getLsbD_and, BitVec.getLsbD_sshiftRight] at t
    simpa [hj] using t
  · intro h
    apply BitVec.eq_of_getLsbD_eq
    intro i hi
    rw [BitVec.getLsbD_and, BitVec.getLsbD_sshiftRight]
    cases i with
    | zero => simp [hj, h]
    | succ i => simp
theorem du_t_from1 (j : Nat) : du_t 1 j = decide (0 = j) := by
  have e : (1 : Int64) = (1 : Int64) <<< ((nI 0).toInt64 &&& 63) := by decide +kernel
  rw [e, du_t_1 (by decide)]
theorem du_nb0 : vp_nar .boolean 0 = 0 := by decide
theorem du_nb1 : vp_nar .boolean 1 = 1 := by decide
theorem du_n1 {q : Nat} (h : q < 2 ^ 31) : ¬ (-1 : Int32) = nI q := fun e => du_nm1 h e.symm
theorem du_in41 {n : Nat} (hn : n ≤ 40) {q : Nat} (hq : q ≤ n) : vp_in (nI q) 41 := vp_in_nI (by omega) (by decide)
