/-- both hold the same n tokens; the component's analysis is that of these tokens -/
def i_Rel (_ : Nat) (u : SX) (v : SY) : Prop := ∃ (n : Nat) (io il wf : Int32) (K V en el be oO oL fw sw ra sa wa en' el' cl lo op : Nat → Int32), u = ((nI n), io, il, wf, K, V, en, el, be, oO, oL, fw, sw, ra, sa, wa) ∧ v = ((nI n), K, V, en', el', cl, lo, op) ∧ n ≤ 40 ∧ du_ok n K V ∧ du_A n K V wf en fw sw ra sa wa
theorem du_rl {k n : Nat} {io il wf : Int32} {K V en el be oO oL fw sw ra sa wa en' el' cl lo op : Nat → Int32} (hn : n ≤ 40) (hk : du_ok n K V) (hA : du_A n K V wf en fw sw ra sa wa) : i_Rel k ((nI n), io, il, wf, K, V, en, el, be, oO, oL, fw, sw, ra, sa, wa) ((nI n), K, V, en', el', cl, lo, op) :=
  ⟨n, io, il, wf, K, V, en, el, be, oO, oL, fw, sw, ra, sa, wa, en', el', cl, lo, op, rfl, rfl, hn, hk, hA⟩
theorem i_up {k : Nat} {u : SX} {v : SY} (h : i_Rel k u v) : i_Rel (k + 4) u v := h
theorem i_vc0 : wpX_init (fun u => wpY_init (fun v => i_Rel 0 u v)) := by
  unfold wpX_init wpY_init
  exact du_w_an (n := 0) (by decide) (fun p hp => absurd hp (Nat.not_lt_zero p)) (fun io il wf en el be oO oL fw sw ra sa wa hA => du_rl (n := 0) (by decide) (fun p hp => absurd hp (Nat.not_lt_zero p)) hA)
theorem i_vc_add {k : Nat} {u : SX} {v : SY} (I : i_Rel k u v) (hk : k + 4 ≤ 2048) (v1 : Int32) (v2 : Int32) : wpX_add (fun r u' => wpY_add (fun r' v' => r' = r ∧ i_Rel (k + 4) u' v') v v1 v2) u v1 v2 := by
  obtain ⟨n, io, il, wf, K, V, en, el, be, oO, oL, fw, sw, ra, sa, wa, en', el', cl, lo, op, rfl, rfl, hn, hok, hA⟩ := I
  obtain ⟨r, hX, hY, ht⟩ := du_ft v1 v2
  unfold wpX_add wpY_add
  refine hX _ ?_
  rcases ht with ⟨rfl, ht⟩ | ⟨h1, h2⟩
  · refine br_t rfl ?_
    by_cases h40 : n < 40
    · have hcl : (nI n).toNatClampNeg = n := nI_clamp (by omega)
      have hin : vp_in (nI n) 40 := vp_in_nI h40 (by decide)
      refine br_t (nI_lt (b := 40) h40 (by decide)) ⟨hin, fun a ea => ⟨hin, fun b eb c ec => ?_⟩⟩
      rw [hcl] at ea eb
      rw [ec, nI_1]
      subst ea eb
      have hok' : du_ok (n + 1) (upd K n v1) (upd V n v2) := du_ok_up hok ht (fun q _ _ => by omega)
      refine du_w_an (by omega) hok' (fun io il wf en el be oO oL fw sw ra sa wa hA => ?_)
      refine hY _ _ (br_t (by decide) (br_f (fun z => ?_) ⟨hin, fun a ea => ⟨hin, fun b eb c ec => ?_⟩⟩))
      · have := (nI_eq (b := 40) (by omega) (by decide)).mp z
        omega
      · rw [hcl] at ea eb
        rw [ec, nI_1, nI_pred]
        subst ea eb
        exact ⟨rfl, du_rl (by omega) hok' hA⟩
    · have e : n = 40 := by omega
      subst e
      exact br_f (by decide) (hY _ _ (br_t (by decide) (br_t rfl ⟨rfl, du_rl hn hok hA⟩)))
  · exact br_f h1 (hY _ _ (br_f h2 ⟨rfl, du_rl hn hok hA⟩))
theorem i_vc_change {k : Nat} {u : SX} {v : SY} (I : i_Rel k u v) (hk : k + 4 ≤ 2048) (v1 : Int32) (v2 : Int32) (v3 : Int32) : wpX_change (fun r u' => wpY_change (fun r' v' => r' = r ∧ i_Rel (k + 4) u' v') v v1 v2 v3) u v1 v2 v3 := by
  obtain ⟨n, io, il, wf, K, V, en, el, be, oO, oL, fw, sw, ra, sa, wa, en', el', cl, lo, op, rfl, rfl, hn, hok, hA⟩ := I
  obtain ⟨r, hX, hY, ht⟩ := du_ft v2 v3
  unfold wpX_change wpY_change
  rcases du_ix v1 hn with hx | ⟨p, hp, rfl⟩
  · exact du_q_not hx (br_t rfl (du_y_not hx (br_f (by decide) ⟨rfl, du_rl hn hok hA⟩)))
  refine du_q_tok hn hp (br_f (by decide) (hX _ ?_))
  rcases ht with ⟨rfl, ht⟩ | ⟨h1, h2⟩
  · have hcl : (nI p).toNatClampNeg = p := nI_clamp (by omega)
    have hin : vp_in (nI p) 40 := vp_in_nI (by omega) (by decide)
    refine br_t rfl ⟨hin, fun o eo => ⟨hin, fun a ea => ⟨hin, fun b eb => ?_⟩⟩⟩
    rw [hcl] at eo ea eb
    subst eo ea eb
    have hok' : du_ok n (upd K p v2) (upd V p v3) := du_ok_up hok ht (fun q hq _ => hq)
    refine du_w_an hn hok' (fun io il wf en el be oO oL fw sw ra sa wa hA => ?_)
    refine du_y_tok hn hp (br_t rfl (hY _ _ (br_t (by decide) ⟨hin, fun o eo => ⟨hin, fun a ea => ⟨hin, fun b eb => ?_⟩⟩⟩)))
    rw [hcl] at eo ea eb
    subst eo ea eb
    exact ⟨rfl, du_rl hn hok' hA⟩
  · exact br_f h1 (du_y_tok hn hp (br_t rfl (hY _ _ (br_f h2 ⟨rfl, du_rl hn hok hA⟩))))
theorem i_vc_drop {k : Nat} {u : SX} {v : SY} (I : i_Rel k u v) (hk : k + 4 ≤ 2048) : wpX_drop (fun r u' => wpY_drop (fun r' v' => r' = r ∧ i_Rel (k + 4) u' v') v) u := by
  obtain ⟨n, io, il, wf, K, V, en, el, be, oO, oL, fw, sw, ra, sa, wa, en', el', cl, lo, op, rfl, rfl, hn, hok, hA⟩ := I
  cases n with
  | zero => exact br_t nI_0 (br_t nI_0 ⟨rfl, du_rl hn hok hA⟩)
  | succ n =>
    have h0 : ¬ nI (n + 1) = 0 := nI_ne0 (by omega) (by omega)
    refine br_f h0 (fun a ea => ?_)
    rw [ea, nI_pred]
    have hok' : du_ok n K V := fun q hq => hok q (by omega)
    refine du_w_an (by omega) hok' (fun io il wf en el be oO oL fw sw ra sa wa hA => ?_)
    refine br_f h0 (fun b eb => ?_)
    rw [eb, nI_pred]
    exact ⟨rfl, du_rl (by omega) hok' hA⟩
theorem i_vc_sound {k : Nat} {u : SX} {v : SY} (I : i_Rel k u v) (hk : k + 4 ≤ 2048) : wpX_sound (fun r => wpY_sound (fun r' v' => r' = r ∧ i_Rel (k + 4) u v') v) u := by
  obtain ⟨n, io, il, wf, K, V, en, el, be, oO, oL, fw, sw, ra, sa, wa, en', el', cl, lo, op, rfl, rfl, hn, hok, hA⟩ := I
  have hA' := hA
  rcases hA with ⟨hW, rfl⟩ | ⟨rfl, E, L, B, hr, _⟩
  · exact ⟨rfl, du_y_no hn hW (fun en' el' cl lo op => ⟨rfl, du_rl hn hok hA'⟩)⟩
  · exact ⟨rfl, du_y_yes hn hr (fun en' el' cl lo op _ => ⟨rfl, du_rl hn hok hA'⟩)⟩
theorem i_vc_reached {k : Nat} {u : SX} {v : SY} (I : i_Rel k u v) (hk : k + 4 ≤ 2048) (v1 : Int32) : wpX_reached (fun r => wpY_reached (fun r' v' => r' = r ∧ i_Rel (k + 4) u v') v v1) u v1 := by
  obtain ⟨n, io, il, wf, K, V, en, el, be, oO, oL, fw, sw, ra, sa, wa, en', el', cl, lo, op, rfl, rfl, hn, hok, hA⟩ := I
  have hA' := hA
  rcases hA with ⟨hW, rfl⟩ | ⟨rfl, E, L, B, hr, _, _, hra, _, _⟩
  · refine br_t rfl ?_
    unfold wpY_reached
    exact du_y_no hn hW (fun en' el' cl lo op => br_t rfl ⟨rfl, du_rl hn hok hA'⟩)
  · refine br_f (by decide) ?_
    rcases du_ix v1 hn with hx | ⟨p, hp, rfl⟩
    · refine du_q_not hx (br_t rfl ?_)
      unfold wpY_reached
      exact du_y_yes hn hr (fun en' el' cl lo op _ => br_f (by decide) (du_y_not hx (br_f (by decide) ⟨rfl, du_rl hn hok hA'⟩)))
    · have hcl : (nI p).toNatClampNeg = p := nI_clamp (by omega)
      refine du_q_tok hn hp (br_f (by decide) ⟨du_in41 hn (by omega), ?_⟩)
      rw [hcl]
      have e := hra p (by omega)
      by_cases z : ra p = 0
      · exact br_t z (du_y_reach hn hr hp (fun w => absurd z (e.mpr w)) (fun _ en' el' cl lo op => ⟨rfl, du_rl hn hok hA'⟩))
      · exact br_f z (du_y_reach hn hr hp (fun _ en' el' cl lo op _ => ⟨rfl, du_rl hn hok hA'⟩) (fun w => absurd (e.mp z) w))
theorem i_vc_surely {k : Nat} {u : SX} {v : SY} (I : i_Rel k u v) (hk : k + 4 ≤ 2048) (v1 : Int32) : wpX_surely (fun r => wpY_surely (fun r' v' => r' = r ∧ i_Rel (k + 4) u v') v v1) u v1 := by
  obtain ⟨n, io, il, wf, K, V, en, el, be, oO, oL, fw, sw, ra, sa, wa, en', el', cl, lo, op, rfl, rfl, hn, hok, hA⟩ := I
  have hA' := hA
  unfold wpX_surely wpY_surely
  rcases hA with ⟨hW, rfl⟩ | ⟨rfl, E, L, B, hr, _, _, _, ⟨hs1, hs2⟩, _⟩
  · exact du_q_pf0 (br_f (by decide) (du_y_no hn hW (fun en' el' cl lo op => br_t rfl ⟨rfl, du_rl hn hok hA'⟩)))
  · rcases du_ix v1 hn with hx | ⟨p, hp, rfl⟩
    · exact du_q_pf1 hx (br_f (by decide) (du_y_yes hn hr (fun en' el' cl lo op _ => br_f (by decide) (du_y_not hx (br_f (by decide) ⟨rfl, du_rl hn hok hA'⟩)))))
    · have hcl : (nI p).toNatClampNeg = p := nI_clamp (by omega)
      refine du_q_pf2 hn hp (br_t rfl ⟨du_in41 hn (by omega), du_y_yes hn hr (fun en' el' cl lo op hY => br_f (by decide) (du_y_tok hn hp (br_t rfl ⟨7, du_y_sure hn hY hp (fun m hm => ⟨?_, du_rl hn hok hA'⟩) 6 0 0 rfl (fun i => ?_)⟩)))⟩)
      · rw [b_0]
        exact ⟨fun w => absurd w (by decide), fun w => absurd w.1 (Nat.not_lt_zero i)⟩
      · rw [hcl]
        refine du_eqm (fun i => (hm i).trans ?_)
        by_cases h6 : i < 6
        · have e := hs2 p (by omega) i h6
          exact ⟨fun w => Classical.byContradiction (fun y => w.2 (e.mp y)), fun w => ⟨h6, fun y => e.mpr y w⟩⟩
        · exact ⟨fun w => absurd w.1 h6, fun w => absurd w (hs1 p (by omega) i (by omega))⟩
theorem i_vc_doubts {k : Nat} {u : SX} {v : SY} (I : i_Rel k u v) (hk : k + 4 ≤ 2048) : wpX_doubts (fun r => wpY_doubts (fun r' v' => r' = r ∧ i_Rel (k + 4) u v') v) u := by
  obtain ⟨n, io, il, wf, K, V, en, el, be, oO, oL, fw, sw, ra, sa, wa, en', el', cl, lo, op, rfl, rfl, hn, hok, hA⟩ := I
  have hA' := hA
  unfold wpX_doubts wpY_doubts
  rcases hA with ⟨hW, rfl⟩ | ⟨rfl, E, L, B, hr, _, _, hra, ⟨_, hs2⟩, _⟩
  · exact br_t rfl (du_y_no hn hW (fun en' el' cl lo op => br_t rfl ⟨rfl, du_rl hn hok hA'⟩))
  · refine br_f (by decide) ⟨n + 1, du_q_dbs (E := E) (L := L) (B := B) hn hok hra hs2 ?_ n 0 (Nat.zero_add n)⟩
    exact du_y_yes hn hr (fun en' el' cl lo op hY => br_f (by decide) ⟨n + 1, du_y_dbs hn hY ⟨rfl, du_rl hn hok hA'⟩ n 0 (Nat.zero_add n)⟩)
theorem i_vc_completes {k : Nat} {u : SX} {v : SY} (I : i_Rel k u v) (hk : k + 4 ≤ 2048) : wpX_completes (fun r => wpY_completes (fun r' v' => r' = r ∧ i_Rel (k + 4) u v') v) u := by
  obtain ⟨n, io, il, wf, K, V, en, el, be, oO, oL, fw, sw, ra, sa, wa, en', el', cl, lo, op, rfl, rfl, hn, hok, hA⟩ := I
  have hA' := hA
  unfold wpX_completes wpY_completes
  rcases hA with ⟨hW, rfl⟩ | ⟨rfl, E, L, B, hr, _, _, hra, _, _⟩
  · exact br_t rfl (du_y_no hn hW (fun en' el' cl lo op => br_t rfl ⟨rfl, du_rl hn hok hA'⟩))
  · have hcl : (nI n).toNatClampNeg = n := nI_clamp (by omega)
    refine br_f (by decide) ⟨du_in41 hn (Nat.le_refl n), ?_⟩
    rw [hcl]
    have e := hra n (Nat.le_refl n)
    by_cases z : ra n = 0
    · refine br_t z (du_y_yes hn hr (fun en' el' cl lo op hY => br_f (by decide) (du_y_search hn hY (fun q _ => du_s1 q) (fun s hs => du_y_at hn (fun y => ?_) (fun y => ⟨rfl, rfl, du_rl hn hok hA'⟩)))))
      exact absurd z (e.mpr ((hs n (Nat.le_refl n)).mp y))
    · refine br_f z (du_y_yes hn hr (fun en' el' cl lo op hY => br_f (by decide) (du_y_search hn hY (fun q _ => du_s1 q) (fun s hs => du_y_at hn (fun y => ⟨rfl, rfl, du_rl hn hok hA'⟩) (fun y => ?_)))))
      exact absurd ((hs n (Nat.le_refl n)).mpr (e.mp z)) y
theorem i_vc_idle {k : Nat} {u : SX} {v : SY} (I : i_Rel k u v) (hk : k + 4 ≤ 2048) (v1 : Int32) : wpX_idle (fun r => wpY_idle (fun r' v' => r' = r ∧ i_Rel (k + 4) u v') v v1) u v1 := by
  obtain ⟨n, io, il, wf, K, V, en, el, be, oO, oL, fw, sw, ra, sa, wa, en', el', cl, lo, op, rfl, rfl, hn, hok, hA⟩ := I
  have hA' := hA
  rcases hA with ⟨hW, rfl⟩ | ⟨rfl, E, L, B, hr, _, hw, hra, _, ⟨_, hwa⟩⟩
  · refine br_t rfl ?_
    unfold wpY_idle wpY_reached
    exact du_y_no hn hW (fun en' el' cl lo op => br_t rfl (br_t rfl ⟨rfl, du_rl hn hok hA'⟩))
  · refine br_f (by decide) ?_
    rcases du_ix v1 hn with hx | ⟨p, hp, rfl⟩
    · refine du_q_not hx (br_t rfl ?_)
      unfold wpY_idle wpY_reached
      exact du_y_yes hn hr (fun en' el' cl lo op _ => br_f (by decide) (du_y_not hx (br_f (by decide) (br_t rfl ⟨rfl, du_rl hn hok hA'⟩))))
    · refine du_q_tok hn hp (br_f (by decide) (du_q_dl (E := E) (L := L) (B := B) hn hok hp hw hra hwa (fun z => br_f (by decide) ?_) (fun z => br_t rfl ?_)))
      · exact du_y_dl hn hr hp (fun _ en' el' cl lo op => ⟨rfl, du_rl hn hok hA'⟩) (fun y => absurd z y)
      · exact du_y_dl hn hr hp (fun y => absurd y z) (fun _ en' el' cl lo op => ⟨rfl, du_rl hn hok hA'⟩)
theorem i_vc_idles {k : Nat} {u : SX} {v : SY} (I : i_Rel k u v) (hk : k + 4 ≤ 2048) : wpX_idles (fun r => wpY_idles (fun r' v' => r' = r ∧ i_Rel (k + 4) u v') v) u := by
  obtain ⟨n, io, il, wf, K, V, en, el, be, oO, oL, fw, sw, ra, sa, wa, en', el', cl, lo, op, rfl, rfl, hn, hok, hA⟩ := I
  have hA' := hA
  unfold wpX_idles wpY_idles
  rcases hA with ⟨hW, rfl⟩ | ⟨rfl, E, L, B, hr, _, hw, hra, _, ⟨_, hwa⟩⟩
  · exact br_t rfl (du_y_no hn hW (fun en' el' cl lo op => br_t rfl ⟨rfl, du_rl hn hok hA'⟩))
  · refine br_f (by decide) ⟨n + 1, du_q_dls (E := E) (L := L) (B := B) hn hok hw hra hwa ?_ n 0 (Nat.zero_add n)⟩
    exact du_y_yes hn hr (fun en' el' cl lo op hY => br_f (by decide) ⟨n + 1, du_y_dls hn hr (fun en' el' cl lo op => ⟨rfl, du_rl hn hok hA'⟩) n 0 en' el' cl lo op (Nat.zero_add n)⟩)
theorem i_vc_wanted {k : Nat} {u : SX} {v : SY} (I : i_Rel k u v) (hk : k + 4 ≤ 2048) (v1 : Int32) : wpX_wanted (fun r => wpY_wanted (fun r' v' => r' = r ∧ i_Rel (k + 4) u v') v v1) u v1 := by
  obtain ⟨n, io, il, wf, K, V, en, el, be, oO, oL, fw, sw, ra, sa, wa, en', el', cl, lo, op, rfl, rfl, hn, hok, hA⟩ := I
  have hA' := hA
  unfold wpX_wanted wpY_wanted
  rcases hA with ⟨hW, rfl⟩ | ⟨rfl, E, L, B, hr, _, _, _, _, ⟨hw1, hw2⟩⟩
  · exact du_q_pf0 (br_f (by decide) (du_y_no hn hW (fun en' el' cl lo op => br_t rfl ⟨rfl, du_rl hn hok hA'⟩)))
  · rcases du_ix v1 hn with hx | ⟨p, hp, rfl⟩
    · exact du_q_pf1 hx (br_f (by decide) (du_y_yes hn hr (fun en' el' cl lo op _ => br_f (by decide) (du_y_not hx (br_f (by decide) ⟨rfl, du_rl hn hok hA'⟩)))))
    · have hcl : (nI p).toNatClampNeg = p := nI_clamp (by omega)
      refine du_q_pf2 hn hp (br_t rfl ⟨du_in41 hn (by omega), du_y_yes hn hr (fun en' el' cl lo op hY => br_f (by decide) (du_y_tok hn hp (br_t rfl ⟨7, du_y_want hn hY hp (fun m hm => ⟨?_, du_rl hn hok hA'⟩) 6 0 0 rfl (fun i => ?_)⟩)))⟩)
      · rw [b_0]
        exact ⟨fun w => absurd w (by decide), fun w => absurd w.1 (Nat.not_lt_zero i)⟩
      · rw [hcl]
        refine du_eqm (fun i => (hm i).trans ?_)
        by_cases h6 : i < 6
        · exact ⟨fun w => (hw2 p (by omega) i h6).mpr w.2, fun w => ⟨h6, (hw2 p (by omega) i h6).mp w⟩⟩
        · exact ⟨fun w => absurd w.1 h6, fun w => absurd w (hw1 p (by omega) i (by omega))⟩
theorem i_vc_endOf {k : Nat} {u : SX} {v : SY} (I : i_Rel k u v) (hk : k + 4 ≤ 2048) (v1 : Int32) : wpX_endOf (fun r => wpY_endOf (fun r' v' => r' = r ∧ i_Rel (k + 4) u v') v v1) u v1 := by
  obtain ⟨n, io, il, wf, K, V, en, el, be, oO, oL, fw, sw, ra, sa, wa, en', el', cl, lo, op, rfl, rfl, hn, hok, hA⟩ := I
  have hA' := hA
  unfold wpX_endOf wpY_endOf
  rcases hA with ⟨hW, rfl⟩ | ⟨rfl, E, L, B, hr, hen, _⟩
  · exact du_q_pf0 (br_f (by decide) (du_y_no hn hW (fun en' el' cl lo op => br_t rfl ⟨rfl, du_rl hn hok hA'⟩)))
  · rcases du_ix v1 hn with hx | ⟨p, hp, rfl⟩
    · exact du_q_pf1 hx (br_f (by decide) (du_y_yes hn hr (fun en' el' cl lo op _ => br_f (by decide) (du_y_not hx (br_f (by decide) ⟨rfl, du_rl hn hok hA'⟩)))))
    · have hcl : (nI p).toNatClampNeg = p := nI_clamp (by omega)
      have hin : vp_in (nI p) 40 := vp_in_nI (by omega) (by decide)
      refine du_q_pf2 hn hp (br_t rfl ⟨hin, ?_⟩)
      rw [hcl]
      by_cases h2 : K p = 2
      · refine br_t h2 (br_f (by decide) ⟨hin, du_y_yes hn hr (fun en' el' cl lo op hY => br_f (by decide) (du_y_tok hn hp (br_t rfl ⟨hin, ?_⟩)))⟩)
        have e : en' p = en p := (hY.2.1 p hp (Or.inl h2)).trans (hen p hp (Or.inl h2)).symm
        rw [e]
        exact br_t h2 ⟨hin, rfl, du_rl hn hok hA'⟩
      · refine br_f h2 ?_
        by_cases h4 : K p = 4
        · refine br_t h4 (br_f (by decide) ⟨hin, du_y_yes hn hr (fun en' el' cl lo op hY => br_f (by decide) (du_y_tok hn hp (br_t rfl ⟨hin, ?_⟩)))⟩)
          have e : en' p = en p := (hY.2.1 p hp (Or.inr (Or.inl h4))).trans (hen p hp (Or.inr (Or.inl h4))).symm
          rw [e]
          exact br_f h2 ⟨hin, br_t h4 ⟨hin, rfl, du_rl hn hok hA'⟩⟩
        · refine br_f h4 ?_
          by_cases h5 : K p = 5
          · refine br_t h5 (br_f (by decide) ⟨hin, du_y_yes hn hr (fun en' el' cl lo op hY => br_f (by decide) (du_y_tok hn hp (br_t rfl ⟨hin, ?_⟩)))⟩)
            have e : en' p = en p := (hY.2.1 p hp (Or.inr (Or.inr h5))).trans (hen p hp (Or.inr (Or.inr h5))).symm
            rw [e]
            exact br_f h2 ⟨hin, br_f h4 ⟨hin, br_t h5 ⟨hin, rfl, du_rl hn hok hA'⟩⟩⟩
          · refine br_f h5 (br_t rfl (du_y_yes hn hr (fun en' el' cl lo op hY => br_f (by decide) (du_y_tok hn hp (br_t rfl ⟨hin, ?_⟩)))))
            exact br_f h2 ⟨hin, br_f h4 ⟨hin, br_f h5 ⟨rfl, du_rl hn hok hA'⟩⟩⟩
