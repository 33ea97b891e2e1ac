/-! the relation and what is owed -/
def rl_lim (q lim : Nat) : Prop := (q = 2 ∧ lim = 12) ∨ (q = 3 ∧ lim = 7) ∨ (q = 5 ∧ lim = 5)
theorem rl_lim_ok {q lim k : Nat} (h : rl_lim q lim) (hk : k ≤ lim + 1) : rl_ok q k := by
  rcases h with ⟨rfl, rfl⟩ | ⟨rfl, rfl⟩ | ⟨rfl, rfl⟩
  · exact rl_ok_le (k := 13) ⟨by decide, by decide, by decide⟩ hk
  · exact rl_ok_le (k := 8) ⟨by decide, by decide, by decide⟩ hk
  · exact rl_ok_le (k := 6) ⟨by decide, by decide, by decide⟩ hk
theorem rl_lim_12 {q lim : Nat} (h : rl_lim q lim) : lim ≤ 12 ∧ 2 ≤ q ∧ q ≤ 5 := by
  unfold rl_lim at h
  omega
/-- the two objects have one modulus, one limit, one count, one row of symbols; what the questions leave behind is free -/
def i_Rel (_ : Nat) (u : SX) (v : SY) : Prop :=
  ∃ (q lim n : Nat) (sl tc : Int32) (S st tp row c : Nat → Int32), rl_lim q lim ∧ n ≤ lim ∧ u = (nI q, nI lim, nI n, sl, tc, S, st, tp) ∧ v = (nI q, nI lim, nI n, S, row, c)
theorem rl_mk {k q lim n : Nat} {sl tc : Int32} {S st tp row c : Nat → Int32} (h : rl_lim q lim) (hn : n ≤ lim) : i_Rel k (nI q, nI lim, nI n, sl, tc, S, st, tp) (nI q, nI lim, nI n, S, row, c) :=
  ⟨q, lim, n, sl, tc, S, st, tp, row, c, h, hn, rfl, rfl⟩
theorem i_up {k : Nat} {u : SX} {v : SY} (h : i_Rel k u v) : i_Rel (k + 3) u v := h
theorem i_vc0 (k0 : Int32) : wpX_init (fun u => wpY_init (fun v => i_Rel 1 u v) k0) k0 := by
  by_cases h : 0 < k0
  · by_cases h1 : k0 = 1
    · exact br_t h (br_t h1 (br_t h (br_t h1 (br_t h (br_t h1 (rl_mk (q := 3) (lim := 7) (n := 0) (Or.inr (Or.inl ⟨rfl, rfl⟩)) (by omega)))))))
    · exact br_t h (br_f h1 (br_t h (br_f h1 (br_t h (br_f h1 (rl_mk (q := 5) (lim := 5) (n := 0) (Or.inr (Or.inr ⟨rfl, rfl⟩)) (by omega)))))))
  · exact br_f h (br_f h (br_f h (rl_mk (q := 2) (lim := 12) (n := 0) (Or.inl ⟨rfl, rfl⟩) (by omega))))
theorem i_vc_modulus {k : Nat} {u : SX} {v : SY} (I : i_Rel k u v) (hk : k + 3 ≤ 1537) : wpX_modulus (fun r => wpY_modulus (fun r' => r' = r ∧ i_Rel (k + 3) u v) v) u := by
  obtain ⟨q, lim, n, sl, tc, S, st, tp, row, c, hq, hn, rfl, rfl⟩ := I
  exact ⟨rfl, rl_mk hq hn⟩
theorem i_vc_append {k : Nat} {u : SX} {v : SY} (I : i_Rel k u v) (hk : k + 3 ≤ 1537) (v1 : Int32) : wpX_append (fun r u' => wpY_append (fun r' v' => r' = r ∧ i_Rel (k + 3) u' v') v v1) u v1 := by
  obtain ⟨q, lim, n, sl, tc, S, st, tp, row, c, hq, hn, rfl, rfl⟩ := I
  have h12 := rl_lim_12 hq
  unfold wpX_append
  dsimp only
  by_cases h0 : v1 < 0
  · exact br_t h0 (br_t rfl (br_t h0 ⟨rfl, rl_mk hq hn⟩))
  by_cases h1 : nI q ≤ v1
  · exact br_f h0 (br_t h1 (br_t rfl (br_f h0 (br_t h1 ⟨rfl, rl_mk hq hn⟩))))
  by_cases h2 : n < lim
  · have h2' : nI n < nI lim := nI_lt h2 (by omega)
    have hi : vp_in (nI n) 12 := vp_in_nI (by omega) (by omega)
    exact br_f h0 (br_f h1 (br_f (by decide) (br_t h2' ⟨hi, nm_e (nm_r (nI_1 n) (br_f h0 (br_f h1 (br_t h2' ⟨hi, nm_e (nm_r (nI_1 n) ⟨rfl, rl_mk hq (by omega)⟩)⟩))))⟩)))
  · have h2' : ¬ nI n < nI lim := nI_nlt (by omega) (by omega)
    exact br_f h0 (br_f h1 (br_f (by decide) (br_f h2' (br_f h0 (br_f h1 (br_f h2' ⟨rfl, rl_mk hq hn⟩))))))
theorem i_vc_drop {k : Nat} {u : SX} {v : SY} (I : i_Rel k u v) (hk : k + 3 ≤ 1537) : wpX_drop (fun r u' => wpY_drop (fun r' v' => r' = r ∧ i_Rel (k + 3) u' v') v) u := by
  obtain ⟨q, lim, n, sl, tc, S, st, tp, row, c, hq, hn, rfl, rfl⟩ := I
  have h12 := rl_lim_12 hq
  cases n with
  | zero => exact br_t nI_0 (br_t nI_0 ⟨rfl, rl_mk hq hn⟩)
  | succ n =>
    have hz : ¬ nI (n + 1) = 0 := nI_ne0 (by omega) (by omega)
    have hi : vp_in (nI n) 12 := vp_in_nI (by omega) (by omega)
    exact br_f hz (nm_r (nI_pred n) ⟨hi, br_f hz (nm_r (nI_pred n) ⟨hi, rfl, rl_mk hq (by omega)⟩)⟩)
theorem i_vc_change {k : Nat} {u : SX} {v : SY} (I : i_Rel k u v) (hk : k + 3 ≤ 1537) (v1 : Int32) (v2 : Int32) : wpX_change (fun r u' => wpY_change (fun r' v' => r' = r ∧ i_Rel (k + 3) u' v') v v1 v2) u v1 v2 := by
  obtain ⟨q, lim, n, sl, tc, S, st, tp, row, c, hq, hn, rfl, rfl⟩ := I
  have h12 := rl_lim_12 hq
  unfold wpX_change
  dsimp only
  by_cases h0 : v1 < 0
  · exact br_t h0 (br_t rfl (br_t h0 ⟨rfl, rl_mk hq hn⟩))
  by_cases h1 : nI n ≤ v1
  · exact br_f h0 (br_t h1 (br_t rfl (br_f h0 (br_t h1 ⟨rfl, rl_mk hq hn⟩))))
  have hi : vp_in v1 12 := by
    obtain ⟨j, hj, rfl⟩ := nI_of h0
    rw [nI_leI (by omega) hj] at h1
    exact vp_in_nI (by omega) (by omega)
  refine br_f h0 (br_f h1 (br_f (by decide) ?_))
  by_cases h2 : v2 < 0
  · exact br_t h2 (br_t rfl (br_f h0 (br_f h1 (br_t h2 ⟨rfl, rl_mk hq hn⟩))))
  by_cases h3 : v2 < nI q
  · exact br_f h2 (br_f (Int32.not_le.mpr h3) (br_f (by decide) ⟨hi, nm_e (br_f h0 (br_f h1 (br_f h2 (br_t h3 ⟨hi, nm_e ⟨rfl, rl_mk hq hn⟩⟩))))⟩))
  · exact br_f h2 (br_t (Int32.not_lt.mp h3) (br_t rfl (br_f h0 (br_f h1 (br_f h2 (br_f h3 ⟨rfl, rl_mk hq hn⟩))))))
theorem i_vc_clear {k : Nat} {u : SX} {v : SY} (I : i_Rel k u v) (hk : k + 3 ≤ 1537) : wpX_clear (fun u' => wpY_clear (fun v' => i_Rel (k + 3) u' v') v) u := by
  obtain ⟨q, lim, n, sl, tc, S, st, tp, row, c, hq, hn, rfl, rfl⟩ := I
  exact rl_mk (k := k + 3) (n := 0) hq (by omega)
theorem i_vc_length {k : Nat} {u : SX} {v : SY} (I : i_Rel k u v) (hk : k + 3 ≤ 1537) : wpX_length (fun r => wpY_length (fun r' => r' = r ∧ i_Rel (k + 3) u v) v) u := by
  obtain ⟨q, lim, n, sl, tc, S, st, tp, row, c, hq, hn, rfl, rfl⟩ := I
  exact ⟨rfl, rl_mk hq hn⟩
theorem i_vc_symbol {k : Nat} {u : SX} {v : SY} (I : i_Rel k u v) (hk : k + 3 ≤ 1537) (v1 : Int32) : wpX_symbol (fun r => wpY_symbol (fun r' => r' = r ∧ i_Rel (k + 3) u v) v v1) u v1 := by
  obtain ⟨q, lim, n, sl, tc, S, st, tp, row, c, hq, hn, rfl, rfl⟩ := I
  have h12 := rl_lim_12 hq
  unfold wpX_symbol
  dsimp only
  by_cases h0 : v1 < 0
  · exact br_t h0 (br_t rfl (br_t h0 ⟨rfl, rl_mk hq hn⟩))
  by_cases h1 : v1 < nI n
  · have hi : vp_in v1 12 := by
      obtain ⟨j, hj, rfl⟩ := nI_of h0
      rw [nI_ltI hj (by omega)] at h1
      exact vp_in_nI (by omega) (by omega)
    exact br_f h0 (br_f (Int32.not_le.mpr h1) (br_f (by decide) ⟨hi, br_f h0 (br_t h1 ⟨hi, rfl, rl_mk hq hn⟩)⟩))
  · exact br_f h0 (br_t (Int32.not_lt.mp h1) (br_t rfl (br_f h0 (br_f h1 ⟨rfl, rl_mk hq hn⟩))))
theorem i_vc_complexity {k : Nat} {u : SX} {v : SY} (I : i_Rel k u v) (hk : k + 3 ≤ 1537) (v1 : Int32) (v2 : Int32) : wpX_complexity (fun r u' => wpY_complexity (fun r' v' => r' = r ∧ i_Rel (k + 3) u' v') v v1 v2) u v1 v2 := by
  obtain ⟨q, lim, n, sl, tc, S, st, tp, row, c, hq, hn, rfl, rfl⟩ := I
  have h12 := rl_lim_12 hq
  by_cases h0 : v1 < 0
  · exact br_t h0 (br_t h0 ⟨rfl, rl_mk hq hn⟩)
  by_cases h1 : v2 < v1
  · exact br_f h0 (br_t h1 (br_f h0 (br_t h1 ⟨rfl, rl_mk hq hn⟩)))
  by_cases h2 : v2 ≤ nI n
  · refine br_f h0 (br_f h1 (br_t h2 ?_))
    obtain ⟨a, ha, rfl⟩ := nI_of h0
    have h3 : ¬ v2 < 0 := fun z => h1 (Int32.lt_of_lt_of_le z (nI_pos' ha))
    obtain ⟨b, hb, rfl⟩ := nI_of h3
    have hab : a ≤ b := by
      rw [nI_ltI hb ha] at h1
      omega
    have hbn : b ≤ n := (nI_leI hb (by omega)).mp h2
    have hok : rl_ok q (b - a) := rl_lim_ok hq (by omega)
    refine rx_study hab (by omega) (fun st' hst => ?_)
    refine rx_least hok (fun L t tp' hl hD => ?_)
    refine br_f h0 (br_f h1 (br_t h2 ?_))
    refine ry_cx hok hab (by omega) (fun row' L' t' c' hrow hl' => ?_)
    have hu := rl_ls_uniq hl (rl_ls_congr (fun j hj => (hrow j hj).trans (hst j hj).symm) hl')
    exact ⟨congrArg nI hu.1, rl_mk hq hn⟩
  · exact br_f h0 (br_f h1 (br_f h2 (br_f h0 (br_f h1 (br_f h2 ⟨rfl, rl_mk hq hn⟩)))))
theorem i_vc_registers {k : Nat} {u : SX} {v : SY} (I : i_Rel k u v) (hk : k + 3 ≤ 1537) : wpX_registers (fun r u' => wpY_registers (fun r' v' => r' = r ∧ i_Rel (k + 3) u' v') v) u := by
  obtain ⟨q, lim, n, sl, tc, S, st, tp, row, c, hq, hn, rfl, rfl⟩ := I
  have h12 := rl_lim_12 hq
  have hok : rl_ok q n := rl_lim_ok hq (by omega)
  unfold wpX_registers
  dsimp only
  refine rx_study (a := 0) (b := n) (by omega) (by omega) (fun st' hst => ?_)
  refine rx_least (k := n) hok (fun L t tp' hl hD => ?_)
  refine rx_count (k := n) hok hl.1 (fun tp2 => ?_)
  dsimp only
  unfold wpY_registers
  dsimp only
  refine ry_whole (by omega) (fun row' hrow => ?_)
  refine ry_least hok (fun L' t' c' hl' hD' => ?_)
  have hc : ∀ j, j < n → row' j = st' j := fun j hj => (hrow j hj).trans ((hst j (by omega)).trans (congrArg S (by omega))).symm
  obtain ⟨e1, e2⟩ := rl_ls_uniq hl (rl_ls_congr hc hl')
  subst e1
  refine ry_pow (rl_ok_le hok hl.1) (ry_count hok hl.1 (fun c2 => ?_))
  exact ⟨rl_cn_congr (fun t => rl_G_congr hc) _, rl_mk hq hn⟩
theorem i_vc_coefficient {k : Nat} {u : SX} {v : SY} (I : i_Rel k u v) (hk : k + 3 ≤ 1537) (v1 : Int32) : wpX_coefficient (fun r u' => wpY_coefficient (fun r' v' => r' = r ∧ i_Rel (k + 3) u' v') v v1) u v1 := by
  obtain ⟨q, lim, n, sl, tc, S, st, tp, row, c, hq, hn, rfl, rfl⟩ := I
  have h12 := rl_lim_12 hq
  have hok : rl_ok q n := rl_lim_ok hq (by omega)
  have Y : ∀ r u' L t tp' st', rl_ls q st' n L t → rl_D q L t tp' → (∀ j, j < n → st' j = S j) → (∀ v', i_Rel (k + 3) u' (nI q, nI lim, nI n, S, v')) →
      ((v1 < 1 → r = -1) ∧ (¬ v1 < 1 → ((v1 ≤ nI L → r = tp' v1.toNatClampNeg) ∧ (¬ v1 ≤ nI L → r = -1)))) →
      wpY_coefficient (fun r' v' => r' = r ∧ i_Rel (k + 3) u' v') (nI q, nI lim, nI n, S, row, c) v1 := by
    intro r u' L t tp' st' hl hD hst hu hr
    unfold wpY_coefficient
    dsimp only
    refine ry_whole (by omega) (fun row' hrow => ?_)
    refine ry_least hok (fun L' t' c' hl' hD' => ?_)
    have hc : ∀ j, j < n → row' j = st' j := fun j hj => (hrow j hj).trans (hst j hj).symm
    obtain ⟨e1, e2⟩ := rl_ls_uniq hl (rl_ls_congr hc hl')
    subst e1 e2
    have hL := hl.1
    refine br_c (fun z => ⟨(hr.1 z).symm, hu _⟩) (fun z => br_c (fun z2 => ?_) (fun z2 => ⟨((hr.2 z).2 z2).symm, hu _⟩))
    have z0 : ¬ v1 < 0 := fun y => z (Int32.lt_trans y (by decide))
    obtain ⟨i, hi, rfl⟩ := nI_of z0
    have i1 : 1 ≤ i := by
      have z' : ¬ nI i < nI 1 := z
      rw [nI_ltI hi (by omega)] at z'
      omega
    have iL : i ≤ L' := (nI_leI hi (by omega)).mp z2
    refine ⟨vp_in_nI (by omega) (by omega), ?_, hu _⟩
    rw [(hr.2 z).1 z2, nI_clamp hi]
    exact (hD' i i1 iL).trans (hD i i1 iL).symm
  unfold wpX_coefficient
  dsimp only
  refine rx_study (a := 0) (b := n) (by omega) (by omega) (fun st' hst => ?_)
  have hst' : ∀ j, j < n → st' j = S j := fun j hj => (hst j (by omega)).trans (congrArg S (by omega))
  refine rx_least (k := n) hok (fun L t tp' hl hD => ?_)
  have hL := hl.1
  by_cases z : v1 < 1
  · exact br_t z (Y _ _ L t tp' st' hl hD hst' (fun v' => rl_mk hq hn) (br_t z rfl))
  by_cases z2 : v1 ≤ nI L
  · have z0 : ¬ v1 < 0 := fun y => z (Int32.lt_trans y (by decide))
    have hi : vp_in v1 14 := by
      obtain ⟨i, hi, rfl⟩ := nI_of z0
      have iL : i ≤ L := (nI_leI hi (by omega)).mp z2
      exact vp_in_nI (by omega) (by omega)
    exact br_f z (br_f (Int32.not_lt.mpr z2) ⟨hi, Y _ _ L t tp' st' hl hD hst' (fun v' => rl_mk hq hn) (br_f z (br_t z2 rfl))⟩)
  · exact br_f z (br_t (Int32.not_le.mp z2) (Y _ _ L t tp' st' hl hD hst' (fun v' => rl_mk hq hn) (br_f z (br_f z2 rfl))))
theorem i_vc_predict {k : Nat} {u : SX} {v : SY} (I : i_Rel k u v) (hk : k + 3 ≤ 1537) (v1 : Int32) : wpX_predict (fun r u' => wpY_predict (fun r' v' => r' = r ∧ i_Rel (k + 3) u' v') v v1) u v1 := by
  obtain ⟨q, lim, n, sl, tc, S, st, tp, row, c, hq, hn, rfl, rfl⟩ := I
  have h12 := rl_lim_12 hq
  have hok : rl_ok q n := rl_lim_ok hq (by omega)
  by_cases h0 : v1 < 0
  · exact br_t h0 (br_t h0 ⟨rfl, rl_mk hq hn⟩)
  by_cases h1 : v1 ≤ 40
  · refine br_f h0 (br_t h1 ?_)
    obtain ⟨j, hj, rfl⟩ := nI_of h0
    have hj40 : j ≤ 40 := by
      have z : nI j ≤ nI 40 := h1
      exact (nI_leI hj (by omega)).mp z
    refine rx_study (a := 0) (b := n) (by omega) (by omega) (fun st' hst => ?_)
    refine rx_least (k := n) hok (fun L t tp' hl hD => ?_)
    have hL := hl.1
    refine rx_predict (rl_ok_le hok hL) hL (by omega) hj40 (fun st2 hs1 hs2 => ?_)
    refine br_f h0 (br_t h1 ?_)
    refine ry_whole (by omega) (fun row' hrow => ?_)
    refine ry_least hok (fun L' t' c' hl' hD' => ?_)
    have hc : ∀ j, j < n → row' j = st' j := fun j hj => (hrow j hj).trans ((hst j (by omega)).trans (congrArg S (by omega))).symm
    obtain ⟨e1, e2⟩ := rl_ls_uniq hl (rl_ls_congr hc hl')
    subst e1 e2
    refine ry_predict (rl_ok_le hok hL) hL (by omega) hj40 (fun row2 hr1 hr2 => ?_)
    refine ⟨?_, rl_mk hq hn⟩
    exact rl_ext_uniq hL (rl_D2 hD' hD) (fun i hi => (hr1 i hi).trans ((hc i hi).trans (hs1 i hi).symm)) hr2 hs2 (n + j) (Nat.le_refl _)
  · exact br_f h0 (br_f h1 (br_f h0 (br_f h1 ⟨rfl, rl_mk hq hn⟩)))
theorem i_vc_complexityWith {k : Nat} {u : SX} {v : SY} (I : i_Rel k u v) (hk : k + 3 ≤ 1537) (v1 : Int32) : wpX_complexityWith (fun r u' => wpY_complexityWith (fun r' v' => r' = r ∧ i_Rel (k + 3) u' v') v v1) u v1 := by
  obtain ⟨q, lim, n, sl, tc, S, st, tp, row, c, hq, hn, rfl, rfl⟩ := I
  have h12 := rl_lim_12 hq
  have hok : rl_ok q (n + 1) := rl_lim_ok hq (by omega)
  unfold wpX_complexityWith
  dsimp only
  by_cases h0 : v1 < 0
  · exact br_t h0 (br_t rfl (br_t h0 ⟨rfl, rl_mk hq hn⟩))
  by_cases h1 : v1 < nI q
  · refine br_f h0 (br_f (Int32.not_le.mpr h1) (br_f (by decide) ?_))
    refine rx_study (a := 0) (b := n) (by omega) (by omega) (fun st' hst => ?_)
    refine ⟨vp_in_nI (by omega) (by omega), nm_r (e' := upd st' n v1) (by rw [nI_clamp (by omega)]) (nm_r (nI_1 n) ?_)⟩
    refine rx_least hok (fun L t tp' hl hD => ?_)
    refine br_f h0 (br_t h1 ?_)
    refine ry_whole (by omega) (fun row' hrow => ?_)
    refine ⟨vp_in_nI (by omega) (by omega), nm_r (e' := upd row' n v1) (by rw [nI_clamp (by omega)]) ?_⟩
    rw [nI_1]
    refine ry_least hok (fun L' t' c' hl' hD' => ?_)
    have hc : ∀ j, j < n + 1 → upd row' n v1 j = upd st' n v1 j := by
      intro j hj
      by_cases z : j = n
      · rw [z, pk_us, pk_us]
      · rw [pk_un z, pk_un z]
        exact (hrow j (by omega)).trans ((hst j (by omega)).trans (congrArg S (by omega))).symm
    have hu := rl_ls_uniq hl (rl_ls_congr hc hl')
    exact ⟨congrArg nI hu.1, rl_mk hq hn⟩
  · exact br_f h0 (br_t (Int32.not_lt.mp h1) (br_t rfl (br_f h0 (br_f h1 ⟨rfl, rl_mk hq hn⟩))))
theorem i_vc_complexityBackwards {k : Nat} {u : SX} {v : SY} (I : i_Rel k u v) (hk : k + 3 ≤ 1537) : wpX_complexityBackwards (fun r u' => wpY_complexityBackwards (fun r' v' => r' = r ∧ i_Rel (k + 3) u' v') v) u := by
  obtain ⟨q, lim, n, sl, tc, S, st, tp, row, c, hq, hn, rfl, rfl⟩ := I
  have h12 := rl_lim_12 hq
  have hok : rl_ok q n := rl_lim_ok hq (by omega)
  refine rx_back hok (by omega) (fun st' L t tp' hst hl => ?_)
  refine ry_back hok (by omega) (fun row' L' t' c' hrow hl' => ?_)
  have hu := rl_ls_uniq hl (rl_ls_congr (fun j hj => (hrow j hj).trans (hst j hj).symm) hl')
  exact ⟨congrArg nI hu.1, rl_mk hq hn⟩
theorem i_vc_holdsUntil {k : Nat} {u : SX} {v : SY} (I : i_Rel k u v) (hk : k + 3 ≤ 1537) (v1 : Int32) : wpX_holdsUntil (fun r u' => wpY_holdsUntil (fun r' v' => r' = r ∧ i_Rel (k + 3) u' v') v v1) u v1 := by
  obtain ⟨q, lim, n, sl, tc, S, st, tp, row, c, hq, hn, rfl, rfl⟩ := I
  have h12 := rl_lim_12 hq
  by_cases h0 : v1 < 0
  · exact br_t h0 (br_t h0 ⟨rfl, rl_mk hq hn⟩)
  by_cases h1 : v1 ≤ nI n
  · refine br_f h0 (br_t h1 ?_)
    obtain ⟨m, hm, rfl⟩ := nI_of h0
    have hmn : m ≤ n := (nI_leI hm (by omega)).mp h1
    have hok : rl_ok q m := rl_lim_ok hq (by omega)
    refine rx_study (a := 0) (b := m) (by omega) (by omega) (fun st' hst => ?_)
    have hst' : ∀ j, j < m → st' j = S j := fun j hj => (hst j (by omega)).trans (congrArg S (by omega))
    refine rx_least (k := m) hok (fun L t tp' hl hD => ?_)
    have hL := hl.1
    refine rx_holds (rl_ok_le hok hL) hL hmn (by omega) hst' (fun r st2 hr => ?_)
    refine br_f h0 (br_t h1 ?_)
    refine ry_whole (by omega) (fun row' hrow => ?_)
    refine ry_least hok (fun L' t' c' hl' hD' => ?_)
    obtain ⟨e1, e2⟩ := rl_ls_uniq hl (rl_ls_congr (fun j hj => (hrow j (by omega)).trans (hst' j hj).symm) hl')
    subst e1 e2
    refine ry_holds (rl_ok_le hok hL) hL hmn (by omega) (fun i hi => hrow i (by omega)) (fun r' row2 hr' => ?_)
    exact ⟨congrArg nI (rl_hu_uniq hL (rl_D2 hD hD') hr hr'), rl_mk hq hn⟩
  · exact br_f h0 (br_f h1 (br_f h0 (br_f h1 ⟨rfl, rl_mk hq hn⟩)))
