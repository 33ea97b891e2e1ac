/-! the reference's own methods -/
theorem ry_rest {post : Int32 → Prop} {q : Nat} {l n : Int32} {s row c : Nat → Int32} {x : Int32} (hq : q = 2 ∨ q = 3 ∨ q = 5) (h : post (rl_rm q x)) : wpY_rest post (nI q, l, n, s, row, c) x := by
  rcases hq with rfl | rfl | rfl
  · exact br_t rfl ⟨by decide, h⟩
  · exact br_f (by decide) (br_t rfl ⟨by decide, h⟩)
  · exact br_f (by decide) (br_f (by decide) ⟨by decide, h⟩)
theorem ry_part {post : Int32 → Prop} {q : Nat} {l n : Int32} {s row c : Nat → Int32} {x : Int32} (hq : q = 2 ∨ q = 3 ∨ q = 5) (h : post (x / nI q)) : wpY_part post (nI q, l, n, s, row, c) x := by
  rcases hq with rfl | rfl | rfl
  · exact br_t rfl ⟨by decide, h⟩
  · exact br_f (by decide) (br_t rfl ⟨by decide, h⟩)
  · exact br_f (by decide) (br_f (by decide) ⟨by decide, h⟩)
theorem ry_pow {post : Int32 → Prop} {q L : Nat} {l n : Int32} {s row c : Nat → Int32} (hok : rl_ok q L) (h : post (nI (q ^ L))) : wpY_power post (nI q, l, n, s, row, c) (nI L) := by
  have hL14 := hok.2.1
  have main : ∀ d e, e + d = L → wY_power_4 post (nI L) (nI q) l n s row c (d + 1) (nI (q ^ e)) (nI e) := by
    intro d
    induction d with
    | zero =>
      intro e he
      have he' : e = L := by omega
      subst he'
      exact br_t (nI_le (by omega) (by omega)) h
    | succ d ih =>
      intro e he
      exact br_f (nI_ge (by omega) (by omega)) (nm_r (e' := nI (q ^ (e + 1))) (by rw [pk_mul, Nat.pow_succ]) (nm_r (nI_1 e) (ih (e + 1) (by omega))))
  exact Exists.intro (L + 1) (main L 0 (by omega))
theorem ry_spell {post : SY → Prop} {q L t : Nat} {l n : Int32} {s row c : Nat → Int32} (hok : rl_ok q L) (ht : t < 2 ^ 31) (h : ∀ c', rl_D q L t c' → post (nI q, l, n, s, row, c')) : wpY_spell post (nI q, l, n, s, row, c) (nI t) (nI L) := by
  have hL14 := hok.2.1
  have hq := rl_ok_q hok
  have main : ∀ i, i ≤ L → ∀ c, (∀ e, i < e → e ≤ L → c e = rl_dg q L t e) → wY_spell_5 post (nI q) l n (i + 1) (nI (t / q ^ (L - i))) (nI i) s row c := by
    intro i
    induction i with
    | zero =>
      intro hi c hc
      exact br_t (nI_lt (a := 0) (b := 1) (by omega) (by omega)) (h c (fun e h1 h2 => hc e (by omega) h2))
    | succ i ih =>
      intro hi c hc
      have tl : t / q ^ (L - (i + 1)) < 2 ^ 31 := Nat.lt_of_le_of_lt (Nat.div_le_self _ _) ht
      have pw : t / q ^ (L - (i + 1)) / q = t / q ^ (L - i) := by
        rw [Nat.div_div_eq_div_mul, ← Nat.pow_succ]
        exact congrArg (fun z => t / q ^ z) (by omega)
      refine br_f (nI_nlt (a := i + 1) (b := 1) (by omega) (by omega)) (ry_rest hok.1 ⟨vp_in_nI (by omega) (by omega), nm_r (e' := upd c (i + 1) (rl_dg q L t (i + 1))) ?_ (ry_part hok.1 (nm_r (pk_m1 i) ?_))⟩)
      · rw [nI_clamp (by omega)]
        exact congrArg (upd c (i + 1)) (pk_rem tl (by omega) (by omega))
      · rw [pk_div tl (by omega) (by omega), pw]
        refine ih (by omega) _ ?_
        intro e a b
        by_cases z : e = i + 1
        · rw [z, pk_us]
        · rw [pk_un z]; exact hc e (by omega) b
  have m := main L (Nat.le_refl _) c (fun e a b => absurd b (by omega))
  rw [Nat.sub_self, Nat.pow_zero, Nat.div_one] at m
  exact Exists.intro (L + 1) m
theorem ry_sum {post : Int32 → Prop} {q L p : Nat} {l n : Int32} {s row c : Nat → Int32} (hok : rl_ok q L) (hL : L ≤ p) (hp : p ≤ 60) (h : post (rl_cs q c row L p)) : wpY_sum post (nI q, l, n, s, row, c) (nI p) (nI L) := by
  have hL14 := hok.2.1
  have main : ∀ d e, e + d = L → wY_sum_5 post (nI p) (nI L) (nI q) l n s row c (d + 1) (rl_sm c row p e) (nI (e + 1)) := by
    intro d
    induction d with
    | zero =>
      intro e he
      have he' : e = L := by omega
      subst he'
      exact br_t (nI_lt (by omega) (by omega)) (ry_rest hok.1 h)
    | succ d ih =>
      intro e he
      refine br_f (nI_nlt (by omega) (by omega)) ⟨vp_in_nI (by omega) (by omega), ?_, ?_⟩
      · rw [pk_sub (by omega)]
        exact vp_in_nI (by omega) (by omega)
      · refine nm_r (e' := rl_sm c row p (e + 1)) ?_ (nm_r (nI_1 (e + 1)) (ih (e + 1) (by omega)))
        rw [pk_sub (by omega), nI_clamp (by omega), nI_clamp (by omega)]
        rfl
  exact Exists.intro (L + 1) (main L 0 (by omega))
theorem ry_gen {post : Int32 → Prop} {q L k : Nat} {l n : Int32} {s row c : Nat → Int32} (hok : rl_ok q k) (hL : L ≤ k) (h1 : rl_gn q c row L k → post 1) (h0 : ¬ rl_gn q c row L k → post 0) : wpY_generates post (nI q, l, n, s, row, c) (nI L) (nI k) := by
  have hokL := rl_ok_le hok hL
  have hk14 := hok.2.1
  have main : ∀ d j, j + d = k → L ≤ j → (∀ i, L ≤ i → i < j → rl_cs q c row L i = row i) → wY_generates_2 post (nI L) (nI k) (nI q) l n s row c (d + 1) (nI j) := by
    intro d
    induction d with
    | zero =>
      intro j hj hLj hg
      exact br_t (nI_le (by omega) (by omega)) (h1 (fun i a b => hg i a (by omega)))
    | succ d ih =>
      intro j hj hLj hg
      refine br_f (nI_ge (by omega) (by omega)) (ry_sum hokL hLj (by omega) ⟨vp_in_nI (by omega) (by omega), ?_⟩)
      rw [nI_clamp (by omega)]
      refine br_c (fun e => nm_r (nI_1 j) (ih (j + 1) (by omega) (by omega) ?_)) (fun e => h0 (fun g => e (g j hLj (by omega))))
      intro i a b
      by_cases z : i = j
      · rw [z]; exact e
      · exact hg i a (by omega)
  exact Exists.intro (k - L + 1) (main (k - L) L (by omega) (Nat.le_refl _) (fun i a b => absurd b (by omega)))
theorem ry_least {post : Int32 → SY → Prop} {q k : Nat} {l n : Int32} {s row c : Nat → Int32} (hok : rl_ok q k)
    (h : ∀ L t c', rl_ls q row k L t → rl_D q L t c' → post (nI L) (nI q, l, n, s, row, c')) :
    wpY_least post (nI q, l, n, s, row, c) (nI k) := by
  have hk14 := hok.2.1
  have inner : ∀ L, L < k → (∀ L', L' < L → ∀ t', t' < q ^ L' → ¬ rl_G q row k L' t') → ∀ J2 : Int32 → Int32 → Int32 → Int32 → (Nat → Int32) → (Nat → Int32) → (Nat → Int32) → Prop, (∀ c', (∀ t', t' < q ^ L → ¬ rl_G q row k L t') → J2 (nI (L + 1)) (nI q) l n s row c') → ∀ d t c, t + d = q ^ L → (∀ t', t' < t → ¬ rl_G q row k L t') → wY_least_16 post J2 (nI k) (nI L) (nI (q ^ L)) (d + 1) (nI t) (nI q) l n s row c := by
    intro L hL hn J2 hJ d
    have hokL := rl_ok_le hok (Nat.le_of_lt hL)
    have hB := hokL.2.2
    induction d with
    | zero =>
      intro t c ht hg
      exact br_t (nI_le (by omega) (by omega)) (nm_r (nI_1 L) (hJ c (fun t' a => hg t' (by omega))))
    | succ d ih =>
      intro t c ht hg
      refine br_f (nI_ge (by omega) (by omega)) (ry_spell hokL (by omega) (fun c' hD => ?_))
      refine ry_gen hok (Nat.le_of_lt hL) (fun g => br_f (by decide) (h L t c' ⟨Nat.le_of_lt hL, by omega, (rl_G_D hD).mp g, hg, hn⟩ hD)) (fun g => br_t rfl (nm_r (nI_1 t) (ih (t + 1) c' (by omega) ?_)))
      intro t' a
      by_cases z : t' = t
      · rw [z]; exact fun g' => g ((rl_G_D hD).mpr g')
      · exact hg t' (by omega)
  have main : ∀ d L c, L + d = k → (∀ L', L' < L → ∀ t', t' < q ^ L' → ¬ rl_G q row k L' t') → wY_least_2 post (nI k) (d + 1) (nI L) (nI q) l n s row c := by
    intro d
    induction d with
    | zero =>
      intro L c hL hn
      have e : L = k := by omega
      subst e
      refine br_t (nI_le (by omega) (by omega)) (ry_spell (t := 0) hok (by omega) (fun c' hD => ?_))
      exact h L 0 c' ⟨Nat.le_refl _, rl_ok_pos hok, rl_G_full (Nat.le_refl _), fun t' a => absurd a (by omega), hn⟩ hD
    | succ d ih =>
      intro L c hL hn
      have hokL := rl_ok_le hok (show L ≤ k by omega)
      refine br_f (nI_ge (by omega) (by omega)) (ry_pow hokL (Exists.intro (q ^ L + 1) (inner L (by omega) hn _ (fun c' hg => ih (L + 1) c' (by omega) ?_) (q ^ L) 0 c (by omega) (fun t' a => absurd a (by omega)))))
      intro L' a
      by_cases z : L' = L
      · rw [z]; exact hg
      · exact hn L' (by omega)
  exact Exists.intro (k + 1) (main k 0 c (by omega) (fun L' a => absurd a (by omega)))
theorem ry_whole {post : SY → Prop} {q n : Nat} {l : Int32} {s row c : Nat → Int32} (hn : n ≤ 12)
    (h : ∀ row', (∀ j, j < n → row' j = s j) → post (nI q, l, nI n, s, row', c)) :
    wpY_whole post (nI q, l, nI n, s, row, c) := by
  have main : ∀ d j row, j + d = n → (∀ i, i < j → row i = s i) → wY_whole_2 post (nI q) l (nI n) (d + 1) (nI j) s row c := by
    intro d
    induction d with
    | zero =>
      intro j row hj hs
      exact br_t (nI_le (by omega) (by omega)) (h row (fun i hi => hs i (by omega)))
    | succ d ih =>
      intro j row hj hs
      refine br_f (nI_ge (by omega) (by omega)) ⟨vp_in_nI (by omega) (by omega), vp_in_nI (by omega) (by omega), nm_r (e' := upd row j (s j)) ?_ (nm_r (nI_1 j) (ih (j + 1) _ (by omega) ?_))⟩
      · rw [nI_clamp (by omega)]
      · intro i hi
        by_cases z : i = j
        · rw [z, pk_us]
        · rw [pk_un z]; exact hs i (by omega)
  exact Exists.intro (n + 1) (main n 0 row (by omega) (fun i hi => absurd hi (by omega)))
theorem ry_count {post : Int32 → SY → Prop} {q n L : Nat} {l : Int32} {s row c : Nat → Int32} (hok : rl_ok q n) (hL : L ≤ n)
    (h : ∀ c', post (rl_cn (rl_G q row n L) (q ^ L)) (nI q, l, nI n, s, row, c')) :
    ∃ n24 : Nat, wY_registers_24 post (nI L) (nI (q ^ L)) n24 0 0 (nI q) l (nI n) s row c := by
  have hokL := rl_ok_le hok hL
  have hB := hokL.2.2
  have main : ∀ d t c, t + d = q ^ L → wY_registers_24 post (nI L) (nI (q ^ L)) (d + 1) (rl_cn (rl_G q row n L) t) (nI t) (nI q) l (nI n) s row c := by
    intro d
    induction d with
    | zero =>
      intro t c ht
      have e : t = q ^ L := by omega
      rw [e]
      exact br_t (nI_le (by omega) (by omega)) (h c)
    | succ d ih =>
      intro t c ht
      refine br_f (nI_ge (by omega) (by omega)) (ry_spell hokL (by omega) (fun c' hD => ?_))
      refine ry_gen hok hL (fun g => br_f (by decide) (nm_r (rl_cn_t ((rl_G_D hD).mp g)).symm (nm_r (nI_1 t) (ih (t + 1) c' (by omega))))) (fun g => br_t rfl (nm_r (e' := rl_cn (rl_G q row n L) (t + 1)) ?_ (nm_r (nI_1 t) (ih (t + 1) c' (by omega)))))
      rw [rl_cn_f (fun g' => g ((rl_G_D hD).mpr g')), Int32.add_zero]
  exact Exists.intro (q ^ L + 1) (main (q ^ L) 0 c (by omega))
