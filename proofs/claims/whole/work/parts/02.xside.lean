/-! the component's own methods -/
theorem rx_carried {post : Int32 → Prop} {q L p : Nat} {l n sl : Int32} {S st tp : Nat → Int32} (hok : rl_ok q L) (hL : L ≤ p) (hp : p ≤ 53) (h : post (rl_cs q tp st L p)) : wpX_carriedSymbol post (nI q, l, n, sl, nI L, S, st, tp) (nI p) := by
  have hq := rl_ok_q hok
  have hL14 := hok.2.1
  have main : ∀ d e, e + d = L → wX_carriedSymbol_4 post (nI p) (nI q) l n sl (nI L) S st tp (d + 1) (rl_sm tp st p e) (nI (e + 1)) := by
    intro d
    induction d with
    | zero =>
      intro e he
      have he' : e = L := by omega
      subst he'
      exact br_t (nI_lt (by omega) (by omega)) ⟨nI_ne0 (by omega) (by omega), h⟩
    | succ d ih =>
      intro e he
      refine br_f (nI_nlt (by omega) (by omega)) ⟨vp_in_nI (by omega) (by omega), ?_, ?_⟩
      · rw [pk_sub (by omega)]
        exact vp_in_nI (by omega) (by omega)
      · refine nm_r (e' := rl_sm tp st p (e + 1)) ?_ (nm_r (nI_1 (e + 1)) (ih (e + 1) (by omega)))
        rw [pk_sub (by omega), nI_clamp (by omega), nI_clamp (by omega)]
        rfl
  exact Exists.intro (L + 1) (main L 0 (by omega))
theorem rx_gen {post : Int32 → Prop} {q L k : Nat} {l n : Int32} {S st tp : Nat → Int32} (hok : rl_ok q k) (hL : L ≤ k) (h1 : rl_gn q tp st L k → post 1) (h0 : ¬ rl_gn q tp st L k → post 0) : wpX_generatesStudy post (nI q, l, n, nI k, nI L, S, st, tp) := by
  have hokL := rl_ok_le hok hL
  have hk14 := hok.2.1
  have main : ∀ d j, j + d = k → L ≤ j → (∀ i, L ≤ i → i < j → rl_cs q tp st L i = st i) → wX_generatesStudy_5 post (nI q) l n (nI k) (nI L) S st tp (d + 1) (nI j) := by
    intro d
    induction d with
    | zero =>
      intro j hj hLj hg
      exact br_t (nI_le (by omega) (by omega)) (h1 (fun i a b => hg i a (by omega)))
    | succ d ih =>
      intro j hj hLj hg
      refine br_f (nI_ge (by omega) (by omega)) ⟨vp_in_nI (by omega) (by omega), ?_⟩
      refine rx_carried hokL hLj (by omega) ?_
      rw [nI_clamp (by omega)]
      refine br_c (fun e => nm_r (nI_1 j) (ih (j + 1) (by omega) (by omega) ?_)) (fun e => h0 (fun g => e (g j hLj (by omega)).symm))
      intro i a b
      by_cases z : i = j
      · rw [z]; exact e.symm
      · exact hg i a (by omega)
  exact Exists.intro (k - L + 1) (main (k - L) L (by omega) (Nat.le_refl _) (fun i a b => absurd b (by omega)))
theorem rx_pow {post : Int32 → Prop} {q L : Nat} {l n sl tc : Int32} {S st tp : Nat → Int32} (hok : rl_ok q L) (h : post (nI (q ^ L))) : wpX_registersOfLength post (nI q, l, n, sl, tc, S, st, tp) (nI L) := by
  have hL14 := hok.2.1
  have main : ∀ d e, e + d = L → wX_registersOfLength_4 post (nI L) (nI q) l n sl tc S st tp (d + 1) (nI (q ^ e)) (nI (e + 1)) := by
    intro d
    induction d with
    | zero =>
      intro e he
      have he' : e = L := by omega
      subst he'
      exact br_t (nI_lt (by omega) (by omega)) h
    | succ d ih =>
      intro e he
      exact br_f (nI_nlt (by omega) (by omega)) (nm_r (e' := nI (q ^ (e + 1))) (by rw [pk_mul, Nat.pow_succ]) (nm_r (nI_1 (e + 1)) (ih (e + 1) (by omega))))
  exact Exists.intro (L + 1) (main L 0 (by omega))
theorem rx_start {post : SX → Prop} {q L : Nat} {l n sl tc : Int32} {S st tp : Nat → Int32} (hok : rl_ok q L) (h : ∀ tp', rl_D q L 0 tp' → post (nI q, l, n, sl, nI L, S, st, tp')) : wpX_startRegisters post (nI q, l, n, sl, tc, S, st, tp) (nI L) := by
  have hL14 := hok.2.1
  have main : ∀ d e tp, e + d = L → (∀ i, 1 ≤ i → i ≤ e → tp i = rl_dg q L 0 i) → wX_startRegisters_7 post (nI L) (nI q) l n sl (nI L) (d + 1) (nI (e + 1)) S st tp := by
    intro d
    induction d with
    | zero =>
      intro e tp he hz
      exact br_t (nI_lt (by omega) (by omega)) (h tp (fun i a b => hz i a (by omega)))
    | succ d ih =>
      intro e tp he hz
      refine br_f (nI_nlt (by omega) (by omega)) ⟨vp_in_nI (by omega) (by omega), nm_r (e' := upd tp (e + 1) 0) (by rw [nI_clamp (by omega)]) (nm_r (nI_1 (e + 1)) (ih (e + 1) _ (by omega) ?_))⟩
      intro i a b
      by_cases z : i = e + 1
      · rw [z, pk_us, rl_dg0]
      · rw [pk_un z]; exact hz i a (by omega)
  exact Exists.intro (L + 1) (main L 0 tp (by omega) (fun i a b => absurd b (by omega)))
theorem rx_next {post : SX → Prop} {q L t : Nat} {l n sl : Int32} {S st tp : Nat → Int32} (hok : rl_ok q L) (hD : rl_D q L t tp) (h : ∀ tp', rl_D q L (t + 1) tp' → post (nI q, l, n, sl, nI L, S, st, tp')) : wpX_nextRegister post (nI q, l, n, sl, nI L, S, st, tp) := by
  have hL14 := hok.2.1
  have hq := rl_ok_q hok
  have main : ∀ i, i ≤ L → ∀ m tp, t + 1 = q ^ (L - i) * m → (∀ e, 1 ≤ e → e ≤ i → tp e = rl_dg q L t e) → (∀ e, i < e → e ≤ L → tp e = rl_dg q L (t + 1) e) → wX_nextRegister_5 post (nI q) l n sl (nI L) (i + 1) (nI i) S st tp := by
    intro i
    induction i with
    | zero =>
      intro hi m tp hm ha hb
      exact br_t (nI_lt (a := 0) (b := 1) (by omega) (by omega)) (h tp (fun e h1 h2 => hb e (by omega) h2))
    | succ i ih =>
      intro hi m tp hm ha hb
      refine br_f (nI_nlt (a := i + 1) (b := 1) (by omega) (by omega)) ⟨vp_in_nI (by omega) (by omega), ?_⟩
      have e1 : tp (nI (i + 1)).toNatClampNeg = nI (t / q ^ (L - (i + 1)) % q) := by
        rw [nI_clamp (by omega)]; exact ha (i + 1) (by omega) (by omega)
      have e2 : nI q - 1 = nI (q - 1) := by
        obtain ⟨w, rfl⟩ : ∃ w, q = w + 1 := ⟨q - 1, by omega⟩
        exact nI_pred w
      obtain ⟨m0, P0, d1, d2⟩ := rl_pm hm
      have pw : q ^ (L - i) = q ^ (L - (i + 1)) * q := by
        rw [← Nat.pow_succ]
        exact congrArg (fun z => q ^ z) (by omega)
      have ml : t / q ^ (L - (i + 1)) % q < q := Nat.mod_lt _ (by omega)
      rw [e1, e2, nI_leI (by omega) (by omega)]
      by_cases hc : q - 1 ≤ t / q ^ (L - (i + 1)) % q
      · refine br_t hc ⟨vp_in_nI (by omega) (by omega), nm_r (e' := upd tp (i + 1) 0) (by rw [nI_clamp (by omega)]) (nm_r (pk_m1 i) ?_)⟩
        rw [d2] at hc
        have mz := rl_carry hq.1 m0 hc
        refine ih (by omega) (m / q) _ ?_ ?_ ?_
        · rw [pw, Nat.mul_assoc, Nat.mul_div_cancel' (Nat.dvd_of_mod_eq_zero mz)]; exact hm
        · intro e a b
          rw [pk_un (by omega)]; exact ha e a (by omega)
        · intro e a b
          by_cases z : e = i + 1
          · rw [z, pk_us]
            show 0 = nI ((t + 1) / q ^ (L - (i + 1)) % q)
            rw [d1, mz]
            exact nI_0.symm
          · rw [pk_un z]; exact hb e (by omega) b
      · refine br_f hc ⟨vp_in_nI (by omega) (by omega), vp_in_nI (by omega) (by omega), nm_r (e' := upd tp (i + 1) (nI (t / q ^ (L - (i + 1)) % q + 1))) (by rw [nI_clamp (by omega), nI_1]) (h _ ?_)⟩
        rw [d2] at hc
        obtain ⟨n1, n2⟩ := rl_nocarry hq.1 m0 hc
        intro e a b
        by_cases z : e = i + 1
        · rw [z, pk_us]
          show _ = nI ((t + 1) / q ^ (L - (i + 1)) % q)
          rw [d1, d2, n1]
        · rw [pk_un z]
          by_cases z2 : i + 1 < e
          · exact hb e z2 b
          · rw [ha e a (by omega)]
            show nI (t / q ^ (L - e) % q) = nI ((t + 1) / q ^ (L - e) % q)
            have pe : q ^ (L - e) = q ^ (L - (i + 1)) * (q * q ^ (i - e)) := by
              rw [← Nat.mul_assoc, ← Nat.pow_succ, ← Nat.pow_add]
              exact congrArg (fun z => q ^ z) (by omega)
            rw [pe, ← Nat.div_div_eq_div_mul, ← Nat.div_div_eq_div_mul, ← Nat.div_div_eq_div_mul, ← Nat.div_div_eq_div_mul, d1, d2, n2]
  refine Exists.intro (L + 1) (main L (Nat.le_refl _) (t + 1) tp ?_ hD (fun e a b => absurd b (by omega)))
  rw [Nat.sub_self, Nat.pow_zero, Nat.one_mul]
theorem rx_find {post : Int32 → SX → Prop} {q k L : Nat} {l n tc : Int32} {S st tp : Nat → Int32} (hok : rl_ok q k) (hL : L ≤ k)
    (h1 : ∀ t tp', t < q ^ L → rl_G q st k L t → (∀ t', t' < t → ¬ rl_G q st k L t') → rl_D q L t tp' → post 1 (nI q, l, n, nI k, nI L, S, st, tp'))
    (h0 : (∀ t, t < q ^ L → ¬ rl_G q st k L t) → ∀ tp', post 0 (nI q, l, n, nI k, nI L, S, st, tp')) :
    wpX_findGenerator post (nI q, l, n, nI k, tc, S, st, tp) (nI L) := by
  have hokL := rl_ok_le hok hL
  have hB := hokL.2.2
  have main : ∀ d t tp, t + d = q ^ L → rl_D q L t tp → (∀ t', t' < t → ¬ rl_G q st k L t') → wX_findGenerator_13 post (nI (q ^ L)) (d + 1) (nI t) (nI q) l n (nI k) (nI L) S st tp := by
    intro d
    induction d with
    | zero =>
      intro t tp ht hD hn
      exact br_t (nI_le (by omega) (by omega)) (h0 (fun t' a => hn t' (by omega)) tp)
    | succ d ih =>
      intro t tp ht hD hn
      refine br_f (nI_ge (by omega) (by omega)) (rx_gen hok hL (fun g => br_f (by decide) (h1 t tp (by omega) ((rl_G_D hD).mp g) hn hD)) (fun g => br_t rfl (rx_next hokL hD (fun tp' hD' => ?_))))
      refine nm_r (nI_1 t) (ih (t + 1) tp' (by omega) hD' ?_)
      intro t' a
      by_cases z : t' = t
      · rw [z]; exact fun g' => g ((rl_G_D hD).mpr g')
      · exact hn t' (by omega)
  unfold wpX_findGenerator
  dsimp only
  refine rx_pow hokL (rx_start hokL (fun tp' hD => ?_))
  exact Exists.intro (q ^ L + 1) (main (q ^ L) 0 tp' (by omega) hD (fun t' a => absurd a (by omega)))
theorem rx_least {post : SX → Prop} {q k : Nat} {l n tc : Int32} {S st tp : Nat → Int32} (hok : rl_ok q k)
    (h : ∀ L t tp', rl_ls q st k L t → rl_D q L t tp' → post (nI q, l, n, nI k, nI L, S, st, tp')) :
    wpX_findLeastRegister post (nI q, l, n, nI k, tc, S, st, tp) := by
  have hk14 := hok.2.1
  have main : ∀ d L tc tp, L + d = k + 1 → (∀ L', L' < L → ∀ t', t' < q ^ L' → ¬ rl_G q st k L' t') → wX_findLeastRegister_4 post (d + 1) 0 (nI L) (nI q) l n (nI k) tc S st tp := by
    intro d
    induction d with
    | zero =>
      intro L tc tp hL hn
      exact absurd (rl_G_full (Nat.le_refl k)) (hn k (by omega) 0 (rl_ok_pos hok))
    | succ d ih =>
      intro L tc tp hL hn
      refine br_f (nI_nlt (by omega) (by omega)) (br_t rfl (rx_find hok (by omega) (fun t tp' ht hg hl hD => ?_) (fun hg tp' => ?_)))
      · refine nm_r (nI_1 L) ?_
        have hp := h L t tp' ⟨by omega, ht, hg, hl, hn⟩ hD
        exact br_c (fun _ => hp) (fun _ => br_f (by decide) hp)
      · refine nm_r (nI_1 L) (ih (L + 1) _ tp' (by omega) ?_)
        intro L' a
        by_cases z : L' = L
        · rw [z]; exact hg
        · exact hn L' (by omega)
  exact Exists.intro (k + 2) (main (k + 1) 0 tc tp (by omega) (fun L' a => absurd a (by omega)))
theorem rx_count {post : Int32 → SX → Prop} {q k L : Nat} {l n tc : Int32} {S st tp : Nat → Int32} (hok : rl_ok q k) (hL : L ≤ k)
    (h : ∀ tp', post (rl_cn (rl_G q st k L) (q ^ L)) (nI q, l, n, nI k, nI L, S, st, tp')) :
    wpX_countGenerators post (nI q, l, n, nI k, tc, S, st, tp) (nI L) := by
  have hokL := rl_ok_le hok hL
  have hB := hokL.2.2
  have main : ∀ d t tp, t + d = q ^ L → rl_D q L t tp → wX_countGenerators_16 post (nI (q ^ L)) (d + 1) (rl_cn (rl_G q st k L) t) (nI t) (nI q) l n (nI k) (nI L) S st tp := by
    intro d
    induction d with
    | zero =>
      intro t tp ht hD
      have e : t = q ^ L := by omega
      rw [e]
      exact br_t (nI_le (by omega) (by omega)) (h tp)
    | succ d ih =>
      intro t tp ht hD
      refine br_f (nI_ge (by omega) (by omega)) (rx_gen hok hL (fun g => br_f (by decide) (nm_r (rl_cn_t ((rl_G_D hD).mp g)).symm ?_)) (fun g => br_t rfl ?_))
      · unfold wX_countGenerators_32
        exact rx_next hokL hD (fun tp' hD' => nm_r (nI_1 t) (ih (t + 1) tp' (by omega) hD'))
      · unfold wX_countGenerators_32
        rw [← rl_cn_f (fun g' => g ((rl_G_D hD).mpr g'))]
        exact rx_next hokL hD (fun tp' hD' => nm_r (nI_1 t) (ih (t + 1) tp' (by omega) hD'))
  unfold wpX_countGenerators
  dsimp only
  refine rx_pow hokL (rx_start hokL (fun tp' hD => ?_))
  exact Exists.intro (q ^ L + 1) (main (q ^ L) 0 tp' (by omega) hD)
theorem rx_study {post : SX → Prop} {q a b : Nat} {l n sl tc : Int32} {S st tp : Nat → Int32} (hab : a ≤ b) (hb : b ≤ 12)
    (h : ∀ st', (∀ j, j < b - a → st' j = S (a + j)) → post (nI q, l, n, nI (b - a), tc, S, st', tp)) :
    wpX_studyPart post (nI q, l, n, sl, tc, S, st, tp) (nI a) (nI b) := by
  have main : ∀ d j st, j + d = b - a → (∀ i, i < j → st i = S (a + i)) → wX_studyPart_9 post (nI a) (nI q) l n (nI (b - a)) tc (d + 1) (nI j) S st tp := by
    intro d
    induction d with
    | zero =>
      intro j st hj hs
      exact br_t (nI_le (by omega) (by omega)) (h st (fun i hi => hs i (by omega)))
    | succ d ih =>
      intro j st hj hs
      refine br_f (nI_ge (by omega) (by omega)) ⟨?_, vp_in_nI (by omega) (by omega), nm_r (e' := upd st j (S (a + j))) ?_ (nm_r (nI_1 j) (ih (j + 1) _ (by omega) ?_))⟩
      · rw [nI_add]; exact vp_in_nI (by omega) (by omega)
      · rw [nI_add, nI_clamp (by omega), nI_clamp (by omega)]
      · intro i hi
        by_cases z : i = j
        · rw [z, pk_us]
        · rw [pk_un z]; exact hs i (by omega)
  unfold wpX_studyPart
  dsimp only
  exact nm_r (pk_sub hab) (Exists.intro (b - a + 1) (main (b - a) 0 st (by omega) (fun i hi => absurd hi (by omega))))
