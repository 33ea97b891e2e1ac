section
theorem pk_us {f : Nat → Int32} {k : Nat} {x : Int32} : upd f k x k = x := if_pos rfl
theorem pk_un {f : Nat → Int32} {k j : Nat} {x : Int32} (h : j ≠ k) : upd f k x j = f j := if_neg h
theorem pk_sub {a b : Nat} (h : b ≤ a) : nI a - nI b = nI (a - b) := by
  obtain ⟨c, rfl⟩ : ∃ c, a = c + b := ⟨a - b, by omega⟩
  rw [← nI_add, Int32.add_sub_cancel, Nat.add_sub_cancel]
theorem pk_m1 (n : Nat) : nI (n + 1) + (-1) = nI n := by
  rw [← nI_1, Int32.add_assoc, show (1 : Int32) + (-1) = 0 from rfl, Int32.add_zero]
theorem pk_mul (a b : Nat) : nI a * nI b = nI (a * b) := (Int32.ofNat_mul a b).symm
theorem pk_div {a d : Nat} (ha : a < 2 ^ 31) (h0 : 0 < d) (hd : d < 2 ^ 31) : nI a / nI d = nI (a / d) := by
  apply Int32.toInt_inj.mp
  rw [lg_idiv_nonneg (by rw [nI_toInt ha]; omega) (by rw [nI_toInt hd]; omega), nI_toInt ha, nI_toInt hd, nI_toInt (Nat.lt_of_le_of_lt (Nat.div_le_self a d) ha)]
  first | rfl | exact (Int.natCast_ediv _ _).symm
theorem pk_rem {a d : Nat} (ha : a < 2 ^ 31) (h0 : 0 < d) (hd : d < 2 ^ 31) : nI a - nI a / nI d * nI d = nI (a % d) := by
  rw [pk_div ha h0 hd, pk_mul, pk_sub (Nat.div_mul_le_self a d)]
  exact congrArg nI (by have := Nat.div_add_mod' a d; omega)
/-! the pure pictures -/
/-- the sum of c i * f (p - i), i from 1 to L -/
def rl_sm (c f : Nat → Int32) (p : Nat) : Nat → Int32
  | 0 => 0
  | L + 1 => rl_sm c f p L + c (L + 1) * f (p - (L + 1))
/-- the remainder as it is printed -/
def rl_rm (q : Nat) (x : Int32) : Int32 := x - x / nI q * nI q
/-- the carried symbol -/
def rl_cs (q : Nat) (c f : Nat → Int32) (L p : Nat) : Int32 := rl_rm q (rl_sm c f p L)
/-- the register c of length L generates the first k of f -/
def rl_gn (q : Nat) (c f : Nat → Int32) (L k : Nat) : Prop := ∀ j, L ≤ j → j < k → rl_cs q c f L j = f j
/-- the digits of t to the base q, place L the lowest -/
def rl_dg (q L t : Nat) : Nat → Int32 := fun i => nI (t / q ^ (L - i) % q)
/-- taps hold the digits of t -/
def rl_D (q L t : Nat) (c : Nat → Int32) : Prop := ∀ i, 1 ≤ i → i ≤ L → c i = rl_dg q L t i
/-- the t-th register of length L generates -/
def rl_G (q : Nat) (f : Nat → Int32) (k L t : Nat) : Prop := rl_gn q (rl_dg q L t) f L k
/-- (L, t) is the first that generates -/
def rl_ls (q : Nat) (f : Nat → Int32) (k L t : Nat) : Prop :=
  L ≤ k ∧ t < q ^ L ∧ rl_G q f k L t ∧ (∀ t', t' < t → ¬ rl_G q f k L t') ∧ (∀ L', L' < L → ∀ t', t' < q ^ L' → ¬ rl_G q f k L' t')
/-- how many below n -/
noncomputable def rl_cn (P : Nat → Prop) : Nat → Int32
  | 0 => 0
  | n + 1 => @ite _ (P n) (Classical.propDecidable _) (rl_cn P n + 1) (rl_cn P n)
/-- what q and k may be -/
def rl_ok (q k : Nat) : Prop := (q = 2 ∨ q = 3 ∨ q = 5) ∧ k < 14 ∧ q ^ k < 2 ^ 31

theorem rl_ok_q {q k : Nat} (h : rl_ok q k) : 2 ≤ q ∧ q ≤ 5 := by
  obtain ⟨h, _⟩ := h
  omega
theorem rl_ok_le {q k L : Nat} (h : rl_ok q k) (hl : L ≤ k) : rl_ok q L := by
  have hq := rl_ok_q h
  obtain ⟨h1, h2, h3⟩ := h
  refine ⟨h1, by omega, Nat.lt_of_le_of_lt (Nat.pow_le_pow_right (by omega) hl) h3⟩
theorem rl_ok_pos {q k : Nat} (h : rl_ok q k) : 0 < q ^ k := Nat.pow_pos (by have := rl_ok_q h; omega)

theorem rl_sm_congr {c c' f f' : Nat → Int32} {p : Nat} : ∀ L, L ≤ p → (∀ i, 1 ≤ i → i ≤ L → c i = c' i) → (∀ j, j < p → f j = f' j) → rl_sm c f p L = rl_sm c' f' p L := by
  intro L
  induction L with
  | zero => intro _ _ _; rfl
  | succ L ih =>
    intro hL hc hf
    show rl_sm c f p L + c (L + 1) * f (p - (L + 1)) = rl_sm c' f' p L + c' (L + 1) * f' (p - (L + 1))
    rw [ih (by omega) (fun i h1 h2 => hc i h1 (by omega)) hf, hc (L + 1) (by omega) (by omega), hf (p - (L + 1)) (by omega)]
theorem rl_cs_congr {q : Nat} {c c' f f' : Nat → Int32} {L p : Nat} (hL : L ≤ p) (hc : ∀ i, 1 ≤ i → i ≤ L → c i = c' i) (hf : ∀ j, j < p → f j = f' j) : rl_cs q c f L p = rl_cs q c' f' L p := by
  show rl_rm q _ = rl_rm q _
  rw [rl_sm_congr L hL hc hf]
theorem rl_gn_congr {q : Nat} {c c' f f' : Nat → Int32} {L k : Nat} (hc : ∀ i, 1 ≤ i → i ≤ L → c i = c' i) (hf : ∀ j, j < k → f j = f' j) (h : rl_gn q c f L k) : rl_gn q c' f' L k := by
  intro j h1 h2
  rw [← hf j h2, ← h j h1 h2]
  exact (rl_cs_congr h1 hc (fun i hi => hf i (by omega))).symm
theorem rl_G_congr {q : Nat} {f f' : Nat → Int32} {k L t : Nat} (hf : ∀ j, j < k → f j = f' j) : rl_G q f k L t ↔ rl_G q f' k L t :=
  ⟨rl_gn_congr (fun _ _ _ => rfl) hf, rl_gn_congr (fun _ _ _ => rfl) (fun j hj => (hf j hj).symm)⟩
theorem rl_G_D {q : Nat} {f c : Nat → Int32} {k L t : Nat} (hc : rl_D q L t c) : rl_gn q c f L k ↔ rl_G q f k L t :=
  ⟨rl_gn_congr hc (fun _ _ => rfl), rl_gn_congr (fun i h1 h2 => (hc i h1 h2).symm) (fun _ _ => rfl)⟩
theorem rl_ls_congr {q : Nat} {f f' : Nat → Int32} {k L t : Nat} (hf : ∀ j, j < k → f j = f' j) (h : rl_ls q f k L t) : rl_ls q f' k L t := by
  obtain ⟨h1, h2, h3, h4, h5⟩ := h
  exact ⟨h1, h2, (rl_G_congr hf).mp h3, fun t' ht => fun g => h4 t' ht ((rl_G_congr hf).mpr g), fun L' hL t' ht => fun g => h5 L' hL t' ht ((rl_G_congr hf).mpr g)⟩
theorem rl_ls_uniq {q : Nat} {f : Nat → Int32} {k L t L' t' : Nat} (h : rl_ls q f k L t) (h' : rl_ls q f k L' t') : L' = L ∧ t' = t := by
  obtain ⟨h1, h2, h3, h4, h5⟩ := h
  obtain ⟨g1, g2, g3, g4, g5⟩ := h'
  have e : L' = L := by
    rcases Nat.lt_trichotomy L' L with z | z | z
    · exact absurd g3 (h5 L' z t' g2)
    · exact z
    · exact absurd h3 (g5 L z t h2)
  subst e
  refine ⟨rfl, ?_⟩
  rcases Nat.lt_trichotomy t' t with z | z | z
  · exact absurd g3 (h4 t' z)
  · exact z
  · exact absurd h3 (g4 t z)
theorem rl_G_full {q : Nat} {f : Nat → Int32} {k L t : Nat} (h : k ≤ L) : rl_G q f k L t := fun j h1 h2 => absurd h2 (by omega)
theorem rl_cn_congr {P Q : Nat → Prop} (h : ∀ t, P t ↔ Q t) (n : Nat) : rl_cn P n = rl_cn Q n := by
  have e : P = Q := funext fun t => propext (h t)
  rw [e]
theorem rl_cn_t {P : Nat → Prop} {n : Nat} (h : P n) : rl_cn P (n + 1) = rl_cn P n + 1 := by
  show @ite _ (P n) (Classical.propDecidable _) (rl_cn P n + 1) (rl_cn P n) = _
  exact if_pos h
theorem rl_cn_f {P : Nat → Prop} {n : Nat} (h : ¬ P n) : rl_cn P (n + 1) = rl_cn P n := by
  show @ite _ (P n) (Classical.propDecidable _) (rl_cn P n + 1) (rl_cn P n) = _
  exact if_neg h

/-! the digits -/
theorem rl_dg0 {q L i : Nat} : rl_dg q L 0 i = 0 := by
  show nI (0 / q ^ (L - i) % q) = 0
  rw [Nat.zero_div, Nat.zero_mod]
  exact nI_0
/-- a step's arithmetic: m - 1 and m by their last digit -/
theorem rl_carry {q m : Nat} (hq : 2 ≤ q) (hm : 0 < m) (h : q - 1 ≤ (m - 1) % q) : m % q = 0 := by
  have e : (m - 1) % q = q - 1 := by
    have := Nat.mod_lt (m - 1) (y := q) (by omega)
    omega
  have d := Nat.div_add_mod (m - 1) q
  have e2 : m = q * ((m - 1) / q + 1) := by rw [Nat.mul_add]; omega
  rw [e2]
  exact Nat.mul_mod_right q _
theorem rl_nocarry {q m : Nat} (hq : 2 ≤ q) (hm : 0 < m) (h : ¬ q - 1 ≤ (m - 1) % q) : m % q = (m - 1) % q + 1 ∧ m / q = (m - 1) / q := by
  have d := Nat.div_add_mod (m - 1) q
  have e2 : m = ((m - 1) % q + 1) + q * ((m - 1) / q) := by omega
  constructor
  · rw [e2, Nat.add_mul_mod_self_left, Nat.mod_eq_of_lt (by omega)]
    rw [← e2]
  · rw [e2, Nat.add_mul_div_left _ _ (by omega), Nat.div_eq_of_lt (by omega), Nat.zero_add]
    rw [← e2]
/-- t + 1 = P * m: t / P = m - 1 -/
theorem rl_pm {P m t : Nat} (h : t + 1 = P * m) : 0 < m ∧ 0 < P ∧ (t + 1) / P = m ∧ t / P = m - 1 := by
  have hm : 0 < m := by
    rcases Nat.eq_zero_or_pos m with z | z
    · rw [z, Nat.mul_zero] at h; omega
    · exact z
  have hP : 0 < P := by
    rcases Nat.eq_zero_or_pos P with z | z
    · rw [z, Nat.zero_mul] at h; omega
    · exact z
  refine ⟨hm, hP, by rw [h]; exact Nat.mul_div_cancel_left m hP, ?_⟩
  obtain ⟨w, rfl⟩ : ∃ w, m = w + 1 := ⟨m - 1, by omega⟩
  rw [Nat.mul_add, Nat.mul_one] at h
  have e : t = (P - 1) + P * w := by omega
  rw [e, Nat.add_mul_div_left _ _ hP, Nat.div_eq_of_lt (by omega), Nat.zero_add, Nat.add_sub_cancel]
end
section
/-! the component's own methods -/
theorem rx_carried {post : Int32 → Prop} {q L p : Nat} {l n sl : Int32} {S st tp : Nat → Int32} (hok : rl_ok q L) (hL : L ≤ p) (hp : p ≤ 53) (h : post (rl_cs q tp st L p)) : wpX_carriedSymbol post (nI q, l, n, sl, nI L, S, st, tp) (nI p) := by
  have hq := rl_ok_q hok
  have hL14 := hok.2.1
  have main : ∀ d e, e + d = L → wX_carriedSymbol_4 post (nI p) (nI q) l n sl (nI L) S st tp (d + 1) (rl_sm tp st p e) (nI (e + 1)) := by
    intro d
    induction d with
    | zero =>
      intro e he
      have he' : e = L := by omega
      subst he'
      exact br_t (nI_lt (by omega) (by omega)) ⟨nI_ne0 (by omega) (by omega), h⟩
    | succ d ih =>
      intro e he
      refine br_f (nI_nlt (by omega) (by omega)) ⟨vp_in_nI (by omega) (by omega), ?_, ?_⟩
      · rw [pk_sub (by omega)]
        exact vp_in_nI (by omega) (by omega)
      · refine nm_r (e' := rl_sm tp st p (e + 1)) ?_ (nm_r (nI_1 (e + 1)) (ih (e + 1) (by omega)))
        rw [pk_sub (by omega), nI_clamp (by omega), nI_clamp (by omega)]
        rfl
  exact Exists.intro (L + 1) (main L 0 (by omega))
theorem rx_gen {post : Int32 → Prop} {q L k : Nat} {l n : Int32} {S st tp : Nat → Int32} (hok : rl_ok q k) (hL : L ≤ k) (h1 : rl_gn q tp st L k → post 1) (h0 : ¬ rl_gn q tp st L k → post 0) : wpX_generatesStudy post (nI q, l, n, nI k, nI L, S, st, tp) := by
  have hokL := rl_ok_le hok hL
  have hk14 := hok.2.1
  have main : ∀ d j, j + d = k → L ≤ j → (∀ i, L ≤ i → i < j → rl_cs q tp st L i = st i) → wX_generatesStudy_5 post (nI q) l n (nI k) (nI L) S st tp (d + 1) (nI j) := by
    intro d
    induction d with
    | zero =>
      intro j hj hLj hg
      exact br_t (nI_le (by omega) (by omega)) (h1 (fun i a b => hg i a (by omega)))
    | succ d ih =>
      intro j hj hLj hg
      refine br_f (nI_ge (by omega) (by omega)) ⟨vp_in_nI (by omega) (by omega), ?_⟩
      refine rx_carried hokL hLj (by omega) ?_
      rw [nI_clamp (by omega)]
      refine br_c (fun e => nm_r (nI_1 j) (ih (j + 1) (by omega) (by omega) ?_)) (fun e => h0 (fun g => e (g j hLj (by omega)).symm))
      intro i a b
      by_cases z : i = j
      · rw [z]; exact e.symm
      · exact hg i a (by omega)
  exact Exists.intro (k - L + 1) (main (k - L) L (by omega) (Nat.le_refl _) (fun i a b => absurd b (by omega)))
theorem rx_pow {post : Int32 → Prop} {q L : Nat} {l n sl tc : Int32} {S st tp : Nat → Int32} (hok : rl_ok q L) (h : post (nI (q ^ L))) : wpX_registersOfLength post (nI q, l, n, sl, tc, S, st, tp) (nI L) := by
  have hL14 := hok.2.1
  have main : ∀ d e, e + d = L → wX_registersOfLength_4 post (nI L) (nI q) l n sl tc S st tp (d + 1) (nI (q ^ e)) (nI (e + 1)) := by
    intro d
    induction d with
    | zero =>
      intro e he
      have he' : e = L := by omega
      subst he'
      exact br_t (nI_lt (by omega) (by omega)) h
    | succ d ih =>
      intro e he
      exact br_f (nI_nlt (by omega) (by omega)) (nm_r (e' := nI (q ^ (e + 1))) (by rw [pk_mul, Nat.pow_succ]) (nm_r (nI_1 (e + 1)) (ih (e + 1) (by omega))))
  exact Exists.intro (L + 1) (main L 0 (by omega))
theorem rx_start {post : SX → Prop} {q L : Nat} {l n sl tc : Int32} {S st tp : Nat → Int32} (hok : rl_ok q L) (h : ∀ tp', rl_D q L 0 tp' → post (nI q, l, n, sl, nI L, S, st, tp')) : wpX_startRegisters post (nI q, l, n, sl, tc, S, st, tp) (nI L) := by
  have hL14 := hok.2.1
  have main : ∀ d e tp, e + d = L → (∀ i, 1 ≤ i → i ≤ e → tp i = rl_dg q L 0 i) → wX_startRegisters_7 post (nI L) (nI q) l n sl (nI L) (d + 1) (nI (e + 1)) S st tp := by
    intro d
    induction d with
    | zero =>
      intro e tp he hz
      exact br_t (nI_lt (by omega) (by omega)) (h tp (fun i a b => hz i a (by omega)))
    | succ d ih =>
      intro e tp he hz
      refine br_f (nI_nlt (by omega) (by omega)) ⟨vp_in_nI (by omega) (by omega), nm_r (e' := upd tp (e + 1) 0) (by rw [nI_clamp (by omega)]) (nm_r (nI_1 (e + 1)) (ih (e + 1) _ (by omega) ?_))⟩
      intro i a b
      by_cases z : i = e + 1
      · rw [z, pk_us, rl_dg0]
      · rw [pk_un z]; exact hz i a (by omega)
  exact Exists.intro (L + 1) (main L 0 tp (by omega) (fun i a b => absurd b (by omega)))
theorem rx_next {post : SX → Prop} {q L t : Nat} {l n sl : Int32} {S st tp : Nat → Int32} (hok : rl_ok q L) (hD : rl_D q L t tp) (h : ∀ tp', rl_D q L (t + 1) tp' → post (nI q, l, n, sl, nI L, S, st, tp')) : wpX_nextRegister post (nI q, l, n, sl, nI L, S, st, tp) := by
  have hL14 := hok.2.1
  have hq := rl_ok_q hok
  have main : ∀ i, i ≤ L → ∀ m tp, t + 1 = q ^ (L - i) * m → (∀ e, 1 ≤ e → e ≤ i → tp e = rl_dg q L t e) → (∀ e, i < e → e ≤ L → tp e = rl_dg q L (t + 1) e) → wX_nextRegister_5 post (nI q) l n sl (nI L) (i + 1) (nI i) S st tp := by
    intro i
    induction i with
    | zero =>
      intro hi m tp hm ha hb
      exact br_t (nI_lt (a := 0) (b := 1) (by omega) (by omega)) (h tp (fun e h1 h2 => hb e (by omega) h2))
    | succ i ih =>
      intro hi m tp hm ha hb
      refine br_f (nI_nlt (a := i + 1) (b := 1) (by omega) (by omega)) ⟨vp_in_nI (by omega) (by omega), ?_⟩
      have e1 : tp (nI (i + 1)).toNatClampNeg = nI (t / q ^ (L - (i + 1)) % q) := by
        rw [nI_clamp (by omega)]; exact ha (i + 1) (by omega) (by omega)
      have e2 : nI q - 1 = nI (q - 1) := by
        obtain ⟨w, rfl⟩ : ∃ w, q = w + 1 := ⟨q - 1, by omega⟩
        exact nI_pred w
      obtain ⟨m0, P0, d1, d2⟩ := rl_pm hm
      have pw : q ^ (L - i) = q ^ (L - (i + 1)) * q := by
        rw [← Nat.pow_succ]
        exact congrArg (fun z => q ^ z) (by omega)
      have ml : t / q ^ (L - (i + 1)) % q < q := Nat.mod_lt _ (by omega)
      rw [e1, e2, nI_leI (by omega) (by omega)]
      by_cases hc : q - 1 ≤ t / q ^ (L - (i + 1)) % q
      · refine br_t hc ⟨vp_in_nI (by omega) (by omega), nm_r (e' := upd tp (i + 1) 0) (by rw [nI_clamp (by omega)]) (nm_r (pk_m1 i) ?_)⟩
        rw [d2] at hc
        have mz := rl_carry hq.1 m0 hc
        refine ih (by omega) (m / q) _ ?_ ?_ ?_
        · rw [pw, Nat.mul_assoc, Nat.mul_div_cancel' (Nat.dvd_of_mod_eq_zero mz)]; exact hm
        · intro e a b
          rw [pk_un (by omega)]; exact ha e a (by omega)
        · intro e a b
          by_cases z : e = i + 1
          · rw [z, pk_us]
            show 0 = nI ((t + 1) / q ^ (L - (i + 1)) % q)
            rw [d1, mz]
            exact nI_0.symm
          · rw [pk_un z]; exact hb e (by omega) b
      · refine br_f hc ⟨vp_in_nI (by omega) (by omega), vp_in_nI (by omega) (by omega), nm_r (e' := upd tp (i + 1) (nI (t / q ^ (L - (i + 1)) % q + 1))) (by rw [nI_clamp (by omega), nI_1]) (h _ ?_)⟩
        rw [d2] at hc
        obtain ⟨n1, n2⟩ := rl_nocarry hq.1 m0 hc
        intro e a b
        by_cases z : e = i + 1
        · rw [z, pk_us]
          show _ = nI ((t + 1) / q ^ (L - (i + 1)) % q)
          rw [d1, d2, n1]
        · rw [pk_un z]
          by_cases z2 : i + 1 < e
          · exact hb e z2 b
          · rw [ha e a (by omega)]
            show nI (t / q ^ (L - e) % q) = nI ((t + 1) / q ^ (L - e) % q)
            have pe : q ^ (L - e) = q ^ (L - (i + 1)) * (q * q ^ (i - e)) := by
              rw [← Nat.mul_assoc, ← Nat.pow_succ, ← Nat.pow_add]
              exact congrArg (fun z => q ^ z) (by omega)
            rw [pe, ← Nat.div_div_eq_div_mul, ← Nat.div_div_eq_div_mul, ← Nat.div_div_eq_div_mul, ← Nat.div_div_eq_div_mul, d1, d2, n2]
  refine Exists.intro (L + 1) (main L (Nat.le_refl _) (t + 1) tp ?_ hD (fun e a b => absurd b (by omega)))
  rw [Nat.sub_self, Nat.pow_zero, Nat.one_mul]
theorem rx_find {post : Int32 → SX → Prop} {q k L : Nat} {l n tc : Int32} {S st tp : Nat → Int32} (hok : rl_ok q k) (hL : L ≤ k)
    (h1 : ∀ t tp', t < q ^ L → rl_G q st k L t → (∀ t', t' < t → ¬ rl_G q st k L t') → rl_D q L t tp' → post 1 (nI q, l, n, nI k, nI L, S, st, tp'))
    (h0 : (∀ t, t < q ^ L → ¬ rl_G q st k L t) → ∀ tp', post 0 (nI q, l, n, nI k, nI L, S, st, tp')) :
    wpX_findGenerator post (nI q, l, n, nI k, tc, S, st, tp) (nI L) := by
  have hokL := rl_ok_le hok hL
  have hB := hokL.2.2
  have main : ∀ d t tp, t + d = q ^ L → rl_D q L t tp → (∀ t', t' < t → ¬ rl_G q st k L t') → wX_findGenerator_13 post (nI (q ^ L)) (d + 1) (nI t) (nI q) l n (nI k) (nI L) S st tp := by
    intro d
    induction d with
    | zero =>
      intro t tp ht hD hn
      exact br_t (nI_le (by omega) (by omega)) (h0 (fun t' a => hn t' (by omega)) tp)
    | succ d ih =>
      intro t tp ht hD hn
      refine br_f (nI_ge (by omega) (by omega)) (rx_gen hok hL (fun g => br_f (by decide) (h1 t tp (by omega) ((rl_G_D hD).mp g) hn hD)) (fun g => br_t rfl (rx_next hokL hD (fun tp' hD' => ?_))))
      refine nm_r (nI_1 t) (ih (t + 1) tp' (by omega) hD' ?_)
      intro t' a
      by_cases z : t' = t
      · rw [z]; exact fun g' => g ((rl_G_D hD).mpr g')
      · exact hn t' (by omega)
  unfold wpX_findGenerator
  dsimp only
  refine rx_pow hokL (rx_start hokL (fun tp' hD => ?_))
  exact Exists.intro (q ^ L + 1) (main (q ^ L) 0 tp' (by omega) hD (fun t' a => absurd a (by omega)))
theorem rx_least {post : SX → Prop} {q k : Nat} {l n tc : Int32} {S st tp : Nat → Int32} (hok : rl_ok q k)
    (h : ∀ L t tp', rl_ls q st k L t → rl_D q L t tp' → post (nI q, l, n, nI k, nI L, S, st, tp')) :
    wpX_findLeastRegister post (nI q, l, n, nI k, tc, S, st, tp) := by
  have hk14 := hok.2.1
  have main : ∀ d L tc tp, L + d = k + 1 → (∀ L', L' < L → ∀ t', t' < q ^ L' → ¬ rl_G q st k L' t') → wX_findLeastRegister_4 post (d + 1) 0 (nI L) (nI q) l n (nI k) tc S st tp := by
    intro d
    induction d with
    | zero =>
      intro L tc tp hL hn
      exact absurd (rl_G_full (Nat.le_refl k)) (hn k (by omega) 0 (rl_ok_pos hok))
    | succ d ih =>
      intro L tc tp hL hn
      refine br_f (nI_nlt (by omega) (by omega)) (br_t rfl (rx_find hok (by omega) (fun t tp' ht hg hl hD => ?_) (fun hg tp' => ?_)))
      · refine nm_r (nI_1 L) ?_
        have hp := h L t tp' ⟨by omega, ht, hg, hl, hn⟩ hD
        exact br_c (fun _ => hp) (fun _ => br_f (by decide) hp)
      · refine nm_r (nI_1 L) (ih (L + 1) _ tp' (by omega) ?_)
        intro L' a
        by_cases z : L' = L
        · rw [z]; exact hg
        · exact hn L' (by omega)
  exact Exists.intro (k + 2) (main (k + 1) 0 tc tp (by omega) (fun L' a => absurd a (by omega)))
theorem rx_count {post : Int32 → SX → Prop} {q k L : Nat} {l n tc : Int32} {S st tp : Nat → Int32} (hok : rl_ok q k) (hL : L ≤ k)
    (h : ∀ tp', post (rl_cn (rl_G q st k L) (q ^ L)) (nI q, l, n, nI k, nI L, S, st, tp')) :
    wpX_countGenerators post (nI q, l, n, nI k, tc, S, st, tp) (nI L) := by
  have hokL := rl_ok_le hok hL
  have hB := hokL.2.2
  have main : ∀ d t tp, t + d = q ^ L → rl_D q L t tp → wX_countGenerators_16 post (nI (q ^ L)) (d + 1) (rl_cn (rl_G q st k L) t) (nI t) (nI q) l n (nI k) (nI L) S st tp := by
    intro d
    induction d with
    | zero =>
      intro t tp ht hD
      have e : t = q ^ L := by omega
      rw [e]
      exact br_t (nI_le (by omega) (by omega)) (h tp)
    | succ d ih =>
      intro t tp ht hD
      refine br_f (nI_ge (by omega) (by omega)) (rx_gen hok hL (fun g => br_f (by decide) (nm_r (rl_cn_t ((rl_G_D hD).mp g)).symm ?_)) (fun g => br_t rfl ?_))
      · unfold wX_countGenerators_32
        exact rx_next hokL hD (fun tp' hD' => nm_r (nI_1 t) (ih (t + 1) tp' (by omega) hD'))
      · unfold wX_countGenerators_32
        rw [← rl_cn_f (fun g' => g ((rl_G_D hD).mpr g'))]
        exact rx_next hokL hD (fun tp' hD' => nm_r (nI_1 t) (ih (t + 1) tp' (by omega) hD'))
  unfold wpX_countGenerators
  dsimp only
  refine rx_pow hokL (rx_start hokL (fun tp' hD => ?_))
  exact Exists.intro (q ^ L + 1) (main (q ^ L) 0 tp' (by omega) hD)
theorem rx_study {post : SX → Prop} {q a b : Nat} {l n sl tc : Int32} {S st tp : Nat → Int32} (hab : a ≤ b) (hb : b ≤ 12)
    (h : ∀ st', (∀ j, j < b - a → st' j = S (a + j)) → post (nI q, l, n, nI (b - a), tc, S, st', tp)) :
    wpX_studyPart post (nI q, l, n, sl, tc, S, st, tp) (nI a) (nI b) := by
  have main : ∀ d j st, j + d = b - a → (∀ i, i < j → st i = S (a + i)) → wX_studyPart_9 post (nI a) (nI q) l n (nI (b - a)) tc (d + 1) (nI j) S st tp := by
    intro d
    induction d with
    | zero =>
      intro j st hj hs
      exact br_t (nI_le (by omega) (by omega)) (h st (fun i hi => hs i (by omega)))
    | succ d ih =>
      intro j st hj hs
      refine br_f (nI_ge (by omega) (by omega)) ⟨?_, vp_in_nI (by omega) (by omega), nm_r (e' := upd st j (S (a + j))) ?_ (nm_r (nI_1 j) (ih (j + 1) _ (by omega) ?_))⟩
      · rw [nI_add]; exact vp_in_nI (by omega) (by omega)
      · rw [nI_add, nI_clamp (by omega), nI_clamp (by omega)]
      · intro i hi
        by_cases z : i = j
        · rw [z, pk_us]
        · rw [pk_un z]; exact hs i (by omega)
  unfold wpX_studyPart
  dsimp only
  exact nm_r (pk_sub hab) (Exists.intro (b - a + 1) (main (b - a) 0 st (by omega) (fun i hi => absurd hi (by omega))))
end
section
/-! the reference's own methods -/
theorem ry_rest {post : Int32 → Prop} {q : Nat} {l n : Int32} {s row c : Nat → Int32} {x : Int32} (hq : q = 2 ∨ q = 3 ∨ q = 5) (h : post (rl_rm q x)) : wpY_rest post (nI q, l, n, s, row, c) x := by
  rcases hq with rfl | rfl | rfl
  · exact br_t rfl ⟨by decide, h⟩
  · exact br_f (by decide) (br_t rfl ⟨by decide, h⟩)
  · exact br_f (by decide) (br_f (by decide) ⟨by decide, h⟩)
theorem ry_part {post : Int32 → Prop} {q : Nat} {l n : Int32} {s row c : Nat → Int32} {x : Int32} (hq : q = 2 ∨ q = 3 ∨ q = 5) (h : post (x / nI q)) : wpY_part post (nI q, l, n, s, row, c) x := by
  rcases hq with rfl | rfl | rfl
  · exact br_t rfl ⟨by decide, h⟩
  · exact br_f (by decide) (br_t rfl ⟨by decide, h⟩)
  · exact br_f (by decide) (br_f (by decide) ⟨by decide, h⟩)
theorem ry_pow {post : Int32 → Prop} {q L : Nat} {l n : Int32} {s row c : Nat → Int32} (hok : rl_ok q L) (h : post (nI (q ^ L))) : wpY_power post (nI q, l, n, s, row, c) (nI L) := by
  have hL14 := hok.2.1
  have main : ∀ d e, e + d = L → wY_power_4 post (nI L) (nI q) l n s row c (d + 1) (nI (q ^ e)) (nI e) := by
    intro d
    induction d with
    | zero =>
      intro e he
      have he' : e = L := by omega
      subst he'
      exact br_t (nI_le (by omega) (by omega)) h
    | succ d ih =>
      intro e he
      exact br_f (nI_ge (by omega) (by omega)) (nm_r (e' := nI (q ^ (e + 1))) (by rw [pk_mul, Nat.pow_succ]) (nm_r (nI_1 e) (ih (e + 1) (by omega))))
  exact Exists.intro (L + 1) (main L 0 (by omega))
theorem ry_spell {post : SY → Prop} {q L t : Nat} {l n : Int32} {s row c : Nat → Int32} (hok : rl_ok q L) (ht : t < 2 ^ 31) (h : ∀ c', rl_D q L t c' → post (nI q, l, n, s, row, c')) : wpY_spell post (nI q, l, n, s, row, c) (nI t) (nI L) := by
  have hL14 := hok.2.1
  have hq := rl_ok_q hok
  have main : ∀ i, i ≤ L → ∀ c, (∀ e, i < e → e ≤ L → c e = rl_dg q L t e) → wY_spell_5 post (nI q) l n (i + 1) (nI (t / q ^ (L - i))) (nI i) s row c := by
    intro i
    induction i with
    | zero =>
      intro hi c hc
      exact br_t (nI_lt (a := 0) (b := 1) (by omega) (by omega)) (h c (fun e h1 h2 => hc e (by omega) h2))
    | succ i ih =>
      intro hi c hc
      have tl : t / q ^ (L - (i + 1)) < 2 ^ 31 := Nat.lt_of_le_of_lt (Nat.div_le_self _ _) ht
      have pw : t / q ^ (L - (i + 1)) / q = t / q ^ (L - i) := by
        rw [Nat.div_div_eq_div_mul, ← Nat.pow_succ]
        exact congrArg (fun z => t / q ^ z) (by omega)
      refine br_f (nI_nlt (a := i + 1) (b := 1) (by omega) (by omega)) (ry_rest hok.1 ⟨vp_in_nI (by omega) (by omega), nm_r (e' := upd c (i + 1) (rl_dg q L t (i + 1))) ?_ (ry_part hok.1 (nm_r (pk_m1 i) ?_))⟩)
      · rw [nI_clamp (by omega)]
        exact congrArg (upd c (i + 1)) (pk_rem tl (by omega) (by omega))
      · rw [pk_div tl (by omega) (by omega), pw]
        refine ih (by omega) _ ?_
        intro e a b
        by_cases z : e = i + 1
        · rw [z, pk_us]
        · rw [pk_un z]; exact hc e (by omega) b
  have m := main L (Nat.le_refl _) c (fun e a b => absurd b (by omega))
  rw [Nat.sub_self, Nat.pow_zero, Nat.div_one] at m
  exact Exists.intro (L + 1) m
theorem ry_sum {post : Int32 → Prop} {q L p : Nat} {l n : Int32} {s row c : Nat → Int32} (hok : rl_ok q L) (hL : L ≤ p) (hp : p ≤ 60) (h : post (rl_cs q c row L p)) : wpY_sum post (nI q, l, n, s, row, c) (nI p) (nI L) := by
  have hL14 := hok.2.1
  have main : ∀ d e, e + d = L → wY_sum_5 post (nI p) (nI L) (nI q) l n s row c (d + 1) (rl_sm c row p e) (nI (e + 1)) := by
    intro d
    induction d with
    | zero =>
      intro e he
      have he' : e = L := by omega
      subst he'
      exact br_t (nI_lt (by omega) (by omega)) (ry_rest hok.1 h)
    | succ d ih =>
      intro e he
      refine br_f (nI_nlt (by omega) (by omega)) ⟨vp_in_nI (by omega) (by omega), ?_, ?_⟩
      · rw [pk_sub (by omega)]
        exact vp_in_nI (by omega) (by omega)
      · refine nm_r (e' := rl_sm c row p (e + 1)) ?_ (nm_r (nI_1 (e + 1)) (ih (e + 1) (by omega)))
        rw [pk_sub (by omega), nI_clamp (by omega), nI_clamp (by omega)]
        rfl
  exact Exists.intro (L + 1) (main L 0 (by omega))
theorem ry_gen {post : Int32 → Prop} {q L k : Nat} {l n : Int32} {s row c : Nat → Int32} (hok : rl_ok q k) (hL : L ≤ k) (h1 : rl_gn q c row L k → post 1) (h0 : ¬ rl_gn q c row L k → post 0) : wpY_generates post (nI q, l, n, s, row, c) (nI L) (nI k) := by
  have hokL := rl_ok_le hok hL
  have hk14 := hok.2.1
  have main : ∀ d j, j + d = k → L ≤ j → (∀ i, L ≤ i → i < j → rl_cs q c row L i = row i) → wY_generates_2 post (nI L) (nI k) (nI q) l n s row c (d + 1) (nI j) := by
    intro d
    induction d with
    | zero =>
      intro j hj hLj hg
      exact br_t (nI_le (by omega) (by omega)) (h1 (fun i a b => hg i a (by omega)))
    | succ d ih =>
      intro j hj hLj hg
      refine br_f (nI_ge (by omega) (by omega)) (ry_sum hokL hLj (by omega) ⟨vp_in_nI (by omega) (by omega), ?_⟩)
      rw [nI_clamp (by omega)]
      refine br_c (fun e => nm_r (nI_1 j) (ih (j + 1) (by omega) (by omega) ?_)) (fun e => h0 (fun g => e (g j hLj (by omega))))
      intro i a b
      by_cases z : i = j
      · rw [z]; exact e
      · exact hg i a (by omega)
  exact Exists.intro (k - L + 1) (main (k - L) L (by omega) (Nat.le_refl _) (fun i a b => absurd b (by omega)))
theorem ry_least {post : Int32 → SY → Prop} {q k : Nat} {l n : Int32} {s row c : Nat → Int32} (hok : rl_ok q k)
    (h : ∀ L t c', rl_ls q row k L t → rl_D q L t c' → post (nI L) (nI q, l, n, s, row, c')) :
    wpY_least post (nI q, l, n, s, row, c) (nI k) := by
  have hk14 := hok.2.1
  have inner : ∀ L, L < k → (∀ L', L' < L → ∀ t', t' < q ^ L' → ¬ rl_G q row k L' t') → ∀ J2 : Int32 → Int32 → Int32 → Int32 → (Nat → Int32) → (Nat → Int32) → (Nat → Int32) → Prop, (∀ c', (∀ t', t' < q ^ L → ¬ rl_G q row k L t') → J2 (nI (L + 1)) (nI q) l n s row c') → ∀ d t c, t + d = q ^ L → (∀ t', t' < t → ¬ rl_G q row k L t') → wY_least_16 post J2 (nI k) (nI L) (nI (q ^ L)) (d + 1) (nI t) (nI q) l n s row c := by
    intro L hL hn J2 hJ d
    have hokL := rl_ok_le hok (Nat.le_of_lt hL)
    have hB := hokL.2.2
    induction d with
    | zero =>
      intro t c ht hg
      exact br_t (nI_le (by omega) (by omega)) (nm_r (nI_1 L) (hJ c (fun t' a => hg t' (by omega))))
    | succ d ih =>
      intro t c ht hg
      refine br_f (nI_ge (by omega) (by omega)) (ry_spell hokL (by omega) (fun c' hD => ?_))
      refine ry_gen hok (Nat.le_of_lt hL) (fun g => br_f (by decide) (h L t c' ⟨Nat.le_of_lt hL, by omega, (rl_G_D hD).mp g, hg, hn⟩ hD)) (fun g => br_t rfl (nm_r (nI_1 t) (ih (t + 1) c' (by omega) ?_)))
      intro t' a
      by_cases z : t' = t
      · rw [z]; exact fun g' => g ((rl_G_D hD).mpr g')
      · exact hg t' (by omega)
  have main : ∀ d L c, L + d = k → (∀ L', L' < L → ∀ t', t' < q ^ L' → ¬ rl_G q row k L' t') → wY_least_2 post (nI k) (d + 1) (nI L) (nI q) l n s row c := by
    intro d
    induction d with
    | zero =>
      intro L c hL hn
      have e : L = k := by omega
      subst e
      refine br_t (nI_le (by omega) (by omega)) (ry_spell (t := 0) hok (by omega) (fun c' hD => ?_))
      exact h L 0 c' ⟨Nat.le_refl _, rl_ok_pos hok, rl_G_full (Nat.le_refl _), fun t' a => absurd a (by omega), hn⟩ hD
    | succ d ih =>
      intro L c hL hn
      have hokL := rl_ok_le hok (show L ≤ k by omega)
      refine br_f (nI_ge (by omega) (by omega)) (ry_pow hokL (Exists.intro (q ^ L + 1) (inner L (by omega) hn _ (fun c' hg => ih (L + 1) c' (by omega) ?_) (q ^ L) 0 c (by omega) (fun t' a => absurd a (by omega)))))
      intro L' a
      by_cases z : L' = L
      · rw [z]; exact hg
      · exact hn L' (by omega)
  exact Exists.intro (k + 1) (main k 0 c (by omega) (fun L' a => absurd a (by omega)))
theorem ry_whole {post : SY → Prop} {q n : Nat} {l : Int32} {s row c : Nat → Int32} (hn : n ≤ 12)
    (h : ∀ row', (∀ j, j < n → row' j = s j) → post (nI q, l, nI n, s, row', c)) :
    wpY_whole post (nI q, l, nI n, s, row, c) := by
  have main : ∀ d j row, j + d = n → (∀ i, i < j → row i = s i) → wY_whole_2 post (nI q) l (nI n) (d + 1) (nI j) s row c := by
    intro d
    induction d with
    | zero =>
      intro j row hj hs
      exact br_t (nI_le (by omega) (by omega)) (h row (fun i hi => hs i (by omega)))
    | succ d ih =>
      intro j row hj hs
      refine br_f (nI_ge (by omega) (by omega)) ⟨vp_in_nI (by omega) (by omega), vp_in_nI (by omega) (by omega), nm_r (e' := upd row j (s j)) ?_ (nm_r (nI_1 j) (ih (j + 1) _ (by omega) ?_))⟩
      · rw [nI_clamp (by omega)]
      · intro i hi
        by_cases z : i = j
        · rw [z, pk_us]
        · rw [pk_un z]; exact hs i (by omega)
  exact Exists.intro (n + 1) (main n 0 row (by omega) (fun i hi => absurd hi (by omega)))
theorem ry_count {post : Int32 → SY → Prop} {q n L : Nat} {l : Int32} {s row c : Nat → Int32} (hok : rl_ok q n) (hL : L ≤ n)
    (h : ∀ c', post (rl_cn (rl_G q row n L) (q ^ L)) (nI q, l, nI n, s, row, c')) :
    ∃ n24 : Nat, wY_registers_24 post (nI L) (nI (q ^ L)) n24 0 0 (nI q) l (nI n) s row c := by
  have hokL := rl_ok_le hok hL
  have hB := hokL.2.2
  have main : ∀ d t c, t + d = q ^ L → wY_registers_24 post (nI L) (nI (q ^ L)) (d + 1) (rl_cn (rl_G q row n L) t) (nI t) (nI q) l (nI n) s row c := by
    intro d
    induction d with
    | zero =>
      intro t c ht
      have e : t = q ^ L := by omega
      rw [e]
      exact br_t (nI_le (by omega) (by omega)) (h c)
    | succ d ih =>
      intro t c ht
      refine br_f (nI_ge (by omega) (by omega)) (ry_spell hokL (by omega) (fun c' hD => ?_))
      refine ry_gen hok hL (fun g => br_f (by decide) (nm_r (rl_cn_t ((rl_G_D hD).mp g)).symm (nm_r (nI_1 t) (ih (t + 1) c' (by omega))))) (fun g => br_t rfl (nm_r (e' := rl_cn (rl_G q row n L) (t + 1)) ?_ (nm_r (nI_1 t) (ih (t + 1) c' (by omega)))))
      rw [rl_cn_f (fun g' => g ((rl_G_D hD).mpr g')), Int32.add_zero]
  exact Exists.intro (q ^ L + 1) (main (q ^ L) 0 c (by omega))
end
section
/-! the loops of the questions, and what is unique -/
/-- the first place from k on at which the carried symbol is another -/
def rl_hu (q : Nat) (c S : Nat → Int32) (L k n r : Nat) : Prop :=
  k ≤ r ∧ r ≤ n ∧ (∀ p, k ≤ p → p < r → rl_cs q c S L p = S p) ∧ (r < n → ¬ rl_cs q c S L r = S r)
theorem rl_hu_uniq {q : Nat} {c c' S : Nat → Int32} {L k n r r' : Nat} (hL : L ≤ k) (hc : ∀ i, 1 ≤ i → i ≤ L → c i = c' i) (h : rl_hu q c S L k n r) (h' : rl_hu q c' S L k n r') : r' = r := by
  obtain ⟨a1, a2, a3, a4⟩ := h
  obtain ⟨b1, b2, b3, b4⟩ := h'
  have e : ∀ p, k ≤ p → rl_cs q c S L p = rl_cs q c' S L p := fun p hp => rl_cs_congr (by omega) hc (fun _ _ => rfl)
  rcases Nat.lt_trichotomy r' r with z | z | z
  · exact absurd ((e r' b1).symm.trans (a3 r' b1 z)) (b4 (by omega))
  · exact z
  · exact absurd ((e r a1).trans (b3 r a1 z)) (a4 (by omega))
theorem rl_ext_uniq {q : Nat} {c c' f g : Nat → Int32} {L n m : Nat} (hL : L ≤ n) (hc : ∀ i, 1 ≤ i → i ≤ L → c i = c' i) (h0 : ∀ i, i < n → f i = g i)
    (hf : ∀ p, n ≤ p → p ≤ m → f p = rl_cs q c f L p) (hg : ∀ p, n ≤ p → p ≤ m → g p = rl_cs q c' g L p) : ∀ p, p ≤ m → f p = g p := by
  intro p
  induction p using Nat.strongRecOn with
  | ind p ih =>
    intro hp
    by_cases z : p < n
    · exact h0 p z
    · rw [hf p (by omega) hp, hg p (by omega) hp]
      exact rl_cs_congr (by omega) hc (fun j hj => ih j hj (by omega))
theorem rl_D2 {q L t : Nat} {c c' : Nat → Int32} (h : rl_D q L t c) (h' : rl_D q L t c') : ∀ i, 1 ≤ i → i ≤ L → c i = c' i := fun i a b => (h i a b).trans (h' i a b).symm

theorem rx_predict {post : Int32 → SX → Prop} {q n j L : Nat} {l sl : Int32} {S st tp : Nat → Int32} (hok : rl_ok q L) (hL : L ≤ n) (hn : n ≤ 12) (hj : j ≤ 40)
    (h : ∀ st', (∀ i, i < n → st' i = st i) → (∀ p, n ≤ p → p ≤ n + j → st' p = rl_cs q tp st' L p) → post (st' (n + j)) (nI q, l, nI n, sl, nI L, S, st', tp)) :
    ∃ n30 : Nat, wX_predict_30 post (nI j) (nI q) l (nI n) sl (nI L) n30 (nI n) S st tp := by
  have main : ∀ d p st2, p + d = n + j + 1 → n ≤ p → (∀ i, i < n → st2 i = st i) → (∀ p', n ≤ p' → p' < p → st2 p' = rl_cs q tp st2 L p') → wX_predict_30 post (nI j) (nI q) l (nI n) sl (nI L) (d + 1) (nI p) S st2 tp := by
    intro d
    induction d with
    | zero =>
      intro p st2 hp hnp h0 h1
      unfold wX_predict_30
      rw [nI_add]
      refine br_t (nI_lt (by omega) (by omega)) ⟨vp_in_nI (by omega) (by omega), ?_⟩
      rw [nI_clamp (by omega)]
      exact h st2 h0 (fun p' a b => h1 p' a (by omega))
    | succ d ih =>
      intro p st2 hp hnp h0 h1
      unfold wX_predict_30
      rw [nI_add]
      refine br_f (nI_nlt (by omega) (by omega)) (rx_carried hok (by omega) (by omega) ⟨vp_in_nI (by omega) (by omega), nm_r (e' := upd st2 p (rl_cs q tp st2 L p)) (by rw [nI_clamp (by omega)]) (nm_r (nI_1 p) (ih (p + 1) _ (by omega) (by omega) ?_ ?_))⟩)
      · intro i hi
        rw [pk_un (by omega)]; exact h0 i hi
      · intro p' a b
        have e : rl_cs q tp (upd st2 p (rl_cs q tp st2 L p)) L p' = rl_cs q tp st2 L p' := rl_cs_congr (by omega) (fun _ _ _ => rfl) (fun i hi => pk_un (by omega))
        rw [e]
        by_cases z : p' = p
        · rw [z, pk_us]
        · rw [pk_un z]; exact h1 p' a (by omega)
  exact Exists.intro (j + 1 + 1) (main (j + 1) n st (by omega) (Nat.le_refl _) (fun _ _ => rfl) (fun p' a b => absurd b (by omega)))
theorem ry_predict {post : Int32 → SY → Prop} {q n j L : Nat} {l : Int32} {s row c : Nat → Int32} (hok : rl_ok q L) (hL : L ≤ n) (hn : n ≤ 12) (hj : j ≤ 40)
    (h : ∀ row', (∀ i, i < n → row' i = row i) → (∀ p, n ≤ p → p ≤ n + j → row' p = rl_cs q c row' L p) → post (row' (n + j)) (nI q, l, nI n, s, row', c)) :
    ∃ n30 : Nat, wY_predict_30 post (nI j) (nI L) (nI q) l (nI n) n30 (nI n) s row c := by
  have main : ∀ d p row2, p + d = n + j + 1 → n ≤ p → (∀ i, i < n → row2 i = row i) → (∀ p', n ≤ p' → p' < p → row2 p' = rl_cs q c row2 L p') → wY_predict_30 post (nI j) (nI L) (nI q) l (nI n) (d + 1) (nI p) s row2 c := by
    intro d
    induction d with
    | zero =>
      intro p row2 hp hnp h0 h1
      unfold wY_predict_30
      rw [nI_add]
      refine br_t (nI_lt (by omega) (by omega)) ⟨vp_in_nI (by omega) (by omega), ?_⟩
      rw [nI_clamp (by omega)]
      exact h row2 h0 (fun p' a b => h1 p' a (by omega))
    | succ d ih =>
      intro p row2 hp hnp h0 h1
      unfold wY_predict_30
      rw [nI_add]
      refine br_f (nI_nlt (by omega) (by omega)) (ry_sum hok (by omega) (by omega) ⟨vp_in_nI (by omega) (by omega), nm_r (e' := upd row2 p (rl_cs q c row2 L p)) (by rw [nI_clamp (by omega)]) (nm_r (nI_1 p) (ih (p + 1) _ (by omega) (by omega) ?_ ?_))⟩)
      · intro i hi
        rw [pk_un (by omega)]; exact h0 i hi
      · intro p' a b
        have e : rl_cs q c (upd row2 p (rl_cs q c row2 L p)) L p' = rl_cs q c row2 L p' := rl_cs_congr (by omega) (fun _ _ _ => rfl) (fun i hi => pk_un (by omega))
        rw [e]
        by_cases z : p' = p
        · rw [z, pk_us]
        · rw [pk_un z]; exact h1 p' a (by omega)
  exact Exists.intro (j + 1 + 1) (main (j + 1) n row (by omega) (Nat.le_refl _) (fun _ _ => rfl) (fun p' a b => absurd b (by omega)))
theorem rx_holds {post : Int32 → SX → Prop} {q n k L : Nat} {l sl : Int32} {S st tp : Nat → Int32} (hok : rl_ok q L) (hL : L ≤ k) (hk : k ≤ n) (hn : n ≤ 12) (hs : ∀ i, i < k → st i = S i)
    (h : ∀ r st', rl_hu q tp S L k n r → post (nI r) (nI q, l, nI n, sl, nI L, S, st', tp)) :
    ∃ n26 : Nat, wX_holdsUntil_26 post (nI q) l (nI n) sl (nI L) n26 (nI k) S st tp := by
  have main : ∀ d p st2, p + d = n → k ≤ p → (∀ i, i < p → st2 i = S i) → (∀ p', k ≤ p' → p' < p → rl_cs q tp S L p' = S p') → wX_holdsUntil_26 post (nI q) l (nI n) sl (nI L) (d + 1) (nI p) S st2 tp := by
    intro d
    induction d with
    | zero =>
      intro p st2 hp hkp h0 h1
      exact br_t (nI_le (by omega) (by omega)) (h n st2 ⟨hk, Nat.le_refl _, fun p' a b => h1 p' a (by omega), fun z => absurd z (by omega)⟩)
    | succ d ih =>
      intro p st2 hp hkp h0 h1
      have e : rl_cs q tp st2 L p = rl_cs q tp S L p := rl_cs_congr (by omega) (fun _ _ _ => rfl) h0
      refine br_f (nI_ge (by omega) (by omega)) (rx_carried hok (by omega) (by omega) ⟨vp_in_nI (by omega) (by omega), nm_r (e' := upd st2 p (rl_cs q tp S L p)) (by rw [nI_clamp (by omega), e]) ⟨vp_in_nI (by omega) (by omega), vp_in_nI (by omega) (by omega), ?_⟩⟩)
      rw [nI_clamp (by omega), pk_us]
      refine br_c (fun z => nm_r (nI_1 p) (ih (p + 1) _ (by omega) (by omega) ?_ ?_)) (fun z => h p _ ⟨hkp, by omega, h1, fun _ => z⟩)
      · intro i hi
        by_cases zi : i = p
        · rw [zi, pk_us]; exact z
        · rw [pk_un zi]; exact h0 i (by omega)
      · intro p' a b
        by_cases zi : p' = p
        · rw [zi]; exact z
        · exact h1 p' a (by omega)
  exact Exists.intro (n - k + 1) (main (n - k) k st (by omega) (Nat.le_refl _) hs (fun p' a b => absurd b (by omega)))
theorem ry_holds {post : Int32 → SY → Prop} {q n k L : Nat} {l : Int32} {s row c : Nat → Int32} (hok : rl_ok q L) (hL : L ≤ k) (hk : k ≤ n) (hn : n ≤ 12) (hs : ∀ i, i < k → row i = s i)
    (h : ∀ r row', rl_hu q c s L k n r → post (nI r) (nI q, l, nI n, s, row', c)) :
    ∃ n26 : Nat, wY_holdsUntil_26 post (nI L) (nI q) l (nI n) n26 (nI k) s row c := by
  have main : ∀ d p row2, p + d = n → k ≤ p → (∀ i, i < p → row2 i = s i) → (∀ p', k ≤ p' → p' < p → rl_cs q c s L p' = s p') → wY_holdsUntil_26 post (nI L) (nI q) l (nI n) (d + 1) (nI p) s row2 c := by
    intro d
    induction d with
    | zero =>
      intro p row2 hp hkp h0 h1
      exact br_t (nI_le (by omega) (by omega)) (h n row2 ⟨hk, Nat.le_refl _, fun p' a b => h1 p' a (by omega), fun z => absurd z (by omega)⟩)
    | succ d ih =>
      intro p row2 hp hkp h0 h1
      have e : rl_cs q c row2 L p = rl_cs q c s L p := rl_cs_congr (by omega) (fun _ _ _ => rfl) h0
      refine br_f (nI_ge (by omega) (by omega)) (ry_sum hok (by omega) (by omega) ⟨vp_in_nI (by omega) (by omega), nm_r (e' := upd row2 p (rl_cs q c s L p)) (by rw [nI_clamp (by omega), e]) ⟨vp_in_nI (by omega) (by omega), vp_in_nI (by omega) (by omega), ?_⟩⟩)
      rw [nI_clamp (by omega), pk_us]
      refine br_c (fun z => nm_r (nI_1 p) (ih (p + 1) _ (by omega) (by omega) ?_ ?_)) (fun z => h p _ ⟨hkp, by omega, h1, fun _ => z⟩)
      · intro i hi
        by_cases zi : i = p
        · rw [zi, pk_us]; exact z
        · rw [pk_un zi]; exact h0 i (by omega)
      · intro p' a b
        by_cases zi : p' = p
        · rw [zi]; exact z
        · exact h1 p' a (by omega)
  exact Exists.intro (n - k + 1) (main (n - k) k row (by omega) (Nat.le_refl _) hs (fun p' a b => absurd b (by omega)))
theorem rx_back {post : Int32 → SX → Prop} {q n : Nat} {l sl tc : Int32} {S st tp : Nat → Int32} (hok : rl_ok q n) (hn : n ≤ 12)
    (h : ∀ st' L t tp', (∀ j, j < n → st' j = S (n - 1 - j)) → rl_ls q st' n L t → post (nI L) (nI q, l, nI n, nI n, nI L, S, st', tp')) :
    wpX_complexityBackwards post (nI q, l, nI n, sl, tc, S, st, tp) := by
  have main : ∀ d j st, j + d = n → (∀ i, i < j → st i = S (n - 1 - i)) → wX_complexityBackwards_2 post (nI q) l (nI n) sl tc (d + 1) (nI j) S st tp := by
    intro d
    induction d with
    | zero =>
      intro j st hj hs
      exact br_t (nI_le (by omega) (by omega)) (rx_least hok (fun L t tp' hl hD => h st L t tp' (fun i hi => hs i (by omega)) hl))
    | succ d ih =>
      intro j st hj hs
      have e1 : nI n - 1 - nI j = nI (n - 1 - j) := by
        obtain ⟨w, rfl⟩ : ∃ w, n = w + 1 := ⟨n - 1, by omega⟩
        rw [nI_pred, pk_sub (by omega)]
        rfl
      refine br_f (nI_ge (by omega) (by omega)) ⟨?_, vp_in_nI (by omega) (by omega), nm_r (e' := upd st j (S (n - 1 - j))) ?_ (nm_r (nI_1 j) (ih (j + 1) _ (by omega) ?_))⟩
      · rw [e1]; exact vp_in_nI (by omega) (by omega)
      · rw [e1, nI_clamp (by omega), nI_clamp (by omega)]
      · intro i hi
        by_cases z : i = j
        · rw [z, pk_us]
        · rw [pk_un z]; exact hs i (by omega)
  exact Exists.intro (n + 1) (main n 0 st (by omega) (fun i hi => absurd hi (by omega)))
theorem ry_back {post : Int32 → SY → Prop} {q n : Nat} {l : Int32} {s row c : Nat → Int32} (hok : rl_ok q n) (hn : n ≤ 12)
    (h : ∀ row' L t c', (∀ j, j < n → row' j = s (n - 1 - j)) → rl_ls q row' n L t → post (nI L) (nI q, l, nI n, s, row', c')) :
    wpY_complexityBackwards post (nI q, l, nI n, s, row, c) := by
  have main : ∀ d j row, j + d = n → (∀ i, i < j → row i = s (n - 1 - i)) → wY_complexityBackwards_2 post (nI q) l (nI n) (d + 1) (nI j) s row c := by
    intro d
    induction d with
    | zero =>
      intro j row hj hs
      exact br_t (nI_le (by omega) (by omega)) (ry_least hok (fun L t c' hl hD => h row L t c' (fun i hi => hs i (by omega)) hl))
    | succ d ih =>
      intro j row hj hs
      have e1 : nI n - 1 - nI j = nI (n - 1 - j) := by
        obtain ⟨w, rfl⟩ : ∃ w, n = w + 1 := ⟨n - 1, by omega⟩
        rw [nI_pred, pk_sub (by omega)]
        rfl
      refine br_f (nI_ge (by omega) (by omega)) ⟨?_, vp_in_nI (by omega) (by omega), nm_r (e' := upd row j (s (n - 1 - j))) ?_ (nm_r (nI_1 j) (ih (j + 1) _ (by omega) ?_))⟩
      · rw [e1]; exact vp_in_nI (by omega) (by omega)
      · rw [e1, nI_clamp (by omega), nI_clamp (by omega)]
      · intro i hi
        by_cases z : i = j
        · rw [z, pk_us]
        · rw [pk_un z]; exact hs i (by omega)
  exact Exists.intro (n + 1) (main n 0 row (by omega) (fun i hi => absurd hi (by omega)))
theorem ry_cx {post : Int32 → SY → Prop} {q a b : Nat} {l n : Int32} {s row c : Nat → Int32} (hok : rl_ok q (b - a)) (hab : a ≤ b) (hb : b ≤ 12)
    (h : ∀ row' L t c', (∀ j, j < b - a → row' j = s (a + j)) → rl_ls q row' (b - a) L t → post (nI L) (nI q, l, n, s, row', c')) :
    ∃ n21 : Nat, wY_complexity_21 post (nI a) (nI b) (nI q) l n n21 (nI a) s row c := by
  have main : ∀ d j row, j + d = b → a ≤ j → (∀ i, i < j - a → row i = s (a + i)) → wY_complexity_21 post (nI a) (nI b) (nI q) l n (d + 1) (nI j) s row c := by
    intro d
    induction d with
    | zero =>
      intro j row hj haj hs
      refine br_t (nI_le (by omega) (by omega)) ?_
      rw [pk_sub hab]
      exact ry_least hok (fun L t c' hl hD => h row L t c' (fun i hi => hs i (by omega)) hl)
    | succ d ih =>
      intro j row hj haj hs
      refine br_f (nI_ge (by omega) (by omega)) ⟨vp_in_nI (by omega) (by omega), ?_, nm_r (e' := upd row (j - a) (s j)) ?_ (nm_r (nI_1 j) (ih (j + 1) _ (by omega) (by omega) ?_))⟩
      · rw [pk_sub haj]; exact vp_in_nI (by omega) (by omega)
      · rw [pk_sub haj, nI_clamp (by omega), nI_clamp (by omega)]
      · intro i hi
        by_cases z : i = j - a
        · rw [z, pk_us]
          exact congrArg s (by omega)
        · rw [pk_un z]; exact hs i (by omega)
  exact Exists.intro (b - a + 1) (main (b - a) a row (by omega) (Nat.le_refl _) (fun i hi => absurd hi (by omega)))
end
section
/-! the relation and what is owed -/
def rl_lim (q lim : Nat) : Prop := (q = 2 ∧ lim = 12) ∨ (q = 3 ∧ lim = 7) ∨ (q = 5 ∧ lim = 5)
theorem rl_lim_ok {q lim k : Nat} (h : rl_lim q lim) (hk : k ≤ lim + 1) : rl_ok q k := by
  rcases h with ⟨rfl, rfl⟩ | ⟨rfl, rfl⟩ | ⟨rfl, rfl⟩
  · exact rl_ok_le (k := 13) ⟨by decide, by decide, by decide⟩ hk
  · exact rl_ok_le (k := 8) ⟨by decide, by decide, by decide⟩ hk
  · exact rl_ok_le (k := 6) ⟨by decide, by decide, by decide⟩ hk
theorem rl_lim_12 {q lim : Nat} (h : rl_lim q lim) : lim ≤ 12 ∧ 2 ≤ q ∧ q ≤ 5 := by
  unfold rl_lim at h
  omega
/-- the two objects have one modulus, one limit, one count, one row of symbols; what the questions leave behind is free -/
def i_Rel (_ : Nat) (u : SX) (v : SY) : Prop :=
  ∃ (q lim n : Nat) (sl tc : Int32) (S st tp row c : Nat → Int32), rl_lim q lim ∧ n ≤ lim ∧ u = (nI q, nI lim, nI n, sl, tc, S, st, tp) ∧ v = (nI q, nI lim, nI n, S, row, c)
theorem rl_mk {k q lim n : Nat} {sl tc : Int32} {S st tp row c : Nat → Int32} (h : rl_lim q lim) (hn : n ≤ lim) : i_Rel k (nI q, nI lim, nI n, sl, tc, S, st, tp) (nI q, nI lim, nI n, S, row, c) :=
  ⟨q, lim, n, sl, tc, S, st, tp, row, c, h, hn, rfl, rfl⟩
theorem i_up {k : Nat} {u : SX} {v : SY} (h : i_Rel k u v) : i_Rel (k + 3) u v := h
theorem i_vc0 (k0 : Int32) : wpX_init (fun u => wpY_init (fun v => i_Rel 1 u v) k0) k0 := by
  by_cases h : 0 < k0
  · by_cases h1 : k0 = 1
    · exact br_t h (br_t h1 (br_t h (br_t h1 (br_t h (br_t h1 (rl_mk (q := 3) (lim := 7) (n := 0) (Or.inr (Or.inl ⟨rfl, rfl⟩)) (by omega)))))))
    · exact br_t h (br_f h1 (br_t h (br_f h1 (br_t h (br_f h1 (rl_mk (q := 5) (lim := 5) (n := 0) (Or.inr (Or.inr ⟨rfl, rfl⟩)) (by omega)))))))
  · exact br_f h (br_f h (br_f h (rl_mk (q := 2) (lim := 12) (n := 0) (Or.inl ⟨rfl, rfl⟩) (by omega))))
theorem i_vc_modulus {k : Nat} {u : SX} {v : SY} (I : i_Rel k u v) (hk : k + 3 ≤ 1537) : wpX_modulus (fun r => wpY_modulus (fun r' => r' = r ∧ i_Rel (k + 3) u v) v) u := by
  obtain ⟨q, lim, n, sl, tc, S, st, tp, row, c, hq, hn, rfl, rfl⟩ := I
  exact ⟨rfl, rl_mk hq hn⟩
theorem i_vc_append {k : Nat} {u : SX} {v : SY} (I : i_Rel k u v) (hk : k + 3 ≤ 1537) (v1 : Int32) : wpX_append (fun r u' => wpY_append (fun r' v' => r' = r ∧ i_Rel (k + 3) u' v') v v1) u v1 := by
  obtain ⟨q, lim, n, sl, tc, S, st, tp, row, c, hq, hn, rfl, rfl⟩ := I
  have h12 := rl_lim_12 hq
  unfold wpX_append
  dsimp only
  by_cases h0 : v1 < 0
  · exact br_t h0 (br_t rfl (br_t h0 ⟨rfl, rl_mk hq hn⟩))
  by_cases h1 : nI q ≤ v1
  · exact br_f h0 (br_t h1 (br_t rfl (br_f h0 (br_t h1 ⟨rfl, rl_mk hq hn⟩))))
  by_cases h2 : n < lim
  · have h2' : nI n < nI lim := nI_lt h2 (by omega)
    have hi : vp_in (nI n) 12 := vp_in_nI (by omega) (by omega)
    exact br_f h0 (br_f h1 (br_f (by decide) (br_t h2' ⟨hi, nm_e (nm_r (nI_1 n) (br_f h0 (br_f h1 (br_t h2' ⟨hi, nm_e (nm_r (nI_1 n) ⟨rfl, rl_mk hq (by omega)⟩)⟩))))⟩)))
  · have h2' : ¬ nI n < nI lim := nI_nlt (by omega) (by omega)
    exact br_f h0 (br_f h1 (br_f (by decide) (br_f h2' (br_f h0 (br_f h1 (br_f h2' ⟨rfl, rl_mk hq hn⟩))))))
theorem i_vc_drop {k : Nat} {u : SX} {v : SY} (I : i_Rel k u v) (hk : k + 3 ≤ 1537) : wpX_drop (fun r u' => wpY_drop (fun r' v' => r' = r ∧ i_Rel (k + 3) u' v') v) u := by
  obtain ⟨q, lim, n, sl, tc, S, st, tp, row, c, hq, hn, rfl, rfl⟩ := I
  have h12 := rl_lim_12 hq
  cases n with
  | zero => exact br_t nI_0 (br_t nI_0 ⟨rfl, rl_mk hq hn⟩)
  | succ n =>
    have hz : ¬ nI (n + 1) = 0 := nI_ne0 (by omega) (by omega)
    have hi : vp_in (nI n) 12 := vp_in_nI (by omega) (by omega)
    exact br_f hz (nm_r (nI_pred n) ⟨hi, br_f hz (nm_r (nI_pred n) ⟨hi, rfl, rl_mk hq (by omega)⟩)⟩)
theorem i_vc_change {k : Nat} {u : SX} {v : SY} (I : i_Rel k u v) (hk : k + 3 ≤ 1537) (v1 : Int32) (v2 : Int32) : wpX_change (fun r u' => wpY_change (fun r' v' => r' = r ∧ i_Rel (k + 3) u' v') v v1 v2) u v1 v2 := by
  obtain ⟨q, lim, n, sl, tc, S, st, tp, row, c, hq, hn, rfl, rfl⟩ := I
  have h12 := rl_lim_12 hq
  unfold wpX_change
  dsimp only
  by_cases h0 : v1 < 0
  · exact br_t h0 (br_t rfl (br_t h0 ⟨rfl, rl_mk hq hn⟩))
  by_cases h1 : nI n ≤ v1
  · exact br_f h0 (br_t h1 (br_t rfl (br_f h0 (br_t h1 ⟨rfl, rl_mk hq hn⟩))))
  have hi : vp_in v1 12 := by
    obtain ⟨j, hj, rfl⟩ := nI_of h0
    rw [nI_leI (by omega) hj] at h1
    exact vp_in_nI (by omega) (by omega)
  refine br_f h0 (br_f h1 (br_f (by decide) ?_))
  by_cases h2 : v2 < 0
  · exact br_t h2 (br_t rfl (br_f h0 (br_f h1 (br_t h2 ⟨rfl, rl_mk hq hn⟩))))
  by_cases h3 : v2 < nI q
  · exact br_f h2 (br_f (Int32.not_le.mpr h3) (br_f (by decide) ⟨hi, nm_e (br_f h0 (br_f h1 (br_f h2 (br_t h3 ⟨hi, nm_e ⟨rfl, rl_mk hq hn⟩⟩))))⟩))
  · exact br_f h2 (br_t (Int32.not_lt.mp h3) (br_t rfl (br_f h0 (br_f h1 (br_f h2 (br_f h3 ⟨rfl, rl_mk hq hn⟩))))))
theorem i_vc_clear {k : Nat} {u : SX} {v : SY} (I : i_Rel k u v) (hk : k + 3 ≤ 1537) : wpX_clear (fun u' => wpY_clear (fun v' => i_Rel (k + 3) u' v') v) u := by
  obtain ⟨q, lim, n, sl, tc, S, st, tp, row, c, hq, hn, rfl, rfl⟩ := I
  exact rl_mk (k := k + 3) (n := 0) hq (by omega)
theorem i_vc_length {k : Nat} {u : SX} {v : SY} (I : i_Rel k u v) (hk : k + 3 ≤ 1537) : wpX_length (fun r => wpY_length (fun r' => r' = r ∧ i_Rel (k + 3) u v) v) u := by
  obtain ⟨q, lim, n, sl, tc, S, st, tp, row, c, hq, hn, rfl, rfl⟩ := I
  exact ⟨rfl, rl_mk hq hn⟩
theorem i_vc_symbol {k : Nat} {u : SX} {v : SY} (I : i_Rel k u v) (hk : k + 3 ≤ 1537) (v1 : Int32) : wpX_symbol (fun r => wpY_symbol (fun r' => r' = r ∧ i_Rel (k + 3) u v) v v1) u v1 := by
  obtain ⟨q, lim, n, sl, tc, S, st, tp, row, c, hq, hn, rfl, rfl⟩ := I
  have h12 := rl_lim_12 hq
  unfold wpX_symbol
  dsimp only
  by_cases h0 : v1 < 0
  · exact br_t h0 (br_t rfl (br_t h0 ⟨rfl, rl_mk hq hn⟩))
  by_cases h1 : v1 < nI n
  · have hi : vp_in v1 12 := by
      obtain ⟨j, hj, rfl⟩ := nI_of h0
      rw [nI_ltI hj (by omega)] at h1
      exact vp_in_nI (by omega) (by omega)
    exact br_f h0 (br_f (Int32.not_le.mpr h1) (br_f (by decide) ⟨hi, br_f h0 (br_t h1 ⟨hi, rfl, rl_mk hq hn⟩)⟩))
  · exact br_f h0 (br_t (Int32.not_lt.mp h1) (br_t rfl (br_f h0 (br_f h1 ⟨rfl, rl_mk hq hn⟩))))
theorem i_vc_complexity {k : Nat} {u : SX} {v : SY} (I : i_Rel k u v) (hk : k + 3 ≤ 1537) (v1 : Int32) (v2 : Int32) : wpX_complexity (fun r u' => wpY_complexity (fun r' v' => r' = r ∧ i_Rel (k + 3) u' v') v v1 v2) u v1 v2 := by
  obtain ⟨q, lim, n, sl, tc, S, st, tp, row, c, hq, hn, rfl, rfl⟩ := I
  have h12 := rl_lim_12 hq
  by_cases h0 : v1 < 0
  · exact br_t h0 (br_t h0 ⟨rfl, rl_mk hq hn⟩)
  by_cases h1 : v2 < v1
  · exact br_f h0 (br_t h1 (br_f h0 (br_t h1 ⟨rfl, rl_mk hq hn⟩)))
  by_cases h2 : v2 ≤ nI n
  · refine br_f h0 (br_f h1 (br_t h2 ?_))
    obtain ⟨a, ha, rfl⟩ := nI_of h0
    have h3 : ¬ v2 < 0 := fun z => h1 (Int32.lt_of_lt_of_le z (nI_pos' ha))
    obtain ⟨b, hb, rfl⟩ := nI_of h3
    have hab : a ≤ b := by
      rw [nI_ltI hb ha] at h1
      omega
    have hbn : b ≤ n := (nI_leI hb (by omega)).mp h2
    have hok : rl_ok q (b - a) := rl_lim_ok hq (by omega)
    refine rx_study hab (by omega) (fun st' hst => ?_)
    refine rx_least hok (fun L t tp' hl hD => ?_)
    refine br_f h0 (br_f h1 (br_t h2 ?_))
    refine ry_cx hok hab (by omega) (fun row' L' t' c' hrow hl' => ?_)
    have hu := rl_ls_uniq hl (rl_ls_congr (fun j hj => (hrow j hj).trans (hst j hj).symm) hl')
    exact ⟨congrArg nI hu.1, rl_mk hq hn⟩
  · exact br_f h0 (br_f h1 (br_f h2 (br_f h0 (br_f h1 (br_f h2 ⟨rfl, rl_mk hq hn⟩)))))
theorem i_vc_registers {k : Nat} {u : SX} {v : SY} (I : i_Rel k u v) (hk : k + 3 ≤ 1537) : wpX_registers (fun r u' => wpY_registers (fun r' v' => r' = r ∧ i_Rel (k + 3) u' v') v) u := by
  obtain ⟨q, lim, n, sl, tc, S, st, tp, row, c, hq, hn, rfl, rfl⟩ := I
  have h12 := rl_lim_12 hq
  have hok : rl_ok q n := rl_lim_ok hq (by omega)
  unfold wpX_registers
  dsimp only
  refine rx_study (a := 0) (b := n) (by omega) (by omega) (fun st' hst => ?_)
  refine rx_least (k := n) hok (fun L t tp' hl hD => ?_)
  refine rx_count (k := n) hok hl.1 (fun tp2 => ?_)
  dsimp only
  unfold wpY_registers
  dsimp only
  refine ry_whole (by omega) (fun row' hrow => ?_)
  refine ry_least hok (fun L' t' c' hl' hD' => ?_)
  have hc : ∀ j, j < n → row' j = st' j := fun j hj => (hrow j hj).trans ((hst j (by omega)).trans (congrArg S (by omega))).symm
  obtain ⟨e1, e2⟩ := rl_ls_uniq hl (rl_ls_congr hc hl')
  subst e1
  refine ry_pow (rl_ok_le hok hl.1) (ry_count hok hl.1 (fun c2 => ?_))
  exact ⟨rl_cn_congr (fun t => rl_G_congr hc) _, rl_mk hq hn⟩
theorem i_vc_coefficient {k : Nat} {u : SX} {v : SY} (I : i_Rel k u v) (hk : k + 3 ≤ 1537) (v1 : Int32) : wpX_coefficient (fun r u' => wpY_coefficient (fun r' v' => r' = r ∧ i_Rel (k + 3) u' v') v v1) u v1 := by
  obtain ⟨q, lim, n, sl, tc, S, st, tp, row, c, hq, hn, rfl, rfl⟩ := I
  have h12 := rl_lim_12 hq
  have hok : rl_ok q n := rl_lim_ok hq (by omega)
  have Y : ∀ r u' L t tp' st', rl_ls q st' n L t → rl_D q L t tp' → (∀ j, j < n → st' j = S j) → (∀ v', i_Rel (k + 3) u' (nI q, nI lim, nI n, S, v')) →
      ((v1 < 1 → r = -1) ∧ (¬ v1 < 1 → ((v1 ≤ nI L → r = tp' v1.toNatClampNeg) ∧ (¬ v1 ≤ nI L → r = -1)))) →
      wpY_coefficient (fun r' v' => r' = r ∧ i_Rel (k + 3) u' v') (nI q, nI lim, nI n, S, row, c) v1 := by
    intro r u' L t tp' st' hl hD hst hu hr
    unfold wpY_coefficient
    dsimp only
    refine ry_whole (by omega) (fun row' hrow => ?_)
    refine ry_least hok (fun L' t' c' hl' hD' => ?_)
    have hc : ∀ j, j < n → row' j = st' j := fun j hj => (hrow j hj).trans (hst j hj).symm
    obtain ⟨e1, e2⟩ := rl_ls_uniq hl (rl_ls_congr hc hl')
    subst e1 e2
    have hL := hl.1
    refine br_c (fun z => ⟨(hr.1 z).symm, hu _⟩) (fun z => br_c (fun z2 => ?_) (fun z2 => ⟨((hr.2 z).2 z2).symm, hu _⟩))
    have z0 : ¬ v1 < 0 := fun y => z (Int32.lt_trans y (by decide))
    obtain ⟨i, hi, rfl⟩ := nI_of z0
    have i1 : 1 ≤ i := by
      have z' : ¬ nI i < nI 1 := z
      rw [nI_ltI hi (by omega)] at z'
      omega
    have iL : i ≤ L' := (nI_leI hi (by omega)).mp z2
    refine ⟨vp_in_nI (by omega) (by omega), ?_, hu _⟩
    rw [(hr.2 z).1 z2, nI_clamp hi]
    exact (hD' i i1 iL).trans (hD i i1 iL).symm
  unfold wpX_coefficient
  dsimp only
  refine rx_study (a := 0) (b := n) (by omega) (by omega) (fun st' hst => ?_)
  have hst' : ∀ j, j < n → st' j = S j := fun j hj => (hst j (by omega)).trans (congrArg S (by omega))
  refine rx_least (k := n) hok (fun L t tp' hl hD => ?_)
  have hL := hl.1
  by_cases z : v1 < 1
  · exact br_t z (Y _ _ L t tp' st' hl hD hst' (fun v' => rl_mk hq hn) (br_t z rfl))
  by_cases z2 : v1 ≤ nI L
  · have z0 : ¬ v1 < 0 := fun y => z (Int32.lt_trans y (by decide))
    have hi : vp_in v1 14 := by
      obtain ⟨i, hi, rfl⟩ := nI_of z0
      have iL : i ≤ L := (nI_leI hi (by omega)).mp z2
      exact vp_in_nI (by omega) (by omega)
    exact br_f z (br_f (Int32.not_lt.mpr z2) ⟨hi, Y _ _ L t tp' st' hl hD hst' (fun v' => rl_mk hq hn) (br_f z (br_t z2 rfl))⟩)
  · exact br_f z (br_t (Int32.not_le.mp z2) (Y _ _ L t tp' st' hl hD hst' (fun v' => rl_mk hq hn) (br_f z (br_f z2 rfl))))
theorem i_vc_predict {k : Nat} {u : SX} {v : SY} (I : i_Rel k u v) (hk : k + 3 ≤ 1537) (v1 : Int32) : wpX_predict (fun r u' => wpY_predict (fun r' v' => r' = r ∧ i_Rel (k + 3) u' v') v v1) u v1 := by
  obtain ⟨q, lim, n, sl, tc, S, st, tp, row, c, hq, hn, rfl, rfl⟩ := I
  have h12 := rl_lim_12 hq
  have hok : rl_ok q n := rl_lim_ok hq (by omega)
  by_cases h0 : v1 < 0
  · exact br_t h0 (br_t h0 ⟨rfl, rl_mk hq hn⟩)
  by_cases h1 : v1 ≤ 40
  · refine br_f h0 (br_t h1 ?_)
    obtain ⟨j, hj, rfl⟩ := nI_of h0
    have hj40 : j ≤ 40 := by
      have z : nI j ≤ nI 40 := h1
      exact (nI_leI hj (by omega)).mp z
    refine rx_study (a := 0) (b := n) (by omega) (by omega) (fun st' hst => ?_)
    refine rx_least (k := n) hok (fun L t tp' hl hD => ?_)
    have hL := hl.1
    refine rx_predict (rl_ok_le hok hL) hL (by omega) hj40 (fun st2 hs1 hs2 => ?_)
    refine br_f h0 (br_t h1 ?_)
    refine ry_whole (by omega) (fun row' hrow => ?_)
    refine ry_least hok (fun L' t' c' hl' hD' => ?_)
    have hc : ∀ j, j < n → row' j = st' j := fun j hj => (hrow j hj).trans ((hst j (by omega)).trans (congrArg S (by omega))).symm
    obtain ⟨e1, e2⟩ := rl_ls_uniq hl (rl_ls_congr hc hl')
    subst e1 e2
    refine ry_predict (rl_ok_le hok hL) hL (by omega) hj40 (fun row2 hr1 hr2 => ?_)
    refine ⟨?_, rl_mk hq hn⟩
    exact rl_ext_uniq hL (rl_D2 hD' hD) (fun i hi => (hr1 i hi).trans ((hc i hi).trans (hs1 i hi).symm)) hr2 hs2 (n + j) (Nat.le_refl _)
  · exact br_f h0 (br_f h1 (br_f h0 (br_f h1 ⟨rfl, rl_mk hq hn⟩)))
theorem i_vc_complexityWith {k : Nat} {u : SX} {v : SY} (I : i_Rel k u v) (hk : k + 3 ≤ 1537) (v1 : Int32) : wpX_complexityWith (fun r u' => wpY_complexityWith (fun r' v' => r' = r ∧ i_Rel (k + 3) u' v') v v1) u v1 := by
  obtain ⟨q, lim, n, sl, tc, S, st, tp, row, c, hq, hn, rfl, rfl⟩ := I
  have h12 := rl_lim_12 hq
  have hok : rl_ok q (n + 1) := rl_lim_ok hq (by omega)
  unfold wpX_complexityWith
  dsimp only
  by_cases h0 : v1 < 0
  · exact br_t h0 (br_t rfl (br_t h0 ⟨rfl, rl_mk hq hn⟩))
  by_cases h1 : v1 < nI q
  · refine br_f h0 (br_f (Int32.not_le.mpr h1) (br_f (by decide) ?_))
    refine rx_study (a := 0) (b := n) (by omega) (by omega) (fun st' hst => ?_)
    refine ⟨vp_in_nI (by omega) (by omega), nm_r (e' := upd st' n v1) (by rw [nI_clamp (by omega)]) (nm_r (nI_1 n) ?_)⟩
    refine rx_least hok (fun L t tp' hl hD => ?_)
    refine br_f h0 (br_t h1 ?_)
    refine ry_whole (by omega) (fun row' hrow => ?_)
    refine ⟨vp_in_nI (by omega) (by omega), nm_r (e' := upd row' n v1) (by rw [nI_clamp (by omega)]) ?_⟩
    rw [nI_1]
    refine ry_least hok (fun L' t' c' hl' hD' => ?_)
    have hc : ∀ j, j < n + 1 → upd row' n v1 j = upd st' n v1 j := by
      intro j hj
      by_cases z : j = n
      · rw [z, pk_us, pk_us]
      · rw [pk_un z, pk_un z]
        exact (hrow j (by omega)).trans ((hst j (by omega)).trans (congrArg S (by omega))).symm
    have hu := rl_ls_uniq hl (rl_ls_congr hc hl')
    exact ⟨congrArg nI hu.1, rl_mk hq hn⟩
  · exact br_f h0 (br_t (Int32.not_lt.mp h1) (br_t rfl (br_f h0 (br_f h1 ⟨rfl, rl_mk hq hn⟩))))
theorem i_vc_complexityBackwards {k : Nat} {u : SX} {v : SY} (I : i_Rel k u v) (hk : k + 3 ≤ 1537) : wpX_complexityBackwards (fun r u' => wpY_complexityBackwards (fun r' v' => r' = r ∧ i_Rel (k + 3) u' v') v) u := by
  obtain ⟨q, lim, n, sl, tc, S, st, tp, row, c, hq, hn, rfl, rfl⟩ := I
  have h12 := rl_lim_12 hq
  have hok : rl_ok q n := rl_lim_ok hq (by omega)
  refine rx_back hok (by omega) (fun st' L t tp' hst hl => ?_)
  refine ry_back hok (by omega) (fun row' L' t' c' hrow hl' => ?_)
  have hu := rl_ls_uniq hl (rl_ls_congr (fun j hj => (hrow j hj).trans (hst j hj).symm) hl')
  exact ⟨congrArg nI hu.1, rl_mk hq hn⟩
theorem i_vc_holdsUntil {k : Nat} {u : SX} {v : SY} (I : i_Rel k u v) (hk : k + 3 ≤ 1537) (v1 : Int32) : wpX_holdsUntil (fun r u' => wpY_holdsUntil (fun r' v' => r' = r ∧ i_Rel (k + 3) u' v') v v1) u v1 := by
  obtain ⟨q, lim, n, sl, tc, S, st, tp, row, c, hq, hn, rfl, rfl⟩ := I
  have h12 := rl_lim_12 hq
  by_cases h0 : v1 < 0
  · exact br_t h0 (br_t h0 ⟨rfl, rl_mk hq hn⟩)
  by_cases h1 : v1 ≤ nI n
  · refine br_f h0 (br_t h1 ?_)
    obtain ⟨m, hm, rfl⟩ := nI_of h0
    have hmn : m ≤ n := (nI_leI hm (by omega)).mp h1
    have hok : rl_ok q m := rl_lim_ok hq (by omega)
    refine rx_study (a := 0) (b := m) (by omega) (by omega) (fun st' hst => ?_)
    have hst' : ∀ j, j < m → st' j = S j := fun j hj => (hst j (by omega)).trans (congrArg S (by omega))
    refine rx_least (k := m) hok (fun L t tp' hl hD => ?_)
    have hL := hl.1
    refine rx_holds (rl_ok_le hok hL) hL hmn (by omega) hst' (fun r st2 hr => ?_)
    refine br_f h0 (br_t h1 ?_)
    refine ry_whole (by omega) (fun row' hrow => ?_)
    refine ry_least hok (fun L' t' c' hl' hD' => ?_)
    obtain ⟨e1, e2⟩ := rl_ls_uniq hl (rl_ls_congr (fun j hj => (hrow j (by omega)).trans (hst' j hj).symm) hl')
    subst e1 e2
    refine ry_holds (rl_ok_le hok hL) hL hmn (by omega) (fun i hi => hrow i (by omega)) (fun r' row2 hr' => ?_)
    exact ⟨congrArg nI (rl_hu_uniq hL (rl_D2 hD hD') hr hr'), rl_mk hq hn⟩
  · exact br_f h0 (br_f h1 (br_f h0 (br_f h1 ⟨rfl, rl_mk hq hn⟩)))
end
