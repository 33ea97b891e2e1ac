theorem pk_us {f : Nat → Int32} {k : Nat} {x : Int32} : upd f k x k = x := if_pos rfl
theorem pk_un {f : Nat → Int32} {k j : Nat} {x : Int32} (h : j ≠ k) : upd f k x j = f j := if_neg h
theorem pk_sub {a b : Nat} (h : b ≤ a) : nI a - nI b = nI (a - b) := by
  obtain ⟨c, rfl⟩ : ∃ c, a = c + b := ⟨a - b, by omega⟩
  rw [← nI_add, Int32.add_sub_cancel, Nat.add_sub_cancel]
theorem pk_m1 (n : Nat) : nI (n + 1) + (-1) = nI n := by
  rw [← nI_1, Int32.add_assoc, show (1 : Int32) + (-1) = 0 from rfl, Int32.add_zero]
theorem pk_mul (a b : Nat) : nI a * nI b = nI (a * b) := (Int32.ofNat_mul a b).symm
theorem pk_div {a d : Nat} (ha : a < 2 ^ 31) (h0 : 0 < d) (hd : d < 2 ^ 31) : nI a / nI d = nI (a / d) := by
  apply Int32.toInt_inj.mp
  rw [lg_idiv_nonneg (by rw [nI_toInt ha]; omega) (by rw [nI_toInt hd]; omega), nI_toInt ha, nI_toInt hd, nI_toInt (Nat.lt_of_le_of_lt (Nat.div_le_self a d) ha)]
  first | rfl | exact (Int.natCast_ediv _ _).symm
theorem pk_rem {a d : Nat} (ha : a < 2 ^ 31) (h0 : 0 < d) (hd : d < 2 ^ 31) : nI a - nI a / nI d * nI d = nI (a % d) := by
  rw [pk_div ha h0 hd, pk_mul, pk_sub (Nat.div_mul_le_self a d)]
  exact congrArg nI (by have := Nat.div_add_mod' a d; omega)
/-! the pure pictures -/
/-- the sum of c i * f (p - i), i from 1 to L -/
def rl_sm (c f : Nat → Int32) (p : Nat) : Nat → Int32
  | 0 => 0
  | L + 1 => rl_sm c f p L + c (L + 1) * f (p - (L + 1))
/-- the remainder as it is printed -/
def rl_rm (q : Nat) (x : Int32) : Int32 := x - x / nI q * nI q
/-- the carried symbol -/
def rl_cs (q : Nat) (c f : Nat → Int32) (L p : Nat) : Int32 := rl_rm q (rl_sm c f p L)
/-- the register c of length L generates the first k of f -/
def rl_gn (q : Nat) (c f : Nat → Int32) (L k : Nat) : Prop := ∀ j, L ≤ j → j < k → rl_cs q c f L j = f j
/-- the digits of t to the base q, place L the lowest -/
def rl_dg (q L t : Nat) : Nat → Int32 := fun i => nI (t / q ^ (L - i) % q)
/-- taps hold the digits of t -/
def rl_D (q L t : Nat) (c : Nat → Int32) : Prop := ∀ i, 1 ≤ i → i ≤ L → c i = rl_dg q L t i
/-- the t-th register of length L generates -/
def rl_G (q : Nat) (f : Nat → Int32) (k L t : Nat) : Prop := rl_gn q (rl_dg q L t) f L k
/-- (L, t) is the first that generates -/
def rl_ls (q : Nat) (f : Nat → Int32) (k L t : Nat) : Prop :=
  L ≤ k ∧ t < q ^ L ∧ rl_G q f k L t ∧ (∀ t', t' < t → ¬ rl_G q f k L t') ∧ (∀ L', L' < L → ∀ t', t' < q ^ L' → ¬ rl_G q f k L' t')
/-- how many below n -/
noncomputable def rl_cn (P : Nat → Prop) : Nat → Int32
  | 0 => 0
  | n + 1 => @ite _ (P n) (Classical.propDecidable _) (rl_cn P n + 1) (rl_cn P n)
/-- what q and k may be -/
def rl_ok (q k : Nat) : Prop := (q = 2 ∨ q = 3 ∨ q = 5) ∧ k < 14 ∧ q ^ k < 2 ^ 31

theorem rl_ok_q {q k : Nat} (h : rl_ok q k) : 2 ≤ q ∧ q ≤ 5 := by
  obtain ⟨h, _⟩ := h
  omega
theorem rl_ok_le {q k L : Nat} (h : rl_ok q k) (hl : L ≤ k) : rl_ok q L := by
  have hq := rl_ok_q h
  obtain ⟨h1, h2, h3⟩ := h
  refine ⟨h1, by omega, Nat.lt_of_le_of_lt (Nat.pow_le_pow_right (by omega) hl) h3⟩
theorem rl_ok_pos {q k : Nat} (h : rl_ok q k) : 0 < q ^ k := Nat.pow_pos (by have := rl_ok_q h; omega)

theorem rl_sm_congr {c c' f f' : Nat → Int32} {p : Nat} : ∀ L, L ≤ p → (∀ i, 1 ≤ i → i ≤ L → c i = c' i) → (∀ j, j < p → f j = f' j) → rl_sm c f p L = rl_sm c' f' p L := by
  intro L
  induction L with
  | zero => intro _ _ _; rfl
  | succ L ih =>
    intro hL hc hf
    show rl_sm c f p L + c (L + 1) * f (p - (L + 1)) = rl_sm c' f' p L + c' (L + 1) * f' (p - (L + 1))
    rw [ih (by omega) (fun i h1 h2 => hc i h1 (by omega)) hf, hc (L + 1) (by omega) (by omega), hf (p - (L + 1)) (by omega)]
theorem rl_cs_congr {q : Nat} {c c' f f' : Nat → Int32} {L p : Nat} (hL : L ≤ p) (hc : ∀ i, 1 ≤ i → i ≤ L → c i = c' i) (hf : ∀ j, j < p → f j = f' j) : rl_cs q c f L p = rl_cs q c' f' L p := by
  show rl_rm q _ = rl_rm q _
  rw [rl_sm_congr L hL hc hf]
theorem rl_gn_congr {q : Nat} {c c' f f' : Nat → Int32} {L k : Nat} (hc : ∀ i, 1 ≤ i → i ≤ L → c i = c' i) (hf : ∀ j, j < k → f j = f' j) (h : rl_gn q c f L k) : rl_gn q c' f' L k := by
  intro j h1 h2
  rw [← hf j h2, ← h j h1 h2]
  exact (rl_cs_congr h1 hc (fun i hi => hf i (by omega))).symm
theorem rl_G_congr {q : Nat} {f f' : Nat → Int32} {k L t : Nat} (hf : ∀ j, j < k → f j = f' j) : rl_G q f k L t ↔ rl_G q f' k L t :=
  ⟨rl_gn_congr (fun _ _ _ => rfl) hf, rl_gn_congr (fun _ _ _ => rfl) (fun j hj => (hf j hj).symm)⟩
theorem rl_G_D {q : Nat} {f c : Nat → Int32} {k L t : Nat} (hc : rl_D q L t c) : rl_gn q c f L k ↔ rl_G q f k L t :=
  ⟨rl_gn_congr hc (fun _ _ => rfl), rl_gn_congr (fun i h1 h2 => (hc i h1 h2).symm) (fun _ _ => rfl)⟩
theorem rl_ls_congr {q : Nat} {f f' : Nat → Int32} {k L t : Nat} (hf : ∀ j, j < k → f j = f' j) (h : rl_ls q f k L t) : rl_ls q f' k L t := by
  obtain ⟨h1, h2, h3, h4, h5⟩ := h
  exact ⟨h1, h2, (rl_G_congr hf).mp h3, fun t' ht => fun g => h4 t' ht ((rl_G_congr hf).mpr g), fun L' hL t' ht => fun g => h5 L' hL t' ht ((rl_G_congr hf).mpr g)⟩
theorem rl_ls_uniq {q : Nat} {f : Nat → Int32} {k L t L' t' : Nat} (h : rl_ls q f k L t) (h' : rl_ls q f k L' t') : L' = L ∧ t' = t := by
  obtain ⟨h1, h2, h3, h4, h5⟩ := h
  obtain ⟨g1, g2, g3, g4, g5⟩ := h'
  have e : L' = L := by
    rcases Nat.lt_trichotomy L' L with z | z | z
    · exact absurd g3 (h5 L' z t' g2)
    · exact z
    · exact absurd h3 (g5 L z t h2)
  subst e
  refine ⟨rfl, ?_⟩
  rcases Nat.lt_trichotomy t' t with z | z | z
  · exact absurd g3 (h4 t' z)
  · exact z
  · exact absurd h3 (g4 t z)
theorem rl_G_full {q : Nat} {f : Nat → Int32} {k L t : Nat} (h : k ≤ L) : rl_G q f k L t := fun j h1 h2 => absurd h2 (by omega)
theorem rl_cn_congr {P Q : Nat → Prop} (h : ∀ t, P t ↔ Q t) (n : Nat) : rl_cn P n = rl_cn Q n := by
  have e : P = Q := funext fun t => propext (h t)
  rw [e]
theorem rl_cn_t {P : Nat → Prop} {n : Nat} (h : P n) : rl_cn P (n + 1) = rl_cn P n + 1 := by
  show @ite _ (P n) (Classical.propDecidable _) (rl_cn P n + 1) (rl_cn P n) = _
  exact if_pos h
theorem rl_cn_f {P : Nat → Prop} {n : Nat} (h : ¬ P n) : rl_cn P (n + 1) = rl_cn P n := by
  show @ite _ (P n) (Classical.propDecidable _) (rl_cn P n + 1) (rl_cn P n) = _
  exact if_neg h

/-! the digits -/
theorem rl_dg0 {q L i : Nat} : rl_dg q L 0 i = 0 := by
  show nI (0 / q ^ (L - i) % q) = 0
  rw [Nat.zero_div, Nat.zero_mod]
  exact nI_0
/-- a step's arithmetic: m - 1 and m by their last digit -/
theorem rl_carry {q m : Nat} (hq : 2 ≤ q) (hm : 0 < m) (h : q - 1 ≤ (m - 1) % q) : m % q = 0 := by
  have e : (m - 1) % q = q - 1 := by
    have := Nat.mod_lt (m - 1) (y := q) (by omega)
    omega
  have d := Nat.div_add_mod (m - 1) q
  have e2 : m = q * ((m - 1) / q + 1) := by rw [Nat.mul_add]; omega
  rw [e2]
  exact Nat.mul_mod_right q _
theorem rl_nocarry {q m : Nat} (hq : 2 ≤ q) (hm : 0 < m) (h : ¬ q - 1 ≤ (m - 1) % q) : m % q = (m - 1) % q + 1 ∧ m / q = (m - 1) / q := by
  have d := Nat.div_add_mod (m - 1) q
  have e2 : m = ((m - 1) % q + 1) + q * ((m - 1) / q) := by omega
  constructor
  · rw [e2, Nat.add_mul_mod_self_left, Nat.mod_eq_of_lt (by omega)]
    rw [← e2]
  · rw [e2, Nat.add_mul_div_left _ _ (by omega), Nat.div_eq_of_lt (by omega), Nat.zero_add]
    rw [← e2]
/-- t + 1 = P * m: t / P = m - 1 -/
theorem rl_pm {P m t : Nat} (h : t + 1 = P * m) : 0 < m ∧ 0 < P ∧ (t + 1) / P = m ∧ t / P = m - 1 := by
  have hm : 0 < m := by
    rcases Nat.eq_zero_or_pos m with z | z
    · rw [z, Nat.mul_zero] at h; omega
    · exact z
  have hP : 0 < P := by
    rcases Nat.eq_zero_or_pos P with z | z
    · rw [z, Nat.zero_mul] at h; omega
    · exact z
  refine ⟨hm, hP, by rw [h]; exact Nat.mul_div_cancel_left m hP, ?_⟩
  obtain ⟨w, rfl⟩ : ∃ w, m = w + 1 := ⟨m - 1, by omega⟩
  rw [Nat.mul_add, Nat.mul_one] at h
  have e : t = (P - 1) + P * w := by omega
  rw [e, Nat.add_mul_div_left _ _ hP, Nat.div_eq_of_lt (by omega), Nat.zero_add, Nat.add_sub_cancel]
