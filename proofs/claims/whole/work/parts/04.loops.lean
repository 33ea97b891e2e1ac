/-! the loops of the questions, and what is unique -/
/-- the first place from k on at which the carried symbol is another -/
def rl_hu (q : Nat) (c S : Nat → Int32) (L k n r : Nat) : Prop :=
  k ≤ r ∧ r ≤ n ∧ (∀ p, k ≤ p → p < r → rl_cs q c S L p = S p) ∧ (r < n → ¬ rl_cs q c S L r = S r)
theorem rl_hu_uniq {q : Nat} {c c' S : Nat → Int32} {L k n r r' : Nat} (hL : L ≤ k) (hc : ∀ i, 1 ≤ i → i ≤ L → c i = c' i) (h : rl_hu q c S L k n r) (h' : rl_hu q c' S L k n r') : r' = r := by
  obtain ⟨a1, a2, a3, a4⟩ := h
  obtain ⟨b1, b2, b3, b4⟩ := h'
  have e : ∀ p, k ≤ p → rl_cs q c S L p = rl_cs q c' S L p := fun p hp => rl_cs_congr (by omega) hc (fun _ _ => rfl)
  rcases Nat.lt_trichotomy r' r with z | z | z
  · exact absurd ((e r' b1).symm.trans (a3 r' b1 z)) (b4 (by omega))
  · exact z
  · exact absurd ((e r a1).trans (b3 r a1 z)) (a4 (by omega))
theorem rl_ext_uniq {q : Nat} {c c' f g : Nat → Int32} {L n m : Nat} (hL : L ≤ n) (hc : ∀ i, 1 ≤ i → i ≤ L → c i = c' i) (h0 : ∀ i, i < n → f i = g i)
    (hf : ∀ p, n ≤ p → p ≤ m → f p = rl_cs q c f L p) (hg : ∀ p, n ≤ p → p ≤ m → g p = rl_cs q c' g L p) : ∀ p, p ≤ m → f p = g p := by
  intro p
  induction p using Nat.strongRecOn with
  | ind p ih =>
    intro hp
    by_cases z : p < n
    · exact h0 p z
    · rw [hf p (by omega) hp, hg p (by omega) hp]
      exact rl_cs_congr (by omega) hc (fun j hj => ih j hj (by omega))
theorem rl_D2 {q L t : Nat} {c c' : Nat → Int32} (h : rl_D q L t c) (h' : rl_D q L t c') : ∀ i, 1 ≤ i → i ≤ L → c i = c' i := fun i a b => (h i a b).trans (h' i a b).symm

theorem rx_predict {post : Int32 → SX → Prop} {q n j L : Nat} {l sl : Int32} {S st tp : Nat → Int32} (hok : rl_ok q L) (hL : L ≤ n) (hn : n ≤ 12) (hj : j ≤ 40)
    (h : ∀ st', (∀ i, i < n → st' i = st i) → (∀ p, n ≤ p → p ≤ n + j → st' p = rl_cs q tp st' L p) → post (st' (n + j)) (nI q, l, nI n, sl, nI L, S, st', tp)) :
    ∃ n30 : Nat, wX_predict_30 post (nI j) (nI q) l (nI n) sl (nI L) n30 (nI n) S st tp := by
  have main : ∀ d p st2, p + d = n + j + 1 → n ≤ p → (∀ i, i < n → st2 i = st i) → (∀ p', n ≤ p' → p' < p → st2 p' = rl_cs q tp st2 L p') → wX_predict_30 post (nI j) (nI q) l (nI n) sl (nI L) (d + 1) (nI p) S st2 tp := by
    intro d
    induction d with
    | zero =>
      intro p st2 hp hnp h0 h1
      unfold wX_predict_30
      rw [nI_add]
      refine br_t (nI_lt (by omega) (by omega)) ⟨vp_in_nI (by omega) (by omega), ?_⟩
      rw [nI_clamp (by omega)]
      exact h st2 h0 (fun p' a b => h1 p' a (by omega))
    | succ d ih =>
      intro p st2 hp hnp h0 h1
      unfold wX_predict_30
      rw [nI_add]
      refine br_f (nI_nlt (by omega) (by omega)) (rx_carried hok (by omega) (by omega) ⟨vp_in_nI (by omega) (by omega), nm_r (e' := upd st2 p (rl_cs q tp st2 L p)) (by rw [nI_clamp (by omega)]) (nm_r (nI_1 p) (ih (p + 1) _ (by omega) (by omega) ?_ ?_))⟩)
      · intro i hi
        rw [pk_un (by omega)]; exact h0 i hi
      · intro p' a b
        have e : rl_cs q tp (upd st2 p (rl_cs q tp st2 L p)) L p' = rl_cs q tp st2 L p' := rl_cs_congr (by omega) (fun _ _ _ => rfl) (fun i hi => pk_un (by omega))
        rw [e]
        by_cases z : p' = p
        · rw [z, pk_us]
        · rw [pk_un z]; exact h1 p' a (by omega)
  exact Exists.intro (j + 1 + 1) (main (j + 1) n st (by omega) (Nat.le_refl _) (fun _ _ => rfl) (fun p' a b => absurd b (by omega)))
theorem ry_predict {post : Int32 → SY → Prop} {q n j L : Nat} {l : Int32} {s row c : Nat → Int32} (hok : rl_ok q L) (hL : L ≤ n) (hn : n ≤ 12) (hj : j ≤ 40)
    (h : ∀ row', (∀ i, i < n → row' i = row i) → (∀ p, n ≤ p → p ≤ n + j → row' p = rl_cs q c row' L p) → post (row' (n + j)) (nI q, l, nI n, s, row', c)) :
    ∃ n30 : Nat, wY_predict_30 post (nI j) (nI L) (nI q) l (nI n) n30 (nI n) s row c := by
  have main : ∀ d p row2, p + d = n + j + 1 → n ≤ p → (∀ i, i < n → row2 i = row i) → (∀ p', n ≤ p' → p' < p → row2 p' = rl_cs q c row2 L p') → wY_predict_30 post (nI j) (nI L) (nI q) l (nI n) (d + 1) (nI p) s row2 c := by
    intro d
    induction d with
    | zero =>
      intro p row2 hp hnp h0 h1
      unfold wY_predict_30
      rw [nI_add]
      refine br_t (nI_lt (by omega) (by omega)) ⟨vp_in_nI (by omega) (by omega), ?_⟩
      rw [nI_clamp (by omega)]
      exact h row2 h0 (fun p' a b => h1 p' a (by omega))
    | succ d ih =>
      intro p row2 hp hnp h0 h1
      unfold wY_predict_30
      rw [nI_add]
      refine br_f (nI_nlt (by omega) (by omega)) (ry_sum hok (by omega) (by omega) ⟨vp_in_nI (by omega) (by omega), nm_r (e' := upd row2 p (rl_cs q c row2 L p)) (by rw [nI_clamp (by omega)]) (nm_r (nI_1 p) (ih (p + 1) _ (by omega) (by omega) ?_ ?_))⟩)
      · intro i hi
        rw [pk_un (by omega)]; exact h0 i hi
      · intro p' a b
        have e : rl_cs q c (upd row2 p (rl_cs q c row2 L p)) L p' = rl_cs q c row2 L p' := rl_cs_congr (by omega) (fun _ _ _ => rfl) (fun i hi => pk_un (by omega))
        rw [e]
        by_cases z : p' = p
        · rw [z, pk_us]
        · rw [pk_un z]; exact h1 p' a (by omega)
  exact Exists.intro (j + 1 + 1) (main (j + 1) n row (by omega) (Nat.le_refl _) (fun _ _ => rfl) (fun p' a b => absurd b (by omega)))
theorem rx_holds {post : Int32 → SX → Prop} {q n k L : Nat} {l sl : Int32} {S st tp : Nat → Int32} (hok : rl_ok q L) (hL : L ≤ k) (hk : k ≤ n) (hn : n ≤ 12) (hs : ∀ i, i < k → st i = S i)
    (h : ∀ r st', rl_hu q tp S L k n r → post (nI r) (nI q, l, nI n, sl, nI L, S, st', tp)) :
    ∃ n26 : Nat, wX_holdsUntil_26 post (nI q) l (nI n) sl (nI L) n26 (nI k) S st tp := by
  have main : ∀ d p st2, p + d = n → k ≤ p → (∀ i, i < p → st2 i = S i) → (∀ p', k ≤ p' → p' < p → rl_cs q tp S L p' = S p') → wX_holdsUntil_26 post (nI q) l (nI n) sl (nI L) (d + 1) (nI p) S st2 tp := by
    intro d
    induction d with
    | zero =>
      intro p st2 hp hkp h0 h1
      exact br_t (nI_le (by omega) (by omega)) (h n st2 ⟨hk, Nat.le_refl _, fun p' a b => h1 p' a (by omega), fun z => absurd z (by omega)⟩)
    | succ d ih =>
      intro p st2 hp hkp h0 h1
      have e : rl_cs q tp st2 L p = rl_cs q tp S L p := rl_cs_congr (by omega) (fun _ _ _ => rfl) h0
      refine br_f (nI_ge (by omega) (by omega)) (rx_carried hok (by omega) (by omega) ⟨vp_in_nI (by omega) (by omega), nm_r (e' := upd st2 p (rl_cs q tp S L p)) (by rw [nI_clamp (by omega), e]) ⟨vp_in_nI (by omega) (by omega), vp_in_nI (by omega) (by omega), ?_⟩⟩)
      rw [nI_clamp (by omega), pk_us]
      refine br_c (fun z => nm_r (nI_1 p) (ih (p + 1) _ (by omega) (by omega) ?_ ?_)) (fun z => h p _ ⟨hkp, by omega, h1, fun _ => z⟩)
      · intro i hi
        by_cases zi : i = p
        · rw [zi, pk_us]; exact z
        · rw [pk_un zi]; exact h0 i (by omega)
      · intro p' a b
        by_cases zi : p' = p
        · rw [zi]; exact z
        · exact h1 p' a (by omega)
  exact Exists.intro (n - k + 1) (main (n - k) k st (by omega) (Nat.le_refl _) hs (fun p' a b => absurd b (by omega)))
theorem ry_holds {post : Int32 → SY → Prop} {q n k L : Nat} {l : Int32} {s row c : Nat → Int32} (hok : rl_ok q L) (hL : L ≤ k) (hk : k ≤ n) (hn : n ≤ 12) (hs : ∀ i, i < k → row i = s i)
    (h : ∀ r row', rl_hu q c s L k n r → post (nI r) (nI q, l, nI n, s, row', c)) :
    ∃ n26 : Nat, wY_holdsUntil_26 post (nI L) (nI q) l (nI n) n26 (nI k) s row c := by
  have main : ∀ d p row2, p + d = n → k ≤ p → (∀ i, i < p → row2 i = s i) → (∀ p', k ≤ p' → p' < p → rl_cs q c s L p' = s p') → wY_holdsUntil_26 post (nI L) (nI q) l (nI n) (d + 1) (nI p) s row2 c := by
    intro d
    induction d with
    | zero =>
      intro p row2 hp hkp h0 h1
      exact br_t (nI_le (by omega) (by omega)) (h n row2 ⟨hk, Nat.le_refl _, fun p' a b => h1 p' a (by omega), fun z => absurd z (by omega)⟩)
    | succ d ih =>
      intro p row2 hp hkp h0 h1
      have e : rl_cs q c row2 L p = rl_cs q c s L p := rl_cs_congr (by omega) (fun _ _ _ => rfl) h0
      refine br_f (nI_ge (by omega) (by omega)) (ry_sum hok (by omega) (by omega) ⟨vp_in_nI (by omega) (by omega), nm_r (e' := upd row2 p (rl_cs q c s L p)) (by rw [nI_clamp (by omega), e]) ⟨vp_in_nI (by omega) (by omega), vp_in_nI (by omega) (by omega), ?_⟩⟩)
      rw [nI_clamp (by omega), pk_us]
      refine br_c (fun z => nm_r (nI_1 p) (ih (p + 1) _ (by omega) (by omega) ?_ ?_)) (fun z => h p _ ⟨hkp, by omega, h1, fun _ => z⟩)
      · intro i hi
        by_cases zi : i = p
        · rw [zi, pk_us]; exact z
        · rw [pk_un zi]; exact h0 i (by omega)
      · intro p' a b
        by_cases zi : p' = p
        · rw [zi]; exact z
        · exact h1 p' a (by omega)
  exact Exists.intro (n - k + 1) (main (n - k) k row (by omega) (Nat.le_refl _) hs (fun p' a b => absurd b (by omega)))
theorem rx_back {post : Int32 → SX → Prop} {q n : Nat} {l sl tc : Int32} {S st tp : Nat → Int32} (hok : rl_ok q n) (hn : n ≤ 12)
    (h : ∀ st' L t tp', (∀ j, j < n → st' j = S (n - 1 - j)) → rl_ls q st' n L t → post (nI L) (nI q, l, nI n, nI n, nI L, S, st', tp')) :
    wpX_complexityBackwards post (nI q, l, nI n, sl, tc, S, st, tp) := by
  have main : ∀ d j st, j + d = n → (∀ i, i < j → st i = S (n - 1 - i)) → wX_complexityBackwards_2 post (nI q) l (nI n) sl tc (d + 1) (nI j) S st tp := by
    intro d
    induction d with
    | zero =>
      intro j st hj hs
      exact br_t (nI_le (by omega) (by omega)) (rx_least hok (fun L t tp' hl hD => h st L t tp' (fun i hi => hs i (by omega)) hl))
    | succ d ih =>
      intro j st hj hs
      have e1 : nI n - 1 - nI j = nI (n - 1 - j) := by
        obtain ⟨w, rfl⟩ : ∃ w, n = w + 1 := ⟨n - 1, by omega⟩
        rw [nI_pred, pk_sub (by omega)]
        rfl
      refine br_f (nI_ge (by omega) (by omega)) ⟨?_, vp_in_nI (by omega) (by omega), nm_r (e' := upd st j (S (n - 1 - j))) ?_ (nm_r (nI_1 j) (ih (j + 1) _ (by omega) ?_))⟩
      · rw [e1]; exact vp_in_nI (by omega) (by omega)
      · rw [e1, nI_clamp (by omega), nI_clamp (by omega)]
      · intro i hi
        by_cases z : i = j
        · rw [z, pk_us]
        · rw [pk_un z]; exact hs i (by omega)
  exact Exists.intro (n + 1) (main n 0 st (by omega) (fun i hi => absurd hi (by omega)))
theorem ry_back {post : Int32 → SY → Prop} {q n : Nat} {l : Int32} {s row c : Nat → Int32} (hok : rl_ok q n) (hn : n ≤ 12)
    (h : ∀ row' L t c', (∀ j, j < n → row' j = s (n - 1 - j)) → rl_ls q row' n L t → post (nI L) (nI q, l, nI n, s, row', c')) :
    wpY_complexityBackwards post (nI q, l, nI n, s, row, c) := by
  have main : ∀ d j row, j + d = n → (∀ i, i < j → row i = s (n - 1 - i)) → wY_complexityBackwards_2 post (nI q) l (nI n) (d + 1) (nI j) s row c := by
    intro d
    induction d with
    | zero =>
      intro j row hj hs
      exact br_t (nI_le (by omega) (by omega)) (ry_least hok (fun L t c' hl hD => h row L t c' (fun i hi => hs i (by omega)) hl))
    | succ d ih =>
      intro j row hj hs
      have e1 : nI n - 1 - nI j = nI (n - 1 - j) := by
        obtain ⟨w, rfl⟩ : ∃ w, n = w + 1 := ⟨n - 1, by omega⟩
        rw [nI_pred, pk_sub (by omega)]
        rfl
      refine br_f (nI_ge (by omega) (by omega)) ⟨?_, vp_in_nI (by omega) (by omega), nm_r (e' := upd row j (s (n - 1 - j))) ?_ (nm_r (nI_1 j) (ih (j + 1) _ (by omega) ?_))⟩
      · rw [e1]; exact vp_in_nI (by omega) (by omega)
      · rw [e1, nI_clamp (by omega), nI_clamp (by omega)]
      · intro i hi
        by_cases z : i = j
        · rw [z, pk_us]
        · rw [pk_un z]; exact hs i (by omega)
  exact Exists.intro (n + 1) (main n 0 row (by omega) (fun i hi => absurd hi (by omega)))
theorem ry_cx {post : Int32 → SY → Prop} {q a b : Nat} {l n : Int32} {s row c : Nat → Int32} (hok : rl_ok q (b - a)) (hab : a ≤ b) (hb : b ≤ 12)
    (h : ∀ row' L t c', (∀ j, j < b - a → row' j = s (a + j)) → rl_ls q row' (b - a) L t → post (nI L) (nI q, l, n, s, row', c')) :
    ∃ n21 : Nat, wY_complexity_21 post (nI a) (nI b) (nI q) l n n21 (nI a) s row c := by
  have main : ∀ d j row, j + d = b → a ≤ j → (∀ i, i < j - a → row i = s (a + i)) → wY_complexity_21 post (nI a) (nI b) (nI q) l n (d + 1) (nI j) s row c := by
    intro d
    induction d with
    | zero =>
      intro j row hj haj hs
      refine br_t (nI_le (by omega) (by omega)) ?_
      rw [pk_sub hab]
      exact ry_least hok (fun L t c' hl hD => h row L t c' (fun i hi => hs i (by omega)) hl)
    | succ d ih =>
      intro j row hj haj hs
      refine br_f (nI_ge (by omega) (by omega)) ⟨vp_in_nI (by omega) (by omega), ?_, nm_r (e' := upd row (j - a) (s j)) ?_ (nm_r (nI_1 j) (ih (j + 1) _ (by omega) (by omega) ?_))⟩
      · rw [pk_sub haj]; exact vp_in_nI (by omega) (by omega)
      · rw [pk_sub haj, nI_clamp (by omega), nI_clamp (by omega)]
      · intro i hi
        by_cases z : i = j - a
        · rw [z, pk_us]
          exact congrArg s (by omega)
        · rw [pk_un z]; exact hs i (by omega)
  exact Exists.intro (b - a + 1) (main (b - a) a row (by omega) (Nat.le_refl _) (fun i hi => absurd hi (by omega)))
