/-- a plus the widths of m words from i on -/
def pg_sum (w : Nat → Int32) : Nat → Nat → Int32 → Int32
  | 0, _, a => a
  | m + 1, i, a => pg_sum w m (i + 1) (a + w i)
/-- the length of the line i .. j -/
def pg_len (w : Nat → Int32) (i j : Nat) : Int32 := pg_sum w (j + 1 - i) i ((nI j - nI i) * 2)
def pg_W (n : Nat) (w : Nat → Int32) : Prop := ∀ k, k < n → ∃ a, a ≤ 12 ∧ w k = nI a
theorem pg_sum_b {w : Nat → Int32} {n : Nat} (hw : pg_W n w) : ∀ m i a, i + m ≤ n → ∃ b, b ≤ a + 12 * m ∧ pg_sum w m i (nI a) = nI b := by
  intro m
  induction m with
  | zero => intro i a _; exact ⟨a, by omega, rfl⟩
  | succ m ih =>
    intro i a h
    obtain ⟨y, hy, ey⟩ := hw i (by omega)
    obtain ⟨b, hb, eb⟩ := ih (i + 1) (a + y) (by omega)
    refine ⟨b, by omega, ?_⟩
    show pg_sum w m (i + 1) (nI a + w i) = nI b
    rw [ey, nI_add]
    exact eb
theorem pg_len_b {w : Nat → Int32} {n i j : Nat} (hw : pg_W n w) (hn : n ≤ 10) (hij : i ≤ j) (hj : j < n) : ∃ b, b ≤ 138 ∧ pg_len w i j = nI b := by
  obtain ⟨b, hb, eb⟩ := pg_sum_b hw (j + 1 - i) i ((j - i) * 2) (by omega)
  refine ⟨b, by omega, ?_⟩
  unfold pg_len
  rw [pk_sub hij, show (2 : Int32) = nI 2 from rfl, pk_mul]
  exact eb
theorem pg_sq {l b : Nat} (hl : l ≤ 60) (hb : b ≤ 138) : ∃ q, q ≤ 19044 ∧ (nI l - nI b) * (nI l - nI b) = nI q := by
  by_cases h : b ≤ l
  · refine ⟨(l - b) * (l - b), ?_, ?_⟩
    · exact Nat.le_trans (Nat.mul_le_mul (show l - b ≤ 138 by omega) (show l - b ≤ 138 by omega)) (by decide)
    · rw [pk_sub h, pk_mul]
  · have e : (nI l - nI b) * (nI l - nI b) = (nI b - nI l) * (nI b - nI l) := by grind
    refine ⟨(b - l) * (b - l), ?_, ?_⟩
    · exact Nat.le_trans (Nat.mul_le_mul (show b - l ≤ 138 by omega) (show b - l ≤ 138 by omega)) (by decide)
    · rw [e, pk_sub (by omega), pk_mul]
/-- the badness of the line i .. j of n words -/
def pg_bd (w : Nat → Int32) (L : Int32) (n i j : Nat) : Int32 :=
  if L - pg_len w i j < 0 then (L - pg_len w i j) * (L - pg_len w i j) * 3 else if j + 1 = n then 0 else (L - pg_len w i j) * (L - pg_len w i j)
theorem pg_bd_p {w : Nat → Int32} {n i j l : Nat} (hw : pg_W n w) (hn : n ≤ 10) (hl : l ≤ 60) (hij : i ≤ j) (hj : j < n) : ¬ pg_bd w (nI l) n i j < 0 := by
  obtain ⟨b, hb, eb⟩ := pg_len_b hw hn hij hj
  obtain ⟨q, hq, eq⟩ := pg_sq hl hb
  unfold pg_bd
  rw [eb, eq]
  split
  · rw [show (3 : Int32) = nI 3 from rfl, pk_mul]
    exact nI_pos (by omega)
  · split
    · decide
    · exact nI_pos (by omega)
theorem pg_fit {w : Nat → Int32} {n i j l : Nat} (hw : pg_W n w) (hn : n ≤ 10) (hl : l ≤ 60) (hij : i ≤ j) (hj : j < n) : nI l - pg_len w i j < nI i - nI j ↔ ¬ pg_len w i j ≤ nI l + (nI j - nI i) := by
  obtain ⟨b, hb, eb⟩ := pg_len_b hw hn hij hj
  rw [eb, Int32.lt_iff_toInt_lt, pk_sub_toInt (by omega) (by omega), pk_sub_toInt (by omega) (by omega), pk_sub hij, nI_add, nI_leI (by omega) (by omega)]
  omega
/-- the cost from word k on: m words to come, t so far, the line began at b, h: the last line ended after a penalty above 0 -/
def pg_cost (w p : Nat → Int32) (L x : Int32) (n : Nat) (E : Nat → Bool) : Nat → Nat → Int32 → Nat → Bool → Int32
  | 0, _, t, _, _ => t
  | m + 1, k, t, b, h =>
    if E k = true then
      if pg_len w b k ≤ L + (nI k - nI b) then
        if k + 1 = n then t + pg_bd w L n b k
        else pg_cost w p L x n E m (k + 1) (t + pg_bd w L n b k + p k + (if h = true ∧ 0 < p k then x else 0)) (k + 1) (decide (0 < p k))
      else pg_NO
    else pg_cost w p L x n E m (k + 1) t b h
def pg_C (w p : Nat → Int32) (L x : Int32) (n : Nat) (E : Nat → Bool) : Int32 := pg_cost w p L x n E n 0 0 0 false
/-- the last word of line k, lines counted from q at word i on, m words to come -/
def pg_end (E : Nat → Bool) (k : Int32) : Nat → Nat → Nat → Int32
  | 0, _, _ => -1
  | m + 1, i, q => if E i = true then (if nI q = k then nI i else pg_end E k m (i + 1) (q + 1)) else pg_end E k m (i + 1) q
/-- an end is -1 or a word -/
theorem pg_end_r (E : Nat → Bool) (k : Int32) : ∀ m i q, pg_end E k m i q = -1 ∨ ∃ j, i ≤ j ∧ j < i + m ∧ pg_end E k m i q = nI j := by
  intro m
  induction m with
  | zero => intro i q; exact Or.inl rfl
  | succ m ih =>
    intro i q
    simp only [pg_end]
    split
    · split
      · exact Or.inr ⟨i, by omega, by omega, rfl⟩
      · rcases ih (i + 1) (q + 1) with a | ⟨j, a, b, c⟩
        · exact Or.inl a
        · exact Or.inr ⟨j, by omega, by omega, c⟩
    · rcases ih (i + 1) q with a | ⟨j, a, b, c⟩
      · exact Or.inl a
      · exact Or.inr ⟨j, by omega, by omega, c⟩
theorem pg_end_n (E : Nat → Bool) {k : Int32} (hk : k < 0) : ∀ m i q, q + m < 2 ^ 31 → pg_end E k m i q = -1 := by
  intro m
  induction m with
  | zero => intro i q _; rfl
  | succ m ih =>
    intro i q h
    have h0 : ¬ nI q = k := fun z => nI_pos (n := q) (by omega) (by rw [z]; exact hk)
    simp only [pg_end, if_neg h0, ih (i + 1) (q + 1) (by omega), ih (i + 1) q (by omega)]
    split <;> rfl
/-- one bit, as both sides read it -/
theorem pg_bit {c t : Nat} (hc : c < 2 ^ 31) (ht : t < 32) : (nI c >>> (nI t &&& 31)) &&& 1 = nI (if c.testBit t = true then 1 else 0) := by
  have h2 : c / 2 ^ t ≤ c := Nat.div_le_self _ _
  rw [pk_shrN hc _ t (s_l t ht), pk_andN (m := 1) (by omega) 1 (by decide), Nat.testBit_eq_decide_div_mod_eq]
  congr 1
  generalize c / 2 ^ t = m
  simp only [decide_eq_true_eq]
  split <;> omega
theorem pg_must : ∀ i, i < 9 → ∀ s, s < 512 → ((((1 : Int32) <<< (nI i &&& 31)) &&& (nI s ^^^ (-1))) = 0 ↔ s.testBit i = true) := by decide +kernel
theorem pg_nev : ∀ i, i < 9 → ∀ s, s < 512 → ((((1 : Int32) <<< (nI i &&& 31)) &&& nI s) = 0 ↔ ¬ s.testBit i = true) := by decide +kernel
theorem pg_shl {k : Nat} (hk : k < 31) : (1 : Int32) <<< (nI k &&& 31) = nI (2 ^ k) := by
  have h : 1 * 2 ^ k < 2 ^ 32 := by
    rw [Nat.one_mul]
    exact Nat.pow_lt_pow_right (by decide) (by omega)
  have e := pk_shlN (n := 1) (nI k &&& 31) k (s_l k (by omega)) h
  rw [Nat.one_mul] at e
  exact e
