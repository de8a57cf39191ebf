/-- how many of e 0 .. e (k-1) hold -/
def pg_cnt (e : Nat → Bool) : Nat → Nat
  | 0 => 0
  | k + 1 => pg_cnt e k + (if e k = true then 1 else 0)
theorem pg_cnt_congr {e f : Nat → Bool} {k : Nat} (h : ∀ i, i < k → e i = f i) : pg_cnt e k = pg_cnt f k := by
  induction k with
  | zero => rfl
  | succ k ih =>
    have h1 := ih (fun i hi => h i (by omega))
    have h2 := h k (by omega)
    simp only [pg_cnt, h1, h2]
theorem pg_cnt_le (e : Nat → Bool) (k : Nat) : pg_cnt e k ≤ k := by
  induction k with
  | zero => exact Nat.le_refl 0
  | succ k ih => simp only [pg_cnt]; split <;> omega
theorem pg_cnt_add (e : Nat → Bool) (a b : Nat) : pg_cnt e (a + b) = pg_cnt e a + pg_cnt (fun i => e (a + i)) b := by
  induction b with
  | zero => rfl
  | succ b ih =>
    show pg_cnt e (a + b) + (if e (a + b) = true then 1 else 0) = _
    rw [ih]
    simp only [pg_cnt]
    omega
theorem pg_cnt_eo (e : Nat → Bool) (N : Nat) : pg_cnt e (2 * N) = pg_cnt (fun i => e (2 * i)) N + pg_cnt (fun i => e (2 * i + 1)) N := by
  induction N with
  | zero => rfl
  | succ N ih =>
    have h : 2 * (N + 1) = 2 * N + 1 + 1 := by omega
    rw [h]
    simp only [pg_cnt, ih]
    omega
theorem pg_cnt_none {e : Nat → Bool} {a : Nat} : ∀ b, a ≤ b → (∀ i, a ≤ i → i < b → e i = false) → pg_cnt e b = pg_cnt e a := by
  intro b
  induction b with
  | zero =>
    intro h _
    have h0 : a = 0 := by omega
    rw [h0]
  | succ b ih =>
    intro h hn
    by_cases hb : a ≤ b
    · have h1 := ih hb (fun i h1 h2 => hn i h1 (by omega))
      have h2 := hn b hb (by omega)
      simp [pg_cnt, h1, h2]
    · have h0 : a = b + 1 := by omega
      rw [h0]
/-- the m lowest bits of s, turned round -/
def pg_rv : Nat → Nat → Nat
  | 0, _ => 0
  | m + 1, s => 2 ^ m * (s % 2) + pg_rv m (s / 2)
theorem pg_rv_lt : ∀ m s, pg_rv m s < 2 ^ m := by
  intro m
  induction m with
  | zero => intro s; exact Nat.one_pos
  | succ m ih =>
    intro s
    have h := ih (s / 2)
    simp only [pg_rv]
    rcases Nat.mod_two_eq_zero_or_one s with e | e <;> rw [e, Nat.pow_succ] <;> omega
theorem pg_rv_tb : ∀ m s i, i < m → (pg_rv m s).testBit i = s.testBit (m - 1 - i) := by
  intro m
  induction m with
  | zero => intro s i h; omega
  | succ m ih =>
    intro s i h
    show (2 ^ m * (s % 2) + pg_rv m (s / 2)).testBit i = s.testBit (m + 1 - 1 - i)
    rw [Nat.testBit_two_pow_mul_add _ (pg_rv_lt m (s / 2))]
    by_cases hi : i < m
    · have e : m + 1 - 1 - i = (m - 1 - i) + 1 := by omega
      rw [if_pos hi, ih _ _ hi, e, Nat.testBit_add_one]
    · have h0 : i = m := by omega
      subst h0
      have h2 : i + 1 - 1 - i = 0 := by omega
      rw [if_neg hi, Nat.sub_self, h2, Nat.testBit_zero, Nat.testBit_zero, Nat.mod_mod]
theorem pg_rv_rv {m s : Nat} (h : s < 2 ^ m) : pg_rv m (pg_rv m s) = s := by
  apply Nat.eq_of_testBit_eq
  intro i
  by_cases hi : i < m
  · have e : m - 1 - (m - 1 - i) = i := by omega
    rw [pg_rv_tb m _ i hi, pg_rv_tb m _ _ (by omega), e]
  · have hp : 2 ^ m ≤ 2 ^ i := Nat.pow_le_pow_right (by decide) (by omega)
    rw [Nat.testBit_lt_two_pow (Nat.lt_of_lt_of_le (pg_rv_lt m _) hp), Nat.testBit_lt_two_pow (Nat.lt_of_lt_of_le h hp)]
theorem pg_cnt_rv : ∀ (m : Nat) (Q : Nat → Bool), pg_cnt (fun s => Q (pg_rv m s)) (2 ^ m) = pg_cnt Q (2 ^ m) := by
  intro m
  induction m with
  | zero => intro Q; rfl
  | succ m ih =>
    intro Q
    have e : (2 : Nat) ^ (m + 1) = 2 ^ m + 2 ^ m := by rw [Nat.pow_succ]; omega
    have e2 : (2 : Nat) ^ (m + 1) = 2 * 2 ^ m := by omega
    have h1 := pg_cnt_add Q (2 ^ m) (2 ^ m)
    have h2 := pg_cnt_eo (fun s => Q (pg_rv (m + 1) s)) (2 ^ m)
    have h3 := ih Q
    have h4 := ih (fun i => Q (2 ^ m + i))
    have h5 : pg_cnt (fun i => Q (pg_rv (m + 1) (2 * i))) (2 ^ m) = pg_cnt (fun s => Q (pg_rv m s)) (2 ^ m) := by
      apply pg_cnt_congr
      intro i _
      have a : 2 * i % 2 = 0 := by omega
      have b : 2 * i / 2 = i := by omega
      simp only [pg_rv, a, b, Nat.mul_zero, Nat.zero_add]
    have h6 : pg_cnt (fun i => Q (pg_rv (m + 1) (2 * i + 1))) (2 ^ m) = pg_cnt (fun s => Q (2 ^ m + pg_rv m s)) (2 ^ m) := by
      apply pg_cnt_congr
      intro i _
      have a : (2 * i + 1) % 2 = 1 := by omega
      have b : (2 * i + 1) / 2 = i := by omega
      simp only [pg_rv, a, b, Nat.mul_one]
    try dsimp only at h2
    try dsimp only at h4
    rw [← e] at h1
    rw [← e2] at h2
    rw [h2, h5, h6, h1]
    omega
/-- the reference's walk along two masks: the first bit that differs decides -/
def pg_bf : Nat → Nat → Nat → Bool
  | 0, _, _ => false
  | f + 1, a, b => if a % 2 = b % 2 then pg_bf f (a / 2) (b / 2) else decide (a % 2 = 1)
theorem pg_bf_0 : ∀ f, pg_bf f 0 0 = false := by
  intro f
  induction f with
  | zero => rfl
  | succ f ih => simp [pg_bf, ih]
theorem pg_bf_rv : ∀ m f a b, m ≤ f → a < 2 ^ m → b < 2 ^ m → (pg_bf f a b = true ↔ pg_rv m b < pg_rv m a) := by
  intro m
  induction m with
  | zero =>
    intro f a b _ ha hb
    rw [Nat.pow_zero] at ha hb
    have a0 : a = 0 := by omega
    have b0 : b = 0 := by omega
    subst a0 b0
    simp [pg_bf_0, pg_rv]
  | succ m ih =>
    intro f a b hf ha hb
    cases f with
    | zero => omega
    | succ f =>
      have hp : (2 : Nat) ^ (m + 1) = 2 * 2 ^ m := by rw [Nat.pow_succ]; omega
      have la := pg_rv_lt m (a / 2)
      have lb := pg_rv_lt m (b / 2)
      simp only [pg_bf, pg_rv]
      by_cases e : a % 2 = b % 2
      · rw [if_pos e, ih f (a / 2) (b / 2) (by omega) (by omega) (by omega), e]
        omega
      · rw [if_neg e]
        rcases Nat.mod_two_eq_zero_or_one a with e1 | e1 <;> rcases Nat.mod_two_eq_zero_or_one b with e2 | e2
        · omega
        · rw [e1, e2]; simp; omega
        · rw [e1, e2]; simp; omega
        · omega
/-- after which words a line ends: the component's mask c, the reference's mask s, of n words -/
def pg_EX (n c : Nat) : Nat → Bool := fun i => decide (n ≤ i + 1) || c.testBit (n - 2 - i)
def pg_EY (n s : Nat) : Nat → Bool := fun i => decide (n ≤ i + 1) || s.testBit i
theorem pg_EX_rv (n s : Nat) : pg_EX n (pg_rv (n - 1) s) = pg_EY n s := by
  funext i
  unfold pg_EX pg_EY
  by_cases h : n ≤ i + 1
  · simp [h]
  · have e : n - 1 - 1 - (n - 2 - i) = i := by omega
    rw [pg_rv_tb (n - 1) s (n - 2 - i) (by omega), e]
theorem pg_pre {n s i : Nat} (h : i < n) : pg_cnt (pg_EY n s) i = pg_cnt s.testBit i := by
  apply pg_cnt_congr
  intro k hk
  unfold pg_EY
  rw [decide_eq_false (by omega), Bool.false_or]
theorem pg_lines {n s : Nat} (hn : n ≤ 10) (hs : s < 2 ^ (n - 1)) : pg_cnt (pg_EY n s) n = (if n = 0 then 0 else 1) + pg_cnt s.testBit 10 := by
  cases n with
  | zero =>
    have h0 : s = 0 := by rw [Nat.zero_sub, Nat.pow_zero] at hs; omega
    subst h0
    first | decide | rfl
  | succ n =>
    have h1 : pg_EY (n + 1) s n = true := by simp [pg_EY]
    have h2 : pg_cnt (pg_EY (n + 1) s) n = pg_cnt s.testBit n := pg_pre (by omega)
    have h3 : pg_cnt s.testBit 10 = pg_cnt s.testBit n := pg_cnt_none 10 (by omega) (fun i a _ => Nat.testBit_lt_two_pow (Nat.lt_of_lt_of_le hs (Nat.pow_le_pow_right (by decide) (by omega))))
    show pg_cnt (pg_EY (n + 1) s) n + (if pg_EY (n + 1) s n = true then 1 else 0) = _
    rw [h1, h2, h3, if_pos rfl, if_neg (by omega)]
    omega
theorem pg_M9 {n c : Nat} (hn : n ≤ 10) (hc : c < 2 ^ (n - 1)) : c < 512 := Nat.lt_of_lt_of_le hc (Nat.pow_le_pow_right (n := 2) (i := n - 1) (j := 9) (by decide) (by omega))
