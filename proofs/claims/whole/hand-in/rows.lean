section
theorem pk_us {f : Nat → Int32} {k : Nat} {x : Int32} : upd f k x k = x := if_pos rfl
theorem pk_un {f : Nat → Int32} {k j : Nat} {x : Int32} (h : j ≠ k) : upd f k x j = f j := if_neg h
theorem pk_sub {a b : Nat} (h : b ≤ a) : nI a - nI b = nI (a - b) := by
  obtain ⟨c, rfl⟩ : ∃ c, a = c + b := ⟨a - b, by omega⟩
  rw [← nI_add, Int32.add_sub_cancel, Nat.add_sub_cancel]
theorem pk_m1 (n : Nat) : nI (n + 1) + (-1) = nI n := by
  rw [← nI_1, Int32.add_assoc, show (1 : Int32) + (-1) = 0 from rfl, Int32.add_zero]
theorem pk_mul (a b : Nat) : nI a * nI b = nI (a * b) := (Int32.ofNat_mul a b).symm
theorem pk_sub_toInt {a b : Nat} (ha : a < 2 ^ 30) (hb : b < 2 ^ 30) : (nI a - nI b).toInt = (a : Int) - b := by
  rw [Int32.toInt_sub, nI_toInt (by omega), nI_toInt (by omega)]
  exact Int.bmod_eq_of_le (by omega) (by omega)
theorem pk_sneg {a b : Nat} (hb : b < 2 ^ 30) (h : a < b) : nI a - nI b < 0 := by
  rw [Int32.lt_iff_toInt_lt, pk_sub_toInt (by omega) hb, show (0 : Int32).toInt = 0 from by decide]
  omega
theorem pk_ix (x : Int32) {n : Nat} (hn : n < 2 ^ 31) : x < 0 ∨ nI n ≤ x ∨ ∃ j : Nat, j < n ∧ x = nI j := by
  by_cases h : x < 0
  · exact Or.inl h
  · obtain ⟨j, hj, rfl⟩ := nI_of h
    by_cases h2 : j < n
    · exact Or.inr (Or.inr ⟨j, h2, rfl⟩)
    · exact Or.inr (Or.inl (nI_le (by omega) hj))
theorem pk_le {x y : Int32} {A B : Prop} (a b : Nat) (f : a ≤ b → A) (g : b < a → B) (hx : x = nI a := by rfl) (hy : y = nI b := by rfl) (ha : a < 2 ^ 31 := by omega) (hb : b < 2 ^ 31 := by omega) : (x ≤ y → A) ∧ (¬ x ≤ y → B) := by
  subst hx hy
  rw [nI_leI ha hb]
  exact ⟨f, fun z => g (by omega)⟩
theorem pk_lt {x y : Int32} {A B : Prop} (a b : Nat) (f : a < b → A) (g : b ≤ a → B) (hx : x = nI a := by rfl) (hy : y = nI b := by rfl) (ha : a < 2 ^ 31 := by omega) (hb : b < 2 ^ 31 := by omega) : (x < y → A) ∧ (¬ x < y → B) := by
  subst hx hy
  rw [nI_ltI ha hb]
  exact ⟨f, fun z => g (by omega)⟩
theorem pk_eq {x y : Int32} {A B : Prop} (a b : Nat) (f : a = b → A) (g : a ≠ b → B) (hx : x = nI a := by rfl) (hy : y = nI b := by rfl) (ha : a < 2 ^ 31 := by omega) (hb : b < 2 ^ 31 := by omega) : (x = y → A) ∧ (¬ x = y → B) := by
  subst hx hy
  rw [nI_eq ha hb]
  exact ⟨f, g⟩
theorem pk_in {x : Int32} (n N : Nat) (h : n < N) (hx : x = nI n := by rfl) (hN : N < 2 ^ 31 := by omega) : vp_in x N := by
  subst hx
  exact vp_in_nI h hN
theorem pk_cl {x : Int32} (n : Nat) (hx : x = nI n := by rfl) (h : n < 2 ^ 31 := by omega) : x.toNatClampNeg = n := by
  subst hx
  exact nI_clamp h
theorem pk_tn {n : Nat} (h : n < 2 ^ 32) : (nI n).toBitVec.toNat = n := Nat.mod_eq_of_lt h
theorem pk_and (x : Int32) {m : Int32} (k : Nat) (hm : m.toBitVec.toNat = 2 ^ k - 1) : x &&& m = nI (x.toBitVec.toNat % 2 ^ k) := by
  apply Int32.toBitVec_inj.mp
  apply BitVec.eq_of_toNat_eq
  rw [Int32.toBitVec_and, BitVec.toNat_and, hm, Nat.and_two_pow_sub_one_eq_mod]
  show _ = (BitVec.ofNat 32 _).toNat
  rw [BitVec.toNat_ofNat]
  exact (Nat.mod_eq_of_lt (Nat.lt_of_le_of_lt (Nat.mod_le _ _) x.toBitVec.isLt)).symm
theorem pk_andN {n : Nat} (h : n < 2 ^ 32) {m : Int32} (k : Nat) (hm : m.toBitVec.toNat = 2 ^ k - 1) : nI n &&& m = nI (n % 2 ^ k) := by
  rw [pk_and _ k hm, pk_tn h]
theorem pk_shl (a s : Int32) (k : Nat) (hs : (s.toBitVec.smod 32).toNat = k) : (a <<< s).toBitVec.toNat = a.toBitVec.toNat * 2 ^ k % 2 ^ 32 := by
  show (a.toBitVec <<< (s.toBitVec.smod 32).toNat).toNat = _
  rw [hs, BitVec.toNat_shiftLeft, Nat.shiftLeft_eq]
theorem pk_shlN {n : Nat} (s : Int32) (k : Nat) (hs : (s.toBitVec.smod 32).toNat = k) (h : n * 2 ^ k < 2 ^ 32) : nI n <<< s = nI (n * 2 ^ k) := by
  apply Int32.toBitVec_inj.mp
  apply BitVec.eq_of_toNat_eq
  have hn : n < 2 ^ 32 := Nat.lt_of_le_of_lt (Nat.le_mul_of_pos_right n (Nat.two_pow_pos k)) h
  rw [pk_shl _ _ k hs, pk_tn hn, pk_tn h, Nat.mod_eq_of_lt h]
theorem pk_shr (a s : Int32) (k : Nat) (hs : (s.toBitVec.smod 32).toNat = k) : (a >>> s).toInt = a.toInt >>> k := by
  show (a.toBitVec.sshiftRight (s.toBitVec.smod 32).toNat).toInt = _
  rw [hs, BitVec.toInt_sshiftRight]
  rfl
theorem pk_shrN {n : Nat} (h : n < 2 ^ 31) (s : Int32) (k : Nat) (hs : (s.toBitVec.smod 32).toNat = k) : nI n >>> s = nI (n / 2 ^ k) := by
  apply Int32.toInt_inj.mp
  have h2 : n / 2 ^ k ≤ n := Nat.div_le_self _ _
  rw [pk_shr _ _ k hs, nI_toInt h, nI_toInt (by omega), Int.shiftRight_eq_div_pow]
  rfl
theorem s_l : ∀ n, n < 32 → ((nI n &&& 31).toBitVec.smod 32).toNat = n := by decide +kernel
end
section
/-- how many of e 0 .. e (k-1) hold -/
def pg_cnt (e : Nat → Bool) : Nat → Nat
  | 0 => 0
  | k + 1 => pg_cnt e k + (if e k = true then 1 else 0)
theorem pg_cnt_congr {e f : Nat → Bool} {k : Nat} (h : ∀ i, i < k → e i = f i) : pg_cnt e k = pg_cnt f k := by
  induction k with
  | zero => rfl
  | succ k ih =>
    have h1 := ih (fun i hi => h i (by omega))
    have h2 := h k (by omega)
    simp only [pg_cnt, h1, h2]
theorem pg_cnt_le (e : Nat → Bool) (k : Nat) : pg_cnt e k ≤ k := by
  induction k with
  | zero => exact Nat.le_refl 0
  | succ k ih => simp only [pg_cnt]; split <;> omega
theorem pg_cnt_add (e : Nat → Bool) (a b : Nat) : pg_cnt e (a + b) = pg_cnt e a + pg_cnt (fun i => e (a + i)) b := by
  induction b with
  | zero => rfl
  | succ b ih =>
    show pg_cnt e (a + b) + (if e (a + b) = true then 1 else 0) = _
    rw [ih]
    simp only [pg_cnt]
    omega
theorem pg_cnt_eo (e : Nat → Bool) (N : Nat) : pg_cnt e (2 * N) = pg_cnt (fun i => e (2 * i)) N + pg_cnt (fun i => e (2 * i + 1)) N := by
  induction N with
  | zero => rfl
  | succ N ih =>
    have h : 2 * (N + 1) = 2 * N + 1 + 1 := by omega
    rw [h]
    simp only [pg_cnt, ih]
    omega
theorem pg_cnt_none {e : Nat → Bool} {a : Nat} : ∀ b, a ≤ b → (∀ i, a ≤ i → i < b → e i = false) → pg_cnt e b = pg_cnt e a := by
  intro b
  induction b with
  | zero =>
    intro h _
    have h0 : a = 0 := by omega
    rw [h0]
  | succ b ih =>
    intro h hn
    by_cases hb : a ≤ b
    · have h1 := ih hb (fun i h1 h2 => hn i h1 (by omega))
      have h2 := hn b hb (by omega)
      simp [pg_cnt, h1, h2]
    · have h0 : a = b + 1 := by omega
      rw [h0]
/-- the m lowest bits of s, turned round -/
def pg_rv : Nat → Nat → Nat
  | 0, _ => 0
  | m + 1, s => 2 ^ m * (s % 2) + pg_rv m (s / 2)
theorem pg_rv_lt : ∀ m s, pg_rv m s < 2 ^ m := by
  intro m
  induction m with
  | zero => intro s; exact Nat.one_pos
  | succ m ih =>
    intro s
    have h := ih (s / 2)
    simp only [pg_rv]
    rcases Nat.mod_two_eq_zero_or_one s with e | e <;> rw [e, Nat.pow_succ] <;> omega
theorem pg_rv_tb : ∀ m s i, i < m → (pg_rv m s).testBit i = s.testBit (m - 1 - i) := by
  intro m
  induction m with
  | zero => intro s i h; omega
  | succ m ih =>
    intro s i h
    show (2 ^ m * (s % 2) + pg_rv m (s / 2)).testBit i = s.testBit (m + 1 - 1 - i)
    rw [Nat.testBit_two_pow_mul_add _ (pg_rv_lt m (s / 2))]
    by_cases hi : i < m
    · have e : m + 1 - 1 - i = (m - 1 - i) + 1 := by omega
      rw [if_pos hi, ih _ _ hi, e, Nat.testBit_add_one]
    · have h0 : i = m := by omega
      subst h0
      have h2 : i + 1 - 1 - i = 0 := by omega
      rw [if_neg hi, Nat.sub_self, h2, Nat.testBit_zero, Nat.testBit_zero, Nat.mod_mod]
theorem pg_rv_rv {m s : Nat} (h : s < 2 ^ m) : pg_rv m (pg_rv m s) = s := by
  apply Nat.eq_of_testBit_eq
  intro i
  by_cases hi : i < m
  · have e : m - 1 - (m - 1 - i) = i := by omega
    rw [pg_rv_tb m _ i hi, pg_rv_tb m _ _ (by omega), e]
  · have hp : 2 ^ m ≤ 2 ^ i := Nat.pow_le_pow_right (by decide) (by omega)
    rw [Nat.testBit_lt_two_pow (Nat.lt_of_lt_of_le (pg_rv_lt m _) hp), Nat.testBit_lt_two_pow (Nat.lt_of_lt_of_le h hp)]
theorem pg_cnt_rv : ∀ (m : Nat) (Q : Nat → Bool), pg_cnt (fun s => Q (pg_rv m s)) (2 ^ m) = pg_cnt Q (2 ^ m) := by
  intro m
  induction m with
  | zero => intro Q; rfl
  | succ m ih =>
    intro Q
    have e : (2 : Nat) ^ (m + 1) = 2 ^ m + 2 ^ m := by rw [Nat.pow_succ]; omega
    have e2 : (2 : Nat) ^ (m + 1) = 2 * 2 ^ m := by omega
    have h1 := pg_cnt_add Q (2 ^ m) (2 ^ m)
    have h2 := pg_cnt_eo (fun s => Q (pg_rv (m + 1) s)) (2 ^ m)
    have h3 := ih Q
    have h4 := ih (fun i => Q (2 ^ m + i))
    have h5 : pg_cnt (fun i => Q (pg_rv (m + 1) (2 * i))) (2 ^ m) = pg_cnt (fun s => Q (pg_rv m s)) (2 ^ m) := by
      apply pg_cnt_congr
      intro i _
      have a : 2 * i % 2 = 0 := by omega
      have b : 2 * i / 2 = i := by omega
      simp only [pg_rv, a, b, Nat.mul_zero, Nat.zero_add]
    have h6 : pg_cnt (fun i => Q (pg_rv (m + 1) (2 * i + 1))) (2 ^ m) = pg_cnt (fun s => Q (2 ^ m + pg_rv m s)) (2 ^ m) := by
      apply pg_cnt_congr
      intro i _
      have a : (2 * i + 1) % 2 = 1 := by omega
      have b : (2 * i + 1) / 2 = i := by omega
      simp only [pg_rv, a, b, Nat.mul_one]
    try dsimp only at h2
    try dsimp only at h4
    rw [← e] at h1
    rw [← e2] at h2
    rw [h2, h5, h6, h1]
    omega
/-- the reference's walk along two masks: the first bit that differs decides -/
def pg_bf : Nat → Nat → Nat → Bool
  | 0, _, _ => false
  | f + 1, a, b => if a % 2 = b % 2 then pg_bf f (a / 2) (b / 2) else decide (a % 2 = 1)
theorem pg_bf_0 : ∀ f, pg_bf f 0 0 = false := by
  intro f
  induction f with
  | zero => rfl
  | succ f ih => simp [pg_bf, ih]
theorem pg_bf_rv : ∀ m f a b, m ≤ f → a < 2 ^ m → b < 2 ^ m → (pg_bf f a b = true ↔ pg_rv m b < pg_rv m a) := by
  intro m
  induction m with
  | zero =>
    intro f a b _ ha hb
    rw [Nat.pow_zero] at ha hb
    have a0 : a = 0 := by omega
    have b0 : b = 0 := by omega
    subst a0 b0
    simp [pg_bf_0, pg_rv]
  | succ m ih =>
    intro f a b hf ha hb
    cases f with
    | zero => omega
    | succ f =>
      have hp : (2 : Nat) ^ (m + 1) = 2 * 2 ^ m := by rw [Nat.pow_succ]; omega
      have la := pg_rv_lt m (a / 2)
      have lb := pg_rv_lt m (b / 2)
      simp only [pg_bf, pg_rv]
      by_cases e : a % 2 = b % 2
      · rw [if_pos e, ih f (a / 2) (b / 2) (by omega) (by omega) (by omega), e]
        omega
      · rw [if_neg e]
        rcases Nat.mod_two_eq_zero_or_one a with e1 | e1 <;> rcases Nat.mod_two_eq_zero_or_one b with e2 | e2
        · omega
        · rw [e1, e2]; simp; omega
        · rw [e1, e2]; simp; omega
        · omega
/-- after which words a line ends: the component's mask c, the reference's mask s, of n words -/
def pg_EX (n c : Nat) : Nat → Bool := fun i => decide (n ≤ i + 1) || c.testBit (n - 2 - i)
def pg_EY (n s : Nat) : Nat → Bool := fun i => decide (n ≤ i + 1) || s.testBit i
theorem pg_EX_rv (n s : Nat) : pg_EX n (pg_rv (n - 1) s) = pg_EY n s := by
  funext i
  unfold pg_EX pg_EY
  by_cases h : n ≤ i + 1
  · simp [h]
  · have e : n - 1 - 1 - (n - 2 - i) = i := by omega
    rw [pg_rv_tb (n - 1) s (n - 2 - i) (by omega), e]
theorem pg_pre {n s i : Nat} (h : i < n) : pg_cnt (pg_EY n s) i = pg_cnt s.testBit i := by
  apply pg_cnt_congr
  intro k hk
  unfold pg_EY
  rw [decide_eq_false (by omega), Bool.false_or]
theorem pg_lines {n s : Nat} (hn : n ≤ 10) (hs : s < 2 ^ (n - 1)) : pg_cnt (pg_EY n s) n = (if n = 0 then 0 else 1) + pg_cnt s.testBit 10 := by
  cases n with
  | zero =>
    have h0 : s = 0 := by rw [Nat.zero_sub, Nat.pow_zero] at hs; omega
    subst h0
    first | decide | rfl
  | succ n =>
    have h1 : pg_EY (n + 1) s n = true := by simp [pg_EY]
    have h2 : pg_cnt (pg_EY (n + 1) s) n = pg_cnt s.testBit n := pg_pre (by omega)
    have h3 : pg_cnt s.testBit 10 = pg_cnt s.testBit n := pg_cnt_none 10 (by omega) (fun i a _ => Nat.testBit_lt_two_pow (Nat.lt_of_lt_of_le hs (Nat.pow_le_pow_right (by decide) (by omega))))
    show pg_cnt (pg_EY (n + 1) s) n + (if pg_EY (n + 1) s n = true then 1 else 0) = _
    rw [h1, h2, h3, if_pos rfl, if_neg (by omega)]
    omega
theorem pg_M9 {n c : Nat} (hn : n ≤ 10) (hc : c < 2 ^ (n - 1)) : c < 512 := Nat.lt_of_lt_of_le hc (Nat.pow_le_pow_right (n := 2) (i := n - 1) (j := 9) (by decide) (by omega))
end
section
abbrev pg_NO : Int32 := -1000000
/-- what a scan for the best of the masks D has found so far: none, or some b that beats all others -/
def pg_Inv (D : Nat → Prop) (v : Nat → Int32) (bt : Nat → Nat → Prop) : Option Nat → Prop
  | none => ∀ c, D c → v c = pg_NO
  | some b => D b ∧ v b ≠ pg_NO ∧ ∀ c, D c → v c ≠ pg_NO → c ≠ b → bt b c
theorem pg_i_0 {D : Nat → Prop} {v : Nat → Int32} {bt : Nat → Nat → Prop} (h : ∀ c, ¬ D c) : pg_Inv D v bt none := fun c hc => absurd hc (h c)
theorem pg_i_skip {D D' : Nat → Prop} {v : Nat → Int32} {bt : Nat → Nat → Prop} {o : Option Nat} {c : Nat} (hD : ∀ x, D' x ↔ (D x ∨ x = c)) (hv : v c = pg_NO) (h : pg_Inv D v bt o) : pg_Inv D' v bt o := by
  cases o with
  | none =>
    intro x hx
    rcases (hD x).mp hx with a | a
    · exact h x a
    · rw [a]; exact hv
  | some b =>
    obtain ⟨h1, h2, h3⟩ := h
    refine ⟨(hD b).mpr (Or.inl h1), h2, fun x hx hv' hn => ?_⟩
    rcases (hD x).mp hx with a | a
    · exact h3 x a hv' hn
    · rw [a] at hv'; exact absurd hv hv'
theorem pg_i_first {D D' : Nat → Prop} {v : Nat → Int32} {bt : Nat → Nat → Prop} {c : Nat} (hD : ∀ x, D' x ↔ (D x ∨ x = c)) (hv : v c ≠ pg_NO) (h : pg_Inv D v bt none) : pg_Inv D' v bt (some c) := by
  refine ⟨(hD c).mpr (Or.inr rfl), hv, fun x hx hv' hn => ?_⟩
  rcases (hD x).mp hx with a | a
  · exact absurd (h x a) hv'
  · exact absurd a hn
theorem pg_i_new {D D' : Nat → Prop} {v : Nat → Int32} {bt : Nat → Nat → Prop} {b c : Nat} (hD : ∀ x, D' x ↔ (D x ∨ x = c)) (tr : ∀ x, bt c b → bt b x → bt c x) (hv : v c ≠ pg_NO) (hb : bt c b) (h : pg_Inv D v bt (some b)) : pg_Inv D' v bt (some c) := by
  obtain ⟨h1, h2, h3⟩ := h
  refine ⟨(hD c).mpr (Or.inr rfl), hv, fun x hx hv' hn => ?_⟩
  rcases (hD x).mp hx with a | a
  · by_cases e : x = b
    · rw [e]; exact hb
    · exact tr x hb (h3 x a hv' e)
  · exact absurd a hn
theorem pg_i_old {D D' : Nat → Prop} {v : Nat → Int32} {bt : Nat → Nat → Prop} {b c : Nat} (hD : ∀ x, D' x ↔ (D x ∨ x = c)) (hb : bt b c) (h : pg_Inv D v bt (some b)) : pg_Inv D' v bt (some b) := by
  obtain ⟨h1, h2, h3⟩ := h
  refine ⟨(hD b).mpr (Or.inl h1), h2, fun x hx hv' hn => ?_⟩
  rcases (hD x).mp hx with a | a
  · exact h3 x a hv' hn
  · rw [a]; exact hb
/-- the order of the breakings: cost, lines, and then the number of the component's mask (g), the greater first -/
def pg_bt (v : Nat → Int32) (ln g : Nat → Nat) (b c : Nat) : Prop :=
  (v b).toInt < (v c).toInt ∨ ((v b).toInt = (v c).toInt ∧ (ln b < ln c ∨ (ln b = ln c ∧ g c < g b)))
theorem pg_bt_tr {v : Nat → Int32} {ln g : Nat → Nat} {c b : Nat} (x : Nat) (h1 : pg_bt v ln g c b) (h2 : pg_bt v ln g b x) : pg_bt v ln g c x := by
  simp only [pg_bt] at h1 h2 ⊢
  omega
theorem pg_bt_as {v : Nat → Int32} {ln g : Nat → Nat} {c b : Nat} (h1 : pg_bt v ln g c b) (h2 : pg_bt v ln g b c) : False := by
  simp only [pg_bt] at h1 h2
  omega
def pg_code : Option Nat → Int32
  | none => -1
  | some b => nI b
def pg_val (z : Int32) (v : Nat → Int32) : Option Nat → Int32
  | none => z
  | some b => v b
/-- the component's best and the reference's are each other turned round -/
theorem pg_meet {m : Nat} {v v' : Nat → Int32} {ln ln' : Nat → Nat} {o o' : Option Nat} (hv : ∀ s, s < 2 ^ m → v' s = v (pg_rv m s)) (hl : ∀ s, s < 2 ^ m → ln' s = ln (pg_rv m s))
    (h : pg_Inv (fun c => c < 2 ^ m) v (pg_bt v ln (fun c => c)) o) (h' : pg_Inv (fun c => c < 2 ^ m) v' (pg_bt v' ln' (pg_rv m)) o') :
    (o = none ∧ o' = none) ∨ ∃ s, s < 2 ^ m ∧ o' = some s ∧ o = some (pg_rv m s) := by
  cases o with
  | none =>
    cases o' with
    | none => exact Or.inl ⟨rfl, rfl⟩
    | some s =>
      obtain ⟨h1, h2, h3⟩ := h'
      exact absurd ((hv s h1).trans (h _ (pg_rv_lt m s))) h2
  | some c =>
    obtain ⟨g1, g2, g3⟩ := h
    cases o' with
    | none =>
      have a := h' (pg_rv m c) (pg_rv_lt m c)
      rw [hv _ (pg_rv_lt m c), pg_rv_rv g1] at a
      exact absurd a g2
    | some s =>
      obtain ⟨h1, h2, h3⟩ := h'
      refine Or.inr ⟨s, h1, rfl, ?_⟩
      by_cases e : c = pg_rv m s
      · rw [e]
      · exfalso
        have e2 : pg_rv m c ≠ s := fun z => e (by rw [← z, pg_rv_rv g1])
        have a := g3 (pg_rv m s) (pg_rv_lt m s) (by rw [← hv s h1]; exact h2) (fun z => e z.symm)
        have b := h3 (pg_rv m c) (pg_rv_lt m c) (by rw [hv _ (pg_rv_lt m c), pg_rv_rv g1]; exact g2) e2
        have v1 := hv s h1
        have v2 := hv _ (pg_rv_lt m c)
        have l1 := hl s h1
        have l2 := hl _ (pg_rv_lt m c)
        rw [pg_rv_rv g1] at v2 l2
        unfold pg_bt at a b
        rw [v1, v2, l1, l2, pg_rv_rv g1] at b
        dsimp only at a
        omega
/-- r is the least of the numbers v c that are not NONE, c in D; NONE if there is none -/
def pg_Min (D : Nat → Prop) (v : Nat → Int32) (r : Int32) : Prop :=
  (r = pg_NO ∧ ∀ c, D c → v c = pg_NO) ∨ (r ≠ pg_NO ∧ (∃ b, D b ∧ v b = r) ∧ ∀ c, D c → v c ≠ pg_NO → r.toInt ≤ (v c).toInt)
def pg_ls (a b : Int32) : Int32 := if a = pg_NO then b else if b = pg_NO ∨ a < b then a else b
theorem pg_m_0 {D : Nat → Prop} {v : Nat → Int32} (h : ∀ c, ¬ D c) : pg_Min D v pg_NO := Or.inl ⟨rfl, fun c hc => absurd hc (h c)⟩
theorem pg_m_s {D D' : Nat → Prop} {v : Nat → Int32} {r : Int32} {c : Nat} (hD : ∀ x, D' x ↔ (D x ∨ x = c)) (h : pg_Min D v r) : pg_Min D' v (pg_ls r (v c)) := by
  unfold pg_ls
  rcases h with ⟨h1, h2⟩ | ⟨h1, ⟨b, hb, eb⟩, h3⟩
  · rw [if_pos h1]
    by_cases e : v c = pg_NO
    · refine Or.inl ⟨e, fun x hx => ?_⟩
      rcases (hD x).mp hx with a | a
      · exact h2 x a
      · rw [a]; exact e
    · refine Or.inr ⟨e, ⟨c, (hD c).mpr (Or.inr rfl), rfl⟩, fun x hx hv => ?_⟩
      rcases (hD x).mp hx with a | a
      · exact absurd (h2 x a) hv
      · rw [a]; exact Int.le_refl _
  · rw [if_neg h1]
    by_cases e : v c = pg_NO ∨ r < v c
    · rw [if_pos e]
      refine Or.inr ⟨h1, ⟨b, (hD b).mpr (Or.inl hb), eb⟩, fun x hx hv => ?_⟩
      rcases (hD x).mp hx with a | a
      · exact h3 x a hv
      · subst a
        rcases e with e | e
        · exact absurd e hv
        · exact Int.le_of_lt (Int32.lt_iff_toInt_lt.mp e)
    · rw [if_neg e]
      have e1 : v c ≠ pg_NO := fun z => e (Or.inl z)
      have e2 : ¬ r < v c := fun z => e (Or.inr z)
      rw [Int32.lt_iff_toInt_lt] at e2
      refine Or.inr ⟨e1, ⟨c, (hD c).mpr (Or.inr rfl), rfl⟩, fun x hx hv => ?_⟩
      rcases (hD x).mp hx with a | a
      · have := h3 x a hv; omega
      · rw [a]; exact Int.le_refl _
theorem pg_m_u {D : Nat → Prop} {v : Nat → Int32} {r r' : Int32} (h : pg_Min D v r) (h' : pg_Min D v r') : r = r' := by
  rcases h with ⟨h1, h2⟩ | ⟨h1, ⟨b, hb, eb⟩, h3⟩ <;> rcases h' with ⟨g1, g2⟩ | ⟨g1, ⟨c, hc, ec⟩, g3⟩
  · rw [h1, g1]
  · exact absurd (ec.symm.trans (h2 c hc)) g1
  · exact absurd (eb.symm.trans (g2 b hb)) h1
  · have a := h3 c hc (by rw [ec]; exact g1)
    have b' := g3 b hb (by rw [eb]; exact h1)
    rw [ec] at a
    rw [eb] at b'
    exact Int32.toInt_inj.mp (by omega)
theorem pg_m_rv {m : Nat} {v v' : Nat → Int32} {r : Int32} (hv : ∀ s, s < 2 ^ m → v' s = v (pg_rv m s)) (h : pg_Min (fun c => c < 2 ^ m) v' r) : pg_Min (fun c => c < 2 ^ m) v r := by
  have key : ∀ c, c < 2 ^ m → v c = v' (pg_rv m c) := fun c hc => by rw [hv _ (pg_rv_lt m c), pg_rv_rv hc]
  rcases h with ⟨h1, h2⟩ | ⟨h1, ⟨b, hb, eb⟩, h3⟩
  · exact Or.inl ⟨h1, fun c hc => by rw [key c hc]; exact h2 _ (pg_rv_lt m c)⟩
  · refine Or.inr ⟨h1, ⟨pg_rv m b, pg_rv_lt m b, by rw [← hv b hb]; exact eb⟩, fun c hc hn => ?_⟩
    rw [key c hc] at hn ⊢
    exact h3 _ (pg_rv_lt m c) hn
theorem pg_i_m {D : Nat → Prop} {v : Nat → Int32} {ln g : Nat → Nat} {o : Option Nat} (h : pg_Inv D v (pg_bt v ln g) o) : pg_Min D v (pg_val pg_NO v o) := by
  cases o with
  | none => exact Or.inl ⟨rfl, h⟩
  | some b =>
    obtain ⟨h1, h2, h3⟩ := h
    refine Or.inr ⟨h2, ⟨b, h1, rfl⟩, fun c hc hn => ?_⟩
    show (v b).toInt ≤ (v c).toInt
    by_cases e : c = b
    · rw [e]; exact Int.le_refl _
    · have := h3 c hc hn e
      unfold pg_bt at this
      omega
theorem pg_m_cg {D : Nat → Prop} {v v' : Nat → Int32} {r : Int32} (hv : ∀ c, D c → v c = v' c) (h : pg_Min D v r) : pg_Min D v' r := by
  rcases h with ⟨h1, h2⟩ | ⟨h1, ⟨b, hb, eb⟩, h3⟩
  · exact Or.inl ⟨h1, fun c hc => by rw [← hv c hc]; exact h2 c hc⟩
  · exact Or.inr ⟨h1, ⟨b, hb, by rw [← hv b hb]; exact eb⟩, fun c hc hn => by rw [← hv c hc] at hn ⊢; exact h3 c hc hn⟩
/-- how many masks below k have the number r -/
def pg_num (v : Nat → Int32) (r : Int32) (k : Nat) : Nat := pg_cnt (fun c => decide (v c = r)) k
/-- the scan of choices, downwards: k masks are still to come -/
def pg_Tie (M k : Nat) (v : Nat → Int32) (r : Int32) (t : Nat) : Prop :=
  pg_Min (fun c => k ≤ c ∧ c < M) v r ∧ (r = pg_NO → t = 0) ∧ (r ≠ pg_NO → t + pg_num v r k = pg_num v r M)
theorem pg_t_le {M k : Nat} {v : Nat → Int32} {r : Int32} {t : Nat} (hk : k ≤ M) (h : pg_Tie M k v r t) : t ≤ M := by
  obtain ⟨h1, h2, h3⟩ := h
  by_cases e : r = pg_NO
  · rw [h2 e]; exact Nat.zero_le _
  · have a := h3 e
    have b : pg_num v r M ≤ M := pg_cnt_le _ _
    omega
theorem pg_t_D {M k : Nat} (hk : k < M) (x : Nat) : (k ≤ x ∧ x < M) ↔ ((k + 1 ≤ x ∧ x < M) ∨ x = k) := by omega
theorem pg_t_new {M k : Nat} {v : Nat → Int32} {r : Int32} {t : Nat} (hk : k < M) (h : pg_Tie M (k + 1) v r t) (hn : v k ≠ pg_NO) (hl : r = pg_NO ∨ v k < r) : pg_Tie M k v (v k) 1 := by
  obtain ⟨h1, h2, h3⟩ := h
  have hm := pg_m_s (pg_t_D hk) h1
  have e : pg_ls r (v k) = v k := by
    unfold pg_ls
    by_cases e : r = pg_NO
    · rw [if_pos e]
    · rcases hl with hl | hl
      · exact absurd hl e
      · rw [if_neg e, if_neg]
        rintro (z | z)
        · exact hn z
        · rw [Int32.lt_iff_toInt_lt] at z hl; omega
  rw [e] at hm
  refine ⟨hm, fun z => absurd z hn, fun _ => ?_⟩
  have hno : pg_num v (v k) M = pg_num v (v k) (k + 1) := by
    unfold pg_num
    apply pg_cnt_none M (by omega)
    intro i a b
    show decide (v i = v k) = false
    apply decide_eq_false
    intro z
    rcases h1 with ⟨g1, g2⟩ | ⟨g1, _, g3⟩
    · exact hn (z.symm.trans (g2 i ⟨a, b⟩))
    · rcases hl with hl | hl
      · exact g1 hl
      · have q := g3 i ⟨a, b⟩ (by rw [z]; exact hn)
        rw [Int32.lt_iff_toInt_lt] at hl
        rw [z] at q
        omega
  rw [hno]
  show 1 + pg_num v (v k) k = pg_num v (v k) k + (if decide (v k = v k) = true then 1 else 0)
  rw [if_pos (decide_eq_true rfl)]
  omega
theorem pg_t_tie {M k : Nat} {v : Nat → Int32} {r : Int32} {t : Nat} (hk : k < M) (h : pg_Tie M (k + 1) v r t) (hn : v k ≠ pg_NO) (he : v k = r) : pg_Tie M k v r (t + 1) := by
  obtain ⟨h1, h2, h3⟩ := h
  have hr : r ≠ pg_NO := by rw [← he]; exact hn
  have hm := pg_m_s (pg_t_D hk) h1
  have e : pg_ls r (v k) = r := by
    unfold pg_ls
    rw [if_neg hr]
    split
    · rfl
    · exact he
  rw [e] at hm
  refine ⟨hm, fun z => absurd z hr, fun _ => ?_⟩
  have a := h3 hr
  have b : pg_num v r (k + 1) = pg_num v r k + (if decide (v k = r) = true then 1 else 0) := rfl
  rw [if_pos (decide_eq_true he)] at b
  omega
theorem pg_t_old {M k : Nat} {v : Nat → Int32} {r : Int32} {t : Nat} (hk : k < M) (h : pg_Tie M (k + 1) v r t) (ho : v k = pg_NO ∨ (r ≠ pg_NO ∧ ¬ v k < r ∧ v k ≠ r)) : pg_Tie M k v r t := by
  obtain ⟨h1, h2, h3⟩ := h
  have hm := pg_m_s (pg_t_D hk) h1
  have e : pg_ls r (v k) = r := by
    unfold pg_ls
    by_cases e : r = pg_NO
    · rw [if_pos e]
      rcases ho with ho | ho
      · rw [ho, e]
      · exact absurd e ho.1
    · rw [if_neg e, if_pos]
      rcases ho with ho | ho
      · exact Or.inl ho
      · refine Or.inr ?_
        have a := ho.2.1
        have b : (v k).toInt ≠ r.toInt := fun z => ho.2.2 (Int32.toInt_inj.mp z)
        rw [Int32.lt_iff_toInt_lt] at a ⊢
        omega
  rw [e] at hm
  refine ⟨hm, h2, fun z => ?_⟩
  have a := h3 z
  have b : pg_num v r (k + 1) = pg_num v r k + (if decide (v k = r) = true then 1 else 0) := rfl
  have c : ¬ v k = r := by
    rcases ho with ho | ho
    · rw [ho]; exact fun y => z y.symm
    · exact ho.2.2
  rw [if_neg (by rw [decide_eq_false c]; decide)] at b
  omega
end
section
/-- a plus the widths of m words from i on -/
def pg_sum (w : Nat → Int32) : Nat → Nat → Int32 → Int32
  | 0, _, a => a
  | m + 1, i, a => pg_sum w m (i + 1) (a + w i)
/-- the length of the line i .. j -/
def pg_len (w : Nat → Int32) (i j : Nat) : Int32 := pg_sum w (j + 1 - i) i ((nI j - nI i) * 2)
def pg_W (n : Nat) (w : Nat → Int32) : Prop := ∀ k, k < n → ∃ a, a ≤ 12 ∧ w k = nI a
theorem pg_sum_b {w : Nat → Int32} {n : Nat} (hw : pg_W n w) : ∀ m i a, i + m ≤ n → ∃ b, b ≤ a + 12 * m ∧ pg_sum w m i (nI a) = nI b := by
  intro m
  induction m with
  | zero => intro i a _; exact ⟨a, by omega, rfl⟩
  | succ m ih =>
    intro i a h
    obtain ⟨y, hy, ey⟩ := hw i (by omega)
    obtain ⟨b, hb, eb⟩ := ih (i + 1) (a + y) (by omega)
    refine ⟨b, by omega, ?_⟩
    show pg_sum w m (i + 1) (nI a + w i) = nI b
    rw [ey, nI_add]
    exact eb
theorem pg_len_b {w : Nat → Int32} {n i j : Nat} (hw : pg_W n w) (hn : n ≤ 10) (hij : i ≤ j) (hj : j < n) : ∃ b, b ≤ 138 ∧ pg_len w i j = nI b := by
  obtain ⟨b, hb, eb⟩ := pg_sum_b hw (j + 1 - i) i ((j - i) * 2) (by omega)
  refine ⟨b, by omega, ?_⟩
  unfold pg_len
  rw [pk_sub hij, show (2 : Int32) = nI 2 from rfl, pk_mul]
  exact eb
theorem pg_sq {l b : Nat} (hl : l ≤ 60) (hb : b ≤ 138) : ∃ q, q ≤ 19044 ∧ (nI l - nI b) * (nI l - nI b) = nI q := by
  by_cases h : b ≤ l
  · refine ⟨(l - b) * (l - b), ?_, ?_⟩
    · exact Nat.le_trans (Nat.mul_le_mul (show l - b ≤ 138 by omega) (show l - b ≤ 138 by omega)) (by decide)
    · rw [pk_sub h, pk_mul]
  · have e : (nI l - nI b) * (nI l - nI b) = (nI b - nI l) * (nI b - nI l) := by grind
    refine ⟨(b - l) * (b - l), ?_, ?_⟩
    · exact Nat.le_trans (Nat.mul_le_mul (show b - l ≤ 138 by omega) (show b - l ≤ 138 by omega)) (by decide)
    · rw [e, pk_sub (by omega), pk_mul]
/-- the badness of the line i .. j of n words -/
def pg_bd (w : Nat → Int32) (L : Int32) (n i j : Nat) : Int32 :=
  if L - pg_len w i j < 0 then (L - pg_len w i j) * (L - pg_len w i j) * 3 else if j + 1 = n then 0 else (L - pg_len w i j) * (L - pg_len w i j)
theorem pg_bd_p {w : Nat → Int32} {n i j l : Nat} (hw : pg_W n w) (hn : n ≤ 10) (hl : l ≤ 60) (hij : i ≤ j) (hj : j < n) : ¬ pg_bd w (nI l) n i j < 0 := by
  obtain ⟨b, hb, eb⟩ := pg_len_b hw hn hij hj
  obtain ⟨q, hq, eq⟩ := pg_sq hl hb
  unfold pg_bd
  rw [eb, eq]
  split
  · rw [show (3 : Int32) = nI 3 from rfl, pk_mul]
    exact nI_pos (by omega)
  · split
    · decide
    · exact nI_pos (by omega)
theorem pg_fit {w : Nat → Int32} {n i j l : Nat} (hw : pg_W n w) (hn : n ≤ 10) (hl : l ≤ 60) (hij : i ≤ j) (hj : j < n) : nI l - pg_len w i j < nI i - nI j ↔ ¬ pg_len w i j ≤ nI l + (nI j - nI i) := by
  obtain ⟨b, hb, eb⟩ := pg_len_b hw hn hij hj
  rw [eb, Int32.lt_iff_toInt_lt, pk_sub_toInt (by omega) (by omega), pk_sub_toInt (by omega) (by omega), pk_sub hij, nI_add, nI_leI (by omega) (by omega)]
  omega
/-- the cost from word k on: m words to come, t so far, the line began at b, h: the last line ended after a penalty above 0 -/
def pg_cost (w p : Nat → Int32) (L x : Int32) (n : Nat) (E : Nat → Bool) : Nat → Nat → Int32 → Nat → Bool → Int32
  | 0, _, t, _, _ => t
  | m + 1, k, t, b, h =>
    if E k = true then
      if pg_len w b k ≤ L + (nI k - nI b) then
        if k + 1 = n then t + pg_bd w L n b k
        else pg_cost w p L x n E m (k + 1) (t + pg_bd w L n b k + p k + (if h = true ∧ 0 < p k then x else 0)) (k + 1) (decide (0 < p k))
      else pg_NO
    else pg_cost w p L x n E m (k + 1) t b h
def pg_C (w p : Nat → Int32) (L x : Int32) (n : Nat) (E : Nat → Bool) : Int32 := pg_cost w p L x n E n 0 0 0 false
/-- the last word of line k, lines counted from q at word i on, m words to come -/
def pg_end (E : Nat → Bool) (k : Int32) : Nat → Nat → Nat → Int32
  | 0, _, _ => -1
  | m + 1, i, q => if E i = true then (if nI q = k then nI i else pg_end E k m (i + 1) (q + 1)) else pg_end E k m (i + 1) q
/-- an end is -1 or a word -/
theorem pg_end_r (E : Nat → Bool) (k : Int32) : ∀ m i q, pg_end E k m i q = -1 ∨ ∃ j, i ≤ j ∧ j < i + m ∧ pg_end E k m i q = nI j := by
  intro m
  induction m with
  | zero => intro i q; exact Or.inl rfl
  | succ m ih =>
    intro i q
    simp only [pg_end]
    split
    · split
      · exact Or.inr ⟨i, by omega, by omega, rfl⟩
      · rcases ih (i + 1) (q + 1) with a | ⟨j, a, b, c⟩
        · exact Or.inl a
        · exact Or.inr ⟨j, by omega, by omega, c⟩
    · rcases ih (i + 1) q with a | ⟨j, a, b, c⟩
      · exact Or.inl a
      · exact Or.inr ⟨j, by omega, by omega, c⟩
theorem pg_end_n (E : Nat → Bool) {k : Int32} (hk : k < 0) : ∀ m i q, q + m < 2 ^ 31 → pg_end E k m i q = -1 := by
  intro m
  induction m with
  | zero => intro i q _; rfl
  | succ m ih =>
    intro i q h
    have h0 : ¬ nI q = k := fun z => nI_pos (n := q) (by omega) (by rw [z]; exact hk)
    simp only [pg_end, if_neg h0, ih (i + 1) (q + 1) (by omega), ih (i + 1) q (by omega)]
    split <;> rfl
/-- one bit, as both sides read it -/
theorem pg_bit {c t : Nat} (hc : c < 2 ^ 31) (ht : t < 32) : (nI c >>> (nI t &&& 31)) &&& 1 = nI (if c.testBit t = true then 1 else 0) := by
  have h2 : c / 2 ^ t ≤ c := Nat.div_le_self _ _
  rw [pk_shrN hc _ t (s_l t ht), pk_andN (m := 1) (by omega) 1 (by decide), Nat.testBit_eq_decide_div_mod_eq]
  congr 1
  generalize c / 2 ^ t = m
  simp only [decide_eq_true_eq]
  split <;> omega
theorem pg_must : ∀ i, i < 9 → ∀ s, s < 512 → ((((1 : Int32) <<< (nI i &&& 31)) &&& (nI s ^^^ (-1))) = 0 ↔ s.testBit i = true) := by decide +kernel
theorem pg_nev : ∀ i, i < 9 → ∀ s, s < 512 → ((((1 : Int32) <<< (nI i &&& 31)) &&& nI s) = 0 ↔ ¬ s.testBit i = true) := by decide +kernel
theorem pg_shl {k : Nat} (hk : k < 31) : (1 : Int32) <<< (nI k &&& 31) = nI (2 ^ k) := by
  have h : 1 * 2 ^ k < 2 ^ 32 := by
    rw [Nat.one_mul]
    exact Nat.pow_lt_pow_right (by decide) (by omega)
  have e := pk_shlN (n := 1) (nI k &&& 31) k (s_l k (by omega)) h
  rw [Nat.one_mul] at e
  exact e
end
section
/-- the cost and the number of lines of the component's mask c -/
def pg_vX (w p : Nat → Int32) (L x : Int32) (n c : Nat) : Int32 := pg_C w p L x n (pg_EX n c)
def pg_lX (n c : Nat) : Nat := pg_cnt (pg_EX n c) n
theorem pg_n1 {n : Nat} (h : 0 < n) : nI n - 1 = nI (n - 1) := by
  obtain ⟨m, rfl⟩ : ∃ m, n = m + 1 := ⟨n - 1, by omega⟩
  exact nI_pred m
theorem pg_fu {d fuel : Nat} (h : d < fuel) : ∃ f, fuel = f + 1 := ⟨fuel - 1, by omega⟩
section
variable {w p : Nat → Int32} {L x : Int32} {n : Nat} {post : Int32 → Prop}
theorem px_last (hn : n ≤ 10) (h : post (nI (2 ^ (n - 1)) + (-1))) : wpX_lastCuts post (x, L, nI n, w, p) := by
  unfold wpX_lastCuts
  dsimp only
  refine pk_le 2 n (fun a => ?_) (fun a => ?_)
  · rw [pg_n1 (by omega), pg_shl (by omega), Int32.sub_eq_add_neg]
    exact h
  · have e : n - 1 = 0 := by omega
    rw [e] at h
    exact h
theorem px_ea {c i : Nat} (hn : n ≤ 10) (hc : c < 512) (hi : i < n) (h : post (if pg_EX n c i = true then 1 else 0)) : wpX_endsAfter post (x, L, nI n, w, p) (nI c) (nI i) := by
  unfold wpX_endsAfter
  dsimp only
  rw [pg_n1 (by omega)]
  refine pk_le (n - 1) i (fun a => ?_) (fun a => ?_)
  · have e : pg_EX n c i = true := by
      unfold pg_EX
      rw [decide_eq_true (by omega), Bool.true_or]
    rw [if_pos e] at h
    exact h
  · have e2 : nI n - 2 - nI i = nI (n - 2 - i) := by
      rw [show (2 : Int32) = nI 2 from rfl, pk_sub (by omega), pk_sub (by omega)]
    have e : pg_EX n c i = c.testBit (n - 2 - i) := by
      unfold pg_EX
      rw [decide_eq_false (by omega), Bool.false_or]
    rw [e2, pg_bit (by omega) (by omega)]
    rw [e] at h
    by_cases b : c.testBit (n - 2 - i) = true
    · rw [if_pos b] at h ⊢
      exact br_t rfl h
    · rw [if_neg b] at h ⊢
      exact br_f (by decide) h
theorem px_ebLoop {c m : Nat} (hn : n ≤ 10) (hc : c < 512) (hl : m ≤ n) : ∀ d i fuel, i + d = m → d < fuel → post (nI (pg_cnt (pg_EX n c) m)) → wX_endsBefore_5 post (nI c) (nI m) x L (nI n) w p fuel (nI (pg_cnt (pg_EX n c) i)) (nI i) := by
  intro d
  induction d with
  | zero =>
    intro i fuel h1 h2 hp
    obtain ⟨f, rfl⟩ := pg_fu h2
    have e : i = m := by omega
    rw [e]
    exact br_t (nI_le (by omega) (by omega)) hp
  | succ d ih =>
    intro i fuel h1 h2 hp
    obtain ⟨f, rfl⟩ := pg_fu h2
    refine br_f (nI_ge (by omega) (by omega)) (px_ea hn hc (by omega) ?_)
    have hs : pg_cnt (pg_EX n c) (i + 1) = pg_cnt (pg_EX n c) i + (if pg_EX n c i = true then 1 else 0) := rfl
    have hi := ih (i + 1) f (by omega) (by omega) hp
    by_cases e : pg_EX n c i = true
    · rw [if_pos e] at hs ⊢
      rw [hs] at hi
      exact br_f (by decide) (nm_r (nI_1 _) (nm_r (nI_1 _) hi))
    · rw [if_neg e] at hs ⊢
      rw [hs] at hi
      exact br_t rfl (nm_r (nI_1 _) hi)
theorem px_eb {c m : Nat} (hn : n ≤ 10) (hc : c < 512) (hl : m ≤ n) (hp : post (nI (pg_cnt (pg_EX n c) m))) : wpX_endsBefore post (x, L, nI n, w, p) (nI c) (nI m) := by
  unfold wpX_endsBefore
  dsimp only
  exact ⟨m + 1, px_ebLoop hn hc hl m 0 (m + 1) (by omega) (by omega) hp⟩
theorem px_lines {c : Nat} (hn : n ≤ 10) (hc : c < 512) (hp : post (nI (pg_lX n c))) : wpX_linesInCuts post (x, L, nI n, w, p) (nI c) := by
  unfold wpX_linesInCuts
  dsimp only
  exact px_eb hn hc (Nat.le_refl n) hp
theorem px_eiLoop {c : Nat} {k : Int32} (hn : n ≤ 10) (hc : c < 512) : ∀ d i q fuel, i + d = n → d < fuel → post (pg_end (pg_EX n c) k d i q) → wX_endInCuts_5 post (nI c) k x L (nI n) w p fuel (nI q) (nI i) := by
  intro d
  induction d with
  | zero =>
    intro i q fuel h1 h2 hp
    obtain ⟨f, rfl⟩ := pg_fu h2
    exact br_t (nI_le (by omega) (by omega)) hp
  | succ d ih =>
    intro i q fuel h1 h2 hp
    obtain ⟨f, rfl⟩ := pg_fu h2
    refine br_f (nI_ge (by omega) (by omega)) (px_ea hn hc (by omega) ?_)
    rw [pg_end] at hp
    by_cases e : pg_EX n c i = true
    · rw [if_pos e] at hp ⊢
      by_cases ek : nI q = k
      · rw [if_pos ek] at hp
        exact br_f (by decide) (br_t ek hp)
      · rw [if_neg ek] at hp
        exact br_f (by decide) (br_f ek (nm_r (nI_1 _) (nm_r (nI_1 _) (ih (i + 1) (q + 1) f (by omega) (by omega) hp))))
    · rw [if_neg e] at hp ⊢
      exact br_t rfl (nm_r (nI_1 _) (ih (i + 1) q f (by omega) (by omega) hp))
theorem px_end {c : Nat} {k : Int32} (hn : n ≤ 10) (hc : c < 512) (hp : post (pg_end (pg_EX n c) k n 0 0)) : wpX_endInCuts post (x, L, nI n, w, p) (nI c) k := by
  unfold wpX_endInCuts
  dsimp only
  exact ⟨n + 1, px_eiLoop hn hc n 0 0 (n + 1) (by omega) (by omega) hp⟩
theorem px_lbLoop {j : Nat} (hj : j < 10) : ∀ d i a fuel, j + 1 - i = d → i ≤ 10 → d < fuel → post (pg_sum w d i a) → wX_lengthBetween_9 post (nI j) x L (nI n) w p fuel a (nI i) := by
  intro d
  induction d with
  | zero =>
    intro i a fuel h1 h2 h3 hp
    obtain ⟨f, rfl⟩ := pg_fu h3
    exact br_t (nI_lt (by omega) (by omega)) hp
  | succ d ih =>
    intro i a fuel h1 h2 h3 hp
    obtain ⟨f, rfl⟩ := pg_fu h3
    exact br_f (nI_nlt (by omega) (by omega)) ⟨vp_in_nI (by omega) (by omega), nm_r (by rw [nI_clamp (by omega)]) (nm_r (nI_1 _) (ih (i + 1) (a + w i) f (by omega) (by omega) (by omega) hp))⟩
theorem px_len {i j : Nat} (hi : i ≤ 10) (hj : j < 10) (hp : post (pg_len w i j)) : wpX_lengthBetween post (x, L, nI n, w, p) (nI i) (nI j) := by
  unfold wpX_lengthBetween
  dsimp only
  exact nm_e ⟨j + 1 - i + 1, px_lbLoop hj (j + 1 - i) i _ _ rfl hi (by omega) hp⟩
theorem px_fits {y g : Int32} (hp : post (if y ≤ L + g then 1 else 0)) : wpX_fits post (x, L, nI n, w, p) y g := by
  unfold wpX_fits
  dsimp only
  by_cases e : y ≤ L + g
  · rw [if_pos e] at hp
    exact br_f (Int32.not_lt.mpr e) hp
  · rw [if_neg e] at hp
    exact br_t (Int32.not_le.mp e) hp
theorem px_bad {b k : Nat} {z : Int32} (hz : z = 0 ↔ ¬ k + 1 = n) (hp : post (pg_bd w L n b k)) : wpX_badness post (x, L, nI n, w, p) (pg_len w b k) z := by
  unfold wpX_badness
  dsimp only
  refine nm_e ?_
  unfold pg_bd at hp
  by_cases e : L - pg_len w b k < 0
  · rw [if_pos e] at hp
    exact br_f (Int32.not_le.mpr e) hp
  · rw [if_neg e] at hp
    refine br_t (Int32.not_lt.mp e) ?_
    by_cases el : k + 1 = n
    · rw [if_pos el] at hp
      exact br_f (fun q => hz.mp q el) hp
    · rw [if_neg el] at hp
      exact br_t (hz.mpr el) hp
theorem px_103 {J : Int32 → Int32 → Int32 → Int32 → Prop} {x1 t z z0 : Int32} {k : Nat} {h : Bool} (hk : k < 10) (hz : z = 0 ↔ h = false) (hz0 : z0 = 0 ↔ ¬ 0 < p k) (hJ : J (t + p k + (if h = true ∧ 0 < p k then x else 0)) (nI (k + 1)) z0 (nI (k + 1))) : wX_costOfCuts_103 post J x1 t z (nI k) z0 x L (nI n) w p := by
  unfold wX_costOfCuts_103 wX_costOfCuts_133 wX_costOfCuts_134
  refine ⟨vp_in_nI (by omega) (by omega), nm_r (e' := t + p k) (by rw [nI_clamp (by omega)]) ?_⟩
  cases h with
  | false =>
    rw [if_neg (fun q => by cases q.1)] at hJ
    exact br_t (hz.mpr rfl) (nm_e (nm_r (nI_1 _) (nm_r (nI_1 _) hJ)))
  | true =>
    refine br_f (fun q => by cases hz.mp q) ?_
    by_cases e : 0 < p k
    · rw [if_pos ⟨rfl, e⟩] at hJ
      exact br_f (fun q => hz0.mp q e) (nm_e (nm_r (nI_1 _) (nm_r (nI_1 _) hJ)))
    · rw [if_neg (fun q => e q.2)] at hJ
      exact br_t (hz0.mpr e) (nm_e (nm_r (nI_1 _) (nm_r (nI_1 _) hJ)))
theorem px_cLoop {c : Nat} (hn : n ≤ 10) (hc : c < 512) : ∀ d k b t z h fuel, k + d = n → b ≤ k → d < fuel → (z = 0 ↔ h = false) → post (pg_cost w p L x n (pg_EX n c) d k t b h) → wX_costOfCuts_10 post (nI c) x L (nI n) w p fuel t (nI b) z (nI k) := by
  intro d
  induction d with
  | zero =>
    intro k b t z h fuel h1 hb h2 hz hp
    obtain ⟨f, rfl⟩ := pg_fu h2
    exact br_t (nI_le (by omega) (by omega)) hp
  | succ d ih =>
    intro k b t z h fuel h1 hb h2 hz hp
    obtain ⟨f, rfl⟩ := pg_fu h2
    refine br_f (nI_ge (by omega) (by omega)) (px_ea hn hc (by omega) ?_)
    rw [pg_cost] at hp
    by_cases e : pg_EX n c k = true
    · rw [if_pos e] at hp ⊢
      refine br_f (by decide) ?_
      by_cases el : k + 1 = n
      · refine br_t (by rw [pg_n1 (by omega)]; exact congrArg nI (by omega)) ?_
        unfold wX_costOfCuts_45
        refine px_len (by omega) (by omega) (px_fits ?_)
        by_cases ef : pg_len w b k ≤ L + (nI k - nI b)
        · rw [if_pos ef, if_pos el] at hp
          rw [if_pos ef]
          have d0 : d = 0 := by omega
          subst d0
          exact br_f (by decide) (px_bad (k := k) (b := b) ⟨fun q => absurd q (by decide), fun q => absurd el q⟩ (nm_e (br_f (by decide) (nm_r (nI_1 _) (nm_r (nI_1 _) (ih (k + 1) (k + 1) _ z h f (by omega) (by omega) (by omega) hz hp))))))
        · rw [if_neg ef] at hp
          rw [if_neg ef]
          exact br_t rfl hp
      · refine br_f (by rw [pg_n1 (by omega), nI_eq (by omega) (by omega)]; omega) ?_
        unfold wX_costOfCuts_45
        refine px_len (by omega) (by omega) (px_fits ?_)
        by_cases ef : pg_len w b k ≤ L + (nI k - nI b)
        · rw [if_pos ef, if_neg el] at hp
          rw [if_pos ef]
          refine br_f (by decide) (px_bad (k := k) (b := b) ⟨fun _ => el, fun _ => rfl⟩ (nm_e (br_t rfl ⟨vp_in_nI (by omega) (by omega), ?_⟩)))
          rw [nI_clamp (by omega)]
          by_cases ep : 0 < p k
          · refine br_f (Int32.not_le.mpr ep) (px_103 (h := h) (by omega) hz ⟨fun q => absurd q (by decide), fun q => absurd ep q⟩ (ih (k + 1) (k + 1) _ 1 (decide (0 < p k)) f (by omega) (by omega) (by omega) ?_ hp))
            rw [decide_eq_true ep]
            decide
          · refine br_t (Int32.not_lt.mp ep) (px_103 (h := h) (by omega) hz ⟨fun _ => ep, fun _ => rfl⟩ (ih (k + 1) (k + 1) _ 0 (decide (0 < p k)) f (by omega) (by omega) (by omega) ?_ hp))
            rw [decide_eq_false ep]
            decide
        · rw [if_neg ef] at hp
          rw [if_neg ef]
          exact br_t rfl hp
    · rw [if_neg e] at hp ⊢
      exact br_t rfl (nm_r (nI_1 _) (ih (k + 1) b t z h f (by omega) (by omega) (by omega) hz hp))
theorem px_cost {c : Nat} (hn : n ≤ 10) (hc : c < 512) (hp : post (pg_vX w p L x n c)) : wpX_costOfCuts post (x, L, nI n, w, p) (nI c) := by
  unfold wpX_costOfCuts
  dsimp only
  exact ⟨n + 1, px_cLoop hn hc n 0 0 0 0 false (n + 1) (by omega) (by omega) (by omega) ⟨fun _ => rfl, fun _ => rfl⟩ hp⟩
theorem px_ls {a b : Int32} (hp : post (pg_ls a b)) : wpX_lesserCost post a b := by
  unfold wpX_lesserCost
  unfold pg_ls at hp
  by_cases e1 : a = pg_NO
  · rw [if_pos e1] at hp
    exact br_t e1 hp
  · rw [if_neg e1] at hp
    refine br_f e1 ?_
    by_cases e2 : b = pg_NO
    · rw [if_pos (Or.inl e2)] at hp
      exact br_t e2 hp
    · refine br_f e2 ?_
      by_cases e3 : a < b
      · rw [if_pos (Or.inr e3)] at hp
        exact br_f (Int32.not_le.mpr e3) hp
      · rw [if_neg (fun q => q.elim e2 e3)] at hp
        exact br_t (Int32.not_lt.mp e3) hp
end
end
section
def pg_lo (ln : Nat → Nat) : Option Nat → Nat
  | none => 0
  | some b => ln b
/-- what the component's best mask is -/
def pg_BX (w p : Nat → Int32) (L x : Int32) (n : Nat) (o : Option Nat) : Prop := pg_Inv (fun c => c < 2 ^ (n - 1)) (pg_vX w p L x n) (pg_bt (pg_vX w p L x n) (pg_lX n) (fun c => c)) o
theorem pg_D0 (M : Nat) : (fun c => 0 ≤ c ∧ c < M) = (fun c => c < M) := by
  funext c
  exact propext ⟨fun h => h.2, fun h => ⟨Nat.zero_le c, h⟩⟩
theorem pg_DM {M : Nat} (c : Nat) : ¬ (M ≤ c ∧ c < M) := by omega
theorem pg_p1 (n : Nat) : 0 < 2 ^ (n - 1) := Nat.two_pow_pos _
theorem pg_p5 {n : Nat} (hn : n ≤ 10) : 2 ^ (n - 1) ≤ 512 := Nat.pow_le_pow_right (n := 2) (i := n - 1) (j := 9) (by decide) (by omega)
section
variable {w p : Nat → Int32} {L x : Int32} {n : Nat} {post : Int32 → Prop}
theorem px_57t {J : Int32 → Int32 → Int32 → Int32 → Prop} {x1 x2 x3 x4 x5 x6 : Int32} (hJ : J x4 x5 x6 (x4 + (-1))) : wX_bestCuts_57 post J x1 x2 x3 x4 x5 x6 1 x L (nI n) w p := by
  unfold wX_bestCuts_57 wX_bestCuts_75 wX_bestCuts_76 wX_bestCuts_88
  exact br_c (fun _ => br_c (fun _ => br_f (by decide) (nm_e hJ)) (fun _ => br_f (by decide) (nm_e hJ))) (fun _ => br_f (by decide) (nm_e hJ))
theorem px_57f {J : Int32 → Int32 → Int32 → Int32 → Prop} {x1 x2 x3 x4 x5 x6 : Int32} (h1 : x5 = x2 → ¬ x3 ≤ x6 → J x4 x5 x6 (x4 + (-1))) (h2 : (x5 = x2 → x3 ≤ x6) → J x1 x2 x3 (x4 + (-1))) : wX_bestCuts_57 post J x1 x2 x3 x4 x5 x6 0 x L (nI n) w p := by
  unfold wX_bestCuts_57 wX_bestCuts_75 wX_bestCuts_76 wX_bestCuts_88
  exact br_c (fun a => br_c (fun b => br_t rfl (br_t rfl (nm_e (h2 (fun _ => b))))) (fun b => br_t rfl (br_f (by decide) (nm_e (h1 a b))))) (fun a => br_t rfl (br_t rfl (nm_e (h2 (fun q => absurd q a)))))
theorem px_bLoop (hn : n ≤ 10) (hp : ∀ o, pg_BX w p L x n o → post (pg_code o)) : ∀ k fuel o, k ≤ 2 ^ (n - 1) → k < fuel →
    pg_Inv (fun c => k ≤ c ∧ c < 2 ^ (n - 1)) (pg_vX w p L x n) (pg_bt (pg_vX w p L x n) (pg_lX n) (fun c => c)) o →
    wX_bestCuts_13 post x L (nI n) w p fuel (pg_code o) (pg_val pg_NO (pg_vX w p L x n) o) (nI (pg_lo (pg_lX n) o)) (nI k + (-1)) := by
  have hM := pg_p5 hn
  intro k
  induction k with
  | zero =>
    intro fuel o _ h2 hi
    obtain ⟨f, rfl⟩ := pg_fu h2
    rw [pg_D0] at hi
    exact br_t (by decide) (hp o hi)
  | succ k ih =>
    intro fuel o h1 h2 hi
    obtain ⟨f, rfl⟩ := pg_fu h2
    rw [pk_m1]
    refine br_f (nI_pos (by omega)) (px_cost hn (by omega) ?_)
    by_cases e : pg_vX w p L x n k = pg_NO
    · exact br_t e (nm_e (ih f o (by omega) (by omega) (pg_i_skip (pg_t_D (by omega)) e hi)))
    · refine br_f e (px_lines hn (by omega) ?_)
      cases o with
      | none =>
        exact br_t rfl (px_57t (ih f (some k) (by omega) (by omega) (pg_i_first (pg_t_D (by omega)) e hi)))
      | some b =>
        have hb : k + 1 ≤ b ∧ b < 2 ^ (n - 1) := hi.1
        have nb : ¬ nI b = -1 := fun q => nI_pos (n := b) (by omega) (by rw [q]; decide)
        refine br_f nb ?_
        by_cases lt : pg_vX w p L x n k < pg_vX w p L x n b
        · exact br_f (Int32.not_le.mpr lt) (px_57t (ih f (some k) (by omega) (by omega) (pg_i_new (pg_t_D (by omega)) pg_bt_tr e (Or.inl (Int32.lt_iff_toInt_lt.mp lt)) hi)))
        · refine br_t (Int32.not_lt.mp lt) (px_57f (fun a c => ?_) (fun a => ?_))
          · have c2 : pg_lX n k < pg_lX n b := by
              have l1 : pg_lX n k ≤ n := pg_cnt_le _ _
              have l2 : pg_lX n b ≤ n := pg_cnt_le _ _
              have c3 : ¬ nI (pg_lX n b) ≤ nI (pg_lX n k) := c
              rw [nI_leI (by omega) (by omega)] at c3
              omega
            exact ih f (some k) (by omega) (by omega) (pg_i_new (pg_t_D (by omega)) pg_bt_tr e (Or.inr ⟨congrArg Int32.toInt a, Or.inl c2⟩) hi)
          · have l1 : pg_lX n k ≤ n := pg_cnt_le _ _
            have l2 : pg_lX n b ≤ n := pg_cnt_le _ _
            have a2 : (pg_vX w p L x n k).toInt = (pg_vX w p L x n b).toInt → pg_lX n b ≤ pg_lX n k := fun q => by
              have c3 : nI (pg_lX n b) ≤ nI (pg_lX n k) := a (Int32.toInt_inj.mp q)
              rw [nI_leI (by omega) (by omega)] at c3
              exact c3
            have lt2 : ¬ (pg_vX w p L x n k).toInt < (pg_vX w p L x n b).toInt := fun q => lt (Int32.lt_iff_toInt_lt.mpr q)
            have bt : pg_bt (pg_vX w p L x n) (pg_lX n) (fun c => c) b k := by
              simp only [pg_bt]
              omega
            exact ih f (some b) (by omega) (by omega) (pg_i_old (pg_t_D (by omega)) bt hi)
theorem px_best (hn : n ≤ 10) (hp : ∀ o, pg_BX w p L x n o → post (pg_code o)) : wpX_bestCuts post (x, L, nI n, w, p) := by
  unfold wpX_bestCuts
  dsimp only
  exact px_last hn ⟨2 ^ (n - 1) + 1, px_bLoop hn hp (2 ^ (n - 1)) _ none (Nat.le_refl _) (by omega) (pg_i_0 pg_DM)⟩
/-- the numbers among which a query takes the least -/
def pg_only (P : Nat → Prop) (v : Nat → Int32) (r : Nat → Int32) : Prop := ∀ c, (P c → r c = v c) ∧ (¬ P c → r c = pg_NO)
theorem pg_ls_no (r : Int32) : pg_ls r pg_NO = r := by
  unfold pg_ls
  by_cases e : r = pg_NO
  · rw [if_pos e, e]
  · rw [if_neg e, if_pos (Or.inl rfl)]
theorem px_cwLoop {q : Int32} {v : Nat → Int32} (hn : n ≤ 10) (hv : pg_only (fun c => nI (pg_lX n c) = q) (pg_vX w p L x n) v) (hp : ∀ r, pg_Min (fun c => c < 2 ^ (n - 1)) v r → post r) : ∀ k fuel r, k ≤ 2 ^ (n - 1) → k < fuel → pg_Min (fun c => k ≤ c ∧ c < 2 ^ (n - 1)) v r → wX_costWith_8 post q x L (nI n) w p fuel r (nI k + (-1)) := by
  have hM := pg_p5 hn
  intro k
  induction k with
  | zero =>
    intro fuel r _ h2 hi
    obtain ⟨f, rfl⟩ := pg_fu h2
    rw [pg_D0] at hi
    exact br_t (by decide) (hp r hi)
  | succ k ih =>
    intro fuel r h1 h2 hi
    obtain ⟨f, rfl⟩ := pg_fu h2
    rw [pk_m1]
    refine br_f (nI_pos (by omega)) (px_lines hn (by omega) ?_)
    have hm := pg_m_s (pg_t_D (by omega)) hi
    by_cases e : nI (pg_lX n k) = q
    · rw [(hv k).1 e] at hm
      exact br_t e (px_cost hn (by omega) (px_ls (nm_e (ih f _ (by omega) (by omega) hm))))
    · rw [(hv k).2 e, pg_ls_no] at hm
      exact br_f e (nm_e (ih f r (by omega) (by omega) hm))
theorem px_costWith {q : Int32} {v : Nat → Int32} (hn : n ≤ 10) (hv : pg_only (fun c => nI (pg_lX n c) = q) (pg_vX w p L x n) v) (hp : ∀ r, pg_Min (fun c => c < 2 ^ (n - 1)) v r → post r) : wpX_costWith post (x, L, nI n, w, p) q := by
  unfold wpX_costWith
  dsimp only
  exact px_last hn ⟨2 ^ (n - 1) + 1, px_cwLoop hn hv hp (2 ^ (n - 1)) _ pg_NO (Nat.le_refl _) (by omega) (pg_m_0 pg_DM)⟩
theorem px_lwLoop {i : Nat} {z : Int32} {v : Nat → Int32} (hn : n ≤ 10) (hi : i < n) (hv : pg_only (fun c => (if pg_EX n c i = true then 1 else 0) = z) (pg_vX w p L x n) v) (hp : ∀ r, pg_Min (fun c => c < 2 ^ (n - 1)) v r → post r) : ∀ k fuel r, k ≤ 2 ^ (n - 1) → k < fuel → pg_Min (fun c => k ≤ c ∧ c < 2 ^ (n - 1)) v r → wX_leastCostWhere_26 post (nI i) z x L (nI n) w p fuel r (nI k + (-1)) := by
  have hM := pg_p5 hn
  intro k
  induction k with
  | zero =>
    intro fuel r _ h2 hi
    obtain ⟨f, rfl⟩ := pg_fu h2
    rw [pg_D0] at hi
    exact br_t (by decide) (hp r hi)
  | succ k ih =>
    intro fuel r h1 h2 hm0
    obtain ⟨f, rfl⟩ := pg_fu h2
    rw [pk_m1]
    refine br_f (nI_pos (by omega)) (px_ea hn (by omega) hi ?_)
    have hm := pg_m_s (pg_t_D (by omega)) hm0
    by_cases e : (if pg_EX n k i = true then (1 : Int32) else 0) = z
    · rw [(hv k).1 e] at hm
      exact br_t e (px_cost hn (by omega) (px_ls (nm_e (ih f _ (by omega) (by omega) hm))))
    · rw [(hv k).2 e, pg_ls_no] at hm
      exact br_f e (nm_e (ih f r (by omega) (by omega) hm))
theorem px_least {i : Nat} {z : Int32} {v : Nat → Int32} (hn : n ≤ 10) (hi : i + 1 < n) (hv : pg_only (fun c => (if pg_EX n c i = true then 1 else 0) = z) (pg_vX w p L x n) v) (hp : ∀ r, pg_Min (fun c => c < 2 ^ (n - 1)) v r → post r) : wpX_leastCostWhere post (x, L, nI n, w, p) (nI i) z := by
  unfold wpX_leastCostWhere
  dsimp only
  refine br_f (nI_pos (by omega)) (br_t (by rw [pg_n1 (by omega)]; exact nI_lt (by omega) (by omega)) ?_)
  exact px_last hn ⟨2 ^ (n - 1) + 1, px_lwLoop hn (by omega) hv hp (2 ^ (n - 1)) _ pg_NO (Nat.le_refl _) (by omega) (pg_m_0 pg_DM)⟩
theorem px_leastNo {q z : Int32} (h : q < 0 ∨ ¬ q < nI n - 1) (hp : post pg_NO) : wpX_leastCostWhere post (x, L, nI n, w, p) q z := by
  unfold wpX_leastCostWhere
  dsimp only
  by_cases e : q < 0
  · exact br_t e hp
  · exact br_f e (br_f (h.resolve_left e) hp)
theorem px_chLoop (hn : n ≤ 10) (hp : ∀ r t, pg_Tie (2 ^ (n - 1)) 0 (pg_vX w p L x n) r t → post (nI t)) : ∀ k fuel r t, k ≤ 2 ^ (n - 1) → k < fuel → pg_Tie (2 ^ (n - 1)) k (pg_vX w p L x n) r t → wX_choices_10 post x L (nI n) w p fuel r (nI t) (nI k + (-1)) := by
  have hM := pg_p5 hn
  intro k
  induction k with
  | zero =>
    intro fuel r t _ h2 hi
    obtain ⟨f, rfl⟩ := pg_fu h2
    exact br_t (by decide) (hp r t hi)
  | succ k ih =>
    intro fuel r t h1 h2 hi
    obtain ⟨f, rfl⟩ := pg_fu h2
    rw [pk_m1]
    refine br_f (nI_pos (by omega)) (px_cost hn (by omega) ?_)
    unfold wX_choices_48
    by_cases e : pg_vX w p L x n k = pg_NO
    · exact br_t e (br_t e (nm_e (ih f r t (by omega) (by omega) (pg_t_old (by omega) hi (Or.inl e)))))
    · refine br_f e ?_
      by_cases er : r = pg_NO
      · exact br_t er (nm_e (ih f _ 1 (by omega) (by omega) (pg_t_new (by omega) hi e (Or.inl er))))
      · refine br_f er ?_
        by_cases lt : pg_vX w p L x n k < r
        · exact br_f (Int32.not_le.mpr lt) (nm_e (ih f _ 1 (by omega) (by omega) (pg_t_new (by omega) hi e (Or.inr lt))))
        · refine br_t (Int32.not_lt.mp lt) (br_f e ?_)
          by_cases eq : pg_vX w p L x n k = r
          · exact br_t eq (nm_r (nI_1 _) (nm_e (ih f r (t + 1) (by omega) (by omega) (pg_t_tie (by omega) hi e eq))))
          · exact br_f eq (nm_e (ih f r t (by omega) (by omega) (pg_t_old (by omega) hi (Or.inr ⟨er, lt, eq⟩))))
theorem px_choices (hn : n ≤ 10) (hp : ∀ r t, pg_Tie (2 ^ (n - 1)) 0 (pg_vX w p L x n) r t → post (nI t)) : wpX_choices post (x, L, nI n, w, p) := by
  unfold wpX_choices
  dsimp only
  exact px_last hn ⟨2 ^ (n - 1) + 1, px_chLoop hn hp (2 ^ (n - 1)) _ pg_NO 0 (Nat.le_refl _) (by omega) ⟨pg_m_0 pg_DM, fun _ => rfl, fun h => absurd rfl h⟩⟩
end
end
section
/-- the cost and the number of lines of the reference's mask s -/
def pg_vY (w p : Nat → Int32) (L x : Int32) (n s : Nat) : Int32 := pg_C w p L x n (pg_EY n s)
def pg_lY (n s : Nat) : Nat := pg_cnt (pg_EY n s) n
theorem pg_vY_rv (w p : Nat → Int32) (L x : Int32) (n s : Nat) : pg_vY w p L x n s = pg_vX w p L x n (pg_rv (n - 1) s) := by
  unfold pg_vY pg_vX
  rw [pg_EX_rv]
theorem pg_lY_rv (n s : Nat) : pg_lY n s = pg_lX n (pg_rv (n - 1) s) := by
  unfold pg_lY pg_lX
  rw [pg_EX_rv]
/-- one bit, as a number -/
theorem pg_bitN {c t : Nat} (hc : c < 512) (ht : t < 32) : (nI c >>> (nI t &&& 31)) &&& 1 = nI (c / 2 ^ t % 2) := by
  have h2 : c / 2 ^ t ≤ c := Nat.div_le_self _ _
  rw [pk_shrN (by omega) _ t (s_l t ht), pk_andN (m := 1) (by omega) 1 (by decide), Nat.pow_one]
section
variable {w p : Nat → Int32} {L x : Int32} {n : Nat} {post : Int32 → Prop}
theorem py_lbLoop {j : Nat} (hj : j < 10) : ∀ d i a fuel, j + 1 - i = d → i ≤ 10 → d < fuel → post (pg_sum w d i a) → wY_length_9 post (nI j) L x (nI n) w p fuel a (nI i) := by
  intro d
  induction d with
  | zero =>
    intro i a fuel h1 h2 h3 hp
    obtain ⟨f, rfl⟩ := pg_fu h3
    exact br_t (nI_lt (by omega) (by omega)) hp
  | succ d ih =>
    intro i a fuel h1 h2 h3 hp
    obtain ⟨f, rfl⟩ := pg_fu h3
    exact br_f (nI_nlt (by omega) (by omega)) ⟨vp_in_nI (by omega) (by omega), nm_r (by rw [nI_clamp (by omega)]) (nm_r (nI_1 _) (ih (i + 1) (a + w i) f (by omega) (by omega) (by omega) hp))⟩
theorem py_len {i j : Nat} (hi : i ≤ 10) (hj : j < 10) (hp : post (pg_len w i j)) : wpY_length post (L, x, nI n, w, p) (nI i) (nI j) := by
  unfold wpY_length
  dsimp only
  exact nm_r (Int32.mul_comm _ _) ⟨j + 1 - i + 1, py_lbLoop hj (j + 1 - i) i _ _ rfl hi (by omega) hp⟩
theorem py_bad {i j l : Nat} (hw : pg_W n w) (hn : n ≤ 10) (hl : l ≤ 60) (hij : i ≤ j) (hj : j < n) (hp : post (if pg_len w i j ≤ nI l + (nI j - nI i) then pg_bd w (nI l) n i j else -1)) : wpY_badness post (nI l, x, nI n, w, p) (nI i) (nI j) := by
  unfold wpY_badness
  dsimp only
  refine py_len (by omega) (by omega) (nm_e ?_)
  have hf := pg_fit hw hn hl hij hj
  by_cases ef : pg_len w i j ≤ nI l + (nI j - nI i)
  · rw [if_pos ef] at hp
    refine br_t (Int32.not_lt.mp (fun q => hf.mp q ef)) ?_
    unfold pg_bd at hp
    by_cases e : nI l - pg_len w i j < 0
    · rw [if_pos e] at hp
      exact br_f (Int32.not_le.mpr e) hp
    · rw [if_neg e] at hp
      refine br_t (Int32.not_lt.mp e) ?_
      by_cases el : j + 1 = n
      · rw [if_pos el] at hp
        exact br_t (by rw [pg_n1 (by omega)]; exact congrArg nI (by omega)) hp
      · rw [if_neg el] at hp
        exact br_f (by rw [pg_n1 (by omega), nI_eq (by omega) (by omega)]; omega) hp
  · rw [if_neg ef] at hp
    exact br_f (Int32.not_le.mpr (hf.mpr ef)) hp
theorem py_111 {J : Int32 → Int32 → Int32 → Int32 → Prop} {x1 z z0 y t : Int32} {k : Nat} {h : Bool} (hz : z = 0 ↔ h = false) (hJ : J (t + y + (if h = true ∧ ¬ z0 = 0 then x else 0)) (nI (k + 1)) z0 (nI (k + 1))) : wY_costOf_111 post J x1 z (nI k) z0 y t L x (nI n) w p := by
  unfold wY_costOf_111 wY_costOf_129 wY_costOf_130
  cases h with
  | false =>
    rw [if_neg (fun q => by cases q.1)] at hJ
    exact br_t (hz.mpr rfl) (nm_e (nm_r (nI_1 _) (nm_r (nI_1 _) hJ)))
  | true =>
    refine br_f (fun q => by cases hz.mp q) ?_
    by_cases e : z0 = 0
    · rw [if_neg (fun q => q.2 e)] at hJ
      exact br_t e (nm_e (nm_r (nI_1 _) (nm_r (nI_1 _) hJ)))
    · rw [if_pos ⟨rfl, e⟩] at hJ
      exact br_f e (nm_e (nm_r (nI_1 _) (nm_r (nI_1 _) hJ)))
theorem py_40 {J : Int32 → Int32 → Int32 → Int32 → Prop} {x1 t z : Int32} {k b l : Nat} {h : Bool} (hw : pg_W n w) (hn : n ≤ 10) (hl : l ≤ 60) (hb : b ≤ k) (hk : k < n) (hz : z = 0 ↔ h = false)
    (hno : ¬ pg_len w b k ≤ nI l + (nI k - nI b) → post pg_NO)
    (hlast : pg_len w b k ≤ nI l + (nI k - nI b) → k + 1 = n → J (t + pg_bd w (nI l) n b k) (nI (k + 1)) 0 (nI (k + 1)))
    (hmid : pg_len w b k ≤ nI l + (nI k - nI b) → ¬ k + 1 = n → J (t + pg_bd w (nI l) n b k + p k + (if h = true ∧ 0 < p k then x else 0)) (nI (k + 1)) (if 0 < p k then 1 else 0) (nI (k + 1))) :
    wY_costOf_40 post J x1 t (nI b) z (nI k) (nI l) x (nI n) w p := by
  unfold wY_costOf_40 wY_costOf_82
  refine py_bad hw hn hl hb hk ?_
  by_cases ef : pg_len w b k ≤ nI l + (nI k - nI b)
  · rw [if_pos ef]
    have hpos := pg_bd_p hw hn hl hb hk
    refine br_t (Int32.not_lt.mp hpos) ?_
    by_cases el : k + 1 = n
    · have le : nI n - 1 ≤ nI k := by rw [pg_n1 (by omega)]; exact nI_le (by omega) (by omega)
      refine br_t le ?_
      unfold wY_costOf_83
      refine br_t le (py_111 (h := h) hz ?_)
      have hJ := hlast ef el
      rw [if_neg (fun q => q.2 rfl), Int32.add_zero, Int32.add_zero]
      exact hJ
    · have le : ¬ nI n - 1 ≤ nI k := by rw [pg_n1 (by omega)]; exact nI_ge (by omega) (by omega)
      refine br_f le ⟨vp_in_nI (by omega) (by omega), ?_⟩
      have hJ := hmid ef el
      unfold wY_costOf_83
      rw [nI_clamp (by omega)]
      by_cases ep : 0 < p k
      · rw [if_pos ep] at hJ
        refine br_f (Int32.not_le.mpr ep) (br_f le ⟨vp_in_nI (by omega) (by omega), py_111 (h := h) hz ?_⟩)
        have e1 : (if h = true ∧ ¬ (1 : Int32) = 0 then x else 0) = (if h = true ∧ 0 < p k then x else 0) := by
          cases h with
          | false => rw [if_neg (fun q => by cases q.1), if_neg (fun q => by cases q.1)]
          | true => rw [if_pos ⟨rfl, by decide⟩, if_pos ⟨rfl, ep⟩]
        rw [e1]
        exact hJ
      · rw [if_neg ep] at hJ
        refine br_t (Int32.not_lt.mp ep) (br_f le ⟨vp_in_nI (by omega) (by omega), py_111 (h := h) hz ?_⟩)
        have e1 : (if h = true ∧ ¬ (0 : Int32) = 0 then x else 0) = (if h = true ∧ 0 < p k then x else 0) := by
          rw [if_neg (fun q => q.2 rfl), if_neg (fun q => ep q.2)]
        rw [e1]
        exact hJ
  · rw [if_neg ef]
    exact br_f (by decide) (hno ef)
theorem py_cLoop {s l : Nat} (hw : pg_W n w) (hn : n ≤ 10) (hl : l ≤ 60) (hs : s < 512) : ∀ d k b t z h fuel, k + d = n → b ≤ k → d < fuel → (z = 0 ↔ h = false) → post (pg_cost w p (nI l) x n (pg_EY n s) d k t b h) → wY_costOf_10 post (nI s) (nI l) x (nI n) w p fuel t (nI b) z (nI k) := by
  intro d
  induction d with
  | zero =>
    intro k b t z h fuel h1 hb h2 hz hp
    obtain ⟨f, rfl⟩ := pg_fu h2
    exact br_t (nI_le (by omega) (by omega)) hp
  | succ d ih =>
    intro k b t z h fuel h1 hb h2 hz hp
    obtain ⟨f, rfl⟩ := pg_fu h2
    refine br_f (nI_ge (by omega) (by omega)) ?_
    rw [pg_cost] at hp
    rw [pg_bit (by omega) (by omega)]
    have key : pg_EY n s k = true → wY_costOf_40 post (wY_costOf_10 post (nI s) (nI l) x (nI n) w p f) (nI s) t (nI b) z (nI k) (nI l) x (nI n) w p := by
      intro e
      rw [if_pos e] at hp
      refine py_40 (h := h) hw hn hl hb (by omega) hz (fun q => ?_) (fun q el => ?_) (fun q el => ?_)
      · rw [if_neg q] at hp
        exact hp
      · rw [if_pos q, if_pos el] at hp
        have d0 : d = 0 := by omega
        subst d0
        exact ih (k + 1) (k + 1) _ 0 false f (by omega) (by omega) (by omega) ⟨fun _ => rfl, fun _ => rfl⟩ hp
      · rw [if_pos q, if_neg el] at hp
        refine ih (k + 1) (k + 1) _ _ (decide (0 < p k)) f (by omega) (by omega) (by omega) ?_ hp
        by_cases ep : 0 < p k
        · rw [if_pos ep, decide_eq_true ep]
          decide
        · rw [if_neg ep, decide_eq_false ep]
          decide
    by_cases bt : s.testBit k = true
    · rw [if_pos bt]
      exact br_t rfl (key (by unfold pg_EY; rw [bt, Bool.or_true]))
    · rw [if_neg bt]
      refine br_f (by decide) ?_
      by_cases el : k + 1 = n
      · exact br_t (by rw [pg_n1 (by omega)]; exact congrArg nI (by omega)) (key (by unfold pg_EY; rw [decide_eq_true (by omega), Bool.true_or]))
      · refine br_f (by rw [pg_n1 (by omega), nI_eq (by omega) (by omega)]; omega) ?_
        have e : ¬ pg_EY n s k = true := by
          unfold pg_EY
          rw [decide_eq_false (by omega), Bool.false_or]
          exact bt
        rw [if_neg e] at hp
        exact nm_r (nI_1 _) (ih (k + 1) b t z h f (by omega) (by omega) (by omega) hz hp)
theorem py_cost {s l : Nat} (hw : pg_W n w) (hn : n ≤ 10) (hl : l ≤ 60) (hs : s < 512) (hp : post (pg_vY w p (nI l) x n s)) : wpY_costOf post (nI l, x, nI n, w, p) (nI s) := by
  unfold wpY_costOf
  dsimp only
  exact ⟨n + 1, py_cLoop hw hn hl hs n 0 0 0 0 false (n + 1) (by omega) (by omega) (by omega) ⟨fun _ => rfl, fun _ => rfl⟩ hp⟩
theorem py_sets (hn : n ≤ 10) (hp : post (nI (2 ^ (n - 1)))) : wpY_sets post (L, x, nI n, w, p) := by
  unfold wpY_sets
  dsimp only
  by_cases e : n = 0
  · subst e
    exact br_t rfl hp
  · refine br_f (nI_ne0 (by omega) (by omega)) ?_
    rw [pg_n1 (by omega), pg_shl (by omega)]
    exact hp
theorem py_coLoop {s a : Nat} (hs : s < 512) : ∀ d i fuel, i + d = 10 → d < fuel → post (nI (a + pg_cnt s.testBit 10)) → wY_count_15 post (nI s) L x (nI n) w p fuel (nI (a + pg_cnt s.testBit i)) (nI i) := by
  intro d
  induction d with
  | zero =>
    intro i fuel h1 h2 hp
    obtain ⟨f, rfl⟩ := pg_fu h2
    have e : i = 10 := by omega
    subst e
    exact br_t (nI_le (a := 10) (b := 10) (by omega) (by omega)) hp
  | succ d ih =>
    intro i fuel h1 h2 hp
    obtain ⟨f, rfl⟩ := pg_fu h2
    refine br_f (nI_ge (b := 10) (by omega) (by omega)) ?_
    rw [pg_bit (by omega) (by omega)]
    refine nm_r (nI_add _ _) (nm_r (nI_1 _) ?_)
    rw [Nat.add_assoc]
    exact ih (i + 1) f (by omega) (by omega) hp
theorem py_count {s : Nat} (hn : n ≤ 10) (hs : s < 2 ^ (n - 1)) (hp : post (nI (pg_lY n s))) : wpY_count post (L, x, nI n, w, p) (nI s) := by
  have h5 := pg_M9 hn hs
  unfold pg_lY at hp
  rw [pg_lines hn hs] at hp
  unfold wpY_count
  dsimp only
  by_cases e : n = 0
  · rw [if_pos e] at hp
    subst e
    exact br_t (by decide) ⟨11, py_coLoop (a := 0) h5 10 0 11 (by omega) (by omega) hp⟩
  · rw [if_neg e] at hp
    exact br_f (nI_nle (by omega) (by omega)) ⟨11, py_coLoop (a := 1) h5 10 0 11 (by omega) (by omega) hp⟩
theorem py_beLoop {a b : Nat} (ha : a < 512) (hb : b < 512) : ∀ d i fuel, i + d = 10 → d < fuel → post (if pg_bf d (a / 2 ^ i) (b / 2 ^ i) = true then 1 else 0) → wY_before_34 post (nI a) (nI b) L x (nI n) w p fuel (nI i) := by
  intro d
  induction d with
  | zero =>
    intro i fuel h1 h2 hp
    obtain ⟨f, rfl⟩ := pg_fu h2
    exact br_t (nI_le (a := 10) (by omega) (by omega)) hp
  | succ d ih =>
    intro i fuel h1 h2 hp
    obtain ⟨f, rfl⟩ := pg_fu h2
    refine br_f (nI_ge (b := 10) (by omega) (by omega)) ?_
    rw [pg_bitN ha (by omega), pg_bitN hb (by omega)]
    have l1 : a / 2 ^ i % 2 < 2 := Nat.mod_lt _ (by decide)
    have l2 : b / 2 ^ i % 2 < 2 := Nat.mod_lt _ (by decide)
    rw [pg_bf] at hp
    by_cases e : a / 2 ^ i % 2 = b / 2 ^ i % 2
    · rw [if_pos e, Nat.div_div_eq_div_mul, Nat.div_div_eq_div_mul, ← Nat.pow_succ] at hp
      exact br_t (congrArg nI e) (nm_r (nI_1 _) (ih (i + 1) f (by omega) (by omega) hp))
    · rw [if_neg e] at hp
      refine br_f (fun q => e ((nI_eq (by omega) (by omega)).mp q)) ?_
      by_cases e1 : a / 2 ^ i % 2 = 1
      · rw [decide_eq_true e1, if_pos rfl] at hp
        exact br_t (congrArg nI e1) hp
      · rw [decide_eq_false e1, if_neg (by decide)] at hp
        exact br_f (fun q => e1 ((nI_eq (b := 1) (by omega) (by omega)).mp q)) hp
theorem py_before {a b : Nat} (hn : n ≤ 10) (ha : a < 2 ^ (n - 1)) (hb : b < 2 ^ (n - 1)) (ht : (pg_lY n a < pg_lY n b ∨ (pg_lY n a = pg_lY n b ∧ pg_rv (n - 1) b < pg_rv (n - 1) a)) → post 1) (hf : ¬ (pg_lY n a < pg_lY n b ∨ (pg_lY n a = pg_lY n b ∧ pg_rv (n - 1) b < pg_rv (n - 1) a)) → post 0) : wpY_before post (L, x, nI n, w, p) (nI a) (nI b) := by
  have a5 := pg_M9 hn ha
  have b5 := pg_M9 hn hb
  have l1 : pg_lY n a ≤ n := pg_cnt_le _ _
  have l2 : pg_lY n b ≤ n := pg_cnt_le _ _
  unfold wpY_before
  dsimp only
  refine py_count hn ha (py_count hn hb ?_)
  refine br_c (fun q => ?_) (fun q => ?_)
  · have q2 := (nI_eq (by omega) (by omega)).mp q
    refine ⟨11, py_beLoop a5 b5 10 0 11 (by omega) (by omega) ?_⟩
    rw [Nat.pow_zero, Nat.div_one, Nat.div_one]
    have hr := pg_bf_rv (n - 1) 10 a b (by omega) ha hb
    by_cases e : pg_bf 10 a b = true
    · rw [if_pos e]
      exact ht (Or.inr ⟨q2, hr.mp e⟩)
    · rw [if_neg e]
      refine hf (fun z => ?_)
      rcases z with z | z
      · omega
      · exact e (hr.mpr z.2)
  · have q2 : ¬ pg_lY n a = pg_lY n b := fun z => q (congrArg nI z)
    refine br_c (fun z => ?_) (fun z => ?_)
    · rw [nI_leI (by omega) (by omega)] at z
      exact hf (by omega)
    · rw [nI_leI (by omega) (by omega)] at z
      exact ht (by omega)
end
end
section
/-- the masks that the reference's best looks at -/
def pg_sel (m q : Int32) (s : Nat) : Prop := (m &&& (nI s ^^^ (-1))) = 0 ∧ (q &&& nI s) = 0
/-- what the reference's best mask is -/
def pg_BY (w p : Nat → Int32) (L x : Int32) (n : Nat) (o : Option Nat) : Prop := pg_Inv (fun c => c < 2 ^ (n - 1)) (pg_vY w p L x n) (pg_bt (pg_vY w p L x n) (pg_lY n) (pg_rv (n - 1))) o
theorem pg_u_D (k x : Nat) : x < k + 1 ↔ (x < k ∨ x = k) := by omega
section
variable {w p : Nat → Int32} {L x : Int32} {n l : Nat} {post : Int32 → Prop}
theorem py_bLoop {m q : Int32} {v : Nat → Int32} (hw : pg_W n w) (hn : n ≤ 10) (hl : l ≤ 60)
    (hv : ∀ c, c < 2 ^ (n - 1) → (pg_sel m q c → v c = pg_vY w p (nI l) x n c) ∧ (¬ pg_sel m q c → v c = pg_NO))
    (hp : ∀ o, pg_Inv (fun c => c < 2 ^ (n - 1)) v (pg_bt v (pg_lY n) (pg_rv (n - 1))) o → post (pg_code o)) :
    ∀ d k fuel o, k + d = 2 ^ (n - 1) → d < fuel → pg_Inv (fun c => c < k) v (pg_bt v (pg_lY n) (pg_rv (n - 1))) o →
    wY_best_8 post m q (nI l) x (nI n) w p fuel (pg_code o) (pg_val 0 v o) (nI k) := by
  have hM := pg_p5 hn
  intro d
  induction d with
  | zero =>
    intro k fuel o h1 h2 hi
    obtain ⟨f, rfl⟩ := pg_fu h2
    have e : k = 2 ^ (n - 1) := by omega
    rw [e] at hi ⊢
    rw [wY_best_8]
    refine py_sets hn ?_
    exact br_t (nI_le (by omega) (by omega)) (hp o hi)
  | succ d ih =>
    intro k fuel o h1 h2 hi
    obtain ⟨f, rfl⟩ := pg_fu h2
    have hk : k < 2 ^ (n - 1) := by omega
    have hk5 : k < 512 := by omega
    rw [wY_best_8]
    refine py_sets hn ?_
    refine br_f (nI_ge (by omega) (by omega)) ?_
    have step : wY_best_44 post (wY_best_8 post m q (nI l) x (nI n) w p f) m q (pg_code o) (pg_val 0 v o) (nI k) (v k) (nI l) x (nI n) w p := by
      unfold wY_best_44
      by_cases e : v k = pg_NO
      · exact br_t e (nm_r (nI_1 _) (ih (k + 1) f o (by omega) (by omega) (pg_i_skip (pg_u_D k) e hi)))
      · refine br_f e ?_
        cases o with
        | none => exact br_t (by decide) (nm_r (nI_1 _) (ih (k + 1) f (some k) (by omega) (by omega) (pg_i_first (pg_u_D k) e hi)))
        | some b =>
          have hb : b < k := hi.1
          have hb5 : b < 2 ^ (n - 1) := by omega
          refine br_f (nI_pos (by omega)) ?_
          by_cases lt : v k < v b
          · exact br_t lt (nm_r (nI_1 _) (ih (k + 1) f (some k) (by omega) (by omega) (pg_i_new (pg_u_D k) pg_bt_tr e (Or.inl (Int32.lt_iff_toInt_lt.mp lt)) hi)))
          · refine br_f lt ?_
            have lt2 : ¬ (v k).toInt < (v b).toInt := fun z => lt (Int32.lt_iff_toInt_lt.mpr z)
            by_cases eq : v k = v b
            · refine br_t eq (py_before hn hk hb5 (fun z => ?_) (fun z => ?_))
              · exact br_f (by decide) (nm_r (nI_1 _) (ih (k + 1) f (some k) (by omega) (by omega) (pg_i_new (pg_u_D k) pg_bt_tr e (Or.inr ⟨congrArg Int32.toInt eq, z⟩) hi)))
              · have ne : pg_rv (n - 1) k ≠ pg_rv (n - 1) b := fun y => by
                  have y2 := congrArg (pg_rv (n - 1)) y
                  rw [pg_rv_rv hk, pg_rv_rv hb5] at y2
                  omega
                have bt : pg_bt v (pg_lY n) (pg_rv (n - 1)) b k := by
                  refine Or.inr ⟨congrArg Int32.toInt eq.symm, ?_⟩
                  omega
                exact br_t rfl (nm_r (nI_1 _) (ih (k + 1) f (some b) (by omega) (by omega) (pg_i_old (pg_u_D k) bt hi)))
            · have eq2 : ¬ (v k).toInt = (v b).toInt := fun z => eq (Int32.toInt_inj.mp z)
              have bt : pg_bt v (pg_lY n) (pg_rv (n - 1)) b k := Or.inl (by omega)
              exact br_f eq (nm_r (nI_1 _) (ih (k + 1) f (some b) (by omega) (by omega) (pg_i_old (pg_u_D k) bt hi)))
    by_cases s1 : (m &&& (nI k ^^^ (-1))) = 0
    · refine br_t s1 ?_
      by_cases s2 : (q &&& nI k) = 0
      · rw [(hv k hk).1 ⟨s1, s2⟩] at step
        exact br_t s2 (py_cost hw hn hl hk5 step)
      · rw [(hv k hk).2 (fun z => s2 z.2)] at step
        exact br_f s2 step
    · rw [(hv k hk).2 (fun z => s1 z.1)] at step
      exact br_f s1 step
theorem py_best {m q : Int32} {v : Nat → Int32} (hw : pg_W n w) (hn : n ≤ 10) (hl : l ≤ 60)
    (hv : ∀ c, c < 2 ^ (n - 1) → (pg_sel m q c → v c = pg_vY w p (nI l) x n c) ∧ (¬ pg_sel m q c → v c = pg_NO))
    (hp : ∀ o, pg_Inv (fun c => c < 2 ^ (n - 1)) v (pg_bt v (pg_lY n) (pg_rv (n - 1))) o → post (pg_code o)) : wpY_best post (nI l, x, nI n, w, p) m q := by
  unfold wpY_best
  dsimp only
  exact ⟨2 ^ (n - 1) + 1, py_bLoop hw hn hl hv hp (2 ^ (n - 1)) 0 _ none (by omega) (by omega) (pg_i_0 (fun c => Nat.not_lt_zero c))⟩
theorem py_best0 (hw : pg_W n w) (hn : n ≤ 10) (hl : l ≤ 60) (hp : ∀ o, pg_BY w p (nI l) x n o → post (pg_code o)) : wpY_best post (nI l, x, nI n, w, p) 0 0 :=
  py_best (v := pg_vY w p (nI l) x n) hw hn hl (fun c _ => ⟨fun _ => rfl, fun z => absurd ⟨Int32.zero_and, Int32.zero_and⟩ z⟩) hp
theorem py_eoLoop {s : Nat} {k : Int32} (hn : n ≤ 10) (hs : s < 512) : ∀ d i q fuel, i + d = n → d < fuel → post (pg_end (pg_EY n s) k d i q) → wY_endOf_12 post k (nI s) L x (nI n) w p fuel (nI q) (nI i) := by
  intro d
  induction d with
  | zero =>
    intro i q fuel h1 h2 hp
    obtain ⟨f, rfl⟩ := pg_fu h2
    exact br_t (nI_le (by omega) (by omega)) hp
  | succ d ih =>
    intro i q fuel h1 h2 hp
    obtain ⟨f, rfl⟩ := pg_fu h2
    refine br_f (nI_ge (by omega) (by omega)) (br_f (nI_pos (by omega)) ?_)
    rw [pg_bit (by omega) (by omega)]
    rw [pg_end] at hp
    have key : pg_EY n s i = true → wY_endOf_46 post (wY_endOf_12 post k (nI s) L x (nI n) w p f) k (nI s) (nI q) (nI i) L x (nI n) w p := by
      intro e
      rw [if_pos e] at hp
      unfold wY_endOf_46
      by_cases ek : nI q = k
      · rw [if_pos ek] at hp
        exact br_t ek hp
      · rw [if_neg ek] at hp
        exact br_f ek (nm_r (nI_1 _) (nm_r (nI_1 _) (ih (i + 1) (q + 1) f (by omega) (by omega) hp)))
    by_cases bt : s.testBit i = true
    · rw [if_pos bt]
      exact br_t rfl (key (by unfold pg_EY; rw [bt, Bool.or_true]))
    · rw [if_neg bt]
      refine br_f (by decide) ?_
      by_cases el : i + 1 = n
      · exact br_t (by rw [pg_n1 (by omega)]; exact congrArg nI (by omega)) (key (by unfold pg_EY; rw [decide_eq_true (by omega), Bool.true_or]))
      · refine br_f (by rw [pg_n1 (by omega), nI_eq (by omega) (by omega)]; omega) ?_
        have e : ¬ pg_EY n s i = true := by
          unfold pg_EY
          rw [decide_eq_false (by omega), Bool.false_or]
          exact bt
        rw [if_neg e] at hp
        exact nm_r (nI_1 _) (ih (i + 1) q f (by omega) (by omega) hp)
theorem py_loLoop {s m : Nat} (hs : s < 512) (hm : m ≤ 10) : ∀ d i fuel, i + d = m → d < fuel → post (nI (pg_cnt s.testBit m)) → wY_lineOf_26 post (nI m) (nI s) L x (nI n) w p fuel (nI (pg_cnt s.testBit i)) (nI i) := by
  intro d
  induction d with
  | zero =>
    intro i fuel h1 h2 hp
    obtain ⟨f, rfl⟩ := pg_fu h2
    have e : i = m := by omega
    rw [e]
    exact br_t (nI_le (by omega) (by omega)) hp
  | succ d ih =>
    intro i fuel h1 h2 hp
    obtain ⟨f, rfl⟩ := pg_fu h2
    refine br_f (nI_ge (by omega) (by omega)) ?_
    rw [pg_bit (by omega) (by omega)]
    exact nm_r (nI_add _ _) (nm_r (nI_1 _) (ih (i + 1) f (by omega) (by omega) hp))
theorem py_32 {J : Int32 → Int32 → Prop} {x1 r z : Int32} {k : Nat} (hJ : J (pg_ls r z) (nI (k + 1))) : wY_costWith_32 post J x1 r (nI k) z L x (nI n) w p := by
  unfold wY_costWith_32
  by_cases e1 : z = pg_NO
  · rw [e1, pg_ls_no] at hJ
    exact br_t e1 (nm_r (nI_1 _) hJ)
  · refine br_f e1 ?_
    unfold pg_ls at hJ
    by_cases e2 : r = pg_NO
    · rw [if_pos e2] at hJ
      exact br_t e2 (nm_r (nI_1 _) hJ)
    · refine br_f e2 ?_
      rw [if_neg e2] at hJ
      by_cases e3 : r < z
      · rw [if_pos (Or.inr e3)] at hJ
        exact br_t (Int32.le_iff_toInt_le.mpr (Int.le_of_lt (Int32.lt_iff_toInt_lt.mp e3))) (nm_r (nI_1 _) hJ)
      · rw [if_neg (fun y => y.elim e1 e3)] at hJ
        by_cases e4 : r ≤ z
        · have e5 : r = z := by
            rw [Int32.lt_iff_toInt_lt] at e3
            have e6 := Int32.le_iff_toInt_le.mp e4
            exact Int32.toInt_inj.mp (by omega)
          rw [← e5] at hJ
          exact br_t e4 (nm_r (nI_1 _) hJ)
        · exact br_f e4 (nm_r (nI_1 _) hJ)
theorem py_cwLoop {q : Int32} {v : Nat → Int32} (hw : pg_W n w) (hn : n ≤ 10) (hl : l ≤ 60) (hv : pg_only (fun c => nI (pg_lY n c) = q) (pg_vY w p (nI l) x n) v) (hp : ∀ r, pg_Min (fun c => c < 2 ^ (n - 1)) v r → post r) : ∀ d k fuel r, k + d = 2 ^ (n - 1) → d < fuel → pg_Min (fun c => c < k) v r → wY_costWith_5 post q (nI l) x (nI n) w p fuel r (nI k) := by
  have hM := pg_p5 hn
  intro d
  induction d with
  | zero =>
    intro k fuel r h1 h2 hi
    obtain ⟨f, rfl⟩ := pg_fu h2
    have e : k = 2 ^ (n - 1) := by omega
    rw [e] at hi ⊢
    rw [wY_costWith_5]
    refine py_sets hn ?_
    exact br_t (nI_le (by omega) (by omega)) (hp r hi)
  | succ d ih =>
    intro k fuel r h1 h2 hi
    obtain ⟨f, rfl⟩ := pg_fu h2
    rw [wY_costWith_5]
    refine py_sets hn ?_
    refine br_f (nI_ge (by omega) (by omega)) (py_count hn (by omega) ?_)
    have hm := pg_m_s (pg_u_D k) hi
    by_cases e : nI (pg_lY n k) = q
    · rw [(hv k).1 e] at hm
      exact br_t e (py_cost hw hn hl (by omega) (py_32 (ih (k + 1) f _ (by omega) (by omega) hm)))
    · rw [(hv k).2 e] at hm
      exact br_f e (py_32 (ih (k + 1) f _ (by omega) (by omega) hm))
theorem py_costWith {q : Int32} {v : Nat → Int32} (hw : pg_W n w) (hn : n ≤ 10) (hl : l ≤ 60) (hv : pg_only (fun c => nI (pg_lY n c) = q) (pg_vY w p (nI l) x n) v) (hp : ∀ r, pg_Min (fun c => c < 2 ^ (n - 1)) v r → post r) : wpY_costWith post (nI l, x, nI n, w, p) q := by
  unfold wpY_costWith
  dsimp only
  exact ⟨2 ^ (n - 1) + 1, py_cwLoop hw hn hl hv hp (2 ^ (n - 1)) 0 _ pg_NO (by omega) (by omega) (pg_m_0 (fun c => Nat.not_lt_zero c))⟩
theorem py_chLoop {r : Int32} (hw : pg_W n w) (hn : n ≤ 10) (hl : l ≤ 60) (hr : r ≠ pg_NO) (hp : post (nI (pg_num (pg_vY w p (nI l) x n) r (2 ^ (n - 1))))) : ∀ d k fuel, k + d = 2 ^ (n - 1) → d < fuel → wY_choices_9 post r (nI l) x (nI n) w p fuel (nI (pg_num (pg_vY w p (nI l) x n) r k)) (nI k) := by
  have hM := pg_p5 hn
  intro d
  induction d with
  | zero =>
    intro k fuel h1 h2
    obtain ⟨f, rfl⟩ := pg_fu h2
    have e : k = 2 ^ (n - 1) := by omega
    rw [e]
    rw [wY_choices_9]
    refine py_sets hn ?_
    exact br_t (nI_le (by omega) (by omega)) hp
  | succ d ih =>
    intro k fuel h1 h2
    obtain ⟨f, rfl⟩ := pg_fu h2
    rw [wY_choices_9]
    refine py_sets hn ?_
    refine br_f (nI_ge (by omega) (by omega)) (br_f hr (py_cost hw hn hl (by omega) ?_))
    have hi := ih (k + 1) f (by omega) (by omega)
    have hs : pg_num (pg_vY w p (nI l) x n) r (k + 1) = pg_num (pg_vY w p (nI l) x n) r k + (if decide (pg_vY w p (nI l) x n k = r) = true then 1 else 0) := rfl
    by_cases e : pg_vY w p (nI l) x n k = r
    · rw [if_pos (decide_eq_true e)] at hs
      rw [hs] at hi
      exact br_t e (nm_r (nI_1 _) (nm_r (nI_1 _) hi))
    · rw [if_neg (by rw [decide_eq_false e]; decide)] at hs
      rw [hs] at hi
      exact br_f e (nm_r (nI_1 _) hi)
end
end
section
theorem pg_nm1 {b : Nat} (h : b < 2 ^ 31) : ¬ nI b = -1 := fun q => nI_pos h (by rw [q]; decide)
/-- the last word of line k of the best breaking -/
def pg_endX (n : Nat) (k : Int32) : Option Nat → Int32
  | none => -1
  | some c => pg_end (pg_EX n c) k n 0 0
theorem pg_endX_r (n : Nat) (k : Int32) (o : Option Nat) : pg_endX n k o = -1 ∨ ∃ j, j < n ∧ pg_endX n k o = nI j := by
  cases o with
  | none => exact Or.inl rfl
  | some c =>
    rcases pg_end_r (pg_EX n c) k n 0 0 with a | ⟨j, _, b, e⟩
    · exact Or.inl a
    · exact Or.inr ⟨j, by omega, e⟩
theorem pg_endX_s (n : Nat) (k : Int32) (o : Option Nat) : ∃ i, i ≤ n ∧ pg_endX n k o + 1 = nI i := by
  rcases pg_endX_r n k o with a | ⟨j, b, e⟩
  · exact ⟨0, by omega, by rw [a]; rfl⟩
  · exact ⟨j + 1, by omega, by rw [e, nI_1]⟩
theorem pg_endX_n {n : Nat} {k : Int32} (o : Option Nat) (hn : n ≤ 10) (hk : k < 0) : pg_endX n k o = -1 := by
  cases o with
  | none => rfl
  | some c => exact pg_end_n _ hk n 0 0 (by omega)
/-- the length of line k of the best breaking -/
def pg_lenV (w : Nat → Int32) (n : Nat) (k : Int32) (o : Option Nat) : Int32 :=
  if pg_endX n k o = -1 then -1 else pg_len w (if k = 0 then 0 else (pg_endX n (k - 1) o + 1).toNatClampNeg) (pg_endX n k o).toNatClampNeg
/-- the line of word j of the best breaking -/
def pg_lineX (n j : Nat) : Option Nat → Int32
  | none => -1
  | some c => nI (pg_cnt (pg_EX n c) j)
section
variable {w p : Nat → Int32} {L x : Int32} {n l : Nat} {post : Int32 → Prop}
theorem pg_mt {o o' : Option Nat} (hX : pg_BX w p L x n o) (hY : pg_BY w p L x n o') : (o = none ∧ o' = none) ∨ ∃ s, s < 2 ^ (n - 1) ∧ o' = some s ∧ o = some (pg_rv (n - 1) s) :=
  pg_meet (fun s _ => pg_vY_rv w p L x n s) (fun s _ => pg_lY_rv n s) hX hY
theorem px_costM (hn : n ≤ 10) (hp : ∀ o, pg_BX w p L x n o → post (pg_val pg_NO (pg_vX w p L x n) o)) : wpX_cost post (x, L, nI n, w, p) := by
  unfold wpX_cost
  dsimp only
  refine px_best hn (fun o hX => ?_)
  have h := hp o hX
  cases o with
  | none => exact br_t rfl h
  | some c =>
    have hc := pg_M9 hn hX.1
    exact br_f (pg_nm1 (by omega)) (px_cost hn hc h)
theorem px_linesM (hn : n ≤ 10) (hp : ∀ o, pg_BX w p L x n o → post (nI (pg_lo (pg_lX n) o))) : wpX_lines post (x, L, nI n, w, p) := by
  unfold wpX_lines
  dsimp only
  refine px_best hn (fun o hX => ?_)
  have h := hp o hX
  cases o with
  | none => exact br_t rfl h
  | some c =>
    have hc := pg_M9 hn hX.1
    exact br_f (pg_nm1 (by omega)) (px_lines hn hc h)
theorem px_endM {k : Int32} (hn : n ≤ 10) (hp : ∀ o, pg_BX w p L x n o → post (pg_endX n k o)) : wpX_endOf post (x, L, nI n, w, p) k := by
  unfold wpX_endOf
  dsimp only
  refine px_best hn (fun o hX => ?_)
  have h := hp o hX
  cases o with
  | none => exact br_t rfl h
  | some c =>
    have hc := pg_M9 hn hX.1
    exact br_f (pg_nm1 (by omega)) (px_end hn hc h)
theorem px_hasT {j : Nat} (hn : n ≤ 10) (hj : j < n) (hp : post 1) : wpX_hasWord post (x, L, nI n, w, p) (nI j) := by
  unfold wpX_hasWord
  dsimp only
  exact br_f (nI_pos (by omega)) (br_f (nI_ge hj (by omega)) hp)
theorem px_hasF {q : Int32} (h : q < 0 ∨ nI n ≤ q) (hp : post 0) : wpX_hasWord post (x, L, nI n, w, p) q := by
  unfold wpX_hasWord
  dsimp only
  exact br_c (fun _ => hp) (fun z => br_t (h.resolve_left z) hp)
theorem py_isT {j : Nat} (hn : n ≤ 10) (hj : j < n) (hp : post 1) : wpY_is post (L, x, nI n, w, p) (nI j) := by
  unfold wpY_is
  dsimp only
  exact br_f (nI_pos (by omega)) (br_f (nI_ge hj (by omega)) hp)
theorem py_isF {q : Int32} (h : q < 0 ∨ nI n ≤ q) (hp : post 0) : wpY_is post (L, x, nI n, w, p) q := by
  unfold wpY_is
  dsimp only
  exact br_c (fun _ => hp) (fun z => br_t (h.resolve_left z) hp)
theorem px_lineM {j : Nat} (hn : n ≤ 10) (hj : j < n) (hp : ∀ o, pg_BX w p L x n o → post (pg_lineX n j o)) : wpX_lineOf post (x, L, nI n, w, p) (nI j) := by
  unfold wpX_lineOf
  dsimp only
  refine px_hasT hn hj ?_
  refine br_f (by decide) ?_
  refine px_best hn (fun o hX => ?_)
  have h := hp o hX
  cases o with
  | none => exact br_t rfl h
  | some c =>
    have hc := pg_M9 hn hX.1
    exact br_f (pg_nm1 (by omega)) (px_eb hn hc (by omega) h)
theorem px_lineF {q : Int32} (h : q < 0 ∨ nI n ≤ q) (hp : post (-1)) : wpX_lineOf post (x, L, nI n, w, p) q := by
  unfold wpX_lineOf
  dsimp only
  refine px_hasF h ?_
  exact br_t rfl hp
theorem px_lengthM {k : Int32} (hn : n ≤ 10) (hp : ∀ o, pg_BX w p L x n o → post (pg_lenV w n k o)) : wpX_lengthOf post (x, L, nI n, w, p) k := by
  unfold wpX_lengthOf wX_lengthOf_44
  dsimp only
  refine px_best hn (fun o hX => ?_)
  have h := hp o hX
  cases o with
  | none => exact br_t rfl h
  | some c =>
    have hc := pg_M9 hn hX.1
    refine br_f (pg_nm1 (by omega)) ?_
    refine px_end hn hc ?_
    rcases pg_endX_r n k (some c) with q | ⟨j, hj, q⟩
    · have q' : pg_end (pg_EX n c) k n 0 0 = -1 := q
      rw [pg_lenV, if_pos q] at h
      exact br_t q' h
    · have q' : pg_end (pg_EX n c) k n 0 0 = nI j := q
      rw [q']
      refine br_f (pg_nm1 (by omega)) ?_
      rw [pg_lenV, if_neg (by rw [q]; exact pg_nm1 (by omega)), q, nI_clamp (by omega)] at h
      by_cases k0 : k = 0
      · rw [if_pos k0] at h
        exact br_t k0 (px_len (i := 0) (by omega) (by omega) h)
      · rw [if_neg k0] at h
        obtain ⟨i, hi, ei⟩ := pg_endX_s n (k - 1) (some c)
        rw [ei, nI_clamp (by omega)] at h
        refine br_f k0 ?_
        refine px_end hn hc ?_
        have ei' : pg_end (pg_EX n c) (k - 1) n 0 0 + 1 = nI i := ei
        rw [ei']
        exact px_len (by omega) (by omega) h
theorem py_costA (hw : pg_W n w) (hn : n ≤ 10) (hl : l ≤ 60) (hp : ∀ o, pg_BY w p (nI l) x n o → post (pg_val pg_NO (pg_vY w p (nI l) x n) o)) : wpY_cost post (nI l, x, nI n, w, p) := by
  unfold wpY_cost
  dsimp only
  refine py_best0 hw hn hl (fun o hY => ?_)
  have h := hp o hY
  cases o with
  | none => exact br_f (by decide) h
  | some s =>
    have hs := pg_M9 hn hY.1
    exact br_t (nI_pos' (by omega)) (py_cost hw hn hl hs h)
theorem py_costM {o : Option Nat} (hw : pg_W n w) (hn : n ≤ 10) (hl : l ≤ 60) (hX : pg_BX w p (nI l) x n o) (hp : post (pg_val pg_NO (pg_vX w p (nI l) x n) o)) : wpY_cost post (nI l, x, nI n, w, p) := by
  refine py_costA hw hn hl (fun o' hY => ?_)
  rcases pg_mt hX hY with ⟨a, b⟩ | ⟨s, hs, a, b⟩
  · rw [a] at hp
    rw [b]
    exact hp
  · rw [b] at hp
    rw [a]
    show post (pg_vY w p (nI l) x n s)
    rw [pg_vY_rv]
    exact hp
theorem py_linesM {o : Option Nat} (hw : pg_W n w) (hn : n ≤ 10) (hl : l ≤ 60) (hX : pg_BX w p (nI l) x n o) (hp : post (nI (pg_lo (pg_lX n) o))) : wpY_lines post (nI l, x, nI n, w, p) := by
  unfold wpY_lines
  dsimp only
  refine py_best0 hw hn hl (fun o' hY => ?_)
  rcases pg_mt hX hY with ⟨a, b⟩ | ⟨s, hs, a, b⟩
  · rw [a] at hp
    rw [b]
    exact br_f (by decide) hp
  · have h5 := pg_M9 hn hs
    rw [b] at hp
    rw [a]
    refine br_t (nI_pos' (n := s) (by omega)) (py_count hn hs ?_)
    rw [pg_lY_rv]
    exact hp
theorem py_endM {o : Option Nat} {k : Int32} (hw : pg_W n w) (hn : n ≤ 10) (hl : l ≤ 60) (hX : pg_BX w p (nI l) x n o) (hp : post (pg_endX n k o)) : wpY_endOf post (nI l, x, nI n, w, p) k := by
  unfold wpY_endOf
  dsimp only
  refine py_best0 hw hn hl (fun o' hY => ?_)
  rcases pg_mt hX hY with ⟨a, b⟩ | ⟨s, hs, a, b⟩
  · rw [a] at hp
    rw [b]
    exact ⟨1, br_c (fun _ => hp) (fun _ => br_t (by decide) hp)⟩
  · have h5 := pg_M9 hn hs
    rw [b] at hp
    rw [a]
    refine ⟨n + 1, py_eoLoop hn h5 n 0 0 (n + 1) (by omega) (by omega) ?_⟩
    rw [← pg_EX_rv]
    exact hp
theorem py_lineM {o : Option Nat} {j : Nat} (hw : pg_W n w) (hn : n ≤ 10) (hl : l ≤ 60) (hj : j < n) (hX : pg_BX w p (nI l) x n o) (hp : post (pg_lineX n j o)) : wpY_lineOf post (nI l, x, nI n, w, p) (nI j) := by
  unfold wpY_lineOf
  dsimp only
  refine py_best0 hw hn hl (fun o' hY => ?_)
  rcases pg_mt hX hY with ⟨a, b⟩ | ⟨s, hs, a, b⟩
  · rw [a] at hp
    rw [b]
    exact br_t (by decide) hp
  · have h5 := pg_M9 hn hs
    rw [b] at hp
    rw [a]
    refine br_f (nI_pos (n := s) (by omega)) ?_
    refine py_isT hn hj ?_
    refine br_f (by decide) ⟨j + 1, py_loLoop h5 (by omega) j 0 (j + 1) (by omega) (by omega) ?_⟩
    have e : pg_lineX n j (some (pg_rv (n - 1) s)) = nI (pg_cnt s.testBit j) := by
      show nI (pg_cnt (pg_EX n (pg_rv (n - 1) s)) j) = _
      rw [pg_EX_rv, pg_pre hj]
    rw [e] at hp
    exact hp
theorem py_lineF {q : Int32} (hw : pg_W n w) (hn : n ≤ 10) (hl : l ≤ 60) (h : q < 0 ∨ nI n ≤ q) (hp : post (-1)) : wpY_lineOf post (nI l, x, nI n, w, p) q := by
  unfold wpY_lineOf
  dsimp only
  refine py_best0 hw hn hl (fun o' hY => ?_)
  refine br_c (fun _ => hp) (fun _ => ?_)
  refine py_isF h ?_
  exact br_t rfl hp
theorem py_lengthM {o : Option Nat} {k : Int32} (hw : pg_W n w) (hn : n ≤ 10) (hl : l ≤ 60) (hX : pg_BX w p (nI l) x n o) (h : post (pg_lenV w n k o)) : wpY_lengthOf post (nI l, x, nI n, w, p) k := by
  unfold wpY_lengthOf wY_lengthOf_23
  dsimp only
  refine py_endM hw hn hl hX ?_
  rcases pg_endX_r n k o with q | ⟨j, hj, q⟩
  · rw [pg_lenV, if_pos q] at h
    rw [q]
    refine br_c (fun _ => br_f (by decide) h) (fun _ => ?_)
    refine py_endM hw hn hl hX ?_
    exact br_f (by decide) h
  · rw [pg_lenV, if_neg (by rw [q]; exact pg_nm1 (by omega)), q, nI_clamp (by omega)] at h
    rw [q]
    refine br_c (fun a => br_t (nI_pos' (by omega)) ?_) (fun a => ?_)
    · have k0 : k = 0 := by
        by_cases kn : k < 0
        · exfalso
          rw [pg_endX_n o hn kn] at q
          exact pg_nm1 (b := j) (by omega) q.symm
        · have a2 := Int32.le_iff_toInt_le.mp a
          rw [Int32.lt_iff_toInt_lt] at kn
          exact Int32.toInt_inj.mp (by omega)
      rw [if_pos k0] at h
      exact py_len (i := 0) (by omega) (by omega) h
    · have k0 : ¬ k = 0 := fun z => a (by rw [z]; decide)
      rw [if_neg k0] at h
      obtain ⟨i, hi, ei⟩ := pg_endX_s n (k - 1) o
      rw [ei, nI_clamp (by omega)] at h
      refine py_endM hw hn hl hX ?_
      rw [ei]
      exact br_t (nI_pos' (by omega)) (py_len (by omega) (by omega) h)
theorem pg_num_rv (r : Int32) : pg_num (pg_vY w p L x n) r (2 ^ (n - 1)) = pg_num (pg_vX w p L x n) r (2 ^ (n - 1)) := by
  unfold pg_num
  rw [← pg_cnt_rv (n - 1) (fun c => decide (pg_vX w p L x n c = r))]
  apply pg_cnt_congr
  intro i _
  show decide (pg_vY w p L x n i = r) = decide (pg_vX w p L x n (pg_rv (n - 1) i) = r)
  rw [pg_vY_rv]
theorem py_chM {r : Int32} {t : Nat} (hw : pg_W n w) (hn : n ≤ 10) (hl : l ≤ 60) (hT : pg_Tie (2 ^ (n - 1)) 0 (pg_vX w p (nI l) x n) r t) (hp : post (nI t)) : wpY_choices post (nI l, x, nI n, w, p) := by
  have hM := pg_p5 hn
  obtain ⟨h1, h2, h3⟩ := hT
  rw [pg_D0] at h1
  unfold wpY_choices
  dsimp only
  refine py_costA hw hn hl (fun o' hY => ?_)
  have e : pg_val pg_NO (pg_vY w p (nI l) x n) o' = r := pg_m_u (pg_m_rv (fun s _ => pg_vY_rv w p (nI l) x n s) (pg_i_m hY)) h1
  rw [e]
  by_cases er : r = pg_NO
  · rw [h2 er] at hp
    refine ⟨1, ?_⟩
    rw [wY_choices_9]
    refine py_sets hn ?_
    exact br_f (nI_ge (a := 0) (pg_p1 n) (by omega)) (br_t er hp)
  · have h4 := h3 er
    rw [← pg_num_rv] at h4
    have h5 : pg_num (pg_vX w p (nI l) x n) r 0 = 0 := rfl
    rw [pg_num_rv] at h4
    refine ⟨2 ^ (n - 1) + 1, py_chLoop hw hn hl er ?_ (2 ^ (n - 1)) 0 _ (by omega) (by omega)⟩
    rw [pg_num_rv]
    have h6 : pg_num (pg_vX w p (nI l) x n) r (2 ^ (n - 1)) = t := by omega
    rw [h6]
    exact hp
/-- the numbers among which costBreaking (z = 1) and costKeeping (z = 0) take the least -/
def pg_vE (w p : Nat → Int32) (L x : Int32) (n j : Nat) (z : Int32) (c : Nat) : Int32 := if (if pg_EX n c j = true then (1 : Int32) else 0) = z then pg_vX w p L x n c else pg_NO
theorem pg_vE_only (w p : Nat → Int32) (L x : Int32) (n j : Nat) (z : Int32) : pg_only (fun c => (if pg_EX n c j = true then 1 else 0) = z) (pg_vX w p L x n) (pg_vE w p L x n j z) := fun _ => ⟨fun h => if_pos h, fun h => if_neg h⟩
theorem py_sel {m q z : Int32} {j : Nat} (hw : pg_W n w) (hn : n ≤ 10) (hl : l ≤ 60) (hj : j + 1 < n) (hsel : ∀ c, c < 512 → (pg_sel m q c ↔ (if c.testBit j = true then (1 : Int32) else 0) = z))
    (hp : ∀ r, pg_Min (fun c => c < 2 ^ (n - 1)) (pg_vE w p (nI l) x n j z) r → post r) :
    wpY_best (fun r => (0 ≤ r → wpY_costOf (fun r' => post r') (nI l, x, nI n, w, p) r) ∧ (¬ 0 ≤ r → post (-1000000))) (nI l, x, nI n, w, p) m q := by
  have hE : ∀ c, pg_EX n (pg_rv (n - 1) c) j = c.testBit j := fun c => by
    rw [pg_EX_rv]
    unfold pg_EY
    rw [decide_eq_false (by omega), Bool.false_or]
  have hvs : ∀ c, c < 2 ^ (n - 1) → (pg_sel m q c → pg_vE w p (nI l) x n j z (pg_rv (n - 1) c) = pg_vY w p (nI l) x n c) ∧ (¬ pg_sel m q c → pg_vE w p (nI l) x n j z (pg_rv (n - 1) c) = pg_NO) := fun c hc => by
    have hs := hsel c (pg_M9 hn hc)
    unfold pg_vE
    rw [hE]
    refine ⟨fun a => ?_, fun a => ?_⟩
    · rw [if_pos (hs.mp a), pg_vY_rv]
    · rw [if_neg (fun b => a (hs.mpr b))]
  refine py_best (v := fun s => pg_vE w p (nI l) x n j z (pg_rv (n - 1) s)) hw hn hl hvs (fun o hI => ?_)
  have h := hp _ (pg_m_rv (v := pg_vE w p (nI l) x n j z) (fun s _ => rfl) (pg_i_m hI))
  cases o with
  | none => exact br_f (by decide) h
  | some s =>
    have hs : s < 2 ^ (n - 1) := hI.1
    have hno : pg_vE w p (nI l) x n j z (pg_rv (n - 1) s) ≠ pg_NO := hI.2.1
    have h5 := pg_M9 hn hs
    have e : pg_vE w p (nI l) x n j z (pg_rv (n - 1) s) = pg_vY w p (nI l) x n s := by
      by_cases a : pg_sel m q s
      · exact (hvs s hs).1 a
      · exact absurd ((hvs s hs).2 a) hno
    have h' : post (pg_vE w p (nI l) x n j z (pg_rv (n - 1) s)) := h
    rw [e] at h'
    exact br_t (nI_pos' (n := s) (by omega)) (py_cost hw hn hl h5 h')
end
end
section
/-- a number held between two others -/
def pg_cl (v a b : Int32) : Int32 := if a ≤ v then (if v ≤ b then v else b) else a
/-- a width and a penalty that are allowed -/
def pg_good (a b : Int32) : Prop := ¬ a < 1 ∧ ¬ 12 < a ∧ ¬ b < -40 ∧ ¬ 40 < b
theorem px_clamp {post : Int32 → Prop} {v a b : Int32} (hp : post (pg_cl v a b)) : wpX_clamp post v a b := by
  unfold wpX_clamp
  unfold pg_cl at hp
  by_cases e1 : a ≤ v
  · rw [if_pos e1] at hp
    refine br_t e1 ?_
    by_cases e2 : v ≤ b
    · rw [if_pos e2] at hp
      exact br_t e2 hp
    · rw [if_neg e2] at hp
      exact br_f e2 hp
  · rw [if_neg e1] at hp
    exact br_f e1 hp
theorem py_42 {post : SY → Prop} {v z r m s : Int32} {w p : Nat → Int32} (hp : post (z, pg_cl v 0 100, s, w, p)) : wY_init_42 post v z r m s w p := by
  unfold wY_init_42
  unfold pg_cl at hp
  by_cases e1 : 0 ≤ v
  · rw [if_pos e1] at hp
    refine br_t e1 ?_
    by_cases e2 : v ≤ 100
    · rw [if_pos e2] at hp
      exact br_t e2 hp
    · rw [if_neg e2] at hp
      exact br_f e2 hp
  · rw [if_neg e1] at hp
    exact br_f e1 hp
theorem py_init {post : SY → Prop} {a b : Int32} (hp : post (pg_cl a 5 60, pg_cl b 0 100, 0, (fun _ => 0), (fun _ => 0))) : wpY_init post a b := by
  unfold wpY_init
  by_cases e1 : 5 ≤ a
  · refine br_t e1 ?_
    by_cases e2 : a ≤ 60
    · rw [show pg_cl a 5 60 = a by unfold pg_cl; rw [if_pos e1, if_pos e2]] at hp
      exact br_t e2 (py_42 hp)
    · rw [show pg_cl a 5 60 = 60 by unfold pg_cl; rw [if_pos e1, if_neg e2]] at hp
      exact br_f e2 (py_42 hp)
  · rw [show pg_cl a 5 60 = 5 by unfold pg_cl; rw [if_neg e1]] at hp
    exact br_f e1 (py_42 hp)
theorem pg_cl60 (v : Int32) : ∃ l, l ≤ 60 ∧ pg_cl v 5 60 = nI l := by
  unfold pg_cl
  by_cases e1 : 5 ≤ v
  · rw [if_pos e1]
    by_cases e2 : v ≤ 60
    · rw [if_pos e2]
      exact nI_of2 (M := 60) (n := 60) (by decide) (fun q => by
        have h1 := Int32.lt_iff_toInt_lt.mp q
        have h2 := Int32.le_iff_toInt_le.mp e1
        have h3 : (5 : Int32).toInt = 5 := by decide
        have h4 : (0 : Int32).toInt = 0 := by decide
        omega) e2
    · rw [if_neg e2]
      exact ⟨60, by omega, rfl⟩
  · rw [if_neg e1]
    exact ⟨5, by omega, rfl⟩
theorem pg_in60 {v : Int32} (e1 : ¬ v < 5) (e2 : v ≤ 60) : ∃ l, l ≤ 60 ∧ v = nI l :=
  nI_of2 (M := 60) (n := 60) (by decide) (fun q => e1 (Int32.lt_trans q (by decide))) e2
theorem pg_in12 {v : Int32} (e1 : ¬ v < 1) (e2 : ¬ 12 < v) : ∃ l, l ≤ 12 ∧ v = nI l :=
  nI_of2 (M := 12) (n := 12) (by decide) (fun q => e1 (Int32.lt_trans q (by decide))) (Int32.not_lt.mp e2)
theorem px_wa {post : Int32 → Prop} {a b : Int32} (ht : pg_good a b → post 1) (hf : ¬ pg_good a b → post 0) : wpX_wordAllowed post a b := by
  unfold wpX_wordAllowed wpX_inRange
  refine br_c (fun q => br_t rfl (hf (fun g => g.1 q))) (fun q1 => br_c (fun q => br_t rfl (hf (fun g => g.2.1 q))) (fun q2 => br_f (by decide) ?_))
  exact br_c (fun q => br_t rfl (hf (fun g => g.2.2.1 q))) (fun q3 => br_c (fun q => br_t rfl (hf (fun g => g.2.2.2 q))) (fun q4 => br_f (by decide) (ht ⟨q1, q2, q3, q4⟩)))
theorem py_good {post : Int32 → Prop} {v : SY} {a b : Int32} (ht : pg_good a b → post 1) (hf : ¬ pg_good a b → post 0) : wpY_good post v a b := by
  obtain ⟨r, m, s, w, p⟩ := v
  unfold wpY_good
  dsimp only
  exact br_c (fun q => hf (fun g => g.1 q)) (fun q1 => br_c (fun q => hf (fun g => g.2.1 q)) (fun q2 => br_c (fun q => hf (fun g => g.2.2.1 q)) (fun q3 => br_c (fun q => hf (fun g => g.2.2.2 q)) (fun q4 => ht ⟨q1, q2, q3, q4⟩))))
theorem pg_W_up {n : Nat} {w : Nat → Int32} {v : Int32} {k m : Nat} (hw : pg_W n w) (hm : m ≤ n ∨ (m = n + 1 ∧ k = n)) (hv : ∃ a, a ≤ 12 ∧ v = nI a) : pg_W m (upd w k v) := by
  intro i hi
  by_cases e : i = k
  · rw [e, pk_us]
    exact hv
  · rw [pk_un e]
    exact hw i (by omega)
/-- the query costBreaking, costKeeping at a number that is no word ahead of the last -/
theorem pg_out {q : Int32} {n : Nat} (hn : n ≤ 10) : (q < 0 ∨ ¬ q < nI n - 1) ∨ ∃ j, j + 1 < n ∧ q = nI j := by
  by_cases h0 : q < 0
  · exact Or.inl (Or.inl h0)
  · by_cases h1 : q < nI n - 1
    · obtain ⟨j, hj, rfl⟩ := nI_of h0
      by_cases n0 : n = 0
      · subst n0
        exfalso
        have h2 : nI j < 0 := Int32.lt_trans h1 (by decide)
        exact h0 h2
      · rw [pg_n1 (by omega), nI_ltI hj (by omega)] at h1
        exact Or.inr ⟨j, by omega, rfl⟩
    · exact Or.inl (Or.inr h1)
end
section
/-- both hold the same words (n of them), the same width of the line (l) and the same extra -/
def i_Rel (k : Nat) (u : SX) (v : SY) : Prop := ∃ (w p : Nat → Int32) (x : Int32) (n l : Nat), u = (x, nI l, nI n, w, p) ∧ v = (nI l, x, nI n, w, p) ∧ n ≤ 10 ∧ l ≤ 60 ∧ pg_W n w
theorem i_up {k : Nat} {u : SX} {v : SY} (h : i_Rel k u v) : i_Rel (k + 4) u v := h
theorem i_vc0 (k0 : Int32) (k1 : Int32) : wpX_init (fun u => wpY_init (fun v => i_Rel 2 u v) k0 k1) k0 k1 := by
  unfold wpX_init
  refine px_clamp ?_
  refine px_clamp ?_
  refine py_init ?_
  obtain ⟨l, hl, e⟩ := pg_cl60 k0
  rw [e]
  exact ⟨fun _ => 0, fun _ => 0, pg_cl k1 0 100, 0, l, rfl, rfl, by omega, hl, fun i hi => absurd hi (Nat.not_lt_zero i)⟩
theorem i_vc_word {k : Nat} {u : SX} {v : SY} (I : i_Rel k u v) (hk : k + 4 ≤ 2050) (v1 : Int32) (v2 : Int32) : wpX_word (fun r u' => wpY_word (fun r' v' => r' = r ∧ i_Rel (k + 4) u' v') v v1 v2) u v1 v2 := by
  obtain ⟨w, p, x, n, l, rfl, rfl, hn, hl, hw⟩ := I
  unfold wpX_word wpY_word
  dsimp only
  refine px_wa (fun g => ?_) (fun g => ?_)
  · refine br_f (by decide) ?_
    by_cases h : n < 10
    · refine br_t (nI_lt (b := 10) h (by decide)) ⟨vp_in_nI h (by decide), nm_r (e' := upd w n v1) (by rw [nI_clamp (by omega)]) ⟨vp_in_nI h (by decide), nm_r (e' := upd p n v2) (by rw [nI_clamp (by omega)]) (nm_r (nI_1 n) ?_)⟩⟩
      refine py_good (fun _ => ?_) (fun g' => absurd g g')
      refine br_f (by decide) (br_t (nI_lt (b := 10) h (by decide)) ⟨vp_in_nI h (by decide), nm_r (e' := upd w n v1) (by rw [nI_clamp (by omega)]) ⟨vp_in_nI h (by decide), nm_r (e' := upd p n v2) (by rw [nI_clamp (by omega)]) (nm_r (nI_1 n) ?_)⟩⟩)
      exact ⟨rfl, upd w n v1, upd p n v2, x, n + 1, l, rfl, rfl, by omega, hl, pg_W_up hw (Or.inr ⟨rfl, rfl⟩) (pg_in12 g.1 g.2.1)⟩
    · refine br_f (nI_nlt (b := 10) (by omega) (by omega)) ?_
      refine py_good (fun _ => ?_) (fun g' => absurd g g')
      exact br_f (by decide) (br_f (nI_nlt (b := 10) (by omega) (by omega)) ⟨rfl, w, p, x, n, l, rfl, rfl, hn, hl, hw⟩)
  · refine br_t rfl ?_
    refine py_good (fun g' => absurd g' g) (fun _ => ?_)
    exact br_t rfl ⟨rfl, w, p, x, n, l, rfl, rfl, hn, hl, hw⟩
theorem i_vc_back {k : Nat} {u : SX} {v : SY} (I : i_Rel k u v) (hk : k + 4 ≤ 2050) : wpX_back (fun r u' => wpY_back (fun r' v' => r' = r ∧ i_Rel (k + 4) u' v') v) u := by
  obtain ⟨w, p, x, n, l, rfl, rfl, hn, hl, hw⟩ := I
  unfold wpX_back wpY_back
  dsimp only
  by_cases h : n = 0
  · subst h
    exact br_t rfl (br_t rfl ⟨rfl, w, p, x, 0, l, rfl, rfl, hn, hl, hw⟩)
  · have h0 : ¬ nI n = 0 := nI_ne0 (by omega) (by omega)
    have e : nI n - 1 = nI (n - 1) := pg_n1 (by omega)
    exact br_f h0 (nm_r e (br_f h0 (nm_r e ⟨rfl, w, p, x, n - 1, l, rfl, rfl, by omega, hl, fun i hi => hw i (by omega)⟩)))
theorem i_vc_change {k : Nat} {u : SX} {v : SY} (I : i_Rel k u v) (hk : k + 4 ≤ 2050) (v1 : Int32) (v2 : Int32) (v3 : Int32) : wpX_change (fun r u' => wpY_change (fun r' v' => r' = r ∧ i_Rel (k + 4) u' v') v v1 v2 v3) u v1 v2 v3 := by
  obtain ⟨w, p, x, n, l, rfl, rfl, hn, hl, hw⟩ := I
  unfold wpX_change wpY_change
  dsimp only
  have rel : i_Rel (k + 4) (x, nI l, nI n, w, p) (nI l, x, nI n, w, p) := ⟨w, p, x, n, l, rfl, rfl, hn, hl, hw⟩
  have out : v1 < 0 ∨ nI n ≤ v1 ∨ ∃ j : Nat, j < n ∧ v1 = nI j := pk_ix v1 (by omega)
  by_cases hq : v1 < 0 ∨ nI n ≤ v1
  · refine px_hasF hq ?_
    refine br_t rfl ?_
    refine py_isF hq ?_
    exact br_t rfl ⟨rfl, rel⟩
  · obtain ⟨j, hj, rfl⟩ : ∃ j : Nat, j < n ∧ v1 = nI j := by
      rcases out with a | a | a
      · exact absurd (Or.inl a) hq
      · exact absurd (Or.inr a) hq
      · exact a
    refine px_hasT hn hj ?_
    refine br_f (by decide) ?_
    refine px_wa (fun g => ?_) (fun g => ?_)
    · refine br_f (by decide) ⟨vp_in_nI (by omega) (by decide), nm_r (e' := upd w j v2) (by rw [nI_clamp (by omega)]) ⟨vp_in_nI (by omega) (by decide), nm_r (e' := upd p j v3) (by rw [nI_clamp (by omega)]) ?_⟩⟩
      refine py_isT hn hj ?_
      refine br_f (by decide) ?_
      refine py_good (fun _ => ?_) (fun g' => absurd g g')
      refine br_f (by decide) ⟨vp_in_nI (by omega) (by decide), nm_r (e' := upd w j v2) (by rw [nI_clamp (by omega)]) ⟨vp_in_nI (by omega) (by decide), nm_r (e' := upd p j v3) (by rw [nI_clamp (by omega)]) ?_⟩⟩
      exact ⟨rfl, upd w j v2, upd p j v3, x, n, l, rfl, rfl, hn, hl, pg_W_up hw (Or.inl (Nat.le_refl n)) (pg_in12 g.1 g.2.1)⟩
    · refine br_t rfl ?_
      refine py_isT hn hj ?_
      refine br_f (by decide) ?_
      refine py_good (fun g' => absurd g' g) (fun _ => ?_)
      exact br_t rfl ⟨rfl, rel⟩
theorem i_vc_setWidth {k : Nat} {u : SX} {v : SY} (I : i_Rel k u v) (hk : k + 4 ≤ 2050) (v1 : Int32) : wpX_setWidth (fun r u' => wpY_setWidth (fun r' v' => r' = r ∧ i_Rel (k + 4) u' v') v v1) u v1 := by
  obtain ⟨w, p, x, n, l, rfl, rfl, hn, hl, hw⟩ := I
  unfold wpX_setWidth wpY_setWidth wpX_inRange
  dsimp only
  by_cases h1 : v1 < 5
  · exact br_t h1 (br_t rfl (br_t h1 ⟨rfl, w, p, x, n, l, rfl, rfl, hn, hl, hw⟩))
  · refine br_f h1 ?_
    by_cases h2 : 60 < v1
    · exact br_t h2 (br_t rfl (br_f h1 (br_f (Int32.not_le.mpr h2) ⟨rfl, w, p, x, n, l, rfl, rfl, hn, hl, hw⟩)))
    · have h3 := Int32.not_lt.mp h2
      obtain ⟨m, hm, e⟩ := pg_in60 h1 h3
      refine br_f h2 (br_f (by decide) (br_f h1 (br_t h3 ⟨rfl, ?_⟩)))
      rw [e]
      exact ⟨w, p, x, n, m, rfl, rfl, hn, hm, hw⟩
theorem i_vc_words {k : Nat} {u : SX} {v : SY} (I : i_Rel k u v) (hk : k + 4 ≤ 2050) : wpX_words (fun r => wpY_words (fun r' => r' = r ∧ i_Rel (k + 4) u v) v) u := by
  have R := I
  obtain ⟨w, p, x, n, l, rfl, rfl, hn, hl, hw⟩ := I
  unfold wpX_words wpY_words
  dsimp only
  exact ⟨rfl, R⟩
theorem i_vc_cost {k : Nat} {u : SX} {v : SY} (I : i_Rel k u v) (hk : k + 4 ≤ 2050) : wpX_cost (fun r => wpY_cost (fun r' => r' = r ∧ i_Rel (k + 4) u v) v) u := by
  have R := I
  obtain ⟨w, p, x, n, l, rfl, rfl, hn, hl, hw⟩ := I
  exact px_costM hn (fun o hX => py_costM hw hn hl hX ⟨rfl, R⟩)
theorem i_vc_lines {k : Nat} {u : SX} {v : SY} (I : i_Rel k u v) (hk : k + 4 ≤ 2050) : wpX_lines (fun r => wpY_lines (fun r' => r' = r ∧ i_Rel (k + 4) u v) v) u := by
  have R := I
  obtain ⟨w, p, x, n, l, rfl, rfl, hn, hl, hw⟩ := I
  exact px_linesM hn (fun o hX => py_linesM hw hn hl hX ⟨rfl, R⟩)
theorem i_vc_lineOf {k : Nat} {u : SX} {v : SY} (I : i_Rel k u v) (hk : k + 4 ≤ 2050) (v1 : Int32) : wpX_lineOf (fun r => wpY_lineOf (fun r' => r' = r ∧ i_Rel (k + 4) u v) v v1) u v1 := by
  have R := I
  obtain ⟨w, p, x, n, l, rfl, rfl, hn, hl, hw⟩ := I
  have out : v1 < 0 ∨ nI n ≤ v1 ∨ ∃ j : Nat, j < n ∧ v1 = nI j := pk_ix v1 (by omega)
  rcases out with a | a | ⟨j, hj, rfl⟩
  · exact px_lineF (Or.inl a) (py_lineF hw hn hl (Or.inl a) ⟨rfl, R⟩)
  · exact px_lineF (Or.inr a) (py_lineF hw hn hl (Or.inr a) ⟨rfl, R⟩)
  · exact px_lineM hn hj (fun o hX => py_lineM hw hn hl hj hX ⟨rfl, R⟩)
theorem i_vc_endOf {k : Nat} {u : SX} {v : SY} (I : i_Rel k u v) (hk : k + 4 ≤ 2050) (v1 : Int32) : wpX_endOf (fun r => wpY_endOf (fun r' => r' = r ∧ i_Rel (k + 4) u v) v v1) u v1 := by
  have R := I
  obtain ⟨w, p, x, n, l, rfl, rfl, hn, hl, hw⟩ := I
  exact px_endM hn (fun o hX => py_endM hw hn hl hX ⟨rfl, R⟩)
theorem i_vc_lengthOf {k : Nat} {u : SX} {v : SY} (I : i_Rel k u v) (hk : k + 4 ≤ 2050) (v1 : Int32) : wpX_lengthOf (fun r => wpY_lengthOf (fun r' => r' = r ∧ i_Rel (k + 4) u v) v v1) u v1 := by
  have R := I
  obtain ⟨w, p, x, n, l, rfl, rfl, hn, hl, hw⟩ := I
  exact px_lengthM hn (fun o hX => py_lengthM hw hn hl hX ⟨rfl, R⟩)
theorem i_vc_costWith {k : Nat} {u : SX} {v : SY} (I : i_Rel k u v) (hk : k + 4 ≤ 2050) (v1 : Int32) : wpX_costWith (fun r => wpY_costWith (fun r' => r' = r ∧ i_Rel (k + 4) u v) v v1) u v1 := by
  have R := I
  obtain ⟨w, p, x, n, l, rfl, rfl, hn, hl, hw⟩ := I
  refine px_costWith (v := fun c => if nI (pg_lX n c) = v1 then pg_vX w p (nI l) x n c else pg_NO) hn (fun c => ⟨fun h => if_pos h, fun h => if_neg h⟩) (fun r hr => ?_)
  refine py_costWith (v := fun c => if nI (pg_lX n (pg_rv (n - 1) c)) = v1 then pg_vX w p (nI l) x n (pg_rv (n - 1) c) else pg_NO) hw hn hl (fun c => ⟨fun h => ?_, fun h => ?_⟩) (fun r' hr' => ?_)
  · dsimp only at h
    rw [pg_lY_rv] at h
    show (if nI (pg_lX n (pg_rv (n - 1) c)) = v1 then pg_vX w p (nI l) x n (pg_rv (n - 1) c) else pg_NO) = _
    rw [if_pos h, pg_vY_rv]
  · dsimp only at h
    rw [pg_lY_rv] at h
    exact if_neg h
  · exact ⟨pg_m_u (pg_m_rv (v := fun c => if nI (pg_lX n c) = v1 then pg_vX w p (nI l) x n c else pg_NO) (fun s _ => rfl) hr') hr, R⟩
theorem i_vc_costBreaking {k : Nat} {u : SX} {v : SY} (I : i_Rel k u v) (hk : k + 4 ≤ 2050) (v1 : Int32) : wpX_costBreaking (fun r => wpY_costBreaking (fun r' => r' = r ∧ i_Rel (k + 4) u v) v v1) u v1 := by
  have R := I
  obtain ⟨w, p, x, n, l, rfl, rfl, hn, hl, hw⟩ := I
  unfold wpX_costBreaking wpY_costBreaking wY_costBreaking_29 wY_costBreaking_30
  dsimp only
  rcases pg_out (q := v1) hn with a | ⟨j, hj, rfl⟩
  · refine px_leastNo a ?_
    by_cases hq : v1 < 0 ∨ nI n ≤ v1
    · refine py_isF hq ?_
      exact br_t rfl (br_f (by decide) ⟨rfl, R⟩)
    · have a2 : nI n - 1 ≤ v1 := Int32.not_lt.mp (a.resolve_left (fun z => hq (Or.inl z)))
      obtain ⟨j, hj, rfl⟩ : ∃ j : Nat, j < n ∧ v1 = nI j := by
        rcases (pk_ix v1 (n := n) (by omega)) with b | b | b
        · exact absurd (Or.inl b) hq
        · exact absurd (Or.inr b) hq
        · exact b
      refine py_isT hn hj ?_
      exact br_f (by decide) (br_t a2 (br_f (by decide) ⟨rfl, R⟩))
  · refine px_least hn hj (pg_vE_only w p (nI l) x n j 1) (fun r hr => ?_)
    refine py_isT hn (by omega) ?_
    refine br_f (by decide) (br_f (by rw [pg_n1 (by omega)]; exact nI_ge (by omega) (by omega)) ?_)
    refine py_sel hw hn hl hj (fun c hc => ?_) (fun r' hr' => ⟨pg_m_u hr' hr, R⟩)
    have h1 := pg_must j (by omega) c hc
    constructor
    · intro h
      rw [if_pos (h1.mp h.1)]
    · intro h
      refine ⟨h1.mpr ?_, Int32.zero_and⟩
      by_cases b : c.testBit j = true
      · exact b
      · rw [if_neg b] at h
        exact absurd h (by decide)
theorem i_vc_costKeeping {k : Nat} {u : SX} {v : SY} (I : i_Rel k u v) (hk : k + 4 ≤ 2050) (v1 : Int32) : wpX_costKeeping (fun r => wpY_costKeeping (fun r' => r' = r ∧ i_Rel (k + 4) u v) v v1) u v1 := by
  have R := I
  obtain ⟨w, p, x, n, l, rfl, rfl, hn, hl, hw⟩ := I
  unfold wpX_costKeeping wpY_costKeeping wY_costKeeping_29 wY_costKeeping_30
  dsimp only
  rcases pg_out (q := v1) hn with a | ⟨j, hj, rfl⟩
  · refine px_leastNo a ?_
    by_cases hq : v1 < 0 ∨ nI n ≤ v1
    · refine py_isF hq ?_
      exact br_t rfl (br_f (by decide) ⟨rfl, R⟩)
    · have a2 : nI n - 1 ≤ v1 := Int32.not_lt.mp (a.resolve_left (fun z => hq (Or.inl z)))
      obtain ⟨j, hj, rfl⟩ : ∃ j : Nat, j < n ∧ v1 = nI j := by
        rcases (pk_ix v1 (n := n) (by omega)) with b | b | b
        · exact absurd (Or.inl b) hq
        · exact absurd (Or.inr b) hq
        · exact b
      refine py_isT hn hj ?_
      exact br_f (by decide) (br_t a2 (br_f (by decide) ⟨rfl, R⟩))
  · refine px_least hn hj (pg_vE_only w p (nI l) x n j 0) (fun r hr => ?_)
    refine py_isT hn (by omega) ?_
    refine br_f (by decide) (br_f (by rw [pg_n1 (by omega)]; exact nI_ge (by omega) (by omega)) ?_)
    refine py_sel hw hn hl hj (fun c hc => ?_) (fun r' hr' => ⟨pg_m_u hr' hr, R⟩)
    have h1 := pg_nev j (by omega) c hc
    constructor
    · intro h
      rw [if_neg (h1.mp h.2)]
    · intro h
      refine ⟨Int32.zero_and, h1.mpr (fun b => ?_)⟩
      rw [if_pos b] at h
      exact absurd h (by decide)
theorem i_vc_choices {k : Nat} {u : SX} {v : SY} (I : i_Rel k u v) (hk : k + 4 ≤ 2050) : wpX_choices (fun r => wpY_choices (fun r' => r' = r ∧ i_Rel (k + 4) u v) v) u := by
  have R := I
  obtain ⟨w, p, x, n, l, rfl, rfl, hn, hl, hw⟩ := I
  exact px_choices hn (fun r t hT => py_chM hw hn hl hT ⟨rfl, R⟩)
end
