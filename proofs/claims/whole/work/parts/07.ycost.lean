/-- the cost and the number of lines of the reference's mask s -/
def pg_vY (w p : Nat → Int32) (L x : Int32) (n s : Nat) : Int32 := pg_C w p L x n (pg_EY n s)
def pg_lY (n s : Nat) : Nat := pg_cnt (pg_EY n s) n
theorem pg_vY_rv (w p : Nat → Int32) (L x : Int32) (n s : Nat) : pg_vY w p L x n s = pg_vX w p L x n (pg_rv (n - 1) s) := by
  unfold pg_vY pg_vX
  rw [pg_EX_rv]
theorem pg_lY_rv (n s : Nat) : pg_lY n s = pg_lX n (pg_rv (n - 1) s) := by
  unfold pg_lY pg_lX
  rw [pg_EX_rv]
/-- one bit, as a number -/
theorem pg_bitN {c t : Nat} (hc : c < 512) (ht : t < 32) : (nI c >>> (nI t &&& 31)) &&& 1 = nI (c / 2 ^ t % 2) := by
  have h2 : c / 2 ^ t ≤ c := Nat.div_le_self _ _
  rw [pk_shrN (by omega) _ t (s_l t ht), pk_andN (m := 1) (by omega) 1 (by decide), Nat.pow_one]
section
variable {w p : Nat → Int32} {L x : Int32} {n : Nat} {post : Int32 → Prop}
theorem py_lbLoop {j : Nat} (hj : j < 10) : ∀ d i a fuel, j + 1 - i = d → i ≤ 10 → d < fuel → post (pg_sum w d i a) → wY_length_9 post (nI j) L x (nI n) w p fuel a (nI i) := by
  intro d
  induction d with
  | zero =>
    intro i a fuel h1 h2 h3 hp
    obtain ⟨f, rfl⟩ := pg_fu h3
    exact br_t (nI_lt (by omega) (by omega)) hp
  | succ d ih =>
    intro i a fuel h1 h2 h3 hp
    obtain ⟨f, rfl⟩ := pg_fu h3
    exact br_f (nI_nlt (by omega) (by omega)) ⟨vp_in_nI (by omega) (by omega), nm_r (by rw [nI_clamp (by omega)]) (nm_r (nI_1 _) (ih (i + 1) (a + w i) f (by omega) (by omega) (by omega) hp))⟩
theorem py_len {i j : Nat} (hi : i ≤ 10) (hj : j < 10) (hp : post (pg_len w i j)) : wpY_length post (L, x, nI n, w, p) (nI i) (nI j) := by
  unfold wpY_length
  dsimp only
  exact nm_r (Int32.mul_comm _ _) ⟨j + 1 - i + 1, py_lbLoop hj (j + 1 - i) i _ _ rfl hi (by omega) hp⟩
theorem py_bad {i j l : Nat} (hw : pg_W n w) (hn : n ≤ 10) (hl : l ≤ 60) (hij : i ≤ j) (hj : j < n) (hp : post (if pg_len w i j ≤ nI l + (nI j - nI i) then pg_bd w (nI l) n i j else -1)) : wpY_badness post (nI l, x, nI n, w, p) (nI i) (nI j) := by
  unfold wpY_badness
  dsimp only
  refine py_len (by omega) (by omega) (nm_e ?_)
  have hf := pg_fit hw hn hl hij hj
  by_cases ef : pg_len w i j ≤ nI l + (nI j - nI i)
  · rw [if_pos ef] at hp
    refine br_t (Int32.not_lt.mp (fun q => hf.mp q ef)) ?_
    unfold pg_bd at hp
    by_cases e : nI l - pg_len w i j < 0
    · rw [if_pos e] at hp
      exact br_f (Int32.not_le.mpr e) hp
    · rw [if_neg e] at hp
      refine br_t (Int32.not_lt.mp e) ?_
      by_cases el : j + 1 = n
      · rw [if_pos el] at hp
        exact br_t (by rw [pg_n1 (by omega)]; exact congrArg nI (by omega)) hp
      · rw [if_neg el] at hp
        exact br_f (by rw [pg_n1 (by omega), nI_eq (by omega) (by omega)]; omega) hp
  · rw [if_neg ef] at hp
    exact br_f (Int32.not_le.mpr (hf.mpr ef)) hp
theorem py_111 {J : Int32 → Int32 → Int32 → Int32 → Prop} {x1 z z0 y t : Int32} {k : Nat} {h : Bool} (hz : z = 0 ↔ h = false) (hJ : J (t + y + (if h = true ∧ ¬ z0 = 0 then x else 0)) (nI (k + 1)) z0 (nI (k + 1))) : wY_costOf_111 post J x1 z (nI k) z0 y t L x (nI n) w p := by
  unfold wY_costOf_111 wY_costOf_129 wY_costOf_130
  cases h with
  | false =>
    rw [if_neg (fun q => by cases q.1)] at hJ
    exact br_t (hz.mpr rfl) (nm_e (nm_r (nI_1 _) (nm_r (nI_1 _) hJ)))
  | true =>
    refine br_f (fun q => by cases hz.mp q) ?_
    by_cases e : z0 = 0
    · rw [if_neg (fun q => q.2 e)] at hJ
      exact br_t e (nm_e (nm_r (nI_1 _) (nm_r (nI_1 _) hJ)))
    · rw [if_pos ⟨rfl, e⟩] at hJ
      exact br_f e (nm_e (nm_r (nI_1 _) (nm_r (nI_1 _) hJ)))
theorem py_40 {J : Int32 → Int32 → Int32 → Int32 → Prop} {x1 t z : Int32} {k b l : Nat} {h : Bool} (hw : pg_W n w) (hn : n ≤ 10) (hl : l ≤ 60) (hb : b ≤ k) (hk : k < n) (hz : z = 0 ↔ h = false)
    (hno : ¬ pg_len w b k ≤ nI l + (nI k - nI b) → post pg_NO)
    (hlast : pg_len w b k ≤ nI l + (nI k - nI b) → k + 1 = n → J (t + pg_bd w (nI l) n b k) (nI (k + 1)) 0 (nI (k + 1)))
    (hmid : pg_len w b k ≤ nI l + (nI k - nI b) → ¬ k + 1 = n → J (t + pg_bd w (nI l) n b k + p k + (if h = true ∧ 0 < p k then x else 0)) (nI (k + 1)) (if 0 < p k then 1 else 0) (nI (k + 1))) :
    wY_costOf_40 post J x1 t (nI b) z (nI k) (nI l) x (nI n) w p := by
  unfold wY_costOf_40 wY_costOf_82
  refine py_bad hw hn hl hb hk ?_
  by_cases ef : pg_len w b k ≤ nI l + (nI k - nI b)
  · rw [if_pos ef]
    have hpos := pg_bd_p hw hn hl hb hk
    refine br_t (Int32.not_lt.mp hpos) ?_
    by_cases el : k + 1 = n
    · have le : nI n - 1 ≤ nI k := by rw [pg_n1 (by omega)]; exact nI_le (by omega) (by omega)
      refine br_t le ?_
      unfold wY_costOf_83
      refine br_t le (py_111 (h := h) hz ?_)
      have hJ := hlast ef el
      rw [if_neg (fun q => q.2 rfl), Int32.add_zero, Int32.add_zero]
      exact hJ
    · have le : ¬ nI n - 1 ≤ nI k := by rw [pg_n1 (by omega)]; exact nI_ge (by omega) (by omega)
      refine br_f le ⟨vp_in_nI (by omega) (by omega), ?_⟩
      have hJ := hmid ef el
      unfold wY_costOf_83
      rw [nI_clamp (by omega)]
      by_cases ep : 0 < p k
      · rw [if_pos ep] at hJ
        refine br_f (Int32.not_le.mpr ep) (br_f le ⟨vp_in_nI (by omega) (by omega), py_111 (h := h) hz ?_⟩)
        have e1 : (if h = true ∧ ¬ (1 : Int32) = 0 then x else 0) = (if h = true ∧ 0 < p k then x else 0) := by
          cases h with
          | false => rw [if_neg (fun q => by cases q.1), if_neg (fun q => by cases q.1)]
          | true => rw [if_pos ⟨rfl, by decide⟩, if_pos ⟨rfl, ep⟩]
        rw [e1]
        exact hJ
      · rw [if_neg ep] at hJ
        refine br_t (Int32.not_lt.mp ep) (br_f le ⟨vp_in_nI (by omega) (by omega), py_111 (h := h) hz ?_⟩)
        have e1 : (if h = true ∧ ¬ (0 : Int32) = 0 then x else 0) = (if h = true ∧ 0 < p k then x else 0) := by
          rw [if_neg (fun q => q.2 rfl), if_neg (fun q => ep q.2)]
        rw [e1]
        exact hJ
  · rw [if_neg ef]
    exact br_f (by decide) (hno ef)
theorem py_cLoop {s l : Nat} (hw : pg_W n w) (hn : n ≤ 10) (hl : l ≤ 60) (hs : s < 512) : ∀ d k b t z h fuel, k + d = n → b ≤ k → d < fuel → (z = 0 ↔ h = false) → post (pg_cost w p (nI l) x n (pg_EY n s) d k t b h) → wY_costOf_10 post (nI s) (nI l) x (nI n) w p fuel t (nI b) z (nI k) := by
  intro d
  induction d with
  | zero =>
    intro k b t z h fuel h1 hb h2 hz hp
    obtain ⟨f, rfl⟩ := pg_fu h2
    exact br_t (nI_le (by omega) (by omega)) hp
  | succ d ih =>
    intro k b t z h fuel h1 hb h2 hz hp
    obtain ⟨f, rfl⟩ := pg_fu h2
    refine br_f (nI_ge (by omega) (by omega)) ?_
    rw [pg_cost] at hp
    rw [pg_bit (by omega) (by omega)]
    have key : pg_EY n s k = true → wY_costOf_40 post (wY_costOf_10 post (nI s) (nI l) x (nI n) w p f) (nI s) t (nI b) z (nI k) (nI l) x (nI n) w p := by
      intro e
      rw [if_pos e] at hp
      refine py_40 (h := h) hw hn hl hb (by omega) hz (fun q => ?_) (fun q el => ?_) (fun q el => ?_)
      · rw [if_neg q] at hp
        exact hp
      · rw [if_pos q, if_pos el] at hp
        have d0 : d = 0 := by omega
        subst d0
        exact ih (k + 1) (k + 1) _ 0 false f (by omega) (by omega) (by omega) ⟨fun _ => rfl, fun _ => rfl⟩ hp
      · rw [if_pos q, if_neg el] at hp
        refine ih (k + 1) (k + 1) _ _ (decide (0 < p k)) f (by omega) (by omega) (by omega) ?_ hp
        by_cases ep : 0 < p k
        · rw [if_pos ep, decide_eq_true ep]
          decide
        · rw [if_neg ep, decide_eq_false ep]
          decide
    by_cases bt : s.testBit k = true
    · rw [if_pos bt]
      exact br_t rfl (key (by unfold pg_EY; rw [bt, Bool.or_true]))
    · rw [if_neg bt]
      refine br_f (by decide) ?_
      by_cases el : k + 1 = n
      · exact br_t (by rw [pg_n1 (by omega)]; exact congrArg nI (by omega)) (key (by unfold pg_EY; rw [decide_eq_true (by omega), Bool.true_or]))
      · refine br_f (by rw [pg_n1 (by omega), nI_eq (by omega) (by omega)]; omega) ?_
        have e : ¬ pg_EY n s k = true := by
          unfold pg_EY
          rw [decide_eq_false (by omega), Bool.false_or]
          exact bt
        rw [if_neg e] at hp
        exact nm_r (nI_1 _) (ih (k + 1) b t z h f (by omega) (by omega) (by omega) hz hp)
theorem py_cost {s l : Nat} (hw : pg_W n w) (hn : n ≤ 10) (hl : l ≤ 60) (hs : s < 512) (hp : post (pg_vY w p (nI l) x n s)) : wpY_costOf post (nI l, x, nI n, w, p) (nI s) := by
  unfold wpY_costOf
  dsimp only
  exact ⟨n + 1, py_cLoop hw hn hl hs n 0 0 0 0 false (n + 1) (by omega) (by omega) (by omega) ⟨fun _ => rfl, fun _ => rfl⟩ hp⟩
theorem py_sets (hn : n ≤ 10) (hp : post (nI (2 ^ (n - 1)))) : wpY_sets post (L, x, nI n, w, p) := by
  unfold wpY_sets
  dsimp only
  by_cases e : n = 0
  · subst e
    exact br_t rfl hp
  · refine br_f (nI_ne0 (by omega) (by omega)) ?_
    rw [pg_n1 (by omega), pg_shl (by omega)]
    exact hp
theorem py_coLoop {s a : Nat} (hs : s < 512) : ∀ d i fuel, i + d = 10 → d < fuel → post (nI (a + pg_cnt s.testBit 10)) → wY_count_15 post (nI s) L x (nI n) w p fuel (nI (a + pg_cnt s.testBit i)) (nI i) := by
  intro d
  induction d with
  | zero =>
    intro i fuel h1 h2 hp
    obtain ⟨f, rfl⟩ := pg_fu h2
    have e : i = 10 := by omega
    subst e
    exact br_t (nI_le (a := 10) (b := 10) (by omega) (by omega)) hp
  | succ d ih =>
    intro i fuel h1 h2 hp
    obtain ⟨f, rfl⟩ := pg_fu h2
    refine br_f (nI_ge (b := 10) (by omega) (by omega)) ?_
    rw [pg_bit (by omega) (by omega)]
    refine nm_r (nI_add _ _) (nm_r (nI_1 _) ?_)
    rw [Nat.add_assoc]
    exact ih (i + 1) f (by omega) (by omega) hp
theorem py_count {s : Nat} (hn : n ≤ 10) (hs : s < 2 ^ (n - 1)) (hp : post (nI (pg_lY n s))) : wpY_count post (L, x, nI n, w, p) (nI s) := by
  have h5 := pg_M9 hn hs
  unfold pg_lY at hp
  rw [pg_lines hn hs] at hp
  unfold wpY_count
  dsimp only
  by_cases e : n = 0
  · rw [if_pos e] at hp
    subst e
    exact br_t (by decide) ⟨11, py_coLoop (a := 0) h5 10 0 11 (by omega) (by omega) hp⟩
  · rw [if_neg e] at hp
    exact br_f (nI_nle (by omega) (by omega)) ⟨11, py_coLoop (a := 1) h5 10 0 11 (by omega) (by omega) hp⟩
theorem py_beLoop {a b : Nat} (ha : a < 512) (hb : b < 512) : ∀ d i fuel, i + d = 10 → d < fuel → post (if pg_bf d (a / 2 ^ i) (b / 2 ^ i) = true then 1 else 0) → wY_before_34 post (nI a) (nI b) L x (nI n) w p fuel (nI i) := by
  intro d
  induction d with
  | zero =>
    intro i fuel h1 h2 hp
    obtain ⟨f, rfl⟩ := pg_fu h2
    exact br_t (nI_le (a := 10) (by omega) (by omega)) hp
  | succ d ih =>
    intro i fuel h1 h2 hp
    obtain ⟨f, rfl⟩ := pg_fu h2
    refine br_f (nI_ge (b := 10) (by omega) (by omega)) ?_
    rw [pg_bitN ha (by omega), pg_bitN hb (by omega)]
    have l1 : a / 2 ^ i % 2 < 2 := Nat.mod_lt _ (by decide)
    have l2 : b / 2 ^ i % 2 < 2 := Nat.mod_lt _ (by decide)
    rw [pg_bf] at hp
    by_cases e : a / 2 ^ i % 2 = b / 2 ^ i % 2
    · rw [if_pos e, Nat.div_div_eq_div_mul, Nat.div_div_eq_div_mul, ← Nat.pow_succ] at hp
      exact br_t (congrArg nI e) (nm_r (nI_1 _) (ih (i + 1) f (by omega) (by omega) hp))
    · rw [if_neg e] at hp
      refine br_f (fun q => e ((nI_eq (by omega) (by omega)).mp q)) ?_
      by_cases e1 : a / 2 ^ i % 2 = 1
      · rw [decide_eq_true e1, if_pos rfl] at hp
        exact br_t (congrArg nI e1) hp
      · rw [decide_eq_false e1, if_neg (by decide)] at hp
        exact br_f (fun q => e1 ((nI_eq (b := 1) (by omega) (by omega)).mp q)) hp
theorem py_before {a b : Nat} (hn : n ≤ 10) (ha : a < 2 ^ (n - 1)) (hb : b < 2 ^ (n - 1)) (ht : (pg_lY n a < pg_lY n b ∨ (pg_lY n a = pg_lY n b ∧ pg_rv (n - 1) b < pg_rv (n - 1) a)) → post 1) (hf : ¬ (pg_lY n a < pg_lY n b ∨ (pg_lY n a = pg_lY n b ∧ pg_rv (n - 1) b < pg_rv (n - 1) a)) → post 0) : wpY_before post (L, x, nI n, w, p) (nI a) (nI b) := by
  have a5 := pg_M9 hn ha
  have b5 := pg_M9 hn hb
  have l1 : pg_lY n a ≤ n := pg_cnt_le _ _
  have l2 : pg_lY n b ≤ n := pg_cnt_le _ _
  unfold wpY_before
  dsimp only
  refine py_count hn ha (py_count hn hb ?_)
  refine br_c (fun q => ?_) (fun q => ?_)
  · have q2 := (nI_eq (by omega) (by omega)).mp q
    refine ⟨11, py_beLoop a5 b5 10 0 11 (by omega) (by omega) ?_⟩
    rw [Nat.pow_zero, Nat.div_one, Nat.div_one]
    have hr := pg_bf_rv (n - 1) 10 a b (by omega) ha hb
    by_cases e : pg_bf 10 a b = true
    · rw [if_pos e]
      exact ht (Or.inr ⟨q2, hr.mp e⟩)
    · rw [if_neg e]
      refine hf (fun z => ?_)
      rcases z with z | z
      · omega
      · exact e (hr.mpr z.2)
  · have q2 : ¬ pg_lY n a = pg_lY n b := fun z => q (congrArg nI z)
    refine br_c (fun z => ?_) (fun z => ?_)
    · rw [nI_leI (by omega) (by omega)] at z
      exact hf (by omega)
    · rw [nI_leI (by omega) (by omega)] at z
      exact ht (by omega)
end
