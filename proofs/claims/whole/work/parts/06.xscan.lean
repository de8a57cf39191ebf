def pg_lo (ln : Nat → Nat) : Option Nat → Nat
  | none => 0
  | some b => ln b
/-- what the component's best mask is -/
def pg_BX (w p : Nat → Int32) (L x : Int32) (n : Nat) (o : Option Nat) : Prop := pg_Inv (fun c => c < 2 ^ (n - 1)) (pg_vX w p L x n) (pg_bt (pg_vX w p L x n) (pg_lX n) (fun c => c)) o
theorem pg_D0 (M : Nat) : (fun c => 0 ≤ c ∧ c < M) = (fun c => c < M) := by
  funext c
  exact propext ⟨fun h => h.2, fun h => ⟨Nat.zero_le c, h⟩⟩
theorem pg_DM {M : Nat} (c : Nat) : ¬ (M ≤ c ∧ c < M) := by omega
theorem pg_p1 (n : Nat) : 0 < 2 ^ (n - 1) := Nat.two_pow_pos _
theorem pg_p5 {n : Nat} (hn : n ≤ 10) : 2 ^ (n - 1) ≤ 512 := Nat.pow_le_pow_right (n := 2) (i := n - 1) (j := 9) (by decide) (by omega)
section
variable {w p : Nat → Int32} {L x : Int32} {n : Nat} {post : Int32 → Prop}
theorem px_57t {J : Int32 → Int32 → Int32 → Int32 → Prop} {x1 x2 x3 x4 x5 x6 : Int32} (hJ : J x4 x5 x6 (x4 + (-1))) : wX_bestCuts_57 post J x1 x2 x3 x4 x5 x6 1 x L (nI n) w p := by
  unfold wX_bestCuts_57 wX_bestCuts_75 wX_bestCuts_76 wX_bestCuts_88
  exact br_c (fun _ => br_c (fun _ => br_f (by decide) (nm_e hJ)) (fun _ => br_f (by decide) (nm_e hJ))) (fun _ => br_f (by decide) (nm_e hJ))
theorem px_57f {J : Int32 → Int32 → Int32 → Int32 → Prop} {x1 x2 x3 x4 x5 x6 : Int32} (h1 : x5 = x2 → ¬ x3 ≤ x6 → J x4 x5 x6 (x4 + (-1))) (h2 : (x5 = x2 → x3 ≤ x6) → J x1 x2 x3 (x4 + (-1))) : wX_bestCuts_57 post J x1 x2 x3 x4 x5 x6 0 x L (nI n) w p := by
  unfold wX_bestCuts_57 wX_bestCuts_75 wX_bestCuts_76 wX_bestCuts_88
  exact br_c (fun a => br_c (fun b => br_t rfl (br_t rfl (nm_e (h2 (fun _ => b))))) (fun b => br_t rfl (br_f (by decide) (nm_e (h1 a b))))) (fun a => br_t rfl (br_t rfl (nm_e (h2 (fun q => absurd q a)))))
theorem px_bLoop (hn : n ≤ 10) (hp : ∀ o, pg_BX w p L x n o → post (pg_code o)) : ∀ k fuel o, k ≤ 2 ^ (n - 1) → k < fuel →
    pg_Inv (fun c => k ≤ c ∧ c < 2 ^ (n - 1)) (pg_vX w p L x n) (pg_bt (pg_vX w p L x n) (pg_lX n) (fun c => c)) o →
    wX_bestCuts_13 post x L (nI n) w p fuel (pg_code o) (pg_val pg_NO (pg_vX w p L x n) o) (nI (pg_lo (pg_lX n) o)) (nI k + (-1)) := by
  have hM := pg_p5 hn
  intro k
  induction k with
  | zero =>
    intro fuel o _ h2 hi
    obtain ⟨f, rfl⟩ := pg_fu h2
    rw [pg_D0] at hi
    exact br_t (by decide) (hp o hi)
  | succ k ih =>
    intro fuel o h1 h2 hi
    obtain ⟨f, rfl⟩ := pg_fu h2
    rw [pk_m1]
    refine br_f (nI_pos (by omega)) (px_cost hn (by omega) ?_)
    by_cases e : pg_vX w p L x n k = pg_NO
    · exact br_t e (nm_e (ih f o (by omega) (by omega) (pg_i_skip (pg_t_D (by omega)) e hi)))
    · refine br_f e (px_lines hn (by omega) ?_)
      cases o with
      | none =>
        exact br_t rfl (px_57t (ih f (some k) (by omega) (by omega) (pg_i_first (pg_t_D (by omega)) e hi)))
      | some b =>
        have hb : k + 1 ≤ b ∧ b < 2 ^ (n - 1) := hi.1
        have nb : ¬ nI b = -1 := fun q => nI_pos (n := b) (by omega) (by rw [q]; decide)
        refine br_f nb ?_
        by_cases lt : pg_vX w p L x n k < pg_vX w p L x n b
        · exact br_f (Int32.not_le.mpr lt) (px_57t (ih f (some k) (by omega) (by omega) (pg_i_new (pg_t_D (by omega)) pg_bt_tr e (Or.inl (Int32.lt_iff_toInt_lt.mp lt)) hi)))
        · refine br_t (Int32.not_lt.mp lt) (px_57f (fun a c => ?_) (fun a => ?_))
          · have c2 : pg_lX n k < pg_lX n b := by
              have l1 : pg_lX n k ≤ n := pg_cnt_le _ _
              have l2 : pg_lX n b ≤ n := pg_cnt_le _ _
              have c3 : ¬ nI (pg_lX n b) ≤ nI (pg_lX n k) := c
              rw [nI_leI (by omega) (by omega)] at c3
              omega
            exact ih f (some k) (by omega) (by omega) (pg_i_new (pg_t_D (by omega)) pg_bt_tr e (Or.inr ⟨congrArg Int32.toInt a, Or.inl c2⟩) hi)
          · have l1 : pg_lX n k ≤ n := pg_cnt_le _ _
            have l2 : pg_lX n b ≤ n := pg_cnt_le _ _
            have a2 : (pg_vX w p L x n k).toInt = (pg_vX w p L x n b).toInt → pg_lX n b ≤ pg_lX n k := fun q => by
              have c3 : nI (pg_lX n b) ≤ nI (pg_lX n k) := a (Int32.toInt_inj.mp q)
              rw [nI_leI (by omega) (by omega)] at c3
              exact c3
            have lt2 : ¬ (pg_vX w p L x n k).toInt < (pg_vX w p L x n b).toInt := fun q => lt (Int32.lt_iff_toInt_lt.mpr q)
            have bt : pg_bt (pg_vX w p L x n) (pg_lX n) (fun c => c) b k := by
              simp only [pg_bt]
              omega
            exact ih f (some b) (by omega) (by omega) (pg_i_old (pg_t_D (by omega)) bt hi)
theorem px_best (hn : n ≤ 10) (hp : ∀ o, pg_BX w p L x n o → post (pg_code o)) : wpX_bestCuts post (x, L, nI n, w, p) := by
  unfold wpX_bestCuts
  dsimp only
  exact px_last hn ⟨2 ^ (n - 1) + 1, px_bLoop hn hp (2 ^ (n - 1)) _ none (Nat.le_refl _) (by omega) (pg_i_0 pg_DM)⟩
/-- the numbers among which a query takes the least -/
def pg_only (P : Nat → Prop) (v : Nat → Int32) (r : Nat → Int32) : Prop := ∀ c, (P c → r c = v c) ∧ (¬ P c → r c = pg_NO)
theorem pg_ls_no (r : Int32) : pg_ls r pg_NO = r := by
  unfold pg_ls
  by_cases e : r = pg_NO
  · rw [if_pos e, e]
  · rw [if_neg e, if_pos (Or.inl rfl)]
theorem px_cwLoop {q : Int32} {v : Nat → Int32} (hn : n ≤ 10) (hv : pg_only (fun c => nI (pg_lX n c) = q) (pg_vX w p L x n) v) (hp : ∀ r, pg_Min (fun c => c < 2 ^ (n - 1)) v r → post r) : ∀ k fuel r, k ≤ 2 ^ (n - 1) → k < fuel → pg_Min (fun c => k ≤ c ∧ c < 2 ^ (n - 1)) v r → wX_costWith_8 post q x L (nI n) w p fuel r (nI k + (-1)) := by
  have hM := pg_p5 hn
  intro k
  induction k with
  | zero =>
    intro fuel r _ h2 hi
    obtain ⟨f, rfl⟩ := pg_fu h2
    rw [pg_D0] at hi
    exact br_t (by decide) (hp r hi)
  | succ k ih =>
    intro fuel r h1 h2 hi
    obtain ⟨f, rfl⟩ := pg_fu h2
    rw [pk_m1]
    refine br_f (nI_pos (by omega)) (px_lines hn (by omega) ?_)
    have hm := pg_m_s (pg_t_D (by omega)) hi
    by_cases e : nI (pg_lX n k) = q
    · rw [(hv k).1 e] at hm
      exact br_t e (px_cost hn (by omega) (px_ls (nm_e (ih f _ (by omega) (by omega) hm))))
    · rw [(hv k).2 e, pg_ls_no] at hm
      exact br_f e (nm_e (ih f r (by omega) (by omega) hm))
theorem px_costWith {q : Int32} {v : Nat → Int32} (hn : n ≤ 10) (hv : pg_only (fun c => nI (pg_lX n c) = q) (pg_vX w p L x n) v) (hp : ∀ r, pg_Min (fun c => c < 2 ^ (n - 1)) v r → post r) : wpX_costWith post (x, L, nI n, w, p) q := by
  unfold wpX_costWith
  dsimp only
  exact px_last hn ⟨2 ^ (n - 1) + 1, px_cwLoop hn hv hp (2 ^ (n - 1)) _ pg_NO (Nat.le_refl _) (by omega) (pg_m_0 pg_DM)⟩
theorem px_lwLoop {i : Nat} {z : Int32} {v : Nat → Int32} (hn : n ≤ 10) (hi : i < n) (hv : pg_only (fun c => (if pg_EX n c i = true then 1 else 0) = z) (pg_vX w p L x n) v) (hp : ∀ r, pg_Min (fun c => c < 2 ^ (n - 1)) v r → post r) : ∀ k fuel r, k ≤ 2 ^ (n - 1) → k < fuel → pg_Min (fun c => k ≤ c ∧ c < 2 ^ (n - 1)) v r → wX_leastCostWhere_26 post (nI i) z x L (nI n) w p fuel r (nI k + (-1)) := by
  have hM := pg_p5 hn
  intro k
  induction k with
  | zero =>
    intro fuel r _ h2 hi
    obtain ⟨f, rfl⟩ := pg_fu h2
    rw [pg_D0] at hi
    exact br_t (by decide) (hp r hi)
  | succ k ih =>
    intro fuel r h1 h2 hm0
    obtain ⟨f, rfl⟩ := pg_fu h2
    rw [pk_m1]
    refine br_f (nI_pos (by omega)) (px_ea hn (by omega) hi ?_)
    have hm := pg_m_s (pg_t_D (by omega)) hm0
    by_cases e : (if pg_EX n k i = true then (1 : Int32) else 0) = z
    · rw [(hv k).1 e] at hm
      exact br_t e (px_cost hn (by omega) (px_ls (nm_e (ih f _ (by omega) (by omega) hm))))
    · rw [(hv k).2 e, pg_ls_no] at hm
      exact br_f e (nm_e (ih f r (by omega) (by omega) hm))
theorem px_least {i : Nat} {z : Int32} {v : Nat → Int32} (hn : n ≤ 10) (hi : i + 1 < n) (hv : pg_only (fun c => (if pg_EX n c i = true then 1 else 0) = z) (pg_vX w p L x n) v) (hp : ∀ r, pg_Min (fun c => c < 2 ^ (n - 1)) v r → post r) : wpX_leastCostWhere post (x, L, nI n, w, p) (nI i) z := by
  unfold wpX_leastCostWhere
  dsimp only
  refine br_f (nI_pos (by omega)) (br_t (by rw [pg_n1 (by omega)]; exact nI_lt (by omega) (by omega)) ?_)
  exact px_last hn ⟨2 ^ (n - 1) + 1, px_lwLoop hn (by omega) hv hp (2 ^ (n - 1)) _ pg_NO (Nat.le_refl _) (by omega) (pg_m_0 pg_DM)⟩
theorem px_leastNo {q z : Int32} (h : q < 0 ∨ ¬ q < nI n - 1) (hp : post pg_NO) : wpX_leastCostWhere post (x, L, nI n, w, p) q z := by
  unfold wpX_leastCostWhere
  dsimp only
  by_cases e : q < 0
  · exact br_t e hp
  · exact br_f e (br_f (h.resolve_left e) hp)
theorem px_chLoop (hn : n ≤ 10) (hp : ∀ r t, pg_Tie (2 ^ (n - 1)) 0 (pg_vX w p L x n) r t → post (nI t)) : ∀ k fuel r t, k ≤ 2 ^ (n - 1) → k < fuel → pg_Tie (2 ^ (n - 1)) k (pg_vX w p L x n) r t → wX_choices_10 post x L (nI n) w p fuel r (nI t) (nI k + (-1)) := by
  have hM := pg_p5 hn
  intro k
  induction k with
  | zero =>
    intro fuel r t _ h2 hi
    obtain ⟨f, rfl⟩ := pg_fu h2
    exact br_t (by decide) (hp r t hi)
  | succ k ih =>
    intro fuel r t h1 h2 hi
    obtain ⟨f, rfl⟩ := pg_fu h2
    rw [pk_m1]
    refine br_f (nI_pos (by omega)) (px_cost hn (by omega) ?_)
    unfold wX_choices_48
    by_cases e : pg_vX w p L x n k = pg_NO
    · exact br_t e (br_t e (nm_e (ih f r t (by omega) (by omega) (pg_t_old (by omega) hi (Or.inl e)))))
    · refine br_f e ?_
      by_cases er : r = pg_NO
      · exact br_t er (nm_e (ih f _ 1 (by omega) (by omega) (pg_t_new (by omega) hi e (Or.inl er))))
      · refine br_f er ?_
        by_cases lt : pg_vX w p L x n k < r
        · exact br_f (Int32.not_le.mpr lt) (nm_e (ih f _ 1 (by omega) (by omega) (pg_t_new (by omega) hi e (Or.inr lt))))
        · refine br_t (Int32.not_lt.mp lt) (br_f e ?_)
          by_cases eq : pg_vX w p L x n k = r
          · exact br_t eq (nm_r (nI_1 _) (nm_e (ih f r (t + 1) (by omega) (by omega) (pg_t_tie (by omega) hi e eq))))
          · exact br_f eq (nm_e (ih f r t (by omega) (by omega) (pg_t_old (by omega) hi (Or.inr ⟨er, lt, eq⟩))))
theorem px_choices (hn : n ≤ 10) (hp : ∀ r t, pg_Tie (2 ^ (n - 1)) 0 (pg_vX w p L x n) r t → post (nI t)) : wpX_choices post (x, L, nI n, w, p) := by
  unfold wpX_choices
  dsimp only
  exact px_last hn ⟨2 ^ (n - 1) + 1, px_chLoop hn hp (2 ^ (n - 1)) _ pg_NO 0 (Nat.le_refl _) (by omega) ⟨pg_m_0 pg_DM, fun _ => rfl, fun h => absurd rfl h⟩⟩
end
