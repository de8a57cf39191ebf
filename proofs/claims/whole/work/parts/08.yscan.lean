/-- the masks that the reference's best looks at -/
def pg_sel (m q : Int32) (s : Nat) : Prop := (m &&& (nI s ^^^ (-1))) = 0 ∧ (q &&& nI s) = 0
/-- what the reference's best mask is -/
def pg_BY (w p : Nat → Int32) (L x : Int32) (n : Nat) (o : Option Nat) : Prop := pg_Inv (fun c => c < 2 ^ (n - 1)) (pg_vY w p L x n) (pg_bt (pg_vY w p L x n) (pg_lY n) (pg_rv (n - 1))) o
theorem pg_u_D (k x : Nat) : x < k + 1 ↔ (x < k ∨ x = k) := by omega
section
variable {w p : Nat → Int32} {L x : Int32} {n l : Nat} {post : Int32 → Prop}
theorem py_bLoop {m q : Int32} {v : Nat → Int32} (hw : pg_W n w) (hn : n ≤ 10) (hl : l ≤ 60)
    (hv : ∀ c, c < 2 ^ (n - 1) → (pg_sel m q c → v c = pg_vY w p (nI l) x n c) ∧ (¬ pg_sel m q c → v c = pg_NO))
    (hp : ∀ o, pg_Inv (fun c => c < 2 ^ (n - 1)) v (pg_bt v (pg_lY n) (pg_rv (n - 1))) o → post (pg_code o)) :
    ∀ d k fuel o, k + d = 2 ^ (n - 1) → d < fuel → pg_Inv (fun c => c < k) v (pg_bt v (pg_lY n) (pg_rv (n - 1))) o →
    wY_best_8 post m q (nI l) x (nI n) w p fuel (pg_code o) (pg_val 0 v o) (nI k) := by
  have hM := pg_p5 hn
  intro d
  induction d with
  | zero =>
    intro k fuel o h1 h2 hi
    obtain ⟨f, rfl⟩ := pg_fu h2
    have e : k = 2 ^ (n - 1) := by omega
    rw [e] at hi ⊢
    rw [wY_best_8]
    refine py_sets hn ?_
    exact br_t (nI_le (by omega) (by omega)) (hp o hi)
  | succ d ih =>
    intro k fuel o h1 h2 hi
    obtain ⟨f, rfl⟩ := pg_fu h2
    have hk : k < 2 ^ (n - 1) := by omega
    have hk5 : k < 512 := by omega
    rw [wY_best_8]
    refine py_sets hn ?_
    refine br_f (nI_ge (by omega) (by omega)) ?_
    have step : wY_best_44 post (wY_best_8 post m q (nI l) x (nI n) w p f) m q (pg_code o) (pg_val 0 v o) (nI k) (v k) (nI l) x (nI n) w p := by
      unfold wY_best_44
      by_cases e : v k = pg_NO
      · exact br_t e (nm_r (nI_1 _) (ih (k + 1) f o (by omega) (by omega) (pg_i_skip (pg_u_D k) e hi)))
      · refine br_f e ?_
        cases o with
        | none => exact br_t (by decide) (nm_r (nI_1 _) (ih (k + 1) f (some k) (by omega) (by omega) (pg_i_first (pg_u_D k) e hi)))
        | some b =>
          have hb : b < k := hi.1
          have hb5 : b < 2 ^ (n - 1) := by omega
          refine br_f (nI_pos (by omega)) ?_
          by_cases lt : v k < v b
          · exact br_t lt (nm_r (nI_1 _) (ih (k + 1) f (some k) (by omega) (by omega) (pg_i_new (pg_u_D k) pg_bt_tr e (Or.inl (Int32.lt_iff_toInt_lt.mp lt)) hi)))
          · refine br_f lt ?_
            have lt2 : ¬ (v k).toInt < (v b).toInt := fun z => lt (Int32.lt_iff_toInt_lt.mpr z)
            by_cases eq : v k = v b
            · refine br_t eq (py_before hn hk hb5 (fun z => ?_) (fun z => ?_))
              · exact br_f (by decide) (nm_r (nI_1 _) (ih (k + 1) f (some k) (by omega) (by omega) (pg_i_new (pg_u_D k) pg_bt_tr e (Or.inr ⟨congrArg Int32.toInt eq, z⟩) hi)))
              · have ne : pg_rv (n - 1) k ≠ pg_rv (n - 1) b := fun y => by
                  have y2 := congrArg (pg_rv (n - 1)) y
                  rw [pg_rv_rv hk, pg_rv_rv hb5] at y2
                  omega
                have bt : pg_bt v (pg_lY n) (pg_rv (n - 1)) b k := by
                  refine Or.inr ⟨congrArg Int32.toInt eq.symm, ?_⟩
                  omega
                exact br_t rfl (nm_r (nI_1 _) (ih (k + 1) f (some b) (by omega) (by omega) (pg_i_old (pg_u_D k) bt hi)))
            · have eq2 : ¬ (v k).toInt = (v b).toInt := fun z => eq (Int32.toInt_inj.mp z)
              have bt : pg_bt v (pg_lY n) (pg_rv (n - 1)) b k := Or.inl (by omega)
              exact br_f eq (nm_r (nI_1 _) (ih (k + 1) f (some b) (by omega) (by omega) (pg_i_old (pg_u_D k) bt hi)))
    by_cases s1 : (m &&& (nI k ^^^ (-1))) = 0
    · refine br_t s1 ?_
      by_cases s2 : (q &&& nI k) = 0
      · rw [(hv k hk).1 ⟨s1, s2⟩] at step
        exact br_t s2 (py_cost hw hn hl hk5 step)
      · rw [(hv k hk).2 (fun z => s2 z.2)] at step
        exact br_f s2 step
    · rw [(hv k hk).2 (fun z => s1 z.1)] at step
      exact br_f s1 step
theorem py_best {m q : Int32} {v : Nat → Int32} (hw : pg_W n w) (hn : n ≤ 10) (hl : l ≤ 60)
    (hv : ∀ c, c < 2 ^ (n - 1) → (pg_sel m q c → v c = pg_vY w p (nI l) x n c) ∧ (¬ pg_sel m q c → v c = pg_NO))
    (hp : ∀ o, pg_Inv (fun c => c < 2 ^ (n - 1)) v (pg_bt v (pg_lY n) (pg_rv (n - 1))) o → post (pg_code o)) : wpY_best post (nI l, x, nI n, w, p) m q := by
  unfold wpY_best
  dsimp only
  exact ⟨2 ^ (n - 1) + 1, py_bLoop hw hn hl hv hp (2 ^ (n - 1)) 0 _ none (by omega) (by omega) (pg_i_0 (fun c => Nat.not_lt_zero c))⟩
theorem py_best0 (hw : pg_W n w) (hn : n ≤ 10) (hl : l ≤ 60) (hp : ∀ o, pg_BY w p (nI l) x n o → post (pg_code o)) : wpY_best post (nI l, x, nI n, w, p) 0 0 :=
  py_best (v := pg_vY w p (nI l) x n) hw hn hl (fun c _ => ⟨fun _ => rfl, fun z => absurd ⟨Int32.zero_and, Int32.zero_and⟩ z⟩) hp
theorem py_eoLoop {s : Nat} {k : Int32} (hn : n ≤ 10) (hs : s < 512) : ∀ d i q fuel, i + d = n → d < fuel → post (pg_end (pg_EY n s) k d i q) → wY_endOf_12 post k (nI s) L x (nI n) w p fuel (nI q) (nI i) := by
  intro d
  induction d with
  | zero =>
    intro i q fuel h1 h2 hp
    obtain ⟨f, rfl⟩ := pg_fu h2
    exact br_t (nI_le (by omega) (by omega)) hp
  | succ d ih =>
    intro i q fuel h1 h2 hp
    obtain ⟨f, rfl⟩ := pg_fu h2
    refine br_f (nI_ge (by omega) (by omega)) (br_f (nI_pos (by omega)) ?_)
    rw [pg_bit (by omega) (by omega)]
    rw [pg_end] at hp
    have key : pg_EY n s i = true → wY_endOf_46 post (wY_endOf_12 post k (nI s) L x (nI n) w p f) k (nI s) (nI q) (nI i) L x (nI n) w p := by
      intro e
      rw [if_pos e] at hp
      unfold wY_endOf_46
      by_cases ek : nI q = k
      · rw [if_pos ek] at hp
        exact br_t ek hp
      · rw [if_neg ek] at hp
        exact br_f ek (nm_r (nI_1 _) (nm_r (nI_1 _) (ih (i + 1) (q + 1) f (by omega) (by omega) hp)))
    by_cases bt : s.testBit i = true
    · rw [if_pos bt]
      exact br_t rfl (key (by unfold pg_EY; rw [bt, Bool.or_true]))
    · rw [if_neg bt]
      refine br_f (by decide) ?_
      by_cases el : i + 1 = n
      · exact br_t (by rw [pg_n1 (by omega)]; exact congrArg nI (by omega)) (key (by unfold pg_EY; rw [decide_eq_true (by omega), Bool.true_or]))
      · refine br_f (by rw [pg_n1 (by omega), nI_eq (by omega) (by omega)]; omega) ?_
        have e : ¬ pg_EY n s i = true := by
          unfold pg_EY
          rw [decide_eq_false (by omega), Bool.false_or]
          exact bt
        rw [if_neg e] at hp
        exact nm_r (nI_1 _) (ih (i + 1) q f (by omega) (by omega) hp)
theorem py_loLoop {s m : Nat} (hs : s < 512) (hm : m ≤ 10) : ∀ d i fuel, i + d = m → d < fuel → post (nI (pg_cnt s.testBit m)) → wY_lineOf_26 post (nI m) (nI s) L x (nI n) w p fuel (nI (pg_cnt s.testBit i)) (nI i) := by
  intro d
  induction d with
  | zero =>
    intro i fuel h1 h2 hp
    obtain ⟨f, rfl⟩ := pg_fu h2
    have e : i = m := by omega
    rw [e]
    exact br_t (nI_le (by omega) (by omega)) hp
  | succ d ih =>
    intro i fuel h1 h2 hp
    obtain ⟨f, rfl⟩ := pg_fu h2
    refine br_f (nI_ge (by omega) (by omega)) ?_
    rw [pg_bit (by omega) (by omega)]
    exact nm_r (nI_add _ _) (nm_r (nI_1 _) (ih (i + 1) f (by omega) (by omega) hp))
theorem py_32 {J : Int32 → Int32 → Prop} {x1 r z : Int32} {k : Nat} (hJ : J (pg_ls r z) (nI (k + 1))) : wY_costWith_32 post J x1 r (nI k) z L x (nI n) w p := by
  unfold wY_costWith_32
  by_cases e1 : z = pg_NO
  · rw [e1, pg_ls_no] at hJ
    exact br_t e1 (nm_r (nI_1 _) hJ)
  · refine br_f e1 ?_
    unfold pg_ls at hJ
    by_cases e2 : r = pg_NO
    · rw [if_pos e2] at hJ
      exact br_t e2 (nm_r (nI_1 _) hJ)
    · refine br_f e2 ?_
      rw [if_neg e2] at hJ
      by_cases e3 : r < z
      · rw [if_pos (Or.inr e3)] at hJ
        exact br_t (Int32.le_iff_toInt_le.mpr (Int.le_of_lt (Int32.lt_iff_toInt_lt.mp e3))) (nm_r (nI_1 _) hJ)
      · rw [if_neg (fun y => y.elim e1 e3)] at hJ
        by_cases e4 : r ≤ z
        · have e5 : r = z := by
            rw [Int32.lt_iff_toInt_lt] at e3
            have e6 := Int32.le_iff_toInt_le.mp e4
            exact Int32.toInt_inj.mp (by omega)
          rw [← e5] at hJ
          exact br_t e4 (nm_r (nI_1 _) hJ)
        · exact br_f e4 (nm_r (nI_1 _) hJ)
theorem py_cwLoop {q : Int32} {v : Nat → Int32} (hw : pg_W n w) (hn : n ≤ 10) (hl : l ≤ 60) (hv : pg_only (fun c => nI (pg_lY n c) = q) (pg_vY w p (nI l) x n) v) (hp : ∀ r, pg_Min (fun c => c < 2 ^ (n - 1)) v r → post r) : ∀ d k fuel r, k + d = 2 ^ (n - 1) → d < fuel → pg_Min (fun c => c < k) v r → wY_costWith_5 post q (nI l) x (nI n) w p fuel r (nI k) := by
  have hM := pg_p5 hn
  intro d
  induction d with
  | zero =>
    intro k fuel r h1 h2 hi
    obtain ⟨f, rfl⟩ := pg_fu h2
    have e : k = 2 ^ (n - 1) := by omega
    rw [e] at hi ⊢
    rw [wY_costWith_5]
    refine py_sets hn ?_
    exact br_t (nI_le (by omega) (by omega)) (hp r hi)
  | succ d ih =>
    intro k fuel r h1 h2 hi
    obtain ⟨f, rfl⟩ := pg_fu h2
    rw [wY_costWith_5]
    refine py_sets hn ?_
    refine br_f (nI_ge (by omega) (by omega)) (py_count hn (by omega) ?_)
    have hm := pg_m_s (pg_u_D k) hi
    by_cases e : nI (pg_lY n k) = q
    · rw [(hv k).1 e] at hm
      exact br_t e (py_cost hw hn hl (by omega) (py_32 (ih (k + 1) f _ (by omega) (by omega) hm)))
    · rw [(hv k).2 e] at hm
      exact br_f e (py_32 (ih (k + 1) f _ (by omega) (by omega) hm))
theorem py_costWith {q : Int32} {v : Nat → Int32} (hw : pg_W n w) (hn : n ≤ 10) (hl : l ≤ 60) (hv : pg_only (fun c => nI (pg_lY n c) = q) (pg_vY w p (nI l) x n) v) (hp : ∀ r, pg_Min (fun c => c < 2 ^ (n - 1)) v r → post r) : wpY_costWith post (nI l, x, nI n, w, p) q := by
  unfold wpY_costWith
  dsimp only
  exact ⟨2 ^ (n - 1) + 1, py_cwLoop hw hn hl hv hp (2 ^ (n - 1)) 0 _ pg_NO (by omega) (by omega) (pg_m_0 (fun c => Nat.not_lt_zero c))⟩
theorem py_chLoop {r : Int32} (hw : pg_W n w) (hn : n ≤ 10) (hl : l ≤ 60) (hr : r ≠ pg_NO) (hp : post (nI (pg_num (pg_vY w p (nI l) x n) r (2 ^ (n - 1))))) : ∀ d k fuel, k + d = 2 ^ (n - 1) → d < fuel → wY_choices_9 post r (nI l) x (nI n) w p fuel (nI (pg_num (pg_vY w p (nI l) x n) r k)) (nI k) := by
  have hM := pg_p5 hn
  intro d
  induction d with
  | zero =>
    intro k fuel h1 h2
    obtain ⟨f, rfl⟩ := pg_fu h2
    have e : k = 2 ^ (n - 1) := by omega
    rw [e]
    rw [wY_choices_9]
    refine py_sets hn ?_
    exact br_t (nI_le (by omega) (by omega)) hp
  | succ d ih =>
    intro k fuel h1 h2
    obtain ⟨f, rfl⟩ := pg_fu h2
    rw [wY_choices_9]
    refine py_sets hn ?_
    refine br_f (nI_ge (by omega) (by omega)) (br_f hr (py_cost hw hn hl (by omega) ?_))
    have hi := ih (k + 1) f (by omega) (by omega)
    have hs : pg_num (pg_vY w p (nI l) x n) r (k + 1) = pg_num (pg_vY w p (nI l) x n) r k + (if decide (pg_vY w p (nI l) x n k = r) = true then 1 else 0) := rfl
    by_cases e : pg_vY w p (nI l) x n k = r
    · rw [if_pos (decide_eq_true e)] at hs
      rw [hs] at hi
      exact br_t e (nm_r (nI_1 _) (nm_r (nI_1 _) hi))
    · rw [if_neg (by rw [decide_eq_false e]; decide)] at hs
      rw [hs] at hi
      exact br_f e (nm_r (nI_1 _) hi)
end
