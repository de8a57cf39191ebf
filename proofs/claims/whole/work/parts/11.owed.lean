/-- both hold the same words (n of them), the same width of the line (l) and the same extra -/
def i_Rel (k : Nat) (u : SX) (v : SY) : Prop := ∃ (w p : Nat → Int32) (x : Int32) (n l : Nat), u = (x, nI l, nI n, w, p) ∧ v = (nI l, x, nI n, w, p) ∧ n ≤ 10 ∧ l ≤ 60 ∧ pg_W n w
theorem i_up {k : Nat} {u : SX} {v : SY} (h : i_Rel k u v) : i_Rel (k + 4) u v := h
theorem i_vc0 (k0 : Int32) (k1 : Int32) : wpX_init (fun u => wpY_init (fun v => i_Rel 2 u v) k0 k1) k0 k1 := by
  unfold wpX_init
  refine px_clamp ?_
  refine px_clamp ?_
  refine py_init ?_
  obtain ⟨l, hl, e⟩ := pg_cl60 k0
  rw [e]
  exact ⟨fun _ => 0, fun _ => 0, pg_cl k1 0 100, 0, l, rfl, rfl, by omega, hl, fun i hi => absurd hi (Nat.not_lt_zero i)⟩
theorem i_vc_word {k : Nat} {u : SX} {v : SY} (I : i_Rel k u v) (hk : k + 4 ≤ 2050) (v1 : Int32) (v2 : Int32) : wpX_word (fun r u' => wpY_word (fun r' v' => r' = r ∧ i_Rel (k + 4) u' v') v v1 v2) u v1 v2 := by
  obtain ⟨w, p, x, n, l, rfl, rfl, hn, hl, hw⟩ := I
  unfold wpX_word wpY_word
  dsimp only
  refine px_wa (fun g => ?_) (fun g => ?_)
  · refine br_f (by decide) ?_
    by_cases h : n < 10
    · refine br_t (nI_lt (b := 10) h (by decide)) ⟨vp_in_nI h (by decide), nm_r (e' := upd w n v1) (by rw [nI_clamp (by omega)]) ⟨vp_in_nI h (by decide), nm_r (e' := upd p n v2) (by rw [nI_clamp (by omega)]) (nm_r (nI_1 n) ?_)⟩⟩
      refine py_good (fun _ => ?_) (fun g' => absurd g g')
      refine br_f (by decide) (br_t (nI_lt (b := 10) h (by decide)) ⟨vp_in_nI h (by decide), nm_r (e' := upd w n v1) (by rw [nI_clamp (by omega)]) ⟨vp_in_nI h (by decide), nm_r (e' := upd p n v2) (by rw [nI_clamp (by omega)]) (nm_r (nI_1 n) ?_)⟩⟩)
      exact ⟨rfl, upd w n v1, upd p n v2, x, n + 1, l, rfl, rfl, by omega, hl, pg_W_up hw (Or.inr ⟨rfl, rfl⟩) (pg_in12 g.1 g.2.1)⟩
    · refine br_f (nI_nlt (b := 10) (by omega) (by omega)) ?_
      refine py_good (fun _ => ?_) (fun g' => absurd g g')
      exact br_f (by decide) (br_f (nI_nlt (b := 10) (by omega) (by omega)) ⟨rfl, w, p, x, n, l, rfl, rfl, hn, hl, hw⟩)
  · refine br_t rfl ?_
    refine py_good (fun g' => absurd g' g) (fun _ => ?_)
    exact br_t rfl ⟨rfl, w, p, x, n, l, rfl, rfl, hn, hl, hw⟩
theorem i_vc_back {k : Nat} {u : SX} {v : SY} (I : i_Rel k u v) (hk : k + 4 ≤ 2050) : wpX_back (fun r u' => wpY_back (fun r' v' => r' = r ∧ i_Rel (k + 4) u' v') v) u := by
  obtain ⟨w, p, x, n, l, rfl, rfl, hn, hl, hw⟩ := I
  unfold wpX_back wpY_back
  dsimp only
  by_cases h : n = 0
  · subst h
    exact br_t rfl (br_t rfl ⟨rfl, w, p, x, 0, l, rfl, rfl, hn, hl, hw⟩)
  · have h0 : ¬ nI n = 0 := nI_ne0 (by omega) (by omega)
    have e : nI n - 1 = nI (n - 1) := pg_n1 (by omega)
    exact br_f h0 (nm_r e (br_f h0 (nm_r e ⟨rfl, w, p, x, n - 1, l, rfl, rfl, by omega, hl, fun i hi => hw i (by omega)⟩)))
theorem i_vc_change {k : Nat} {u : SX} {v : SY} (I : i_Rel k u v) (hk : k + 4 ≤ 2050) (v1 : Int32) (v2 : Int32) (v3 : Int32) : wpX_change (fun r u' => wpY_change (fun r' v' => r' = r ∧ i_Rel (k + 4) u' v') v v1 v2 v3) u v1 v2 v3 := by
  obtain ⟨w, p, x, n, l, rfl, rfl, hn, hl, hw⟩ := I
  unfold wpX_change wpY_change
  dsimp only
  have rel : i_Rel (k + 4) (x, nI l, nI n, w, p) (nI l, x, nI n, w, p) := ⟨w, p, x, n, l, rfl, rfl, hn, hl, hw⟩
  have out : v1 < 0 ∨ nI n ≤ v1 ∨ ∃ j : Nat, j < n ∧ v1 = nI j := pk_ix v1 (by omega)
  by_cases hq : v1 < 0 ∨ nI n ≤ v1
  · refine px_hasF hq ?_
    refine br_t rfl ?_
    refine py_isF hq ?_
    exact br_t rfl ⟨rfl, rel⟩
  · obtain ⟨j, hj, rfl⟩ : ∃ j : Nat, j < n ∧ v1 = nI j := by
      rcases out with a | a | a
      · exact absurd (Or.inl a) hq
      · exact absurd (Or.inr a) hq
      · exact a
    refine px_hasT hn hj ?_
    refine br_f (by decide) ?_
    refine px_wa (fun g => ?_) (fun g => ?_)
    · refine br_f (by decide) ⟨vp_in_nI (by omega) (by decide), nm_r (e' := upd w j v2) (by rw [nI_clamp (by omega)]) ⟨vp_in_nI (by omega) (by decide), nm_r (e' := upd p j v3) (by rw [nI_clamp (by omega)]) ?_⟩⟩
      refine py_isT hn hj ?_
      refine br_f (by decide) ?_
      refine py_good (fun _ => ?_) (fun g' => absurd g g')
      refine br_f (by decide) ⟨vp_in_nI (by omega) (by decide), nm_r (e' := upd w j v2) (by rw [nI_clamp (by omega)]) ⟨vp_in_nI (by omega) (by decide), nm_r (e' := upd p j v3) (by rw [nI_clamp (by omega)]) ?_⟩⟩
      exact ⟨rfl, upd w j v2, upd p j v3, x, n, l, rfl, rfl, hn, hl, pg_W_up hw (Or.inl (Nat.le_refl n)) (pg_in12 g.1 g.2.1)⟩
    · refine br_t rfl ?_
      refine py_isT hn hj ?_
      refine br_f (by decide) ?_
      refine py_good (fun g' => absurd g' g) (fun _ => ?_)
      exact br_t rfl ⟨rfl, rel⟩
theorem i_vc_setWidth {k : Nat} {u : SX} {v : SY} (I : i_Rel k u v) (hk : k + 4 ≤ 2050) (v1 : Int32) : wpX_setWidth (fun r u' => wpY_setWidth (fun r' v' => r' = r ∧ i_Rel (k + 4) u' v') v v1) u v1 := by
  obtain ⟨w, p, x, n, l, rfl, rfl, hn, hl, hw⟩ := I
  unfold wpX_setWidth wpY_setWidth wpX_inRange
  dsimp only
  by_cases h1 : v1 < 5
  · exact br_t h1 (br_t rfl (br_t h1 ⟨rfl, w, p, x, n, l, rfl, rfl, hn, hl, hw⟩))
  · refine br_f h1 ?_
    by_cases h2 : 60 < v1
    · exact br_t h2 (br_t rfl (br_f h1 (br_f (Int32.not_le.mpr h2) ⟨rfl, w, p, x, n, l, rfl, rfl, hn, hl, hw⟩)))
    · have h3 := Int32.not_lt.mp h2
      obtain ⟨m, hm, e⟩ := pg_in60 h1 h3
      refine br_f h2 (br_f (by decide) (br_f h1 (br_t h3 ⟨rfl, ?_⟩)))
      rw [e]
      exact ⟨w, p, x, n, m, rfl, rfl, hn, hm, hw⟩
theorem i_vc_words {k : Nat} {u : SX} {v : SY} (I : i_Rel k u v) (hk : k + 4 ≤ 2050) : wpX_words (fun r => wpY_words (fun r' => r' = r ∧ i_Rel (k + 4) u v) v) u := by
  have R := I
  obtain ⟨w, p, x, n, l, rfl, rfl, hn, hl, hw⟩ := I
  unfold wpX_words wpY_words
  dsimp only
  exact ⟨rfl, R⟩
theorem i_vc_cost {k : Nat} {u : SX} {v : SY} (I : i_Rel k u v) (hk : k + 4 ≤ 2050) : wpX_cost (fun r => wpY_cost (fun r' => r' = r ∧ i_Rel (k + 4) u v) v) u := by
  have R := I
  obtain ⟨w, p, x, n, l, rfl, rfl, hn, hl, hw⟩ := I
  exact px_costM hn (fun o hX => py_costM hw hn hl hX ⟨rfl, R⟩)
theorem i_vc_lines {k : Nat} {u : SX} {v : SY} (I : i_Rel k u v) (hk : k + 4 ≤ 2050) : wpX_lines (fun r => wpY_lines (fun r' => r' = r ∧ i_Rel (k + 4) u v) v) u := by
  have R := I
  obtain ⟨w, p, x, n, l, rfl, rfl, hn, hl, hw⟩ := I
  exact px_linesM hn (fun o hX => py_linesM hw hn hl hX ⟨rfl, R⟩)
theorem i_vc_lineOf {k : Nat} {u : SX} {v : SY} (I : i_Rel k u v) (hk : k + 4 ≤ 2050) (v1 : Int32) : wpX_lineOf (fun r => wpY_lineOf (fun r' => r' = r ∧ i_Rel (k + 4) u v) v v1) u v1 := by
  have R := I
  obtain ⟨w, p, x, n, l, rfl, rfl, hn, hl, hw⟩ := I
  have out : v1 < 0 ∨ nI n ≤ v1 ∨ ∃ j : Nat, j < n ∧ v1 = nI j := pk_ix v1 (by omega)
  rcases out with a | a | ⟨j, hj, rfl⟩
  · exact px_lineF (Or.inl a) (py_lineF hw hn hl (Or.inl a) ⟨rfl, R⟩)
  · exact px_lineF (Or.inr a) (py_lineF hw hn hl (Or.inr a) ⟨rfl, R⟩)
  · exact px_lineM hn hj (fun o hX => py_lineM hw hn hl hj hX ⟨rfl, R⟩)
theorem i_vc_endOf {k : Nat} {u : SX} {v : SY} (I : i_Rel k u v) (hk : k + 4 ≤ 2050) (v1 : Int32) : wpX_endOf (fun r => wpY_endOf (fun r' => r' = r ∧ i_Rel (k + 4) u v) v v1) u v1 := by
  have R := I
  obtain ⟨w, p, x, n, l, rfl, rfl, hn, hl, hw⟩ := I
  exact px_endM hn (fun o hX => py_endM hw hn hl hX ⟨rfl, R⟩)
theorem i_vc_lengthOf {k : Nat} {u : SX} {v : SY} (I : i_Rel k u v) (hk : k + 4 ≤ 2050) (v1 : Int32) : wpX_lengthOf (fun r => wpY_lengthOf (fun r' => r' = r ∧ i_Rel (k + 4) u v) v v1) u v1 := by
  have R := I
  obtain ⟨w, p, x, n, l, rfl, rfl, hn, hl, hw⟩ := I
  exact px_lengthM hn (fun o hX => py_lengthM hw hn hl hX ⟨rfl, R⟩)
theorem i_vc_costWith {k : Nat} {u : SX} {v : SY} (I : i_Rel k u v) (hk : k + 4 ≤ 2050) (v1 : Int32) : wpX_costWith (fun r => wpY_costWith (fun r' => r' = r ∧ i_Rel (k + 4) u v) v v1) u v1 := by
  have R := I
  obtain ⟨w, p, x, n, l, rfl, rfl, hn, hl, hw⟩ := I
  refine px_costWith (v := fun c => if nI (pg_lX n c) = v1 then pg_vX w p (nI l) x n c else pg_NO) hn (fun c => ⟨fun h => if_pos h, fun h => if_neg h⟩) (fun r hr => ?_)
  refine py_costWith (v := fun c => if nI (pg_lX n (pg_rv (n - 1) c)) = v1 then pg_vX w p (nI l) x n (pg_rv (n - 1) c) else pg_NO) hw hn hl (fun c => ⟨fun h => ?_, fun h => ?_⟩) (fun r' hr' => ?_)
  · dsimp only at h
    rw [pg_lY_rv] at h
    show (if nI (pg_lX n (pg_rv (n - 1) c)) = v1 then pg_vX w p (nI l) x n (pg_rv (n - 1) c) else pg_NO) = _
    rw [if_pos h, pg_vY_rv]
  · dsimp only at h
    rw [pg_lY_rv] at h
    exact if_neg h
  · exact ⟨pg_m_u (pg_m_rv (v := fun c => if nI (pg_lX n c) = v1 then pg_vX w p (nI l) x n c else pg_NO) (fun s _ => rfl) hr') hr, R⟩
theorem i_vc_costBreaking {k : Nat} {u : SX} {v : SY} (I : i_Rel k u v) (hk : k + 4 ≤ 2050) (v1 : Int32) : wpX_costBreaking (fun r => wpY_costBreaking (fun r' => r' = r ∧ i_Rel (k + 4) u v) v v1) u v1 := by
  have R := I
  obtain ⟨w, p, x, n, l, rfl, rfl, hn, hl, hw⟩ := I
  unfold wpX_costBreaking wpY_costBreaking wY_costBreaking_29 wY_costBreaking_30
  dsimp only
  rcases pg_out (q := v1) hn with a | ⟨j, hj, rfl⟩
  · refine px_leastNo a ?_
    by_cases hq : v1 < 0 ∨ nI n ≤ v1
    · refine py_isF hq ?_
      exact br_t rfl (br_f (by decide) ⟨rfl, R⟩)
    · have a2 : nI n - 1 ≤ v1 := Int32.not_lt.mp (a.resolve_left (fun z => hq (Or.inl z)))
      obtain ⟨j, hj, rfl⟩ : ∃ j : Nat, j < n ∧ v1 = nI j := by
        rcases (pk_ix v1 (n := n) (by omega)) with b | b | b
        · exact absurd (Or.inl b) hq
        · exact absurd (Or.inr b) hq
        · exact b
      refine py_isT hn hj ?_
      exact br_f (by decide) (br_t a2 (br_f (by decide) ⟨rfl, R⟩))
  · refine px_least hn hj (pg_vE_only w p (nI l) x n j 1) (fun r hr => ?_)
    refine py_isT hn (by omega) ?_
    refine br_f (by decide) (br_f (by rw [pg_n1 (by omega)]; exact nI_ge (by omega) (by omega)) ?_)
    refine py_sel hw hn hl hj (fun c hc => ?_) (fun r' hr' => ⟨pg_m_u hr' hr, R⟩)
    have h1 := pg_must j (by omega) c hc
    constructor
    · intro h
      rw [if_pos (h1.mp h.1)]
    · intro h
      refine ⟨h1.mpr ?_, Int32.zero_and⟩
      by_cases b : c.testBit j = true
      · exact b
      · rw [if_neg b] at h
        exact absurd h (by decide)
theorem i_vc_costKeeping {k : Nat} {u : SX} {v : SY} (I : i_Rel k u v) (hk : k + 4 ≤ 2050) (v1 : Int32) : wpX_costKeeping (fun r => wpY_costKeeping (fun r' => r' = r ∧ i_Rel (k + 4) u v) v v1) u v1 := by
  have R := I
  obtain ⟨w, p, x, n, l, rfl, rfl, hn, hl, hw⟩ := I
  unfold wpX_costKeeping wpY_costKeeping wY_costKeeping_29 wY_costKeeping_30
  dsimp only
  rcases pg_out (q := v1) hn with a | ⟨j, hj, rfl⟩
  · refine px_leastNo a ?_
    by_cases hq : v1 < 0 ∨ nI n ≤ v1
    · refine py_isF hq ?_
      exact br_t rfl (br_f (by decide) ⟨rfl, R⟩)
    · have a2 : nI n - 1 ≤ v1 := Int32.not_lt.mp (a.resolve_left (fun z => hq (Or.inl z)))
      obtain ⟨j, hj, rfl⟩ : ∃ j : Nat, j < n ∧ v1 = nI j := by
        rcases (pk_ix v1 (n := n) (by omega)) with b | b | b
        · exact absurd (Or.inl b) hq
        · exact absurd (Or.inr b) hq
        · exact b
      refine py_isT hn hj ?_
      exact br_f (by decide) (br_t a2 (br_f (by decide) ⟨rfl, R⟩))
  · refine px_least hn hj (pg_vE_only w p (nI l) x n j 0) (fun r hr => ?_)
    refine py_isT hn (by omega) ?_
    refine br_f (by decide) (br_f (by rw [pg_n1 (by omega)]; exact nI_ge (by omega) (by omega)) ?_)
    refine py_sel hw hn hl hj (fun c hc => ?_) (fun r' hr' => ⟨pg_m_u hr' hr, R⟩)
    have h1 := pg_nev j (by omega) c hc
    constructor
    · intro h
      rw [if_neg (h1.mp h.2)]
    · intro h
      refine ⟨Int32.zero_and, h1.mpr (fun b => ?_)⟩
      rw [if_pos b] at h
      exact absurd h (by decide)
theorem i_vc_choices {k : Nat} {u : SX} {v : SY} (I : i_Rel k u v) (hk : k + 4 ≤ 2050) : wpX_choices (fun r => wpY_choices (fun r' => r' = r ∧ i_Rel (k + 4) u v) v) u := by
  have R := I
  obtain ⟨w, p, x, n, l, rfl, rfl, hn, hl, hw⟩ := I
  exact px_choices hn (fun r t hT => py_chM hw hn hl hT ⟨rfl, R⟩)
