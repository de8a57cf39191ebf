/-- the cost and the number of lines of the component's mask c -/
def pg_vX (w p : Nat → Int32) (L x : Int32) (n c : Nat) : Int32 := pg_C w p L x n (pg_EX n c)
def pg_lX (n c : Nat) : Nat := pg_cnt (pg_EX n c) n
theorem pg_n1 {n : Nat} (h : 0 < n) : nI n - 1 = nI (n - 1) := by
  obtain ⟨m, rfl⟩ : ∃ m, n = m + 1 := ⟨n - 1, by omega⟩
  exact nI_pred m
theorem pg_fu {d fuel : Nat} (h : d < fuel) : ∃ f, fuel = f + 1 := ⟨fuel - 1, by omega⟩
section
variable {w p : Nat → Int32} {L x : Int32} {n : Nat} {post : Int32 → Prop}
theorem px_last (hn : n ≤ 10) (h : post (nI (2 ^ (n - 1)) + (-1))) : wpX_lastCuts post (x, L, nI n, w, p) := by
  unfold wpX_lastCuts
  dsimp only
  refine pk_le 2 n (fun a => ?_) (fun a => ?_)
  · rw [pg_n1 (by omega), pg_shl (by omega), Int32.sub_eq_add_neg]
    exact h
  · have e : n - 1 = 0 := by omega
    rw [e] at h
    exact h
theorem px_ea {c i : Nat} (hn : n ≤ 10) (hc : c < 512) (hi : i < n) (h : post (if pg_EX n c i = true then 1 else 0)) : wpX_endsAfter post (x, L, nI n, w, p) (nI c) (nI i) := by
  unfold wpX_endsAfter
  dsimp only
  rw [pg_n1 (by omega)]
  refine pk_le (n - 1) i (fun a => ?_) (fun a => ?_)
  · have e : pg_EX n c i = true := by
      unfold pg_EX
      rw [decide_eq_true (by omega), Bool.true_or]
    rw [if_pos e] at h
    exact h
  · have e2 : nI n - 2 - nI i = nI (n - 2 - i) := by
      rw [show (2 : Int32) = nI 2 from rfl, pk_sub (by omega), pk_sub (by omega)]
    have e : pg_EX n c i = c.testBit (n - 2 - i) := by
      unfold pg_EX
      rw [decide_eq_false (by omega), Bool.false_or]
    rw [e2, pg_bit (by omega) (by omega)]
    rw [e] at h
    by_cases b : c.testBit (n - 2 - i) = true
    · rw [if_pos b] at h ⊢
      exact br_t rfl h
    · rw [if_neg b] at h ⊢
      exact br_f (by decide) h
theorem px_ebLoop {c m : Nat} (hn : n ≤ 10) (hc : c < 512) (hl : m ≤ n) : ∀ d i fuel, i + d = m → d < fuel → post (nI (pg_cnt (pg_EX n c) m)) → wX_endsBefore_5 post (nI c) (nI m) x L (nI n) w p fuel (nI (pg_cnt (pg_EX n c) i)) (nI i) := by
  intro d
  induction d with
  | zero =>
    intro i fuel h1 h2 hp
    obtain ⟨f, rfl⟩ := pg_fu h2
    have e : i = m := by omega
    rw [e]
    exact br_t (nI_le (by omega) (by omega)) hp
  | succ d ih =>
    intro i fuel h1 h2 hp
    obtain ⟨f, rfl⟩ := pg_fu h2
    refine br_f (nI_ge (by omega) (by omega)) (px_ea hn hc (by omega) ?_)
    have hs : pg_cnt (pg_EX n c) (i + 1) = pg_cnt (pg_EX n c) i + (if pg_EX n c i = true then 1 else 0) := rfl
    have hi := ih (i + 1) f (by omega) (by omega) hp
    by_cases e : pg_EX n c i = true
    · rw [if_pos e] at hs ⊢
      rw [hs] at hi
      exact br_f (by decide) (nm_r (nI_1 _) (nm_r (nI_1 _) hi))
    · rw [if_neg e] at hs ⊢
      rw [hs] at hi
      exact br_t rfl (nm_r (nI_1 _) hi)
theorem px_eb {c m : Nat} (hn : n ≤ 10) (hc : c < 512) (hl : m ≤ n) (hp : post (nI (pg_cnt (pg_EX n c) m))) : wpX_endsBefore post (x, L, nI n, w, p) (nI c) (nI m) := by
  unfold wpX_endsBefore
  dsimp only
  exact ⟨m + 1, px_ebLoop hn hc hl m 0 (m + 1) (by omega) (by omega) hp⟩
theorem px_lines {c : Nat} (hn : n ≤ 10) (hc : c < 512) (hp : post (nI (pg_lX n c))) : wpX_linesInCuts post (x, L, nI n, w, p) (nI c) := by
  unfold wpX_linesInCuts
  dsimp only
  exact px_eb hn hc (Nat.le_refl n) hp
theorem px_eiLoop {c : Nat} {k : Int32} (hn : n ≤ 10) (hc : c < 512) : ∀ d i q fuel, i + d = n → d < fuel → post (pg_end (pg_EX n c) k d i q) → wX_endInCuts_5 post (nI c) k x L (nI n) w p fuel (nI q) (nI i) := by
  intro d
  induction d with
  | zero =>
    intro i q fuel h1 h2 hp
    obtain ⟨f, rfl⟩ := pg_fu h2
    exact br_t (nI_le (by omega) (by omega)) hp
  | succ d ih =>
    intro i q fuel h1 h2 hp
    obtain ⟨f, rfl⟩ := pg_fu h2
    refine br_f (nI_ge (by omega) (by omega)) (px_ea hn hc (by omega) ?_)
    rw [pg_end] at hp
    by_cases e : pg_EX n c i = true
    · rw [if_pos e] at hp ⊢
      by_cases ek : nI q = k
      · rw [if_pos ek] at hp
        exact br_f (by decide) (br_t ek hp)
      · rw [if_neg ek] at hp
        exact br_f (by decide) (br_f ek (nm_r (nI_1 _) (nm_r (nI_1 _) (ih (i + 1) (q + 1) f (by omega) (by omega) hp))))
    · rw [if_neg e] at hp ⊢
      exact br_t rfl (nm_r (nI_1 _) (ih (i + 1) q f (by omega) (by omega) hp))
theorem px_end {c : Nat} {k : Int32} (hn : n ≤ 10) (hc : c < 512) (hp : post (pg_end (pg_EX n c) k n 0 0)) : wpX_endInCuts post (x, L, nI n, w, p) (nI c) k := by
  unfold wpX_endInCuts
  dsimp only
  exact ⟨n + 1, px_eiLoop hn hc n 0 0 (n + 1) (by omega) (by omega) hp⟩
theorem px_lbLoop {j : Nat} (hj : j < 10) : ∀ d i a fuel, j + 1 - i = d → i ≤ 10 → d < fuel → post (pg_sum w d i a) → wX_lengthBetween_9 post (nI j) x L (nI n) w p fuel a (nI i) := by
  intro d
  induction d with
  | zero =>
    intro i a fuel h1 h2 h3 hp
    obtain ⟨f, rfl⟩ := pg_fu h3
    exact br_t (nI_lt (by omega) (by omega)) hp
  | succ d ih =>
    intro i a fuel h1 h2 h3 hp
    obtain ⟨f, rfl⟩ := pg_fu h3
    exact br_f (nI_nlt (by omega) (by omega)) ⟨vp_in_nI (by omega) (by omega), nm_r (by rw [nI_clamp (by omega)]) (nm_r (nI_1 _) (ih (i + 1) (a + w i) f (by omega) (by omega) (by omega) hp))⟩
theorem px_len {i j : Nat} (hi : i ≤ 10) (hj : j < 10) (hp : post (pg_len w i j)) : wpX_lengthBetween post (x, L, nI n, w, p) (nI i) (nI j) := by
  unfold wpX_lengthBetween
  dsimp only
  exact nm_e ⟨j + 1 - i + 1, px_lbLoop hj (j + 1 - i) i _ _ rfl hi (by omega) hp⟩
theorem px_fits {y g : Int32} (hp : post (if y ≤ L + g then 1 else 0)) : wpX_fits post (x, L, nI n, w, p) y g := by
  unfold wpX_fits
  dsimp only
  by_cases e : y ≤ L + g
  · rw [if_pos e] at hp
    exact br_f (Int32.not_lt.mpr e) hp
  · rw [if_neg e] at hp
    exact br_t (Int32.not_le.mp e) hp
theorem px_bad {b k : Nat} {z : Int32} (hz : z = 0 ↔ ¬ k + 1 = n) (hp : post (pg_bd w L n b k)) : wpX_badness post (x, L, nI n, w, p) (pg_len w b k) z := by
  unfold wpX_badness
  dsimp only
  refine nm_e ?_
  unfold pg_bd at hp
  by_cases e : L - pg_len w b k < 0
  · rw [if_pos e] at hp
    exact br_f (Int32.not_le.mpr e) hp
  · rw [if_neg e] at hp
    refine br_t (Int32.not_lt.mp e) ?_
    by_cases el : k + 1 = n
    · rw [if_pos el] at hp
      exact br_f (fun q => hz.mp q el) hp
    · rw [if_neg el] at hp
      exact br_t (hz.mpr el) hp
theorem px_103 {J : Int32 → Int32 → Int32 → Int32 → Prop} {x1 t z z0 : Int32} {k : Nat} {h : Bool} (hk : k < 10) (hz : z = 0 ↔ h = false) (hz0 : z0 = 0 ↔ ¬ 0 < p k) (hJ : J (t + p k + (if h = true ∧ 0 < p k then x else 0)) (nI (k + 1)) z0 (nI (k + 1))) : wX_costOfCuts_103 post J x1 t z (nI k) z0 x L (nI n) w p := by
  unfold wX_costOfCuts_103 wX_costOfCuts_133 wX_costOfCuts_134
  refine ⟨vp_in_nI (by omega) (by omega), nm_r (e' := t + p k) (by rw [nI_clamp (by omega)]) ?_⟩
  cases h with
  | false =>
    rw [if_neg (fun q => by cases q.1)] at hJ
    exact br_t (hz.mpr rfl) (nm_e (nm_r (nI_1 _) (nm_r (nI_1 _) hJ)))
  | true =>
    refine br_f (fun q => by cases hz.mp q) ?_
    by_cases e : 0 < p k
    · rw [if_pos ⟨rfl, e⟩] at hJ
      exact br_f (fun q => hz0.mp q e) (nm_e (nm_r (nI_1 _) (nm_r (nI_1 _) hJ)))
    · rw [if_neg (fun q => e q.2)] at hJ
      exact br_t (hz0.mpr e) (nm_e (nm_r (nI_1 _) (nm_r (nI_1 _) hJ)))
theorem px_cLoop {c : Nat} (hn : n ≤ 10) (hc : c < 512) : ∀ d k b t z h fuel, k + d = n → b ≤ k → d < fuel → (z = 0 ↔ h = false) → post (pg_cost w p L x n (pg_EX n c) d k t b h) → wX_costOfCuts_10 post (nI c) x L (nI n) w p fuel t (nI b) z (nI k) := by
  intro d
  induction d with
  | zero =>
    intro k b t z h fuel h1 hb h2 hz hp
    obtain ⟨f, rfl⟩ := pg_fu h2
    exact br_t (nI_le (by omega) (by omega)) hp
  | succ d ih =>
    intro k b t z h fuel h1 hb h2 hz hp
    obtain ⟨f, rfl⟩ := pg_fu h2
    refine br_f (nI_ge (by omega) (by omega)) (px_ea hn hc (by omega) ?_)
    rw [pg_cost] at hp
    by_cases e : pg_EX n c k = true
    · rw [if_pos e] at hp ⊢
      refine br_f (by decide) ?_
      by_cases el : k + 1 = n
      · refine br_t (by rw [pg_n1 (by omega)]; exact congrArg nI (by omega)) ?_
        unfold wX_costOfCuts_45
        refine px_len (by omega) (by omega) (px_fits ?_)
        by_cases ef : pg_len w b k ≤ L + (nI k - nI b)
        · rw [if_pos ef, if_pos el] at hp
          rw [if_pos ef]
          have d0 : d = 0 := by omega
          subst d0
          exact br_f (by decide) (px_bad (k := k) (b := b) ⟨fun q => absurd q (by decide), fun q => absurd el q⟩ (nm_e (br_f (by decide) (nm_r (nI_1 _) (nm_r (nI_1 _) (ih (k + 1) (k + 1) _ z h f (by omega) (by omega) (by omega) hz hp))))))
        · rw [if_neg ef] at hp
          rw [if_neg ef]
          exact br_t rfl hp
      · refine br_f (by rw [pg_n1 (by omega), nI_eq (by omega) (by omega)]; omega) ?_
        unfold wX_costOfCuts_45
        refine px_len (by omega) (by omega) (px_fits ?_)
        by_cases ef : pg_len w b k ≤ L + (nI k - nI b)
        · rw [if_pos ef, if_neg el] at hp
          rw [if_pos ef]
          refine br_f (by decide) (px_bad (k := k) (b := b) ⟨fun _ => el, fun _ => rfl⟩ (nm_e (br_t rfl ⟨vp_in_nI (by omega) (by omega), ?_⟩)))
          rw [nI_clamp (by omega)]
          by_cases ep : 0 < p k
          · refine br_f (Int32.not_le.mpr ep) (px_103 (h := h) (by omega) hz ⟨fun q => absurd q (by decide), fun q => absurd ep q⟩ (ih (k + 1) (k + 1) _ 1 (decide (0 < p k)) f (by omega) (by omega) (by omega) ?_ hp))
            rw [decide_eq_true ep]
            decide
          · refine br_t (Int32.not_lt.mp ep) (px_103 (h := h) (by omega) hz ⟨fun _ => ep, fun _ => rfl⟩ (ih (k + 1) (k + 1) _ 0 (decide (0 < p k)) f (by omega) (by omega) (by omega) ?_ hp))
            rw [decide_eq_false ep]
            decide
        · rw [if_neg ef] at hp
          rw [if_neg ef]
          exact br_t rfl hp
    · rw [if_neg e] at hp ⊢
      exact br_t rfl (nm_r (nI_1 _) (ih (k + 1) b t z h f (by omega) (by omega) (by omega) hz hp))
theorem px_cost {c : Nat} (hn : n ≤ 10) (hc : c < 512) (hp : post (pg_vX w p L x n c)) : wpX_costOfCuts post (x, L, nI n, w, p) (nI c) := by
  unfold wpX_costOfCuts
  dsimp only
  exact ⟨n + 1, px_cLoop hn hc n 0 0 0 0 false (n + 1) (by omega) (by omega) (by omega) ⟨fun _ => rfl, fun _ => rfl⟩ hp⟩
theorem px_ls {a b : Int32} (hp : post (pg_ls a b)) : wpX_lesserCost post a b := by
  unfold wpX_lesserCost
  unfold pg_ls at hp
  by_cases e1 : a = pg_NO
  · rw [if_pos e1] at hp
    exact br_t e1 hp
  · rw [if_neg e1] at hp
    refine br_f e1 ?_
    by_cases e2 : b = pg_NO
    · rw [if_pos (Or.inl e2)] at hp
      exact br_t e2 hp
    · refine br_f e2 ?_
      by_cases e3 : a < b
      · rw [if_pos (Or.inr e3)] at hp
        exact br_f (Int32.not_le.mpr e3) hp
      · rw [if_neg (fun q => q.elim e2 e3)] at hp
        exact br_t (Int32.not_lt.mp e3) hp
end
