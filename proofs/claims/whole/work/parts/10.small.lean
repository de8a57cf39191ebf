/-- a number held between two others -/
def pg_cl (v a b : Int32) : Int32 := if a ≤ v then (if v ≤ b then v else b) else a
/-- a width and a penalty that are allowed -/
def pg_good (a b : Int32) : Prop := ¬ a < 1 ∧ ¬ 12 < a ∧ ¬ b < -40 ∧ ¬ 40 < b
theorem px_clamp {post : Int32 → Prop} {v a b : Int32} (hp : post (pg_cl v a b)) : wpX_clamp post v a b := by
  unfold wpX_clamp
  unfold pg_cl at hp
  by_cases e1 : a ≤ v
  · rw [if_pos e1] at hp
    refine br_t e1 ?_
    by_cases e2 : v ≤ b
    · rw [if_pos e2] at hp
      exact br_t e2 hp
    · rw [if_neg e2] at hp
      exact br_f e2 hp
  · rw [if_neg e1] at hp
    exact br_f e1 hp
theorem py_42 {post : SY → Prop} {v z r m s : Int32} {w p : Nat → Int32} (hp : post (z, pg_cl v 0 100, s, w, p)) : wY_init_42 post v z r m s w p := by
  unfold wY_init_42
  unfold pg_cl at hp
  by_cases e1 : 0 ≤ v
  · rw [if_pos e1] at hp
    refine br_t e1 ?_
    by_cases e2 : v ≤ 100
    · rw [if_pos e2] at hp
      exact br_t e2 hp
    · rw [if_neg e2] at hp
      exact br_f e2 hp
  · rw [if_neg e1] at hp
    exact br_f e1 hp
theorem py_init {post : SY → Prop} {a b : Int32} (hp : post (pg_cl a 5 60, pg_cl b 0 100, 0, (fun _ => 0), (fun _ => 0))) : wpY_init post a b := by
  unfold wpY_init
  by_cases e1 : 5 ≤ a
  · refine br_t e1 ?_
    by_cases e2 : a ≤ 60
    · rw [show pg_cl a 5 60 = a by unfold pg_cl; rw [if_pos e1, if_pos e2]] at hp
      exact br_t e2 (py_42 hp)
    · rw [show pg_cl a 5 60 = 60 by unfold pg_cl; rw [if_pos e1, if_neg e2]] at hp
      exact br_f e2 (py_42 hp)
  · rw [show pg_cl a 5 60 = 5 by unfold pg_cl; rw [if_neg e1]] at hp
    exact br_f e1 (py_42 hp)
theorem pg_cl60 (v : Int32) : ∃ l, l ≤ 60 ∧ pg_cl v 5 60 = nI l := by
  unfold pg_cl
  by_cases e1 : 5 ≤ v
  · rw [if_pos e1]
    by_cases e2 : v ≤ 60
    · rw [if_pos e2]
      exact nI_of2 (M := 60) (n := 60) (by decide) (fun q => by
        have h1 := Int32.lt_iff_toInt_lt.mp q
        have h2 := Int32.le_iff_toInt_le.mp e1
        have h3 : (5 : Int32).toInt = 5 := by decide
        have h4 : (0 : Int32).toInt = 0 := by decide
        omega) e2
    · rw [if_neg e2]
      exact ⟨60, by omega, rfl⟩
  · rw [if_neg e1]
    exact ⟨5, by omega, rfl⟩
theorem pg_in60 {v : Int32} (e1 : ¬ v < 5) (e2 : v ≤ 60) : ∃ l, l ≤ 60 ∧ v = nI l :=
  nI_of2 (M := 60) (n := 60) (by decide) (fun q => e1 (Int32.lt_trans q (by decide))) e2
theorem pg_in12 {v : Int32} (e1 : ¬ v < 1) (e2 : ¬ 12 < v) : ∃ l, l ≤ 12 ∧ v = nI l :=
  nI_of2 (M := 12) (n := 12) (by decide) (fun q => e1 (Int32.lt_trans q (by decide))) (Int32.not_lt.mp e2)
theorem px_wa {post : Int32 → Prop} {a b : Int32} (ht : pg_good a b → post 1) (hf : ¬ pg_good a b → post 0) : wpX_wordAllowed post a b := by
  unfold wpX_wordAllowed wpX_inRange
  refine br_c (fun q => br_t rfl (hf (fun g => g.1 q))) (fun q1 => br_c (fun q => br_t rfl (hf (fun g => g.2.1 q))) (fun q2 => br_f (by decide) ?_))
  exact br_c (fun q => br_t rfl (hf (fun g => g.2.2.1 q))) (fun q3 => br_c (fun q => br_t rfl (hf (fun g => g.2.2.2 q))) (fun q4 => br_f (by decide) (ht ⟨q1, q2, q3, q4⟩)))
theorem py_good {post : Int32 → Prop} {v : SY} {a b : Int32} (ht : pg_good a b → post 1) (hf : ¬ pg_good a b → post 0) : wpY_good post v a b := by
  obtain ⟨r, m, s, w, p⟩ := v
  unfold wpY_good
  dsimp only
  exact br_c (fun q => hf (fun g => g.1 q)) (fun q1 => br_c (fun q => hf (fun g => g.2.1 q)) (fun q2 => br_c (fun q => hf (fun g => g.2.2.1 q)) (fun q3 => br_c (fun q => hf (fun g => g.2.2.2 q)) (fun q4 => ht ⟨q1, q2, q3, q4⟩))))
theorem pg_W_up {n : Nat} {w : Nat → Int32} {v : Int32} {k m : Nat} (hw : pg_W n w) (hm : m ≤ n ∨ (m = n + 1 ∧ k = n)) (hv : ∃ a, a ≤ 12 ∧ v = nI a) : pg_W m (upd w k v) := by
  intro i hi
  by_cases e : i = k
  · rw [e, pk_us]
    exact hv
  · rw [pk_un e]
    exact hw i (by omega)
/-- the query costBreaking, costKeeping at a number that is no word ahead of the last -/
theorem pg_out {q : Int32} {n : Nat} (hn : n ≤ 10) : (q < 0 ∨ ¬ q < nI n - 1) ∨ ∃ j, j + 1 < n ∧ q = nI j := by
  by_cases h0 : q < 0
  · exact Or.inl (Or.inl h0)
  · by_cases h1 : q < nI n - 1
    · obtain ⟨j, hj, rfl⟩ := nI_of h0
      by_cases n0 : n = 0
      · subst n0
        exfalso
        have h2 : nI j < 0 := Int32.lt_trans h1 (by decide)
        exact h0 h2
      · rw [pg_n1 (by omega), nI_ltI hj (by omega)] at h1
        exact Or.inr ⟨j, by omega, rfl⟩
    · exact Or.inl (Or.inr h1)
