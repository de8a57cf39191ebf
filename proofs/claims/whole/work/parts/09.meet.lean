theorem pg_nm1 {b : Nat} (h : b < 2 ^ 31) : ¬ nI b = -1 := fun q => nI_pos h (by rw [q]; decide)
/-- the last word of line k of the best breaking -/
def pg_endX (n : Nat) (k : Int32) : Option Nat → Int32
  | none => -1
  | some c => pg_end (pg_EX n c) k n 0 0
theorem pg_endX_r (n : Nat) (k : Int32) (o : Option Nat) : pg_endX n k o = -1 ∨ ∃ j, j < n ∧ pg_endX n k o = nI j := by
  cases o with
  | none => exact Or.inl rfl
  | some c =>
    rcases pg_end_r (pg_EX n c) k n 0 0 with a | ⟨j, _, b, e⟩
    · exact Or.inl a
    · exact Or.inr ⟨j, by omega, e⟩
theorem pg_endX_s (n : Nat) (k : Int32) (o : Option Nat) : ∃ i, i ≤ n ∧ pg_endX n k o + 1 = nI i := by
  rcases pg_endX_r n k o with a | ⟨j, b, e⟩
  · exact ⟨0, by omega, by rw [a]; rfl⟩
  · exact ⟨j + 1, by omega, by rw [e, nI_1]⟩
theorem pg_endX_n {n : Nat} {k : Int32} (o : Option Nat) (hn : n ≤ 10) (hk : k < 0) : pg_endX n k o = -1 := by
  cases o with
  | none => rfl
  | some c => exact pg_end_n _ hk n 0 0 (by omega)
/-- the length of line k of the best breaking -/
def pg_lenV (w : Nat → Int32) (n : Nat) (k : Int32) (o : Option Nat) : Int32 :=
  if pg_endX n k o = -1 then -1 else pg_len w (if k = 0 then 0 else (pg_endX n (k - 1) o + 1).toNatClampNeg) (pg_endX n k o).toNatClampNeg
/-- the line of word j of the best breaking -/
def pg_lineX (n j : Nat) : Option Nat → Int32
  | none => -1
  | some c => nI (pg_cnt (pg_EX n c) j)
section
variable {w p : Nat → Int32} {L x : Int32} {n l : Nat} {post : Int32 → Prop}
theorem pg_mt {o o' : Option Nat} (hX : pg_BX w p L x n o) (hY : pg_BY w p L x n o') : (o = none ∧ o' = none) ∨ ∃ s, s < 2 ^ (n - 1) ∧ o' = some s ∧ o = some (pg_rv (n - 1) s) :=
  pg_meet (fun s _ => pg_vY_rv w p L x n s) (fun s _ => pg_lY_rv n s) hX hY
theorem px_costM (hn : n ≤ 10) (hp : ∀ o, pg_BX w p L x n o → post (pg_val pg_NO (pg_vX w p L x n) o)) : wpX_cost post (x, L, nI n, w, p) := by
  unfold wpX_cost
  dsimp only
  refine px_best hn (fun o hX => ?_)
  have h := hp o hX
  cases o with
  | none => exact br_t rfl h
  | some c =>
    have hc := pg_M9 hn hX.1
    exact br_f (pg_nm1 (by omega)) (px_cost hn hc h)
theorem px_linesM (hn : n ≤ 10) (hp : ∀ o, pg_BX w p L x n o → post (nI (pg_lo (pg_lX n) o))) : wpX_lines post (x, L, nI n, w, p) := by
  unfold wpX_lines
  dsimp only
  refine px_best hn (fun o hX => ?_)
  have h := hp o hX
  cases o with
  | none => exact br_t rfl h
  | some c =>
    have hc := pg_M9 hn hX.1
    exact br_f (pg_nm1 (by omega)) (px_lines hn hc h)
theorem px_endM {k : Int32} (hn : n ≤ 10) (hp : ∀ o, pg_BX w p L x n o → post (pg_endX n k o)) : wpX_endOf post (x, L, nI n, w, p) k := by
  unfold wpX_endOf
  dsimp only
  refine px_best hn (fun o hX => ?_)
  have h := hp o hX
  cases o with
  | none => exact br_t rfl h
  | some c =>
    have hc := pg_M9 hn hX.1
    exact br_f (pg_nm1 (by omega)) (px_end hn hc h)
theorem px_hasT {j : Nat} (hn : n ≤ 10) (hj : j < n) (hp : post 1) : wpX_hasWord post (x, L, nI n, w, p) (nI j) := by
  unfold wpX_hasWord
  dsimp only
  exact br_f (nI_pos (by omega)) (br_f (nI_ge hj (by omega)) hp)
theorem px_hasF {q : Int32} (h : q < 0 ∨ nI n ≤ q) (hp : post 0) : wpX_hasWord post (x, L, nI n, w, p) q := by
  unfold wpX_hasWord
  dsimp only
  exact br_c (fun _ => hp) (fun z => br_t (h.resolve_left z) hp)
theorem py_isT {j : Nat} (hn : n ≤ 10) (hj : j < n) (hp : post 1) : wpY_is post (L, x, nI n, w, p) (nI j) := by
  unfold wpY_is
  dsimp only
  exact br_f (nI_pos (by omega)) (br_f (nI_ge hj (by omega)) hp)
theorem py_isF {q : Int32} (h : q < 0 ∨ nI n ≤ q) (hp : post 0) : wpY_is post (L, x, nI n, w, p) q := by
  unfold wpY_is
  dsimp only
  exact br_c (fun _ => hp) (fun z => br_t (h.resolve_left z) hp)
theorem px_lineM {j : Nat} (hn : n ≤ 10) (hj : j < n) (hp : ∀ o, pg_BX w p L x n o → post (pg_lineX n j o)) : wpX_lineOf post (x, L, nI n, w, p) (nI j) := by
  unfold wpX_lineOf
  dsimp only
  refine px_hasT hn hj ?_
  refine br_f (by decide) ?_
  refine px_best hn (fun o hX => ?_)
  have h := hp o hX
  cases o with
  | none => exact br_t rfl h
  | some c =>
    have hc := pg_M9 hn hX.1
    exact br_f (pg_nm1 (by omega)) (px_eb hn hc (by omega) h)
theorem px_lineF {q : Int32} (h : q < 0 ∨ nI n ≤ q) (hp : post (-1)) : wpX_lineOf post (x, L, nI n, w, p) q := by
  unfold wpX_lineOf
  dsimp only
  refine px_hasF h ?_
  exact br_t rfl hp
theorem px_lengthM {k : Int32} (hn : n ≤ 10) (hp : ∀ o, pg_BX w p L x n o → post (pg_lenV w n k o)) : wpX_lengthOf post (x, L, nI n, w, p) k := by
  unfold wpX_lengthOf wX_lengthOf_44
  dsimp only
  refine px_best hn (fun o hX => ?_)
  have h := hp o hX
  cases o with
  | none => exact br_t rfl h
  | some c =>
    have hc := pg_M9 hn hX.1
    refine br_f (pg_nm1 (by omega)) ?_
    refine px_end hn hc ?_
    rcases pg_endX_r n k (some c) with q | ⟨j, hj, q⟩
    · have q' : pg_end (pg_EX n c) k n 0 0 = -1 := q
      rw [pg_lenV, if_pos q] at h
      exact br_t q' h
    · have q' : pg_end (pg_EX n c) k n 0 0 = nI j := q
      rw [q']
      refine br_f (pg_nm1 (by omega)) ?_
      rw [pg_lenV, if_neg (by rw [q]; exact pg_nm1 (by omega)), q, nI_clamp (by omega)] at h
      by_cases k0 : k = 0
      · rw [if_pos k0] at h
        exact br_t k0 (px_len (i := 0) (by omega) (by omega) h)
      · rw [if_neg k0] at h
        obtain ⟨i, hi, ei⟩ := pg_endX_s n (k - 1) (some c)
        rw [ei, nI_clamp (by omega)] at h
        refine br_f k0 ?_
        refine px_end hn hc ?_
        have ei' : pg_end (pg_EX n c) (k - 1) n 0 0 + 1 = nI i := ei
        rw [ei']
        exact px_len (by omega) (by omega) h
theorem py_costA (hw : pg_W n w) (hn : n ≤ 10) (hl : l ≤ 60) (hp : ∀ o, pg_BY w p (nI l) x n o → post (pg_val pg_NO (pg_vY w p (nI l) x n) o)) : wpY_cost post (nI l, x, nI n, w, p) := by
  unfold wpY_cost
  dsimp only
  refine py_best0 hw hn hl (fun o hY => ?_)
  have h := hp o hY
  cases o with
  | none => exact br_f (by decide) h
  | some s =>
    have hs := pg_M9 hn hY.1
    exact br_t (nI_pos' (by omega)) (py_cost hw hn hl hs h)
theorem py_costM {o : Option Nat} (hw : pg_W n w) (hn : n ≤ 10) (hl : l ≤ 60) (hX : pg_BX w p (nI l) x n o) (hp : post (pg_val pg_NO (pg_vX w p (nI l) x n) o)) : wpY_cost post (nI l, x, nI n, w, p) := by
  refine py_costA hw hn hl (fun o' hY => ?_)
  rcases pg_mt hX hY with ⟨a, b⟩ | ⟨s, hs, a, b⟩
  · rw [a] at hp
    rw [b]
    exact hp
  · rw [b] at hp
    rw [a]
    show post (pg_vY w p (nI l) x n s)
    rw [pg_vY_rv]
    exact hp
theorem py_linesM {o : Option Nat} (hw : pg_W n w) (hn : n ≤ 10) (hl : l ≤ 60) (hX : pg_BX w p (nI l) x n o) (hp : post (nI (pg_lo (pg_lX n) o))) : wpY_lines post (nI l, x, nI n, w, p) := by
  unfold wpY_lines
  dsimp only
  refine py_best0 hw hn hl (fun o' hY => ?_)
  rcases pg_mt hX hY with ⟨a, b⟩ | ⟨s, hs, a, b⟩
  · rw [a] at hp
    rw [b]
    exact br_f (by decide) hp
  · have h5 := pg_M9 hn hs
    rw [b] at hp
    rw [a]
    refine br_t (nI_pos' (n := s) (by omega)) (py_count hn hs ?_)
    rw [pg_lY_rv]
    exact hp
theorem py_endM {o : Option Nat} {k : Int32} (hw : pg_W n w) (hn : n ≤ 10) (hl : l ≤ 60) (hX : pg_BX w p (nI l) x n o) (hp : post (pg_endX n k o)) : wpY_endOf post (nI l, x, nI n, w, p) k := by
  unfold wpY_endOf
  dsimp only
  refine py_best0 hw hn hl (fun o' hY => ?_)
  rcases pg_mt hX hY with ⟨a, b⟩ | ⟨s, hs, a, b⟩
  · rw [a] at hp
    rw [b]
    exact ⟨1, br_c (fun _ => hp) (fun _ => br_t (by decide) hp)⟩
  · have h5 := pg_M9 hn hs
    rw [b] at hp
    rw [a]
    refine ⟨n + 1, py_eoLoop hn h5 n 0 0 (n + 1) (by omega) (by omega) ?_⟩
    rw [← pg_EX_rv]
    exact hp
theorem py_lineM {o : Option Nat} {j : Nat} (hw : pg_W n w) (hn : n ≤ 10) (hl : l ≤ 60) (hj : j < n) (hX : pg_BX w p (nI l) x n o) (hp : post (pg_lineX n j o)) : wpY_lineOf post (nI l, x, nI n, w, p) (nI j) := by
  unfold wpY_lineOf
  dsimp only
  refine py_best0 hw hn hl (fun o' hY => ?_)
  rcases pg_mt hX hY with ⟨a, b⟩ | ⟨s, hs, a, b⟩
  · rw [a] at hp
    rw [b]
    exact br_t (by decide) hp
  · have h5 := pg_M9 hn hs
    rw [b] at hp
    rw [a]
    refine br_f (nI_pos (n := s) (by omega)) ?_
    refine py_isT hn hj ?_
    refine br_f (by decide) ⟨j + 1, py_loLoop h5 (by omega) j 0 (j + 1) (by omega) (by omega) ?_⟩
    have e : pg_lineX n j (some (pg_rv (n - 1) s)) = nI (pg_cnt s.testBit j) := by
      show nI (pg_cnt (pg_EX n (pg_rv (n - 1) s)) j) = _
      rw [pg_EX_rv, pg_pre hj]
    rw [e] at hp
    exact hp
theorem py_lineF {q : Int32} (hw : pg_W n w) (hn : n ≤ 10) (hl : l ≤ 60) (h : q < 0 ∨ nI n ≤ q) (hp : post (-1)) : wpY_lineOf post (nI l, x, nI n, w, p) q := by
  unfold wpY_lineOf
  dsimp only
  refine py_best0 hw hn hl (fun o' hY => ?_)
  refine br_c (fun _ => hp) (fun _ => ?_)
  refine py_isF h ?_
  exact br_t rfl hp
theorem py_lengthM {o : Option Nat} {k : Int32} (hw : pg_W n w) (hn : n ≤ 10) (hl : l ≤ 60) (hX : pg_BX w p (nI l) x n o) (h : post (pg_lenV w n k o)) : wpY_lengthOf post (nI l, x, nI n, w, p) k := by
  unfold wpY_lengthOf wY_lengthOf_23
  dsimp only
  refine py_endM hw hn hl hX ?_
  rcases pg_endX_r n k o with q | ⟨j, hj, q⟩
  · rw [pg_lenV, if_pos q] at h
    rw [q]
    refine br_c (fun _ => br_f (by decide) h) (fun _ => ?_)
    refine py_endM hw hn hl hX ?_
    exact br_f (by decide) h
  · rw [pg_lenV, if_neg (by rw [q]; exact pg_nm1 (by omega)), q, nI_clamp (by omega)] at h
    rw [q]
    refine br_c (fun a => br_t (nI_pos' (by omega)) ?_) (fun a => ?_)
    · have k0 : k = 0 := by
        by_cases kn : k < 0
        · exfalso
          rw [pg_endX_n o hn kn] at q
          exact pg_nm1 (b := j) (by omega) q.symm
        · have a2 := Int32.le_iff_toInt_le.mp a
          rw [Int32.lt_iff_toInt_lt] at kn
          exact Int32.toInt_inj.mp (by omega)
      rw [if_pos k0] at h
      exact py_len (i := 0) (by omega) (by omega) h
    · have k0 : ¬ k = 0 := fun z => a (by rw [z]; decide)
      rw [if_neg k0] at h
      obtain ⟨i, hi, ei⟩ := pg_endX_s n (k - 1) o
      rw [ei, nI_clamp (by omega)] at h
      refine py_endM hw hn hl hX ?_
      rw [ei]
      exact br_t (nI_pos' (by omega)) (py_len (by omega) (by omega) h)
theorem pg_num_rv (r : Int32) : pg_num (pg_vY w p L x n) r (2 ^ (n - 1)) = pg_num (pg_vX w p L x n) r (2 ^ (n - 1)) := by
  unfold pg_num
  rw [← pg_cnt_rv (n - 1) (fun c => decide (pg_vX w p L x n c = r))]
  apply pg_cnt_congr
  intro i _
  show decide (pg_vY w p L x n i = r) = decide (pg_vX w p L x n (pg_rv (n - 1) i) = r)
  rw [pg_vY_rv]
theorem py_chM {r : Int32} {t : Nat} (hw : pg_W n w) (hn : n ≤ 10) (hl : l ≤ 60) (hT : pg_Tie (2 ^ (n - 1)) 0 (pg_vX w p (nI l) x n) r t) (hp : post (nI t)) : wpY_choices post (nI l, x, nI n, w, p) := by
  have hM := pg_p5 hn
  obtain ⟨h1, h2, h3⟩ := hT
  rw [pg_D0] at h1
  unfold wpY_choices
  dsimp only
  refine py_costA hw hn hl (fun o' hY => ?_)
  have e : pg_val pg_NO (pg_vY w p (nI l) x n) o' = r := pg_m_u (pg_m_rv (fun s _ => pg_vY_rv w p (nI l) x n s) (pg_i_m hY)) h1
  rw [e]
  by_cases er : r = pg_NO
  · rw [h2 er] at hp
    refine ⟨1, ?_⟩
    rw [wY_choices_9]
    refine py_sets hn ?_
    exact br_f (nI_ge (a := 0) (pg_p1 n) (by omega)) (br_t er hp)
  · have h4 := h3 er
    rw [← pg_num_rv] at h4
    have h5 : pg_num (pg_vX w p (nI l) x n) r 0 = 0 := rfl
    rw [pg_num_rv] at h4
    refine ⟨2 ^ (n - 1) + 1, py_chLoop hw hn hl er ?_ (2 ^ (n - 1)) 0 _ (by omega) (by omega)⟩
    rw [pg_num_rv]
    have h6 : pg_num (pg_vX w p (nI l) x n) r (2 ^ (n - 1)) = t := by omega
    rw [h6]
    exact hp
/-- the numbers among which costBreaking (z = 1) and costKeeping (z = 0) take the least -/
def pg_vE (w p : Nat → Int32) (L x : Int32) (n j : Nat) (z : Int32) (c : Nat) : Int32 := if (if pg_EX n c j = true then (1 : Int32) else 0) = z then pg_vX w p L x n c else pg_NO
theorem pg_vE_only (w p : Nat → Int32) (L x : Int32) (n j : Nat) (z : Int32) : pg_only (fun c => (if pg_EX n c j = true then 1 else 0) = z) (pg_vX w p L x n) (pg_vE w p L x n j z) := fun _ => ⟨fun h => if_pos h, fun h => if_neg h⟩
theorem py_sel {m q z : Int32} {j : Nat} (hw : pg_W n w) (hn : n ≤ 10) (hl : l ≤ 60) (hj : j + 1 < n) (hsel : ∀ c, c < 512 → (pg_sel m q c ↔ (if c.testBit j = true then (1 : Int32) else 0) = z))
    (hp : ∀ r, pg_Min (fun c => c < 2 ^ (n - 1)) (pg_vE w p (nI l) x n j z) r → post r) :
    wpY_best (fun r => (0 ≤ r → wpY_costOf (fun r' => post r') (nI l, x, nI n, w, p) r) ∧ (¬ 0 ≤ r → post (-1000000))) (nI l, x, nI n, w, p) m q := by
  have hE : ∀ c, pg_EX n (pg_rv (n - 1) c) j = c.testBit j := fun c => by
    rw [pg_EX_rv]
    unfold pg_EY
    rw [decide_eq_false (by omega), Bool.false_or]
  have hvs : ∀ c, c < 2 ^ (n - 1) → (pg_sel m q c → pg_vE w p (nI l) x n j z (pg_rv (n - 1) c) = pg_vY w p (nI l) x n c) ∧ (¬ pg_sel m q c → pg_vE w p (nI l) x n j z (pg_rv (n - 1) c) = pg_NO) := fun c hc => by
    have hs := hsel c (pg_M9 hn hc)
    unfold pg_vE
    rw [hE]
    refine ⟨fun a => ?_, fun a => ?_⟩
    · rw [if_pos (hs.mp a), pg_vY_rv]
    · rw [if_neg (fun b => a (hs.mpr b))]
  refine py_best (v := fun s => pg_vE w p (nI l) x n j z (pg_rv (n - 1) s)) hw hn hl hvs (fun o hI => ?_)
  have h := hp _ (pg_m_rv (v := pg_vE w p (nI l) x n j z) (fun s _ => rfl) (pg_i_m hI))
  cases o with
  | none => exact br_f (by decide) h
  | some s =>
    have hs : s < 2 ^ (n - 1) := hI.1
    have hno : pg_vE w p (nI l) x n j z (pg_rv (n - 1) s) ≠ pg_NO := hI.2.1
    have h5 := pg_M9 hn hs
    have e : pg_vE w p (nI l) x n j z (pg_rv (n - 1) s) = pg_vY w p (nI l) x n s := by
      by_cases a : pg_sel m q s
      · exact (hvs s hs).1 a
      · exact absurd ((hvs s hs).2 a) hno
    have h' : post (pg_vE w p (nI l) x n j z (pg_rv (n - 1) s)) := h
    rw [e] at h'
    exact br_t (nI_pos' (n := s) (by omega)) (py_cost hw hn hl h5 h')
end
