abbrev pg_NO : Int32 := -1000000
/-- what a scan for the best of the masks D has found so far: none, or some b that beats all others -/
def pg_Inv (D : Nat → Prop) (v : Nat → Int32) (bt : Nat → Nat → Prop) : Option Nat → Prop
  | none => ∀ c, D c → v c = pg_NO
  | some b => D b ∧ v b ≠ pg_NO ∧ ∀ c, D c → v c ≠ pg_NO → c ≠ b → bt b c
theorem pg_i_0 {D : Nat → Prop} {v : Nat → Int32} {bt : Nat → Nat → Prop} (h : ∀ c, ¬ D c) : pg_Inv D v bt none := fun c hc => absurd hc (h c)
theorem pg_i_skip {D D' : Nat → Prop} {v : Nat → Int32} {bt : Nat → Nat → Prop} {o : Option Nat} {c : Nat} (hD : ∀ x, D' x ↔ (D x ∨ x = c)) (hv : v c = pg_NO) (h : pg_Inv D v bt o) : pg_Inv D' v bt o := by
  cases o with
  | none =>
    intro x hx
    rcases (hD x).mp hx with a | a
    · exact h x a
    · rw [a]; exact hv
  | some b =>
    obtain ⟨h1, h2, h3⟩ := h
    refine ⟨(hD b).mpr (Or.inl h1), h2, fun x hx hv' hn => ?_⟩
    rcases (hD x).mp hx with a | a
    · exact h3 x a hv' hn
    · rw [a] at hv'; exact absurd hv hv'
theorem pg_i_first {D D' : Nat → Prop} {v : Nat → Int32} {bt : Nat → Nat → Prop} {c : Nat} (hD : ∀ x, D' x ↔ (D x ∨ x = c)) (hv : v c ≠ pg_NO) (h : pg_Inv D v bt none) : pg_Inv D' v bt (some c) := by
  refine ⟨(hD c).mpr (Or.inr rfl), hv, fun x hx hv' hn => ?_⟩
  rcases (hD x).mp hx with a | a
  · exact absurd (h x a) hv'
  · exact absurd a hn
theorem pg_i_new {D D' : Nat → Prop} {v : Nat → Int32} {bt : Nat → Nat → Prop} {b c : Nat} (hD : ∀ x, D' x ↔ (D x ∨ x = c)) (tr : ∀ x, bt c b → bt b x → bt c x) (hv : v c ≠ pg_NO) (hb : bt c b) (h : pg_Inv D v bt (some b)) : pg_Inv D' v bt (some c) := by
  obtain ⟨h1, h2, h3⟩ := h
  refine ⟨(hD c).mpr (Or.inr rfl), hv, fun x hx hv' hn => ?_⟩
  rcases (hD x).mp hx with a | a
  · by_cases e : x = b
    · rw [e]; exact hb
    · exact tr x hb (h3 x a hv' e)
  · exact absurd a hn
theorem pg_i_old {D D' : Nat → Prop} {v : Nat → Int32} {bt : Nat → Nat → Prop} {b c : Nat} (hD : ∀ x, D' x ↔ (D x ∨ x = c)) (hb : bt b c) (h : pg_Inv D v bt (some b)) : pg_Inv D' v bt (some b) := by
  obtain ⟨h1, h2, h3⟩ := h
  refine ⟨(hD b).mpr (Or.inl h1), h2, fun x hx hv' hn => ?_⟩
  rcases (hD x).mp hx with a | a
  · exact h3 x a hv' hn
  · rw [a]; exact hb
/-- the order of the breakings: cost, lines, and then the number of the component's mask (g), the greater first -/
def pg_bt (v : Nat → Int32) (ln g : Nat → Nat) (b c : Nat) : Prop :=
  (v b).toInt < (v c).toInt ∨ ((v b).toInt = (v c).toInt ∧ (ln b < ln c ∨ (ln b = ln c ∧ g c < g b)))
theorem pg_bt_tr {v : Nat → Int32} {ln g : Nat → Nat} {c b : Nat} (x : Nat) (h1 : pg_bt v ln g c b) (h2 : pg_bt v ln g b x) : pg_bt v ln g c x := by
  simp only [pg_bt] at h1 h2 ⊢
  omega
theorem pg_bt_as {v : Nat → Int32} {ln g : Nat → Nat} {c b : Nat} (h1 : pg_bt v ln g c b) (h2 : pg_bt v ln g b c) : False := by
  simp only [pg_bt] at h1 h2
  omega
def pg_code : Option Nat → Int32
  | none => -1
  | some b => nI b
def pg_val (z : Int32) (v : Nat → Int32) : Option Nat → Int32
  | none => z
  | some b => v b
/-- the component's best and the reference's are each other turned round -/
theorem pg_meet {m : Nat} {v v' : Nat → Int32} {ln ln' : Nat → Nat} {o o' : Option Nat} (hv : ∀ s, s < 2 ^ m → v' s = v (pg_rv m s)) (hl : ∀ s, s < 2 ^ m → ln' s = ln (pg_rv m s))
    (h : pg_Inv (fun c => c < 2 ^ m) v (pg_bt v ln (fun c => c)) o) (h' : pg_Inv (fun c => c < 2 ^ m) v' (pg_bt v' ln' (pg_rv m)) o') :
    (o = none ∧ o' = none) ∨ ∃ s, s < 2 ^ m ∧ o' = some s ∧ o = some (pg_rv m s) := by
  cases o with
  | none =>
    cases o' with
    | none => exact Or.inl ⟨rfl, rfl⟩
    | some s =>
      obtain ⟨h1, h2, h3⟩ := h'
      exact absurd ((hv s h1).trans (h _ (pg_rv_lt m s))) h2
  | some c =>
    obtain ⟨g1, g2, g3⟩ := h
    cases o' with
    | none =>
      have a := h' (pg_rv m c) (pg_rv_lt m c)
      rw [hv _ (pg_rv_lt m c), pg_rv_rv g1] at a
      exact absurd a g2
    | some s =>
      obtain ⟨h1, h2, h3⟩ := h'
      refine Or.inr ⟨s, h1, rfl, ?_⟩
      by_cases e : c = pg_rv m s
      · rw [e]
      · exfalso
        have e2 : pg_rv m c ≠ s := fun z => e (by rw [← z, pg_rv_rv g1])
        have a := g3 (pg_rv m s) (pg_rv_lt m s) (by rw [← hv s h1]; exact h2) (fun z => e z.symm)
        have b := h3 (pg_rv m c) (pg_rv_lt m c) (by rw [hv _ (pg_rv_lt m c), pg_rv_rv g1]; exact g2) e2
        have v1 := hv s h1
        have v2 := hv _ (pg_rv_lt m c)
        have l1 := hl s h1
        have l2 := hl _ (pg_rv_lt m c)
        rw [pg_rv_rv g1] at v2 l2
        unfold pg_bt at a b
        rw [v1, v2, l1, l2, pg_rv_rv g1] at b
        dsimp only at a
        omega
/-- r is the least of the numbers v c that are not NONE, c in D; NONE if there is none -/
def pg_Min (D : Nat → Prop) (v : Nat → Int32) (r : Int32) : Prop :=
  (r = pg_NO ∧ ∀ c, D c → v c = pg_NO) ∨ (r ≠ pg_NO ∧ (∃ b, D b ∧ v b = r) ∧ ∀ c, D c → v c ≠ pg_NO → r.toInt ≤ (v c).toInt)
def pg_ls (a b : Int32) : Int32 := if a = pg_NO then b else if b = pg_NO ∨ a < b then a else b
theorem pg_m_0 {D : Nat → Prop} {v : Nat → Int32} (h : ∀ c, ¬ D c) : pg_Min D v pg_NO := Or.inl ⟨rfl, fun c hc => absurd hc (h c)⟩
theorem pg_m_s {D D' : Nat → Prop} {v : Nat → Int32} {r : Int32} {c : Nat} (hD : ∀ x, D' x ↔ (D x ∨ x = c)) (h : pg_Min D v r) : pg_Min D' v (pg_ls r (v c)) := by
  unfold pg_ls
  rcases h with ⟨h1, h2⟩ | ⟨h1, ⟨b, hb, eb⟩, h3⟩
  · rw [if_pos h1]
    by_cases e : v c = pg_NO
    · refine Or.inl ⟨e, fun x hx => ?_⟩
      rcases (hD x).mp hx with a | a
      · exact h2 x a
      · rw [a]; exact e
    · refine Or.inr ⟨e, ⟨c, (hD c).mpr (Or.inr rfl), rfl⟩, fun x hx hv => ?_⟩
      rcases (hD x).mp hx with a | a
      · exact absurd (h2 x a) hv
      · rw [a]; exact Int.le_refl _
  · rw [if_neg h1]
    by_cases e : v c = pg_NO ∨ r < v c
    · rw [if_pos e]
      refine Or.inr ⟨h1, ⟨b, (hD b).mpr (Or.inl hb), eb⟩, fun x hx hv => ?_⟩
      rcases (hD x).mp hx with a | a
      · exact h3 x a hv
      · subst a
        rcases e with e | e
        · exact absurd e hv
        · exact Int.le_of_lt (Int32.lt_iff_toInt_lt.mp e)
    · rw [if_neg e]
      have e1 : v c ≠ pg_NO := fun z => e (Or.inl z)
      have e2 : ¬ r < v c := fun z => e (Or.inr z)
      rw [Int32.lt_iff_toInt_lt] at e2
      refine Or.inr ⟨e1, ⟨c, (hD c).mpr (Or.inr rfl), rfl⟩, fun x hx hv => ?_⟩
      rcases (hD x).mp hx with a | a
      · have := h3 x a hv; omega
      · rw [a]; exact Int.le_refl _
theorem pg_m_u {D : Nat → Prop} {v : Nat → Int32} {r r' : Int32} (h : pg_Min D v r) (h' : pg_Min D v r') : r = r' := by
  rcases h with ⟨h1, h2⟩ | ⟨h1, ⟨b, hb, eb⟩, h3⟩ <;> rcases h' with ⟨g1, g2⟩ | ⟨g1, ⟨c, hc, ec⟩, g3⟩
  · rw [h1, g1]
  · exact absurd (ec.symm.trans (h2 c hc)) g1
  · exact absurd (eb.symm.trans (g2 b hb)) h1
  · have a := h3 c hc (by rw [ec]; exact g1)
    have b' := g3 b hb (by rw [eb]; exact h1)
    rw [ec] at a
    rw [eb] at b'
    exact Int32.toInt_inj.mp (by omega)
theorem pg_m_rv {m : Nat} {v v' : Nat → Int32} {r : Int32} (hv : ∀ s, s < 2 ^ m → v' s = v (pg_rv m s)) (h : pg_Min (fun c => c < 2 ^ m) v' r) : pg_Min (fun c => c < 2 ^ m) v r := by
  have key : ∀ c, c < 2 ^ m → v c = v' (pg_rv m c) := fun c hc => by rw [hv _ (pg_rv_lt m c), pg_rv_rv hc]
  rcases h with ⟨h1, h2⟩ | ⟨h1, ⟨b, hb, eb⟩, h3⟩
  · exact Or.inl ⟨h1, fun c hc => by rw [key c hc]; exact h2 _ (pg_rv_lt m c)⟩
  · refine Or.inr ⟨h1, ⟨pg_rv m b, pg_rv_lt m b, by rw [← hv b hb]; exact eb⟩, fun c hc hn => ?_⟩
    rw [key c hc] at hn ⊢
    exact h3 _ (pg_rv_lt m c) hn
theorem pg_i_m {D : Nat → Prop} {v : Nat → Int32} {ln g : Nat → Nat} {o : Option Nat} (h : pg_Inv D v (pg_bt v ln g) o) : pg_Min D v (pg_val pg_NO v o) := by
  cases o with
  | none => exact Or.inl ⟨rfl, h⟩
  | some b =>
    obtain ⟨h1, h2, h3⟩ := h
    refine Or.inr ⟨h2, ⟨b, h1, rfl⟩, fun c hc hn => ?_⟩
    show (v b).toInt ≤ (v c).toInt
    by_cases e : c = b
    · rw [e]; exact Int.le_refl _
    · have := h3 c hc hn e
      unfold pg_bt at this
      omega
theorem pg_m_cg {D : Nat → Prop} {v v' : Nat → Int32} {r : Int32} (hv : ∀ c, D c → v c = v' c) (h : pg_Min D v r) : pg_Min D v' r := by
  rcases h with ⟨h1, h2⟩ | ⟨h1, ⟨b, hb, eb⟩, h3⟩
  · exact Or.inl ⟨h1, fun c hc => by rw [← hv c hc]; exact h2 c hc⟩
  · exact Or.inr ⟨h1, ⟨b, hb, by rw [← hv b hb]; exact eb⟩, fun c hc hn => by rw [← hv c hc] at hn ⊢; exact h3 c hc hn⟩
/-- how many masks below k have the number r -/
def pg_num (v : Nat → Int32) (r : Int32) (k : Nat) : Nat := pg_cnt (fun c => decide (v c = r)) k
/-- the scan of choices, downwards: k masks are still to come -/
def pg_Tie (M k : Nat) (v : Nat → Int32) (r : Int32) (t : Nat) : Prop :=
  pg_Min (fun c => k ≤ c ∧ c < M) v r ∧ (r = pg_NO → t = 0) ∧ (r ≠ pg_NO → t + pg_num v r k = pg_num v r M)
theorem pg_t_le {M k : Nat} {v : Nat → Int32} {r : Int32} {t : Nat} (hk : k ≤ M) (h : pg_Tie M k v r t) : t ≤ M := by
  obtain ⟨h1, h2, h3⟩ := h
  by_cases e : r = pg_NO
  · rw [h2 e]; exact Nat.zero_le _
  · have a := h3 e
    have b : pg_num v r M ≤ M := pg_cnt_le _ _
    omega
theorem pg_t_D {M k : Nat} (hk : k < M) (x : Nat) : (k ≤ x ∧ x < M) ↔ ((k + 1 ≤ x ∧ x < M) ∨ x = k) := by omega
theorem pg_t_new {M k : Nat} {v : Nat → Int32} {r : Int32} {t : Nat} (hk : k < M) (h : pg_Tie M (k + 1) v r t) (hn : v k ≠ pg_NO) (hl : r = pg_NO ∨ v k < r) : pg_Tie M k v (v k) 1 := by
  obtain ⟨h1, h2, h3⟩ := h
  have hm := pg_m_s (pg_t_D hk) h1
  have e : pg_ls r (v k) = v k := by
    unfold pg_ls
    by_cases e : r = pg_NO
    · rw [if_pos e]
    · rcases hl with hl | hl
      · exact absurd hl e
      · rw [if_neg e, if_neg]
        rintro (z | z)
        · exact hn z
        · rw [Int32.lt_iff_toInt_lt] at z hl; omega
  rw [e] at hm
  refine ⟨hm, fun z => absurd z hn, fun _ => ?_⟩
  have hno : pg_num v (v k) M = pg_num v (v k) (k + 1) := by
    unfold pg_num
    apply pg_cnt_none M (by omega)
    intro i a b
    show decide (v i = v k) = false
    apply decide_eq_false
    intro z
    rcases h1 with ⟨g1, g2⟩ | ⟨g1, _, g3⟩
    · exact hn (z.symm.trans (g2 i ⟨a, b⟩))
    · rcases hl with hl | hl
      · exact g1 hl
      · have q := g3 i ⟨a, b⟩ (by rw [z]; exact hn)
        rw [Int32.lt_iff_toInt_lt] at hl
        rw [z] at q
        omega
  rw [hno]
  show 1 + pg_num v (v k) k = pg_num v (v k) k + (if decide (v k = v k) = true then 1 else 0)
  rw [if_pos (decide_eq_true rfl)]
  omega
theorem pg_t_tie {M k : Nat} {v : Nat → Int32} {r : Int32} {t : Nat} (hk : k < M) (h : pg_Tie M (k + 1) v r t) (hn : v k ≠ pg_NO) (he : v k = r) : pg_Tie M k v r (t + 1) := by
  obtain ⟨h1, h2, h3⟩ := h
  have hr : r ≠ pg_NO := by rw [← he]; exact hn
  have hm := pg_m_s (pg_t_D hk) h1
  have e : pg_ls r (v k) = r := by
    unfold pg_ls
    rw [if_neg hr]
    split
    · rfl
    · exact he
  rw [e] at hm
  refine ⟨hm, fun z => absurd z hr, fun _ => ?_⟩
  have a := h3 hr
  have b : pg_num v r (k + 1) = pg_num v r k + (if decide (v k = r) = true then 1 else 0) := rfl
  rw [if_pos (decide_eq_true he)] at b
  omega
theorem pg_t_old {M k : Nat} {v : Nat → Int32} {r : Int32} {t : Nat} (hk : k < M) (h : pg_Tie M (k + 1) v r t) (ho : v k = pg_NO ∨ (r ≠ pg_NO ∧ ¬ v k < r ∧ v k ≠ r)) : pg_Tie M k v r t := by
  obtain ⟨h1, h2, h3⟩ := h
  have hm := pg_m_s (pg_t_D hk) h1
  have e : pg_ls r (v k) = r := by
    unfold pg_ls
    by_cases e : r = pg_NO
    · rw [if_pos e]
      rcases ho with ho | ho
      · rw [ho, e]
      · exact absurd e ho.1
    · rw [if_neg e, if_pos]
      rcases ho with ho | ho
      · exact Or.inl ho
      · refine Or.inr ?_
        have a := ho.2.1
        have b : (v k).toInt ≠ r.toInt := fun z => ho.2.2 (Int32.toInt_inj.mp z)
        rw [Int32.lt_iff_toInt_lt] at a ⊢
        omega
  rw [e] at hm
  refine ⟨hm, h2, fun z => ?_⟩
  have a := h3 z
  have b : pg_num v r (k + 1) = pg_num v r k + (if decide (v k = r) = true then 1 else 0) := rfl
  have c : ¬ v k = r := by
    rcases ho with ho | ho
    · rw [ho]; exact fun y => z y.symm
    · exact ho.2.2
  rw [if_neg (by rw [decide_eq_false c]; decide)] at b
  omega
