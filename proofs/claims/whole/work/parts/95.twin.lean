/-! the first two with one key -/
def vpr (tp tk : Nat → Int32) (p q : Nat) : Prop := p < q ∧ q < 240 ∧ ¬ tp p = 0 ∧ ¬ tp q = 0 ∧ tk p = tk q
def Bst (tp tk : Nat → Int32) (U : Nat → Nat → Prop) : Option (Nat × Nat) → Prop
  | none => ∀ p q, U p q → ¬ vpr tp tk p q
  | some x => vpr tp tk x.1 x.2 ∧ U x.1 x.2 ∧ ∀ p q, U p q → vpr tp tk p q → (tk x.1).toInt < (tk p).toInt ∨ (tk x.1 = tk p ∧ (x.1 < p ∨ (x.1 = p ∧ x.2 ≤ q)))
theorem Bst.un {tp tk : Nat → Int32} {U : Nat → Nat → Prop} : ∀ {o1 o2 : Option (Nat × Nat)}, Bst tp tk U o1 → Bst tp tk U o2 → o1 = o2
  | none, none, _, _ => rfl
  | none, some x, h1, h2 => absurd h2.1 (h1 _ _ h2.2.1)
  | some x, none, h1, h2 => absurd h1.1 (h2 _ _ h1.2.1)
  | some x, some y, h1, h2 => by
    have a := h1.2.2 _ _ h2.2.1 h2.1
    have b := h2.2.2 _ _ h1.2.1 h1.1
    obtain ⟨x1, x2⟩ := x
    obtain ⟨y1, y2⟩ := y
    dsimp only at a b
    rcases a with a | ⟨a, a2⟩
    · rcases b with b | ⟨b, -⟩
      · omega
      · rw [b] at a
        omega
    · rcases b with b | ⟨-, b2⟩
      · rw [a] at b
        omega
      · have : x1 = y1 ∧ x2 = y2 := by omega
        rw [this.1, this.2]
theorem Bst.cg {tp tk : Nat → Int32} {U V : Nat → Nat → Prop} (h : ∀ p q, vpr tp tk p q → (U p q ↔ V p q)) : ∀ {o : Option (Nat × Nat)}, Bst tp tk U o → Bst tp tk V o
  | none, H => fun p q hv z => H p q ((h p q z).mpr hv) z
  | some x, H => ⟨H.1, (h _ _ H.1).mp H.2.1, fun p q hv z => H.2.2 p q ((h p q z).mpr hv) z⟩
theorem twn_sp : ∀ (t : List Int) (p : Nat) (e : Int), (∀ r, twn t (p + 1) e = some r → ∃ i, r = p + i ∧ i + 1 < (e :: t).length ∧ (e :: t).getD i 0 / 256 = (e :: t).getD (i + 1) 0 / 256 ∧ ∀ j, j < i → ¬ (e :: t).getD j 0 / 256 = (e :: t).getD (j + 1) 0 / 256) ∧ (twn t (p + 1) e = none → ∀ j, j + 1 < (e :: t).length → ¬ (e :: t).getD j 0 / 256 = (e :: t).getD (j + 1) 0 / 256)
  | [], p, e => by
    refine ⟨fun r h => (by cases h), fun _ j hj => ?_⟩
    simp at hj
  | x :: t, p, e => by
    obtain ⟨i1, i2⟩ := twn_sp t (p + 1) x
    unfold twn
    by_cases q : 0 < p + 1 ∧ e / 256 = x / 256
    · rw [if_pos q]
      refine ⟨fun r h => ⟨0, ?_, by simp, q.2, fun j hj => absurd hj (Nat.not_lt_zero _)⟩, fun h => by cases h⟩
      cases h
      rfl
    · rw [if_neg q]
      have q2 : ¬ e / 256 = x / 256 := fun z => q ⟨by omega, z⟩
      refine ⟨fun r h => ?_, fun h j hj => ?_⟩
      · obtain ⟨i, a1, a2, a3, a4⟩ := i1 r h
        refine ⟨i + 1, by omega, by simpa using a2, a3, fun j hj => ?_⟩
        cases j with
        | zero => exact q2
        | succ j => exact a4 j (by omega)
      · cases j with
        | zero => exact q2
        | succ j => exact i2 h j (by simpa using hj)
theorem twn_0 (l : List Int) : (∀ r, twn l 0 0 = some r → r + 1 < l.length ∧ l.getD r 0 / 256 = l.getD (r + 1) 0 / 256 ∧ ∀ j, j < r → ¬ l.getD j 0 / 256 = l.getD (j + 1) 0 / 256) ∧ (twn l 0 0 = none → ∀ j, j + 1 < l.length → ¬ l.getD j 0 / 256 = l.getD (j + 1) 0 / 256) := by
  cases l with
  | nil =>
    refine ⟨fun r h => (by cases h), fun _ j hj => ?_⟩
    simp at hj
  | cons x t =>
    unfold twn
    rw [if_neg (fun z => absurd z.1 (Nat.lt_irrefl _))]
    obtain ⟨i1, i2⟩ := twn_sp t 0 x
    refine ⟨fun r h => ?_, i2⟩
    obtain ⟨i, a1, a2, a3, a4⟩ := i1 r h
    have : r = i := by omega
    subst this
    exact ⟨a2, a3, a4⟩
theorem pw_lt {l : List Int} (h : l.Pairwise (· < ·)) {i j : Nat} (hj : j < l.length) (hi : i < j) : l.getD i 0 < l.getD j 0 := by
  rw [gD_at (by omega), gD_at hj]
  exact List.pairwise_iff_getElem.mp h i j (by omega) hj hi
theorem ix_of {l : List Int} {x : Int} (h : x ∈ l) : ∃ i, i < l.length ∧ l.getD i 0 = x := by
  obtain ⟨i, hi, e⟩ := List.getElem_of_mem h
  exact ⟨i, hi, by rw [gD_at hi]; exact e⟩
theorem vpr_ix {tp tk : Nat → Int32} {l : List Int} (hs : l.Pairwise (· < ·)) (hm : ∀ x, x ∈ l ↔ rowE tp tk x) {p q : Nat} (h : vpr tp tk p q) : ∃ i j, i < j ∧ j < l.length ∧ l.getD i 0 = (tk p).toInt * 256 + p ∧ l.getD j 0 = (tk p).toInt * 256 + q ∧ l.getD i 0 / 256 = l.getD (i + 1) 0 / 256 := by
  obtain ⟨v1, v2, v3, v4, v5⟩ := h
  obtain ⟨i, i1, i2⟩ := ix_of ((hm ((tk p).toInt * 256 + p)).mpr ⟨p, by omega, by omega, v3, by omega⟩)
  obtain ⟨j, j1, j2⟩ := ix_of ((hm ((tk p).toInt * 256 + q)).mpr ⟨q, by omega, by omega, v4, by rw [← v5]; omega⟩)
  have ij : i < j := by
    rcases Nat.lt_trichotomy i j with z | z | z
    · exact z
    · rw [z] at i2
      omega
    · have := pw_lt hs i1 z
      omega
  refine ⟨i, j, ij, j1, i2, j2, ?_⟩
  have a := pw_lt hs (show i + 1 < l.length by omega) (Nat.lt_succ_self i)
  have b : l.getD (i + 1) 0 ≤ l.getD j 0 := by
    by_cases z : i + 1 = j
    · rw [z]
      exact Int.le_refl _
    · have := pw_lt hs j1 (show i + 1 < j by omega)
      omega
  omega
theorem tw_bst {tp tk : Nat → Int32} {l : List Int} (hs : l.Pairwise (· < ·)) (hm : ∀ x, x ∈ l ↔ rowE tp tk x) : (∀ r, twn l 0 0 = some r → r + 1 < l.length ∧ Bst tp tk (fun _ _ => True) (some ((l.getD r 0 % 256).toNat, (l.getD (r + 1) 0 % 256).toNat))) ∧ (twn l 0 0 = none → Bst tp tk (fun _ _ => True) none) := by
  obtain ⟨t1, t2⟩ := twn_0 l
  refine ⟨fun r h => ?_, fun h => fun p q _ hv => ?_⟩
  · obtain ⟨a1, a2, a3⟩ := t1 r h
    have m1 : l.getD r 0 ∈ l := by
      rw [gD_at (show r < l.length by omega)]
      exact List.getElem_mem _
    have m2 : l.getD (r + 1) 0 ∈ l := by
      rw [gD_at a1]
      exact List.getElem_mem _
    obtain ⟨p, p1, p2, p3, p4⟩ := (hm _).mp m1
    obtain ⟨q, q1, q2, q3, q4⟩ := (hm _).mp m2
    have e1 : (l.getD r 0 % 256).toNat = p := by omega
    have e2 : (l.getD (r + 1) 0 % 256).toNat = q := by omega
    have lt := pw_lt hs a1 (Nat.lt_succ_self r)
    rw [e1, e2]
    refine ⟨a1, ⟨by show p < q; omega, q1, p3, q3, ?_⟩, trivial, fun p' q' _ hv => ?_⟩
    · apply Int32.toInt_inj.mp
      show (tk p).toInt = (tk q).toInt
      omega
    · obtain ⟨i, j, ij, jl, i2, j2, i3⟩ := vpr_ix hs hm hv
      have ir : ¬ i < r := fun z => a3 i z i3
      show (tk p).toInt < (tk p').toInt ∨ (tk p = tk p' ∧ (p < p' ∨ (p = p' ∧ q ≤ q')))
      by_cases z : i = r
      · rw [z] at i2
        have k : (tk p).toInt = (tk p').toInt := by
          have := hv.1
          have := hv.2.1
          omega
        refine Or.inr ⟨Int32.toInt_inj.mp k, Or.inr ⟨?_, ?_⟩⟩
        · have := hv.1
          have := hv.2.1
          omega
        · have : l.getD (r + 1) 0 ≤ l.getD j 0 := by
            by_cases y : r + 1 = j
            · rw [y]
              exact Int.le_refl _
            · have := pw_lt hs jl (show r + 1 < j by omega)
              omega
          have := hv.1
          have := hv.2.1
          omega
      · have := pw_lt hs (show i < l.length by omega) (show r < i by omega)
        have := hv.1
        have := hv.2.1
        by_cases k : (tk p).toInt = (tk p').toInt
        · exact Or.inr ⟨Int32.toInt_inj.mp k, Or.inl (by omega)⟩
        · exact Or.inl (by omega)
  · obtain ⟨i, j, ij, jl, i2, j2, i3⟩ := vpr_ix hs hm hv
    exact t2 h i (by omega) i3
