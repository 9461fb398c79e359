/-! sorting, purely -/
theorem insr_at {e : Int} : ∀ (l : List Int) (a : Nat), a ≤ l.length → (∀ x ∈ l.take a, ¬ e < x) → (∀ x ∈ l.drop a, e < x) → insr e l = l.take a ++ e :: l.drop a
  | [], a, h, h1, h2 => by
    have : a = 0 := by simpa using h
    subst this
    rfl
  | x :: t, 0, h, h1, h2 => by
    unfold insr
    rw [if_pos (h2 x (by simp))]
    rfl
  | x :: t, a + 1, h, h1, h2 => by
    unfold insr
    rw [if_neg (h1 x (by simp)), insr_at t a (by simpa using h) (fun y hy => h1 y (by simp [hy])) (fun y hy => h2 y (by simpa using hy))]
    rfl
theorem insr_mem {e x : Int} : ∀ l : List Int, x ∈ insr e l ↔ x = e ∨ x ∈ l
  | [] => by simp [insr]
  | y :: t => by
    unfold insr
    split
    · simp
    · rw [List.mem_cons, insr_mem t, List.mem_cons]
      constructor
      · rintro (h | h | h)
        · exact Or.inr (Or.inl h)
        · exact Or.inl h
        · exact Or.inr (Or.inr h)
      · rintro (h | h | h)
        · exact Or.inr (Or.inl h)
        · exact Or.inl h
        · exact Or.inr (Or.inr h)
theorem insr_len {e : Int} : ∀ l : List Int, (insr e l).length = l.length + 1
  | [] => rfl
  | y :: t => by
    unfold insr
    split
    · rfl
    · rw [List.length_cons, insr_len t, List.length_cons]
theorem insr_pw {e : Int} : ∀ l : List Int, l.Pairwise (· < ·) → e ∉ l → (insr e l).Pairwise (· < ·)
  | [], _, _ => by simp [insr]
  | y :: t, h, hn => by
    rw [List.pairwise_cons] at h
    unfold insr
    split
    · rename_i q
      rw [List.pairwise_cons, List.pairwise_cons]
      refine ⟨fun x hx => ?_, h⟩
      rcases List.mem_cons.mp hx with e2 | e2
      · omega
      · have := h.1 x e2
        omega
    · rename_i q
      rw [List.pairwise_cons]
      refine ⟨fun x hx => ?_, insr_pw t h.2 (fun z => hn (List.mem_cons_of_mem _ z))⟩
      rw [insr_mem] at hx
      rcases hx with e2 | e2
      · have : ¬ e = y := fun z => hn (by rw [z]; exact List.mem_cons_self)
        omega
      · exact h.1 x e2
theorem isr_snoc {e : Int} : ∀ (l acc : List Int), isr acc (l ++ [e]) = insr e (isr acc l)
  | [], acc => rfl
  | x :: t, acc => isr_snoc t (insr x acc)
theorem isort_snoc {e : Int} (l : List Int) : isort (l ++ [e]) = insr e (isort l) := isr_snoc l []
theorem isr_mem {x : Int} : ∀ (l acc : List Int), x ∈ isr acc l ↔ x ∈ acc ∨ x ∈ l
  | [], acc => by simp [isr]
  | y :: t, acc => by
    unfold isr
    rw [isr_mem t, insr_mem, List.mem_cons]
    constructor
    · rintro ((h | h) | h)
      · exact Or.inr (Or.inl h)
      · exact Or.inl h
      · exact Or.inr (Or.inr h)
    · rintro (h | h | h)
      · exact Or.inl (Or.inr h)
      · exact Or.inl (Or.inl h)
      · exact Or.inr h
theorem isr_len : ∀ (l acc : List Int), (isr acc l).length = acc.length + l.length
  | [], acc => rfl
  | y :: t, acc => by
    unfold isr
    rw [isr_len t, insr_len, List.length_cons]
    omega
theorem isr_pw : ∀ (l acc : List Int), acc.Pairwise (· < ·) → (acc ++ l).Nodup → (isr acc l).Pairwise (· < ·)
  | [], acc, h, _ => h
  | y :: t, acc, h, hn => by
    unfold isr
    rw [List.nodup_append] at hn
    obtain ⟨n1, n2, n3⟩ := hn
    rw [List.nodup_cons] at n2
    refine isr_pw t _ (insr_pw acc h (fun z => n3 y z y List.mem_cons_self rfl)) ?_
    rw [List.nodup_append]
    refine ⟨(insr_pw acc h (fun z => n3 y z y List.mem_cons_self rfl)).imp (fun q e2 => by omega), n2.2, fun a ha b hb e2 => ?_⟩
    rw [insr_mem] at ha
    rcases ha with ha | ha
    · rw [← e2, ha] at hb
      exact n2.1 hb
    · exact n3 a ha b (List.mem_cons_of_mem _ hb) e2
theorem isort_mem {x : Int} (l : List Int) : x ∈ isort l ↔ x ∈ l := by
  unfold isort
  rw [isr_mem]
  simp
theorem isort_len (l : List Int) : (isort l).length = l.length := by
  unfold isort
  rw [isr_len]
  simp
theorem isort_pw {l : List Int} (h : l.Nodup) : (isort l).Pairwise (· < ·) := isr_pw l [] List.Pairwise.nil (by simpa using h)
theorem srt_ext : ∀ (a b : List Int), a.Pairwise (· < ·) → b.Pairwise (· < ·) → (∀ x, x ∈ a ↔ x ∈ b) → a = b
  | [], [], _, _, _ => rfl
  | [], y :: t, _, _, h => absurd ((h y).mpr List.mem_cons_self) (by simp)
  | x :: s, [], _, _, h => absurd ((h x).mp List.mem_cons_self) (by simp)
  | x :: s, y :: t, h1, h2, h => by
    rw [List.pairwise_cons] at h1 h2
    have exy : x = y := by
      have a1 := (h x).mp List.mem_cons_self
      have a2 := (h y).mpr List.mem_cons_self
      rcases List.mem_cons.mp a1 with e | e
      · exact e
      · rcases List.mem_cons.mp a2 with e2 | e2
        · exact e2.symm
        · have := h1.1 y e2
          have := h2.1 x e
          omega
    subst exy
    rw [srt_ext s t h1.2 h2.2 (fun z => ?_)]
    constructor
    · intro hz
      have := h1.1 z hz
      rcases List.mem_cons.mp ((h z).mp (List.mem_cons_of_mem _ hz)) with e | e
      · omega
      · exact e
    · intro hz
      have := h2.1 z hz
      rcases List.mem_cons.mp ((h z).mpr (List.mem_cons_of_mem _ hz)) with e | e
      · omega
      · exact e
def mrg : List Int → List Int → List Int
  | [], r => r
  | x :: l, [] => x :: l
  | x :: l, y :: r => if x < y then x :: mrg l (y :: r) else y :: mrg (x :: l) r
termination_by a b => a.length + b.length
theorem mrg_nil (l : List Int) : mrg l [] = l := by
  cases l <;> (unfold mrg; rfl)
theorem mrg_mem {z : Int} : ∀ (n : Nat) (a b : List Int), a.length + b.length = n → (z ∈ mrg a b ↔ z ∈ a ∨ z ∈ b) := by
  intro n
  induction n with
  | zero =>
    intro a b h
    have h1 : a = [] := List.eq_nil_of_length_eq_zero (by omega)
    have h2 : b = [] := List.eq_nil_of_length_eq_zero (by omega)
    subst h1 h2
    rw [mrg_nil]
    simp
  | succ n ih =>
    intro a b h
    cases a with
    | nil =>
      unfold mrg
      simp
    | cons x l =>
      cases b with
      | nil =>
        rw [mrg_nil]
        simp
      | cons y r =>
        unfold mrg
        rw [List.length_cons, List.length_cons] at h
        split
        · rw [List.mem_cons, ih l (y :: r) (by rw [List.length_cons]; omega), List.mem_cons (a := z) (b := x), or_assoc]
        · rw [List.mem_cons, ih (x :: l) r (by rw [List.length_cons]; omega), List.mem_cons (a := z) (b := y)]
          constructor
          · rintro (h | h | h)
            · exact Or.inr (Or.inl h)
            · exact Or.inl h
            · exact Or.inr (Or.inr h)
          · rintro (h | h | h)
            · exact Or.inr (Or.inl h)
            · exact Or.inl h
            · exact Or.inr (Or.inr h)
theorem mrg_pw : ∀ (n : Nat) (a b : List Int), a.length + b.length = n → a.Pairwise (· < ·) → b.Pairwise (· < ·) → (∀ x ∈ a, x ∉ b) → (mrg a b).Pairwise (· < ·) := by
  intro n
  induction n with
  | zero =>
    intro a b h _ _ _
    have h1 : a = [] := List.eq_nil_of_length_eq_zero (by omega)
    have h2 : b = [] := List.eq_nil_of_length_eq_zero (by omega)
    subst h1 h2
    rw [mrg_nil]
    exact List.Pairwise.nil
  | succ n ih =>
    intro a b h ha hb hd
    cases a with
    | nil =>
      unfold mrg
      exact hb
    | cons x l =>
      cases b with
      | nil =>
        rw [mrg_nil]
        exact ha
      | cons y r =>
        have ha2 := List.pairwise_cons.mp ha
        have hb2 := List.pairwise_cons.mp hb
        unfold mrg
        rw [List.length_cons, List.length_cons] at h
        split
        · rename_i q
          rw [List.pairwise_cons]
          refine ⟨fun z hz => ?_, ih l (y :: r) (by rw [List.length_cons]; omega) ha2.2 hb (fun z hz => hd z (List.mem_cons_of_mem _ hz))⟩
          rw [mrg_mem _ _ _ rfl] at hz
          rcases hz with hz | hz
          · exact ha2.1 z hz
          · rcases List.mem_cons.mp hz with e | e
            · omega
            · have := hb2.1 z e
              omega
        · rename_i q
          have ne : ¬ x = y := fun e => hd x List.mem_cons_self (by rw [e]; exact List.mem_cons_self)
          rw [List.pairwise_cons]
          refine ⟨fun z hz => ?_, ih (x :: l) r (by rw [List.length_cons]; omega) ha hb2.2 (fun z hz hz2 => hd z hz (List.mem_cons_of_mem _ hz2))⟩
          rw [mrg_mem _ _ _ rfl] at hz
          rcases hz with hz | hz
          · rcases List.mem_cons.mp hz with e | e
            · omega
            · have := ha2.1 z e
              omega
          · exact hb2.1 z hz
theorem mrg_isort {a b : List Int} (ha : a.Pairwise (· < ·)) (hb : b.Pairwise (· < ·)) (hn : (a ++ b).Nodup) : mrg a b = isort (a ++ b) := by
  rw [List.nodup_append] at hn
  refine srt_ext _ _ (mrg_pw _ _ _ rfl ha hb (fun x h1 h2 => hn.2.2 x h1 x h2 rfl)) (isort_pw (by rw [List.nodup_append]; exact hn)) (fun x => ?_)
  rw [mrg_mem _ _ _ rfl, isort_mem, List.mem_append]
