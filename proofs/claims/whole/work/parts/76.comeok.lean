/-! an entry comes to a tree -/
theorem ins_pw {A B : List Int} {e : Int} (h : (A ++ B).Pairwise (· < ·)) (h1 : ∀ a ∈ A, a < e) (h2 : ∀ b ∈ B, e < b) : (A ++ e :: B).Pairwise (· < ·) := by
  obtain ⟨a, b, c⟩ := List.pairwise_append.mp h
  rw [List.pairwise_append, List.pairwise_cons]
  refine ⟨a, ⟨h2, b⟩, fun x hx y hy => ?_⟩
  rw [List.mem_cons] at hy
  rcases hy with hy | hy
  · rw [hy]
    exact h1 x hx
  · exact c x hx y hy
section CMO
variable {S S1 : SR} {rk : Nat → Nat} {n l : Nat} {e : Int}
theorem lf_KD (hv : nv S l = 0) (e1 : nu S1 = nu S) (e2 : nv S1 = nv S) (e3 : ∀ m, m ≠ l → nz S1 m = nz S m) (e4 : ∀ m, m ≠ l → nh S1 m = nh S m) (a i k : Nat) : KD S1 a i k ↔ KD S a i k := by
  unfold KD
  rw [e1, e2]
  by_cases q : a = l
  · rw [q]
    exact ⟨fun h => absurd hv h.2.1, fun h => absurd hv h.2.1⟩
  · rw [e3 a q, e4 a q]
theorem lf_TX (H : TI S rk n) (hl : ¬ nu S l = 0) (hv : nv S l = 0) (e1 : nu S1 = nu S) (e2 : nv S1 = nv S) (e3 : ∀ m, m ≠ l → nz S1 m = nz S m) (e4 : ∀ m, m ≠ l → nh S1 m = nh S m) (h9 : nz S1 l ≤ 9) : TX S1 rk n l := by
  obtain ⟨O, hu, J, P, R, -⟩ := H
  have K := lf_KD hv e1 e2 e3 e4
  refine ⟨?_, by rw [e1]; exact hu, fun a b i j k h1 h2 => J a b i j k ((K _ _ _).mp h1) ((K _ _ _).mp h2), ?_, ?_⟩
  · intro m hm
    rw [e1] at hm
    obtain ⟨o1, o2, o3, o4, o5⟩ := O m hm
    rw [e2]
    refine ⟨o1, ?_, fun q => ?_, o3, o4, fun hv2 => ?_⟩
    · by_cases q : m = l
      · rw [q]
        exact h9
      · rw [e3 m q]
        omega
    · rw [e3 m q]
      exact o2
    · have q : m ≠ l := fun z => by
        rw [z] at hv2
        exact hv2 hv
      obtain ⟨x1, x2⟩ := o5 hv2
      obtain ⟨y, -, -, y3, -⟩ := x2 0 (by omega)
      rw [e3 m q, e4 m q, e1]
      refine ⟨by omega, fun _ => x1, fun i hi => ?_⟩
      obtain ⟨k, k1, k2, k3, k4⟩ := x2 i hi
      exact ⟨k, k1, k2, k3, fun z => by rw [e3 k z]; exact k4⟩
  · intro m hm
    rw [e1] at hm
    rcases P m hm with h | ⟨a, i, h⟩
    · exact Or.inl h
    · exact Or.inr ⟨a, i, (K _ _ _).mpr h⟩
  · intro m hm
    rw [e1] at hm
    exact R m hm
theorem lf_wyP {p : List (Nat × Nat)} (hv : nv S l = 0) (e1 : nu S1 = nu S) (e2 : nv S1 = nv S) (e3 : ∀ m, m ≠ l → nz S1 m = nz S m) (e4 : ∀ m, m ≠ l → nh S1 m = nh S m) : ∀ k c, wyP S p n k c → wyP S1 p n k c
  | 0, c, h => h
  | k + 1, c, h => ⟨(lf_KD hv e1 e2 e3 e4 _ _ _).mpr h.1, lf_wyP hv e1 e2 e3 e4 k _ h.2⟩
theorem nh_sorted (h : (cont S l).Pairwise (· < ·)) : ∀ i j, i < j → j < nz S l → nh S l i < nh S l j := by
  intro i j hij hj
  rw [List.pairwise_iff_getElem] at h
  have := h i j (by rw [cont_len]; omega) (by rw [cont_len]; omega) hij
  rw [cont_at, cont_at] at this
  exact this
theorem mem_cont {x : Int} : x ∈ cont S l ↔ ∃ i, i < nz S l ∧ nh S l i = x := by
  unfold cont
  rw [List.mem_map]
  constructor
  · rintro ⟨i, h1, h2⟩
    exact ⟨i, List.mem_range.mp h1, h2⟩
  · rintro ⟨i, h1, h2⟩
    exact ⟨i, List.mem_range.mpr h1, h2⟩
theorem come_ok (H : TI S rk n) (hr : rk n ≤ 8) (hs : (en S (rk n) n).Pairwise (· < ·)) (he : e ∉ en S (rk n) n) {p : List (Nat × Nat)} (hp : pw S e (rk n) n = (p, l)) :
    psL (nh S l) e (nz S l) 0 = psn (nh S l) e (nz S l) ∧ (cn (nu S) 64 + nq p S (rk n) (nz S l + 1) ≤ 64 → suK 80 p (rk n) l (pIn l (psn (nh S l) e (nz S l)) e S) = suK 64 p (rk n) l (pIn l (psn (nh S l) e (nz S l)) e S) ∧ ∃ rk', TI (suK 64 p (rk n) l (pIn l (psn (nh S l) e (nz S l)) e S)).1 rk' ((suK 64 p (rk n) l (pIn l (psn (nh S l) e (nz S l)) e S)).2.getD n) ∧ rk' ((suK 64 p (rk n) l (pIn l (psn (nh S l) e (nz S l)) e S)).2.getD n) ≤ 8 ∧
      ∃ E', en (suK 64 p (rk n) l (pIn l (psn (nh S l) e (nz S l)) e S)).1 (rk' ((suK 64 p (rk n) l (pIn l (psn (nh S l) e (nz S l)) e S)).2.getD n)) ((suK 64 p (rk n) l (pIn l (psn (nh S l) e (nz S l)) e S)).2.getD n) = E' ∧ E'.Pairwise (· < ·) ∧ (∀ x, x ∈ E' ↔ x = e ∨ x ∈ en S (rk n) n) ∧ E'.length = (en S (rk n) n).length + 1) := by
  have O := H.1
  have hu := H.2.1
  have lf := pw_ok (e := e) O (rk n) n rfl hu
  have wp := pw_wyP (e := e) O (rk n) n hu rfl
  obtain ⟨X, Y, x1, x2, x3⟩ := pw_ord (e := e) O H.2.2.1 (rk n) n hu rfl hs
  have pl : ∀ j, j < rk n → (p.getD j (0, 0)).1 ≠ l := by
    intro j hj
    have := (lf.2.2.2.2 j hj).2.1
    rw [hp] at this
    intro q
    have this : ¬ nv S (p.getD j (0, 0)).1 = 0 := this
    rw [q] at this
    have l3 := lf.2.2.1
    rw [hp] at l3
    exact this l3
  rw [hp] at lf wp x3
  obtain ⟨l1, l2, l3, l4, l5⟩ := lf
  have l2 : ¬ nu S l = 0 := l2
  have l3 : nv S l = 0 := l3
  have l4 : rk l = 0 := l4
  have wp : wyP S p n (rk n) l := wp
  have x3 : ∀ S1, (∀ m, m ≠ l → cont S1 m = cont S m) → en S1 (rk n) n = X ++ (cont S1 l ++ Y) := x3
  have eS := x3 S (fun _ _ => rfl)
  have cs : (cont S l).Pairwise (· < ·) := by
    rw [eS] at hs
    exact (List.pairwise_append.mp (List.pairwise_append.mp hs).2.1).1
  have hne : ∀ i, i < nz S l → nh S l i ≠ e := by
    intro i hi q
    apply he
    rw [eS, List.mem_append, List.mem_append]
    exact Or.inr (Or.inl (mem_cont.mpr ⟨i, hi, q⟩))
  obtain ⟨q1, q2, q3⟩ := psn_psL (nh_sorted cs) hne
  refine ⟨q1, fun hc => ?_⟩
  have hi : psn (nh S l) e (nz S l) ≤ nz S l := psn_le _ _ _
  generalize psn (nh S l) e (nz S l) = i at hi q2 q3 ⊢
  have z8 := (O l l2).2.1
  have e3 : ∀ m, m ≠ l → nz (pIn l i e S) m = nz S m := fun m hm => va_up_ne _ _ hm
  have e4 : ∀ m, m ≠ l → nh (pIn l i e S) m = nh S m := fun m hm => va_up_ne _ _ hm
  have ez : nz (pIn l i e S) l = nz S l + 1 := va_up_self _ _ _
  have HX : TX (pIn l i e S) rk n l := lf_TX H l2 l3 rfl rfl e3 e4 (by rw [ez]; omega)
  have hne2 : (¬ nv (pIn l i e S) n = 0 → 2 ≤ nz (pIn l i e S) n) := by
    intro hv
    have hv : ¬ nv S n = 0 := hv
    rw [e3 n (fun q => by rw [q] at hv; exact hv l3)]
    exact H.2.2.2.2.2 hv
  have nqe : nq p (pIn l i e S) (rk n) (nz (pIn l i e S) l) = nq p S (rk n) (nz S l + 1) := by
    rw [ez]
    exact nq_cg _ _ (fun j hj => e3 _ (pl j hj))
  obtain ⟨s1, rk', s2, s3, s4⟩ := su_ok (p := p) (n := n) (rk n) l (pIn l i e S) rk HX l2 (by rw [ez]; omega) hne2 (lf_wyP (S1 := pIn l i e S) l3 rfl rfl e3 e4 _ _ wp) (by rw [nqe]; exact hc)
  refine ⟨s1, rk', s2, s4 hr, _, rfl, ?_⟩
  rw [s3, x3 (pIn l i e S) (fun m hm => by rw [cont_pIn hi, if_neg hm]), cont_pIn hi, if_pos rfl]
  have e5 : X ++ (List.take i (cont S l) ++ e :: List.drop i (cont S l) ++ Y) = (X ++ List.take i (cont S l)) ++ e :: (List.drop i (cont S l) ++ Y) := by
    simp only [List.append_assoc, List.cons_append]
  have e6 : en S (rk n) n = (X ++ List.take i (cont S l)) ++ (List.drop i (cont S l) ++ Y) := by
    rw [eS, List.append_assoc, ← List.append_assoc (List.take i _), List.take_append_drop]
  have tA : ∀ a ∈ List.take i (cont S l), a < e := by
    intro a ha
    obtain ⟨j, hj, ej⟩ := List.mem_iff_getElem.mp ha
    rw [List.getElem_take, cont_at] at ej
    rw [List.length_take, cont_len] at hj
    rw [← ej]
    exact q2 j (by omega)
  have tB : ∀ b ∈ List.drop i (cont S l), e < b := by
    intro b hb
    obtain ⟨j, hj, ej⟩ := List.mem_iff_getElem.mp hb
    rw [List.getElem_drop, cont_at] at ej
    rw [List.length_drop, cont_len] at hj
    rw [← ej]
    exact q3 (i + j) (by omega) (by omega)
  rw [e5]
  refine ⟨ins_pw (by rw [← e6]; exact hs) (fun a ha => ?_) (fun b hb => ?_), fun x => ?_, ?_⟩
  · rw [List.mem_append] at ha
    exact ha.elim (x1 a) (tA a)
  · rw [List.mem_append] at hb
    exact hb.elim (tB b) (x2 b)
  · rw [e6]
    simp only [List.mem_append, List.mem_cons]
    constructor
    · rintro ((h | h) | h | h | h)
      · exact Or.inr (Or.inl (Or.inl h))
      · exact Or.inr (Or.inl (Or.inr h))
      · exact Or.inl h
      · exact Or.inr (Or.inr (Or.inl h))
      · exact Or.inr (Or.inr (Or.inr h))
    · rintro (h | (h | h) | h | h)
      · exact Or.inr (Or.inl h)
      · exact Or.inl (Or.inl h)
      · exact Or.inl (Or.inr h)
      · exact Or.inr (Or.inr (Or.inl h))
      · exact Or.inr (Or.inr (Or.inr h))
  · rw [e6]
    simp only [List.length_append, List.length_cons]
    omega
end CMO
