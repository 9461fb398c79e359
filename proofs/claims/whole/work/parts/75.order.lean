/-! ways down a tree whose entries are in order -/
section ORD
variable {S : SR} {rk : Nat → Nat} {e : Int}
theorem lst_hd (O : okS S rk) : ∀ (r m : Nat), ¬ nu S m = 0 → rk m = r → 1 ≤ nz S m → ∃ T, en S r m = lst S r m :: T
  | 0, m, hu, hr, hz => by
    refine ⟨(cont S m).tail, ?_⟩
    unfold en lst cont
    obtain ⟨z, hz2⟩ : ∃ z, nz S m = z + 1 := ⟨nz S m - 1, by omega⟩
    rw [hz2, List.range_succ_eq_map]
    rfl
  | r + 1, m, hu, hr, hz => by
    have OX := okX_of (c := 0) O
    have hv := inn OX hu hr
    obtain ⟨k, k1, k2, k3, k4⟩ := ((O m hu).2.2.2.2 hv).2 0 (by omega)
    obtain ⟨T, hT⟩ := lst_hd O r k k2 (by omega) k4
    have e1 : ∃ R, kids S m = k :: R := by
      unfold kids
      obtain ⟨z, hz2⟩ : ∃ z, nz S m = z + 1 := ⟨nz S m - 1, by omega⟩
      rw [hz2, List.range_succ_eq_map, List.map_cons, k1]
      exact ⟨_, rfl⟩
    obtain ⟨R, hR⟩ := e1
    refine ⟨T ++ R.flatMap (en S r), ?_⟩
    rw [en, hR, List.flatMap_cons, hT, lst, if_neg hv, k1]
    rfl
theorem chg_sp {r n : Nat} : ∀ k, (0 < chg S e r n k → ¬ e < lst S r (nh S n (chg S e r n k)).toNat) ∧ ∀ j, chg S e r n k < j → j ≤ k → e < lst S r (nh S n j).toNat
  | 0 => ⟨fun h => absurd h (Nat.lt_irrefl _), fun j h1 h2 => by
    have : chg S e r n 0 = 0 := rfl
    omega⟩
  | k + 1 => by
    obtain ⟨a, b⟩ := chg_sp (r := r) (n := n) k
    unfold chg
    by_cases h : e < lst S r (nh S n (k + 1)).toNat
    · rw [if_pos h]
      refine ⟨a, fun j h1 h2 => ?_⟩
      by_cases q : j = k + 1
      · rw [q]
        exact h
      · exact b j h1 (by omega)
    · rw [if_neg h]
      exact ⟨fun _ => h, fun j h1 h2 => by omega⟩
/-- what is not under the way down stays -/
theorem pw_off (O : okS S rk) (J : jn S) {S1 : SR} : ∀ (r n : Nat), ¬ nu S n = 0 → rk n = r → (∀ m, m ≠ (pw S e r n).2 → cont S1 m = cont S m) → ∀ m, ¬ nu S m = 0 → rk m = r → m ≠ n → en S1 r m = en S r m
  | 0, n, hu, hr, H, m, um, rm, hne => H m hne
  | r + 1, n, hu, hr, H, m, um, rm, hne => by
    have OX := okX_of (c := 0) O
    have hv := inn OX hu hr
    have ht : chz S e r n < nz S n := by
      have := chg_le S e r n (nz S n - 1)
      have := ((O n hu).2.2.2.2 hv).1
      unfold chz
      omega
    obtain ⟨k, k1, k2, k3, k4⟩ := ((O n hu).2.2.2.2 hv).2 _ ht
    rw [pw, if_neg hv, k1, Int.toNat_natCast] at H
    have H : ∀ m, m ≠ (pw S e r k).2 → cont S1 m = cont S m := H
    have lf := pw_ok (e := e) O r k (by omega) k2
    have hml : m ≠ (pw S e r k).2 := fun q => by
      have := lf.2.2.2.1
      rw [← q] at this
      omega
    unfold en
    rw [kids_cont, H m hml, ← kids_cont]
    apply fm_cg
    intro x hx
    obtain ⟨i, hi⟩ := mem_kids um (inn OX um rm) OX hx
    obtain ⟨y1, y2, -⟩ := hi.ok OX
    refine pw_off O J r k k2 (by omega) H x y1 (by omega) (fun q => ?_)
    rw [q] at hi
    exact hne (J _ _ _ _ _ hi ⟨hu, hv, ht, k1⟩).1
theorem pw_ord (O : okS S rk) (J : jn S) : ∀ (r n : Nat), ¬ nu S n = 0 → rk n = r → (en S r n).Pairwise (· < ·) → ∃ X Y, (∀ x ∈ X, x < e) ∧ (∀ y ∈ Y, e < y) ∧ ∀ S1, (∀ m, m ≠ (pw S e r n).2 → cont S1 m = cont S m) → en S1 r n = X ++ (cont S1 (pw S e r n).2 ++ Y)
  | 0, n, hu, hr, hs => ⟨[], [], fun x hx => absurd hx List.not_mem_nil, fun x hx => absurd hx List.not_mem_nil, fun S1 _ => by
    rw [List.append_nil]
    rfl⟩
  | r + 1, n, hu, hr, hs => by
    have OX := okX_of (c := 0) O
    have hv := inn OX hu hr
    have hz1 := ((O n hu).2.2.2.2 hv).1
    have ht : chz S e r n < nz S n := by
      have := chg_le S e r n (nz S n - 1)
      unfold chz
      omega
    have cs := chg_sp (S := S) (e := e) (r := r) (n := n) (nz S n - 1)
    obtain ⟨k, k1, k2, k3, k4⟩ := ((O n hu).2.2.2.2 hv).2 _ ht
    have hk : KD S n (chz S e r n) k := ⟨hu, hv, ht, k1⟩
    obtain ⟨A, B, a1, a2, a3⟩ := kids_split OX J hk
    have hen : en S (r + 1) n = A.flatMap (en S r) ++ (en S r k ++ B.flatMap (en S r)) := by
      rw [en, a1, List.flatMap_append, List.flatMap_cons]
    rw [hen] at hs
    obtain ⟨s1, s2, s3⟩ := List.pairwise_append.mp hs
    obtain ⟨t1, t2, t3⟩ := List.pairwise_append.mp s2
    obtain ⟨X, Y, x1, x2, x3⟩ := pw_ord O J r k k2 (by omega) t1
    have epw : (pw S e (r + 1) n).2 = (pw S e r k).2 := by
      rw [pw, if_neg hv, k1, Int.toNat_natCast]
    have lf := pw_ok (e := e) O r k (by omega) k2
    refine ⟨A.flatMap (en S r) ++ X, Y ++ B.flatMap (en S r), fun x hx => ?_, fun y hy => ?_, fun S1 H => ?_⟩
    · rw [List.mem_append] at hx
      rcases hx with hx | hx
      · obtain ⟨T, hT⟩ := lst_hd O r k k2 (by omega) k4
        have h1 : x < lst S r k := s3 x hx _ (by rw [hT]; simp)
        have h2 : 0 < chz S e r n := by
          rw [← a2]
          cases A with
          | nil => exact absurd hx (by simp)
          | cons z A => simp
        have h3 := cs.1 h2
        have h4 : (nh S n (chg S e r n (nz S n - 1))).toNat = k := by
          have : nh S n (chg S e r n (nz S n - 1)) = k := k1
          rw [this]
          rfl
        rw [h4] at h3
        omega
      · exact x1 x hx
    · rw [List.mem_append] at hy
      rcases hy with hy | hy
      · exact x2 y hy
      · cases B with
        | nil => exact absurd hy (by simp)
        | cons b B =>
          obtain ⟨i, hi⟩ := (a3 b (Or.inr (List.mem_cons_self ..))).2
          obtain ⟨y1, y2, y3⟩ := hi.ok OX
          have bz : 1 ≤ nz S b := by
            obtain ⟨b', z1, z2, z3, z4⟩ := ((O n hu).2.2.2.2 hv).2 i hi.2.2.1
            have : b' = b := by
              have := hi.2.2.2
              rw [z1] at this
              exact_mod_cast this
            rw [← this]
            exact z4
          have hb : chz S e r n + 1 < nz S n ∧ (nh S n (chz S e r n + 1)).toNat = b := by
            have l1 := kids_len S n
            rw [a1] at l1
            simp at l1
            have l2 : chz S e r n + 1 < nz S n := by omega
            refine ⟨l2, ?_⟩
            rw [← kids_at S l2, a1, ← a2]
            simp
          have h3 := cs.2 (chz S e r n + 1) (Nat.lt_succ_self _) (by omega)
          rw [hb.2] at h3
          obtain ⟨T, hT⟩ := lst_hd O r b y1 (by omega) bz
          rw [List.flatMap_cons, hT] at hy t2
          rw [List.cons_append, List.mem_cons] at hy
          rcases hy with hy | hy
          · rw [hy]
            exact h3
          · have := (List.pairwise_cons.mp t2).1 y hy
            omega
    · rw [epw] at H ⊢
      have hnl : n ≠ (pw S e r k).2 := fun q => by
        have := lf.2.2.2.1
        rw [← q] at this
        omega
      have off := pw_off O J r k k2 (by omega) H
      rw [en, kids_cont, H n hnl, ← kids_cont, a1, List.flatMap_append, List.flatMap_cons, x3 S1 H, fm_cg (l := A) (g := en S r) (fun x hx => ?_), fm_cg (l := B) (g := en S r) (fun x hx => ?_)]
      · simp only [List.append_assoc]
      · obtain ⟨z1, i, z2⟩ := a3 x (Or.inr hx)
        obtain ⟨y1, y2, -⟩ := z2.ok OX
        exact off x y1 (by omega) z1
      · obtain ⟨z1, i, z2⟩ := a3 x (Or.inl hx)
        obtain ⟨y1, y2, -⟩ := z2.ok OX
        exact off x y1 (by omega) z1
theorem wyP_cons {p : List (Nat × Nat)} {n t κ : Nat} (h0 : KD S n t κ) : ∀ k c, wyP S p κ k c → wyP S ((n, t) :: p) n (k + 1) c
  | 0, c, h => ⟨by
    have h : c = κ := h
    rw [h]
    exact h0, rfl⟩
  | k + 1, c, h => ⟨h.1, wyP_cons h0 k _ h.2⟩
theorem pw_wyP (O : okS S rk) : ∀ (r n : Nat), ¬ nu S n = 0 → rk n = r → wyP S (pw S e r n).1 n r (pw S e r n).2
  | 0, n, hu, hr => rfl
  | r + 1, n, hu, hr => by
    have OX := okX_of (c := 0) O
    have hv := inn OX hu hr
    have hz1 := ((O n hu).2.2.2.2 hv).1
    have ht : chz S e r n < nz S n := by
      have := chg_le S e r n (nz S n - 1)
      unfold chz
      omega
    obtain ⟨k, k1, k2, k3, k4⟩ := ((O n hu).2.2.2.2 hv).2 _ ht
    rw [pw, if_neg hv, k1, Int.toNat_natCast]
    exact wyP_cons ⟨hu, hv, ht, k1⟩ r _ (pw_wyP O r k k2 (by omega))
/-- where an entry comes to in a leaf -/
theorem psn_sp (f : Nat → Int) : ∀ z, (0 < psn f e z → ¬ e < f (psn f e z - 1)) ∧ ∀ j, psn f e z ≤ j → j < z → e < f j
  | 0 => ⟨fun h => absurd h (Nat.lt_irrefl _), fun j h1 h2 => by omega⟩
  | z + 1 => by
    obtain ⟨a, b⟩ := psn_sp f z
    unfold psn
    by_cases h : e < f z
    · rw [if_pos h]
      refine ⟨a, fun j h1 h2 => ?_⟩
      by_cases q : j = z
      · rw [q]
        exact h
      · exact b j h1 (by omega)
    · rw [if_neg h]
      exact ⟨fun _ => h, fun j h1 h2 => by omega⟩
theorem psL_sp (f : Nat → Int) : ∀ d i, (∀ j, i ≤ j → j < psL f e d i → f j < e) ∧ (psL f e d i < i + d → ¬ f (psL f e d i) < e)
  | 0, i => ⟨fun j h1 h2 => by
    have : psL f e 0 i = i := rfl
    omega, fun h => by
    have : psL f e 0 i = i := rfl
    omega⟩
  | d + 1, i => by
    obtain ⟨a, b⟩ := psL_sp f d (i + 1)
    unfold psL
    by_cases h : f i < e
    · rw [if_pos h]
      refine ⟨fun j h1 h2 => ?_, fun h1 => b (by omega)⟩
      by_cases q : j = i
      · rw [q]
        exact h
      · exact a j (by omega) h2
    · rw [if_neg h]
      exact ⟨fun j h1 h2 => by omega, fun _ => h⟩
theorem psn_psL {f : Nat → Int} {z : Nat} (hs : ∀ i j, i < j → j < z → f i < f j) (hn : ∀ i, i < z → f i ≠ e) : psL f e z 0 = psn f e z ∧ (∀ j, j < psn f e z → f j < e) ∧ ∀ j, psn f e z ≤ j → j < z → e < f j := by
  obtain ⟨a, b⟩ := psn_sp (e := e) f z
  obtain ⟨c, d⟩ := psL_sp (e := e) f z 0
  have l1 := psn_le f e z
  have l2 := psL_le f e z 0
  have a2 : ∀ j, j < psn f e z → f j < e := by
    intro j hj
    have h1 := a (by omega)
    have h2 := hn (psn f e z - 1) (by omega)
    by_cases q : j = psn f e z - 1
    · rw [q]
      omega
    · have := hs j (psn f e z - 1) (by omega) (by omega)
      omega
  refine ⟨?_, a2, b⟩
  by_cases q1 : psL f e z 0 < psn f e z
  · have := a2 _ q1
    have := d (by omega)
    omega
  · by_cases q2 : psn f e z < psL f e z 0
    · have := c (psn f e z) (by omega) q2
      have := b (psn f e z) (Nat.le_refl _) (by omega)
      omega
    · omega
end ORD
