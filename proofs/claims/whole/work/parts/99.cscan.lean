/-! the class: a page is scanned, runs are merged -/
theorem ins_arr {P : Nat → Int → Prop} {l : List Int} {k : Nat} {e : Int} (hs : l.Pairwise (· < ·)) (hk : k ≤ l.length) (h1 : ∀ i, i < k → P i (l.getD i 0)) (h2 : P k e) (h3 : ∀ i, k < i → i ≤ l.length → P i (l.getD (i - 1) 0)) (g : ∀ j, k ≤ j → j < l.length → e < l.getD j 0) (b : 0 < k → ¬ e < l.getD (k - 1) 0) : ∀ i, i < l.length + 1 → P i ((insr e l).getD i 0) := by
  have a1 : ∀ x ∈ l.take k, ¬ e < x := by
    intro x hx
    obtain ⟨j, hj, ej⟩ := List.getElem_of_mem hx
    rw [List.length_take] at hj
    rw [List.getElem_take] at ej
    have b2 := b (by omega)
    by_cases q : j = k - 1
    · rw [gD_at (show k - 1 < l.length by omega)] at b2
      subst q
      rw [← ej]
      exact b2
    · have := pw_lt hs (show k - 1 < l.length by omega) (show j < k - 1 by omega)
      rw [gD_at (show j < l.length by omega), ej] at this
      omega
  have a2 : ∀ x ∈ l.drop k, e < x := by
    intro x hx
    obtain ⟨j, hj, ej⟩ := List.getElem_of_mem hx
    rw [List.length_drop] at hj
    rw [List.getElem_drop] at ej
    have := g (k + j) (by omega) (by omega)
    rw [gD_at (show k + j < l.length by omega), ej] at this
    exact this
  rw [insr_at l k hk a1 a2]
  intro i hi
  have tl : (l.take k).length = k := by
    rw [List.length_take]
    omega
  rcases Nat.lt_trichotomy i k with q | q | q
  · have : (l.take k ++ e :: l.drop k).getD i 0 = l.getD i 0 := by
      rw [List.getD_eq_getElem?_getD, List.getElem?_append_left (by omega), List.getElem?_take, if_pos q, ← List.getD_eq_getElem?_getD]
    rw [this]
    exact h1 i q
  · have : (l.take k ++ e :: l.drop k).getD i 0 = e := by
      rw [List.getD_eq_getElem?_getD, List.getElem?_append_right (by omega), tl, q, Nat.sub_self]
      rfl
    rw [this, q]
    exact h2
  · have : (l.take k ++ e :: l.drop k).getD i 0 = l.getD (i - 1) 0 := by
      rw [List.getD_eq_getElem?_getD, List.getElem?_append_right (by omega), tl, show i - k = (i - 1 - k) + 1 by omega, List.getElem?_cons_succ, List.getElem?_drop, show k + (i - 1 - k) = i - 1 by omega, ← List.getD_eq_getElem?_getD]
    rw [this]
    exact h3 i q (by omega)
section CSC
variable {h : Hp} {Q : Option AV → Hp → Prop} {cl : List (List Int)} {op : List Int} {e : Int}
theorem c_pick_18 {x : Int64} {l : List Int} (hx : x.toInt = e) (hs : l.Pairwise (· < ·)) (hl : l.length < 36) : ∀ (k : Nat) (h : Hp), k ≤ l.length → (∀ i, i < k → (h.2.1 8 i).toInt = l.getD i 0) → (∀ i, k < i → i ≤ l.length → (h.2.1 8 i).toInt = l.getD (i - 1) 0) → (∀ j, k ≤ j → j < l.length → e < l.getD j 0) →
    (∀ h', fr [7, 8] h h' → h'.1 7 = upd (h.1 7) 1 (h.1 7 1 + 1) → (∀ i, i < l.length + 1 → (h'.2.1 8 i).toInt = (insr e l).getD i 0) → Q none h') → Ev mX3_pick 18 [(0, vR 7), (1, vL x), (3, vI (nI k))] [] h Q := by
  intro k
  induction k with
  | zero =>
    intro h hk h1 h3 g K
    apply sX3_pick_18
    refine ⟨fun _ => ?_, fun z => absurd (by decide) z⟩
    apply sX3_pick_55
    refine ⟨(nt_vp (a := 0) (n := 36) (by decide) (by decide)).mpr (by decide), ?_⟩
    rintro h4 e4 h5 e5
    refine K h5 (by rw [e5, e4]; (repeat first | exact fr.rf | refine fr.sI ?_ (by decide) _ | refine fr.sJ ?_ (by decide) _ | refine fr.sW ?_ (by decide) _ _)) (by rw [e5, e4]; simp (disch := decide) only [sI_at, sI_ne, sI_21, sI_22, sJ_1, sJ_at, sJ_ne, sJ_22, sW_1, sW_21, upd_at, upd_ne]) ?_
    refine ins_arr (P := fun i y => (h5.2.1 8 i).toInt = y) (k := 0) hs (Nat.zero_le _) (fun i hi => absurd hi (Nat.not_lt_zero _)) ?_ (fun i i1 i2 => ?_) g (fun z => absurd z (Nat.lt_irrefl _))
    · rw [e5, e4]
      simp (disch := decide) only [sI_at, sI_ne, sI_21, sI_22, sJ_1, sJ_at, sJ_ne, sJ_22, sW_1, sW_21, upd_at, upd_ne]
      show (vp_updL (h.2.1 8) 0 x 0).toInt = e
      rw [uL_at]
      exact hx
    · rw [e5, e4]
      simp (disch := decide) only [sI_at, sI_ne, sI_21, sI_22, sJ_1, sJ_at, sJ_ne, sJ_22, sW_1, sW_21, upd_at, upd_ne]
      show (vp_updL (h.2.1 8) 0 x i).toInt = _
      rw [uL_ne _ _ (by omega)]
      exact h3 i i1 i2
  | succ k ih =>
    intro h hk h1 h3 g K
    have fin : ¬ e < l.getD k 0 → Ev mX3_pick 55 [(0, vR 7), (1, vL x), (3, vI (nI (k + 1)))] [] h Q := by
      intro b
      apply sX3_pick_55
      simp (disch := omega) only [nt_le, nt_lt, nt_eq, nt_cl, nt_vp, nI_add, lu_le, lu_lt, lu_eq, ul_le, ul_lt, ul_eq, lu_add, ul_add, lu_sub, lu_mul, ul_mul, nt_sub, nt_m1]
      refine ⟨by omega, ?_⟩
      rintro h4 e4 h5 e5
      refine K h5 (by rw [e5, e4]; (repeat first | exact fr.rf | refine fr.sI ?_ (by decide) _ | refine fr.sJ ?_ (by decide) _ | refine fr.sW ?_ (by decide) _ _)) (by rw [e5, e4]; simp (disch := decide) only [sI_at, sI_ne, sI_21, sI_22, sJ_1, sJ_at, sJ_ne, sJ_22, sW_1, sW_21, upd_at, upd_ne]) ?_
      refine ins_arr (P := fun i y => (h5.2.1 8 i).toInt = y) (k := k + 1) hs hk (fun i hi => ?_) ?_ (fun i i1 i2 => ?_) g (fun _ => by rw [show k + 1 - 1 = k by omega]; exact b)
      · rw [e5, e4]
        simp (disch := decide) only [sI_at, sI_ne, sI_21, sI_22, sJ_1, sJ_at, sJ_ne, sJ_22, sW_1, sW_21, upd_at, upd_ne]
        rw [uL_ne _ _ (by omega)]
        exact h1 i hi
      · rw [e5, e4]
        simp (disch := decide) only [sI_at, sI_ne, sI_21, sI_22, sJ_1, sJ_at, sJ_ne, sJ_22, sW_1, sW_21, upd_at, upd_ne]
        rw [uL_at]
        exact hx
      · rw [e5, e4]
        simp (disch := decide) only [sI_at, sI_ne, sI_21, sI_22, sJ_1, sJ_at, sJ_ne, sJ_22, sW_1, sW_21, upd_at, upd_ne]
        rw [uL_ne _ _ (by omega)]
        exact h3 i i1 i2
    apply sX3_pick_18
    have s1 : nI (k + 1) - 1 = nI k := lu_sub (k := 1) (a := k + 1) (show 1 ≤ k + 1 by omega)
    rw [s1]
    simp (disch := omega) only [nt_le, nt_lt, nt_eq, nt_cl, nt_vp, nI_add, lu_le, lu_lt, lu_eq, ul_le, ul_lt, ul_eq, lu_add, ul_add, lu_sub, lu_mul, ul_mul, nt_sub, nt_m1]
    rw [lg_le, h1 k (by omega), hx]
    refine ⟨fun z => by omega, fun _ => ⟨by omega, fun z => fin (by omega), fun z => ⟨by omega, by omega, fun h6 e6 => ?_⟩⟩⟩
    have f6 : fr [7, 8] h h6 := by
      rw [e6]
      (repeat first | exact fr.rf | refine fr.sI ?_ (by decide) _ | refine fr.sJ ?_ (by decide) _ | refine fr.sW ?_ (by decide) _ _)
    have r8 : h6.2.1 8 = vp_updL (h.2.1 8) (k + 1) (h.2.1 8 k) := by
      rw [e6]
      simp (disch := decide) only [sI_at, sI_ne, sI_21, sI_22, sJ_1, sJ_at, sJ_ne, sJ_22, sW_1, sW_21, upd_at, upd_ne]
    have r7 : h6.1 7 = h.1 7 := by
      rw [e6]
      simp (disch := decide) only [sI_at, sI_ne, sI_21, sI_22, sJ_1, sJ_at, sJ_ne, sJ_22, sW_1, sW_21, upd_at, upd_ne]
    rw [show k + 1 - 1 = k by omega]
    refine ih h6 (by omega) (fun i hi => ?_) (fun i i1 i2 => ?_) (fun j j1 j2 => ?_) (fun h' y1 y2 y3 => K h' (f6.tr y1) (by rw [y2, r7]) y3)
    · rw [r8, uL_ne _ _ (by omega)]
      exact h1 i (by omega)
    · rw [r8]
      by_cases q : i = k + 1
      · subst q
        rw [uL_at, show k + 1 - 1 = k by omega]
        exact h1 k (by omega)
      · rw [uL_ne _ _ q]
        exact h3 i (by omega) i2
    · by_cases q : j = k
      · subst q
        omega
      · exact g j (by omega) j2
theorem c_pick (H : C_rn cl op h) {x : Int64} (hx : x.toInt = e) (hn : (op ++ [e]).Nodup) (hl : op.length < 36) (K : ∀ h', fr [7, 8] h h' → C_rn cl (op ++ [e]) h' → Q none h') : EvM mX3_pick [vR 7, vL x] h Q := by
  obtain ⟨r1, r2, r3, r4, r5, r6⟩ := H
  have il := isort_len op
  apply sX3_pick
  rw [r1]
  simp (disch := omega) only [nt_le, nt_lt, nt_eq, nt_cl, nt_vp, nI_add, lu_le, lu_lt, lu_eq, ul_le, ul_lt, ul_eq, lu_add, ul_add, lu_sub, lu_mul, ul_mul, nt_sub, nt_m1]
  refine ⟨fun _ => ?_, fun z => absurd hl z⟩
  rw [← il]
  refine c_pick_18 hx (isort_pw (List.nodup_append.mp hn).1) (by omega) (isort op).length h (Nat.le_refl _) (fun i hi => r4 i (by omega)) (fun i i1 i2 => by omega) (fun j j1 j2 => by omega) (fun h' f e7 a => K h' f ⟨?_, ?_, ?_, ?_, ?_, ?_⟩)
  · rw [e7, upd_at, r1, List.length_append]
    exact nI_1 _
  · rw [e7, upd_ne _ _ (by decide)]
    exact r2
  · rw [e7, upd_ne _ _ (by decide)]
    exact r3
  · rw [isort_snoc, List.length_append, List.length_singleton, ← il]
    exact a
  · rw [f.j 9 (by decide)]
    exact r5
  · rw [f.i 11 (by decide)]
    exact r6
theorem gD_apl {α : Type} {a b : List α} {i : Nat} {d : α} (h : i < a.length) : (a ++ b).getD i d = a.getD i d := by
  rw [List.getD_eq_getElem?_getD, List.getElem?_append_left h, ← List.getD_eq_getElem?_getD]
theorem gD_apr {α : Type} {a b : List α} {i : Nat} {d : α} (h : ¬ i < a.length) : (a ++ b).getD i d = b.getD (i - a.length) d := by
  rw [List.getD_eq_getElem?_getD, List.getElem?_append_right (by omega), ← List.getD_eq_getElem?_getD]
theorem cpy_at {α : Type} (f g : Nat → α) (a b n i : Nat) : va_cpy f g a b n i = if b ≤ i ∧ i < b + n then f (a + (i - b)) else g i := by
  unfold va_cpy
  rfl
theorem c_closeRun (H : C_rn cl op h) (hc : cl.length ≤ 10) (ht : cl.flatten.length + op.length ≤ 240) (ho : op.length ≤ 36) (K : ∀ h', fr [7, 9, 11] h h' → C_rn (cl ++ [isort op]) [] h' → Q none h') : EvM mX3_closeRun [vR 7] h Q := by
  obtain ⟨r1, r2, r3, r4, r5, r6⟩ := H
  have il := isort_len op
  apply sX3_closeRun
  rw [r1, r2, r3]
  simp (disch := omega) only [nt_le, nt_lt, nt_eq, nt_cl, nt_vp, nI_add, lu_le, lu_lt, lu_eq, ul_le, ul_lt, ul_eq, lu_add, ul_add, lu_sub, lu_mul, ul_mul, nt_sub, nt_m1]
  refine ⟨fun z => by omega, fun _ => ⟨fun _ => ⟨?_, fun h4 e4 h5 e5 => ?_⟩, fun z => by omega⟩⟩
  · unfold cpk
    simp (disch := omega) only [nt_le, nt_lt, nt_eq, nt_cl, nt_vp, nI_add, lu_le, lu_lt, lu_eq, ul_le, ul_lt, ul_eq, lu_add, ul_add, lu_sub, lu_mul, ul_mul, nt_sub, nt_m1]
    refine ⟨by decide, by omega, by omega, ?_, by omega⟩
    show 0 + _ ≤ 36
    omega
  · have c6 : h5.1 7 6 = nI cl.length := by
      rw [e5, e4]
      simp (disch := decide) only [sI_at, sI_ne, sI_21, sI_22, sJ_1, sJ_at, sJ_ne, sJ_22, sW_1, sW_21, upd_at, upd_ne]
      exact r3
    have c1 : h5.1 7 1 = nI op.length := by
      rw [e5, e4]
      simp (disch := decide) only [sI_at, sI_ne, sI_21, sI_22, sJ_1, sJ_at, sJ_ne, sJ_22, sW_1, sW_21, upd_at, upd_ne]
      exact r1
    rw [c6, c1]
    simp (disch := omega) only [nt_le, nt_lt, nt_eq, nt_cl, nt_vp, nI_add, lu_le, lu_lt, lu_eq, ul_le, ul_lt, ul_eq, lu_add, ul_add, lu_sub, lu_mul, ul_mul, nt_sub, nt_m1]
    refine ⟨by omega, fun h7 e7 h8 e8 h9 e9 => ?_⟩
    have a9 : h9.2.1 9 = va_cpy (h.2.1 8) (h.2.1 9) 0 cl.flatten.length op.length := by
      rw [e9, e8, e7, e5, e4]
      simp (disch := decide) only [sI_at, sI_ne, sI_21, sI_22, sJ_1, sJ_at, sJ_ne, sJ_22, sW_1, sW_21, upd_at, upd_ne]
      rfl
    have a11 : h9.1 11 = upd (h.1 11) cl.length (nI op.length) := by
      rw [e9, e8, e7, e5, e4]
      simp (disch := decide) only [sI_at, sI_ne, sI_21, sI_22, sJ_1, sJ_at, sJ_ne, sJ_22, sW_1, sW_21, upd_at, upd_ne]
    refine K h9 (by rw [e9, e8, e7, e5, e4]; (repeat first | exact fr.rf | refine fr.sI ?_ (by decide) _ | refine fr.sJ ?_ (by decide) _ | refine fr.sW ?_ (by decide) _ _)) ⟨?_, ?_, ?_, fun i hi => absurd hi (Nat.not_lt_zero _), fun i hi => ?_, fun i hi => ?_⟩
    · rw [e9, e8, e7, e5, e4]
      simp (disch := decide) only [sI_at, sI_ne, sI_21, sI_22, sJ_1, sJ_at, sJ_ne, sJ_22, sW_1, sW_21, upd_at, upd_ne]
      rfl
    · rw [e9, e8, e7, e5, e4]
      simp (disch := decide) only [sI_at, sI_ne, sI_21, sI_22, sJ_1, sJ_at, sJ_ne, sJ_22, sW_1, sW_21, upd_at, upd_ne]
      rw [r1, r2, fl_app, List.length_append, il, nI_add]
    · rw [e9, e8, e7]
      simp (disch := decide) only [sI_at, sI_ne, sI_21, sI_22, sJ_1, sJ_at, sJ_ne, sJ_22, sW_1, sW_21, upd_at, upd_ne]
      rw [c6, List.length_append]
      exact nI_1 _
    · rw [a9, cpy_at, fl_app]
      rw [fl_app, List.length_append] at hi
      by_cases q : i < cl.flatten.length
      · rw [if_neg (by omega), gD_apl q]
        exact r5 i q
      · rw [if_pos (by omega), gD_apr q, Nat.zero_add]
        exact r4 _ (by omega)
    · rw [a11, gD_app hi]
      rw [List.length_append, List.length_singleton] at hi
      by_cases q : i < cl.length
      · rw [if_pos q, upd_ne _ _ (by omega)]
        exact r6 i q
      · rw [if_neg q, show i = cl.length by omega, upd_at, il]
theorem lg_ge {x y : Int64} : 0 ≤ lg_cmp x y ↔ y.toInt ≤ x.toInt := by
  unfold lg_cmp
  rw [← Int64.le_iff_toInt_le]
  by_cases h : x > y
  · rw [if_pos h]
    exact ⟨fun _ => Int64.le_of_lt h, fun _ => by decide⟩
  · rw [if_neg h]
    by_cases e : x = y
    · rw [if_pos e, e]
      exact ⟨fun _ => Int64.le_refl _, fun _ => by decide⟩
    · rw [if_neg e]
      refine ⟨fun q => absurd q (by decide), fun q => ?_⟩
      exact absurd (Int64.le_antisymm (Int64.not_lt.mp h) q) e
theorem c_mergeInto_8 {m n : Nat} (hn : n ≤ 240) : ∀ (d : Nat) (a b : List Int) (acc : List Int) (h : Hp), a.length + b.length = d → a.length ≤ m → m ≤ n → b.length ≤ n - m → acc.length + d = n → (∀ i, i < a.length → (h.2.1 9 (m - a.length + i)).toInt = a.getD i 0) → (∀ i, i < b.length → (h.2.1 9 (n - b.length + i)).toInt = b.getD i 0) → (∀ i, i < acc.length → (h.2.1 10 i).toInt = acc.getD i 0) →
    (∀ h', fr [10] h h' → (∀ i, i < n → (h'.2.1 10 i).toInt = (acc ++ mrg a b).getD i 0) → Q none h') → Ev mX3_mergeInto 8 [(0, vR 7), (1, vI (nI m)), (2, vI (nI n)), (3, vI (nI (m - a.length))), (4, vI (nI (n - b.length))), (5, vI (nI acc.length))] [] h Q := by
  intro d
  induction d with
  | zero =>
    intro a b acc h hd ha hm hb hacc ra rb rc K
    have e1 : a = [] := List.eq_nil_of_length_eq_zero (by omega)
    have e2 : b = [] := List.eq_nil_of_length_eq_zero (by omega)
    subst e1 e2
    apply sX3_mergeInto_8
    simp (disch := omega) only [nt_le, nt_lt, nt_eq, nt_cl, nt_vp, nI_add, lu_le, lu_lt, lu_eq, ul_le, ul_lt, ul_eq, lu_add, ul_add, lu_sub, lu_mul, ul_mul, nt_sub, nt_m1]
    refine ⟨fun _ => K h fr.rf (fun i hi => ?_), fun z => by omega⟩
    rw [mrg_nil, List.append_nil]
    exact rc i (by omega)
  | succ d ih =>
    intro a b acc h hd ha hm hb hacc ra rb rc K
    have put : ∀ (w : Int64) (y : Int) (a' b' : List Int), w.toInt = y → a'.length ≤ a.length → a'.length + b'.length = d → b'.length ≤ n - m → (∀ i, i < a'.length → (h.2.1 9 (m - a'.length + i)).toInt = a'.getD i 0) → (∀ i, i < b'.length → (h.2.1 9 (n - b'.length + i)).toInt = b'.getD i 0) → mrg a b = y :: mrg a' b' → ∀ h3, h3 = sJ h 10 (vp_updL (h.2.1 10) acc.length w) → Ev mX3_mergeInto 8 [(0, vR 7), (1, vI (nI m)), (2, vI (nI n)), (3, vI (nI (m - a'.length))), (4, vI (nI (n - b'.length))), (5, vI (nI (acc.length + 1)))] [] h3 Q := by
      intro w y a' b' hw p1 p2 p3 p4 p5 p6 h3 e3
      have f3 : fr [10] h h3 := by
        rw [e3]
        (repeat first | exact fr.rf | refine fr.sI ?_ (by decide) _ | refine fr.sJ ?_ (by decide) _ | refine fr.sW ?_ (by decide) _ _)
      have r10 : h3.2.1 10 = vp_updL (h.2.1 10) acc.length w := by
        rw [e3]
        simp (disch := decide) only [sI_at, sI_ne, sI_21, sI_22, sJ_1, sJ_at, sJ_ne, sJ_22, sW_1, sW_21, upd_at, upd_ne]
      rw [p6, show acc ++ y :: mrg a' b' = (acc ++ [y]) ++ mrg a' b' by rw [List.append_assoc]; rfl] at K
      have := ih a' b' (acc ++ [y]) h3 p2 (by omega) hm p3 (by rw [List.length_append, List.length_singleton]; omega) (by rw [f3.j 9 (by decide)]; exact p4) (by rw [f3.j 9 (by decide)]; exact p5) (fun i hi => ?_) (fun h' y1 y2 => K h' (f3.tr y1) y2)
      · rw [List.length_append, List.length_singleton] at this
        exact this
      · rw [r10, gD_app hi]
        rw [List.length_append, List.length_singleton] at hi
        by_cases q : i < acc.length
        · rw [if_pos q, uL_ne _ _ (by omega)]
          exact rc i q
        · rw [if_neg q, show i = acc.length by omega, uL_at]
          exact hw
    have left : ∀ (x : Int) (t : List Int), a = x :: t → mrg a b = x :: mrg t b → Ev mX3_mergeInto 42 [(0, vR 7), (1, vI (nI m)), (2, vI (nI n)), (3, vI (nI (m - a.length))), (4, vI (nI (n - b.length))), (5, vI (nI acc.length))] [] h Q := by
      intro x t e1 e2
      have al : a.length = t.length + 1 := by rw [e1, List.length_cons]
      apply sX3_mergeInto_42
      simp (disch := omega) only [nt_le, nt_lt, nt_eq, nt_cl, nt_vp, nI_add, lu_le, lu_lt, lu_eq, ul_le, ul_lt, ul_eq, lu_add, ul_add, lu_sub, lu_mul, ul_mul, nt_sub, nt_m1]
      refine ⟨by omega, by omega, fun h3 e3 => ?_⟩
      rw [show m - a.length + 1 = m - t.length by omega]
      refine put (h.2.1 9 (m - a.length)) x t b ?_ (by omega) (by omega) hb (fun i hi => ?_) rb e2 h3 e3
      · have := ra 0 (by omega)
        rw [Nat.add_zero, e1] at this
        rw [e1]
        exact this
      · have := ra (i + 1) (by omega)
        rw [show m - a.length + (i + 1) = m - t.length + i by omega, e1] at this
        exact this
    have right : ∀ (y : Int) (t : List Int), b = y :: t → mrg a b = y :: mrg a t → Ev mX3_mergeInto 61 [(0, vR 7), (1, vI (nI m)), (2, vI (nI n)), (3, vI (nI (m - a.length))), (4, vI (nI (n - b.length))), (5, vI (nI acc.length))] [] h Q := by
      intro y t e1 e2
      have bl : b.length = t.length + 1 := by rw [e1, List.length_cons]
      apply sX3_mergeInto_61
      simp (disch := omega) only [nt_le, nt_lt, nt_eq, nt_cl, nt_vp, nI_add, lu_le, lu_lt, lu_eq, ul_le, ul_lt, ul_eq, lu_add, ul_add, lu_sub, lu_mul, ul_mul, nt_sub, nt_m1]
      refine ⟨by omega, by omega, fun h3 e3 => ?_⟩
      rw [show n - b.length + 1 = n - t.length by omega]
      refine put (h.2.1 9 (n - b.length)) y a t ?_ (Nat.le_refl _) (by omega) (by omega) ra (fun i hi => ?_) e2 h3 e3
      · have := rb 0 (by omega)
        rw [Nat.add_zero, e1] at this
        rw [e1]
        exact this
      · have := rb (i + 1) (by omega)
        rw [show n - b.length + (i + 1) = n - t.length + i by omega, e1] at this
        exact this
    apply sX3_mergeInto_8
    simp (disch := omega) only [nt_le, nt_lt, nt_eq, nt_cl, nt_vp, nI_add, lu_le, lu_lt, lu_eq, ul_le, ul_lt, ul_eq, lu_add, ul_add, lu_sub, lu_mul, ul_mul, nt_sub, nt_m1]
    refine ⟨fun z => by omega, fun _ => ⟨fun z => ?_, fun z => ⟨fun y => ?_, fun y => ⟨by omega, by omega, ?_⟩⟩⟩⟩
    · have e2 : b = [] := List.eq_nil_of_length_eq_zero (by omega)
      cases e1 : a with
      | nil =>
        rw [e1, e2] at hd
        exact absurd hd (by simp)
      | cons x t =>
        rw [← e1]
        refine left x t e1 ?_
        rw [e1, e2, mrg_nil, mrg_nil]
    · have e1 : a = [] := List.eq_nil_of_length_eq_zero (by omega)
      cases e2 : b with
      | nil =>
        rw [e1, e2] at hd
        exact absurd hd (by simp)
      | cons x t =>
        rw [← e2]
        refine right x t e2 ?_
        rw [e1, e2]
        unfold mrg
        rfl
    · cases e1 : a with
      | nil =>
        rw [e1] at y
        exact absurd (by simp) y
      | cons u t =>
        cases e2 : b with
        | nil =>
          rw [e2] at z
          exact absurd (by simp) z
        | cons v s =>
          have ra0 := ra 0 (by rw [e1]; simp)
          have rb0 := rb 0 (by rw [e2]; simp)
          rw [Nat.add_zero] at ra0 rb0
          have ra1 : (h.2.1 9 (m - a.length)).toInt = u := by
            rw [ra0, e1]
            rfl
          have rb1 : (h.2.1 9 (n - b.length)).toInt = v := by
            rw [rb0, e2]
            rfl
          rw [← e1, ← e2, lg_ge, ra1, rb1]
          refine ⟨fun w => right v s e2 ?_, fun w => left u t e1 ?_⟩
          · rw [e1, e2]
            conv => lhs; unfold mrg
            rw [if_neg (by omega)]
          · rw [e1, e2]
            conv => lhs; unfold mrg
            rw [if_pos (by omega)]
end CSC
