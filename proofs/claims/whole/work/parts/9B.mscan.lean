/-! the reference: it sorts, scans, merges -/
section MSC
variable {X : XT} {L : LT} {N : NT} {h : Hp} {Q : Option AV → Hp → Prop} {cl : List (List Int)} {op : List Int} {e : Int}
theorem m_sort_28 {o n2 : Nat} {l : List Int} {kk pp : Int32} (he : ent kk pp e) (hs : l.Pairwise (· < ·)) (hb : o + l.length < 240) : ∀ (k : Nat) (h : Hp), k ≤ l.length → (∀ i, i < k → ent (h.1 32 (o + i)) (h.1 33 (o + i)) (l.getD i 0)) → (∀ i, k < i → i ≤ l.length → ent (h.1 32 (o + i)) (h.1 33 (o + i)) (l.getD (i - 1) 0)) → (∀ j, k ≤ j → j < l.length → e < l.getD j 0) →
    (∀ h', fr [32, 33] h h' → (∀ m, m < o ∨ o + l.length < m → h'.1 32 m = h.1 32 m ∧ h'.1 33 m = h.1 33 m) → (∀ i, i < l.length + 1 → ent (h'.1 32 (o + i)) (h'.1 33 (o + i)) ((insr e l).getD i 0)) → Ev mX7_sort 4 [(0, vR 27), (1, vI (nI o)), (2, vI (nI n2)), (3, vI (nI (o + l.length + 1)))] [] h' Q) → Ev mX7_sort 28 [(0, vR 27), (1, vI (nI o)), (2, vI (nI n2)), (3, vI (nI (o + l.length))), (4, vI kk), (5, vI pp), (6, vI (nI (o + k)))] [] h Q := by
  intro k
  have fin : ∀ (k : Nat) (h : Hp), k ≤ l.length → (∀ i, i < k → ent (h.1 32 (o + i)) (h.1 33 (o + i)) (l.getD i 0)) → (∀ i, k < i → i ≤ l.length → ent (h.1 32 (o + i)) (h.1 33 (o + i)) (l.getD (i - 1) 0)) → (∀ j, k ≤ j → j < l.length → e < l.getD j 0) → (0 < k → ¬ e < l.getD (k - 1) 0) →
    (∀ h', fr [32, 33] h h' → (∀ m, m < o ∨ o + l.length < m → h'.1 32 m = h.1 32 m ∧ h'.1 33 m = h.1 33 m) → (∀ i, i < l.length + 1 → ent (h'.1 32 (o + i)) (h'.1 33 (o + i)) ((insr e l).getD i 0)) → Ev mX7_sort 4 [(0, vR 27), (1, vI (nI o)), (2, vI (nI n2)), (3, vI (nI (o + l.length + 1)))] [] h' Q) → Ev mX7_sort 100 [(0, vR 27), (1, vI (nI o)), (2, vI (nI n2)), (3, vI (nI (o + l.length))), (4, vI kk), (5, vI pp), (6, vI (nI (o + k)))] [] h Q := by
    intro k h hk h1 h3 g b K
    apply sX7_sort_100
    simp (disch := omega) only [nt_le, nt_lt, nt_eq, nt_cl, nt_vp, nI_add, lu_le, lu_lt, lu_eq, ul_le, ul_lt, ul_eq, lu_add, ul_add, lu_sub, lu_mul, ul_mul, nt_sub, nt_m1]
    refine ⟨by omega, fun h4 e4 => ⟨by omega, fun h5 e5 => ?_⟩⟩
    have r32 : h5.1 32 = upd (h.1 32) (o + k) kk := by
      rw [e5, e4]
      simp (disch := decide) only [sI_at, sI_ne, sI_21, sI_22, sJ_1, sJ_at, sJ_ne, sJ_22, sW_1, sW_21, upd_at, upd_ne]
    have r33 : h5.1 33 = upd (h.1 33) (o + k) pp := by
      rw [e5, e4]
      simp (disch := decide) only [sI_at, sI_ne, sI_21, sI_22, sJ_1, sJ_at, sJ_ne, sJ_22, sW_1, sW_21, upd_at, upd_ne]
    refine K h5 (by rw [e5, e4]; (repeat first | exact fr.rf | refine fr.sI ?_ (by decide) _ | refine fr.sJ ?_ (by decide) _ | refine fr.sW ?_ (by decide) _ _)) (fun m hm => ?_) ?_
    · rw [r32, r33, upd_ne _ _ (by omega), upd_ne _ _ (by omega)]
      exact ⟨rfl, rfl⟩
    · refine ins_arr (P := fun i y => ent (h5.1 32 (o + i)) (h5.1 33 (o + i)) y) (k := k) hs hk (fun i hi => ?_) ?_ (fun i i1 i2 => ?_) g b
      · rw [r32, r33, upd_ne _ _ (by omega), upd_ne _ _ (by omega)]
        exact h1 i hi
      · rw [r32, r33, upd_at, upd_at]
        exact he
      · rw [r32, r33, upd_ne _ _ (by omega), upd_ne _ _ (by omega)]
        exact h3 i i1 i2
  induction k with
  | zero =>
    intro h hk h1 h3 g K
    apply sX7_sort_28
    simp (disch := omega) only [nt_le, nt_lt, nt_eq, nt_cl, nt_vp, nI_add, lu_le, lu_lt, lu_eq, ul_le, ul_lt, ul_eq, lu_add, ul_add, lu_sub, lu_mul, ul_mul, nt_sub, nt_m1]
    exact ⟨fun _ => fin 0 h hk h1 h3 g (fun z => absurd z (Nat.lt_irrefl _)) K, fun z => by omega⟩
  | succ k ih =>
    intro h hk h1 h3 g K
    apply sX7_sort_28
    have s1 : nI (o + (k + 1)) - 1 = nI (o + k) := by
      rw [show nI (o + (k + 1)) - 1 = nI (o + (k + 1) - 1) from lu_sub (k := 1) (show 1 ≤ o + (k + 1) by omega)]
      rfl
    rw [s1]
    simp (disch := omega) only [nt_le, nt_lt, nt_eq, nt_cl, nt_vp, nI_add, lu_le, lu_lt, lu_eq, ul_le, ul_lt, ul_eq, lu_add, ul_add, lu_sub, lu_mul, ul_mul, nt_sub, nt_m1]
    refine ⟨fun z => by omega, fun _ => ⟨by omega, by omega, ?_⟩⟩
    refine m_isBefore he (h1 k (by omega)) (fun z => ⟨1, rfl, fun y => absurd y (by decide), fun _ => ⟨by omega, by omega, fun h9 e9 => ⟨by omega, by omega, fun h12 e12 => ?_⟩⟩⟩) (fun z => ⟨0, rfl, fun _ => fin (k + 1) h hk h1 h3 g (fun _ => by rw [show k + 1 - 1 = k by omega]; exact z) K, fun y => absurd rfl y⟩)
    have r32 : h12.1 32 = upd (h.1 32) (o + (k + 1)) (h.1 32 (o + k)) := by
      rw [e12, e9]
      simp (disch := decide) only [sI_at, sI_ne, sI_21, sI_22, sJ_1, sJ_at, sJ_ne, sJ_22, sW_1, sW_21, upd_at, upd_ne]
    have r33 : h12.1 33 = upd (h.1 33) (o + (k + 1)) (h.1 33 (o + k)) := by
      rw [e12, e9]
      simp (disch := decide) only [sI_at, sI_ne, sI_21, sI_22, sJ_1, sJ_at, sJ_ne, sJ_22, sW_1, sW_21, upd_at, upd_ne]
    have f12 : fr [32, 33] h h12 := by
      rw [e12, e9]
      (repeat first | exact fr.rf | refine fr.sI ?_ (by decide) _ | refine fr.sJ ?_ (by decide) _ | refine fr.sW ?_ (by decide) _ _)
    rw [show o + (k + 1) - 1 = o + k by omega]
    refine ih h12 (by omega) (fun i hi => ?_) (fun i i1 i2 => ?_) (fun j j1 j2 => ?_) (fun h' y1 y2 y3 => K h' (f12.tr y1) (fun m hm => ?_) y3)
    · rw [r32, r33, upd_ne _ _ (by omega), upd_ne _ _ (by omega)]
      exact h1 i (by omega)
    · rw [r32, r33]
      by_cases q : i = k + 1
      · subst q
        rw [upd_at, upd_at, show k + 1 - 1 = k by omega]
        exact h1 k (by omega)
      · rw [upd_ne _ _ (by omega), upd_ne _ _ (by omega)]
        exact h3 i (by omega) i2
    · by_cases q : j = k
      · subst q
        exact z
      · exact g j (by omega) j2
    · obtain ⟨u1, u2⟩ := y2 m hm
      rw [u1, u2, r32, r33, upd_ne _ _ (by omega), upd_ne _ _ (by omega)]
      exact ⟨rfl, rfl⟩
theorem tk_snoc {l : List Int} {s : Nat} (h : s < l.length) : l.take (s + 1) = l.take s ++ [l.getD s 0] := by
  rw [List.take_succ, List.getElem?_eq_getElem h, gD_at h]
  rfl
theorem m_sort_4 {o : Nat} {l : List Int} (hb : o + l.length ≤ 240) (nd : l.Nodup) : ∀ (d s : Nat) (h : Hp), s + d = l.length → (∀ i, i < s → ent (h.1 32 (o + i)) (h.1 33 (o + i)) ((isort (l.take s)).getD i 0)) → (∀ i, s ≤ i → i < l.length → ent (h.1 32 (o + i)) (h.1 33 (o + i)) (l.getD i 0)) →
    (∀ h', fr [32, 33] h h' → (∀ m, m < o ∨ o + l.length ≤ m → h'.1 32 m = h.1 32 m ∧ h'.1 33 m = h.1 33 m) → (∀ i, i < l.length → ent (h'.1 32 (o + i)) (h'.1 33 (o + i)) ((isort l).getD i 0)) → Q none h') → Ev mX7_sort 4 [(0, vR 27), (1, vI (nI o)), (2, vI (nI (o + l.length))), (3, vI (nI (o + s)))] [] h Q := by
  intro d
  induction d with
  | zero =>
    intro s h hs a1 a2 K
    have e : s = l.length := by omega
    subst e
    rw [List.take_length] at a1
    apply sX7_sort_4
    simp (disch := omega) only [nt_le, nt_lt, nt_eq, nt_cl, nt_vp, nI_add, lu_le, lu_lt, lu_eq, ul_le, ul_lt, ul_eq, lu_add, ul_add, lu_sub, lu_mul, ul_mul, nt_sub, nt_m1]
    exact ⟨fun _ => K h fr.rf (fun _ _ => ⟨rfl, rfl⟩) a1, fun z => by omega⟩
  | succ d ih =>
    intro s h hs a1 a2 K
    have tl : (l.take s).length = s := by
      rw [List.length_take]
      omega
    have il : (isort (l.take s)).length = s := by rw [isort_len, tl]
    have nds : (l.take s).Nodup := List.Nodup.sublist (List.take_sublist s l) nd
    apply sX7_sort_4
    simp (disch := omega) only [nt_le, nt_lt, nt_eq, nt_cl, nt_vp, nI_add, lu_le, lu_lt, lu_eq, ul_le, ul_lt, ul_eq, lu_add, ul_add, lu_sub, lu_mul, ul_mul, nt_sub, nt_m1]
    refine ⟨fun z => by omega, fun _ => ⟨by omega, by omega, ?_⟩⟩
    have := m_sort_28 (Q := Q) (o := o) (n2 := o + l.length) (l := isort (l.take s)) (a2 s (Nat.le_refl _) (by omega)) (isort_pw nds) (by omega) s h (by omega) a1 (fun i i1 i2 => by omega) (fun j j1 j2 => by omega) (fun h' y1 y2 y3 => ?_)
    · rw [il] at this
      exact this
    · rw [il] at y2 y3 ⊢
      refine ih (s + 1) h' (by omega) ?_ (fun i i1 i2 => ?_) (fun h2 z1 z2 z3 => K h2 (y1.tr z1) (fun m hm => ?_) z3)
      · rw [tk_snoc (by omega), isort_snoc]
        exact y3
      · obtain ⟨u1, u2⟩ := y2 (o + i) (by omega)
        rw [u1, u2]
        exact a2 i (by omega) i2
      · obtain ⟨u1, u2⟩ := z2 m hm
        obtain ⟨v1, v2⟩ := y2 m (by omega)
        rw [u1, u2, v1, v2]
        exact ⟨rfl, rfl⟩
theorem m_sort {o : Nat} {l : List Int} (hb : o + l.length ≤ 240) (nd : l.Nodup) (A : ∀ i, i < l.length → ent (h.1 32 (o + i)) (h.1 33 (o + i)) (l.getD i 0)) (K : ∀ h', fr [32, 33] h h' → (∀ m, m < o ∨ o + l.length ≤ m → h'.1 32 m = h.1 32 m ∧ h'.1 33 m = h.1 33 m) → (∀ i, i < l.length → ent (h'.1 32 (o + i)) (h'.1 33 (o + i)) ((isort l).getD i 0)) → Q none h') : EvM mX7_sort [vR 27, vI (nI o), vI (nI (o + l.length))] h Q := by
  apply sX7_sort
  simp (disch := omega) only [nt_le, nt_lt, nt_eq, nt_cl, nt_vp, nI_add, lu_le, lu_lt, lu_eq, ul_le, ul_lt, ul_eq, lu_add, ul_add, lu_sub, lu_mul, ul_mul, nt_sub, nt_m1]
  cases e : l with
  | nil =>
    subst e
    apply sX7_sort_4
    simp (disch := omega) only [nt_le, nt_lt, nt_eq, nt_cl, nt_vp, nI_add, lu_le, lu_lt, lu_eq, ul_le, ul_lt, ul_eq, lu_add, ul_add, lu_sub, lu_mul, ul_mul, nt_sub, nt_m1]
    exact ⟨fun _ => K h fr.rf (fun _ _ => ⟨rfl, rfl⟩) (fun i hi => absurd hi (Nat.not_lt_zero _)), fun z => absurd (Nat.le_succ _) z⟩
  | cons x t =>
    rw [← e]
    have l1 : 1 ≤ l.length := by
      rw [e]
      simp
    refine m_sort_4 hb nd (l.length - 1) 1 h (by omega) (fun i hi => ?_) (fun i _ i2 => A i i2) K
    have i0 : i = 0 := by omega
    subst i0
    have := A 0 (by omega)
    rw [e] at this ⊢
    exact this
theorem m_scan_8 {tp tk tv dp : Nat → Int32} {g : Nat} (ha : 12 * g + 12 ≤ 240) (hl : (cl.flatten ++ op).length + 12 ≤ 240) : ∀ (d j : Nat) (h : Hp), j + d = 12 → h.1 27 16 = nI g → M_tb tp tk tv dp h → M_rn cl (op ++ pgE tp tk (12 * g) j) h → (∀ h', fz 27 [27, 32, 33] [17] h h' → M_rn cl (op ++ pgE tp tk (12 * g) 12) h' → Ev mX7_scanStep 8 [(0, vR 27), (1, vI (nI (12 * g + 12)))] [] h' Q) → Ev mX7_scanStep 8 [(0, vR 27), (1, vI (nI (12 * g + j)))] [] h Q := by
  intro d
  induction d with
  | zero =>
    intro j h hj h16 T R K
    have e : j = 12 := by omega
    subst e
    exact K h fz.rf R
  | succ d ih =>
    intro j h hj h16 T R K
    obtain ⟨t1, t2, t3⟩ := T.1 (12 * g + j) (by omega)
    have pl := pgE_len tp tk (12 * g) j
    have ll : (cl.flatten ++ (op ++ pgE tp tk (12 * g) j)).length < 240 := by
      rw [← List.append_assoc, List.length_append]
      omega
    apply sX7_scanStep_8
    rw [h16, R.1]
    simp (disch := omega) only [nt_le, nt_lt, nt_eq, nt_cl, nt_vp, nI_add, lu_le, lu_lt, lu_eq, ul_le, ul_lt, ul_eq, lu_add, ul_add, lu_sub, lu_mul, ul_mul, nt_sub, nt_m1]
    rw [t1, t2]
    refine ⟨fun z => by omega, fun _ => ⟨by omega, fun z => ?_, fun z => ⟨by omega, by omega, fun h12 e12 => ?_⟩⟩⟩
    · refine ih (j + 1) h (by omega) h16 T ?_ K
      rw [pgE, if_pos z, List.append_nil]
      exact R
    · have c17 : h12.1 27 17 = nI (cl.flatten ++ (op ++ pgE tp tk (12 * g) j)).length := by
        rw [e12]
        simp (disch := decide) only [sI_at, sI_ne, sI_21, sI_22, sJ_1, sJ_at, sJ_ne, sJ_22, sW_1, sW_21, upd_at, upd_ne]
        exact R.1
      rw [c17]
      simp (disch := omega) only [nt_le, nt_lt, nt_eq, nt_cl, nt_vp, nI_add, lu_le, lu_lt, lu_eq, ul_le, ul_lt, ul_eq, lu_add, ul_add, lu_sub, lu_mul, ul_mul, nt_sub, nt_m1]
      refine ⟨by omega, fun h14 e14 h15 e15 => ?_⟩
      have e1 : pgE tp tk (12 * g) (j + 1) = pgE tp tk (12 * g) j ++ [(tk (12 * g + j)).toInt * 256 + ((12 * g + j : Nat) : Int)] := by
        rw [pgE, if_neg z]
      have f15 : fz 27 [27, 32, 33] [17] h h15 := by
        rw [e15, e14, e12]
        (repeat first | exact fz.rf | refine fz.up ?_ (by decide) (by decide) | refine fz.sI ?_ (by decide) (by decide) _ | refine fz.sJ ?_ (by decide) _)
      have r32 : h15.1 32 = upd (h.1 32) (cl.flatten ++ (op ++ pgE tp tk (12 * g) j)).length (tk (12 * g + j)) := by
        rw [e15, e14, e12]
        simp (disch := decide) only [sI_at, sI_ne, sI_21, sI_22, sJ_1, sJ_at, sJ_ne, sJ_22, sW_1, sW_21, upd_at, upd_ne]
      have r33 : h15.1 33 = upd (h.1 33) (cl.flatten ++ (op ++ pgE tp tk (12 * g) j)).length (nI (12 * g + j)) := by
        rw [e15, e14, e12]
        simp (disch := decide) only [sI_at, sI_ne, sI_21, sI_22, sJ_1, sJ_at, sJ_ne, sJ_22, sW_1, sW_21, upd_at, upd_ne]
      have c15 : h15.1 27 17 = nI ((cl.flatten ++ (op ++ pgE tp tk (12 * g) j)).length + 1) := by
        rw [e15, e14]
        simp (disch := decide) only [sI_at, sI_ne, sI_21, sI_22, sJ_1, sJ_at, sJ_ne, sJ_22, sW_1, sW_21, upd_at, upd_ne]
        rw [c17]
        exact nI_1 _
      refine ih (j + 1) h15 (by omega) (by rw [f15.2 16 (by decide)]; exact h16) (M_tb.fr T f15.1 (by decide)) ?_ (fun h' y1 y2 => K h' (f15.tr y1) y2)
      have ea : cl.flatten ++ (op ++ pgE tp tk (12 * g) (j + 1)) = (cl.flatten ++ (op ++ pgE tp tk (12 * g) j)) ++ [(tk (12 * g + j)).toInt * 256 + ((12 * g + j : Nat) : Int)] := by
        rw [e1]
        simp only [List.append_assoc]
      refine ⟨?_, ?_, fun i hi => ?_, fun r hr => ?_⟩
      · rw [ea, List.length_append, List.length_singleton]
        exact c15
      · rw [f15.2 20 (by decide)]
        exact R.2.1
      · rw [ea] at hi ⊢
        rw [r32, r33, gD_app hi]
        rw [List.length_append, List.length_singleton] at hi
        by_cases q : i < (cl.flatten ++ (op ++ pgE tp tk (12 * g) j)).length
        · rw [if_pos q, upd_ne _ _ (by omega), upd_ne _ _ (by omega)]
          exact R.2.2.1 i q
        · rw [if_neg q, show i = (cl.flatten ++ (op ++ pgE tp tk (12 * g) j)).length by omega, upd_at, upd_at]
          unfold ent
          rw [nI_toInt (show 12 * g + j < 2 ^ 31 by omega)]
          omega
      · rw [f15.1.i 34 (by decide)]
        exact R.2.2.2 r hr
/-- what a write does, apart from the state -/
theorem pt_sc {n : Nat} {Y Z : XT} (h1 : Y.1 = Z.1) (h2 : Y.2.1 = Z.2.1) (h3 : Y.2.2.2.2 = Z.2.2.2.2) (y5 : ¬ Y.2.2.1.1 = 5) (z5 : ¬ Z.2.2.1.1 = 5) : (ptX n Y).1 = (ptX n Z).1 ∧ ((ptX n Y).1 = false → (ptX n Y).2 = (ptX n Z).2) := by
  unfold ptX
  rw [h1]
  split
  · exact ⟨rfl, fun z => absurd z (by show ¬ true = false; decide)⟩
  · refine ⟨rfl, fun _ => ?_⟩
    unfold fgX
    dsimp only
    rw [h2, h3]
theorem m_scanStep (M : MX X L N h) (I : PI X L) (d0 : X.1.1 = 0) (q : X.2.2.1.1 = 1) (K : ∀ h', fr Um h h' → MX (scX X).2 L N h' → Q (some (vI (bI (scX X).1))) h') : EvM mX7_scanStep [vR 27] h Q := by
  obtain ⟨⟨b1, b2, b3, b4, b5⟩, c1, c2, c3, c4, c5, c6, c7⟩ := I.2.2.2.2.2.2.2.2.2.1 (by omega)
  obtain ⟨c5a, c5b, c5c⟩ := c5 q
  have pm := fun x => pgE_mem X.2.1.1 X.2.1.2.1 (12 * X.2.2.2.1.1) x 12 (by omega)
  have pn := pgE_nd X.2.1.1 X.2.1.2.1 (12 * X.2.2.2.1.1) 12 (by omega)
  have pl := pgE_len X.2.1.1 X.2.1.2.1 (12 * X.2.2.2.1.1) 12
  have sl : (scO X).length = X.2.2.2.1.2.2.1.length + (pgE X.2.1.1 X.2.1.2.1 (12 * X.2.2.2.1.1) 12).length := by
    unfold scO
    rw [List.length_append]
  have l24 := fl_24 c5c
  have c1' := c1
  rw [List.length_append] at c1'
  have ndS : (scO X).Nodup := by
    unfold scO
    rw [List.nodup_append]
    refine ⟨(List.nodup_append.mp c3).2.1, pn, fun x hx y hy e => ?_⟩
    subst e
    obtain ⟨p, p1, p2, p3, -⟩ := (pm x).mp hy
    have := (c4 x (List.mem_append_right _ hx)).2
    omega
  obtain ⟨H1, H2, H3, H4, H5, H6, H7⟩ := M
  obtain ⟨B1, B2, B3⟩ := H4 (by omega)
  have L5 := H5 (by omega)
  have bl : (X.2.2.2.1.2.1.flatten ++ scO X).length = X.2.2.2.1.2.1.flatten.length + (scO X).length := List.length_append
  apply sX7_scanStep
  have m12 : 12 * nI X.2.2.2.1.1 = nI (12 * X.2.2.2.1.1 + 0) := by
    simp (disch := omega) only [nt_le, nt_lt, nt_eq, nt_cl, nt_vp, nI_add, lu_le, lu_lt, lu_eq, ul_le, ul_lt, ul_eq, lu_add, ul_add, lu_sub, lu_mul, ul_mul, nt_sub, nt_m1]
    rfl
  rw [B1, m12]
  refine m_scan_8 (tp := X.2.1.1) (tk := X.2.1.2.1) (tv := X.2.1.2.2.1) (dp := X.2.1.2.2.2) (cl := X.2.2.2.1.2.1) (op := X.2.2.2.1.2.2.1) (g := X.2.2.2.1.1) (by omega) (by omega) 12 0 h (by omega) B1 H2 (by show M_rn _ (_ ++ []) h; rw [List.append_nil]; exact B2) (fun h1 f1 R1 => ?_)
  have R1 : M_rn X.2.2.2.1.2.1 (scO X) h1 := R1
  have p1 : h1.1 27 16 = nI X.2.2.2.1.1 := by
    rw [f1.2 16 (by decide)]
    exact B1
  apply sX7_scanStep_8
  rw [p1]
  simp (disch := omega) only [nt_le, nt_lt, nt_eq, nt_cl, nt_vp, nI_add, lu_le, lu_lt, lu_eq, ul_le, ul_lt, ul_eq, lu_add, ul_add, lu_sub, lu_mul, ul_mul, nt_sub, nt_m1]
  refine ⟨fun _ h2 e2 => ?_, fun z => absurd (Nat.le_refl _) z⟩
  have f2 : fz 27 [27, 32, 33] [16, 17] h h2 := by
    refine (f1.mono (by decide) (by decide)).tr ?_
    rw [e2]
    (repeat first | exact fz.rf | refine fz.up ?_ (by decide) (by decide) | refine fz.sI ?_ (by decide) (by decide) _ | refine fz.sJ ?_ (by decide) _)
  have g2 : fz 27 [27] [16] h1 h2 := by
    rw [e2]
    (repeat first | exact fz.rf | refine fz.up ?_ (by decide) (by decide) | refine fz.sI ?_ (by decide) (by decide) _ | refine fz.sJ ?_ (by decide) _)
  have p2 : h2.1 27 16 = nI (X.2.2.2.1.1 + 1) := by
    rw [e2]
    simp (disch := decide) only [sI_at, sI_ne, sI_21, sI_22, sJ_1, sJ_at, sJ_ne, sJ_22, sW_1, sW_21, upd_at, upd_ne]
  have R2 : M_rn X.2.2.2.1.2.1 (scO X) h2 := R1.k g2 (by decide) (by decide)
  clear e2
  rw [R2.2.1, R2.1, bl]
  -- the heap, with whatever runs
  have C3 : ∀ (cl' : List (List Int)) (op' : List Int) (h4 : Hp), fz 27 [27, 32, 33, 34] [20] h2 h4 → M_rn cl' op' h4 → MX (X.1, X.2.1, X.2.2.1, (X.2.2.2.1.1 + 1, cl', op', X.2.2.2.1.2.2.2), X.2.2.2.2) L N h4 := by
    intro cl' op' h4 f4 R4
    have g4 : fz 27 [27, 32, 33, 34] [16, 17, 20] h h4 := (f2.mono (by decide) (by decide)).tr (f4.mono (by decide) (by decide))
    refine ⟨H1.k g4 (by decide), H2.k g4.1 (by decide), H3.k g4 (by decide), fun _ => ⟨?_, R4, B3.k g4 (by decide) (by decide)⟩, fun _ => L5.k g4 (by decide) (by decide), H6.k g4 (by decide) (by decide), H7.k g4 (by decide) (by decide)⟩
    rw [f4.2 16 (by decide)]
    exact p2
  -- the state is set at the end
  have fin : ∀ (cl' : List (List Int)) (op' : List Int) (D' : DK) (h4 : Hp), fr Um h h4 → MX (D', X.2.1, X.2.2.1, (X.2.2.2.1.1 + 1, cl', op', X.2.2.2.1.2.2.2), X.2.2.2.2) L N h4 → (∀ h5, fr Um h h5 → MX (D', X.2.1, (if X.2.2.2.1.1 + 1 = 20 then 2 else 1, X.2.2.1.2), (X.2.2.2.1.1 + 1, cl', op', X.2.2.2.1.2.2.2), X.2.2.2.2) L N h5 → Q (some (vI 1)) h5) → Ev mX7_scanStep 170 [(0, vR 27)] [] h4 Q := by
    intro cl' op' D' h4 F4 M4 K4
    obtain ⟨J1, J2, J3, J4, J5, J6, J7⟩ := M4
    have J4 := J4 (by show 1 ≤ X.2.2.1.1 ∧ X.2.2.1.1 ≤ 4; omega)
    have J5 := J5 (by show 1 ≤ X.2.2.1.1 ∧ X.2.2.1.1 ≤ 3; omega)
    have key : ∀ (s : Nat) (h5 : Hp), s = (if X.2.2.2.1.1 + 1 = 20 then 2 else 1) → h5 = sI h4 27 (upd (h4.1 27) 11 (nI s)) → Q (some (vI 1)) h5 := by
      intro s h5 es e5
      have f5 : fz 27 [27] [11] h4 h5 := by
        rw [e5]
        (repeat first | exact fz.rf | refine fz.up ?_ (by decide) (by decide) | refine fz.sI ?_ (by decide) (by decide) _ | refine fz.sJ ?_ (by decide) _)
      refine K4 h5 (F4.tr (f5.1.mono (by decide))) ?_
      rw [← es]
      have s12 : s = 1 ∨ s = 2 := by
        rw [es]
        split
        · exact Or.inr rfl
        · exact Or.inl rfl
      refine ⟨J1.k f5 (by decide), J2.k f5.1 (by decide), ⟨?_, fun _ => ?_, ?_, ?_, ?_⟩, fun _ => J4.k f5 (by decide) (by decide), fun _ => J5.k f5 (by decide) (by decide), ⟨J6.1.fr f5.1 (f5.2 33 (by decide)) (by decide), fun z => ?_⟩, J7.k f5 (by decide) (by decide)⟩
      · rw [e5]
        simp (disch := decide) only [sI_at, sI_ne, sI_21, sI_22, sJ_1, sJ_at, sJ_ne, sJ_22, sW_1, sW_21, upd_at, upd_ne]
      · rw [f5.2 12 (by decide)]
        exact J3.2.1 (by show ¬ X.2.2.1.1 = 0; omega)
      · rw [f5.2 13 (by decide)]
        exact J3.2.2.1
      · rw [f5.2 14 (by decide)]
        exact J3.2.2.2.1
      · rw [f5.2 15 (by decide)]
        exact J3.2.2.2.2
      · have z : s = 4 ∨ s = 5 := z
        omega
    apply sX7_scanStep_170
    rw [J4.1]
    show ((¬ nI (X.2.2.2.1.1 + 1) = 20) → _) ∧ (nI (X.2.2.2.1.1 + 1) = 20 → _)
    simp (disch := omega) only [nt_le, nt_lt, nt_eq, nt_cl, nt_vp, nI_add, lu_le, lu_lt, lu_eq, ul_le, ul_lt, ul_eq, lu_add, ul_add, lu_sub, lu_mul, ul_mul, nt_sub, nt_m1]
    exact ⟨fun z h5 e5 => key 1 h5 (by rw [if_neg z]) e5, fun z h5 e5 => key 2 h5 (by rw [if_pos z]) e5⟩
  have F2 : fr Um h h2 := f2.1.mono (by decide)
  have keep : ¬ scC X → Ev mX7_scanStep 170 [(0, vR 27)] [] h2 Q := by
    intro sc
    have ex : scX X = (true, scY X) := by
      unfold scX
      rw [if_neg sc]
    rw [ex] at K
    refine fin X.2.2.2.1.2.1 (scO X) X.1 h2 F2 (C3 _ _ h2 fz.rf R2) (fun h5 F5 M5 => K h5 F5 ?_)
    unfold scY
    rw [if_neg sc, if_neg sc]
    exact M5
  have close : scC X → Ev mX7_scanStep 115 [(0, vR 27), (1, vI (nI (scO X).length))] [] h2 Q := by
    intro sc
    have cl9 : X.2.2.2.1.2.1.length ≤ 10 := by omega
    apply sX7_scanStep_115
    rw [R2.2.1]
    refine m_runFrom R2 (by omega) ⟨_, rfl, ?_⟩
    rw [R2.1, bl]
    refine m_sort (o := X.2.2.2.1.2.1.flatten.length) (l := scO X) (by omega) ndS (fun i hi => ?_) (fun h3 f3 u3 a3 => ⟨rfl, ?_⟩)
    · have := R2.2.2.1 (X.2.2.2.1.2.1.flatten.length + i) (by omega)
      rw [gD_apr (by omega), Nat.add_sub_cancel_left] at this
      exact this
    have e20 : h3.1 27 20 = nI X.2.2.2.1.2.1.length := by
      rw [f3.i 27 (by decide)]
      exact R2.2.1
    have e17 : h3.1 27 17 = nI (X.2.2.2.1.2.1.flatten ++ scO X).length := by
      rw [f3.i 27 (by decide)]
      exact R2.1
    rw [e20, e17]
    simp (disch := omega) only [nt_le, nt_lt, nt_eq, nt_cl, nt_vp, nI_add, lu_le, lu_lt, lu_eq, ul_le, ul_lt, ul_eq, lu_add, ul_add, lu_sub, lu_mul, ul_mul, nt_sub, nt_m1]
    refine ⟨by omega, fun h5 e5 h6 e6 => ?_⟩
    have f6 : fz 27 [27, 32, 33, 34] [20] h2 h6 := by
      refine ((fz.of (F := []) f3 (by decide)).mono (by decide) (by decide)).tr ?_
      rw [e6, e5]
      (repeat first | exact fz.rf | refine fz.up ?_ (by decide) (by decide) | refine fz.sI ?_ (by decide) (by decide) _ | refine fz.sJ ?_ (by decide) _)
    have il := isort_len (scO X)
    have R6 : M_rn (X.2.2.2.1.2.1 ++ [isort (scO X)]) [] h6 := by
      have fe : (X.2.2.2.1.2.1 ++ [isort (scO X)]).flatten ++ [] = X.2.2.2.1.2.1.flatten ++ isort (scO X) := by
        rw [List.append_nil, fl_app]
      have r32 : h6.1 32 = h3.1 32 := by
        rw [e6, e5]
        simp (disch := decide) only [sI_at, sI_ne, sI_21, sI_22, sJ_1, sJ_at, sJ_ne, sJ_22, sW_1, sW_21, upd_at, upd_ne]
      have r33 : h6.1 33 = h3.1 33 := by
        rw [e6, e5]
        simp (disch := decide) only [sI_at, sI_ne, sI_21, sI_22, sJ_1, sJ_at, sJ_ne, sJ_22, sW_1, sW_21, upd_at, upd_ne]
      have r34 : h6.1 34 = upd (h2.1 34) X.2.2.2.1.2.1.length (nI (X.2.2.2.1.2.1.flatten ++ scO X).length) := by
        rw [e6, e5]
        simp (disch := decide) only [sI_at, sI_ne, sI_21, sI_22, sJ_1, sJ_at, sJ_ne, sJ_22, sW_1, sW_21, upd_at, upd_ne]
        rw [f3.i 34 (by decide)]
      refine ⟨?_, ?_, fun i hi => ?_, fun r hr => ?_⟩
      · rw [fe, List.length_append, il, f6.2 17 (by decide), R2.1, bl]
      · rw [e6, e5]
        simp (disch := decide) only [sI_at, sI_ne, sI_21, sI_22, sJ_1, sJ_at, sJ_ne, sJ_22, sW_1, sW_21, upd_at, upd_ne]
        rw [e20, List.length_append]
        exact nI_1 _
      · rw [fe] at hi ⊢
        rw [List.length_append, il] at hi
        rw [r32, r33]
        by_cases z : i < X.2.2.2.1.2.1.flatten.length
        · obtain ⟨u1, u2⟩ := u3 i (Or.inl z)
          have := R2.2.2.1 i (by omega)
          rw [gD_apl z] at this ⊢
          rw [u1, u2]
          exact this
        · have := a3 (i - X.2.2.2.1.2.1.flatten.length) (by omega)
          rw [show X.2.2.2.1.2.1.flatten.length + (i - X.2.2.2.1.2.1.flatten.length) = i by omega] at this
          rw [gD_apr z]
          exact this
      · rw [List.length_append, List.length_singleton] at hr
        rw [r34]
        by_cases z : r = X.2.2.2.1.2.1.length
        · rw [z, upd_at, bl, List.take_of_length_le (by simp), fl_app, List.length_append, il]
        · rw [upd_ne _ _ z, List.take_append_of_le_length (by omega)]
          exact R2.2.2.2 r (by omega)
    have M6 := C3 _ _ h6 f6 R6
    have e7 : nI ((scO X).length + 7) / 8 = nI (((scO X).length + 7) / 8) := by
      exact pk_div (a := (scO X).length + 7) (d := 8) (by omega) (by decide) (by decide)
    rw [e7]
    have F6 : fr Um h h6 := F2.tr (f6.1.mono (by decide))
    have ex : scX X = ptX (((scO X).length + 7) / 8) (scY X) := by
      unfold scX
      rw [if_pos sc]
    rw [ex] at K
    have s5 : ¬ (scY X).2.2.1.1 = 5 := by
      show ¬ (if X.2.2.2.1.1 + 1 = 20 then 2 else 1) = 5
      split <;> decide
    obtain ⟨t1, t2⟩ := pt_sc (n := ((scO X).length + 7) / 8) (Y := (X.1, X.2.1, X.2.2.1, (X.2.2.2.1.1 + 1, X.2.2.2.1.2.1 ++ [isort (scO X)], [], X.2.2.2.1.2.2.2), X.2.2.2.2)) (Z := scY X) rfl rfl rfl (by show ¬ X.2.2.1.1 = 5; omega) s5
    refine m_writeBlocks M6 (by show X.2.2.1.1 < 7; omega) d0 (by omega) (fun h7 f7 M7 => ⟨_, rfl, fun z => ?_, fun z => ?_⟩)
    · have ok : (ptX (((scO X).length + 7) / 8) (X.1, X.2.1, X.2.2.1, (X.2.2.2.1.1 + 1, X.2.2.2.1.2.1 ++ [isort (scO X)], [], X.2.2.2.1.2.2.2), X.2.2.2.2)).1 = true := by
        cases y : (ptX (((scO X).length + 7) / 8) (X.1, X.2.1, X.2.2.1, (X.2.2.2.1.1 + 1, X.2.2.2.1.2.1 ++ [isort (scO X)], [], X.2.2.2.1.2.2.2), X.2.2.2.2)).1 with
        | true => rfl
        | false =>
          rw [y] at z
          exact absurd rfl z
      rw [pt_ok ok] at M7
      rw [← t1, ok, pt_ok (by rw [← t1]; exact ok)] at K
      refine fin _ _ _ h7 (F6.tr (f7.1.mono (by decide))) M7 (fun h8 F8 M8 => K h8 F8 ?_)
      unfold scY
      rw [if_pos sc, if_pos sc]
      exact M8
    · have ok : (ptX (((scO X).length + 7) / 8) (X.1, X.2.1, X.2.2.1, (X.2.2.2.1.1 + 1, X.2.2.2.1.2.1 ++ [isort (scO X)], [], X.2.2.2.1.2.2.2), X.2.2.2.2)).1 = false := bI_0.mp z
      rw [t2 ok] at M7
      rw [← t1, ok] at K
      exact K h7 (F6.tr (f7.1.mono (by decide))) M7
  refine m_runFrom R2 (by omega) ⟨_, rfl, ?_⟩
  rw [p2, show nI (X.2.2.2.1.2.1.flatten.length + (scO X).length) - nI X.2.2.2.1.2.1.flatten.length = nI (scO X).length by
    rw [nt_sub (by omega), Nat.add_sub_cancel_left]]
  simp (disch := omega) only [nt_le, nt_lt, nt_eq, nt_cl, nt_vp, nI_add, lu_le, lu_lt, lu_eq, ul_le, ul_lt, ul_eq, lu_add, ul_add, lu_sub, lu_mul, ul_mul, nt_sub, nt_m1]
  refine ⟨fun z => close (Or.inl z), fun z => ⟨fun y => keep ?_, fun y => ⟨fun w => keep ?_, fun w => close (Or.inr ⟨y, by omega⟩)⟩⟩⟩
  · unfold scC
    omega
  · unfold scC
    omega
end MSC
