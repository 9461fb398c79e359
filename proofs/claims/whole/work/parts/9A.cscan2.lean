/-! the class: scanning and merging, whole -/
section CS2
variable {X : XT} {L : LT} {N : NT} {h : Hp} {Q : Option AV → Hp → Prop} {cl : List (List Int)} {op : List Int} {e : Int}
theorem c_mf_75 {c : Nat} {x1 : Int32} {ln : Nat → Int32} (hc2 : 2 ≤ c) (hc : c ≤ 11) : ∀ (d x : Nat) (h : Hp), x + d = c → 2 ≤ x → h.1 7 6 = nI c → (∀ j, j < x - 2 → h.1 11 j = ln (j + 2)) → (∀ j, x ≤ j → j < c → h.1 11 j = ln j) →
    (∀ h', fr [7, 11] h h' → h'.1 7 = upd (h.1 7) 6 (nI (c - 1)) → (∀ j, j < c - 2 → h'.1 11 j = ln (j + 2)) → h'.1 11 (c - 2) = x1 → Q (some (vI x1)) h') → Ev mX3_mergeFirstTwo 75 [(0, vR 7), (1, vI x1), (2, vI (nI x))] [] h Q := by
  intro d
  induction d with
  | zero =>
    intro x h hx hx2 h6 a1 a2 K
    have e : x = c := by omega
    subst e
    apply sX3_mergeFirstTwo_75
    rw [h6]
    simp (disch := omega) only [nt_le, nt_lt, nt_eq, nt_cl, nt_vp, nI_add, lu_le, lu_lt, lu_eq, ul_le, ul_lt, ul_eq, lu_add, ul_add, lu_sub, lu_mul, ul_mul, nt_sub, nt_m1]
    refine ⟨fun _ => ⟨by omega, fun h3 e3 h4 e4 => ?_⟩, fun z => by omega⟩
    have c6 : h3.1 7 6 = nI x := by
      rw [e3]
      simp (disch := decide) only [sI_at, sI_ne, sI_21, sI_22, sJ_1, sJ_at, sJ_ne, sJ_22, sW_1, sW_21, upd_at, upd_ne]
      exact h6
    rw [c6, show nI x - 1 = nI (x - 1) from lu_sub (k := 1) (show 1 ≤ x by omega)] at e4
    have r11 : h4.1 11 = upd (h.1 11) (x - 2) x1 := by
      rw [e4, e3]
      simp (disch := decide) only [sI_at, sI_ne, sI_21, sI_22, sJ_1, sJ_at, sJ_ne, sJ_22, sW_1, sW_21, upd_at, upd_ne]
    refine K h4 (by rw [e4, e3]; (repeat first | exact fr.rf | refine fr.sI ?_ (by decide) _ | refine fr.sJ ?_ (by decide) _ | refine fr.sW ?_ (by decide) _ _)) ?_ (fun j hj => ?_) ?_
    · rw [e4, e3]
      simp (disch := decide) only [sI_at, sI_ne, sI_21, sI_22, sJ_1, sJ_at, sJ_ne, sJ_22, sW_1, sW_21, upd_at, upd_ne]
    · rw [r11, upd_ne _ _ (by omega)]
      exact a1 j hj
    · rw [r11, upd_at]
  | succ d ih =>
    intro x h hx hx2 h6 a1 a2 K
    apply sX3_mergeFirstTwo_75
    rw [h6]
    simp (disch := omega) only [nt_le, nt_lt, nt_eq, nt_cl, nt_vp, nI_add, lu_le, lu_lt, lu_eq, ul_le, ul_lt, ul_eq, lu_add, ul_add, lu_sub, lu_mul, ul_mul, nt_sub, nt_m1]
    refine ⟨fun z => by omega, fun _ => ⟨by omega, by omega, fun h7 e7 => ?_⟩⟩
    have f7 : fr [7, 11] h h7 := by
      rw [e7]
      (repeat first | exact fr.rf | refine fr.sI ?_ (by decide) _ | refine fr.sJ ?_ (by decide) _ | refine fr.sW ?_ (by decide) _ _)
    have r7 : h7.1 7 = h.1 7 := by
      rw [e7]
      simp (disch := decide) only [sI_at, sI_ne, sI_21, sI_22, sJ_1, sJ_at, sJ_ne, sJ_22, sW_1, sW_21, upd_at, upd_ne]
    have r11 : h7.1 11 = upd (h.1 11) (x - 2) (h.1 11 x) := by
      rw [e7]
      simp (disch := decide) only [sI_at, sI_ne, sI_21, sI_22, sJ_1, sJ_at, sJ_ne, sJ_22, sW_1, sW_21, upd_at, upd_ne]
    refine ih (x + 1) h7 (by omega) (by omega) (by rw [r7]; exact h6) (fun j hj => ?_) (fun j j1 j2 => ?_) (fun h' y1 y2 y3 y4 => K h' (f7.tr y1) (by rw [y2, r7]) y3 y4)
    · rw [r11]
      by_cases q : j = x - 2
      · rw [q, upd_at, show x - 2 + 2 = x by omega]
        exact a2 x (Nat.le_refl _) (by omega)
      · rw [upd_ne _ _ q]
        exact a1 j (by omega)
    · rw [r11, upd_ne _ _ (by omega)]
      exact a2 j (by omega) j2
theorem c_mergeFirstTwo {r1 r2 : List Int} {t : List (List Int)} (H : C_rn (r1 :: r2 :: t) [] h) (hc : (r1 :: r2 :: t).length ≤ 11) (hl : (r1 :: r2 :: t).flatten.length ≤ 240) (s1 : r1.Pairwise (· < ·)) (s2 : r2.Pairwise (· < ·)) (hn : (r1 ++ r2).Nodup) (K : ∀ h', fr [7, 9, 10, 11] h h' → C_rn (t ++ [isort (r1 ++ r2)]) [] h' → Q (some (vI (nI (r1.length + r2.length)))) h') : EvM mX3_mergeFirstTwo [vR 7] h Q := by
  obtain ⟨q1, q2, q3, q4, q5, q6⟩ := H
  have fe : (r1 :: r2 :: t).flatten = r1 ++ (r2 ++ t.flatten) := by
    rw [List.flatten_cons, List.flatten_cons]
  rw [fe] at q2 q5 hl
  rw [List.length_append, List.length_append] at q2 q5 hl
  have lc : (r1 :: r2 :: t).length = t.length + 2 := by simp
  rw [lc] at hc q3 q6
  have l0 : h.1 11 (Int32.toNatClampNeg 0) = nI r1.length := q6 0 (by omega)
  have l1 : h.1 11 (Int32.toNatClampNeg 1) = nI r2.length := q6 1 (by omega)
  have il := isort_len (r1 ++ r2)
  rw [List.length_append] at il
  apply sX3_mergeFirstTwo
  rw [l0, l1, q3, nI_add]
  simp (disch := omega) only [nt_le, nt_lt, nt_eq, nt_cl, nt_vp, nI_add, lu_le, lu_lt, lu_eq, ul_le, ul_lt, ul_eq, lu_add, ul_add, lu_sub, lu_mul, ul_mul, nt_sub, nt_m1]
  refine ⟨fun _ => ?_, fun z => by omega⟩
  apply sX3_mergeInto
  have lp : ∀ (Q' : Option AV → Hp → Prop), (∀ h', fr [10] h h' → (∀ i, i < r1.length + r2.length → (h'.2.1 10 i).toInt = (isort (r1 ++ r2)).getD i 0) → Q' none h') → Ev mX3_mergeInto 8 [(0, vR 7), (1, vI (nI r1.length)), (2, vI (nI (r1.length + r2.length))), (3, vI 0), (4, vI (nI r1.length)), (5, vI 0)] [] h Q' := by
    intro Q' K'
    have := c_mergeInto_8 (Q := Q') (m := r1.length) (n := r1.length + r2.length) (by omega) (r1.length + r2.length) r1 r2 [] h rfl (Nat.le_refl _) (by omega) (by omega) (by simp) (fun i hi => ?_) (fun i hi => ?_) (fun i hi => absurd hi (Nat.not_lt_zero _)) (fun h' y1 y2 => K' h' y1 (fun i hi => ?_))
    · rw [Nat.sub_self, Nat.add_sub_cancel] at this
      exact this
    · rw [Nat.sub_self, Nat.zero_add, q5 i (by omega), gD_apl hi]
    · rw [Nat.add_sub_cancel, q5 _ (by omega), gD_apr (by omega), gD_apl (by omega), Nat.add_sub_cancel_left]
    · rw [← mrg_isort s1 s2 hn]
      exact y2 i hi
  refine lp _ (fun h2 f2 a2 => ?_)
  have t2 : h2.1 7 4 = nI (r1.length + (r2.length + t.flatten.length)) := by
    rw [f2.i 7 (by decide)]
    exact q2
  rw [t2]
  simp (disch := omega) only [nt_le, nt_lt, nt_eq, nt_cl, nt_vp, nI_add, lu_le, lu_lt, lu_eq, ul_le, ul_lt, ul_eq, lu_add, ul_add, lu_sub, lu_mul, ul_mul, nt_sub, nt_m1]
  refine ⟨trivial, ?_, fun h4 e4 => ?_⟩
  · unfold cpk
    simp (disch := omega) only [nt_le, nt_lt, nt_eq, nt_cl, nt_vp, nI_add, lu_le, lu_lt, lu_eq, ul_le, ul_lt, ul_eq, lu_add, ul_add, lu_sub, lu_mul, ul_mul, nt_sub, nt_m1]
    refine ⟨by omega, by decide, by omega, by omega, ?_⟩
    show 0 + _ ≤ 240
    omega
  have t4 : h4.1 7 4 = nI (r1.length + (r2.length + t.flatten.length)) := by
    rw [e4]
    simp (disch := decide) only [sI_at, sI_ne, sI_21, sI_22, sJ_1, sJ_at, sJ_ne, sJ_22, sW_1, sW_21, upd_at, upd_ne]
    exact t2
  rw [t4]
  simp (disch := omega) only [nt_le, nt_lt, nt_eq, nt_cl, nt_vp, nI_add, lu_le, lu_lt, lu_eq, ul_le, ul_lt, ul_eq, lu_add, ul_add, lu_sub, lu_mul, ul_mul, nt_sub, nt_m1]
  refine ⟨?_, fun h6 e6 => ?_⟩
  · unfold cpk
    simp (disch := omega) only [nt_le, nt_lt, nt_eq, nt_cl, nt_vp, nI_add, lu_le, lu_lt, lu_eq, ul_le, ul_lt, ul_eq, lu_add, ul_add, lu_sub, lu_mul, ul_mul, nt_sub, nt_m1]
    refine ⟨by decide, by omega, by omega, ?_, by omega⟩
    show 0 + _ ≤ 240
    omega
  have f6 : fr [9, 10] h h6 := by
    refine (f2.mono (by decide)).tr ?_
    rw [e6, e4]
    (repeat first | exact fr.rf | refine fr.sI ?_ (by decide) _ | refine fr.sJ ?_ (by decide) _ | refine fr.sW ?_ (by decide) _ _)
  have r9 : h6.2.1 9 = va_cpy (h2.2.1 10) (va_cpy (h.2.1 9) (h.2.1 9) (r1.length + r2.length) 0 (r1.length + (r2.length + t.flatten.length) - (r1.length + r2.length))) 0 (r1.length + (r2.length + t.flatten.length) - (r1.length + r2.length)) (r1.length + r2.length) := by
    rw [e6, e4]
    simp (disch := decide) only [sI_at, sI_ne, sI_21, sI_22, sJ_1, sJ_at, sJ_ne, sJ_22, sW_1, sW_21, upd_at, upd_ne]
    rw [f2.j 9 (by decide)]
    rfl
  rw [show r1.length + (r2.length + t.flatten.length) - (r1.length + r2.length) = t.flatten.length by omega] at r9
  refine c_mf_75 (c := t.length + 2) (ln := h.1 11) (by omega) hc t.length 2 h6 (by omega) (Nat.le_refl _) (by rw [f6.i 7 (by decide)]; exact q3) (fun j hj => by omega) (fun j j1 j2 => by rw [f6.i 11 (by decide)]) (fun h' y1 y2 y3 y4 => K h' ((f6.mono (by decide)).tr (y1.mono (by decide))) ⟨?_, ?_, ?_, fun i hi => absurd hi (Nat.not_lt_zero _), fun i hi => ?_, fun i hi => ?_⟩)
  · rw [y2, upd_ne _ _ (by decide), f6.i 7 (by decide)]
    exact q1
  · rw [y2, upd_ne _ _ (by decide), f6.i 7 (by decide), q2, fl_app, List.length_append, il]
    congr 1
    omega
  · rw [y2, upd_at, List.length_append, List.length_singleton]
    congr 1
  · rw [y1.j 9 (by decide), r9, cpy_at, fl_app]
    rw [fl_app, List.length_append, il] at hi
    by_cases q : i < t.flatten.length
    · rw [if_neg (by omega), cpy_at, if_pos (by omega), gD_apl q, Nat.sub_zero, q5 _ (by omega), gD_apr (by omega), gD_apr (by omega)]
      congr 1
      omega
    · rw [if_pos (by omega), gD_apr q, Nat.zero_add]
      exact a2 _ (by omega)
  · rw [gD_app hi]
    rw [List.length_append, List.length_singleton] at hi
    by_cases q : i < t.length
    · rw [if_pos q, y3 i (by omega), q6 (i + 2) (by omega)]
      rfl
    · rw [if_neg q, show i = t.length + 2 - 2 by omega, y4, il]
theorem c_blocksFor {n : Nat} (hn : n < 100000) (K : Q (some (vI (nI ((n + 7) / 8)))) h) : EvM mX6_blocksFor [vI (nI n)] h Q := by
  apply sX6_blocksFor
  have e : (nI n + 8 - 1) / 8 = nI ((n + 7) / 8) := by
    rw [show nI n + 8 - 1 = nI (n + 7) by
      simp (disch := omega) only [nt_le, nt_lt, nt_eq, nt_cl, nt_vp, nI_add, lu_le, lu_lt, lu_eq, ul_le, ul_lt, ul_eq, lu_add, ul_add, lu_sub, lu_mul, ul_mul, nt_sub, nt_m1]
      rfl]
    exact pk_div (a := n + 7) (d := 8) (by omega) (by decide) (by decide)
  rw [e]
  exact K
theorem c_scan_10 {tp tk tv dp : Nat → Int32} {a : Nat} (ha : a + 12 ≤ 240) (hn : (op ++ pgE tp tk a 12).Nodup) (ho : op.length < 24) : ∀ (d j : Nat) (h : Hp), j + d = 12 → C_tb tp tk tv dp h → C_rn cl (op ++ pgE tp tk a j) h → (∀ h', fr [7, 8] h h' → C_rn cl (op ++ pgE tp tk a 12) h' → Ev mX6_scanPage 10 [(0, vR 0), (1, vI (nI a)), (2, vI (nI (a + 12)))] [] h' Q) → Ev mX6_scanPage 10 [(0, vR 0), (1, vI (nI a)), (2, vI (nI (a + j)))] [] h Q := by
  have pre : ∀ n d, pgE tp tk a n <+: pgE tp tk a (n + d) := by
    intro n d
    induction d with
    | zero => exact List.prefix_refl _
    | succ d ih => exact ih.trans (by show pgE tp tk a (n + d) <+: pgE tp tk a (n + d) ++ _; exact List.prefix_append _ _)
  intro d
  induction d with
  | zero =>
    intro j h hj T R K
    have e : j = 12 := by omega
    subst e
    exact K h fr.rf R
  | succ d ih =>
    intro j h hj T R K
    have pl := pgE_len tp tk a j
    apply sX6_scanPage_10
    simp (disch := omega) only [nt_le, nt_lt, nt_eq, nt_cl, nt_vp, nI_add, lu_le, lu_lt, lu_eq, ul_le, ul_lt, ul_eq, lu_add, ul_add, lu_sub, lu_mul, ul_mul, nt_sub, nt_m1]
    refine ⟨fun z => by omega, fun _ => ?_⟩
    refine c_has_in T (by omega) (fun z => ⟨0, rfl, fun _ => ?_, fun y => absurd rfl y⟩) (fun z => ⟨1, rfl, fun y => absurd y (by decide), fun _ => ?_⟩)
    · refine ih (j + 1) h (by omega) T ?_ K
      rw [pgE, if_pos z, List.append_nil]
      exact R
    · refine c_keyAt T (by omega) z ⟨_, rfl, ?_⟩
      apply sX6_entryOf
      refine ⟨_, rfl, ?_⟩
      have e1 : pgE tp tk a (j + 1) = pgE tp tk a j ++ [(tk (a + j)).toInt * 256 + ((a + j : Nat) : Int)] := by
        rw [pgE, if_neg z]
      refine c_pick R (ent_of (tk (a + j)) (show a + j < 256 by omega)) ?_ (by rw [List.length_append]; omega) (fun h' f R' => ⟨rfl, ?_⟩)
      · rw [List.append_assoc, ← e1]
        have := pre (j + 1) d
        rw [show j + 1 + d = 12 by omega] at this
        exact List.Nodup.sublist ((List.prefix_append_right_inj op).mpr this).sublist hn
      · refine ih (j + 1) h' (by omega) (C_tb.fr T f (by decide)) ?_ (fun h2 f2 R2 => K h2 (f.tr f2) R2)
        rw [e1, ← List.append_assoc]
        exact R'
theorem c_scanPage (C : CX X L N h) (I : PI X L) (q : X.2.2.1.1 = 1) (K : ∀ h', fr Uc h h' → CX (scX X).2 L N h' → Q (some (vI (bI (scX X).1))) h') : EvM mX6_scanPage [vR 0] h Q := by
  obtain ⟨⟨b1, b2, b3, b4, b5⟩, c1, c2, c3, c4, c5, c6, c7⟩ := I.2.2.2.2.2.2.2.2.2.1 (by omega)
  obtain ⟨c5a, c5b, c5c⟩ := c5 q
  have pm := fun x => pgE_mem X.2.1.1 X.2.1.2.1 (12 * X.2.2.2.1.1) x 12 (by omega)
  have pn := pgE_nd X.2.1.1 X.2.1.2.1 (12 * X.2.2.2.1.1) 12 (by omega)
  have pl := pgE_len X.2.1.1 X.2.1.2.1 (12 * X.2.2.2.1.1) 12
  have sl : (scO X).length = X.2.2.2.1.2.2.1.length + (pgE X.2.1.1 X.2.1.2.1 (12 * X.2.2.2.1.1) 12).length := by
    unfold scO
    rw [List.length_append]
  have l24 := fl_24 c5c
  rw [List.length_append] at c1
  have ndS : (X.2.2.2.1.2.2.1 ++ pgE X.2.1.1 X.2.1.2.1 (12 * X.2.2.2.1.1) 12).Nodup := by
    rw [List.nodup_append]
    refine ⟨(List.nodup_append.mp c3).2.1, pn, fun x hx y hy e => ?_⟩
    subst e
    obtain ⟨p, p1, p2, p3, -⟩ := (pm x).mp hy
    have := (c4 x (List.mem_append_right _ hx)).2
    omega
  obtain ⟨H1, H2, H3, H4, H5, H6, H7⟩ := C
  apply sX6_scanPage
  have m12 : nI X.2.2.2.1.1 * 12 = nI (12 * X.2.2.2.1.1) := by
    rw [Nat.mul_comm]
    simp (disch := omega) only [nt_le, nt_lt, nt_eq, nt_cl, nt_vp, nI_add, lu_le, lu_lt, lu_eq, ul_le, ul_lt, ul_eq, lu_add, ul_add, lu_sub, lu_mul, ul_mul, nt_sub, nt_m1]
  rw [H4.1, m12]
  have n1 := nt_eq (a := X.2.2.2.1.1 + 1) (b := 20) (by omega) (by decide)
  refine c_scan_10 (tp := X.2.1.1) (tk := X.2.1.2.1) (tv := X.2.1.2.2.1) (dp := X.2.1.2.2.2) (cl := X.2.2.2.1.2.1) (op := X.2.2.2.1.2.2.1) (a := 12 * X.2.2.2.1.1) (by omega) ndS c5b 12 0 h (by omega) H2 (by show C_rn _ (_ ++ []) h; rw [List.append_nil]; exact H4.2.1) (fun h1 f1 R1 => ?_)
  have g1 : fz 0 [7, 8] [] h h1 := fz.of f1 (by decide)
  apply sX6_scanPage_10
  simp (disch := omega) only [nt_le, nt_lt, nt_eq, nt_cl, nt_vp, nI_add, lu_le, lu_lt, lu_eq, ul_le, ul_lt, ul_eq, lu_add, ul_add, lu_sub, lu_mul, ul_mul, nt_sub, nt_m1]
  refine ⟨fun _ h2 e2 => ?_, fun z => absurd (Nat.le_refl _) z⟩
  have g2 : fz 0 [0, 7, 8] [4] h h2 := by
    refine (g1.mono (by decide) (by decide)).tr ?_
    rw [e2]
    (repeat first | exact fz.rf | refine fz.up ?_ (by decide) (by decide) | refine fz.sI ?_ (by decide) (by decide) _ | refine fz.sJ ?_ (by decide) _)
  have p2 : h2.1 0 4 = nI (X.2.2.2.1.1 + 1) := by
    rw [e2]
    simp (disch := decide) only [sI_at, sI_ne, sI_21, sI_22, sJ_1, sJ_at, sJ_ne, sJ_22, sW_1, sW_21, upd_at, upd_ne]
    rw [g1.2 4 (by decide), H4.1]
    exact nI_1 _
  have R2 : C_rn X.2.2.2.1.2.1 (scO X) h2 := R1.k (U := [0]) (by rw [e2]; (repeat first | exact fr.rf | refine fr.sI ?_ (by decide) _ | refine fr.sJ ?_ (by decide) _ | refine fr.sW ?_ (by decide) _ _)) (by decide)
  clear e2
  -- the rest, from the join on
  have rest : ∀ (h3 : Hp) (s : Int32), (s = 0 ↔ ¬ X.2.2.2.1.1 + 1 = 20) → fz 0 [0, 7, 8] [2, 4] h h3 → h3.1 0 4 = nI (X.2.2.2.1.1 + 1) → C_rn X.2.2.2.1.2.1 (scO X) h3 → h3.1 0 2 = nI (if X.2.2.2.1.1 + 1 = 20 then 2 else 1) → Ev mX6_scanPage 88 [(0, vR 0), (2, vI s)] [] h3 Q := by
    intro h3 s hs g3 p3 R3 s3
    have C3 : ∀ (cl' : List (List Int)) (op' : List Int) (h4 : Hp), fr [7, 9, 11] h3 h4 → C_rn cl' op' h4 → CX (X.1, X.2.1, (if X.2.2.2.1.1 + 1 = 20 then 2 else 1, X.2.2.1.2), (X.2.2.2.1.1 + 1, cl', op', X.2.2.2.1.2.2.2), X.2.2.2.2) L N h4 := by
      intro cl' op' h4 f4 R4
      have g4 : fz 0 [0, 7, 8, 9, 11] [2, 4] h h4 := (g3.mono (by decide) (by decide)).tr ((fz.of (F := []) f4 (by decide)).mono (by decide) (by decide))
      refine ⟨H1.k g4.1 (by decide), H2.k g4.1 (by decide), ⟨?_, ?_, ?_, ?_, ?_⟩, ⟨?_, R4, H4.2.2.k g4.1 (by decide)⟩, fun z => ?_, H6.k g4.1 (by decide) (by decide), H7.k g4 (by decide) (by decide)⟩
      · rw [f4.i 0 (by decide)]
        exact s3
      · rw [g4.2 3 (by decide)]
        exact H3.2.1
      · rw [g4.2 5 (by decide)]
        exact H3.2.2.1
      · rw [g4.2 6 (by decide)]
        exact H3.2.2.2.1
      · rw [g4.2 7 (by decide)]
        exact H3.2.2.2.2
      · rw [f4.i 0 (by decide)]
        exact p3
      · have z : (if X.2.2.2.1.1 + 1 = 20 then 2 else 1) = 3 := z
        split at z <;> omega
    have F3 : fr Uc h h3 := g3.1.mono (by decide)
    have close : scC X → Ev mX6_scanPage 110 [(0, vR 0), (3, vI (nI (scO X).length))] [] h3 Q := by
      intro sc
      apply sX6_scanPage_110
      refine c_closeRun R3 (by unfold scC at sc; omega) (by omega) (by omega) (fun h4 f4 R4 => ⟨rfl, ?_⟩)
      refine c_blocksFor (by omega) ⟨_, rfl, ?_⟩
      have C4 : CX (scY X) L N h4 := by
        have := C3 _ _ h4 f4 R4
        unfold scY
        rw [if_pos sc, if_pos sc]
        exact this
      have s7 : (scY X).2.2.1.1 < 7 := by
        show (if X.2.2.2.1.1 + 1 = 20 then 2 else 1) < 7
        split <;> omega
      refine c_putBlocks C4 s7 (by omega) (fun h5 f5 C5 => ⟨_, rfl, by cases (ptX _ _).1 <;> decide, ?_⟩)
      have ex : scX X = ptX (((scO X).length + 7) / 8) (scY X) := by
        unfold scX
        rw [if_pos sc]
      rw [ex] at K
      exact K h5 (F3.tr ((f4.mono (by decide)).tr f5)) C5
    have keep : ¬ scC X → Q (some (vI 1)) h3 := by
      intro sc
      have ex : scX X = (true, scY X) := by
        unfold scX
        rw [if_neg sc]
      rw [ex] at K
      refine K h3 F3 ?_
      have := C3 _ _ h3 fr.rf R3
      unfold scY
      rw [if_neg sc, if_neg sc]
      exact this
    apply sX6_scanPage_88
    apply sX3_pickedCount
    rw [R3.1]
    refine ⟨_, rfl, ?_⟩
    rw [hs]
    simp (disch := omega) only [nt_le, nt_lt, nt_eq, nt_cl, nt_vp, nI_add, lu_le, lu_lt, lu_eq, ul_le, ul_lt, ul_eq, lu_add, ul_add, lu_sub, lu_mul, ul_mul, nt_sub, nt_m1]
    refine ⟨fun z => close (Or.inl z), fun z => ⟨fun y => keep ?_, fun y => ⟨fun w => keep ?_, fun w => close (Or.inr ⟨Decidable.not_not.mp y, by omega⟩)⟩⟩⟩
    · unfold scC
      omega
    · unfold scC
      omega
  rw [p2]
  simp (disch := omega) only [nt_le, nt_lt, nt_eq, nt_cl, nt_vp, nI_add, lu_le, lu_lt, lu_eq, ul_le, ul_lt, ul_eq, lu_add, ul_add, lu_sub, lu_mul, ul_mul, nt_sub, nt_m1]
  refine ⟨fun z => ?_, fun z => ?_⟩
  · apply sX6_scanPage_78
    refine ⟨fun _ => ?_, fun y => absurd rfl y⟩
    refine rest h2 0 ⟨fun _ => by omega, fun _ => rfl⟩ (g2.mono (by decide) (by decide)) p2 R2 ?_
    rw [g2.2 2 (by decide), if_neg (by omega), H3.1, q]
  · apply sX6_scanPage_78
    refine ⟨fun y => absurd y (by decide), fun _ h3 e3 => ?_⟩
    refine rest h3 1 ⟨fun y => absurd y (by decide), fun y => absurd (by omega) y⟩ ((g2.mono (by decide) (by decide)).tr ?_) ?_ (R2.k (U := [0]) (by rw [e3]; (repeat first | exact fr.rf | refine fr.sI ?_ (by decide) _ | refine fr.sJ ?_ (by decide) _ | refine fr.sW ?_ (by decide) _ _)) (by decide)) ?_
    · rw [e3]
      (repeat first | exact fz.rf | refine fz.up ?_ (by decide) (by decide) | refine fz.sI ?_ (by decide) (by decide) _ | refine fz.sJ ?_ (by decide) _)
    · rw [e3]
      simp (disch := decide) only [sI_at, sI_ne, sI_21, sI_22, sJ_1, sJ_at, sJ_ne, sJ_22, sW_1, sW_21, upd_at, upd_ne]
      exact p2
    · rw [e3, if_pos (by omega)]
      simp (disch := decide) only [sI_at, sI_ne, sI_21, sI_22, sJ_1, sJ_at, sJ_ne, sJ_22, sW_1, sW_21, upd_at, upd_ne]
      rfl
theorem c_mergeRuns (C : CX X L N h) (I : PI X L) (q : X.2.2.1.1 = 2) (K : ∀ h', fr Uc h h' → CX (mgX X).2 L N h' → Q (some (vI (bI (mgX X).1))) h') : EvM mX6_mergeRuns [vR 0] h Q := by
  obtain ⟨⟨b1, b2, b3, b4, b5⟩, c1, c2, c3, c4, c5, c6, c7⟩ := I.2.2.2.2.2.2.2.2.2.1 (by omega)
  obtain ⟨c6a, c6b, c6c⟩ := c6 (by omega)
  have l0 := I.2.2.2.2.2.2.2.2.2.2.2.1 (by omega)
  have z0 := I.2.2.2.2.2.2.2.2.1 (by omega)
  have nn0 : nn X.2.2.2.2 = 0 := by
    unfold nn
    rw [cn_cg 64 (fun i _ => z0 i), cn_0]
  rw [c6b, List.append_nil] at c1 c3
  have hs := PR.s I
  obtain ⟨H1, H2, H3, H4, H5, H6, H7⟩ := C
  apply sX6_mergeRuns
  apply sX3_count
  rw [H4.2.1.2.2.1]
  refine ⟨_, rfl, ?_⟩
  simp (disch := omega) only [nt_le, nt_lt, nt_eq, nt_cl, nt_vp, nI_add, lu_le, lu_lt, lu_eq, ul_le, ul_lt, ul_eq, lu_add, ul_add, lu_sub, lu_mul, ul_mul, nt_sub, nt_m1]
  refine ⟨fun z h4 e4 => ?_, fun z => ?_⟩
  · have g4 : fz 0 [0] [2] h h4 := by
      rw [e4]
      (repeat first | exact fz.rf | refine fz.up ?_ (by decide) (by decide) | refine fz.sI ?_ (by decide) (by decide) _ | refine fz.sJ ?_ (by decide) _)
    apply sX3_total
    have t4 : h4.1 7 4 = nI X.2.2.2.1.2.1.flatten.length := by
      rw [g4.1.i 7 (by decide)]
      exact H4.2.1.2.1
    rw [t4]
    refine ⟨_, rfl, ?_⟩
    apply sX1_begin
    intro k1 d1 k2 d2 k3 d3 k4 d4
    have g5 : fr [12] h4 k4 := by
      rw [d4, d3, d2, d1]
      (repeat first | exact fr.rf | refine fr.sI ?_ (by decide) _ | refine fr.sJ ?_ (by decide) _ | refine fr.sW ?_ (by decide) _ _)
    have g6 : fz 0 [0, 12] [2] h k4 := (g4.mono (by decide) (by decide)).tr ((fz.of (F := []) g5 (by decide)).mono (by decide) (by decide))
    have ex : mgX X = (true, lbX X) := by
      unfold mgX
      split
      · next r1 r2 t hc =>
        rw [hc] at z
        exact absurd z (by simp)
      · rfl
    rw [ex] at K
    refine ⟨rfl, K k4 (g6.1.mono (by decide)) ⟨H1.k g6.1 (by decide), H2.k g6.1 (by decide), ⟨?_, ?_, ?_, ?_, ?_⟩, H4.k g6 (by decide) (by decide), fun _ => ?_, H6.k g6.1 (by decide) (by decide), H7.k g6 (by decide) (by decide)⟩⟩
    · rw [g5.i 0 (by decide), e4]
      simp (disch := decide) only [sI_at, sI_ne, sI_21, sI_22, sJ_1, sJ_at, sJ_ne, sJ_22, sW_1, sW_21, upd_at, upd_ne]
      rfl
    · rw [g6.2 3 (by decide)]
      exact H3.2.1
    · rw [g6.2 5 (by decide)]
      exact H3.2.2.1
    · rw [g6.2 6 (by decide)]
      exact H3.2.2.2.1
    · rw [g6.2 7 (by decide)]
      exact H3.2.2.2.2
    · rw [l0]
      show C_ld (true, 0, 0) X.2.2.2.1.2.1.flatten.length (nn X.2.2.2.2) k4
      rw [nn0, d4, d3, d2, d1]
      refine ⟨?_, ?_, ?_, ?_⟩ <;> simp (disch := decide) only [sI_at, sI_ne, sI_21, sI_22, sJ_1, sJ_at, sJ_ne, sJ_22, sW_1, sW_21, upd_at, upd_ne] <;> rfl
  · have two : ∃ r1 r2 t, X.2.2.2.1.2.1 = r1 :: r2 :: t := by
      cases e : X.2.2.2.1.2.1 with
      | nil =>
        rw [e] at z
        exact absurd (by simp) z
      | cons r1 t =>
        cases t with
        | nil =>
          rw [e] at z
          exact absurd (by simp) z
        | cons r2 t => exact ⟨r1, r2, t, rfl⟩
    obtain ⟨r1, r2, t, hc⟩ := two
    have R := H4.2.1
    rw [hc, c6b] at R
    rw [hc] at c1 c2 c3 c6c
    have n12 : (r1 ++ r2).Nodup := by
      rw [List.flatten_cons, List.flatten_cons, ← List.append_assoc] at c3
      exact (List.nodup_append.mp c3).1
    have l12 : r1.length + r2.length ≤ 240 := by
      rw [List.flatten_cons, List.flatten_cons, List.length_append, List.length_append] at c1
      omega
    refine c_mergeFirstTwo R (by omega) (by omega) (c2 r1 (by simp)) (c2 r2 (by simp)) n12 (fun h4 f4 R4 => ⟨_, rfl, ?_⟩)
    refine c_blocksFor (by omega) ⟨_, rfl, ?_⟩
    have g4 : fz 0 [7, 9, 10, 11] [] h h4 := fz.of f4 (by decide)
    have C4 : CX (mgY r1 r2 t X) L N h4 := by
      refine ⟨H1.k f4 (by decide), H2.k f4 (by decide), H3.k g4 (by decide), ⟨?_, ?_, H4.2.2.k f4 (by decide)⟩, fun y => ?_, H6.k f4 (by decide) (by decide), H7.k g4 (by decide) (by decide)⟩
      · rw [g4.2 4 (by decide)]
        exact H4.1
      · show C_rn (t ++ [isort (r1 ++ r2)]) X.2.2.2.1.2.2.1 h4
        rw [c6b]
        exact R4
      · have y : X.2.2.1.1 = 3 := y
        omega
    have ex : mgX X = ptX ((r1.length + r2.length + 7) / 8) (mgY r1 r2 t X) := by
      unfold mgX
      rw [hc]
    rw [ex] at K
    refine c_putBlocks C4 hs (by omega) (fun h5 f5 C5 => ⟨_, rfl, by cases (ptX _ _).1 <;> decide, K h5 ((f4.mono (by decide)).tr f5) C5⟩)
end CS2
