/-! the reference: a node is loaded -/
section MLD
variable {X : XT} {L : LT} {N : NT} {Q : Option AV → Hp → Prop}
theorem m_forget0 {h : Hp} (H1 : M_dk X.1 h) (H2 : M_T X.2.1 h) (H7 : M_an N h) (K : ∀ h', fz 27 [27, 40, 42] [11, 13, 14, 15, 16, 17, 20, 22, 33] h h' → MX (fgX X) L N h' → M_bd (0, [], [], []) h' → Q none h') : EvM mX7_forget [vR 27] h Q := by
  apply sX7_forget
  rintro _ rfl _ rfl _ rfl _ rfl _ rfl _ rfl _ rfl _ rfl h5 e5
  have f5 : fz 27 [27, 40, 42] [11, 13, 14, 15, 16, 17, 20, 22, 33] h h5 := by
    rw [e5]
    (repeat first | exact fz.rf | refine fz.up ?_ (by decide) (by decide) | refine fz.sI ?_ (by decide) (by decide) _ | refine fz.sJ ?_ (by decide) _)
  have s5 : M_sc (0, 0, 0, -1, -1) h5 := by
    rw [e5]
    refine ⟨?_, fun q => absurd rfl q, ?_, ?_, ?_⟩ <;> simp (disch := decide) only [sI_at, sI_ne, sI_21, sI_22, sJ_1, sJ_at, sJ_ne, sJ_22, sW_1, sW_21, upd_at, upd_ne]
    rfl
  have n5 : h5.1 27 33 = 0 := by
    rw [e5]
    simp (disch := decide) only [sI_at, sI_ne, sI_21, sI_22, sJ_1, sJ_at, sJ_ne, sJ_22, sW_1, sW_21, upd_at, upd_ne]
  have b5 : M_bd (0, [], [], []) h5 := by
    rw [e5]
    refine ⟨?_, ⟨?_, ?_, fun i hi => absurd hi (Nat.not_lt_zero _), fun i hi => absurd hi (Nat.not_lt_zero _)⟩, ?_, fun i hi => absurd hi (Nat.not_lt_zero _)⟩
    · simp (disch := decide) only [sI_at, sI_ne, sI_21, sI_22, sJ_1, sJ_at, sJ_ne, sJ_22, sW_1, sW_21, upd_at, upd_ne]
      rfl
    · simp (disch := decide) only [sI_at, sI_ne, sI_21, sI_22, sJ_1, sJ_at, sJ_ne, sJ_22, sW_1, sW_21, upd_at, upd_ne]
      rfl
    · simp (disch := decide) only [sI_at, sI_ne, sI_21, sI_22, sJ_1, sJ_at, sJ_ne, sJ_22, sW_1, sW_21, upd_at, upd_ne]
      rfl
    · simp (disch := decide) only [sI_at, sI_ne, sI_21, sI_22, sJ_1, sJ_at, sJ_ne, sJ_22, sW_1, sW_21, upd_at, upd_ne]
      rfl
  clear e5
  refine m_forget_47 80 0 h5 rfl (fun j hj => absurd hj (Nat.not_lt_zero _)) (fun h6 f6 z6 => ?_)
  have g6 : fz 27 [27, 40, 42] [11, 13, 14, 15, 16, 17, 20, 22, 33] h5 h6 := (fz.of (F := []) f6 (by decide)).mono (by decide) (by decide)
  have f : fz 27 [27, 40, 42] [11, 13, 14, 15, 16, 17, 20, 22, 33] h h6 := f5.tr g6
  have g7 : fz 27 [40, 42] [] h5 h6 := fz.of f6 (by decide)
  refine K h6 f ⟨H1.k f (by decide), H2.k f.1 (by decide), s5.k g7 (by decide), fun q => absurd q.1 (by show ¬ 1 ≤ 0; decide), fun q => absurd q.1 (by show ¬ 1 ≤ 0; decide), ⟨⟨fun n hn => ⟨z6 n hn, fun q => absurd rfl q⟩, ?_, fun n hn q => absurd rfl q⟩, fun q => ?_⟩, H7.k f (by decide) (by decide)⟩ (b5.k g7 (by decide) (by decide))
  · rw [g7.2 33 (by decide), n5]
    show (0 : Int32) = nI (cn (fun _ => 0) 80)
    rw [cn_0]
    rfl
  · exact absurd q (by show ¬ ((0 : Nat) = 4 ∨ (0 : Nat) = 5); decide)
/-- a block, whatever the loading is at -/
theorem m_blk {h : Hp} (d : M_dk X.1 h) (H2 : M_T X.2.1 h) (H7 : M_an N h) (s : h.1 27 11 = 3) (q : X.2.2.1.1 = 3) (hd : X.1.1 = 0) (K1 : (ptX 1 X).1 = true → ∀ h', fz 27 [27] [5, 6] h h' → M_dk (dkO 1 X.1) h' → Q (some (vI 1)) h') (K0 : (ptX 1 X).1 = false → ∀ h', fr Um h h' → MX (ptX 1 X).2 L N h' → Q (some (vI 0)) h') : EvM mX7_block [vR 27] h Q := by
  have dc := d.2.1 hd
  apply sX7_block
  intro h1 e1
  have v5 : h1.1 27 5 = X.1.2.1 := by
    rw [e1]
    simp (disch := decide) only [sI_at, sI_ne, sI_21, sI_22, sJ_1, sJ_at, sJ_ne, sJ_22, sW_1, sW_21, upd_at, upd_ne]
    exact dc
  rw [v5]
  refine ⟨fun z => ?_, fun z => ?_⟩
  · have w1 : wr 1 X.1.2.1 X.1.2.2.1 = (true, if X.1.2.1 ≤ 0 then X.1.2.1 else X.1.2.1 - 1, X.1.2.2.1 + 1) := by rw [wr_1, if_neg z]
    have ok : (ptX 1 X).1 = true := by
      rw [ptX, w1, if_pos rfl]
    have key : ∀ h4, h4 = sI h1 27 (upd (h1.1 27) 5 (if X.1.2.1 ≤ 0 then X.1.2.1 else X.1.2.1 - 1)) → Q (some (vI 1)) h4 := by
      intro h4 e4
      have f4 : fz 27 [27] [5, 6] h h4 := by
        rw [e4, e1]
        (repeat first | exact fz.rf | refine fz.up ?_ (by decide) (by decide) | refine fz.sI ?_ (by decide) (by decide) _ | refine fz.sJ ?_ (by decide) _)
      refine K1 ok h4 f4 ?_
      unfold dkO
      rw [w1, e4, e1]
      refine ⟨?_, fun _ => ?_, ?_, ?_, ?_, ?_⟩ <;> simp (disch := decide) only [sI_at, sI_ne, sI_21, sI_22, sJ_1, sJ_at, sJ_ne, sJ_22, sW_1, sW_21, upd_at, upd_ne]
      · exact d.1
      · rw [d.2.2.1]
      · exact d.2.2.2.1
      · exact d.2.2.2.2.1
      · exact d.2.2.2.2.2
    refine ⟨fun q2 h4 e4 => ?_, fun q2 h4 e4 => ?_⟩
    · rw [if_pos q2] at key
      exact key h4 e4
    · rw [if_neg q2] at key
      exact key h4 e4
  · have w1 : wr 1 X.1.2.1 X.1.2.2.1 = (false, 0, X.1.2.2.1 + 1) := by rw [wr_1, if_pos z]
    have e9 : ptX 1 X = (false, fgX (dkX 1 X.1, X.2)) := by
      rw [ptX, w1, if_neg (show ¬ false = true by decide), if_neg (by omega)]
    rw [e9] at K0
    rintro _ rfl h7 e7
    have f7 : fz 27 [27] [4, 5, 6] h h7 := by
      rw [e7, e1]
      (repeat first | exact fz.rf | refine fz.up ?_ (by decide) (by decide) | refine fz.sI ?_ (by decide) (by decide) _ | refine fz.sJ ?_ (by decide) _)
    have D7 : M_dk (dkX 1 X.1) h7 := by
      unfold dkX
      rw [w1, e7, e1]
      refine ⟨?_, fun z => absurd z (by show ¬ (1 : Int32) = 0; decide), ?_, ?_, ?_, ?_⟩ <;> simp (disch := decide) only [sI_at, sI_ne, sI_21, sI_22, sJ_1, sJ_at, sJ_ne, sJ_22, sW_1, sW_21, upd_at, upd_ne]
      · rw [d.2.2.1]
      · exact d.2.2.2.1
      · exact d.2.2.2.2.1
      · exact d.2.2.2.2.2
    clear e7
    have s7 : h7.1 27 11 = 3 := by
      rw [f7.2 11 (by decide)]
      exact s
    rw [s7]
    refine ⟨fun y => absurd y (by decide), fun _ => ?_⟩
    exact m_forget0 (X := (dkX 1 X.1, X.2)) (L := L) D7 (H2.k f7.1 (by decide)) (H7.k f7 (by decide) (by decide)) (fun h9 f9 M9 _ => ⟨rfl, K0 rfl h9 ((f7.1.mono (by decide)).tr (f9.1.mono (by decide))) M9⟩)
theorem M_app {S : SR} {m : Nat} {v : Int32} {l : List Int} {e : Int} {h h' : Hp} (H : M_st (adS m v l S) h) (B : ∀ n, ¬ nu S n = 0 → nz S n ≤ 9) (hm : m < 80) (hl : l.length ≤ 8) (f : fr [27, 43, 44, 45, 46] h h') (h33 : h'.1 27 33 = h.1 27 33) (a43 : h'.1 43 = upd (h.1 43) m (nI (l.length + 1))) (ao : ∀ c j, c = 44 ∨ c = 45 ∨ c = 46 → j ≠ 9 * m + l.length → h'.1 c j = h.1 c j) (as : slt v e (h'.1 44 (9 * m + l.length)) (h'.1 45 (9 * m + l.length)) (h'.1 46 (9 * m + l.length))) : M_st (adS m v (l ++ [e]) S) h' := by
  have u : ∀ n, nu (adS m v (l ++ [e]) S) n = nu (adS m v l S) n := fun _ => rfl
  refine ⟨fun n hn => ?_, ?_, fun n hn hu => ?_⟩
  · rw [f.i 40 (by decide), f.i 42 (by decide)]
    exact H.1 n hn
  · rw [h33]
    exact H.2.1
  · obtain ⟨q1, q2, q3⟩ := H.2.2 n hn hu
    rw [a43, f.i 41 (by decide)]
    by_cases z : n = m
    · subst z
      rw [ad_m.2.1] at q2 q3
      rw [ad_m.1] at q3
      rw [upd_at, ad_m.1, ad_m.2.1, List.length_append]
      refine ⟨rfl, q2, fun i hi => ?_⟩
      rw [ad_m.2.2, gD_app (by rw [List.length_append]; exact hi)]
      by_cases y : i < l.length
      · rw [if_pos y, ao 44 _ (Or.inl rfl) (by omega), ao 45 _ (Or.inr (Or.inl rfl)) (by omega), ao 46 _ (Or.inr (Or.inr rfl)) (by omega)]
        have := q3 i y
        rw [ad_m.2.2] at this
        exact this
      · have hi : i < l.length + 1 := hi
        rw [if_neg y, show i = l.length by omega]
        exact as
    · have hu2 : ¬ nu S n = 0 := ((ad_us n).mp hu).resolve_left z
      rw [(ad_o z).1, (ad_o z).2.1, (ad_o z).2.2] at q3
      rw [(ad_o z).1] at q1
      rw [(ad_o z).2.1] at q2
      rw [upd_ne _ _ z, (ad_o z).1, (ad_o z).2.1, (ad_o z).2.2]
      refine ⟨q1, q2, fun i hi => ?_⟩
      have := B n hu2
      rw [ao 44 _ (Or.inl rfl) (by omega), ao 45 _ (Or.inr (Or.inl rfl)) (by omega), ao 46 _ (Or.inr (Or.inr rfl)) (by omega)]
      exact q3 i hi
/-- the leaf is filled -/
theorem m_ld_24 {S : SR} {m a E : Nat} {l fl : List Int} (B : ∀ n, ¬ nu S n = 0 → nz S n ≤ 9) (hm : m < 64) (hl : l.length = min 6 (E - a)) (haE : a ≤ E) (hE : E ≤ 240) (efl : E = fl.length) (hlf : ∀ i, i < l.length → l.getD i 0 = fl.getD (a + i) 0) : ∀ (d i : Nat) (h : Hp), i + d = l.length → M_st (adS m 0 (l.take i) S) h → h.1 27 17 = nI E → h.1 27 26 = nI (a + i) → (∀ i, i < fl.length → ent (h.1 32 i) (h.1 33 i) (fl.getD i 0)) →
    (∀ h', fz 27 [27, 43, 44, 45, 46] [26] h h' → M_st (adS m 0 l S) h' → h'.1 27 26 = nI (a + l.length) → Ev mX7_loadStep 189 [(0, vR 27), (1, vI (nI m))] [] h' Q) → Ev mX7_loadStep 24 [(0, vR 27), (1, vI (nI m))] [] h Q := by
  intro d
  induction d with
  | zero =>
    intro i h hi H h17 h26 A K
    have e : i = l.length := by omega
    subst e
    rw [List.take_length] at H
    have q1 := (H.2.2 m (by omega) ((ad_us m).mpr (Or.inl rfl))).1
    rw [ad_m.1] at q1
    apply sX7_loadStep_24
    rw [h17, h26]
    simp (disch := omega) only [nt_le, nt_lt, nt_eq, nt_cl, nt_vp, nI_add, lu_le, lu_lt, lu_eq, ul_le, ul_lt, ul_eq, lu_add, ul_add, lu_sub, lu_mul, ul_mul, nt_sub, nt_m1]
    rw [q1]
    simp (disch := omega) only [nt_le, nt_lt, nt_eq, nt_cl, nt_vp, nI_add, lu_le, lu_lt, lu_eq, ul_le, ul_lt, ul_eq, lu_add, ul_add, lu_sub, lu_mul, ul_mul, nt_sub, nt_m1]
    exact ⟨by omega, fun _ => K h fz.rf H h26, fun z => ⟨fun _ => K h fz.rf H h26, fun z2 => by omega⟩⟩
  | succ d ih =>
    intro i h hi H h17 h26 A K
    have tl : (l.take i).length = i := by
      rw [List.length_take]
      omega
    have tk := tk_snoc (l := l) (s := i) (by omega)
    have q1 := (H.2.2 m (by omega) ((ad_us m).mpr (Or.inl rfl))).1
    rw [ad_m.1, tl] at q1
    apply sX7_loadStep_24
    rw [h17, h26]
    simp (disch := omega) only [nt_le, nt_lt, nt_eq, nt_cl, nt_vp, nI_add, lu_le, lu_lt, lu_eq, ul_le, ul_lt, ul_eq, lu_add, ul_add, lu_sub, lu_mul, ul_mul, nt_sub, nt_m1]
    rw [q1]
    simp (disch := omega) only [nt_le, nt_lt, nt_eq, nt_cl, nt_vp, nI_add, lu_le, lu_lt, lu_eq, ul_le, ul_lt, ul_eq, lu_add, ul_add, lu_sub, lu_mul, ul_mul, nt_sub, nt_m1]
    refine ⟨by omega, fun z => by omega, fun _ => ⟨fun z => by omega, fun _ => ⟨by omega, by omega, by omega, fun h7 e7 => ⟨by omega, ?_⟩⟩⟩⟩
    have k26 : h7.1 27 26 = nI (a + i) := by
      rw [e7]
      simp (disch := decide) only [sI_at, sI_ne, sI_21, sI_22, sJ_1, sJ_at, sJ_ne, sJ_22, sW_1, sW_21, upd_at, upd_ne]
      exact h26
    have k43 : h7.1 43 m = nI i := by
      rw [e7]
      simp (disch := decide) only [sI_at, sI_ne, sI_21, sI_22, sJ_1, sJ_at, sJ_ne, sJ_22, sW_1, sW_21, upd_at, upd_ne]
      exact q1
    rw [k26, k43]
    simp (disch := omega) only [nt_le, nt_lt, nt_eq, nt_cl, nt_vp, nI_add, lu_le, lu_lt, lu_eq, ul_le, ul_lt, ul_eq, lu_add, ul_add, lu_sub, lu_mul, ul_mul, nt_sub, nt_m1]
    refine ⟨by omega, by omega, fun h11 e11 => ⟨by omega, by omega, fun h14 e14 h15 e15 => ?_⟩⟩
    have k43b : h11.1 43 m = nI i := by
      rw [e11]
      simp (disch := decide) only [sI_at, sI_ne, sI_21, sI_22, sJ_1, sJ_at, sJ_ne, sJ_22, sW_1, sW_21, upd_at, upd_ne]
      exact k43
    rw [k43b, show nI i + 1 = nI (i + 1) from nI_1 _] at e14
    have f15 : fz 27 [27, 43, 44, 45, 46] [26] h h15 := by
      rw [e15, e14, e11, e7]
      (repeat first | exact fz.rf | refine fz.up ?_ (by decide) (by decide) | refine fz.sI ?_ (by decide) (by decide) _ | refine fz.sJ ?_ (by decide) _)
    have r44 : h15.1 44 = upd (h.1 44) (9 * m + i) (h.1 32 (a + i)) := by
      rw [e15, e14, e11, e7]
      simp (disch := decide) only [sI_at, sI_ne, sI_21, sI_22, sJ_1, sJ_at, sJ_ne, sJ_22, sW_1, sW_21, upd_at, upd_ne]
    have r45 : h15.1 45 = upd (h.1 45) (9 * m + i) (h.1 33 (a + i)) := by
      rw [e15, e14, e11, e7]
      simp (disch := decide) only [sI_at, sI_ne, sI_21, sI_22, sJ_1, sJ_at, sJ_ne, sJ_22, sW_1, sW_21, upd_at, upd_ne]
    have r46 : h15.1 46 = h.1 46 := by
      rw [e15, e14, e11, e7]
      simp (disch := decide) only [sI_at, sI_ne, sI_21, sI_22, sJ_1, sJ_at, sJ_ne, sJ_22, sW_1, sW_21, upd_at, upd_ne]
    have H15 : M_st (adS m 0 (l.take (i + 1)) S) h15 := by
      rw [tk]
      refine M_app H B (by omega) (by omega) f15.1 (f15.2 33 (by decide)) ?_ (fun c j hc hj => ?_) ?_
      · rw [tl, e15, e14, e11, e7]
        simp (disch := decide) only [sI_at, sI_ne, sI_21, sI_22, sJ_1, sJ_at, sJ_ne, sJ_22, sW_1, sW_21, upd_at, upd_ne]
      · rw [tl] at hj
        rcases hc with z | z | z
        · rw [z, r44, upd_ne _ _ hj]
        · rw [z, r45, upd_ne _ _ hj]
        · rw [z, r46]
      · rw [tl, r44, r45, upd_at, upd_at, hlf i (by omega)]
        exact ⟨fun _ => A (a + i) (by omega), fun z => absurd rfl z⟩
    refine ih (i + 1) h15 (by omega) H15 ?_ ?_ (fun j hj => ?_) (fun h' y1 y2 y3 => K h' (f15.tr y1) y2 y3)
    · rw [f15.2 17 (by decide)]
      exact h17
    · rw [e15, e14, e11]
      simp (disch := decide) only [sI_at, sI_ne, sI_21, sI_22, sJ_1, sJ_at, sJ_ne, sJ_22, sW_1, sW_21, upd_at, upd_ne]
      rw [k26]
      exact nI_1 _
    · rw [f15.1.i 32 (by decide), f15.1.i 33 (by decide)]
      exact A j hj
/-- the node over nodes is filled -/
theorem m_ld_119 {S : SR} {m a E n0 : Nat} {l : List Int} (B : ∀ n, ¬ nu S n = 0 → nz S n ≤ 9) (hm : m < 64) (hl : l.length = min 6 (E - (a + n0))) (haE : a + n0 ≤ E) (hE : E ≤ 49) (hln : ∀ i, i < l.length → l.getD i 0 = ((a + n0 + i : Nat) : Int)) : ∀ (d i : Nat) (h : Hp), i + d = l.length → M_st (adS m 1 (l.take i) S) h → h.1 27 28 = nI (E - a) → h.1 27 30 = nI (n0 + i) → (∀ k, k < E - a → h.1 38 k = nI (a + k)) →
    (∀ h', fz 27 [27, 43, 44, 45, 46] [30] h h' → M_st (adS m 1 l S) h' → h'.1 27 30 = nI (n0 + l.length) → Ev mX7_loadStep 189 [(0, vR 27), (1, vI (nI m))] [] h' Q) → Ev mX7_loadStep 119 [(0, vR 27), (1, vI (nI m))] [] h Q := by
  intro d
  induction d with
  | zero =>
    intro i h hi H h28 h30 A K
    have e : i = l.length := by omega
    subst e
    rw [List.take_length] at H
    have q1 := (H.2.2 m (by omega) ((ad_us m).mpr (Or.inl rfl))).1
    rw [ad_m.1] at q1
    apply sX7_loadStep_119
    rw [h28, h30]
    simp (disch := omega) only [nt_le, nt_lt, nt_eq, nt_cl, nt_vp, nI_add, lu_le, lu_lt, lu_eq, ul_le, ul_lt, ul_eq, lu_add, ul_add, lu_sub, lu_mul, ul_mul, nt_sub, nt_m1]
    rw [q1]
    simp (disch := omega) only [nt_le, nt_lt, nt_eq, nt_cl, nt_vp, nI_add, lu_le, lu_lt, lu_eq, ul_le, ul_lt, ul_eq, lu_add, ul_add, lu_sub, lu_mul, ul_mul, nt_sub, nt_m1]
    exact ⟨by omega, fun _ => K h fz.rf H h30, fun z => ⟨fun _ => K h fz.rf H h30, fun z2 => by omega⟩⟩
  | succ d ih =>
    intro i h hi H h28 h30 A K
    have tl : (l.take i).length = i := by
      rw [List.length_take]
      omega
    have tk := tk_snoc (l := l) (s := i) (by omega)
    have q1 := (H.2.2 m (by omega) ((ad_us m).mpr (Or.inl rfl))).1
    rw [ad_m.1, tl] at q1
    apply sX7_loadStep_119
    rw [h28, h30]
    simp (disch := omega) only [nt_le, nt_lt, nt_eq, nt_cl, nt_vp, nI_add, lu_le, lu_lt, lu_eq, ul_le, ul_lt, ul_eq, lu_add, ul_add, lu_sub, lu_mul, ul_mul, nt_sub, nt_m1]
    rw [q1]
    simp (disch := omega) only [nt_le, nt_lt, nt_eq, nt_cl, nt_vp, nI_add, lu_le, lu_lt, lu_eq, ul_le, ul_lt, ul_eq, lu_add, ul_add, lu_sub, lu_mul, ul_mul, nt_sub, nt_m1]
    rw [A (n0 + i) (by omega)]
    refine ⟨by omega, fun z => by omega, fun _ => ⟨fun z => by omega, fun _ => ⟨by omega, by omega, by omega, fun h7 e7 => ⟨by omega, by omega, ?_⟩⟩⟩⟩
    have k43 : h7.1 43 m = nI i := by
      rw [e7]
      simp (disch := decide) only [sI_at, sI_ne, sI_21, sI_22, sJ_1, sJ_at, sJ_ne, sJ_22, sW_1, sW_21, upd_at, upd_ne]
      exact q1
    rw [k43]
    intro h10 e10 h11 e11
    rw [show nI i + 1 = nI (i + 1) from nI_1 _] at e10
    have f11 : fz 27 [27, 43, 44, 45, 46] [30] h h11 := by
      rw [e11, e10, e7]
      (repeat first | exact fz.rf | refine fz.up ?_ (by decide) (by decide) | refine fz.sI ?_ (by decide) (by decide) _ | refine fz.sJ ?_ (by decide) _)
    have r44 : h11.1 44 = h.1 44 := by
      rw [e11, e10, e7]
      simp (disch := decide) only [sI_at, sI_ne, sI_21, sI_22, sJ_1, sJ_at, sJ_ne, sJ_22, sW_1, sW_21, upd_at, upd_ne]
    have r45 : h11.1 45 = h.1 45 := by
      rw [e11, e10, e7]
      simp (disch := decide) only [sI_at, sI_ne, sI_21, sI_22, sJ_1, sJ_at, sJ_ne, sJ_22, sW_1, sW_21, upd_at, upd_ne]
    have r46 : h11.1 46 = upd (h.1 46) (9 * m + i) (nI (a + (n0 + i))) := by
      rw [e11, e10, e7]
      simp (disch := decide) only [sI_at, sI_ne, sI_21, sI_22, sJ_1, sJ_at, sJ_ne, sJ_22, sW_1, sW_21, upd_at, upd_ne]
    have H11 : M_st (adS m 1 (l.take (i + 1)) S) h11 := by
      rw [tk]
      refine M_app H B (by omega) (by omega) f11.1 (f11.2 33 (by decide)) ?_ (fun c j hc hj => ?_) ?_
      · rw [tl, e11, e10, e7]
        simp (disch := decide) only [sI_at, sI_ne, sI_21, sI_22, sJ_1, sJ_at, sJ_ne, sJ_22, sW_1, sW_21, upd_at, upd_ne]
      · rw [tl] at hj
        rcases hc with z | z | z
        · rw [z, r44]
        · rw [z, r45]
        · rw [z, r46, upd_ne _ _ hj]
      · rw [tl, r46, upd_at, hln i (by omega)]
        refine ⟨fun z => absurd z (by decide), fun _ => ⟨?_, by omega, by omega⟩⟩
        rw [Int.toNat_natCast]
        congr 1
        omega
    refine ih (i + 1) h11 (by omega) H11 ?_ ?_ (fun j hj => ?_) (fun h' y1 y2 y3 => K h' (f11.tr y1) y2 y3)
    · rw [f11.2 28 (by decide)]
      exact h28
    · rw [e11, e10, e7]
      simp (disch := decide) only [sI_at, sI_ne, sI_21, sI_22, sJ_1, sJ_at, sJ_ne, sJ_22, sW_1, sW_21, upd_at, upd_ne]
      rw [h30]
      exact nI_1 _
    · rw [f11.1.i 38 (by decide)]
      exact A j hj
/-- the row becomes the row before -/
theorem m_ld_314 {w : Nat} (hw : w ≤ 80) {h0 : Hp} : ∀ (d k : Nat) (h : Hp), k + d = w → fr [38] h0 h → h0.1 27 31 = nI w → (∀ i, i < k → h.1 38 i = h0.1 39 i) → (∀ h', fz 27 [27, 38] [30, 31] h0 h' → h'.1 27 30 = 0 → h'.1 27 31 = 0 → (∀ i, i < w → h'.1 38 i = h0.1 39 i) → Q (some (vI 1)) h') → Ev mX7_loadStep 314 [(0, vR 27), (3, vI (nI k))] [] h Q := by
  intro d
  induction d with
  | zero =>
    intro k h hk f h31 a K
    have e : k = w := by omega
    subst e
    apply sX7_loadStep_314
    rw [f.i 27 (by decide), h31]
    simp (disch := omega) only [nt_le, nt_lt, nt_eq, nt_cl, nt_vp, nI_add, lu_le, lu_lt, lu_eq, ul_le, ul_lt, ul_eq, lu_add, ul_add, lu_sub, lu_mul, ul_mul, nt_sub, nt_m1]
    refine ⟨fun _ h2 e2 h3 e3 => ?_, fun z => absurd (Nat.le_refl _) z⟩
    refine K h3 ?_ ?_ ?_ (fun i hi => ?_)
    · refine ((fz.of (F := []) f (by decide)).mono (by decide) (by decide)).tr ?_
      rw [e3, e2, ← f.i 27 (by decide)]
      (repeat first | exact fz.rf | refine fz.up ?_ (by decide) (by decide) | refine fz.sI ?_ (by decide) (by decide) _ | refine fz.sJ ?_ (by decide) _)
    · rw [e3, e2]
      simp (disch := decide) only [sI_at, sI_ne, sI_21, sI_22, sJ_1, sJ_at, sJ_ne, sJ_22, sW_1, sW_21, upd_at, upd_ne]
    · rw [e3]
      simp (disch := decide) only [sI_at, sI_ne, sI_21, sI_22, sJ_1, sJ_at, sJ_ne, sJ_22, sW_1, sW_21, upd_at, upd_ne]
    · rw [e3, e2]
      simp (disch := decide) only [sI_at, sI_ne, sI_21, sI_22, sJ_1, sJ_at, sJ_ne, sJ_22, sW_1, sW_21, upd_at, upd_ne]
      exact a i hi
  | succ d ih =>
    intro k h hk f h31 a K
    apply sX7_loadStep_314
    rw [f.i 27 (by decide), h31]
    simp (disch := omega) only [nt_le, nt_lt, nt_eq, nt_cl, nt_vp, nI_add, lu_le, lu_lt, lu_eq, ul_le, ul_lt, ul_eq, lu_add, ul_add, lu_sub, lu_mul, ul_mul, nt_sub, nt_m1]
    refine ⟨fun z => by omega, fun _ => ⟨by omega, by omega, fun h6 e6 => ?_⟩⟩
    have r38 : h6.1 38 = upd (h.1 38) k (h.1 39 k) := by
      rw [e6]
      simp (disch := decide) only [sI_at, sI_ne, sI_21, sI_22, sJ_1, sJ_at, sJ_ne, sJ_22, sW_1, sW_21, upd_at, upd_ne]
    refine ih (k + 1) h6 (by omega) (f.tr (by rw [e6]; (repeat first | exact fr.rf | refine fr.sI ?_ (by decide) _ | refine fr.sJ ?_ (by decide) _ | refine fr.sW ?_ (by decide) _ _))) h31 (fun i hi => ?_) K
    rw [r38]
    by_cases q : i = k
    · rw [q, upd_at, f.i 39 (by decide)]
    · rw [upd_ne _ _ q]
      exact a i (by omega)
end MLD
