/-! the reference: blocks, forgetting, stopping, checkpoints, writes -/
section MDN
variable {X : XT} {L : LT} {N : NT} {Q : Option AV → Hp → Prop}
theorem m_forget_47 : ∀ (d i : Nat) (h : Hp), i + d = 80 → (∀ j, j < i → h.1 40 j = 0) → (∀ h', fr [40, 42] h h' → (∀ j, j < 80 → h'.1 40 j = 0) → Q none h') → Ev mX7_forget 47 [(0, vR 27), (1, vI (nI i))] [] h Q
  | 0, i, h, hi, hj, K => by
    apply sX7_forget_47
    have e : i = 80 := by omega
    subst e
    simp (disch := omega) only [nt_le, nt_lt, nt_eq, nt_cl, nt_vp, nI_add, lu_le, lu_lt, lu_eq, ul_le, ul_lt, ul_eq, lu_add, ul_add, lu_sub, lu_mul, ul_mul, nt_sub, nt_m1]
    exact ⟨fun _ => K h fr.rf hj, fun c => absurd (Nat.le_refl _) c⟩
  | d + 1, i, h, hi, hj, K => by
    apply sX7_forget_47
    simp (disch := omega) only [nt_le, nt_lt, nt_eq, nt_cl, nt_vp, nI_add, lu_le, lu_lt, lu_eq, ul_le, ul_lt, ul_eq, lu_add, ul_add, lu_sub, lu_mul, ul_mul, nt_sub, nt_m1]
    refine ⟨fun c => by omega, fun c => ⟨by omega, fun h3 e3 => ⟨by omega, fun h4 e4 => ?_⟩⟩⟩
    have f3 : fr [40, 42] h h4 := by
      rw [e4, e3]
      (repeat first | exact fr.rf | refine fr.sI ?_ (by decide) _ | refine fr.sJ ?_ (by decide) _ | refine fr.sW ?_ (by decide) _ _)
    refine m_forget_47 d (i + 1) h4 (by omega) ?_ (fun h' f' z => K h' (f3.tr f') z)
    rw [e4, sI_ne _ _ (by decide), e3, sI_at]
    exact clr_st (f := h.1 40) hj
theorem m_forget {h : Hp} (H : MX X L N h) (K : ∀ h', fz 27 [27, 40, 42] [11, 13, 14, 15, 16, 17, 20, 22, 33] h h' → MX (fgX X) L N h' → M_bd (0, [], [], []) h' → Q none h') : EvM mX7_forget [vR 27] h Q := by
  obtain ⟨H1, H2, H3, H4, H5, H6, H7⟩ := H
  apply sX7_forget
  rintro _ rfl _ rfl _ rfl _ rfl _ rfl _ rfl _ rfl _ rfl h5 e5
  have f5 : fz 27 [27, 40, 42] [11, 13, 14, 15, 16, 17, 20, 22, 33] h h5 := by
    rw [e5]
    (repeat first | exact fz.rf | refine fz.up ?_ (by decide) (by decide) | refine fz.sI ?_ (by decide) (by decide) _ | refine fz.sJ ?_ (by decide) _)
  have s5 : M_sc (0, 0, 0, -1, -1) h5 := by
    rw [e5]
    refine ⟨?_, fun q => absurd rfl q, ?_, ?_, ?_⟩ <;> simp (disch := decide) only [sI_at, sI_ne, sI_21, sI_22, sJ_1, sJ_at, sJ_ne, sJ_22, sW_1, sW_21, upd_at, upd_ne]
    rfl
  have n5 : h5.1 27 33 = 0 := by
    rw [e5]
    simp (disch := decide) only [sI_at, sI_ne, sI_21, sI_22, sJ_1, sJ_at, sJ_ne, sJ_22, sW_1, sW_21, upd_at, upd_ne]
  have b5 : M_bd (0, [], [], []) h5 := by
    rw [e5]
    refine ⟨?_, ⟨?_, ?_, fun i hi => absurd hi (Nat.not_lt_zero _), fun i hi => absurd hi (Nat.not_lt_zero _)⟩, ?_, fun i hi => absurd hi (Nat.not_lt_zero _)⟩
    · simp (disch := decide) only [sI_at, sI_ne, sI_21, sI_22, sJ_1, sJ_at, sJ_ne, sJ_22, sW_1, sW_21, upd_at, upd_ne]
      rfl
    · simp (disch := decide) only [sI_at, sI_ne, sI_21, sI_22, sJ_1, sJ_at, sJ_ne, sJ_22, sW_1, sW_21, upd_at, upd_ne]
      rfl
    · simp (disch := decide) only [sI_at, sI_ne, sI_21, sI_22, sJ_1, sJ_at, sJ_ne, sJ_22, sW_1, sW_21, upd_at, upd_ne]
      rfl
    · simp (disch := decide) only [sI_at, sI_ne, sI_21, sI_22, sJ_1, sJ_at, sJ_ne, sJ_22, sW_1, sW_21, upd_at, upd_ne]
      rfl
  clear e5
  refine m_forget_47 80 0 h5 rfl (fun j hj => absurd hj (Nat.not_lt_zero _)) (fun h6 f6 z6 => ?_)
  have g6 : fz 27 [27, 40, 42] [11, 13, 14, 15, 16, 17, 20, 22, 33] h5 h6 := (fz.of (F := []) f6 (by decide)).mono (by decide) (by decide)
  have f : fz 27 [27, 40, 42] [11, 13, 14, 15, 16, 17, 20, 22, 33] h h6 := f5.tr g6
  have g7 : fz 27 [40, 42] [] h5 h6 := fz.of f6 (by decide)
  refine K h6 f ⟨H1.k f (by decide), H2.k f.1 (by decide), s5.k g7 (by decide), fun q => absurd q.1 (by show ¬ 1 ≤ 0; decide), fun q => absurd q.1 (by show ¬ 1 ≤ 0; decide), ⟨⟨fun n hn => ⟨z6 n hn, fun q => absurd rfl q⟩, ?_, fun n hn q => absurd rfl q⟩, fun q => ?_⟩, H7.k f (by decide) (by decide)⟩ (b5.k g7 (by decide) (by decide))
  · rw [g7.2 33 (by decide), n5]
    show (0 : Int32) = nI (cn (fun _ => 0) 80)
    rw [cn_0]
    rfl
  · exact absurd q (by show ¬ ((0 : Nat) = 4 ∨ (0 : Nat) = 5); decide)
theorem m_stop {h : Hp} (H : MX X L N h) {w : Int32} (hs : ¬ X.2.2.1.1 = 0) (hu : X.2.2.1.2.1 = 0 ∨ X.2.2.1.2.1 = 1) (ht : X.2.2.1.2.2.2 = (-1, -1)) (K : ∀ h', fz 27 [27, 40, 42] [11, 12, 13, 14, 15, 16, 17, 20, 22, 33] h h' → MX (stX w X) L N h' → Q none h') : EvM mX7_stop [vR 27, vI w] h Q := by
  apply sX7_stop
  have u := H.2.2.1.2.1 hs
  refine m_forget H (fun h1 f1 H1 _ => ⟨rfl, by rw [u]; exact hu, ?_⟩)
  obtain ⟨H1, H2, H3, H4, H5, H6, H7⟩ := H1
  rintro _ rfl _ rfl h5 e5
  have f5 : fz 27 [27] [11, 12, 13] h1 h5 := by
    rw [e5]
    (repeat first | exact fz.rf | refine fz.up ?_ (by decide) (by decide) | refine fz.sI ?_ (by decide) (by decide) _ | refine fz.sJ ?_ (by decide) _)
  have s5 : M_sc (6, X.2.2.1.2.1, w, X.2.2.1.2.2.2) h5 := by
    rw [e5, ht]
    refine ⟨?_, fun _ => ?_, ?_, ?_, ?_⟩ <;> simp (disch := decide) only [sI_at, sI_ne, sI_21, sI_22, sJ_1, sJ_at, sJ_ne, sJ_22, sW_1, sW_21, upd_at, upd_ne]
    · rfl
    · exact u
    · exact H3.2.2.2.1
    · exact H3.2.2.2.2
  clear e5
  refine K h5 ((f1.mono (by decide) (by decide)).tr (f5.mono (by decide) (by decide))) ⟨H1.k f5 (by decide), H2.k f5.1 (by decide), s5, fun q => absurd q.2 (by show ¬ 6 ≤ 4; decide), fun q => absurd q.2 (by show ¬ 6 ≤ 3; decide), ⟨H6.1.fr f5.1 (f5.2 33 (by decide)) (by decide), fun q => absurd q (by show ¬ ((6 : Nat) = 4 ∨ (6 : Nat) = 5); decide)⟩, H7.k f5 (by decide) (by decide)⟩
theorem MX.dk {D' : DK} {h h' : Hp} (H : MX X L N h) (f : fz 27 [27] [4, 5, 6, 7, 8, 9] h h') (d : M_dk D' h') : MX (D', X.2) L N h' := by
  obtain ⟨H1, H2, H3, H4, H5, H6, H7⟩ := H
  exact ⟨d, H2.k f.1 (by decide), H3.k f (by decide), fun q => (H4 q).k f (by decide) (by decide), fun q => (H5 q).k f (by decide) (by decide), H6.k f (by decide) (by decide), H7.k f (by decide) (by decide)⟩
theorem m_st {h : Hp} (H : MX X L N h) (hs : X.2.2.1.1 < 7) (k : Nat) (hk : k < 7) : h.1 27 11 = nI k ↔ X.2.2.1.1 = k := by
  rw [H.2.2.1.1]
  exact nt_eq (by omega) (by omega)
theorem wr_1 (c a : Int32) : wr 1 c a = if c = 0 then (false, 0, a + 1) else (true, if c ≤ 0 then c else c - 1, a + 1) := rfl
theorem m_block {h : Hp} (H : MX X L N h) (hs : X.2.2.1.1 < 7) (hd : X.1.1 = 0) (K : ∀ h', fz 27 [27, 40, 42] [4, 5, 6, 11, 13, 14, 15, 16, 17, 20, 22, 33] h h' → MX (ptX 1 X).2 L N h' → Q (some (vI (bI (ptX 1 X).1))) h') : EvM mX7_block [vR 27] h Q := by
  have d := H.1
  have dc := d.2.1 hd
  apply sX7_block
  intro h1 e1
  have v5 : h1.1 27 5 = X.1.2.1 := by
    rw [e1]
    simp (disch := decide) only [sI_at, sI_ne, sI_21, sI_22, sJ_1, sJ_at, sJ_ne, sJ_22, sW_1, sW_21, upd_at, upd_ne]
    exact dc
  rw [v5]
  have f1 : fz 27 [27] [4, 5, 6, 7, 8, 9] h h1 := by
    rw [e1]
    (repeat first | exact fz.rf | refine fz.up ?_ (by decide) (by decide) | refine fz.sI ?_ (by decide) (by decide) _ | refine fz.sJ ?_ (by decide) _)
  refine ⟨fun q => ?_, fun q => ?_⟩
  · have w1 : wr 1 X.1.2.1 X.1.2.2.1 = (true, if X.1.2.1 ≤ 0 then X.1.2.1 else X.1.2.1 - 1, X.1.2.2.1 + 1) := by rw [wr_1, if_neg q]
    rw [ptX, w1, if_pos rfl] at K
    have key : ∀ h4, h4 = sI h1 27 (upd (h1.1 27) 5 (if X.1.2.1 ≤ 0 then X.1.2.1 else X.1.2.1 - 1)) → Q (some (vI 1)) h4 := by
      intro h4 e4
      have f4 : fz 27 [27] [5, 6] h h4 := by
        rw [e4, e1]
        (repeat first | exact fz.rf | refine fz.up ?_ (by decide) (by decide) | refine fz.sI ?_ (by decide) (by decide) _ | refine fz.sJ ?_ (by decide) _)
      refine K h4 (f4.mono (by decide) (by decide)) (H.dk (f4.mono (by decide) (by decide)) ?_)
      unfold dkO
      rw [w1, e4, e1]
      refine ⟨?_, fun _ => ?_, ?_, ?_, ?_, ?_⟩ <;> simp (disch := decide) only [sI_at, sI_ne, sI_21, sI_22, sJ_1, sJ_at, sJ_ne, sJ_22, sW_1, sW_21, upd_at, upd_ne]
      · exact d.1
      · rw [d.2.2.1]
      · exact d.2.2.2.1
      · exact d.2.2.2.2.1
      · exact d.2.2.2.2.2
    refine ⟨fun q2 h4 e4 => ?_, fun q2 h4 e4 => ?_⟩
    · rw [if_pos q2] at key
      exact key h4 e4
    · rw [if_neg q2] at key
      exact key h4 e4
  · have w1 : wr 1 X.1.2.1 X.1.2.2.1 = (false, 0, X.1.2.2.1 + 1) := by rw [wr_1, if_pos q]
    have e9 : ptX 1 X = (false, if X.2.2.1.1 = 5 then (dkX 1 X.1, X.2) else fgX (dkX 1 X.1, X.2)) := by
      rw [ptX, w1, if_neg (show ¬ false = true by decide)]
    rw [e9] at K
    rintro _ rfl h7 e7
    have f7 : fz 27 [27] [4, 5, 6] h h7 := by
      rw [e7, e1]
      (repeat first | exact fz.rf | refine fz.up ?_ (by decide) (by decide) | refine fz.sI ?_ (by decide) (by decide) _ | refine fz.sJ ?_ (by decide) _)
    have H7 : MX (dkX 1 X.1, X.2) L N h7 := by
      refine H.dk (f7.mono (by decide) (by decide)) ?_
      unfold dkX
      rw [w1, e7, e1]
      refine ⟨?_, fun z => absurd z (by show ¬ (1 : Int32) = 0; decide), ?_, ?_, ?_, ?_⟩ <;> simp (disch := decide) only [sI_at, sI_ne, sI_21, sI_22, sJ_1, sJ_at, sJ_ne, sJ_22, sW_1, sW_21, upd_at, upd_ne]
      · rw [d.2.2.1]
      · exact d.2.2.2.1
      · exact d.2.2.2.2.1
      · exact d.2.2.2.2.2
    clear e7
    rw [show (5 : Int32) = nI 5 from rfl, m_st H7 hs 5 (by decide)]
    refine ⟨fun z => ?_, fun z => m_forget H7 (fun h9 f9 H9 _ => ⟨rfl, ?_⟩)⟩
    · have z : X.2.2.1.1 = 5 := z
      rw [if_pos z] at K
      exact K h7 (f7.mono (by decide) (by decide)) H7
    · have z : ¬ X.2.2.1.1 = 5 := z
      rw [if_neg z] at K
      exact K h9 ((f7.mono (by decide) (by decide)).tr (f9.mono (by decide) (by decide))) H9
theorem pt_s {d : Nat} (q : ¬ X.1.2.1 = 0) : (ptX 1 X).1 = true ∧ ptX (d + 1) X = ptX d (ptX 1 X).2 ∧ (ptX 1 X).2.1.1 = X.1.1 ∧ (ptX 1 X).2.2 = X.2 := by
  have w1 : wr 1 X.1.2.1 X.1.2.2.1 = (true, if X.1.2.1 ≤ 0 then X.1.2.1 else X.1.2.1 - 1, X.1.2.2.1 + 1) := by rw [wr_1, if_neg q]
  have p1 : ptX 1 X = (true, (dkO 1 X.1, X.2)) := by rw [ptX, w1, if_pos rfl]
  rw [p1]
  refine ⟨rfl, ?_, rfl, rfl⟩
  have w2 : wr (d + 1) X.1.2.1 X.1.2.2.1 = wr d (dkO 1 X.1).2.1 (dkO 1 X.1).2.2.1 := by
    unfold dkO
    rw [w1]
    show (if _ then _ else _) = _
    rw [if_neg q]
  unfold ptX dkO dkX
  rw [w2]
  rfl
theorem pt_x {d : Nat} (q : X.1.2.1 = 0) : (ptX 1 X).1 = false ∧ ptX (d + 1) X = ptX 1 X := by
  have w1 : ∀ d, wr (d + 1) X.1.2.1 X.1.2.2.1 = (false, 0, X.1.2.2.1 + 1) := by
    intro d
    show (if _ then _ else _) = _
    rw [if_pos q]
  unfold ptX dkO dkX
  rw [w1 d, w1 0]
  exact ⟨by rw [if_neg (show ¬ (false, (0 : Int32), X.1.2.2.1 + 1).1 = true from Bool.false_ne_true)], rfl⟩
theorem m_wb_4 {n : Nat} (hn : n < 2147483648) : ∀ (d i : Nat) (X : XT) (h : Hp), i + d = n → MX X L N h → X.2.2.1.1 < 7 → X.1.1 = 0 → (∀ h', fz 27 [27, 40, 42] [4, 5, 6, 11, 13, 14, 15, 16, 17, 20, 22, 33] h h' → MX (ptX d X).2 L N h' → Q (some (vI (bI (ptX d X).1))) h') → Ev mX7_writeBlocks 4 [(0, vR 27), (1, vI (nI n)), (2, vI 1), (3, vI (nI i))] [] h Q
  | 0, i, X, h, hi, H, hs, hd, K => by
    apply sX7_writeBlocks_4
    simp (disch := omega) only [nt_le, nt_lt, nt_eq, nt_cl, nt_vp, nI_add, lu_le, lu_lt, lu_eq, ul_le, ul_lt, ul_eq, lu_add, ul_add, lu_sub, lu_mul, ul_mul, nt_sub, nt_m1]
    refine ⟨fun _ => ⟨Or.inr trivial, ?_⟩, fun c => by omega⟩
    exact K h fz.rf H
  | d + 1, i, X, h, hi, H, hs, hd, K => by
    apply sX7_writeBlocks_4
    simp (disch := omega) only [nt_le, nt_lt, nt_eq, nt_cl, nt_vp, nI_add, lu_le, lu_lt, lu_eq, ul_le, ul_lt, ul_eq, lu_add, ul_add, lu_sub, lu_mul, ul_mul, nt_sub, nt_m1]
    refine ⟨fun c => by omega, fun c => ⟨fun z => absurd z (by decide), fun _ => ?_⟩⟩
    refine m_block H hs hd (fun h1 f1 H1 => ⟨_, rfl, ?_⟩)
    by_cases q : X.1.2.1 = 0
    · obtain ⟨a, b⟩ := pt_x (X := X) (d := d) q
      rw [b, a] at K
      rw [a]
      apply sX7_writeBlocks_4
      simp (disch := omega) only [nt_le, nt_lt, nt_eq, nt_cl, nt_vp, nI_add, lu_le, lu_lt, lu_eq, ul_le, ul_lt, ul_eq, lu_add, ul_add, lu_sub, lu_mul, ul_mul, nt_sub, nt_m1]
      have k := K h1 f1 H1
      exact ⟨fun _ => ⟨Or.inl rfl, k⟩, fun _ => ⟨fun _ => ⟨Or.inl rfl, k⟩, fun z => absurd rfl z⟩⟩
    · obtain ⟨a, b, c2, c3⟩ := pt_s (X := X) (d := d) q
      rw [b] at K
      rw [a]
      exact m_wb_4 hn d (i + 1) (ptX 1 X).2 h1 (by omega) H1 (by rw [c3]; exact hs) (by rw [c2]; exact hd) (fun h' f' H' => K h' (f1.tr f') H')
theorem m_writeBlocks {h : Hp} (H : MX X L N h) (hs : X.2.2.1.1 < 7) (hd : X.1.1 = 0) {n : Nat} (hn : n < 2147483648) (K : ∀ h', fz 27 [27, 40, 42] [4, 5, 6, 11, 13, 14, 15, 16, 17, 20, 22, 33] h h' → MX (ptX n X).2 L N h' → Q (some (vI (bI (ptX n X).1))) h') : EvM mX7_writeBlocks [vR 27, vI (nI n)] h Q := by
  apply sX7_writeBlocks
  exact m_wb_4 hn n 0 X h (by omega) H hs hd K
end MDN
