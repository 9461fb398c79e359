/-! the reference: checkpoints, writes, the table -/
section MD2
variable {X : XT} {L : LT} {N : NT} {Q : Option AV → Hp → Prop}
theorem m_clr_72 : ∀ (d i : Nat) (h : Hp), i + d = 20 → (∀ j, j < i → h.1 31 j = 0) → (∀ h', fr [31] h h' → (∀ j, j < 20 → h'.1 31 j = 0) → Ev mX7_checkpoint 93 [(0, vR 27), (3, vI 0)] [] h' Q) → Ev mX7_checkpoint 72 [(0, vR 27), (3, vI (nI i))] [] h Q
  | 0, i, h, hi, hj, K => by
    apply sX7_checkpoint_72
    have e : i = 20 := by omega
    subst e
    simp (disch := omega) only [nt_le, nt_lt, nt_eq, nt_cl, nt_vp, nI_add, lu_le, lu_lt, lu_eq, ul_le, ul_lt, ul_eq, lu_add, ul_add, lu_sub, lu_mul, ul_mul, nt_sub, nt_m1]
    exact ⟨fun _ => K h fr.rf hj, fun c => absurd (Nat.le_refl _) c⟩
  | d + 1, i, h, hi, hj, K => by
    apply sX7_checkpoint_72
    simp (disch := omega) only [nt_le, nt_lt, nt_eq, nt_cl, nt_vp, nI_add, lu_le, lu_lt, lu_eq, ul_le, ul_lt, ul_eq, lu_add, ul_add, lu_sub, lu_mul, ul_mul, nt_sub, nt_m1]
    refine ⟨fun c => by omega, fun c => ⟨by omega, fun h3 e3 => ?_⟩⟩
    have f3 : fr [31] h h3 := by
      rw [e3]
      (repeat first | exact fr.rf | refine fr.sI ?_ (by decide) _ | refine fr.sJ ?_ (by decide) _ | refine fr.sW ?_ (by decide) _ _)
    refine m_clr_72 d (i + 1) h3 (by omega) ?_ (fun h' f' z => K h' (f3.tr f') z)
    rw [e3, sI_at]
    exact clr_st (f := h.1 31) hj
theorem m_clr_93 : ∀ (d i : Nat) (h : Hp), i + d = 80 → (∀ j, j < i → h.1 42 j = 0) → (∀ h', fr [42] h h' → (∀ j, j < 80 → h'.1 42 j = 0) → Q (some (vI 1)) h') → Ev mX7_checkpoint 93 [(0, vR 27), (3, vI (nI i))] [] h Q
  | 0, i, h, hi, hj, K => by
    apply sX7_checkpoint_93
    have e : i = 80 := by omega
    subst e
    simp (disch := omega) only [nt_le, nt_lt, nt_eq, nt_cl, nt_vp, nI_add, lu_le, lu_lt, lu_eq, ul_le, ul_lt, ul_eq, lu_add, ul_add, lu_sub, lu_mul, ul_mul, nt_sub, nt_m1]
    exact ⟨fun _ => K h fr.rf hj, fun c => absurd (Nat.le_refl _) c⟩
  | d + 1, i, h, hi, hj, K => by
    apply sX7_checkpoint_93
    simp (disch := omega) only [nt_le, nt_lt, nt_eq, nt_cl, nt_vp, nI_add, lu_le, lu_lt, lu_eq, ul_le, ul_lt, ul_eq, lu_add, ul_add, lu_sub, lu_mul, ul_mul, nt_sub, nt_m1]
    refine ⟨fun c => by omega, fun c => ⟨by omega, fun h3 e3 => ?_⟩⟩
    have f3 : fr [42] h h3 := by
      rw [e3]
      (repeat first | exact fr.rf | refine fr.sI ?_ (by decide) _ | refine fr.sJ ?_ (by decide) _ | refine fr.sW ?_ (by decide) _ _)
    refine m_clr_93 d (i + 1) h3 (by omega) ?_ (fun h' f' z => K h' (f3.tr f') z)
    rw [e3, sI_at]
    exact clr_st (f := h.1 42) hj
theorem pt_ok {n : Nat} (h : (ptX n X).1 = true) : (ptX n X).2 = (dkO n X.1, X.2) := by
  unfold ptX at h ⊢
  split
  · rfl
  · next q =>
    rw [if_neg q] at h
    exact absurd h Bool.false_ne_true
theorem m_checkpoint {h : Hp} (H : MX X L N h) (hs : X.2.2.1.1 < 7) (hd : X.1.1 = 0) {nb : Nat} (hn : nb < 1000) (K : ∀ h', fz 27 [27, 31, 40, 42] [4, 5, 6, 7, 8, 9, 11, 13, 14, 15, 16, 17, 20, 22, 33] h h' → MX (ckX nb X).2 L N h' → Q (some (vI (bI (ckX nb X).1))) h') : EvM mX7_checkpoint [vR 27, vI (nI nb)] h Q := by
  apply sX7_checkpoint
  have c20 := cn_le X.2.1.2.2.2 20
  rw [show (1 : Int32) + nI nb = nI (1 + nb) from nI_add 1 nb]
  have go : ∀ d i, i + d = 20 → Ev mX7_checkpoint 6 [(0, vR 27), (2, vI (nI (1 + nb + cn X.2.1.2.2.2 i))), (3, vI (nI i))] [] h Q := by
    intro d
    induction d with
    | zero =>
      intro i hi
      have e : i = 20 := by omega
      subst e
      apply sX7_checkpoint_6
      simp (disch := omega) only [nt_le, nt_lt, nt_eq, nt_cl, nt_vp, nI_add, lu_le, lu_lt, lu_eq, ul_le, ul_lt, ul_eq, lu_add, ul_add, lu_sub, lu_mul, ul_mul, nt_sub, nt_m1]
      refine ⟨fun _ => ?_, fun c => absurd (Nat.le_refl _) c⟩
      rw [show 1 + nb + cn X.2.1.2.2.2 20 = ckN nb X by unfold ckN; omega]
      refine m_writeBlocks H hs hd (by unfold ckN; omega) (fun h1 f1 H1 => ⟨_, rfl, fun q => ?_, fun q => ?_⟩)
      · have ok : (ptX (ckN nb X) X).1 = true := by
          rw [bI_0] at q
          simpa using q
        have e1 := pt_ok ok
        rw [ckX, if_pos ok] at K
        obtain ⟨A1, A2, A3, A4, A5, A6, A7⟩ := H1
        rintro _ rfl _ rfl h4 e4
        have f4 : fz 27 [27] [7, 8, 9] h1 h4 := by
          rw [e4]
          (repeat first | exact fz.rf | refine fz.up ?_ (by decide) (by decide) | refine fz.sI ?_ (by decide) (by decide) _ | refine fz.sJ ?_ (by decide) _)
        have d4 : M_dk (ckY (ckN nb X) (ptX (ckN nb X) X).2).1 h4 := by
          rw [e4]
          refine ⟨?_, fun z => ?_, ?_, ?_, ?_, ?_⟩ <;> simp (disch := decide) only [sI_at, sI_ne, sI_21, sI_22, sJ_1, sJ_at, sJ_ne, sJ_22, sW_1, sW_21, upd_at, upd_ne]
          · exact A1.1
          · exact A1.2.1 z
          · exact A1.2.2.1
          · rw [A1.2.2.2.1]
            rfl
          · rw [A1.2.2.2.2.1]
            rfl
          · rfl
        clear e4
        refine m_clr_72 20 0 h4 rfl (fun j hj => absurd hj (Nat.not_lt_zero _)) (fun h5 f5 z5 => ?_)
        refine m_clr_93 80 0 h5 rfl (fun j hj => absurd hj (Nat.not_lt_zero _)) (fun h6 f6 z6 => ?_)
        have g5 : fz 27 [31] [] h4 h5 := fz.of f5 (by decide)
        have g6 : fz 27 [42] [] h5 h6 := fz.of f6 (by decide)
        refine K h6 ((f1.mono (by decide) (by decide)).tr ((f4.mono (by decide) (by decide)).tr ((g5.mono (by decide) (by decide)).tr (g6.mono (by decide) (by decide))))) ⟨(d4.k g5 (by decide)).k g6 (by decide), ⟨?_, ?_⟩, ((A3.k f4 (by decide)).k g5 (by decide)).k g6 (by decide), fun z => (((A4 z).k f4 (by decide) (by decide)).k g5 (by decide) (by decide)).k g6 (by decide) (by decide), fun z => (((A5 z).k f4 (by decide) (by decide)).k g5 (by decide) (by decide)).k g6 (by decide) (by decide), ⟨⟨?_, ?_, ?_⟩, ?_⟩, ((A7.k f4 (by decide) (by decide)).k g5 (by decide) (by decide)).k g6 (by decide) (by decide)⟩
        · rw [f6.i 28 (by decide), f6.i 29 (by decide), f6.i 30 (by decide), f5.i 28 (by decide), f5.i 29 (by decide), f5.i 30 (by decide), f4.1.i 28 (by decide), f4.1.i 29 (by decide), f4.1.i 30 (by decide)]
          exact A2.1
        · rw [f6.i 31 (by decide)]
          exact z5
        · intro n hn
          rw [f6.i 40 (by decide), f5.i 40 (by decide), f4.1.i 40 (by decide)]
          exact ⟨(A6.1.1 n hn).1, fun _ => z6 n hn⟩
        · rw [f6.i 27 (by decide), f5.i 27 (by decide), f4.2 33 (by decide)]
          exact A6.1.2.1
        · rw [f6.i 41 (by decide), f5.i 41 (by decide), f4.1.i 41 (by decide), f6.i 43 (by decide), f5.i 43 (by decide), f4.1.i 43 (by decide), f6.i 44 (by decide), f5.i 44 (by decide), f4.1.i 44 (by decide), f6.i 45 (by decide), f5.i 45 (by decide), f4.1.i 45 (by decide), f6.i 46 (by decide), f5.i 46 (by decide), f4.1.i 46 (by decide)]
          exact A6.1.2.2
        · rw [f6.i 27 (by decide), f5.i 27 (by decide), f4.2 34 (by decide)]
          exact A6.2
      · rw [bI_0] at q
        rw [ckX, if_neg (by rw [q]; decide), q] at K
        exact K h1 (f1.mono (by decide) (by decide)) H1
    | succ d ih =>
      intro i hi
      have ih := ih (i + 1) (by omega)
      apply sX7_checkpoint_6
      have e := H.2.1.2 i (by omega)
      have c : cn X.2.1.2.2.2 (i + 1) = cn X.2.1.2.2.2 i + (if X.2.1.2.2.2 i = 0 then 0 else 1) := rfl
      rw [c] at ih
      have := cn_le X.2.1.2.2.2 i
      simp (disch := omega) only [nt_le, nt_lt, nt_eq, nt_cl, nt_vp, nI_add, lu_le, lu_lt, lu_eq, ul_le, ul_lt, ul_eq, lu_add, ul_add, lu_sub, lu_mul, ul_mul, nt_sub, nt_m1]
      rw [e]
      refine ⟨fun c => by omega, fun c => ⟨by omega, fun z => ?_, fun z => ?_⟩⟩
      · rw [if_pos z] at ih
        exact ih
      · rw [if_neg z] at ih
        exact ih
  exact go 20 0 rfl
def WZ (W : WT) : Prop := ∀ n, 64 ≤ n → nu W.1 n = 0
theorem cn2_64 {f g : Nat → Int32} (h : ∀ n, 64 ≤ n → f n = 0) : ∀ d, cn2 f g (64 + d) = cn2 f g 64
  | 0 => rfl
  | d + 1 => by
    show cn2 f g (64 + d) + (if f (64 + d) = 0 ∨ g (64 + d) = 0 then 0 else 1) = _
    rw [cn2_64 h d, if_pos (Or.inl (h (64 + d) (by omega)))]
    rfl
theorem cn_64 {f : Nat → Int32} (h : ∀ n, 64 ≤ n → f n = 0) : ∀ d, cn f (64 + d) = cn f 64
  | 0 => rfl
  | d + 1 => by
    show cn f (64 + d) + (if f (64 + d) = 0 then 0 else 1) = _
    rw [cn_64 h d, if_pos (h (64 + d) (by omega))]
    rfl
theorem m_dirtyNodes {h : Hp} (H : MX X L N h) (hs : X.2.2.1.1 < 7) (hz : WZ X.2.2.2.2) (K : Q (some (vI (nI (dnX X)))) h) : EvM mX7_dirtyNodes [vR 27] h Q := by
  apply sX7_dirtyNodes
  have M := H.2.2.2.2.2.1.1
  have s5 := m_st H hs 5 (by decide)
  by_cases q5 : X.2.2.1.1 = 5
  · have go : ∀ d i, i + d = 80 → Ev mX7_dirtyNodes 4 [(0, vR 27), (1, vI (nI (cn2 (nu X.2.2.2.2.1) (nd X.2.2.2.2.1) i))), (2, vI (nI i))] [] h Q := by
      intro d
      induction d with
      | zero =>
        intro i hi
        have e : i = 80 := by omega
        subst e
        apply sX7_dirtyNodes_4
        simp (disch := omega) only [nt_le, nt_lt, nt_eq, nt_cl, nt_vp, nI_add, lu_le, lu_lt, lu_eq, ul_le, ul_lt, ul_eq, lu_add, ul_add, lu_sub, lu_mul, ul_mul, nt_sub, nt_m1]
        refine ⟨fun _ => ?_, fun c => absurd (Nat.le_refl _) c⟩
        rw [dnX, if_pos q5, ← cn2_64 hz 16] at K
        exact K
      | succ d ih =>
        intro i hi
        have ih := ih (i + 1) (by omega)
        apply sX7_dirtyNodes_4
        have e := M.1 i (by omega)
        have c : cn2 (nu X.2.2.2.2.1) (nd X.2.2.2.2.1) (i + 1) = cn2 (nu X.2.2.2.2.1) (nd X.2.2.2.2.1) i + (if nu X.2.2.2.2.1 i = 0 ∨ nd X.2.2.2.2.1 i = 0 then 0 else 1) := rfl
        rw [c] at ih
        have := cn2_le (nu X.2.2.2.2.1) (nd X.2.2.2.2.1) i
        simp (disch := omega) only [nt_le, nt_lt, nt_eq, nt_cl, nt_vp, nI_add, lu_le, lu_lt, lu_eq, ul_le, ul_lt, ul_eq, lu_add, ul_add, lu_sub, lu_mul, ul_mul, nt_sub, nt_m1]
        rw [show (5 : Int32) = nI 5 from rfl, s5, e.1]
        refine ⟨fun c => by omega, fun c => ⟨fun z => absurd q5 z, fun _ => ⟨by omega, fun z => ?_, fun z => ⟨by omega, ?_⟩⟩⟩⟩
        · rw [if_pos (Or.inl z)] at ih
          exact ih
        · rw [e.2 z]
          refine ⟨fun y => ?_, fun y => ?_⟩
          · rw [if_pos (Or.inr y)] at ih
            exact ih
          · rw [if_neg (fun y2 => y2.elim z y)] at ih
            exact ih
    exact go 80 0 rfl
  · have go : ∀ d i, i + d = 80 → Ev mX7_dirtyNodes 4 [(0, vR 27), (1, vI (nI 0)), (2, vI (nI i))] [] h Q := by
      intro d
      induction d with
      | zero =>
        intro i hi
        have e : i = 80 := by omega
        subst e
        apply sX7_dirtyNodes_4
        simp (disch := omega) only [nt_le, nt_lt, nt_eq, nt_cl, nt_vp, nI_add, lu_le, lu_lt, lu_eq, ul_le, ul_lt, ul_eq, lu_add, ul_add, lu_sub, lu_mul, ul_mul, nt_sub, nt_m1]
        refine ⟨fun _ => ?_, fun c => absurd (Nat.le_refl _) c⟩
        rw [dnX, if_neg q5] at K
        exact K
      | succ d ih =>
        intro i hi
        have ih := ih (i + 1) (by omega)
        apply sX7_dirtyNodes_4
        simp (disch := omega) only [nt_le, nt_lt, nt_eq, nt_cl, nt_vp, nI_add, lu_le, lu_lt, lu_eq, ul_le, ul_lt, ul_eq, lu_add, ul_add, lu_sub, lu_mul, ul_mul, nt_sub, nt_m1]
        rw [show (5 : Int32) = nI 5 from rfl, s5]
        exact ⟨fun c => by omega, fun c => ⟨fun z => ih, fun z => absurd z q5⟩⟩
    exact go 80 0 rfl
theorem m_w2 {h : Hp} (H : MX X L N h) (hs : X.2.2.1.1 < 7) (hd : X.1.1 = 0) (K : ∀ h', fz 27 [27, 31, 40, 42] [4, 5, 6, 7, 8, 9, 11, 13, 14, 15, 16, 17, 20, 22, 33] h h' → MX (w2X X).2 L N h' → Q (some (vI (bI (w2X X).1))) h') : Ev mX7_writeDown 22 [(0, vR 27)] [] h Q := by
  apply sX7_writeDown_22
  refine m_block H hs hd (fun h1 f1 H1 => ⟨_, rfl, fun q => ?_, fun q => ?_⟩)
  · have ok : (ptX 1 X).1 = true := by
      rw [bI_0] at q
      simpa using q
    rw [w2X, if_pos ok] at K
    intro h4 e4
    have f4 : fz 27 [27] [9] h1 h4 := by
      rw [e4]
      (repeat first | exact fz.rf | refine fz.up ?_ (by decide) (by decide) | refine fz.sI ?_ (by decide) (by decide) _ | refine fz.sJ ?_ (by decide) _)
    refine K h4 ((f1.mono (by decide) (by decide)).tr (f4.mono (by decide) (by decide))) (MX.dk H1 (f4.mono (by decide) (by decide)) ?_)
    obtain ⟨A1, -⟩ := H1
    rw [e4]
    refine ⟨?_, fun z => ?_, ?_, ?_, ?_, ?_⟩ <;> simp (disch := decide) only [sI_at, sI_ne, sI_21, sI_22, sJ_1, sJ_at, sJ_ne, sJ_22, sW_1, sW_21, upd_at, upd_ne]
    · exact A1.1
    · exact A1.2.1 z
    · exact A1.2.2.1
    · exact A1.2.2.2.1
    · exact A1.2.2.2.2.1
    · rw [A1.2.2.2.2.2]
      exact nI_1 _
  · rw [bI_0] at q
    rw [w2X, if_neg (by rw [q]; decide), q] at K
    exact K h1 (f1.mono (by decide) (by decide)) H1
theorem ck_ok {nb : Nat} (h : (ckX nb X).1 = true) : (ckX nb X).2.1.1 = X.1.1 ∧ (ckX nb X).2.2.2.1 = X.2.2.1 := by
  unfold ckX at h ⊢
  split
  · next q =>
    have := pt_ok q
    constructor
    · show (ptX _ X).2.1.1 = _
      rw [this]
      rfl
    · show (ptX _ X).2.2.2.1 = _
      rw [this]
  · next q =>
    rw [if_neg q] at h
    exact absurd h q
theorem m_writeDown {h : Hp} (H : MX X L N h) (hs : X.2.2.1.1 < 7) (hd : X.1.1 = 0) (hz : WZ X.2.2.2.2) (hw : X.1.2.2.2.2.2 ≤ 30) (K : ∀ h', fz 27 [27, 31, 40, 42] [4, 5, 6, 7, 8, 9, 11, 13, 14, 15, 16, 17, 20, 22, 33] h h' → MX (wdX X).2 L N h' → Q (some (vI (bI (wdX X).1))) h') : EvM mX7_writeDown [vR 27] h Q := by
  apply sX7_writeDown
  rw [H.1.2.2.2.2.2]
  simp (disch := omega) only [nt_le, nt_lt, nt_eq, nt_cl, nt_vp, nI_add, lu_le, lu_lt, lu_eq, ul_le, ul_lt, ul_eq, lu_add, ul_add, lu_sub, lu_mul, ul_mul, nt_sub, nt_m1]
  unfold wdX at K
  refine ⟨fun q => ?_, fun q => ?_⟩
  · rw [if_pos (show X.1.2.2.2.2.2 < 30 by omega)] at K
    exact m_w2 H hs hd K
  · rw [if_neg (show ¬ X.1.2.2.2.2.2 < 30 by omega)] at K
    have hn : dnX X < 1000 := by
      unfold dnX
      have := cn2_le (nu X.2.2.2.2.1) (nd X.2.2.2.2.1) 64
      split <;> omega
    refine m_dirtyNodes H hs hz ⟨_, rfl, m_checkpoint H hs hd hn (fun h1 f1 H1 => ⟨_, rfl, fun q => ?_, fun q => ?_⟩)⟩
    · have ok : (ckX (dnX X) X).1 = true := by
        rw [bI_0] at q
        simpa using q
      rw [if_pos ok] at K
      obtain ⟨a, b⟩ := ck_ok ok
      exact m_w2 H1 (by rw [b]; exact hs) (by rw [a]; exact hd) (fun h' f' => K h' (f1.tr f'))
    · rw [bI_0] at q
      rw [if_neg (by rw [q]; decide), q] at K
      exact K h1 f1 H1
/-! the table -/
variable {tp tk tv dp : Nat → Int32} {h : Hp}
theorem m_isRow_in (H : M_tb tp tk tv dp h) {p : Nat} (hp : p < 240) (h0 : tp p = 0 → Q (some (vI 0)) h) (h1 : ¬ tp p = 0 → Q (some (vI 1)) h) : EvM mX7_isRow [vR 27, vI (nI p)] h Q := by
  apply sX7_isRow
  refine m_in (fun a b => ⟨1, rfl, fun q => absurd q (by decide), fun _ => ?_⟩) (fun a => ?_)
  · simp (disch := omega) only [nt_le, nt_lt, nt_eq, nt_cl, nt_vp, nI_add, lu_le, lu_lt, lu_eq, ul_le, ul_lt, ul_eq, lu_add, ul_add, lu_sub, lu_mul, ul_mul, nt_sub, nt_m1]
    rw [(H.1 p hp).1]
    exact ⟨hp, h0, h1⟩
  · exfalso
    apply a
    rw [← Int32.le_iff_toInt_le, ← Int32.le_iff_toInt_le]
    simp (disch := omega) only [nt_le, nt_lt, nt_eq, nt_cl, nt_vp, nI_add, lu_le, lu_lt, lu_eq, ul_le, ul_lt, ul_eq, lu_add, ul_add, lu_sub, lu_mul, ul_mul, nt_sub, nt_m1]
    exact ⟨by omega, by omega⟩
theorem m_isRow_out {x : Int32} (hx : x < 0 ∨ 240 ≤ x) (h0 : Q (some (vI 0)) h) : EvM mX7_isRow [vR 27, vI x] h Q := by
  apply sX7_isRow
  refine m_in (fun a b => ?_) (fun a => ⟨0, rfl, fun _ => h0, fun q => absurd rfl q⟩)
  exfalso
  rw [← Int32.le_iff_toInt_le] at a b
  rcases hx with hx | hx
  · exact absurd hx (Int32.not_lt.mpr a)
  · exact absurd (Int32.le_trans hx b) (by decide)
theorem m_rowCount (H : M_tb tp tk tv dp h) (K : Q (some (vI (nI (cn tp 240)))) h) : EvM mX7_rowCount [vR 27] h Q := by
  apply sX7_rowCount
  have go : ∀ d i, i + d = 240 → Ev mX7_rowCount 4 [(0, vR 27), (1, vI (nI (cn tp i))), (2, vI (nI i))] [] h Q := by
    intro d
    induction d with
    | zero =>
      intro i hi
      have e : i = 240 := by omega
      subst e
      apply sX7_rowCount_4
      simp (disch := omega) only [nt_le, nt_lt, nt_eq, nt_cl, nt_vp, nI_add, lu_le, lu_lt, lu_eq, ul_le, ul_lt, ul_eq, lu_add, ul_add, lu_sub, lu_mul, ul_mul, nt_sub, nt_m1]
      exact ⟨fun _ => K, fun c => absurd (Nat.le_refl _) c⟩
    | succ d ih =>
      intro i hi
      have ih := ih (i + 1) (by omega)
      apply sX7_rowCount_4
      have e := (H.1 i (by omega)).1
      have c : cn tp (i + 1) = cn tp i + (if tp i = 0 then 0 else 1) := rfl
      rw [c] at ih
      have := cn_le tp i
      simp (disch := omega) only [nt_le, nt_lt, nt_eq, nt_cl, nt_vp, nI_add, lu_le, lu_lt, lu_eq, ul_le, ul_lt, ul_eq, lu_add, ul_add, lu_sub, lu_mul, ul_mul, nt_sub, nt_m1]
      rw [e]
      refine ⟨fun c => by omega, fun c => ⟨by omega, fun z => ?_, fun z => ?_⟩⟩
      · rw [if_pos z] at ih
        exact ih
      · rw [if_neg z] at ih
        exact ih
  exact go 240 0 rfl
theorem m_clashes_5 (H : M_tb tp tk tv dp h) {k b : Int32} (h5 : h.1 27 11 = 5) (h6 : ¬ h.1 27 12 = 0) : ∀ n i : Nat, i + n = 240 → (rp tp tk k b i → Q (some (vI 1)) h) → (¬ rp tp tk k b i → Q (some (vI 0)) h) → Ev mX7_clashes 5 [(0, vR 27), (1, vI k), (2, vI b), (3, vI 0), (4, vI (nI i))] [] h Q
  | 0, i, hi, h1, h2 => by
    apply sX7_clashes_5
    have e : i = 240 := by omega
    subst e
    simp (disch := omega) only [nt_le, nt_lt, nt_eq, nt_cl, nt_vp, nI_add, lu_le, lu_lt, lu_eq, ul_le, ul_lt, ul_eq, lu_add, ul_add, lu_sub, lu_mul, ul_mul, nt_sub, nt_m1]
    exact ⟨fun _ => ⟨Or.inl trivial, h2 rp_no⟩, fun c => absurd (Nat.le_refl _) c⟩
  | n + 1, i, hi, h1, h2 => by
    have on : ∀ d j, j + d = 240 → Q (some (vI 1)) h → Ev mX7_clashes 5 [(0, vR 27), (1, vI k), (2, vI b), (3, vI 1), (4, vI (nI j))] [] h Q := by
      intro d
      induction d with
      | zero =>
        intro j hj q
        have e : j = 240 := by omega
        subst e
        apply sX7_clashes_5
        simp (disch := omega) only [nt_le, nt_lt, nt_eq, nt_cl, nt_vp, nI_add, lu_le, lu_lt, lu_eq, ul_le, ul_lt, ul_eq, lu_add, ul_add, lu_sub, lu_mul, ul_mul, nt_sub, nt_m1]
        exact ⟨fun _ => ⟨Or.inr trivial, q⟩, fun c => absurd (Nat.le_refl _) c⟩
      | succ d ih =>
        intro j hj q
        have ih := ih (j + 1) (by omega) q
        apply sX7_clashes_5
        rw [h5]
        simp (disch := omega) only [nt_le, nt_lt, nt_eq, nt_cl, nt_vp, nI_add, lu_le, lu_lt, lu_eq, ul_le, ul_lt, ul_eq, lu_add, ul_add, lu_sub, lu_mul, ul_mul, nt_sub, nt_m1]
        exact ⟨fun c => by omega, fun c => ⟨fun z => absurd trivial z, fun _ => ⟨fun z => absurd z h6, fun _ => ⟨fun _ => ih, fun z => absurd z (by decide)⟩⟩⟩⟩
    apply sX7_clashes_5
    have hl := H.1 i (by omega)
    have nx : (nI i = b ∨ tp i = 0 ∨ ¬ tk i = k) → Ev mX7_clashes 5 [(0, vR 27), (1, vI k), (2, vI b), (3, vI 0), (4, vI (nI (i + 1)))] [] h Q := fun q =>
      m_clashes_5 H h5 h6 n (i + 1) (by omega) (fun r => h1 ((rp_st q).mpr r)) (fun r => h2 (fun z => r ((rp_st q).mp z)))
    rw [h5]
    simp (disch := omega) only [nt_le, nt_lt, nt_eq, nt_cl, nt_vp, nI_add, lu_le, lu_lt, lu_eq, ul_le, ul_lt, ul_eq, lu_add, ul_add, lu_sub, lu_mul, ul_mul, nt_sub, nt_m1]
    rw [hl.1, hl.2.1]
    refine ⟨fun c => by omega, fun c => ⟨fun z => absurd trivial z, fun _ => ⟨fun z => absurd z h6, fun _ => ⟨fun z => absurd trivial z, fun _ => ⟨fun e => nx (Or.inl e), fun e => ⟨by omega, fun e2 => nx (Or.inr (Or.inl e2)), fun e2 => ⟨by omega, fun e3 => nx (Or.inr (Or.inr e3)), fun e3 => ?_⟩⟩⟩⟩⟩⟩⟩
    exact on n (i + 1) (by omega) (h1 ⟨i, Nat.le_refl _, by omega, e, e2, e3⟩)
end MD2
