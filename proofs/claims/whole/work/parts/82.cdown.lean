/-! the class: checkpoints, writes -/
def utT (T : TB) : TB := (T.1, T.2.1, T.2.2.1, fun _ => 0)
def utW (W : WT) : WT := ((nz W.1, nv W.1, nh W.1, nu W.1, fun _ => 0), W.2)
def ckN (nb : Nat) (X : XT) : Nat := cn X.2.1.2.2.2 20 + nb + 1
def ckY (n : Nat) (X : XT) : XT := ((X.1.1, X.1.2.1, X.1.2.2.1, X.1.2.2.2.1 + nI n, X.1.2.2.2.2.1 + 1, 0), utT X.2.1, X.2.2.1, X.2.2.2.1, utW X.2.2.2.2)
def ckX (nb : Nat) (X : XT) : Bool × XT := if (ptX (ckN nb X) X).1 = true then (true, ckY (ckN nb X) (ptX (ckN nb X) X).2) else ptX (ckN nb X) X
def dnX (X : XT) : Nat := if X.2.2.1.1 = 5 then cn2 (nu X.2.2.2.2.1) (nd X.2.2.2.2.1) 64 else 0
def ntX (X : XT) : XT := ((X.1.1, X.1.2.1, X.1.2.2.1, X.1.2.2.2.1, X.1.2.2.2.2.1, X.1.2.2.2.2.2 + 1), X.2)
def w2X (X : XT) : Bool × XT := if (ptX 1 X).1 = true then (true, ntX (ptX 1 X).2) else ptX 1 X
def wdX (X : XT) : Bool × XT := if X.1.2.2.2.2.2 < 30 then w2X X else if (ckX (dnX X) X).1 = true then w2X (ckX (dnX X) X).2 else ckX (dnX X) X
theorem pt_st {n : Nat} {X : XT} (hs : X.2.2.1.1 < 7) : (ptX n X).2.2.2.1.1 < 7 := by
  unfold ptX
  split
  · exact hs
  · split
    · exact hs
    · show 0 < 7
      decide
section CDN
variable {X : XT} {L : LT} {N : NT} {h : Hp} {Q : Option AV → Hp → Prop}
theorem c_pages_4 {tp tk tv dp : Nat → Int32} (H : C_tb tp tk tv dp h) (K : Q (some (vI (nI (cn dp 20)))) h) : ∀ d i, i + d = 20 → Ev mX4_touchedPages 4 [(0, vR 1), (1, vI (nI (cn dp i))), (2, vI (nI i))] [] h Q
  | 0, i, hi => by
    apply sX4_touchedPages_4
    have e : i = 20 := by omega
    subst e
    simp (disch := omega) only [nt_le, nt_lt, nt_eq, nt_cl, nt_vp, nI_add, lu_le, lu_lt, lu_eq, ul_le, ul_lt, ul_eq, lu_add, ul_add, lu_sub, lu_mul, ul_mul, nt_sub, nt_m1]
    exact ⟨fun _ => K, fun c => absurd (Nat.le_refl _) c⟩
  | d + 1, i, hi => by
    apply sX4_touchedPages_4
    have ih := c_pages_4 H K d (i + 1) (by omega)
    have e := H.2.1 i (by omega)
    have c : cn dp (i + 1) = cn dp i + (if dp i = 0 then 0 else 1) := rfl
    rw [c] at ih
    have := cn_le dp i
    simp (disch := omega) only [nt_le, nt_lt, nt_eq, nt_cl, nt_vp, nI_add, lu_le, lu_lt, lu_eq, ul_le, ul_lt, ul_eq, lu_add, ul_add, lu_sub, lu_mul, ul_mul, nt_sub, nt_m1]
    rw [e]
    refine ⟨fun c => by omega, fun c => ⟨by omega, fun z => ?_, fun z => ?_⟩⟩
    · rw [if_pos z] at ih
      exact ih
    · rw [if_neg z] at ih
      exact ih
theorem c_touchedPages {tp tk tv dp : Nat → Int32} (H : C_tb tp tk tv dp h) (K : Q (some (vI (nI (cn dp 20)))) h) : EvM mX4_touchedPages [vR 1] h Q := by
  apply sX4_touchedPages
  exact c_pages_4 H K 20 0 rfl
theorem c_unt_2 : ∀ (d i : Nat) (h : Hp), i + d = 20 → (∀ j, j < i → h.1 5 j = 0) → (∀ h', fr [5] h h' → (∀ j, j < 20 → h'.1 5 j = 0) → Q none h') → Ev mX4_untouch 2 [(0, vR 1), (1, vI (nI i))] [] h Q
  | 0, i, h, hi, hj, K => by
    apply sX4_untouch_2
    have e : i = 20 := by omega
    subst e
    simp (disch := omega) only [nt_le, nt_lt, nt_eq, nt_cl, nt_vp, nI_add, lu_le, lu_lt, lu_eq, ul_le, ul_lt, ul_eq, lu_add, ul_add, lu_sub, lu_mul, ul_mul, nt_sub, nt_m1]
    exact ⟨fun _ => K h fr.rf hj, fun c => absurd (Nat.le_refl _) c⟩
  | d + 1, i, h, hi, hj, K => by
    apply sX4_untouch_2
    simp (disch := omega) only [nt_le, nt_lt, nt_eq, nt_cl, nt_vp, nI_add, lu_le, lu_lt, lu_eq, ul_le, ul_lt, ul_eq, lu_add, ul_add, lu_sub, lu_mul, ul_mul, nt_sub, nt_m1]
    refine ⟨fun c => by omega, fun c => ⟨by omega, fun h3 e3 => ?_⟩⟩
    have f3 : fr [5] h h3 := by
      rw [e3]
      (repeat first | exact fr.rf | refine fr.sI ?_ (by decide) _ | refine fr.sJ ?_ (by decide) _ | refine fr.sW ?_ (by decide) _ _)
    refine c_unt_2 d (i + 1) h3 (by omega) ?_ (fun h' f' z => K h' (f3.tr f') z)
    rw [e3, sI_at]
    exact clr_st (f := h.1 5) hj
theorem c_untouch {tp tk tv dp : Nat → Int32} (H : C_tb tp tk tv dp h) (K : ∀ h', fr [5] h h' → C_tb tp tk tv (fun _ => 0) h' → Q none h') : EvM mX4_untouch [vR 1] h Q := by
  apply sX4_untouch
  refine c_unt_2 20 0 h rfl (fun j hj => absurd hj (Nat.not_lt_zero _)) (fun h' f z => K h' f ?_)
  unfold C_tb
  rw [f.i 1 (by decide), f.i 2 (by decide), f.i 3 (by decide), f.i 4 (by decide)]
  exact ⟨H.1, z, H.2.2⟩
theorem c_makeCheckpoint (H : CX X L N h) (hs : X.2.2.1.1 < 7) {nb : Nat} (hn : nb < 1000) (K : ∀ h', fr Uc h h' → CX (ckX nb X).2 L N h' → Q (some (vI (bI (ckX nb X).1))) h') : EvM mX6_makeCheckpoint [vR 0, vI (nI nb)] h Q := by
  apply sX6_makeCheckpoint
  have c20 := cn_le X.2.1.2.2.2 20
  refine c_touchedPages H.2.1 ⟨_, rfl, ?_⟩
  rw [show nI (cn X.2.1.2.2.2 20) + nI nb + 1 = nI (ckN nb X) from by
    rw [nI_add]
    exact nI_1 _]
  refine c_putBlocks H hs (by unfold ckN; omega) (fun h1 f1 H1 => ⟨_, rfl, fun q => ?_, fun q => ?_⟩)
  · have ok : (ptX (ckN nb X) X).1 = true := by
      cases e : (ptX (ckN nb X) X).1 with
      | true => rfl
      | false =>
        rw [e] at q
        exact absurd rfl q
    rw [ckX, if_pos ok] at K
    have hT : (ptX (ckN nb X) X).2.2.1 = X.2.1 := by
      unfold ptX
      split
      · rfl
      · split <;> rfl
    obtain ⟨A1, A2, A3, A4, A5, A6, A7⟩ := H1
    apply sX0_noteCheckpoint
    rintro _ rfl _ rfl h4 e4
    have f4 : fr [6] h1 h4 := by
      rw [e4]
      (repeat first | exact fr.rf | refine fr.sI ?_ (by decide) _ | refine fr.sJ ?_ (by decide) _ | refine fr.sW ?_ (by decide) _ _)
    have d4 : C_dk (ckY (ckN nb X) (ptX (ckN nb X) X).2).1 h4 := by
      rw [e4]
      refine ⟨?_, ?_, ?_, ?_, ?_, ?_⟩ <;> simp (disch := decide) only [sI_at, sI_ne, sI_21, sI_22, sJ_1, sJ_at, sJ_ne, sJ_22, sW_1, sW_21, upd_at, upd_ne]
      · exact A1.1
      · exact A1.2.1
      · exact A1.2.2.1
      · rw [A1.2.2.2.1]
        rfl
      · rw [A1.2.2.2.2.1]
        rfl
      · rfl
    clear e4
    refine ⟨rfl, c_untouch (A2.k f4 (by decide)) (fun h5 f5 T5 => ⟨rfl, c_tuntouch ((A6.1.fr f4 (by rw [f4.i 16 (by decide)]) (by decide)).fr f5 (by rw [f5.i 16 (by decide)]) (by decide)) (fun h6 f6 T6 => ⟨rfl, ?_⟩)⟩)⟩
    have g4 : fz 0 [6] [] h1 h4 := fz.of f4 (by decide)
    have g5 : fz 0 [5] [] h4 h5 := fz.of f5 (by decide)
    have g6 : fz 0 [21] [] h5 h6 := fz.of f6 (by decide)
    refine K h6 (((f1.tr (f4.mono (by decide))).tr (f5.mono (by decide))).tr (f6.mono (by decide))) ⟨(d4.k f5 (by decide)).k f6 (by decide), ?_, ((A3.k g4 (by decide)).k g5 (by decide)).k g6 (by decide), ((A4.k g4 (by decide) (by decide)).k g5 (by decide) (by decide)).k g6 (by decide) (by decide), fun z => (((A5 z).k f4 (by decide)).k f5 (by decide)).k f6 (by decide), ⟨T6, ?_, ?_⟩, ((A7.k g4 (by decide) (by decide)).k g5 (by decide) (by decide)).k g6 (by decide) (by decide)⟩
    · exact C_tb.fr T5 f6 (by decide)
    · rw [f6.i 16 (by decide), f5.i 16 (by decide), f4.i 16 (by decide)]
      exact A6.2.1
    · rw [f6.i 16 (by decide), f5.i 16 (by decide), f4.i 16 (by decide)]
      exact A6.2.2
  · have ok : (ptX (ckN nb X) X).1 = false := by
      cases e : (ptX (ckN nb X) X).1 with
      | true =>
        rw [e] at q
        exact absurd q (by decide)
      | false => rfl
    rw [ckX, if_neg (by rw [ok]; decide)] at K
    have := K h1 f1 H1
    rw [ok] at this
    exact this
theorem bI_0 {b : Bool} : bI b = 0 ↔ b = false := by
  cases b <;> decide
theorem c_w2 (H : CX X L N h) (hs : X.2.2.1.1 < 7) (K : ∀ h', fr Uc h h' → CX (w2X X).2 L N h' → Q (some (vI (bI (w2X X).1))) h') : Ev mX6_writeDown 42 [(0, vR 0)] [] h Q := by
  apply sX6_writeDown_42
  refine c_putBlocks (n := 1) H hs (by decide) (fun h1 f1 H1 => ⟨_, rfl, fun q => ?_, fun q => ?_⟩)
  · have ok : (ptX 1 X).1 = true := by
      rw [bI_0] at q
      simpa using q
    rw [w2X, if_pos ok] at K
    apply sX0_noteWrite
    rintro h4 e4
    have f4 : fr [6] h1 h4 := by
      rw [e4]
      (repeat first | exact fr.rf | refine fr.sI ?_ (by decide) _ | refine fr.sJ ?_ (by decide) _ | refine fr.sW ?_ (by decide) _ _)
    refine ⟨rfl, K h4 (f1.tr (f4.mono (by decide))) (CX.dk H1 f4 ?_)⟩
    obtain ⟨A1, -⟩ := H1
    rw [e4]
    refine ⟨?_, ?_, ?_, ?_, ?_, ?_⟩ <;> simp (disch := decide) only [sI_at, sI_ne, sI_21, sI_22, sJ_1, sJ_at, sJ_ne, sJ_22, sW_1, sW_21, upd_at, upd_ne]
    · exact A1.1
    · exact A1.2.1
    · exact A1.2.2.1
    · exact A1.2.2.2.1
    · exact A1.2.2.2.2.1
    · rw [A1.2.2.2.2.2]
      exact nI_1 _
  · rw [bI_0] at q
    rw [w2X, if_neg (by rw [q]; decide), q] at K
    exact K h1 f1 H1
theorem ck_st {nb : Nat} {X : XT} (hs : X.2.2.1.1 < 7) : (ckX nb X).2.2.2.1.1 < 7 := by
  unfold ckX
  split
  · exact pt_st hs
  · exact pt_st hs
theorem c_writeDown (H : CX X L N h) (hs : X.2.2.1.1 < 7) (hw : X.1.2.2.2.2.2 ≤ 30) (K : ∀ h', fr Uc h h' → CX (wdX X).2 L N h' → Q (some (vI (bI (wdX X).1))) h') : EvM mX6_writeDown [vR 0] h Q := by
  apply sX6_writeDown
  apply sX0_writesSinceCheckpoint
  refine ⟨_, rfl, ?_⟩
  rw [H.1.2.2.2.2.2]
  simp (disch := omega) only [nt_le, nt_lt, nt_eq, nt_cl, nt_vp, nI_add, lu_le, lu_lt, lu_eq, ul_le, ul_lt, ul_eq, lu_add, ul_add, lu_sub, lu_mul, ul_mul, nt_sub, nt_m1]
  unfold wdX at K
  refine ⟨fun q => ?_, fun q => ?_⟩
  · rw [if_pos q] at K
    exact c_w2 H hs K
  · rw [if_neg q] at K
    have key : ∀ nb, nb = dnX X → nb < 1000 → Ev mX6_writeDown 31 [(0, vR 0)] [vI (nI nb)] h Q := by
      intro nb hnb hlt
      apply sX6_writeDown_31
      refine c_makeCheckpoint H hs hlt (fun h1 f1 H1 => ⟨_, rfl, fun q => ?_, fun q => ?_⟩)
      · rw [hnb] at H1 q
        have ok : (ckX (dnX X) X).1 = true := by
          rw [bI_0] at q
          simpa using q
        rw [if_pos ok] at K
        exact c_w2 H1 (ck_st hs) (fun h' f' => K h' (f1.tr f'))
      · rw [hnb] at H1 q
        rw [bI_0] at q
        rw [if_neg (by rw [q]; decide), q] at K
        exact K h1 f1 H1
    rw [show (5 : Int32) = nI 5 from rfl, c_st H hs 5 (by decide)]
    refine ⟨fun z => ?_, fun z => ?_⟩
    · exact key 0 (by unfold dnX; rw [if_neg z]) (by decide)
    · refine c_touchedCount H.2.2.2.2.2.1.1 ⟨_, rfl, key _ (by unfold dnX; rw [if_pos z]) ?_⟩
      have := cn2_le (nu X.2.2.2.2.1) (nd X.2.2.2.2.1) 64
      omega
end CDN
