/-! the class: blocks, forgetting, stopping -/
abbrev XT : Type := DK × TB × GT × BT × WT
def CX (X : XT) (L : LT) (N : NT) (h : Hp) : Prop := CI X.1 X.2.1 X.2.2.1 X.2.2.2.1 L X.2.2.2.2 N h
def MX (X : XT) (L : LT) (N : NT) (h : Hp) : Prop := MI X.1 X.2.1 X.2.2.1 X.2.2.2.1 L X.2.2.2.2 N h
def Uc : List Nat := [0, 1, 2, 3, 4, 5, 6, 7, 8, 9, 10, 11, 12, 13, 14, 15, 16, 17, 18, 19, 20, 21, 22, 23, 24, 25, 26]
def Um : List Nat := [27, 28, 29, 30, 31, 32, 33, 34, 35, 36, 37, 38, 39, 40, 41, 42, 43, 44, 45, 46, 47, 48, 49, 50, 51, 52, 53]
theorem MX.k {X : XT} {L : LT} {N : NT} {h h' : Hp} (H : MX X L N h) (f : fr Uc h h') : MX X L N h' := by
  refine MI.k H (fun d hd => f.i d (fun q => ?_))
  have : ∀ x ∈ Uc, x < 27 := by decide
  have := this d q
  omega
theorem CX.k {X : XT} {L : LT} {N : NT} {h h' : Hp} (H : CX X L N h) (f : fr Um h h') : CX X L N h' := by
  have a : ∀ x ∈ Um, 27 ≤ x := by decide
  refine CI.k H (fun d hd => ⟨f.i d (fun q => ?_), f.j d (fun q => ?_)⟩) (f.2 (by decide))
  · have := a d q
    omega
  · have := a d q
    omega
def fgW (W : WT) : WT := (emS W.1, W.2.1, 0, 0)
def fgX (X : XT) : XT := (X.1, X.2.1, (0, 0, 0, -1, -1), (0, [], [], []), fgW X.2.2.2.2)
def stX (w : Int32) (X : XT) : XT := (X.1, X.2.1, (6, X.2.2.1.2.1, w, X.2.2.1.2.2.2), (0, [], [], []), fgW X.2.2.2.2)
def dkO (n : Nat) (D : DK) : DK := (D.1, (wr n D.2.1 D.2.2.1).2.1, (wr n D.2.1 D.2.2.1).2.2, D.2.2.2)
def dkX (n : Nat) (D : DK) : DK := (1, 0, (wr n D.2.1 D.2.2.1).2.2, D.2.2.2)
def ptX (n : Nat) (X : XT) : Bool × XT := if (wr n X.1.2.1 X.1.2.2.1).1 = true then (true, (dkO n X.1, X.2)) else (false, if X.2.2.1.1 = 5 then (dkX n X.1, X.2) else fgX (dkX n X.1, X.2))
theorem isr_nil : isort [] = [] := rfl
section CBA
variable {X : XT} {L : LT} {N : NT} {h : Hp} {Q : Option AV → Hp → Prop}
theorem c_isDown (H : CX X L N h) (hd : X.1.1 = 0 ∨ X.1.1 = 1) (K : Q (some (vI X.1.1)) h) : EvM mX0_isDown [vR 6] h Q := by
  apply sX0_isDown
  rw [H.1.1]
  exact ⟨hd, K⟩
theorem c_forgetBuilding (K : ∀ h', fz 0 [0, 7, 13] [4] h h' → C_bd (0, [], [], []) h' → Q none h') : EvM mX6_forgetBuilding [vR 0] h Q := by
  apply sX6_forgetBuilding
  rintro _ rfl
  apply sX3_clear
  rintro _ rfl _ rfl _ rfl
  refine ⟨rfl, ?_⟩
  apply sX2_clear
  rintro _ rfl _ rfl
  refine ⟨rfl, K _ (by (repeat first | exact fz.rf | refine fz.up ?_ (by decide) (by decide) | refine fz.sI ?_ (by decide) (by decide) _ | refine fz.sJ ?_ (by decide) _)) ?_⟩
  refine ⟨?_, ⟨?_, ?_, ?_, fun i hi => absurd hi (Nat.not_lt_zero _), fun i hi => absurd hi (Nat.not_lt_zero _), fun i hi => absurd hi (Nat.not_lt_zero _)⟩, 0, by decide, ?_, ?_, fun i hi => absurd hi (Nat.not_lt_zero _)⟩
  · simp (disch := decide) only [sI_at, sI_ne, sI_21, sI_22, sJ_1, sJ_at, sJ_ne, sJ_22, sW_1, sW_21, upd_at, upd_ne]
    rfl
  · simp (disch := decide) only [sI_at, sI_ne, sI_21, sI_22, sJ_1, sJ_at, sJ_ne, sJ_22, sW_1, sW_21, upd_at, upd_ne]
    rfl
  · simp (disch := decide) only [sI_at, sI_ne, sI_21, sI_22, sJ_1, sJ_at, sJ_ne, sJ_22, sW_1, sW_21, upd_at, upd_ne]
    rfl
  · simp (disch := decide) only [sI_at, sI_ne, sI_21, sI_22, sJ_1, sJ_at, sJ_ne, sJ_22, sW_1, sW_21, upd_at, upd_ne]
    rfl
  · simp (disch := decide) only [sI_at, sI_ne, sI_21, sI_22, sJ_1, sJ_at, sJ_ne, sJ_22, sW_1, sW_21, upd_at, upd_ne]
    rfl
  · simp (disch := decide) only [sI_at, sI_ne, sI_21, sI_22, sJ_1, sJ_at, sJ_ne, sJ_22, sW_1, sW_21, upd_at, upd_ne]
    rfl
theorem c_forgetIndex (H : CX X L N h) (K : ∀ h', fr Uc h h' → CX (fgX X) L N h' → Q none h') : EvM mX6_forgetIndex [vR 0] h Q := by
  obtain ⟨H1, H2, H3, H4, H5, H6, H7⟩ := H
  apply sX6_forgetIndex
  rintro _ rfl _ rfl _ rfl _ rfl h5 e5
  have f5 : fz 0 [0] [2, 3, 5, 6, 7] h h5 := by
    rw [e5]
    (repeat first | exact fz.rf | refine fz.up ?_ (by decide) (by decide) | refine fz.sI ?_ (by decide) (by decide) _ | refine fz.sJ ?_ (by decide) _)
  have s5 : C_sc (0, 0, 0, -1, -1) h5 := by
    rw [e5]
    refine ⟨?_, ?_, ?_, ?_, ?_⟩ <;> simp (disch := decide) only [sI_at, sI_ne, sI_21, sI_22, sJ_1, sJ_at, sJ_ne, sJ_22, sW_1, sW_21, upd_at, upd_ne]
    rfl
  clear e5
  refine c_forgetBuilding (fun h6 f6 b6 => ⟨rfl, c_tclear ((H6.1.fr f5.1 (by rw [f5.1.i 16 (by decide)]) (by decide)).fr f6.1 (by rw [f6.1.i 16 (by decide)]) (by decide)) (fun h7 f7 e6 e7 t7 => ⟨rfl, ?_⟩)⟩)
  have g5 : fz 0 [0] [2, 3, 5, 6, 7] h h5 := f5
  have g7 : fz 0 [16, 18, 19, 20] [] h6 h7 := fz.of f7 (by decide)
  refine K h7 (((f5.1.mono (by decide)).tr (f6.1.mono (by decide))).tr (f7.mono (by decide))) ⟨((H1.k f5.1 (by decide)).k f6.1 (by decide)).k f7 (by decide), ((H2.k f5.1 (by decide)).k f6.1 (by decide)).k f7 (by decide), (s5.k f6 (by decide)).k g7 (by decide), b6.k g7 (by decide) (by decide), fun q => absurd q (by show ¬ (0 : Nat) = 3; decide), ⟨t7, e7, e6⟩, ((H7.k f5 (by decide) (by decide)).k f6 (by decide) (by decide)).k g7 (by decide) (by decide)⟩
theorem c_stopBuilding (H : CX X L N h) {w : Int32} (K : ∀ h', fr Uc h h' → CX (stX w X) L N h' → Q none h') : EvM mX6_stopBuilding [vR 0, vI w] h Q := by
  obtain ⟨H1, H2, H3, H4, H5, H6, H7⟩ := H
  apply sX6_stopBuilding
  rintro _ rfl h5 e5
  have f5 : fz 0 [0] [2, 5] h h5 := by
    rw [e5]
    (repeat first | exact fz.rf | refine fz.up ?_ (by decide) (by decide) | refine fz.sI ?_ (by decide) (by decide) _ | refine fz.sJ ?_ (by decide) _)
  have s5 : C_sc (6, X.2.2.1.2.1, w, X.2.2.1.2.2.2) h5 := by
    rw [e5]
    refine ⟨?_, ?_, ?_, ?_, ?_⟩ <;> simp (disch := decide) only [sI_at, sI_ne, sI_21, sI_22, sJ_1, sJ_at, sJ_ne, sJ_22, sW_1, sW_21, upd_at, upd_ne]
    · rfl
    · exact H3.2.1
    · exact H3.2.2.2.1
    · exact H3.2.2.2.2
  clear e5
  refine c_forgetBuilding (fun h6 f6 b6 => ⟨rfl, c_tclear ((H6.1.fr f5.1 (by rw [f5.1.i 16 (by decide)]) (by decide)).fr f6.1 (by rw [f6.1.i 16 (by decide)]) (by decide)) (fun h7 f7 e6 e7 t7 => ⟨rfl, ?_⟩)⟩)
  have g7 : fz 0 [16, 18, 19, 20] [] h6 h7 := fz.of f7 (by decide)
  refine K h7 (((f5.1.mono (by decide)).tr (f6.1.mono (by decide))).tr (f7.mono (by decide))) ⟨((H1.k f5.1 (by decide)).k f6.1 (by decide)).k f7 (by decide), ((H2.k f5.1 (by decide)).k f6.1 (by decide)).k f7 (by decide), (s5.k f6 (by decide)).k g7 (by decide), b6.k g7 (by decide) (by decide), fun q => absurd q (by show ¬ (6 : Nat) = 3; decide), ⟨t7, e7, e6⟩, ((H7.k f5 (by decide) (by decide)).k f6 (by decide) (by decide)).k g7 (by decide) (by decide)⟩
theorem c_st (H : CX X L N h) (hs : X.2.2.1.1 < 7) (k : Nat) (hk : k < 7) : h.1 0 2 = nI k ↔ X.2.2.1.1 = k := by
  rw [H.2.2.1.1]
  exact nt_eq (by omega) (by omega)
theorem CX.dk {D' : DK} (H : CX X L N h) {h' : Hp} (f : fr [6] h h') (d : C_dk D' h') : CX (D', X.2) L N h' := by
  obtain ⟨H1, H2, H3, H4, H5, H6, H7⟩ := H
  have g : fz 0 [6] [] h h' := fz.of f (by decide)
  exact ⟨d, H2.k f (by decide), H3.k g (by decide), H4.k g (by decide) (by decide), fun q => (H5 q).k f (by decide), H6.k f (by decide) (by decide), H7.k g (by decide) (by decide)⟩
theorem c_putBlocks (H : CX X L N h) (hs : X.2.2.1.1 < 7) {n : Nat} (hn : n < 2147483648) (K : ∀ h', fr Uc h h' → CX (ptX n X).2 L N h' → Q (some (vI (bI (ptX n X).1))) h') : EvM mX6_putBlocks [vR 0, vI (nI n)] h Q := by
  apply sX6_putBlocks
  have d := H.1
  refine c_put hn (fun e => ⟨1, rfl, fun q => absurd q (by decide), fun _ => ?_⟩) (fun e => ⟨0, rfl, fun _ => ?_, fun q => absurd rfl q⟩)
  · rw [d.2.1, d.2.2.1] at e ⊢
    rw [ptX, if_pos e] at K
    have f : fr [6] h (sI h 6 (upd (upd (h.1 6) 1 (wr n X.1.2.1 X.1.2.2.1).2.1) 2 (wr n X.1.2.1 X.1.2.2.1).2.2)) := by (repeat first | exact fr.rf | refine fr.sI ?_ (by decide) _ | refine fr.sJ ?_ (by decide) _ | refine fr.sW ?_ (by decide) _ _)
    refine K _ (f.mono (by decide)) (H.dk f ⟨?_, ?_, ?_, ?_, ?_, ?_⟩) <;> simp (disch := decide) only [sI_at, sI_ne, sI_21, sI_22, sJ_1, sJ_at, sJ_ne, sJ_22, sW_1, sW_21, upd_at, upd_ne]
    · exact d.1
    · rfl
    · rfl
    · exact d.2.2.2.1
    · exact d.2.2.2.2.1
    · exact d.2.2.2.2.2
  · rw [d.2.1, d.2.2.1] at e ⊢
    have f : fr [6] h (sI h 6 (upd (upd (upd (h.1 6) 1 0) 2 (wr n X.1.2.1 X.1.2.2.1).2.2) 0 1)) := by (repeat first | exact fr.rf | refine fr.sI ?_ (by decide) _ | refine fr.sJ ?_ (by decide) _ | refine fr.sW ?_ (by decide) _ _)
    have H' : CX (dkX n X.1, X.2) L N (sI h 6 (upd (upd (upd (h.1 6) 1 0) 2 (wr n X.1.2.1 X.1.2.2.1).2.2) 0 1)) := by
      refine H.dk f ⟨?_, ?_, ?_, ?_, ?_, ?_⟩ <;> simp (disch := decide) only [sI_at, sI_ne, sI_21, sI_22, sJ_1, sJ_at, sJ_ne, sJ_22, sW_1, sW_21, upd_at, upd_ne]
      · rfl
      · rfl
      · rfl
      · exact d.2.2.2.1
      · exact d.2.2.2.2.1
      · exact d.2.2.2.2.2
    generalize sI h 6 (upd (upd (upd (h.1 6) 1 0) 2 (wr n X.1.2.1 X.1.2.2.1).2.2) 0 1) = h1 at f H' ⊢
    rw [show (5 : Int32) = nI 5 from rfl, c_st H' hs 5 (by decide)]
    have e2 : ¬ (wr n X.1.2.1 X.1.2.2.1).1 = true := by
      rw [e]
      decide
    rw [ptX, if_neg e2] at K
    refine ⟨fun q => ?_, fun q => c_forgetIndex H' (fun h2 f2 H2 => ⟨rfl, ?_⟩)⟩
    · have q : X.2.2.1.1 = 5 := q
      rw [if_pos q] at K
      exact K h1 (f.mono (by decide)) H'
    · have q : ¬ X.2.2.1.1 = 5 := q
      rw [if_neg q] at K
      exact K h2 ((f.mono (by decide)).tr f2) H2
end CBA
