/-! calls of both: change -/
theorem rowE_ch {tp tk : Nat → Int32} {p : Nat} {k : Int32} (hp : p < 240) (h0 : ¬ tp p = 0) (x : Int) : rowE tp (upd tk p k) x ↔ ap (ap (rowE tp tk) ((tk p).toInt * 256 + p, false)) (k.toInt * 256 + p, true) x := by
  constructor
  · rintro ⟨q, h1, h2, h3, h4⟩
    refine Or.inl ⟨rfl, ?_⟩
    by_cases e : q = p
    · subst e
      rw [upd_at] at h4
      exact Or.inl (by show x = _; omega)
    · rw [upd_ne _ _ e] at h4
      refine Or.inr (Or.inr ⟨rfl, fun z => ?_, q, h1, h2, h3, h4⟩)
      have z : x = (tk p).toInt * 256 + p := z
      omega
  · rintro (⟨-, h | h⟩ | ⟨h, -⟩)
    · have h : x = k.toInt * 256 + p := h
      refine ⟨p, hp, by omega, h0, ?_⟩
      rw [upd_at]
      omega
    · rcases h with ⟨h, -⟩ | ⟨-, h, q, h1, h2, h3, h4⟩
      · exact absurd (show false = true from h) (by decide)
      · have e : q ≠ p := fun z => h (by
          show x = (tk p).toInt * 256 + p
          rw [z] at h4 h2
          omega)
        refine ⟨q, h1, h2, h3, ?_⟩
        rw [upd_ne _ _ e]
        exact h4
    · exact absurd (show true = false from h) (by decide)
section OP2
variable {h : Hp} {P : Int32 → Option AV → Hp → Prop}
theorem op_change {x a b : Int32} (I : Inv h) (K : ∀ r h2, Inv h2 → P r (some (vI r)) h2) : EvM mX6_change [vR 0, vI x, vI a, vI b] h (fun v h1 => ∃ r, v = some (vI r) ∧ EvM mX7_change [vR 27, vI x, vI a, vI b] h1 (P r)) := by
  obtain ⟨X, L, N, C, M, I, n⟩ := I
  have hs := PR.s I
  apply sX6_change
  refine c_isDown C I.1 ⟨_, rfl, fun d0 => ?_, fun d1 => ⟨_, rfl, ?_⟩⟩
  · have unk : ∀ h4, h4 = sI h 27 (upd (h.1 27) 0 0) → Inv h4 := fun h4 e4 => ⟨X, L, N, C.th e4, M.th e4, I, n⟩
    rcases pl_cases x with ⟨p, p1, ex⟩ | out
    · subst ex
      refine c_has_in C.2.1 p1 (fun z => ⟨0, rfl, fun y => absurd rfl y, fun _ => ⟨_, rfl, ?_⟩⟩) (fun ht => ⟨1, rfl, fun _ => ?_, fun y => absurd y (by decide)⟩)
      · apply sX7_change
        intro h4 e4
        rw [m_down M e4]
        refine ⟨fun _ => ?_, fun y => absurd d0 y⟩
        exact m_isRow_in (M.th e4).2.1 p1 (fun _ => ⟨0, rfl, fun y => absurd rfl y, fun _ => K _ _ (unk h4 e4)⟩) (fun y => absurd z y)
      · refine c_wouldRepeat C hs (fun nr => ⟨0, rfl, fun _ => ?_, fun z => absurd rfl z⟩) (fun yr => ⟨1, rfl, fun z => absurd z (by decide), fun _ => ⟨_, rfl, ?_⟩⟩)
        · refine c_writeDown C hs I.2.1 (fun h1 f1 C1 => ⟨_, rfl, fun ok => ?_, fun no => ⟨_, rfl, ?_⟩⟩)
          · have ok : (wdX X).1 = true := by
              rw [bI_0] at ok
              simpa using ok
            obtain ⟨t1, t2, t3, t4, t5⟩ := wd_true ok
            have I1 : PR (rowE X.2.1.1 X.2.1.2.1) (wdX X).2 L := PR.wd I
            have M1 : MX X L N h1 := M.k f1
            clear f1
            have tz : ¬ (wdX X).2.2.1.1 p = 0 := by
              rw [t2]
              exact ht
            refine c_keyAt C1.2.1 p1 tz ⟨_, rfl, ?_⟩
            refine c_tput (p := p) C1.2.1 p1 (fun h2 f2 T2 => ⟨rfl, ?_⟩)
            rw [if_neg tz, upd_same] at T2
            have C2 := C1.tb f2 (T' := ((wdX X).2.2.1.1, upd (wdX X).2.2.1.2.1 p a, upd (wdX X).2.2.1.2.2.1 p b, upd (wdX X).2.2.1.2.2.2 (p / 12) 1)) T2
            have M2 : MX X L N h2 := M1.k (f2.mono (by decide))
            have I2 : PR (rowE X.2.1.1 X.2.1.2.1) ((wdX X).2.1, ((wdX X).2.2.1.1, upd (wdX X).2.2.1.2.1 p a, upd (wdX X).2.2.1.2.2.1 p b, upd (wdX X).2.2.1.2.2.2 (p / 12) 1), (wdX X).2.2.2) L := I1.T _
            clear f2
            rw [show (wdX X).2.2.1.2.1 p = X.2.1.2.1 p by rw [t3]]
            have pd : nI p / 12 = nI (p / 12) := pk_div (a := p) (d := 12) (by omega) (by decide) (by decide)
            have mod : ∀ (h3 : Hp) (Q : Option AV → Hp → Prop), MX X L N h3 → (∀ h18, fr Um h3 h18 → MX ((wdX X).2.1, ((wdX X).2.2.1.1, upd (wdX X).2.2.1.2.1 p a, upd (wdX X).2.2.1.2.2.1 p b, upd (wdX X).2.2.1.2.2.2 (p / 12) 1), (wdX X).2.2.2) L N h18 → (X.2.1.2.1 p = a → Q (some (vI 1)) h18) ∧ (¬ X.2.1.2.1 p = a → EvM mX7_note [vR 27, vI 0, vI (X.2.1.2.1 p), vI (nI p)] h18 (fun v h20 => v = none ∧ EvM mX7_note [vR 27, vI 1, vI a, vI (nI p)] h20 (fun v h21 => v = none ∧ Q (some (vI 1)) h21)))) → EvM mX7_change [vR 27, vI (nI p), vI a, vI b] h3 Q := by
              intro h3 Q M3 KK
              apply sX7_change
              intro h4 e4
              rw [m_down M3 e4]
              refine ⟨fun _ => ?_, fun z => absurd d0 z⟩
              have M4 := M3.th e4
              have f4 : fr Um h3 h4 := by
                rw [e4]
                exact fr.rf.sI (by decide) _
              refine m_isRow_in M4.2.1 p1 (fun z => absurd z ht) (fun _ => ⟨1, rfl, fun _ => ?_, fun y => absurd y (by decide)⟩)
              rw [pd]
              refine m_clashes M4 hs (fun _ => ⟨0, rfl, fun _ => ?_, fun z => absurd rfl z⟩) (fun z => absurd z nr)
              refine m_writeDown M4 hs d0 (PR.wz I) I.2.1 (fun h5 f5 M5 => ⟨_, rfl, fun _ => ?_, fun z => by rw [ok] at z; exact absurd z (by decide)⟩)
              have tt := M5.2.1
              simp (disch := omega) only [nt_le, nt_lt, nt_eq, nt_cl, nt_vp, nI_add, lu_le, lu_lt, lu_eq, ul_le, ul_lt, ul_eq, lu_add, ul_add, lu_sub, lu_mul, ul_mul, nt_sub, nt_m1]
              refine ⟨p1, p1, fun h9 e9 => ⟨p1, fun h12 e12 => ⟨by omega, fun h15 e15 => ?_⟩⟩⟩
              have f15 : fr [28, 29, 30, 31] h5 h15 := by
                rw [e15, e12, e9]
                (repeat first | exact fr.rf | refine fr.sI ?_ (by decide) _ | refine fr.sJ ?_ (by decide) _ | refine fr.sW ?_ (by decide) _ _)
              have T15 : M_T ((wdX X).2.2.1.1, upd (wdX X).2.2.1.2.1 p a, upd (wdX X).2.2.1.2.2.1 p b, upd (wdX X).2.2.1.2.2.2 (p / 12) 1) h15 := by
                rw [e15, e12, e9]
                refine ⟨fun i hi => ?_, fun i hi => ?_⟩ <;> simp (disch := decide) only [sI_at, sI_ne, sI_21, sI_22, sJ_1, sJ_at, sJ_ne, sJ_22, sW_1, sW_21, upd_at, upd_ne]
                · obtain ⟨u1, u2, u3⟩ := tt.1 i hi
                  refine ⟨u1, ?_, ?_⟩ <;> (unfold upd; split)
                  · rfl
                  · exact u2
                  · rfl
                  · exact u3
                · unfold upd
                  split
                  · rfl
                  · exact tt.2 i hi
              have k29 : h5.1 29 p = X.2.1.2.1 p := by rw [(tt.1 p p1).2.1, t3]
              rw [k29]
              exact KK h15 ((f4.tr (fUm f5 (by decide))).tr (f15.mono (by decide))) (M5.tb f15 T15)
            refine ⟨fun sm => ⟨_, rfl, ?_⟩, fun df => ?_⟩
            · refine mod h2 _ M2 (fun h18 f18 M18 => ⟨fun _ => K _ _ ⟨_, L, N, C2.k f18, M18, ?_, n⟩, fun z => absurd sm z⟩)
              unfold PI
              refine I2.cg (fun x => ?_)
              show _ ↔ rowE (wdX X).2.2.1.1 (upd (wdX X).2.2.1.2.1 p a) x
              rw [t2, t3, ← sm, upd_same]
            · have row : rowE X.2.1.1 X.2.1.2.1 ((X.2.1.2.1 p).toInt * 256 + p) := (rowE_at p1 _).mpr ⟨ht, rfl⟩
              have nrow : ¬ ap (rowE X.2.1.1 X.2.1.2.1) ((X.2.1.2.1 p).toInt * 256 + p, false) (a.toInt * 256 + p) := by
                rintro (⟨z, -⟩ | ⟨-, -, z⟩)
                · exact absurd (show false = true from z) (by decide)
                · exact df (Int32.toInt_inj.mp ((rowE_at p1 _).mp z).2)
              apply sX6_entryOf
              refine ⟨_, rfl, ?_⟩
              show EvM mX6_follow [vR 0, vL _, vI (bI false)] _ _
              refine c_follow C2 I1.s (e := (X.2.1.2.1 p).toInt * 256 + p) ⟨X.2.1.2.1 p, p, p1, rfl⟩ I1.lg.1 I1.lg.2 (ent_of (X.2.1.2.1 p) (by omega)) (fun q => ⟨I1.wf (Or.inr q), fun z => absurd z (by decide), fun _ => (I1.m5 q _).mpr row⟩) (fun X3 h3 F3 f3 C3 => ⟨rfl, ?_⟩)
              have I3 := I2.fol (e := (X.2.1.2.1 p).toInt * 256 + p) (b := false) ⟨X.2.1.2.1 p, p, p1, rfl⟩ (fun z => absurd z (by decide)) (fun _ => row) F3
              apply sX6_entryOf
              refine ⟨_, rfl, ?_⟩
              show EvM mX6_follow [vR 0, vL _, vI (bI true)] _ _
              refine c_follow C3 I3.s (e := a.toInt * 256 + p) ⟨a, p, p1, rfl⟩ I3.lg.1 I3.lg.2 (ent_of a (by omega)) (fun q => ⟨I3.wf (Or.inr q), fun _ z => nrow ((I3.m5 q _).mp z), fun z => absurd z (by decide)⟩) (fun X4 h4 F4 f4 C4 => ⟨rfl, _, rfl, ?_⟩)
              have I4 := I3.fol (e := a.toInt * 256 + p) (b := true) ⟨a, p, p1, rfl⟩ (fun _ => nrow) (fun z => absurd z (by decide)) F4
              refine mod h4 _ ((M2.k f3).k f4) (fun h18 f18 M18 => ⟨fun z => absurd z df, fun _ => ?_⟩)
              show EvM mX7_note [vR 27, vI (bI false), vI _, vI (nI p)] _ _
              refine m_note M18 F3 I1.s I1.u I1.tw p1 rfl I1.lg.1 I1.lg.2 (fun q => ⟨I1.wf (Or.inr q), fun z => absurd z (by decide), fun _ => (I1.m5 q _).mpr row⟩) (fun h19 f19 M19 => ⟨rfl, ?_⟩)
              show EvM mX7_note [vR 27, vI (bI true), vI _, vI (nI p)] _ _
              refine m_note M19 F4 I3.s I3.u I3.tw p1 rfl I3.lg.1 I3.lg.2 (fun q => ⟨I3.wf (Or.inr q), fun _ z => nrow ((I3.m5 q _).mp z), fun z => absurd z (by decide)⟩) (fun h20 f20 M20 => ⟨rfl, K _ _ ⟨X4, L, N, ((C4.k f18).k (fUm f19 (by decide))).k (fUm f20 (by decide)), M20, ?_, n⟩⟩)
              unfold PI
              rw [F4.k.2, F3.k.2]
              refine I4.cg (fun x => ?_)
              show _ ↔ rowE (wdX X).2.2.1.1 (upd (wdX X).2.2.1.2.1 p a) x
              rw [t2, t3]
              exact (rowE_ch p1 ht x).symm
          · rw [bI_0] at no
            have M1 : MX X L N h1 := M.k f1
            apply sX7_change
            intro h4 e4
            rw [m_down M1 e4]
            refine ⟨fun _ => ?_, fun z => absurd d0 z⟩
            have M4 := M1.th e4
            have C4 := C1.th e4
            refine m_isRow_in M4.2.1 p1 (fun z => absurd z ht) (fun _ => ⟨1, rfl, fun _ => ?_, fun y => absurd y (by decide)⟩)
            refine m_clashes M4 hs (fun _ => ⟨0, rfl, fun _ => ?_, fun z => absurd rfl z⟩) (fun z => absurd z nr)
            exact m_writeDown M4 hs d0 (PR.wz I) I.2.1 (fun h5 f5 M5 => ⟨_, rfl, fun z => absurd no (by rw [bI_0] at z; exact z), fun _ => K _ _ ⟨(wdX X).2, L, N, C4.k (fUm f5 (by decide)), M5, PI.wd I, n⟩⟩)
        · apply sX7_change
          intro h4 e4
          rw [m_down M e4]
          refine ⟨fun _ => ?_, fun z => absurd d0 z⟩
          have M4 := M.th e4
          refine m_isRow_in M4.2.1 p1 (fun z => absurd z ht) (fun _ => ⟨1, rfl, fun _ => ?_, fun y => absurd y (by decide)⟩)
          exact m_clashes M4 hs (fun z => absurd yr z) (fun _ => ⟨1, rfl, fun z => absurd z (by decide), fun _ => K _ _ (unk h4 e4)⟩)
    · refine c_has_out out ⟨0, rfl, fun y => absurd rfl y, fun _ => ⟨_, rfl, ?_⟩⟩
      apply sX7_change
      intro h4 e4
      rw [m_down M e4]
      refine ⟨fun _ => ?_, fun y => absurd d0 y⟩
      exact m_isRow_out out ⟨0, rfl, fun y => absurd rfl y, fun _ => K _ _ (unk h4 e4)⟩
  · apply sX7_change
    intro h4 e4
    rw [m_down M e4]
    exact ⟨fun z => absurd z d1, fun _ => K _ _ ⟨X, L, N, C.th e4, M.th e4, I, n⟩⟩
/-! power, counts -/
theorem op_rows (I : Inv h) (K : ∀ r h2, Inv h2 → P r (some (vI r)) h2) : EvM mX6_rows [vR 0] h (fun v h1 => ∃ r, v = some (vI r) ∧ EvM mX7_rows [vR 27] h1 (P r)) := by
  obtain ⟨X, L, N, C, M, I, n⟩ := I
  apply sX6_rows
  refine c_isDown C I.1 ⟨_, rfl, fun d0 => ?_, fun d1 => ⟨_, rfl, ?_⟩⟩
  · apply sX4_count
    refine ⟨_, rfl, _, rfl, ?_⟩
    apply sX7_rows
    intro h4 e4
    rw [m_down M e4, C.2.1.2.2]
    exact ⟨fun _ => m_rowCount (M.th e4).2.1 ⟨_, rfl, K _ _ ⟨X, L, N, C.th e4, M.th e4, I, n⟩⟩, fun z => absurd d0 z⟩
  · apply sX7_rows
    intro h4 e4
    rw [m_down M e4]
    exact ⟨fun z => absurd z d1, fun _ => K _ _ ⟨X, L, N, C.th e4, M.th e4, I, n⟩⟩
theorem op_start (I : Inv h) (K : ∀ r h2, Inv h2 → P r (some (vI r)) h2) : EvM mX6_start [vR 0] h (fun v h1 => ∃ r, v = some (vI r) ∧ EvM mX7_start [vR 27] h1 (P r)) := by
  obtain ⟨X, L, N, C, M, I, n⟩ := I
  apply sX6_start
  refine c_isDown C I.1 ⟨_, rfl, fun d1 => ?_, fun d0 => ⟨_, rfl, ?_⟩⟩
  · apply sX0_powerUp
    rintro _ rfl h2 e2
    have f2 : fr [6] h h2 := by
      rw [e2]
      (repeat first | exact fr.rf | refine fr.sI ?_ (by decide) _ | refine fr.sJ ?_ (by decide) _ | refine fr.sW ?_ (by decide) _ _)
    have C2 : CX ((0, -1, X.1.2.2), X.2) L N h2 := by
      refine C.dk f2 ?_
      have d := C.1
      rw [e2]
      refine ⟨?_, ?_, ?_, ?_, ?_, ?_⟩ <;> simp (disch := decide) only [sI_at, sI_ne, sI_21, sI_22, sJ_1, sJ_at, sJ_ne, sJ_22, sW_1, sW_21, upd_at, upd_ne]
      · exact d.2.2.1
      · exact d.2.2.2.1
      · exact d.2.2.2.2.1
      · exact d.2.2.2.2.2
    clear e2
    refine ⟨rfl, ?_⟩
    apply sX4_count
    refine ⟨_, rfl, _, rfl, ?_⟩
    rw [C2.2.1.2.2]
    have M2 : MX X L N h2 := M.k (f2.mono (by decide))
    apply sX7_start
    intro h4 e4
    rw [m_down M2 e4]
    refine ⟨fun _ => ?_, fun z => absurd z d1⟩
    rintro _ rfl h5 e5
    have M4 := M2.th e4
    have f5 : fz 27 [27] [4, 5, 6, 7, 8, 9] h4 h5 := by
      rw [e5]
      (repeat first | exact fz.rf | refine fz.up ?_ (by decide) (by decide) | refine fz.sI ?_ (by decide) (by decide) _ | refine fz.sJ ?_ (by decide) _)
    have M5 : MX ((0, -1, X.1.2.2), X.2) L N h5 := by
      refine M4.dk f5 ?_
      have d := M4.1
      rw [e5]
      refine ⟨?_, fun _ => ?_, ?_, ?_, ?_, ?_⟩ <;> simp (disch := decide) only [sI_at, sI_ne, sI_21, sI_22, sJ_1, sJ_at, sJ_ne, sJ_22, sW_1, sW_21, upd_at, upd_ne]
      · exact d.2.2.1
      · exact d.2.2.2.1
      · exact d.2.2.2.2.1
      · exact d.2.2.2.2.2
    refine m_rowCount M5.2.1 ⟨_, rfl, K _ _ ⟨_, L, N, (C2.th e4).k (fUm f5 (by decide)), M5, ?_, n⟩⟩
    exact PR.dk I (Or.inl rfl) I.2.1
  · apply sX7_start
    intro h4 e4
    rw [m_down M e4]
    exact ⟨fun z => absurd d0 z, fun _ => K _ _ ⟨X, L, N, C.th e4, M.th e4, I, n⟩⟩
theorem op_cut {x y : Int32} (I : Inv h) (K : ∀ r h2, Inv h2 → P r (some (vI r)) h2) : EvM mX6_cut [vR 0, vI x, vI y] h (fun v h1 => ∃ r, v = some (vI r) ∧ EvM mX7_cut [vR 27, vI x, vI y] h1 (P r)) := by
  obtain ⟨X, L, N, C, M, I, n⟩ := I
  have unk : ∀ h4, h4 = sI h 27 (upd (h.1 27) 0 0) → Inv h4 := fun h4 e4 => ⟨X, L, N, C.th e4, M.th e4, I, n⟩
  apply sX6_cut
  refine c_isDown C I.1 ⟨_, rfl, fun d0 => ?_, fun d1 => ⟨_, rfl, ?_⟩⟩
  · simp only [Int32.lt_iff_toInt_lt]
    have c1 : (-1 : Int32).toInt = -1 := rfl
    have c2 : (1000 : Int32).toInt = 1000 := rfl
    have c3 : (0 : Int32).toInt = 0 := rfl
    have c4 : (64 : Int32).toInt = 64 := rfl
    have c5 : (63 : Int32).toInt = 63 := rfl
    rw [c1, c2, c3, c4]
    have out : (¬ (-1 ≤ x.toInt ∧ x.toInt ≤ 1000) ∨ ¬ (0 ≤ y.toInt ∧ y.toInt ≤ 63)) → EvM mX7_cut [vR 27, vI x, vI y] h (P (-102)) := by
      intro hq
      apply sX7_cut
      intro h4 e4
      rw [m_down M e4]
      refine ⟨fun _ => ?_, fun z => absurd d0 z⟩
      refine m_in (fun a1 a2 => ⟨1, rfl, fun z => absurd z (by decide), fun _ => ?_⟩) (fun a => ⟨0, rfl, fun _ => K _ _ (unk h4 e4), fun z => absurd rfl z⟩)
      refine m_in (fun a3 a4 => ?_) (fun a => ⟨0, rfl, fun z => absurd rfl z, fun _ => K _ _ (unk h4 e4)⟩)
      rw [c1] at a1
      rw [c2] at a2
      rw [c3] at a3
      rw [c5] at a4
      omega
    refine ⟨fun z => ⟨_, rfl, out (by omega)⟩, fun z1 => ⟨fun z => ⟨_, rfl, out (by omega)⟩, fun z2 => ⟨fun z => ⟨_, rfl, out (by omega)⟩, fun z3 => ⟨fun z4 => ?_, fun z => ⟨_, rfl, out (by omega)⟩⟩⟩⟩⟩
    apply sX0_setLoss
    intro h2 e2
    have f2 : fr [6] h h2 := by
      rw [e2]
      (repeat first | exact fr.rf | refine fr.sI ?_ (by decide) _ | refine fr.sJ ?_ (by decide) _ | refine fr.sW ?_ (by decide) _ _)
    have C2 : CX ((X.1.1, x, X.1.2.2), X.2) L N h2 := by
      refine C.dk f2 ?_
      have d := C.1
      rw [e2]
      refine ⟨?_, ?_, ?_, ?_, ?_, ?_⟩ <;> simp (disch := decide) only [sI_at, sI_ne, sI_21, sI_22, sJ_1, sJ_at, sJ_ne, sJ_22, sW_1, sW_21, upd_at, upd_ne]
      · exact d.1
      · exact d.2.2.1
      · exact d.2.2.2.1
      · exact d.2.2.2.2.1
      · exact d.2.2.2.2.2
    clear e2
    refine ⟨rfl, _, rfl, ?_⟩
    have M2 : MX X L N h2 := M.k (f2.mono (by decide))
    apply sX7_cut
    intro h4 e4
    rw [m_down M2 e4]
    refine ⟨fun _ => ?_, fun z => absurd d0 z⟩
    have M4 := M2.th e4
    refine m_in (fun a1 a2 => ⟨1, rfl, fun z => absurd z (by decide), fun _ => ?_⟩) (fun a => absurd (⟨by rw [c1]; omega, by rw [c2]; omega⟩ : (-1 : Int32).toInt ≤ x.toInt ∧ x.toInt ≤ (1000 : Int32).toInt) a)
    refine m_in (fun a3 a4 => ⟨1, rfl, fun _ h5 e5 => ?_, fun z => absurd z (by decide)⟩) (fun a => absurd (⟨by rw [c3]; omega, by rw [c5]; omega⟩ : (0 : Int32).toInt ≤ y.toInt ∧ y.toInt ≤ (63 : Int32).toInt) a)
    have f5 : fz 27 [27] [4, 5, 6, 7, 8, 9] h4 h5 := by
      rw [e5]
      (repeat first | exact fz.rf | refine fz.up ?_ (by decide) (by decide) | refine fz.sI ?_ (by decide) (by decide) _ | refine fz.sJ ?_ (by decide) _)
    have M5 : MX ((X.1.1, x, X.1.2.2), X.2) L N h5 := by
      refine M4.dk f5 ?_
      have d := M4.1
      rw [e5]
      refine ⟨?_, fun _ => ?_, ?_, ?_, ?_, ?_⟩ <;> simp (disch := decide) only [sI_at, sI_ne, sI_21, sI_22, sJ_1, sJ_at, sJ_ne, sJ_22, sW_1, sW_21, upd_at, upd_ne]
      · exact d.1
      · exact d.2.2.1
      · exact d.2.2.2.1
      · exact d.2.2.2.2.1
      · exact d.2.2.2.2.2
    exact K _ _ ⟨_, L, N, (C2.th e4).k (fUm f5 (by decide)), M5, PR.dk I I.1 I.2.1, n⟩
  · apply sX7_cut
    intro h4 e4
    rw [m_down M e4]
    exact ⟨fun z => absurd z d1, fun _ => K _ _ (unk h4 e4)⟩
end OP2
