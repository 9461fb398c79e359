/-! calls of both: the table -/
theorem FR.k {X X' : XT} {e : Int} {b : Bool} (F : FR X e b X') : X'.1 = X.1 ∧ X'.2.1 = X.2.1 := by
  rcases F with ⟨q, F⟩ | ⟨q1, q2, q3, F⟩ | ⟨q1, q2, F⟩
  · rcases F with ⟨b0, W', hW, F⟩ | ⟨b0, g, W', hW, F⟩ | ⟨b0, g, F⟩ <;> rw [F] <;> exact ⟨rfl, rfl⟩
  · rcases F with ⟨g, F⟩ | ⟨g, F⟩ <;> rw [F] <;> exact ⟨rfl, rfl⟩
  · rw [F]
    exact ⟨rfl, rfl⟩
section OP1
variable {X : XT} {L : LT} {N : NT} {h : Hp} {Q : Option AV → Hp → Prop} {P : Int32 → Option AV → Hp → Prop}
theorem MX.th (H : MX X L N h) {h1 : Hp} {v : Int32} (e : h1 = sI h 27 (upd (h.1 27) 0 v)) : MX X L N h1 := by
  have f : fz 27 [27] [0] h h1 := by
    rw [e]
    (repeat first | exact fz.rf | refine fz.up ?_ (by decide) (by decide) | refine fz.sI ?_ (by decide) (by decide) _ | refine fz.sJ ?_ (by decide) _)
  obtain ⟨H1, H2, H3, H4, H5, H6, H7⟩ := H
  exact ⟨H1.k f (by decide), H2.k f.1 (by decide), H3.k f (by decide), fun q => (H4 q).k f (by decide) (by decide), fun q => (H5 q).k f (by decide) (by decide), H6.k f (by decide) (by decide), H7.k f (by decide) (by decide)⟩
theorem CX.th (H : CX X L N h) {h1 : Hp} {v : Int32} (e : h1 = sI h 27 (upd (h.1 27) 0 v)) : CX X L N h1 := H.k (by rw [e]; exact fr.rf.sI (by decide) _)
theorem MX.tb (H : MX X L N h) {h' : Hp} {T' : TB} (f : fr [28, 29, 30, 31] h h') (t : M_T T' h') : MX (X.1, T', X.2.2) L N h' := by
  obtain ⟨H1, H2, H3, H4, H5, H6, H7⟩ := H
  have g : fz 27 [28, 29, 30, 31] [] h h' := fz.of f (by decide)
  exact ⟨H1.k g (by decide), t, H3.k g (by decide), fun q => (H4 q).k g (by decide) (by decide), fun q => (H5 q).k g (by decide) (by decide), H6.k g (by decide) (by decide), H7.k g (by decide) (by decide)⟩
theorem CX.tb (H : CX X L N h) {h' : Hp} {T' : TB} (f : fr [1, 2, 3, 4, 5] h h') (t : C_T T' h') : CX (X.1, T', X.2.2) L N h' := by
  obtain ⟨H1, H2, H3, H4, H5, H6, H7⟩ := H
  have g : fz 0 [1, 2, 3, 4, 5] [] h h' := fz.of f (by decide)
  exact ⟨H1.k f (by decide), t, H3.k g (by decide), H4.k g (by decide) (by decide), fun q => (H5 q).k f (by decide), H6.k f (by decide) (by decide), H7.k g (by decide) (by decide)⟩
theorem c_wouldRepeat (H : CX X L N h) (hs : X.2.2.1.1 < 7) {k b : Int32} (K0 : ¬ (X.2.2.1.1 = 5 ∧ ¬ X.2.2.1.2.1 = 0 ∧ rp X.2.1.1 X.2.1.2.1 k b 0) → Q (some (vI 0)) h) (K1 : X.2.2.1.1 = 5 ∧ ¬ X.2.2.1.2.1 = 0 ∧ rp X.2.1.1 X.2.1.2.1 k b 0 → Q (some (vI 1)) h) : EvM mX6_wouldRepeat [vR 0, vI k, vI b] h Q := by
  apply sX6_wouldRepeat
  rw [show (5 : Int32) = nI 5 from rfl, c_st H hs 5 (by decide), H.2.2.1.2.1]
  exact ⟨fun q => K0 (fun z => q z.1), fun q => ⟨fun q2 => K0 (fun z => z.2.1 q2), fun q2 => c_hasKeyBeside H.2.1 (fun r => ⟨1, rfl, fun z => absurd z (by decide), fun _ => K1 ⟨q, q2, r⟩⟩) (fun r => ⟨0, rfl, fun _ => K0 (fun z => r z.2.2), fun z => absurd rfl z⟩)⟩⟩
theorem m_clashes (H : MX X L N h) (hs : X.2.2.1.1 < 7) {k b : Int32} (K0 : ¬ (X.2.2.1.1 = 5 ∧ ¬ X.2.2.1.2.1 = 0 ∧ rp X.2.1.1 X.2.1.2.1 k b 0) → Q (some (vI 0)) h) (K1 : X.2.2.1.1 = 5 ∧ ¬ X.2.2.1.2.1 = 0 ∧ rp X.2.1.1 X.2.1.2.1 k b 0 → Q (some (vI 1)) h) : EvM mX7_clashes [vR 27, vI k, vI b] h Q := by
  apply sX7_clashes
  by_cases q : X.2.2.1.1 = 5
  · have u := H.2.2.1.2.1 (by omega)
    have s : h.1 27 11 = 5 := (m_st H hs 5 (by decide)).mpr q
    by_cases q2 : X.2.2.1.2.1 = 0
    · apply sX7_clashes_5
      rw [s, u]
      have k0 := K0 (fun z => z.2.1 q2)
      exact ⟨fun z => absurd z (by decide), fun _ => ⟨fun z => absurd rfl z, fun _ => ⟨fun _ => ⟨Or.inl rfl, k0⟩, fun z => absurd q2 z⟩⟩⟩
    · exact m_clashes_5 H.2.1 s (by rw [u]; exact q2) 240 0 rfl (fun r => K1 ⟨q, q2, r⟩) (fun r => K0 (fun z => r z.2.2))
  · apply sX7_clashes_5
    have s : ¬ h.1 27 11 = 5 := fun z => q ((m_st H hs 5 (by decide)).mp z)
    have k0 := K0 (fun z => q z.1)
    exact ⟨fun z => absurd z (by decide), fun _ => ⟨fun _ => ⟨Or.inl rfl, k0⟩, fun z => absurd z s⟩⟩
theorem rp_free {tp tk : Nat → Int32} {k : Int32} {p : Nat} (hp : p < 240) (h0 : tp p = 0) : rp tp tk k (nI p) 0 ↔ rp tp tk k (-1) 0 := by
  constructor
  · rintro ⟨q, h1, h2, h3, h4, h5⟩
    refine ⟨q, h1, h2, fun z => ?_, h4, h5⟩
    have : (0 : Int32) ≤ nI q := by
      simp (disch := omega) only [nt_le, nt_lt, nt_eq, nt_cl, nt_vp, nI_add, lu_le, lu_lt, lu_eq, ul_le, ul_lt, ul_eq, lu_add, ul_add, lu_sub, lu_mul, ul_mul, nt_sub, nt_m1]
      omega
    rw [z] at this
    exact absurd this (by decide)
  · rintro ⟨q, h1, h2, h3, h4, h5⟩
    refine ⟨q, h1, h2, fun z => ?_, h4, h5⟩
    rw [nt_eq (by omega) (by omega)] at z
    rw [z] at h4
    exact h4 h0
theorem m_add_17 {tp tk tv dp : Nat → Int32} (H : M_tb tp tk tv dp h) {a b : Int32} : ∀ n i : Nat, i + n = 240 → (∀ p, ff tp n i = some p → Ev mX7_add 39 [(0, vR 27), (1, vI a), (2, vI b), (3, vI (nI p))] [] h Q) → (ff tp n i = none → Ev mX7_add 39 [(0, vR 27), (1, vI a), (2, vI b), (3, vI (nI 240))] [] h Q) → Ev mX7_add 17 [(0, vR 27), (1, vI a), (2, vI b), (3, vI (nI i))] [] h Q
  | 0, i, hi, h1, h2 => by
    apply sX7_add_17
    have e : i = 240 := by omega
    subst e
    simp (disch := omega) only [nt_le, nt_lt, nt_eq, nt_cl, nt_vp, nI_add, lu_le, lu_lt, lu_eq, ul_le, ul_lt, ul_eq, lu_add, ul_add, lu_sub, lu_mul, ul_mul, nt_sub, nt_m1]
    exact ⟨fun _ => h2 rfl, fun c => absurd (Nat.le_refl _) c⟩
  | n + 1, i, hi, h1, h2 => by
    apply sX7_add_17
    simp (disch := omega) only [nt_le, nt_lt, nt_eq, nt_cl, nt_vp, nI_add, lu_le, lu_lt, lu_eq, ul_le, ul_lt, ul_eq, lu_add, ul_add, lu_sub, lu_mul, ul_mul, nt_sub, nt_m1]
    rw [(H.1 i (by omega)).1]
    refine ⟨fun c => by omega, fun c => ⟨by omega, fun e => ?_, fun e => ?_⟩⟩
    · exact h1 i (by unfold ff; rw [if_pos e])
    · refine m_add_17 H n (i + 1) (by omega) (fun p hp => h1 p ?_) (fun hp => h2 ?_)
      · unfold ff
        rw [if_neg e, hp]
      · unfold ff
        rw [if_neg e, hp]
theorem PR.lg {R : Int → Prop} (H : PR R X L) : X.2.2.2.1.2.2.2.length ≤ 40 ∧ X.2.2.2.1.1 ≤ 20 := by
  by_cases q : 1 ≤ X.2.2.1.1 ∧ X.2.2.1.1 ≤ 4
  · obtain ⟨⟨b1, b2, -⟩, -⟩ := H.2.2.2.2.2.2.2.2.2.1 q
    exact ⟨b2, b1⟩
  · rw [H.2.2.2.2.2.2.1 q]
    exact ⟨by decide, by decide⟩
theorem PR.s {R : Int → Prop} (H : PR R X L) : X.2.2.1.1 < 7 := H.2.2.1
theorem PR.u {R : Int → Prop} (H : PR R X L) : X.2.2.1.2.1 = 0 ∨ X.2.2.1.2.1 = 1 := H.2.2.2.1
theorem PR.tw {R : Int → Prop} (H : PR R X L) : ¬ X.2.2.1.1 = 6 → X.2.2.1.2.2.2 = (-1, -1) := H.2.2.2.2.2.1
theorem PR.wz {R : Int → Prop} (H : PR R X L) : WZ X.2.2.2.2 := H.2.2.2.2.2.2.2.1
theorem PR.wf {R : Int → Prop} (H : PR R X L) (q : X.2.2.1.1 = 4 ∨ X.2.2.1.1 = 5) : wfW X.2.2.2.2 := H.2.2.2.2.2.2.2.2.2.2.2.2.1 q
theorem PR.m5 {R : Int → Prop} (H : PR R X L) (q : X.2.2.1.1 = 5) (x : Int) : x ∈ wE X.2.2.2.2 ↔ R x := H.2.2.2.2.2.2.2.2.2.2.2.2.2 q x
/-- the powers of both -/
theorem m_down (H : MX X L N h) {h1 : Hp} (e : h1 = sI h 27 (upd (h.1 27) 0 0)) : h1.1 27 4 = X.1.1 := (H.th e).1.1
theorem fUm {h h' : Hp} {U F : List Nat} (f : fz 27 U F h h') (hs : ∀ d ∈ U, d ∈ Um) : fr Um h h' := f.1.mono hs
theorem op_add {a b : Int32} (I : Inv h) (K : ∀ r h2, Inv h2 → P r (some (vI r)) h2) : EvM mX6_add [vR 0, vI a, vI b] h (fun v h1 => ∃ r, v = some (vI r) ∧ EvM mX7_add [vR 27, vI a, vI b] h1 (P r)) := by
  obtain ⟨X, L, N, C, M, I, n⟩ := I
  have hs := PR.s I
  apply sX6_add
  refine c_isDown C I.1 ⟨_, rfl, fun d0 => ?_, fun d1 => ⟨_, rfl, ?_⟩⟩
  · have Cft := C.2.1
    apply sX4_firstFree
    refine c_firstFree_2 (tp := X.2.1.1) (fun p hp => (Cft.1 p hp).1) 240 0 rfl (fun p hp => ⟨_, rfl, fun _ => ?_, fun z => ?_⟩) (fun hp => ⟨_, rfl, fun z => absurd rfl z, fun _ => ⟨_, rfl, ?_⟩⟩)
    · obtain ⟨-, p1, p2, -⟩ := ff_lt hp
      have p1 : p < 240 := by omega
      have p1i : (p : Nat) < 2 ^ 31 := by omega
      refine c_wouldRepeat C hs (fun nr => ⟨0, rfl, fun _ => ?_, fun z => absurd rfl z⟩) (fun yr => ⟨1, rfl, fun z => absurd z (by decide), fun _ => ⟨_, rfl, ?_⟩⟩)
      · refine c_writeDown C hs I.2.1 (fun h1 f1 C1 => ⟨_, rfl, fun ok => ?_, fun no => ⟨_, rfl, ?_⟩⟩)
        · have ok : (wdX X).1 = true := by
            rw [bI_0] at ok
            simpa using ok
          obtain ⟨t1, t2, t3, t4, t5⟩ := wd_true ok
          have I1 : PR (rowE X.2.1.1 X.2.1.2.1) (wdX X).2 L := PR.wd I
          have M1 : MX X L N h1 := M.k f1
          clear f1
          have tz : (wdX X).2.2.1.1 p = 0 := by
            rw [t2]
            exact p2
          refine c_tput (p := p) C1.2.1 p1 (fun h2 f2 T2 => ⟨rfl, ?_⟩)
          rw [if_pos tz] at T2
          have C2 := C1.tb f2 (T' := (upd (wdX X).2.2.1.1 p 1, upd (wdX X).2.2.1.2.1 p a, upd (wdX X).2.2.1.2.2.1 p b, upd (wdX X).2.2.1.2.2.2 (p / 12) 1)) T2
          have M2 : MX X L N h2 := M1.k (f2.mono (by decide))
          apply sX6_entryOf
          refine ⟨_, rfl, ?_⟩
          have nrow : ¬ rowE X.2.1.1 X.2.1.2.1 (a.toInt * 256 + p) := fun z => ((rowE_at p1 _).mp z).1 p2
          show EvM mX6_follow [vR 0, vL _, vI (bI true)] _ _
          refine c_follow C2 I1.s (e := a.toInt * 256 + p) ⟨a, p, p1, rfl⟩ I1.lg.1 I1.lg.2 (ent_of a (by omega)) (fun q => ⟨I1.wf (Or.inr q), fun _ z => nrow ((I1.m5 q _).mp z), fun z => absurd z (by decide)⟩) (fun X3 h3 F f3 C3 => ⟨rfl, _, rfl, ?_⟩)
          have M3 : MX X L N h3 := M2.k f3
          clear f3 f2
          apply sX7_add
          intro h4 e4
          rw [m_down M3 e4]
          refine ⟨fun _ => ?_, fun z => absurd d0 z⟩
          have M4 := M3.th e4
          have C4 := C3.th e4
          refine m_add_17 M4.2.1 240 0 rfl (fun p' hp' => ?_) (fun z => by rw [z] at hp; cases hp)
          have epp : p' = p := by
            rw [hp] at hp'
            exact (Option.some.inj hp').symm
          rw [epp]
          apply sX7_add_39
          have pd : nI p / 12 = nI (p / 12) := pk_div (a := p) (d := 12) (by omega) (by decide) (by decide)
          rw [pd]
          simp (disch := omega) only [nt_le, nt_lt, nt_eq, nt_cl, nt_vp, nI_add, lu_le, lu_lt, lu_eq, ul_le, ul_lt, ul_eq, lu_add, ul_add, lu_sub, lu_mul, ul_mul, nt_sub, nt_m1]
          refine ⟨fun _ => ?_, fun z => by omega⟩
          refine m_clashes M4 hs (fun _ => ⟨0, rfl, fun _ => ?_, fun z => absurd rfl z⟩) (fun z => absurd ⟨z.1, z.2.1, (rp_free p1 p2).mpr z.2.2⟩ nr)
          refine m_writeDown M4 hs d0 (PR.wz I) I.2.1 (fun h5 f5 M5 => ⟨_, rfl, fun _ => ⟨p1, fun h9 e9 => ⟨p1, fun h11 e11 => ⟨p1, fun h13 e13 => ⟨by omega, fun h15 e15 => ?_⟩⟩⟩⟩, fun z => by rw [ok] at z; exact absurd z (by decide)⟩)
          have C5 := C4.k (fUm f5 (by decide))
          have f15 : fr [28, 29, 30, 31] h5 h15 := by
            rw [e15, e13, e11, e9]
            (repeat first | exact fr.rf | refine fr.sI ?_ (by decide) _ | refine fr.sJ ?_ (by decide) _ | refine fr.sW ?_ (by decide) _ _)
          have T15 : M_T (upd (wdX X).2.2.1.1 p 1, upd (wdX X).2.2.1.2.1 p a, upd (wdX X).2.2.1.2.2.1 p b, upd (wdX X).2.2.1.2.2.2 (p / 12) 1) h15 := by
            have tt := M5.2.1
            rw [e15, e13, e11, e9]
            refine ⟨fun i hi => ?_, fun i hi => ?_⟩ <;> simp (disch := decide) only [sI_at, sI_ne, sI_21, sI_22, sJ_1, sJ_at, sJ_ne, sJ_22, sW_1, sW_21, upd_at, upd_ne]
            · obtain ⟨u1, u2, u3⟩ := tt.1 i hi
              refine ⟨?_, ?_, ?_⟩ <;> (unfold upd; split)
              · rfl
              · exact u1
              · rfl
              · exact u2
              · rfl
              · exact u3
            · unfold upd
              split
              · rfl
              · exact tt.2 i hi
          have M15 := M5.tb f15 T15
          have C15 := C5.k (f15.mono (by decide))
          show EvM mX7_note [vR 27, vI (bI true), vI a, vI (nI p)] _ _
          refine m_note M15 F I1.s I1.u I1.tw p1 rfl I1.lg.1 I1.lg.2 (fun q => ⟨I1.wf (Or.inr q), fun _ z => nrow ((I1.m5 q _).mp z), fun z => absurd z (by decide)⟩) (fun h6 f6 M6 => ⟨rfl, K _ _ ⟨X3, L, N, C15.k (fUm f6 (by decide)), M6, ?_, n⟩⟩)
          have I2 : PR (rowE X.2.1.1 X.2.1.2.1) ((wdX X).2.1, (upd (wdX X).2.2.1.1 p 1, upd (wdX X).2.2.1.2.1 p a, upd (wdX X).2.2.1.2.2.1 p b, upd (wdX X).2.2.1.2.2.2 (p / 12) 1), (wdX X).2.2.2) L := I1.T _
          have I3 := I2.fol (e := a.toInt * 256 + p) (b := true) ⟨a, p, p1, rfl⟩ (fun _ => nrow) (fun z => absurd z (by decide)) F
          unfold PI
          rw [F.k.2]
          refine I3.cg (fun x => ?_)
          show _ ↔ rowE (upd (wdX X).2.2.1.1 p 1) (upd (wdX X).2.2.1.2.1 p a) x
          rw [t2, t3]
          exact (rowE_ap_t p1 p2 x).symm
        · rw [bI_0] at no
          have M1 : MX X L N h1 := M.k f1
          apply sX7_add
          intro h4 e4
          rw [m_down M1 e4]
          refine ⟨fun _ => ?_, fun z => absurd d0 z⟩
          have M4 := M1.th e4
          have C4 := C1.th e4
          refine m_add_17 M4.2.1 240 0 rfl (fun p' hp' => ?_) (fun z => by rw [z] at hp; cases hp)
          have epp : p' = p := by
            rw [hp] at hp'
            exact (Option.some.inj hp').symm
          rw [epp]
          apply sX7_add_39
          simp (disch := omega) only [nt_le, nt_lt, nt_eq, nt_cl, nt_vp, nI_add, lu_le, lu_lt, lu_eq, ul_le, ul_lt, ul_eq, lu_add, ul_add, lu_sub, lu_mul, ul_mul, nt_sub, nt_m1]
          refine ⟨fun _ => ?_, fun z => by omega⟩
          refine m_clashes M4 hs (fun _ => ⟨0, rfl, fun _ => ?_, fun z => absurd rfl z⟩) (fun z => absurd ⟨z.1, z.2.1, (rp_free p1 p2).mpr z.2.2⟩ nr)
          refine m_writeDown M4 hs d0 (PR.wz I) I.2.1 (fun h5 f5 M5 => ⟨_, rfl, fun z => absurd no (by rw [bI_0] at z; exact z), fun _ => K _ _ ⟨(wdX X).2, L, N, C4.k (fUm f5 (by decide)), M5, PI.wd I, n⟩⟩)
      · apply sX7_add
        intro h4 e4
        rw [m_down M e4]
        refine ⟨fun _ => ?_, fun z => absurd d0 z⟩
        have M4 := M.th e4
        refine m_add_17 M4.2.1 240 0 rfl (fun p' hp' => ?_) (fun z => by rw [z] at hp; cases hp)
        have epp : p' = p := by
          rw [hp] at hp'
          exact (Option.some.inj hp').symm
        rw [epp]
        apply sX7_add_39
        simp (disch := omega) only [nt_le, nt_lt, nt_eq, nt_cl, nt_vp, nI_add, lu_le, lu_lt, lu_eq, ul_le, ul_lt, ul_eq, lu_add, ul_add, lu_sub, lu_mul, ul_mul, nt_sub, nt_m1]
        refine ⟨fun _ => ?_, fun z => by omega⟩
        exact m_clashes M4 hs (fun z => absurd ⟨yr.1, yr.2.1, (rp_free p1 p2).mp yr.2.2⟩ z) (fun _ => ⟨1, rfl, fun z => absurd z (by decide), fun _ => K _ _ ⟨X, L, N, C.th e4, M4, I, n⟩⟩)
    · obtain ⟨-, p1, p2, -⟩ := ff_lt hp
      have : (0 : Int32) ≤ nI p := by
        simp (disch := omega) only [nt_le, nt_lt, nt_eq, nt_cl, nt_vp, nI_add, lu_le, lu_lt, lu_eq, ul_le, ul_lt, ul_eq, lu_add, ul_add, lu_sub, lu_mul, ul_mul, nt_sub, nt_m1]
        omega
      rw [z] at this
      exact absurd this (by decide)
    · apply sX7_add
      intro h4 e4
      rw [m_down M e4]
      refine ⟨fun _ => ?_, fun z => absurd d0 z⟩
      have M4 := M.th e4
      refine m_add_17 M4.2.1 240 0 rfl (fun p' hp' => by rw [hp'] at hp; cases hp) (fun _ => ?_)
      apply sX7_add_39
      exact ⟨fun z => absurd rfl z, fun _ => K _ _ ⟨X, L, N, C.th e4, M4, I, n⟩⟩
  · apply sX7_add
    intro h4 e4
    rw [m_down M e4]
    exact ⟨fun z => absurd z d1, fun _ => K _ _ ⟨X, L, N, C.th e4, M.th e4, I, n⟩⟩
theorem op_remove {x : Int32} (I : Inv h) (K : ∀ r h2, Inv h2 → P r (some (vI r)) h2) : EvM mX6_remove [vR 0, vI x] h (fun v h1 => ∃ r, v = some (vI r) ∧ EvM mX7_remove [vR 27, vI x] h1 (P r)) := by
  obtain ⟨X, L, N, C, M, I, n⟩ := I
  have hs := PR.s I
  apply sX6_remove
  refine c_isDown C I.1 ⟨_, rfl, fun d0 => ?_, fun d1 => ⟨_, rfl, ?_⟩⟩
  · have unk : ∀ h4, h4 = sI h 27 (upd (h.1 27) 0 0) → Inv h4 := fun h4 e4 => ⟨X, L, N, C.th e4, M.th e4, I, n⟩
    rcases pl_cases x with ⟨p, p1, ex⟩ | out
    · subst ex
      refine c_has_in C.2.1 p1 (fun z => ⟨0, rfl, fun y => absurd rfl y, fun _ => ⟨_, rfl, ?_⟩⟩) (fun ht => ⟨1, rfl, fun _ => ?_, fun y => absurd y (by decide)⟩)
      · apply sX7_remove
        intro h4 e4
        rw [m_down M e4]
        refine ⟨fun _ => ?_, fun y => absurd d0 y⟩
        exact m_isRow_in (M.th e4).2.1 p1 (fun _ => ⟨0, rfl, fun y => absurd rfl y, fun _ => K _ _ (unk h4 e4)⟩) (fun y => absurd z y)
      · refine c_writeDown C hs I.2.1 (fun h1 f1 C1 => ⟨_, rfl, fun ok => ?_, fun no => ⟨_, rfl, ?_⟩⟩)
        · have ok : (wdX X).1 = true := by
            rw [bI_0] at ok
            simpa using ok
          obtain ⟨t1, t2, t3, t4, t5⟩ := wd_true ok
          have I1 : PR (rowE X.2.1.1 X.2.1.2.1) (wdX X).2 L := PR.wd I
          have M1 : MX X L N h1 := M.k f1
          clear f1
          have tz : ¬ (wdX X).2.2.1.1 p = 0 := by
            rw [t2]
            exact ht
          refine c_keyAt C1.2.1 p1 tz ⟨_, rfl, ?_⟩
          refine c_clearPlace C1.2.1 p1 tz (fun h2 f2 T2 => ⟨rfl, ?_⟩)
          have C2 := C1.tb (f2.mono (by decide)) (T' := (upd (wdX X).2.2.1.1 p 0, (wdX X).2.2.1.2.1, (wdX X).2.2.1.2.2.1, upd (wdX X).2.2.1.2.2.2 (p / 12) 1)) T2
          have M2 : MX X L N h2 := M1.k (f2.mono (by decide))
          apply sX6_entryOf
          refine ⟨_, rfl, ?_⟩
          rw [t3]
          have row : rowE X.2.1.1 X.2.1.2.1 ((X.2.1.2.1 p).toInt * 256 + p) := (rowE_at p1 _).mpr ⟨ht, rfl⟩
          show EvM mX6_follow [vR 0, vL _, vI (bI false)] _ _
          refine c_follow C2 I1.s (e := (X.2.1.2.1 p).toInt * 256 + p) ⟨X.2.1.2.1 p, p, p1, rfl⟩ I1.lg.1 I1.lg.2 (ent_of (X.2.1.2.1 p) (by omega)) (fun q => ⟨I1.wf (Or.inr q), fun z => absurd z (by decide), fun _ => (I1.m5 q _).mpr row⟩) (fun X3 h3 F f3 C3 => ⟨rfl, _, rfl, ?_⟩)
          have M3 : MX X L N h3 := M2.k f3
          clear f3 f2
          apply sX7_remove
          intro h4 e4
          rw [m_down M3 e4]
          refine ⟨fun _ => ?_, fun z => absurd d0 z⟩
          have M4 := M3.th e4
          have C4 := C3.th e4
          refine m_isRow_in M4.2.1 p1 (fun z => absurd z ht) (fun _ => ⟨1, rfl, fun _ => ?_, fun y => absurd y (by decide)⟩)
          have pd : nI p / 12 = nI (p / 12) := pk_div (a := p) (d := 12) (by omega) (by decide) (by decide)
          rw [pd]
          refine m_writeDown M4 hs d0 (PR.wz I) I.2.1 (fun h5 f5 M5 => ⟨_, rfl, fun _ => ?_, fun z => by rw [ok] at z; exact absurd z (by decide)⟩)
          simp (disch := omega) only [nt_le, nt_lt, nt_eq, nt_cl, nt_vp, nI_add, lu_le, lu_lt, lu_eq, ul_le, ul_lt, ul_eq, lu_add, ul_add, lu_sub, lu_mul, ul_mul, nt_sub, nt_m1]
          refine ⟨p1, fun h9 e9 => ⟨by omega, fun h15 e15 => ⟨p1, ?_⟩⟩⟩
          have C5 := C4.k (fUm f5 (by decide))
          have f15 : fr [28, 29, 30, 31] h5 h15 := by
            rw [e15, e9]
            (repeat first | exact fr.rf | refine fr.sI ?_ (by decide) _ | refine fr.sJ ?_ (by decide) _ | refine fr.sW ?_ (by decide) _ _)
          have tt := M5.2.1
          have k29 : h15.1 29 p = X.2.1.2.1 p := by
            rw [e15, e9]
            simp (disch := decide) only [sI_at, sI_ne, sI_21, sI_22, sJ_1, sJ_at, sJ_ne, sJ_22, sW_1, sW_21, upd_at, upd_ne]
            rw [(tt.1 p p1).2.1, t3]
          have T15 : M_T (upd (wdX X).2.2.1.1 p 0, (wdX X).2.2.1.2.1, (wdX X).2.2.1.2.2.1, upd (wdX X).2.2.1.2.2.2 (p / 12) 1) h15 := by
            rw [e15, e9]
            refine ⟨fun i hi => ?_, fun i hi => ?_⟩ <;> simp (disch := decide) only [sI_at, sI_ne, sI_21, sI_22, sJ_1, sJ_at, sJ_ne, sJ_22, sW_1, sW_21, upd_at, upd_ne]
            · obtain ⟨u1, u2, u3⟩ := tt.1 i hi
              refine ⟨?_, u2, u3⟩
              unfold upd
              split
              · rfl
              · exact u1
            · unfold upd
              split
              · rfl
              · exact tt.2 i hi
          have M15 := M5.tb f15 T15
          have C15 := C5.k (f15.mono (by decide))
          rw [k29]
          show EvM mX7_note [vR 27, vI (bI false), vI _, vI (nI p)] _ _
          refine m_note M15 F I1.s I1.u I1.tw p1 rfl I1.lg.1 I1.lg.2 (fun q => ⟨I1.wf (Or.inr q), fun z => absurd z (by decide), fun _ => (I1.m5 q _).mpr row⟩) (fun h6 f6 M6 => ⟨rfl, K _ _ ⟨X3, L, N, C15.k (fUm f6 (by decide)), M6, ?_, n⟩⟩)
          have I2 : PR (rowE X.2.1.1 X.2.1.2.1) ((wdX X).2.1, (upd (wdX X).2.2.1.1 p 0, (wdX X).2.2.1.2.1, (wdX X).2.2.1.2.2.1, upd (wdX X).2.2.1.2.2.2 (p / 12) 1), (wdX X).2.2.2) L := I1.T _
          have I3 := I2.fol (e := (X.2.1.2.1 p).toInt * 256 + p) (b := false) ⟨X.2.1.2.1 p, p, p1, rfl⟩ (fun z => absurd z (by decide)) (fun _ => row) F
          unfold PI
          rw [F.k.2]
          refine I3.cg (fun x => ?_)
          show _ ↔ rowE (upd (wdX X).2.2.1.1 p 0) (wdX X).2.2.1.2.1 x
          rw [t2, t3]
          exact (rowE_ap_f p1 x).symm
        · rw [bI_0] at no
          have M1 : MX X L N h1 := M.k f1
          apply sX7_remove
          intro h4 e4
          rw [m_down M1 e4]
          refine ⟨fun _ => ?_, fun z => absurd d0 z⟩
          have M4 := M1.th e4
          have C4 := C1.th e4
          refine m_isRow_in M4.2.1 p1 (fun z => absurd z ht) (fun _ => ⟨1, rfl, fun _ => ?_, fun y => absurd y (by decide)⟩)
          exact m_writeDown M4 hs d0 (PR.wz I) I.2.1 (fun h5 f5 M5 => ⟨_, rfl, fun z => absurd no (by rw [bI_0] at z; exact z), fun _ => K _ _ ⟨(wdX X).2, L, N, C4.k (fUm f5 (by decide)), M5, PI.wd I, n⟩⟩)
    · refine c_has_out out ⟨0, rfl, fun y => absurd rfl y, fun _ => ⟨_, rfl, ?_⟩⟩
      apply sX7_remove
      intro h4 e4
      rw [m_down M e4]
      refine ⟨fun _ => ?_, fun y => absurd d0 y⟩
      exact m_isRow_out out ⟨0, rfl, fun y => absurd rfl y, fun _ => K _ _ (unk h4 e4)⟩
  · apply sX7_remove
    intro h4 e4
    rw [m_down M e4]
    exact ⟨fun z => absurd z d1, fun _ => K _ _ ⟨X, L, N, C.th e4, M.th e4, I, n⟩⟩
end OP1
