/-! the log is caught up -/
section CAT
variable {X X' : XT} {L : LT} {N : NT} {h : Hp} {Q : Option AV → Hp → Prop} {ok : Bool}
theorem c_catchUp (C : CX X L N h) (I : PI X L) (q : X.2.2.1.1 = 4) (K : ∀ ok X' h', CR X ok X' → fr Uc h h' → CX X' L N h' → Q (some (vI (bI ok))) h') : EvM mX6_catchUp [vR 0] h Q := by
  obtain ⟨w, hd, mm⟩ := ct_in I q
  have hs := PR.s I
  have wz := PR.wz I
  have O := w.1.1
  have hu := w.1.2.1
  have r8 := w.2.1
  have rb : ∀ j, j ≤ X.2.2.2.2.2.1 X.2.2.2.2.2.2.1 → (rws X.2.2.2.2.1 j [X.2.2.2.2.2.2.1]).length ≤ 64 := fun j hj => rws_64 O w.1.2.2.1 hu hj
  have wl : enL X.2.2.2.2.1 (rws X.2.2.2.2.1 (X.2.2.2.2.2.1 X.2.2.2.2.2.2.1) [X.2.2.2.2.2.2.1]) = wE X.2.2.2.2 := en_rws _ _ _
  have lg40 := (PR.lg I).1
  obtain ⟨fi, g1, g2, g3, g4⟩ := C.2.2.2.1.2.2
  apply sX6_catchUp
  apply sX2_count
  rw [g3]
  refine ⟨_, rfl, ?_⟩
  simp (disch := omega) only [nt_le, nt_lt, nt_eq, nt_cl, nt_vp, nI_add, lu_le, lu_lt, lu_eq, ul_le, ul_lt, ul_eq, lu_add, ul_add, lu_sub, lu_mul, ul_mul, nt_sub, nt_m1]
  refine ⟨fun z => ?_, fun z => ?_⟩
  · have l0 : X.2.2.2.1.2.2.2 = [] := List.eq_nil_of_length_eq_zero (by omega)
    have pub : (X.2.2.1.2.1 = 0 ∨ Bst X.2.1.1 X.2.1.2.1 (fun _ _ => True) none) → ∀ h1, fr Uc h h1 → CX X L N h1 → Ev mX6_catchUp 59 [(0, vR 0)] [vI (-1)] h1 Q := by
      intro cb h1 f1 C1
      apply sX6_catchUp_59
      refine ⟨fun _ => ?_, fun y => absurd rfl y⟩
      apply sX5_nodeCount
      have nc : h1.1 16 5 = nI (nn X.2.2.2.2) := C1.2.2.2.2.2.1.1.2.1
      rw [nc]
      refine ⟨_, rfl, ?_⟩
      have nl : nn X.2.2.2.2 ≤ 64 := cn_le _ _
      refine c_makeCheckpoint C1 hs (by omega) (fun h2 f2 C2 => ⟨_, rfl, fun y h7 e7 => ?_, fun y => ?_⟩)
      · have okk : (ckX (nn X.2.2.2.2) X).1 = true := by
          cases k : (ckX (nn X.2.2.2.2) X).1 with
          | true => rfl
          | false =>
            rw [k] at y
            exact absurd rfl y
        have f7 : fz 0 [0] [2] h2 h7 := by
          rw [e7]
          (repeat first | exact fz.rf | refine fz.up ?_ (by decide) (by decide) | refine fz.sI ?_ (by decide) (by decide) _ | refine fz.sJ ?_ (by decide) _)
        refine c_forgetBuilding (fun h8 f8 b8 => ⟨rfl, ?_⟩)
        have k := K true (pbX (ckX (nn X.2.2.2.2) X).2) h8 (Or.inr (Or.inr ⟨l0, cb, okk.symm, by rw [if_pos okk]⟩)) (f1.tr (f2.tr ((f7.1.mono (by decide)).tr (f8.1.mono (by decide)))))
        refine k ?_
        obtain ⟨J1, J2, J3, J4, J5, J6, J7⟩ := C2
        have s8 : (ckX (nn X.2.2.2.2) X).2.2.2.1 = X.2.2.1 := (ck_ok okk).2
        refine ⟨(J1.k f7.1 (by decide)).k f8.1 (by decide), (J2.k f7.1 (by decide)).k f8.1 (by decide), ⟨?_, ?_, ?_, ?_, ?_⟩, b8, fun v => absurd v (by show ¬ (5 : Nat) = 3; decide), (J6.k f7.1 (by decide) (by decide)).k f8.1 (by decide) (by decide), (J7.k f7 (by decide) (by decide)).k f8 (by decide) (by decide)⟩
        · rw [f8.2 2 (by decide), e7]
          simp (disch := decide) only [sI_at, sI_ne, sI_21, sI_22, sJ_1, sJ_at, sJ_ne, sJ_22, sW_1, sW_21, upd_at, upd_ne]
          rfl
        · rw [f8.2 3 (by decide), f7.2 3 (by decide)]
          exact J3.2.1
        · rw [f8.2 5 (by decide), f7.2 5 (by decide)]
          exact J3.2.2.1
        · rw [f8.2 6 (by decide), f7.2 6 (by decide)]
          exact J3.2.2.2.1
        · rw [f8.2 7 (by decide), f7.2 7 (by decide)]
          exact J3.2.2.2.2
      · have no : (ckX (nn X.2.2.2.2) X).1 = false := bI_0.mp y
        exact K false _ h2 (Or.inr (Or.inr ⟨l0, cb, no.symm, by rw [if_neg (by rw [no]; decide)]⟩)) (f1.tr f2) C2
    rw [C.2.2.1.2.1]
    refine ⟨fun y => pub (Or.inl y) h fr.rf C, fun y => ?_⟩
    have okes : ∀ E ∈ enL X.2.2.2.2.1 (rws X.2.2.2.2.1 (X.2.2.2.2.2.1 X.2.2.2.2.2.2.1) [X.2.2.2.2.2.2.1]), okE E := by
      rw [wl]
      exact fun E hE => (w.2.2.2.1 E hE).e
    obtain ⟨tb1, tb0⟩ := tw_bst w.2.2.1 (mm l0)
    refine c_firstTwin O C.2.2.2.2.2.1.1 C.2.2.2.2.2.1.2.1 hu (by omega) rb okes (fun h5 r f5 tw => ⟨_, rfl, ?_⟩) (fun h5 f5 tw => ⟨_, rfl, ?_⟩)
    · rw [wl] at tw
      obtain ⟨rl, bs⟩ := tb1 r tw
      have C5 := C.scr f5
      have wlen := w.len
      apply sX6_catchUp_59
      refine ⟨fun v => ?_, fun _ => ?_⟩
      · exfalso
        have := congrArg Int32.toInt v
        rw [nI_toInt (show r < 2 ^ 31 by omega), show (-1 : Int32).toInt = -1 from rfl] at this
        omega
      · refine c_entryAt O C5.2.2.2.2.2.1.1 (p := r) C5.2.2.2.2.2.1.2.1 hu (by omega) rb (by rw [wl]; omega) (fun h9 x9 f9 v9 => ⟨_, rfl, ?_⟩)
        rw [wl] at v9
        apply sX6_placeOf
        rw [plc_nI v9]
        refine ⟨_, rfl, fun h13 e13 => ?_⟩
        have C9 := C5.scr f9
        have f13 : fz 0 [0] [6] h9 h13 := by
          rw [e13]
          (repeat first | exact fz.rf | refine fz.up ?_ (by decide) (by decide) | refine fz.sI ?_ (by decide) (by decide) _ | refine fz.sJ ?_ (by decide) _)
        have T13 : C_tr X.2.2.2.2 h13 := C9.2.2.2.2.2.1.k f13.1 (by decide) (by decide)
        rw [show nI r + 1 = nI (r + 1) from nI_1 _]
        refine c_entryAt O T13.1 (p := r + 1) T13.2.1 hu (by omega) rb (by rw [wl]; omega) (fun h14 x14 f14 v14 => ⟨_, rfl, ?_⟩)
        rw [wl] at v14
        apply sX6_placeOf
        rw [plc_nI v14]
        refine ⟨_, rfl, fun h18 e18 => ?_⟩
        have f18 : fz 0 [0, 24, 25] [6, 7] h9 h18 := by
          refine (f13.mono (by decide) (by decide)).tr (((fz.of (F := []) f14 (by decide)).mono (by decide) (by decide)).tr ?_)
          rw [e18]
          (repeat first | exact fz.rf | refine fz.up ?_ (by decide) (by decide) | refine fz.sI ?_ (by decide) (by decide) _ | refine fz.sJ ?_ (by decide) _)
        have C18 : CX (twX ((wE X.2.2.2.2).getD r 0 % 256).toNat ((wE X.2.2.2.2).getD (r + 1) 0 % 256).toNat X) L N h18 := by
          obtain ⟨J1, J2, J3, J4, J5, J6, J7⟩ := C9
          refine ⟨J1.k f18.1 (by decide), J2.k f18.1 (by decide), ⟨?_, ?_, ?_, ?_, ?_⟩, J4.k f18 (by decide) (by decide), fun v => ?_, J6.k f18.1 (by decide) (by decide), J7.k f18 (by decide) (by decide)⟩
          · rw [f18.2 2 (by decide)]
            exact J3.1
          · rw [f18.2 3 (by decide)]
            exact J3.2.1
          · rw [f18.2 5 (by decide)]
            exact J3.2.2.1
          · rw [e18]
            simp (disch := decide) only [sI_at, sI_ne, sI_21, sI_22, sJ_1, sJ_at, sJ_ne, sJ_22, sW_1, sW_21, upd_at, upd_ne]
            rw [f14.i 0 (by decide), e13]
            simp (disch := decide) only [sI_at, sI_ne, sI_21, sI_22, sJ_1, sJ_at, sJ_ne, sJ_22, sW_1, sW_21, upd_at, upd_ne]
            rfl
          · rw [e18]
            simp (disch := decide) only [sI_at, sI_ne, sI_21, sI_22, sJ_1, sJ_at, sJ_ne, sJ_22, sW_1, sW_21, upd_at, upd_ne]
            rfl
          · have v : X.2.2.1.1 = 3 := v
            omega
        refine c_stopBuilding C18 (fun h19 f19 C19 => ⟨rfl, ?_⟩)
        exact K true _ h19 (Or.inr (Or.inl ⟨l0, y, _, _, bs, rfl, rfl⟩)) ((f5.mono (by decide)).tr ((f9.mono (by decide)).tr ((f18.1.mono (by decide)).tr f19))) C19
    · rw [wl] at tw
      exact pub (Or.inr (tb0 tw)) h5 (f5.mono (by decide)) (C.scr f5)
  · cases lc : X.2.2.2.1.2.2.2 with
    | nil =>
      rw [lc] at z
      exact absurd (by simp) z
    | cons a t =>
      obtain ⟨e, b⟩ := a
      obtain ⟨oke, hb⟩ := hd e b t lc
      rw [lc] at g3 g4 lg40
      have g40 := g4 0 (by simp)
      rw [Nat.add_zero, Nat.mod_eq_of_lt g1] at g40
      obtain ⟨x1, x2⟩ := g40
      have x1 : (h.2.1 14 fi).toInt = e := x1
      have x2 : h.1 15 fi = bI b := x2
      rw [List.length_cons] at lg40
      apply sX2_firstEntry
      rw [g2]
      simp (disch := omega) only [nt_le, nt_lt, nt_eq, nt_cl, nt_vp, nI_add, lu_le, lu_lt, lu_eq, ul_le, ul_lt, ul_eq, lu_add, ul_add, lu_sub, lu_mul, ul_mul, nt_sub, nt_m1]
      refine ⟨g1, _, rfl, ?_⟩
      apply sX2_firstComes
      rw [g2]
      simp (disch := omega) only [nt_le, nt_lt, nt_eq, nt_cl, nt_vp, nI_add, lu_le, lu_lt, lu_eq, ul_le, ul_lt, ul_eq, lu_add, ul_add, lu_sub, lu_mul, ul_mul, nt_sub, nt_m1]
      rw [x2]
      refine ⟨g1, by cases b <;> decide, _, rfl, ?_⟩
      apply sX2_takeFirst
      rw [g2, g3, List.length_cons]
      rw [show nI fi + 1 = nI (fi + 1) from nI_1 _, md40 (by omega)]
      simp (disch := omega) only [nt_le, nt_lt, nt_eq, nt_cl, nt_vp, nI_add, lu_le, lu_lt, lu_eq, ul_le, ul_lt, ul_eq, lu_add, ul_add, lu_sub, lu_mul, ul_mul, nt_sub, nt_m1]
      refine ⟨fun y => by omega, fun _ h2 e2 h3 e3 => ⟨trivial, ?_⟩⟩
      have k3 : h2.1 13 3 = nI (t.length + 1) := by
        rw [e2]
        simp (disch := decide) only [sI_at, sI_ne, sI_21, sI_22, sJ_1, sJ_at, sJ_ne, sJ_22, sW_1, sW_21, upd_at, upd_ne]
        rw [g3, List.length_cons]
      have f3 : fr [13] h h3 := by
        rw [e3, e2]
        (repeat first | exact fr.rf | refine fr.sI ?_ (by decide) _ | refine fr.sJ ?_ (by decide) _ | refine fr.sW ?_ (by decide) _ _)
      have C3 : CX (hdX t X.2.2.2.2 X) L N h3 := by
        obtain ⟨J1, J2, J3, J4, J5, J6, J7⟩ := C
        have fz3 : fz 0 [13] [] h h3 := fz.of f3 (by decide)
        refine ⟨J1.k f3 (by decide), J2.k f3 (by decide), J3.k fz3 (by decide), ⟨?_, J4.2.1.k f3 (by decide), (fi + 1) % 40, Nat.mod_lt _ (by decide), ?_, ?_, fun i hi => ?_⟩, fun v => ?_, J6.k f3 (by decide) (by decide), J7.k fz3 (by decide) (by decide)⟩
        · rw [fz3.2 4 (by decide)]
          exact J4.1
        · rw [e3, e2]
          simp (disch := decide) only [sI_at, sI_ne, sI_21, sI_22, sJ_1, sJ_at, sJ_ne, sJ_22, sW_1, sW_21, upd_at, upd_ne]
        · rw [e3]
          simp (disch := decide) only [sI_at, sI_ne, sI_21, sI_22, sJ_1, sJ_at, sJ_ne, sJ_22, sW_1, sW_21, upd_at, upd_ne]
          rw [k3]
          exact lu_sub (k := 1) (a := t.length + 1) (show 1 ≤ t.length + 1 by omega)
        · have hi : i < t.length := hi
          rw [f3.j 14 (by decide), f3.i 15 (by decide)]
          have := g4 (i + 1) (by rw [List.length_cons]; omega)
          rw [show (fi + (i + 1)) % 40 = ((fi + 1) % 40 + i) % 40 by omega] at this
          exact this
        · have v : X.2.2.1.1 = 3 := v
          omega
      have F3 : fr Uc h h3 := f3.mono (by decide)
      exact c_bring (X := hdX t X.2.2.2.2 X) C3 (Or.inl q) w oke x1 hb (fun k W' h' hW f t' => ⟨rfl, K true _ h' (Or.inl ⟨e, b, t, lc, rfl, Or.inl ⟨k, W', hW, rfl⟩⟩) (F3.tr f) t'⟩) (fun k k2 W' h' hW f t' => ⟨rfl, K true _ h' (Or.inl ⟨e, b, t, lc, rfl, Or.inr (Or.inl ⟨k, k2, W', hW, rfl⟩)⟩) (F3.tr f) t'⟩) (fun k k2 h' f t' => ⟨rfl, K true _ h' (Or.inl ⟨e, b, t, lc, rfl, Or.inr (Or.inr ⟨k, k2, rfl⟩)⟩) (F3.tr f) t'⟩)
def oI : Option (Nat × Nat) → Int32 × Int32
  | none => (-1, -1)
  | some x => (nI x.1, nI x.2)
def Ub (p q : Nat) : Nat → Nat → Prop := fun a b => a < p ∨ (a = p ∧ b < q)
theorem m_fc_18 {tp tk tv dp : Nat → Int32} (T : M_tb tp tk tv dp h) {p : Nat} (hp : p < 240) (K : ∀ o, Bst tp tk (Ub (p + 1) 0) o → Ev mX7_findClash 6 [(0, vR 27), (1, vI (oI o).1), (2, vI (oI o).2), (3, vI (nI (p + 1)))] [] h Q) : ∀ (d r : Nat) (o : Option (Nat × Nat)), r + d = 240 → p < r → Bst tp tk (Ub p r) o → Ev mX7_findClash 18 [(0, vR 27), (1, vI (oI o).1), (2, vI (oI o).2), (3, vI (nI p)), (4, vI (nI r))] [] h Q := by
  intro d
  induction d with
  | zero =>
    intro r o hr hpr B
    have e : r = 240 := by omega
    subst e
    apply sX7_findClash_18
    simp (disch := omega) only [nt_le, nt_lt, nt_eq, nt_cl, nt_vp, nI_add, lu_le, lu_lt, lu_eq, ul_le, ul_lt, ul_eq, lu_add, ul_add, lu_sub, lu_mul, ul_mul, nt_sub, nt_m1]
    refine ⟨fun _ => K o (B.cg (fun a b v => ?_)), fun z => absurd (by decide) z⟩
    have := v.2.1
    unfold Ub
    omega
  | succ d ih =>
    intro r o hr hpr B
    obtain ⟨t1, t2, -⟩ := T.1 p hp
    obtain ⟨u1, u2, -⟩ := T.1 r (by omega)
    have skip : ¬ vpr tp tk p r → Ev mX7_findClash 18 [(0, vR 27), (1, vI (oI o).1), (2, vI (oI o).2), (3, vI (nI p)), (4, vI (nI (r + 1)))] [] h Q := by
      intro nv
      refine ih (r + 1) o (by omega) (by omega) (B.cg (fun a b v => ?_))
      unfold Ub
      constructor
      · omega
      · rintro (z | ⟨z1, z2⟩)
        · exact Or.inl z
        · by_cases y : b = r
          · rw [z1, y] at v
            exact absurd v nv
          · exact Or.inr ⟨z1, by omega⟩
    have take : vpr tp tk p r → (∀ a b, o = some (a, b) → (tk p).toInt < (tk a).toInt) → Ev mX7_findClash 81 [(0, vR 27), (3, vI (nI p)), (4, vI (nI r))] [] h Q := by
      intro v lt
      apply sX7_findClash_81
      simp (disch := omega) only [nt_le, nt_lt, nt_eq, nt_cl, nt_vp, nI_add, lu_le, lu_lt, lu_eq, ul_le, ul_lt, ul_eq, lu_add, ul_add, lu_sub, lu_mul, ul_mul, nt_sub, nt_m1]
      refine ih (r + 1) (some (p, r)) (by omega) (by omega) ⟨v, Or.inr ⟨rfl, Nat.lt_succ_self _⟩, fun a b u va => ?_⟩
      by_cases y : a = p ∧ b = r
      · rw [y.1, y.2]
        exact Or.inr ⟨rfl, Or.inr ⟨rfl, Nat.le_refl _⟩⟩
      · have u2 : Ub p r a b := by
          unfold Ub at u ⊢
          omega
        cases o with
        | none => exact absurd va (B a b u2)
        | some x =>
          obtain ⟨x1, x2⟩ := x
          have k1 := lt x1 x2 rfl
          rcases B.2.2 a b u2 va with k | ⟨k, -⟩
          · have k : (tk x1).toInt < (tk a).toInt := k
            exact Or.inl (by show (tk p).toInt < _; omega)
          · have k : tk x1 = tk a := k
            rw [← k]
            exact Or.inl k1
    apply sX7_findClash_18
    simp (disch := omega) only [nt_le, nt_lt, nt_eq, nt_cl, nt_vp, nI_add, lu_le, lu_lt, lu_eq, ul_le, ul_lt, ul_eq, lu_add, ul_add, lu_sub, lu_mul, ul_mul, nt_sub, nt_m1]
    rw [t1, t2, u1, u2]
    refine ⟨fun z => by omega, fun _ => ⟨by omega, fun z => K o (B.cg (fun a b v => ?_)), fun z => ⟨by omega, fun y => skip (fun v => v.2.2.2.1 y), fun y => ⟨by omega, by omega, fun x => skip (fun v => x v.2.2.2.2), fun x => ⟨fun w => take ⟨hpr, by omega, z, y, x⟩ (fun a b e => ?_), fun w => ?_⟩⟩⟩⟩⟩
    · unfold Ub
      constructor
      · omega
      · intro k
        by_cases e : a = p
        · rw [e] at v
          exact absurd z v.2.2.1
        · omega
    · exfalso
      rw [e] at w B
      have w : nI a = -1 := w
      have a240 : a < 240 := by
        have := B.1.1
        have := B.1.2.1
        dsimp only at *
        omega
      have := congrArg Int32.toInt w
      rw [nI_toInt (show a < 2 ^ 31 by omega), show (-1 : Int32).toInt = -1 from rfl] at this
      omega
    · cases o with
      | none => exact absurd rfl w
      | some x =>
        obtain ⟨a, b⟩ := x
        have a240 : a < 240 := by
          have := B.1.1
          have := B.1.2.1
          dsimp only at *
          omega
        show p < 240 ∧ vp_in (nI a) 240 ∧ ((h.1 29 (Int32.toNatClampNeg (nI a)) ≤ tk p → _) ∧ (¬ h.1 29 (Int32.toNatClampNeg (nI a)) ≤ tk p → _))
        simp (disch := omega) only [nt_le, nt_lt, nt_eq, nt_cl, nt_vp, nI_add, lu_le, lu_lt, lu_eq, ul_le, ul_lt, ul_eq, lu_add, ul_add, lu_sub, lu_mul, ul_mul, nt_sub, nt_m1]
        rw [(T.1 a a240).2.1, Int32.le_iff_toInt_le]
        refine ⟨by omega, by omega, fun k => ?_, fun k => take ⟨hpr, by omega, z, y, x⟩ (fun a' b' e => ?_)⟩
        · refine ih (r + 1) (some (a, b)) (by omega) (by omega) ⟨B.1, ?_, fun a' b' u va => ?_⟩
          · have := B.2.1
            unfold Ub at this ⊢
            dsimp only at *
            omega
          · by_cases g : a' = p ∧ b' = r
            · show (tk a).toInt < (tk a').toInt ∨ (tk a = tk a' ∧ (a < a' ∨ (a = a' ∧ b ≤ b')))
              rw [g.1, g.2]
              by_cases k2 : (tk a).toInt = (tk p).toInt
              · refine Or.inr ⟨Int32.toInt_inj.mp k2, ?_⟩
                have := B.2.1
                unfold Ub at this
                dsimp only at *
                omega
              · exact Or.inl (by omega)
            · refine B.2.2 a' b' ?_ va
              unfold Ub at u ⊢
              omega
        · cases e
          omega
theorem m_fc_6 {tp tk tv dp : Nat → Int32} (T : M_tb tp tk tv dp h) (K : ∀ o, Bst tp tk (fun _ _ => True) o → Ev mX7_findClash 6 [(0, vR 27), (1, vI (oI o).1), (2, vI (oI o).2), (3, vI (nI 240))] [] h Q) : ∀ (d p : Nat) (o : Option (Nat × Nat)), p + d = 240 → Bst tp tk (Ub p 0) o → Ev mX7_findClash 6 [(0, vR 27), (1, vI (oI o).1), (2, vI (oI o).2), (3, vI (nI p))] [] h Q := by
  intro d
  induction d with
  | zero =>
    intro p o hp B
    have e : p = 240 := by omega
    subst e
    refine K o (B.cg (fun a b v => ⟨fun _ => trivial, fun _ => Or.inl ?_⟩))
    have := v.1
    have := v.2.1
    omega
  | succ d ih =>
    intro p o hp B
    apply sX7_findClash_6
    simp (disch := omega) only [nt_le, nt_lt, nt_eq, nt_cl, nt_vp, nI_add, lu_le, lu_lt, lu_eq, ul_le, ul_lt, ul_eq, lu_add, ul_add, lu_sub, lu_mul, ul_mul, nt_sub, nt_m1]
    refine ⟨fun z => by omega, fun _ => ?_⟩
    refine m_fc_18 T (by omega) (fun o' B' => ih (p + 1) o' (by omega) B') (239 - p) (p + 1) o (by omega) (by omega) (B.cg (fun a b v => ?_))
    have := v.1
    unfold Ub
    omega
theorem m_ct_41 {n : Nat} {x1 x2 x3 : Int32} (hn : n < 40) {h0 : Hp} (h35 : ∀ i, i < n + 1 → h0.1 35 i = 0 ∨ h0.1 35 i = 1) : ∀ (d k : Nat) (h : Hp), k + d = n → fr [35, 36, 37] h0 h → h0.1 27 22 = nI n → (∀ c, c = 35 ∨ c = 36 ∨ c = 37 → (∀ i, i < k → h.1 c i = h0.1 c (i + 1)) ∧ ∀ i, k ≤ i → h.1 c i = h0.1 c i) → (∀ h', fr [35, 36, 37] h0 h' → (∀ c, c = 35 ∨ c = 36 ∨ c = 37 → ∀ i, i < n → h'.1 c i = h0.1 c (i + 1)) → Ev mX7_catchStep 41 [(0, vR 27), (1, vI x1), (2, vI x2), (3, vI x3), (4, vI (nI n))] [] h' Q) → Ev mX7_catchStep 41 [(0, vR 27), (1, vI x1), (2, vI x2), (3, vI x3), (4, vI (nI k))] [] h Q := by
  intro d
  induction d with
  | zero =>
    intro k h hk f h22 a K
    have e : k = n := by omega
    subst e
    exact K h f (fun c hc => (a c hc).1)
  | succ d ih =>
    intro k h hk f h22 a K
    have v35 : h.1 35 (k + 1) = h0.1 35 (k + 1) := (a 35 (Or.inl rfl)).2 (k + 1) (by omega)
    apply sX7_catchStep_41
    rw [f.i 27 (by decide), h22]
    simp (disch := omega) only [nt_le, nt_lt, nt_eq, nt_cl, nt_vp, nI_add, lu_le, lu_lt, lu_eq, ul_le, ul_lt, ul_eq, lu_add, ul_add, lu_sub, lu_mul, ul_mul, nt_sub, nt_m1]
    refine ⟨fun z => by omega, fun _ => ⟨by omega, by omega, by rw [v35]; exact h35 _ (by omega), fun h8 e8 => ⟨by omega, by omega, fun h11 e11 => ⟨by omega, by omega, fun h14 e14 => ?_⟩⟩⟩⟩
    have r35 : h14.1 35 = upd (h.1 35) k (h.1 35 (k + 1)) := by
      rw [e14, e11, e8]
      simp (disch := decide) only [sI_at, sI_ne, sI_21, sI_22, sJ_1, sJ_at, sJ_ne, sJ_22, sW_1, sW_21, upd_at, upd_ne]
    have r36 : h14.1 36 = upd (h.1 36) k (h.1 36 (k + 1)) := by
      rw [e14, e11, e8]
      simp (disch := decide) only [sI_at, sI_ne, sI_21, sI_22, sJ_1, sJ_at, sJ_ne, sJ_22, sW_1, sW_21, upd_at, upd_ne]
    have r37 : h14.1 37 = upd (h.1 37) k (h.1 37 (k + 1)) := by
      rw [e14, e11, e8]
      simp (disch := decide) only [sI_at, sI_ne, sI_21, sI_22, sJ_1, sJ_at, sJ_ne, sJ_22, sW_1, sW_21, upd_at, upd_ne]
    refine ih (k + 1) h14 (by omega) (f.tr (by rw [e14, e11, e8]; (repeat first | exact fr.rf | refine fr.sI ?_ (by decide) _ | refine fr.sJ ?_ (by decide) _ | refine fr.sW ?_ (by decide) _ _))) h22 (fun c hc => ?_) K
    have rc : h14.1 c = upd (h.1 c) k (h.1 c (k + 1)) := by
      rcases hc with z | z | z <;> rw [z]
      · exact r35
      · exact r36
      · exact r37
    obtain ⟨a1, a2⟩ := a c hc
    rw [rc]
    refine ⟨fun i hi => ?_, fun i hi => ?_⟩
    · by_cases y : i = k
      · rw [y, upd_at]
        exact a2 _ (by omega)
      · rw [upd_ne _ _ y]
        exact a1 i (by omega)
    · rw [upd_ne _ _ (by omega)]
      exact a2 i (by omega)
theorem m_catchStep (M : MX X L N h) (I : PI X L) (d0 : X.1.1 = 0) (q : X.2.2.1.1 = 4) (R : CR X ok X') (K : ∀ h', fr Um h h' → MX X' L N h' → Q (some (vI (bI ok))) h') : EvM mX7_catchStep [vR 27] h Q := by
  obtain ⟨w, hd, mm⟩ := ct_in I q
  have hs := PR.s I
  have wz := PR.wz I
  have tw := PR.tw I (by omega)
  have lg40 := (PR.lg I).1
  obtain ⟨B1, B2, B3⟩ := M.2.2.2.1 (by omega)
  have u12 : h.1 27 12 = X.2.2.1.2.1 := M.2.2.1.2.1 (by omega)
  apply sX7_catchStep
  rw [B3.1, u12]
  simp (disch := omega) only [nt_le, nt_lt, nt_eq, nt_cl, nt_vp, nI_add, lu_le, lu_lt, lu_eq, ul_le, ul_lt, ul_eq, lu_add, ul_add, lu_sub, lu_mul, ul_mul, nt_sub, nt_m1]
  refine ⟨fun z => ?_, fun z h6 e6 => ?_⟩
  · have l0 : X.2.2.2.1.2.2.2 = [] := List.eq_nil_of_length_eq_zero (by omega)
    have n33 : h.1 27 33 = nI (nn X.2.2.2.2) := by
      rw [M.2.2.2.2.2.1.1.2.1, show (80 : Nat) = 64 + 16 from rfl, cn_64 wz 16]
      rfl
    have pub : (X.2.2.1.2.1 = 0 ∨ Bst X.2.1.1 X.2.1.2.1 (fun _ _ => True) none) → Ev mX7_catchStep 155 [(0, vR 27)] [] h Q := by
      intro cb
      have nl : nn X.2.2.2.2 ≤ 64 := cn_le _ _
      rcases R with ⟨e, b, t, lc, -⟩ | ⟨-, u0, p, r, bs, -⟩ | ⟨-, -, ek, ex⟩
      · rw [l0] at lc
        cases lc
      · rcases cb with y | y
        · exact absurd y u0
        · have := bs.un y
          cases this
      apply sX7_catchStep_155
      rw [n33]
      refine m_checkpoint M hs d0 (by omega) (fun h2 f2 M2 => ⟨_, rfl, fun y h4 e4 => ?_, fun y => ?_⟩)
      · have okk : (ckX (nn X.2.2.2.2) X).1 = true := by
          cases k : (ckX (nn X.2.2.2.2) X).1 with
          | true => rfl
          | false =>
            rw [k] at y
            exact absurd rfl y
        rw [okk] at ek
        rw [if_pos okk] at ex
        rw [ek, ex] at K
        have f4 : fz 27 [27] [11] h2 h4 := by
          rw [e4]
          (repeat first | exact fz.rf | refine fz.up ?_ (by decide) (by decide) | refine fz.sI ?_ (by decide) (by decide) _ | refine fz.sJ ?_ (by decide) _)
        have s8 : (ckX (nn X.2.2.2.2) X).2.2.2.1 = X.2.2.1 := (ck_ok okk).2
        obtain ⟨J1, J2, J3, J4, J5, J6, J7⟩ := M2
        rw [s8] at J3 J6
        refine K h4 ((f2.1.mono (by decide)).tr (f4.1.mono (by decide))) ⟨J1.k f4 (by decide), J2.k f4.1 (by decide), ?_, fun v => absurd v.2 (by show ¬ 5 ≤ 4; decide), fun v => absurd v.2 (by show ¬ 5 ≤ 3; decide), ⟨J6.1.fr f4.1 (f4.2 33 (by decide)) (by decide), fun _ => ?_⟩, J7.k f4 (by decide) (by decide)⟩
        · show M_sc (5, (ckX (nn X.2.2.2.2) X).2.2.2.1.2) h4
          rw [s8]
          refine ⟨?_, fun _ => ?_, ?_, ?_, ?_⟩
          · rw [e4]
            simp (disch := decide) only [sI_at, sI_ne, sI_21, sI_22, sJ_1, sJ_at, sJ_ne, sJ_22, sW_1, sW_21, upd_at, upd_ne]
            rfl
          · rw [f4.2 12 (by decide)]
            exact J3.2.1 (by omega)
          · rw [f4.2 13 (by decide)]
            exact J3.2.2.1
          · rw [f4.2 14 (by decide)]
            exact J3.2.2.2.1
          · rw [f4.2 15 (by decide)]
            exact J3.2.2.2.2
        · rw [f4.2 34 (by decide)]
          exact J6.2 (Or.inl q)
      · have no : (ckX (nn X.2.2.2.2) X).1 = false := bI_0.mp y
        rw [no] at ek
        rw [if_neg (by rw [no]; decide)] at ex
        rw [ek, ex] at K
        exact K h2 (f2.1.mono (by decide)) M2
    refine ⟨fun y => pub (Or.inl y), fun y => ?_⟩
    apply sX7_findClash
    refine m_fc_6 (tp := X.2.1.1) (tk := X.2.1.2.1) (tv := X.2.1.2.2.1) (dp := X.2.1.2.2.2) M.2.1 (fun o bs => ?_) 240 0 none (by omega) (fun a b u => ?_)
    · apply sX7_findClash_6
      refine ⟨fun _ => ?_, fun v => absurd (by decide) v⟩
      cases o with
      | none => exact ⟨fun v => absurd rfl v, fun _ => ⟨0, rfl, fun _ => pub (Or.inr bs), fun v => absurd rfl v⟩⟩
      | some x =>
        obtain ⟨p, r⟩ := x
        have p240 : p < 240 := by
          have := bs.1.1
          have := bs.1.2.1
          dsimp only at *
          omega
        refine ⟨fun _ => ?_, fun v => ?_⟩
        · refine m_stop M (by omega) (PR.u I) tw (fun h3 f3 M3 => ⟨rfl, fun h4 e4 h5 e5 => ⟨1, rfl, fun v => absurd v (by decide), fun _ => ?_⟩⟩)
          rcases R with ⟨e, b, t, lc, -⟩ | ⟨-, u0, p', r', bs', ek, ex⟩ | ⟨-, cb, -⟩
          · rw [l0] at lc
            cases lc
          · have := bs.un bs'
            cases this
            rw [ek, ex] at K
            have f5 : fz 27 [27] [14, 15] h3 h5 := by
              rw [e5, e4]
              (repeat first | exact fz.rf | refine fz.up ?_ (by decide) (by decide) | refine fz.sI ?_ (by decide) (by decide) _ | refine fz.sJ ?_ (by decide) _)
            obtain ⟨J1, J2, J3, J4, J5, J6, J7⟩ := M3
            refine K h5 ((f3.1.mono (by decide)).tr (f5.1.mono (by decide))) ⟨J1.k f5 (by decide), J2.k f5.1 (by decide), ⟨?_, fun v => ?_, ?_, ?_, ?_⟩, fun v => absurd v.2 (by show ¬ 6 ≤ 4; decide), fun v => absurd v.2 (by show ¬ 6 ≤ 3; decide), J6.k f5 (by decide) (by decide), J7.k f5 (by decide) (by decide)⟩
            · rw [f5.2 11 (by decide)]
              exact J3.1
            · rw [f5.2 12 (by decide)]
              exact J3.2.1 v
            · rw [f5.2 13 (by decide)]
              exact J3.2.2.1
            · rw [e5, e4]
              simp (disch := decide) only [sI_at, sI_ne, sI_21, sI_22, sJ_1, sJ_at, sJ_ne, sJ_22, sW_1, sW_21, upd_at, upd_ne]
              rfl
            · rw [e5, e4]
              simp (disch := decide) only [sI_at, sI_ne, sI_21, sI_22, sJ_1, sJ_at, sJ_ne, sJ_22, sW_1, sW_21, upd_at, upd_ne]
              rfl
          · rcases cb with v | v
            · exact absurd v y
            · have := bs.un v
              cases this
        · exfalso
          have v : nI p = -1 := v
          have := congrArg Int32.toInt v
          rw [nI_toInt (show p < 2 ^ 31 by omega), show (-1 : Int32).toInt = -1 from rfl] at this
          omega
    · unfold Ub at u
      omega
  · rcases R with ⟨e, b, t, lc, ek, R⟩ | ⟨l0, -⟩ | ⟨l0, -⟩
    · obtain ⟨oke, hb⟩ := hd e b t lc
      rw [lc] at B3 lg40
      obtain ⟨G1, G2⟩ := B3
      rw [List.length_cons] at G1 G2 lg40
      have g0 := G2 0 (by omega)
      have x1 : h.1 35 (Int32.toNatClampNeg 0) = bI b := g0.1
      have x2 : ent (h.1 36 (Int32.toNatClampNeg 0)) (h.1 37 (Int32.toNatClampNeg 0)) e := g0.2
      rw [lc, List.length_cons, show nI (t.length + 1) - 1 = nI t.length from lu_sub (k := 1) (a := t.length + 1) (show 1 ≤ t.length + 1 by omega)] at e6
      have f6 : fz 27 [27] [22] h h6 := by
        rw [e6]
        (repeat first | exact fz.rf | refine fz.up ?_ (by decide) (by decide) | refine fz.sI ?_ (by decide) (by decide) _ | refine fz.sJ ?_ (by decide) _)
      have h22 : h6.1 27 22 = nI t.length := by
        rw [e6]
        simp (disch := decide) only [sI_at, sI_ne, sI_21, sI_22, sJ_1, sJ_at, sJ_ne, sJ_22, sW_1, sW_21, upd_at, upd_ne]
      rw [x1]
      rw [ek] at K
      refine m_ct_41 (n := t.length) (by omega) (h0 := h6) (fun i hi => ?_) t.length 0 h6 (by omega) fr.rf h22 (fun c hc => ⟨fun i hi => absurd hi (Nat.not_lt_zero _), fun i _ => rfl⟩) (fun h7 f7 a7 => ?_)
      · rw [f6.1.i 35 (by decide), (G2 i (by omega)).1]
        cases ((((e, b) :: t).getD i (0, false)).2) <;> decide
      have f67 : fz 27 [27, 35, 36, 37] [22] h h7 := (f6.mono (by decide) (by decide)).tr ((fz.of (F := []) f7 (by decide)).mono (by decide) (by decide))
      have M7 : MX (hdX t X.2.2.2.2 X) L N h7 := by
        obtain ⟨J1, J2, J3, J4, J5, J6, J7⟩ := M
        refine ⟨J1.k f67 (by decide), J2.k f67.1 (by decide), J3.k f67 (by decide), fun _ => ⟨?_, B2.k f67 (by decide) (by decide), ?_, fun i hi => ?_⟩, fun v => ?_, J6.k f67 (by decide) (by decide), J7.k f67 (by decide) (by decide)⟩
        · rw [f67.2 16 (by decide)]
          exact B1
        · rw [f7.i 27 (by decide)]
          exact h22
        · have hi : i < t.length := hi
          rw [a7 35 (Or.inl rfl) i hi, a7 36 (Or.inr (Or.inl rfl)) i hi, a7 37 (Or.inr (Or.inr rfl)) i hi, f6.1.i 35 (by decide), f6.1.i 36 (by decide), f6.1.i 37 (by decide)]
          exact G2 (i + 1) (by omega)
        · have v : 1 ≤ X.2.2.1.1 ∧ X.2.2.1.1 ≤ 3 := v
          omega
      have F7 : fr Um h h7 := f67.1.mono (by decide)
      -- the tree has a new store
      have done : ∀ (W' : WT) (h8 : Hp), wfW W' → fz 27 [27, 40, 41, 42, 43, 44, 45, 46, 48, 49] [33, 34, 45] h7 h8 → M_tr X.2.2.1.1 W' h8 → X' = hdX t W' X → Ev mX7_catchStep 123 [(0, vR 27)] [] h8 Q := by
        intro W' h8 w8 f8 t8 ex
        have M8 : MX (hdX t W' X) L N h8 := MX.tr (X := hdX t X.2.2.2.2 X) M7 (by show ¬ (1 ≤ X.2.2.1.1 ∧ X.2.2.1.1 ≤ 3); omega) f8 t8
        apply sX7_catchStep_123
        rw [t8.1.2.1, show (80 : Nat) = 64 + 16 from rfl, cn_64 w8.z 16]
        have := cn_le (nu W'.1) 64
        simp (disch := omega) only [nt_le, nt_lt, nt_eq, nt_cl, nt_vp, nI_add, lu_le, lu_lt, lu_eq, ul_le, ul_lt, ul_eq, lu_add, ul_add, lu_sub, lu_mul, ul_mul, nt_sub, nt_m1]
        rw [ex] at K
        exact ⟨fun _ => K h8 (F7.tr (f8.1.mono (by decide))) M8, fun v => absurd this v⟩
      apply sX7_catchStep_41
      rw [f7.i 27 (by decide), h22, bI_0]
      simp (disch := omega) only [nt_le, nt_lt, nt_eq, nt_cl, nt_vp, nI_add, lu_le, lu_lt, lu_eq, ul_le, ul_lt, ul_eq, lu_add, ul_add, lu_sub, lu_mul, ul_mul, nt_sub, nt_m1]
      refine ⟨fun _ => ⟨fun y => ?_, fun y => ?_⟩, fun v => absurd (Nat.le_refl _) v⟩
      · refine m_go (st := X.2.2.1.1) M7.2.2.2.2.2.1 (Or.inl q) w x2 (hb.2 y) (fun h8 f8 t8 => ⟨rfl, ?_⟩)
        rcases R with ⟨-, W', hW, ex⟩ | ⟨y2, -⟩ | ⟨y2, -⟩
        · exact done W' h8 hW.2.2.2.1 (f8.mono (by decide) (by decide)) (t8 W' hW) ex
        · rw [y] at y2
          cases y2
        · rw [y] at y2
          cases y2
      · have y : b = true := by simpa using y
        refine m_come (st := X.2.2.1.1) M7.2.2.2.2.2.1 (Or.inl q) w x2 (hb.1 y) (fun g h8 S' f8 s8 r8 c1 c2 => ⟨rfl, ?_⟩) (fun g h8 f8 t8 => ⟨rfl, ?_⟩)
        · rcases R with ⟨y2, -⟩ | ⟨-, g2, -⟩ | ⟨-, -, ex⟩
          · rw [y] at y2
            cases y2
          · exact absurd g2 (Nat.not_le.mpr g)
          · rw [ex] at K
            apply sX7_catchStep_123
            rw [s8.2.1]
            simp (disch := omega) only [nt_le, nt_lt, nt_eq, nt_cl, nt_vp, nI_add, lu_le, lu_lt, lu_eq, ul_le, ul_lt, ul_eq, lu_add, ul_add, lu_sub, lu_mul, ul_mul, nt_sub, nt_m1]
            refine ⟨fun v => by omega, fun _ => ?_⟩
            exact m_full (X := hdX t X.2.2.2.2 X) M7 (Or.inl q) (show X.2.2.1.2.1 = 0 ∨ X.2.2.1.2.1 = 1 from PR.u I) tw f8 s8 r8 (fun h9 f9 M9 => ⟨rfl, K h9 (F7.tr (f9.1.mono (by decide))) M9⟩)
        · rcases R with ⟨y2, -⟩ | ⟨-, -, W', hW, ex⟩ | ⟨-, g2, -⟩
          · rw [y] at y2
            cases y2
          · exact done W' h8 hW.2.2.2.1 f8 (t8 W' hW) ex
          · exact absurd g (Nat.not_le.mpr g2)
    · rw [l0] at z
      exact absurd (by simp) z
    · rw [l0] at z
      exact absurd (by simp) z
end CAT
