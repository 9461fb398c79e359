/-! row and entry, of both -/
def rwS (X : XT) (x1 x2 k r : Int32) : Prop := (¬ X.1.1 = 0 ∧ k = 1) ∨ (X.1.1 = 0 ∧ k = 2 ∧ ∀ p : Nat, p < 240 → x1 = nI p → X.2.1.1 p = 0) ∨ (X.1.1 = 0 ∧ k = 0 ∧ ∃ p : Nat, p < 240 ∧ x1 = nI p ∧ ¬ X.2.1.1 p = 0 ∧ r = if x2 = 0 then X.2.1.2.1 p else X.2.1.2.2.1 p)
def enS (X : XT) (x1 x2 k r : Int32) : Prop := (¬ X.1.1 = 0 ∧ k = 1) ∨ (X.1.1 = 0 ∧ k = 2 ∧ ¬ ∃ p : Nat, (X.2.2.1.1 = 4 ∨ X.2.2.1.1 = 5) ∧ x1 = nI p ∧ p < (wE X.2.2.2.2).length) ∨ (X.1.1 = 0 ∧ k = 0 ∧ ∃ p : Nat, (X.2.2.1.1 = 4 ∨ X.2.2.1.1 = 5) ∧ x1 = nI p ∧ p < (wE X.2.2.2.2).length ∧ r.toInt = if x2 = 0 then (wE X.2.2.2.2).getD p 0 / 256 else (wE X.2.2.2.2).getD p 0 % 256)
section ROW
variable {X : XT} {L : LT} {N : NT} {h : Hp} {Q : Option AV → Hp → Prop} {x1 x2 k r : Int32} {K : KT}
theorem in240 (x : Int32) : (x < 0 ∨ 240 ≤ x) ∨ ∃ p : Nat, p < 240 ∧ x = nI p := by
  by_cases a : x < 0
  · exact Or.inl (Or.inl a)
  · by_cases b : 240 ≤ x
    · exact Or.inl (Or.inr b)
    · right
      obtain ⟨j, j1, j2⟩ := i_in (k := 239) (x := x) (by decide) a (by
        rw [Int32.le_iff_toInt_le] at b ⊢
        have c1 : (240 : Int32).toInt = 240 := rfl
        have c2 : (nI 239).toInt = 239 := rfl
        omega)
      exact ⟨j, by omega, j2⟩
theorem out240 {x : Int32} (hx : x < 0 ∨ 240 ≤ x) (p : Nat) (hp : p < 240) : x ≠ nI p := by
  intro e
  rw [e] at hx
  rcases hx with a | a
  · exact absurd a (nI_pos (by omega))
  · revert a
    simp (disch := omega) only [nt_le, nt_lt, nt_eq, nt_cl, nt_vp, nI_add, lu_le, lu_lt, lu_eq, ul_le, ul_lt, ul_eq, lu_add, ul_add, lu_sub, lu_mul, ul_mul, nt_sub, nt_m1]
    omega
theorem c_row (C : CX X L N h) (I : PI X L) (K1 : rwS X x1 x2 1 0 → EvK mX6_row K 10 [] [] h) (K2 : rwS X x1 x2 2 0 → EvK mX6_row K 31 [] [] h) (K0 : ∀ r, rwS X x1 x2 0 r → EvK mX6_row K 64 [] [vI r] h) : EvK mX6_row K 0 [(0, vR 0), (1, vI x1), (2, vI x2)] [] h := by
  apply sX6_row_0
  refine c_isDown C I.1 ⟨_, rfl, fun d0 => ?_, fun d1 => K1 (Or.inl ⟨d1, rfl⟩)⟩
  rcases in240 x1 with hx | ⟨p, hp, e⟩
  · refine c_has_out hx ⟨0, rfl, fun z => absurd rfl z, fun _ => K2 (Or.inr (Or.inl ⟨d0, rfl, fun p hp e => absurd e (out240 hx p hp)⟩))⟩
  · subst e
    have T := C.2.1
    refine c_has_in (tp := X.2.1.1) (tk := X.2.1.2.1) (tv := X.2.1.2.2.1) (dp := X.2.1.2.2.2) T hp (fun z => ⟨0, rfl, fun y => absurd rfl y, fun _ => K2 (Or.inr (Or.inl ⟨d0, rfl, fun p' hp' e => ?_⟩))⟩) (fun z => ⟨1, rfl, fun _ => ⟨fun y => ?_, fun y => ?_⟩, fun y => absurd y (by decide)⟩)
    · have : p = p' := (nt_eq (by omega) (by omega)).mp e
      rw [← this]
      exact z
    · exact c_keyAt (tp := X.2.1.1) (tk := X.2.1.2.1) (tv := X.2.1.2.2.1) (dp := X.2.1.2.2.2) T hp z ⟨_, rfl, K0 _ (Or.inr (Or.inr ⟨d0, rfl, p, hp, rfl, z, by rw [if_pos y]⟩))⟩
    · exact c_valueAt (tp := X.2.1.1) (tk := X.2.1.2.1) (tv := X.2.1.2.2.1) (dp := X.2.1.2.2.2) T hp z ⟨_, rfl, K0 _ (Or.inr (Or.inr ⟨d0, rfl, p, hp, rfl, z, by rw [if_neg y]⟩))⟩
theorem m_row (M : MX X L N h) (S : rwS X x1 x2 k r) (K : ∀ h' r', h' = sI h 27 (upd (h.1 27) 0 k) → (k = 0 → r' = r) → Q (some (vI r')) h') : EvM mX7_row [vR 27, vI x1, vI x2] h Q := by
  have d4 := M.1.1
  have T := M.2.1
  have fin : ∀ s, s = k → (¬ s = 0 → (s = 1 ∨ s = 2)) → (s = 0 → ∃ p : Nat, p < 240 ∧ x1 = nI p ∧ r = if x2 = 0 then X.2.1.2.1 p else X.2.1.2.2.1 p) → Ev mX7_row 25 [(0, vR 27), (1, vI x1), (2, vI x2)] [vI s, vR 27] h Q := by
    intro s es h1 h0
    subst es
    apply sX7_row_25
    intro h1' e1
    have v0 : h1'.1 27 0 = s := by
      rw [e1]
      simp (disch := decide) only [sI_at, sI_ne, sI_21, sI_22, sJ_1, sJ_at, sJ_ne, sJ_22, sW_1, sW_21, upd_at, upd_ne]
    rw [v0]
    refine ⟨fun z => ?_, fun z => ?_⟩
    · have s0 : s = 0 := by
        by_cases y : s = 0
        · exact y
        · rcases h1 y with y | y <;> (rw [y] at z; exact absurd z (by decide))
      obtain ⟨p, hp, e, er⟩ := h0 s0
      obtain ⟨t1, t2, t3⟩ := T.1 p hp
      subst e
      simp (disch := omega) only [nt_le, nt_lt, nt_eq, nt_cl, nt_vp, nI_add, lu_le, lu_lt, lu_eq, ul_le, ul_lt, ul_eq, lu_add, ul_add, lu_sub, lu_mul, ul_mul, nt_sub, nt_m1]
      refine ⟨fun y => ⟨by omega, ?_⟩, fun y => ⟨by omega, ?_⟩⟩
      · rw [if_pos y] at er
        refine K h1' _ e1 (fun _ => ?_)
        rw [er, e1]
        simp (disch := decide) only [sI_at, sI_ne, sI_21, sI_22, sJ_1, sJ_at, sJ_ne, sJ_22, sW_1, sW_21, upd_at, upd_ne]
        exact t2
      · rw [if_neg y] at er
        refine K h1' _ e1 (fun _ => ?_)
        rw [er, e1]
        simp (disch := decide) only [sI_at, sI_ne, sI_21, sI_22, sJ_1, sJ_at, sJ_ne, sJ_22, sW_1, sW_21, upd_at, upd_ne]
        exact t3
    · refine K h1' 0 e1 (fun y => ?_)
      rw [y] at z
      exact absurd (by decide) z
  apply sX7_row
  rw [d4]
  refine ⟨fun d0 => ?_, fun d1 => ?_⟩
  · rcases S with ⟨z, -⟩ | ⟨-, ek, no⟩ | ⟨-, ek, p, hp, e, tp, er⟩
    · exact absurd d0 z
    · have go : Ev mX7_row 25 [(0, vR 27), (1, vI x1), (2, vI x2)] [vI 2, vR 27] h Q := fin 2 ek.symm (fun _ => Or.inr rfl) (fun y => absurd y (by decide))
      rcases in240 x1 with hx | ⟨p, hp, e⟩
      · exact m_isRow_out hx ⟨0, rfl, fun z => absurd rfl z, fun _ => go⟩
      · have := no p hp e
        subst e
        exact m_isRow_in (tp := X.2.1.1) (tk := X.2.1.2.1) (tv := X.2.1.2.2.1) (dp := X.2.1.2.2.2) T hp (fun _ => ⟨0, rfl, fun z => absurd rfl z, fun _ => go⟩) (fun z => absurd this z)
    · subst e
      exact m_isRow_in (tp := X.2.1.1) (tk := X.2.1.2.1) (tv := X.2.1.2.2.1) (dp := X.2.1.2.2.2) T hp (fun z => absurd z tp) (fun _ => ⟨1, rfl, fun _ => fin 0 ek.symm (fun y => absurd rfl y) (fun _ => ⟨p, hp, rfl, er⟩), fun z => absurd z (by decide)⟩)
  · rcases S with ⟨-, ek⟩ | ⟨z, -⟩ | ⟨z, -⟩
    · exact fin 1 ek.symm (fun _ => Or.inl rfl) (fun y => absurd y (by decide))
    · exact absurd z d1
    · exact absurd z d1
theorem c_entry (C : CX X L N h) (I : PI X L) (K1 : enS X x1 x2 1 0 → EvK mX6_entry K 10 [] [] h) (K2 : enS X x1 x2 2 0 → EvK mX6_entry K 28 [] [] h) (K0 : ∀ r h', enS X x1 x2 0 r → fr [24, 25] h h' → EvK mX6_entry K 62 [] [vI r] h') : EvK mX6_entry K 0 [(0, vR 0), (1, vI x1), (2, vI x2)] [] h := by
  apply sX6_entry_0
  refine c_isDown C I.1 ⟨_, rfl, fun d0 => ?_, fun d1 => K1 (Or.inl ⟨d1, rfl⟩)⟩
  refine c_isEntry C I (fun q p e hp => ⟨1, rfl, fun _ => ?_, fun y => absurd y (by decide)⟩) (fun no => ⟨0, rfl, fun y => absurd rfl y, fun _ => K2 (Or.inr (Or.inl ⟨d0, rfl, no⟩))⟩)
  subst e
  have w := PR.wf I q
  have O := w.1.1
  have hu := w.1.2.1
  have r8 := w.2.1
  have rb : ∀ j, j ≤ X.2.2.2.2.2.1 X.2.2.2.2.2.2.1 → (rws X.2.2.2.2.1 j [X.2.2.2.2.2.2.1]).length ≤ 64 := fun j hj => rws_64 O w.1.2.2.1 hu hj
  have wl : enL X.2.2.2.2.1 (rws X.2.2.2.2.1 (X.2.2.2.2.2.1 X.2.2.2.2.2.2.1) [X.2.2.2.2.2.2.1]) = wE X.2.2.2.2 := en_rws _ _ _
  refine c_entryAt O C.2.2.2.2.2.1.1 (p := p) C.2.2.2.2.2.1.2.1 hu (by omega) rb (by rw [wl]; exact hp) (fun h9 x9 f9 v9 => ⟨_, rfl, ?_⟩)
  rw [wl] at v9
  have mem : (wE X.2.2.2.2).getD p 0 ∈ wE X.2.2.2.2 := by
    rw [gD_at hp]
    exact List.getElem_mem _
  have ok := (w.2.2.2.1 _ mem).e
  refine ⟨fun y => ?_, fun y => ?_⟩
  · apply sX6_keyOf
    refine ⟨_, rfl, K0 _ h9 (Or.inr (Or.inr ⟨d0, rfl, p, q, rfl, hp, ?_⟩)) f9⟩
    rw [if_pos y, key_int (by rw [v9]; exact ok), v9]
  · apply sX6_placeOf
    refine ⟨_, rfl, K0 _ h9 (Or.inr (Or.inr ⟨d0, rfl, p, q, rfl, hp, ?_⟩)) f9⟩
    rw [if_neg y, plc_nI v9, nI_toInt (by omega)]
    omega
theorem m_entry (M : MX X L N h) (I : PI X L) (S : enS X x1 x2 k r) (K : ∀ h' r', fz 27 [27, 48, 49, 52] [0, 45, 50] h h' → h'.1 27 0 = k → (k = 0 → r' = r) → Q (some (vI r')) h') : EvM mX7_entry [vR 27, vI x1, vI x2] h Q := by
  have d4 := M.1.1
  have fin : ∀ (s x3 : Int32) (h1 : Hp), s = k → fz 27 [27, 48, 49, 52] [0, 45, 50] h h1 → (¬ s = 0 → (s = 1 ∨ s = 2)) → (s = 0 → ∃ j : Nat, j < 720 ∧ x3 = nI j ∧ r = if x2 = 0 then h1.1 44 j else h1.1 45 j) → Ev mX7_entry 39 [(0, vR 27), (2, vI x2), (3, vI x3)] [vI s, vR 27] h1 Q := by
    intro s x3 h1 es f1 hs1 hs0
    subst es
    apply sX7_entry_39
    intro h2 e2
    have f2 : fz 27 [27, 48, 49, 52] [0, 45, 50] h h2 := by
      refine f1.tr ?_
      rw [e2]
      (repeat first | exact fz.rf | refine fz.up ?_ (by decide) (by decide) | refine fz.sI ?_ (by decide) (by decide) _ | refine fz.sJ ?_ (by decide) _)
    have v0 : h2.1 27 0 = s := by
      rw [e2]
      simp (disch := decide) only [sI_at, sI_ne, sI_21, sI_22, sJ_1, sJ_at, sJ_ne, sJ_22, sW_1, sW_21, upd_at, upd_ne]
    rw [v0]
    refine ⟨fun z => ?_, fun z => ?_⟩
    · have s0 : s = 0 := by
        by_cases y : s = 0
        · exact y
        · rcases hs1 y with y | y <;> (rw [y] at z; exact absurd z (by decide))
      obtain ⟨j, hj, e, er⟩ := hs0 s0
      subst e
      simp (disch := omega) only [nt_le, nt_lt, nt_eq, nt_cl, nt_vp, nI_add, lu_le, lu_lt, lu_eq, ul_le, ul_lt, ul_eq, lu_add, ul_add, lu_sub, lu_mul, ul_mul, nt_sub, nt_m1]
      refine ⟨fun y => ⟨by omega, ?_⟩, fun y => ⟨by omega, ?_⟩⟩
      · rw [if_pos y] at er
        refine K h2 _ f2 v0 (fun _ => ?_)
        rw [er, e2]
        simp (disch := decide) only [sI_at, sI_ne, sI_21, sI_22, sJ_1, sJ_at, sJ_ne, sJ_22, sW_1, sW_21, upd_at, upd_ne]
      · rw [if_neg y] at er
        refine K h2 _ f2 v0 (fun _ => ?_)
        rw [er, e2]
        simp (disch := decide) only [sI_at, sI_ne, sI_21, sI_22, sJ_1, sJ_at, sJ_ne, sJ_22, sW_1, sW_21, upd_at, upd_ne]
    · refine K h2 0 f2 v0 (fun y => ?_)
      rw [y] at z
      exact absurd (by decide) z
  apply sX7_entry
  rw [d4]
  refine ⟨fun d0 => ?_, fun d1 => ?_⟩
  · refine m_slotX M I (fun q h1 p m j e hp f1 mb hu hv hj hz en _ => ⟨_, rfl, ?_⟩) (fun no h1 f1 => ⟨_, rfl, ?_⟩)
    · apply sX7_entry_16
      rw [f1.2 4 (by decide), d4]
      have ne : ¬ nI (9 * m + j) = -1 := by
        intro z
        have := congrArg Int32.toInt z
        rw [nI_toInt (show 9 * m + j < 2 ^ 31 by omega), show (-1 : Int32).toInt = -1 from rfl] at this
        omega
      refine ⟨fun _ => ⟨fun _ => ?_, fun z => absurd z ne⟩, fun z => absurd d0 z⟩
      rcases S with ⟨z, -⟩ | ⟨-, -, no⟩ | ⟨-, ek, p', q', e', hp', er⟩
      · exact absurd d0 z
      · exact absurd ⟨p, q, e, hp⟩ no
      · have wl := (PR.wf I q).len
        have pp : p' = p := (nt_eq (by omega) (by omega)).mp (e'.symm.trans e)
        subst pp
        refine fin 0 _ h1 ek.symm (f1.mono (by decide) (by decide)) (fun y => absurd rfl y) (fun _ => ⟨9 * m + j, by omega, rfl, ?_⟩)
        have T1 : M_tr X.2.2.1.1 X.2.2.2.2 h1 := M.2.2.2.2.2.1.k f1 (by decide) (by decide)
        obtain ⟨s1, s2, s3⟩ := ((T1.1.2.2 m (by omega) hu).2.2 j hj).1 hv
        rw [en] at s1
        by_cases y : x2 = 0
        · rw [if_pos y] at er ⊢
          apply Int32.toInt_inj.mp
          rw [er]
          omega
        · rw [if_neg y] at er ⊢
          apply Int32.toInt_inj.mp
          rw [er]
          omega
    · apply sX7_entry_16
      rw [f1.2 4 (by decide), d4]
      refine ⟨fun _ => ⟨fun z => absurd rfl z, fun _ => ?_⟩, fun z => absurd d0 z⟩
      rcases S with ⟨z, -⟩ | ⟨-, ek, -⟩ | ⟨-, ek, p', q', e', hp', er⟩
      · exact absurd d0 z
      · exact fin 2 _ h1 ek.symm (f1.mono (by decide) (by decide)) (fun _ => Or.inr rfl) (fun y => absurd y (by decide))
      · exact absurd ⟨p', q', e', hp'⟩ no
  · apply sX7_entry_16
    rw [d4]
    refine ⟨fun z => absurd z d1, fun _ => ?_⟩
    rcases S with ⟨-, ek⟩ | ⟨z, -⟩ | ⟨z, -⟩
    · exact fin 1 _ h ek.symm fz.rf (fun _ => Or.inl rfl) (fun y => absurd y (by decide))
    · exact absurd z d1
    · exact absurd z d1
/-- the row of one long is nobody's -/
theorem Inv.out (I : Inv h) (f : Nat → Int64) : Inv (sJ h 53 f) := by
  obtain ⟨X, L, N, C, M, I, n⟩ := I
  exact ⟨X, L, N, C.k (fr.rf.sJ (by decide) _), MI.k M (fun d _ => rfl), I, n⟩
end ROW
