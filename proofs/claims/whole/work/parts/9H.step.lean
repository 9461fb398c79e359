/-! calls of both: step -/
def SN : Nat → XT → LT → Bool → XT → LT → Prop
  | 0, X, L, ok, X', L' => ok = true ∧ X' = X ∧ L' = L
  | n + 1, X, L, ok, X', L' => (¬ (1 ≤ X.2.2.1.1 ∧ X.2.2.1.1 ≤ 4) ∧ ok = true ∧ X' = X ∧ L' = L) ∨ ((1 ≤ X.2.2.1.1 ∧ X.2.2.1.1 ≤ 4) ∧ ∃ o1 X1 L1, SP X L o1 X1 L1 ∧ ((o1 = false ∧ ok = false ∧ X' = X1 ∧ L' = L1) ∨ (o1 = true ∧ SN n X1 L1 ok X' L')))
def stA (ok : Bool) (X : XT) : Int32 := if ok = true then nI X.2.2.1.1 else -106
section STE
variable {X X' : XT} {L L' : LT} {N : NT} {h : Hp} {Q : Option AV → Hp → Prop} {P : Int32 → Option AV → Hp → Prop} {ok : Bool}
theorem sp_d0 (S : SP X L true X' L') : X'.1.1 = X.1.1 := by
  rcases S with ⟨-, e1, e2, -⟩ | ⟨-, e1, e2, -⟩ | ⟨-, e1, e2, -⟩ | ⟨-, c, -⟩
  · rw [e2]
    unfold scX at e1 ⊢
    split
    · next sc =>
      rw [if_pos sc] at e1
      rw [(pt_true e1.symm).1]
      rfl
    · rfl
  · rw [e2]
    unfold mgX at e1 ⊢
    split
    · next r1 r2 t hc =>
      rw [hc] at e1
      have e1 : true = (ptX ((r1.length + r2.length + 7) / 8) (mgY r1 r2 t X)).1 := e1
      rw [(pt_true e1.symm).1]
      rfl
    · rfl
  · rw [e2, (pt_true e1.symm).1]
    unfold ldY
    split
    · rfl
    · split <;> rfl
  · rcases c with ⟨e, b, t, -, -, c⟩ | ⟨-, -, p, q, -, -, c⟩ | ⟨-, -, ek, c⟩
    · rcases c with ⟨-, W', -, c⟩ | ⟨-, -, W', -, c⟩ | ⟨-, -, c⟩ <;> (rw [c]; rfl)
    · rw [c]
      rfl
    · rw [c, if_pos ek.symm]
      exact (ck_ok ek.symm).1
theorem c_step_32 {n : Nat} (hn : n ≤ 1000) : ∀ (d k : Nat) (X : XT) (L : LT) (h : Hp), k + d = n → CX X L N h → PI X L → (∀ ok X' L' h', SN d X L ok X' L' → fr Uc h h' → CX X' L' N h' → PI X' L' → Q (some (vI (stA ok X'))) h') → Ev mX6_step 32 [(0, vR 0), (1, vI (nI n)), (2, vI 1), (3, vI (nI k))] [] h Q := by
  intro d
  have fin : ∀ (X : XT) (L : LT) (h : Hp), CX X L N h → Q (some (vI (stA true X))) h → Ev mX6_step 115 [(0, vR 0), (2, vI 1)] [] h Q := by
    intro X L h C K
    apply sX6_step_115
    rw [C.2.2.1.1]
    exact ⟨fun z => absurd z (by decide), fun _ => K⟩
  induction d with
  | zero =>
    intro k X L h hk C I K
    have e : k = n := by omega
    subst e
    apply sX6_step_32
    simp (disch := omega) only [nt_le, nt_lt, nt_eq, nt_cl, nt_vp, nI_add, lu_le, lu_lt, lu_eq, ul_le, ul_lt, ul_eq, lu_add, ul_add, lu_sub, lu_mul, ul_mul, nt_sub, nt_m1]
    exact ⟨fun _ => fin X L h C (K true X L h ⟨rfl, rfl, rfl⟩ fr.rf C I), fun z => absurd (Nat.le_refl _) z⟩
  | succ d ih =>
    intro k X L h hk C I K
    have hs := PR.s I
    have next : ∀ (o1 : Bool) (X1 : XT) (L1 : LT) (h1 : Hp), (1 ≤ X.2.2.1.1 ∧ X.2.2.1.1 ≤ 4) → SP X L o1 X1 L1 → fr Uc h h1 → CX X1 L1 N h1 → Ev mX6_step 32 [(0, vR 0), (1, vI (nI n)), (2, vI (bI o1)), (3, vI (nI (k + 1)))] [] h1 Q := by
      intro o1 X1 L1 h1 b S f1 C1
      have I1 := I.sp S
      cases o1 with
      | true => exact ih (k + 1) X1 L1 h1 (by omega) C1 I1 (fun ok X' L' h' s f c i => K ok X' L' h' (Or.inr ⟨b, true, X1, L1, S, Or.inr ⟨rfl, s⟩⟩) (f1.tr f) c i)
      | false =>
        have out : Ev mX6_step 115 [(0, vR 0), (2, vI (bI false))] [] h1 Q := by
          apply sX6_step_115
          exact ⟨fun _ => K false X1 L1 h1 (Or.inr ⟨b, false, X1, L1, S, Or.inl ⟨rfl, rfl, rfl, rfl⟩⟩) f1 C1 I1, fun z => absurd rfl z⟩
        apply sX6_step_32
        exact ⟨fun _ => out, fun _ => ⟨fun _ => out, fun z => absurd rfl z⟩⟩
    apply sX6_step_32
    simp (disch := omega) only [nt_le, nt_lt, nt_eq, nt_cl, nt_vp, nI_add, lu_le, lu_lt, lu_eq, ul_le, ul_lt, ul_eq, lu_add, ul_add, lu_sub, lu_mul, ul_mul, nt_sub, nt_m1]
    refine ⟨fun z => by omega, fun _ => ⟨fun z => absurd z (by decide), fun _ => ?_⟩⟩
    apply sX6_isBuilding
    have st := C.2.2.1.1
    rw [st]
    simp (disch := omega) only [nt_le, nt_lt, nt_eq, nt_cl, nt_vp, nI_add, lu_le, lu_lt, lu_eq, ul_le, ul_lt, ul_eq, lu_add, ul_add, lu_sub, lu_mul, ul_mul, nt_sub, nt_m1]
    have no : ¬ (1 ≤ X.2.2.1.1 ∧ X.2.2.1.1 ≤ 4) → Ev mX6_step 115 [(0, vR 0), (2, vI 1)] [] h Q := fun b => fin X L h C (K true X L h (Or.inl ⟨b, rfl, rfl, rfl⟩) fr.rf C I)
    refine ⟨fun z => ⟨0, rfl, fun _ => no (by omega), fun y => absurd rfl y⟩, fun z => ⟨fun z2 => ⟨0, rfl, fun _ => no (by omega), fun y => absurd rfl y⟩, fun z2 => ⟨1, rfl, fun y => absurd y (by decide), fun _ => ⟨fun y => ?_, fun y => ?_, fun y => ?_, fun y => ?_⟩⟩⟩⟩
    · exact c_scanPage C I y (fun h1 f1 C1 => ⟨_, rfl, next _ _ L h1 (by omega) (Or.inl ⟨y, rfl, rfl, rfl⟩) f1 C1⟩)
    · exact c_mergeRuns C I y (fun h1 f1 C1 => ⟨_, rfl, next _ _ L h1 (by omega) (Or.inr (Or.inl ⟨y, rfl, rfl, rfl⟩)) f1 C1⟩)
    · exact c_loadNode C I y (fun h1 f1 C1 => ⟨_, rfl, next _ _ _ h1 (by omega) (Or.inr (Or.inr (Or.inl ⟨y, rfl, rfl, rfl⟩))) f1 C1⟩)
    · have y4 : X.2.2.1.1 = 4 := by omega
      exact c_catchUp C I y4 (fun ok X1 h1 R f1 C1 => ⟨_, rfl, next ok X1 L h1 (by omega) (Or.inr (Or.inr (Or.inr ⟨y4, R, rfl⟩))) f1 C1⟩)
theorem m_step_31 {n : Nat} (hn : n ≤ 1000) : ∀ (d k : Nat) (X : XT) (L : LT) (h : Hp), k + d = n → MX X L N h → PI X L → X.1.1 = 0 → SN d X L ok X' L' → (∀ h', fr Um h h' → MX X' L' N h' → Q (some (vI (stA ok X'))) h') → Ev mX7_step 31 [(0, vR 27), (1, vI (nI n)), (2, vI (nI k))] [] h Q := by
  intro d
  induction d with
  | zero =>
    intro k X L h hk M I d0 S K
    have e : k = n := by omega
    subst e
    obtain ⟨s1, s2, s3⟩ := S
    rw [s1, s2, s3] at K
    apply sX7_step_31
    rw [M.2.2.1.1]
    simp (disch := omega) only [nt_le, nt_lt, nt_eq, nt_cl, nt_vp, nI_add, lu_le, lu_lt, lu_eq, ul_le, ul_lt, ul_eq, lu_add, ul_add, lu_sub, lu_mul, ul_mul, nt_sub, nt_m1]
    exact ⟨fun _ => K h fr.rf M, fun z => absurd (Nat.le_refl _) z⟩
  | succ d ih =>
    intro k X L h hk M I d0 S K
    have hs := PR.s I
    have st := M.2.2.1.1
    have le : ∀ a b : Nat, a < 2147483648 → b < 2147483648 → ((nI a).toInt ≤ (nI b).toInt ↔ a ≤ b) := fun a b ha hb => by
      rw [← Int32.le_iff_toInt_le]
      exact nt_le ha hb
    apply sX7_step_31
    rw [st]
    simp (disch := omega) only [nt_le, nt_lt, nt_eq, nt_cl, nt_vp, nI_add, lu_le, lu_lt, lu_eq, ul_le, ul_lt, ul_eq, lu_add, ul_add, lu_sub, lu_mul, ul_mul, nt_sub, nt_m1]
    refine ⟨fun z => by omega, fun _ => ?_⟩
    refine m_in (fun a1 a2 => ⟨1, rfl, fun z => absurd z (by decide), fun _ => ?_⟩) (fun a => ⟨0, rfl, fun _ => ?_, fun z => absurd rfl z⟩)
    · have b1 : 1 ≤ X.2.2.1.1 := (le 1 _ (by decide) (by omega)).mp a1
      have b2 : X.2.2.1.1 ≤ 4 := (le _ 4 (by omega) (by decide)).mp a2
      rcases S with ⟨s0, -⟩ | ⟨-, o1, X1, L1, S, S2⟩
      · exact absurd ⟨b1, b2⟩ s0
      have I1 := I.sp S
      have next : ∀ h1, fr Um h h1 → MX X1 L1 N h1 → Ev mX7_step 97 [(0, vR 27), (1, vI (nI n)), (2, vI (nI k))] [vI (bI o1)] h1 Q := by
        intro h1 f1 M1
        apply sX7_step_97
        rcases S2 with ⟨s1, s2, s3, s4⟩ | ⟨s1, s2⟩
        · subst s1
          rw [s2, s3, s4] at K
          exact ⟨fun z => absurd rfl z, fun _ => K h1 f1 M1⟩
        · subst s1
          simp (disch := omega) only [nt_le, nt_lt, nt_eq, nt_cl, nt_vp, nI_add, lu_le, lu_lt, lu_eq, ul_le, ul_lt, ul_eq, lu_add, ul_add, lu_sub, lu_mul, ul_mul, nt_sub, nt_m1]
          exact ⟨fun _ => ih (k + 1) X1 L1 h1 (by omega) M1 I1 (by rw [sp_d0 S]; exact d0) s2 (fun h' f m => K h' (f1.tr f) m), fun z => absurd z (by decide)⟩
      rw [st]
      simp (disch := omega) only [nt_le, nt_lt, nt_eq, nt_cl, nt_vp, nI_add, lu_le, lu_lt, lu_eq, ul_le, ul_lt, ul_eq, lu_add, ul_add, lu_sub, lu_mul, ul_mul, nt_sub, nt_m1]
      refine ⟨fun y1 => ⟨fun y2 => ⟨fun y3 => ?_, fun y3 => ?_⟩, fun y2 => ?_⟩, fun y1 => ?_⟩
      · have y4 : X.2.2.1.1 = 4 := by omega
        rcases S with ⟨y, -⟩ | ⟨y, -⟩ | ⟨y, -⟩ | ⟨-, R, eL⟩
        · omega
        · omega
        · omega
        · subst eL
          exact m_catchStep M I d0 y4 R (fun h1 f1 M1 => ⟨_, rfl, next h1 f1 M1⟩)
      · rcases S with ⟨y, -⟩ | ⟨y, -⟩ | ⟨-, e1, e2, e3⟩ | ⟨y, -⟩
        · omega
        · omega
        · refine m_loadStep M I d0 y3 (fun h1 f1 M1 => ⟨_, rfl, ?_⟩)
          rw [← e1]
          rw [← e2, ← e3] at M1
          exact next h1 f1 M1
        · omega
      · rcases S with ⟨y, -⟩ | ⟨-, e1, e2, e3⟩ | ⟨y, -⟩ | ⟨y, -⟩
        · omega
        · refine m_mergeStep M I d0 y2 (fun h1 f1 M1 => ⟨_, rfl, ?_⟩)
          rw [← e1]
          rw [← e2] at M1
          subst e3
          exact next h1 f1 M1
        · omega
        · omega
      · rcases S with ⟨-, e1, e2, e3⟩ | ⟨y, -⟩ | ⟨y, -⟩ | ⟨y, -⟩
        · refine m_scanStep M I d0 y1 (fun h1 f1 M1 => ⟨_, rfl, ?_⟩)
          rw [← e1]
          rw [← e2] at M1
          subst e3
          exact next h1 f1 M1
        · omega
        · omega
        · omega
    · have nb : ¬ (1 ≤ X.2.2.1.1 ∧ X.2.2.1.1 ≤ 4) := fun z => a ⟨(le 1 _ (by decide) (by omega)).mpr z.1, (le _ 4 (by omega) (by decide)).mpr z.2⟩
      rcases S with ⟨-, s1, s2, s3⟩ | ⟨s0, -⟩
      · rw [s1, s2, s3] at K
        rw [st]
        exact K h fr.rf M
      · exact absurd s0 nb
theorem op_step {x : Int32} (I : Inv h) (K : ∀ r h2, Inv h2 → P r (some (vI r)) h2) : EvM mX6_step [vR 0, vI x] h (fun v h1 => ∃ r, v = some (vI r) ∧ EvM mX7_step [vR 27, vI x] h1 (P r)) := by
  obtain ⟨X, L, N, C, M, I, n⟩ := I
  have unk : ∀ h4, h4 = sI h 27 (upd (h.1 27) 0 0) → Inv h4 := fun h4 e4 => ⟨X, L, N, C.th e4, M.th e4, I, n⟩
  have i1 : (1 : Int32).toInt = 1 := rfl
  have i2 : (1000 : Int32).toInt = 1000 := rfl
  have i0 : (0 : Int32).toInt = 0 := rfl
  apply sX6_step
  refine c_isDown C I.1 ⟨_, rfl, fun d0 => ?_, fun d1 => ⟨_, rfl, ?_⟩⟩
  · have out : ¬ (1 ≤ x.toInt ∧ x.toInt ≤ 1000) → EvM mX7_step [vR 27, vI x] h (P (-102)) := by
      intro z
      apply sX7_step
      intro h4 e4
      rw [m_down M e4]
      refine ⟨fun _ => m_in (fun a1 a2 => absurd ⟨by rw [i1] at a1; exact a1, by rw [i2] at a2; exact a2⟩ z) (fun _ => ⟨0, rfl, fun y => absurd rfl y, fun _ => K _ _ (unk h4 e4)⟩), fun y => absurd d0 y⟩
    rw [Int32.lt_iff_toInt_lt, Int32.le_iff_toInt_le, i1, i2]
    refine ⟨fun z => ⟨_, rfl, out (by omega)⟩, fun z => ⟨fun z2 => ?_, fun z2 => ⟨_, rfl, out (by omega)⟩⟩⟩
    obtain ⟨j, j1, j2⟩ := i_in (k := 1000) (x := x) (by decide) (by rw [Int32.lt_iff_toInt_lt, i0]; omega) (by rw [Int32.le_iff_toInt_le, show (nI 1000).toInt = 1000 from rfl]; exact z2)
    subst j2
    refine c_step_32 (n := j) j1 j 0 X L h (by omega) C I (fun ok X' L' h' S f C' I' => ⟨_, rfl, ?_⟩)
    have M' := M.k f
    apply sX7_step
    intro h4 e4
    rw [m_down M' e4]
    refine ⟨fun _ => m_in (fun a1 a2 => ⟨1, rfl, fun _ => ?_, fun y => absurd y (by decide)⟩) (fun a => absurd ⟨by rw [i1]; omega, by rw [i2]; omega⟩ a), fun y => absurd d0 y⟩
    refine m_step_31 (ok := ok) (X' := X') (L' := L') (n := j) j1 j 0 X L h4 (by omega) (M'.th e4) I d0 S (fun h5 f5 M5 => K _ _ ⟨X', L', N, (C'.th e4).k f5, M5, I', n⟩)
  · apply sX7_step
    intro h4 e4
    rw [m_down M e4]
    exact ⟨fun z => absurd z d1, fun _ => K _ _ (unk h4 e4)⟩
end STE
