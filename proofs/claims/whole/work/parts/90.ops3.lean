/-! calls of both: blocks, build, drop, answer, cost -/
theorem i_in {x : Int32} {k : Nat} (hk : k < 2147483647) (h0 : ¬ x < 0) (h1 : x ≤ nI k) : ∃ j : Nat, j ≤ k ∧ x = nI j := by
  rw [Int32.le_iff_toInt_le] at h1
  rw [Int32.lt_iff_toInt_lt] at h0
  have e1 : (nI k).toInt = k := nI_toInt (by omega)
  have c : (0 : Int32).toInt = 0 := rfl
  rw [e1] at h1
  rw [c] at h0
  refine ⟨x.toInt.toNat, by omega, ?_⟩
  apply Int32.toInt_inj.mp
  rw [nI_toInt (by omega)]
  omega
section OP3
variable {h : Hp} {P : Int32 → Option AV → Hp → Prop}
theorem op_blocks {x : Int32} (I : Inv h) (K : ∀ r h2, Inv h2 → P r (some (vI r)) h2) : EvM mX6_blocks [vR 0, vI x] h (fun v h1 => ∃ r, v = some (vI r) ∧ EvM mX7_blocks [vR 27, vI x] h1 (P r)) := by
  obtain ⟨X, L, N, C, M, I, n⟩ := I
  have unk : ∀ h4, h4 = sI h 27 (upd (h.1 27) 0 0) → Inv h4 := fun h4 e4 => ⟨X, L, N, C.th e4, M.th e4, I, n⟩
  have d := C.1
  apply sX6_blocks
  have out : (¬ x = 0 ∧ ¬ x = 1 ∧ ¬ x = 2 ∧ ¬ x = 3) → EvM mX7_blocks [vR 27, vI x] h (P (-102)) := by
    intro ⟨q0, q1, q2, q3⟩
    apply sX7_blocks
    intro h4 e4
    exact ⟨fun _ => ⟨fun _ => ⟨fun _ => ⟨fun _ => K _ _ (unk h4 e4), fun z => absurd z q3⟩, fun z => absurd z q2⟩, fun z => absurd z q1⟩, fun z => absurd z q0⟩
  refine ⟨fun z => ⟨_, rfl, out ?_⟩, fun z => ⟨fun z2 => ?_, fun z2 => ⟨_, rfl, out ?_⟩⟩⟩
  · refine ⟨?_, ?_, ?_, ?_⟩ <;> (intro q; rw [q] at z; exact absurd z (by decide))
  · apply sX0_countOf
    obtain ⟨j, j1, j2⟩ := i_in (k := 3) (by decide) z z2
    refine ⟨fun q => ⟨_, rfl, _, rfl, ?_⟩, fun q => ⟨_, rfl, _, rfl, ?_⟩, fun q => ⟨_, rfl, _, rfl, ?_⟩, fun q => ⟨_, rfl, _, rfl, ?_⟩⟩
    · apply sX7_blocks
      intro h4 e4
      refine ⟨fun y => absurd q y, fun _ => ?_⟩
      rw [d.2.2.1, (M.th e4).1.2.2.1]
      exact K _ _ (unk h4 e4)
    · apply sX7_blocks
      intro h4 e4
      refine ⟨fun _ => ⟨fun y => absurd q y, fun _ => ?_⟩, fun y => by rw [q] at y; exact absurd y (by decide)⟩
      rw [d.2.2.2.1, (M.th e4).1.2.2.2.1]
      exact K _ _ (unk h4 e4)
    · apply sX7_blocks
      intro h4 e4
      refine ⟨fun _ => ⟨fun _ => ⟨fun y => absurd q y, fun _ => ?_⟩, fun y => by rw [q] at y; exact absurd y (by decide)⟩, fun y => by rw [q] at y; exact absurd y (by decide)⟩
      rw [d.2.2.2.2.1, (M.th e4).1.2.2.2.2.1]
      exact K _ _ (unk h4 e4)
    · have x3 : x = 3 := by
        obtain ⟨q0, q1, q2⟩ := q
        rw [j2] at q0 q1 q2
        have : j = 0 ∨ j = 1 ∨ j = 2 ∨ j = 3 := by omega
        rcases this with e | e | e | e
        · exact absurd (by rw [e]; rfl) q0
        · exact absurd (by rw [e]; rfl) q1
        · exact absurd (by rw [e]; rfl) q2
        · rw [j2, e]
          rfl
      apply sX7_blocks
      intro h4 e4
      refine ⟨fun _ => ⟨fun _ => ⟨fun _ => ⟨fun y => absurd x3 y, fun _ => ?_⟩, fun y => absurd y q.2.2⟩, fun y => absurd y q.2.1⟩, fun y => absurd y q.1⟩
      rw [d.2.2.2.2.2, (M.th e4).1.2.2.2.2.2]
      exact K _ _ (unk h4 e4)
  · refine ⟨?_, ?_, ?_, ?_⟩ <;> (intro q; rw [q] at z2; exact absurd (by decide) z2)
theorem op_cost (I : Inv h) (K : ∀ r h2, Inv h2 → P r (some (vI r)) h2) : EvM mX6_cost [vR 0] h (fun v h1 => ∃ r, v = some (vI r) ∧ EvM mX7_cost [vR 27] h1 (P r)) := by
  obtain ⟨X, L, N, C, M, I, n⟩ := I
  apply sX6_cost
  refine ⟨_, rfl, ?_⟩
  apply sX7_cost
  intro h4 e4
  rw [C.2.2.2.2.2.2.2.2, (M.th e4).2.2.2.2.2.2.2.2]
  exact K _ _ ⟨X, L, N, C.th e4, M.th e4, I, n⟩
theorem op_answer {x : Int32} (I : Inv h) (K : ∀ r h2, Inv h2 → P r (some (vI r)) h2) : EvM mX6_answer [vR 0, vI x] h (fun v h1 => ∃ r, v = some (vI r) ∧ EvM mX7_answer [vR 27, vI x] h1 (P r)) := by
  obtain ⟨X, L, N, C, M, I, n⟩ := I
  have unk : ∀ h4, h4 = sI h 27 (upd (h.1 27) 0 0) → Inv h4 := fun h4 e4 => ⟨X, L, N, C.th e4, M.th e4, I, n⟩
  apply sX6_answer
  rw [C.2.2.2.2.2.2.2.1]
  have c0 : (0 : Int32).toInt = 0 := rfl
  have len : (nI N.1.length - 1).toInt = (N.1.length : Int) - 1 := by
    by_cases q : N.1.length = 0
    · rw [q]
      rfl
    · rw [show nI N.1.length - 1 = nI (N.1.length - 1) from lu_sub (k := 1) (show 1 ≤ N.1.length by omega), nI_toInt (by omega)]
      omega
  have no : ¬ (0 ≤ x.toInt ∧ x.toInt ≤ (N.1.length : Int) - 1) → EvM mX7_answer [vR 27, vI x] h (P (-1)) := by
    intro hq
    apply sX7_answer
    intro h4 e4
    rw [(M.th e4).2.2.2.2.2.2.2.1]
    refine m_in (fun a1 a2 => ?_) (fun _ => ⟨0, rfl, fun _ => K _ _ (unk h4 e4), fun z => absurd rfl z⟩)
    rw [c0] at a1
    rw [len] at a2
    exact absurd ⟨a1, a2⟩ hq
  refine ⟨fun z => ⟨_, rfl, no ?_⟩, fun z1 => ⟨fun z => ⟨_, rfl, no ?_⟩, fun z2 => ⟨fun z => ?_, fun z3 => ?_⟩⟩⟩
  · rw [Int32.lt_iff_toInt_lt, c0] at z
    omega
  · rw [Int32.le_iff_toInt_le, nI_toInt (by omega)] at z
    omega
  · exfalso
    apply z2
    refine Int32.le_trans ?_ z
    simp (disch := omega) only [nt_le, nt_lt, nt_eq, nt_cl, nt_vp, nI_add, lu_le, lu_lt, lu_eq, ul_le, ul_lt, ul_eq, lu_add, ul_add, lu_sub, lu_mul, ul_mul, nt_sub, nt_m1]
    exact n
  · obtain ⟨j, j1, j2⟩ := i_in (k := 239) (x := x) (by decide) z1 (by
      rw [Int32.le_iff_toInt_le] at z3 ⊢
      have c1 : (240 : Int32).toInt = 240 := rfl
      have c2 : (nI 239).toInt = 239 := rfl
      omega)
    subst j2
    have jl : j < N.1.length := by
      revert z2
      simp (disch := omega) only [nt_le, nt_lt, nt_eq, nt_cl, nt_vp, nI_add, lu_le, lu_lt, lu_eq, ul_le, ul_lt, ul_eq, lu_add, ul_add, lu_sub, lu_mul, ul_mul, nt_sub, nt_m1]
      omega
    simp (disch := omega) only [nt_le, nt_lt, nt_eq, nt_cl, nt_vp, nI_add, lu_le, lu_lt, lu_eq, ul_le, ul_lt, ul_eq, lu_add, ul_add, lu_sub, lu_mul, ul_mul, nt_sub, nt_m1]
    refine ⟨by omega, _, rfl, ?_⟩
    apply sX7_answer
    intro h4 e4
    rw [(M.th e4).2.2.2.2.2.2.2.1]
    refine m_in (fun a1 a2 => ⟨1, rfl, fun z => absurd z (by decide), fun _ => ?_⟩) (fun a => absurd ?_ a)
    · simp (disch := omega) only [nt_le, nt_lt, nt_eq, nt_cl, nt_vp, nI_add, lu_le, lu_lt, lu_eq, ul_le, ul_lt, ul_eq, lu_add, ul_add, lu_sub, lu_mul, ul_mul, nt_sub, nt_m1]
      refine ⟨by omega, ?_⟩
      rw [C.2.2.2.2.2.2.1 j jl, (M.th e4).2.2.2.2.2.2.1 j jl]
      exact K _ _ (unk h4 e4)
    · rw [c0, len, nI_toInt (by omega)]
      omega
theorem op_build {b : Bool} (I : Inv h) (K : ∀ r h2, Inv h2 → P r (some (vI r)) h2) : EvM mX6_build [vR 0, vI (bI b)] h (fun v h1 => ∃ r, v = some (vI r) ∧ EvM mX7_build [vR 27, vI (bI b)] h1 (P r)) := by
  obtain ⟨X, L, N, C, M, I, n⟩ := I
  have hs := PR.s I
  have unk : ∀ h4, h4 = sI h 27 (upd (h.1 27) 0 0) → Inv h4 := fun h4 e4 => ⟨X, L, N, C.th e4, M.th e4, I, n⟩
  have le : ∀ a b : Nat, a < 2147483648 → b < 2147483648 → ((nI a).toInt ≤ (nI b).toInt ↔ a ≤ b) := fun a b ha hb => by
    rw [← Int32.le_iff_toInt_le]
    exact nt_le ha hb
  have b01 : bI b = 0 ∨ bI b = 1 := by cases b <;> decide
  apply sX6_build
  refine c_isDown C I.1 ⟨_, rfl, fun d0 => ?_, fun d1 => ⟨_, rfl, ?_⟩⟩
  · have go : (X.2.2.1.1 = 0 ∨ X.2.2.1.1 = 6) → Ev mX6_build 32 [(0, vR 0), (1, vI (bI b))] [] h (fun v h1 => ∃ r, v = some (vI r) ∧ EvM mX7_build [vR 27, vI (bI b)] h1 (P r)) := by
      intro q
      apply sX6_build_32
      refine c_forgetIndex C (fun h1 f1 C1 => ⟨rfl, b01, ?_⟩)
      rintro _ rfl h3 e3
      have f3 : fz 0 [0] [2, 3] h1 h3 := by
        rw [e3]
        (repeat first | exact fz.rf | refine fz.up ?_ (by decide) (by decide) | refine fz.sI ?_ (by decide) (by decide) _ | refine fz.sJ ?_ (by decide) _)
      have C3 : CX (X.1, X.2.1, (1, bI b, 0, -1, -1), (0, [], [], []), fgW X.2.2.2.2) (true, 0, 0) N h3 := by
        obtain ⟨H1, H2, H3, H4, H5, H6, H7⟩ := C1
        refine ⟨H1.k f3.1 (by decide), H2.k f3.1 (by decide), ?_, H4.k f3 (by decide) (by decide), fun z => absurd z (by show ¬ (1 : Nat) = 3; decide), H6.k f3.1 (by decide) (by decide), H7.k f3 (by decide) (by decide)⟩
        rw [e3]
        refine ⟨?_, ?_, ?_, ?_, ?_⟩ <;> simp (disch := decide) only [sI_at, sI_ne, sI_21, sI_22, sJ_1, sJ_at, sJ_ne, sJ_22, sW_1, sW_21, upd_at, upd_ne]
        · rfl
        · exact H3.2.2.1
        · exact H3.2.2.2.1
        · exact H3.2.2.2.2
      have M3 : MX X L N h3 := (M.k f1).k (f3.1.mono (by decide))
      refine ⟨_, rfl, ?_⟩
      clear e3
      apply sX7_build
      intro h4 e4
      have M4 := M3.th e4
      rw [m_down M3 e4, M4.2.2.1.1]
      refine ⟨fun _ => ?_, fun z => absurd d0 z⟩
      refine m_in (fun a1 a2 => ?_) (fun _ => ⟨0, rfl, fun _ => ?_, fun z => absurd rfl z⟩)
      · have := (le 1 X.2.2.1.1 (by decide) (by omega)).mp a1
        have := (le X.2.2.1.1 5 (by omega) (by decide)).mp a2
        omega
      refine m_forget M4 (fun h6 f6 M6 b6 => ⟨rfl, b01, ?_⟩)
      rintro _ rfl _ rfl _ rfl _ rfl _ rfl _ rfl h14 e14
      have f14 : fz 27 [27] [11, 12, 26, 27, 28, 30, 31] h6 h14 := by
        rw [e14]
        (repeat first | exact fz.rf | refine fz.up ?_ (by decide) (by decide) | refine fz.sI ?_ (by decide) (by decide) _ | refine fz.sJ ?_ (by decide) _)
      have z0 : nn (fgW X.2.2.2.2) = 0 := cn_0 64
      have M14 : MX (X.1, X.2.1, (1, bI b, 0, -1, -1), (0, [], [], []), fgW X.2.2.2.2) (true, 0, 0) N h14 := by
        obtain ⟨H1, H2, H3, H4, H5, H6, H7⟩ := M6
        refine ⟨H1.k f14 (by decide), H2.k f14.1 (by decide), ?_, fun _ => b6.k f14 (by decide) (by decide), fun _ => ?_, ⟨H6.1.fr f14.1 (f14.2 33 (by decide)) (by decide), fun z => absurd z (by show ¬ ((1 : Nat) = 4 ∨ (1 : Nat) = 5); decide)⟩, H7.k f14 (by decide) (by decide)⟩
        · rw [e14]
          refine ⟨?_, fun _ => ?_, ?_, ?_, ?_⟩ <;> simp (disch := decide) only [sI_at, sI_ne, sI_21, sI_22, sJ_1, sJ_at, sJ_ne, sJ_22, sW_1, sW_21, upd_at, upd_ne]
          · rfl
          · exact H3.2.2.1
          · exact H3.2.2.2.1
          · exact H3.2.2.2.2
        · show M_ld (true, 0, 0) (nn (fgW X.2.2.2.2)) h14
          rw [z0, e14]
          refine ⟨?_, fun _ => ?_, ?_, ?_, ?_, fun k hk => absurd hk (Nat.not_lt_zero _), fun k hk => absurd hk (Nat.not_lt_zero _)⟩ <;> simp (disch := decide) only [sI_at, sI_ne, sI_21, sI_22, sJ_1, sJ_at, sJ_ne, sJ_22, sW_1, sW_21, upd_at, upd_ne]
          all_goals rfl
      refine K _ _ ⟨_, (true, 0, 0), N, ((C3.th e4).k (fUm f6 (by decide))).k (fUm f14 (by decide)), M14, ?_, n⟩
      refine ⟨I.1, I.2.1, by show 1 < 7; decide, b01, fun z => absurd z (by show ¬ (1 : Nat) = 0; decide), fun _ => rfl, fun z => absurd ⟨Nat.le_refl 1, by show 1 ≤ 4; decide⟩ z, fun _ _ => rfl, fun _ _ => rfl, fun _ => ⟨⟨by show 0 ≤ 20; decide, by show 0 ≤ 40; decide, trivial, fun x => ?_, fun a ha => absurd ha List.not_mem_nil⟩, ?_⟩, fun z => absurd z (by show ¬ (1 : Nat) = 3; decide), fun _ => rfl, fun z => absurd z (by show ¬ ((1 : Nat) = 4 ∨ (1 : Nat) = 5); decide), fun z => absurd z (by show ¬ (1 : Nat) = 5; decide)⟩
      · constructor
        · rintro (⟨z, -⟩ | ⟨-, z⟩)
          · exact absurd z (by show ¬ (1 : Nat) = 4; decide)
          · exact absurd z List.not_mem_nil
        · rintro ⟨-, z⟩
          exact absurd z (Nat.not_lt_zero _)
      · exact ⟨by show 0 ≤ 12 * 0; decide, fun r hr => absurd hr List.not_mem_nil, List.nodup_nil, fun r hr => absurd hr List.not_mem_nil, fun _ => ⟨by show 0 < 20; decide, by show 0 < 24; decide, fun r hr => absurd hr List.not_mem_nil⟩, fun z => absurd z (by show ¬ 2 ≤ 1; decide), fun z => absurd z (by show ¬ 3 ≤ 1; decide)⟩
    rw [show (0 : Int32) = nI 0 from rfl, show (6 : Int32) = nI 6 from rfl, c_st C hs 0 (by decide), c_st C hs 6 (by decide)]
    refine ⟨fun z => go (Or.inl z), fun z1 => ⟨fun z => go (Or.inr z), fun z2 => ⟨_, rfl, ?_⟩⟩⟩
    apply sX7_build
    intro h4 e4
    rw [m_down M e4, (M.th e4).2.2.1.1]
    refine ⟨fun _ => ?_, fun z => absurd d0 z⟩
    refine m_in (fun a1 a2 => ⟨1, rfl, fun z => absurd z (by decide), fun _ => K _ _ (unk h4 e4)⟩) (fun a => absurd ⟨(le 1 X.2.2.1.1 (by decide) (by omega)).mpr (by omega), (le X.2.2.1.1 5 (by omega) (by decide)).mpr (by omega)⟩ a)
  · apply sX7_build
    intro h4 e4
    rw [m_down M e4]
    exact ⟨fun z => absurd z d1, fun _ => K _ _ (unk h4 e4)⟩
theorem op_drop (I : Inv h) (K : ∀ r h2, Inv h2 → P r (some (vI r)) h2) : EvM mX6_drop [vR 0] h (fun v h1 => ∃ r, v = some (vI r) ∧ EvM mX7_drop [vR 27] h1 (P r)) := by
  obtain ⟨X, L, N, C, M, I, n⟩ := I
  have hs := PR.s I
  have unk : ∀ h4, h4 = sI h 27 (upd (h.1 27) 0 0) → Inv h4 := fun h4 e4 => ⟨X, L, N, C.th e4, M.th e4, I, n⟩
  apply sX6_drop
  refine c_isDown C I.1 ⟨_, rfl, fun d0 => ?_, fun d1 => ⟨_, rfl, ?_⟩⟩
  · rw [show (5 : Int32) = nI 5 from rfl, c_st C hs 5 (by decide), C.2.2.1.1]
    refine ⟨fun q => ?_, fun q => ?_⟩
    · refine c_forgetIndex C (fun h1 f1 C1 => ⟨rfl, _, rfl, ?_⟩)
      have M1 : MX X L N h1 := M.k f1
      apply sX7_drop
      intro h4 e4
      have M4 := M1.th e4
      rw [m_down M1 e4, show (5 : Int32) = nI 5 from rfl, m_st M4 hs 5 (by decide), M4.2.2.1.1]
      exact ⟨fun _ => ⟨fun _ => m_forget M4 (fun h5 f5 M5 _ => ⟨rfl, K _ _ ⟨_, L, N, (C1.th e4).k (fUm f5 (by decide)), M5, PR.fg I, n⟩⟩), fun z => absurd z q⟩, fun z => absurd d0 z⟩
    · refine c_makeCheckpoint (nb := 0) C hs (by decide) (fun h1 f1 C1 => ⟨_, rfl, fun ok => ?_, fun no => ⟨_, rfl, ?_⟩⟩)
      · refine c_forgetIndex C1 (fun h2 f2 C2 => ⟨rfl, _, rfl, ?_⟩)
        have M2 : MX X L N h2 := (M.k f1).k f2
        apply sX7_drop
        intro h4 e4
        have M4 := M2.th e4
        rw [m_down M2 e4, show (5 : Int32) = nI 5 from rfl, m_st M4 hs 5 (by decide), M4.2.2.1.1]
        refine ⟨fun _ => ⟨fun z => absurd q z, fun _ => m_checkpoint (nb := 0) M4 hs d0 (by decide) (fun h5 f5 M5 => ⟨_, rfl, fun _ => ?_, fun z => absurd z ok⟩)⟩, fun z => absurd d0 z⟩
        refine m_forget M5 (fun h6 f6 M6 _ => ⟨rfl, K _ _ ⟨_, L, N, ((C2.th e4).k (fUm f5 (by decide))).k (fUm f6 (by decide)), M6, ?_, n⟩⟩)
        exact PR.fg (PI.ck I 0)
      · have M2 : MX X L N h1 := M.k f1
        apply sX7_drop
        intro h4 e4
        have M4 := M2.th e4
        rw [m_down M2 e4, show (5 : Int32) = nI 5 from rfl, m_st M4 hs 5 (by decide), M4.2.2.1.1]
        exact ⟨fun _ => ⟨fun z => absurd q z, fun _ => m_checkpoint (nb := 0) M4 hs d0 (by decide) (fun h5 f5 M5 => ⟨_, rfl, fun z => absurd no z, fun _ => K _ _ ⟨_, L, N, (C1.th e4).k (fUm f5 (by decide)), M5, PI.ck I 0, n⟩⟩)⟩, fun z => absurd d0 z⟩
  · apply sX7_drop
    intro h4 e4
    rw [m_down M e4]
    exact ⟨fun z => absurd z d1, fun _ => K _ _ (unk h4 e4)⟩
end OP3
