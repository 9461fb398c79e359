/-! the reference: a node is loaded, whole -/
section ML2
variable {X : XT} {L : LT} {N : NT} {h : Hp} {Q : Option AV → Hp → Prop}
theorem pt_ld (q : X.2.2.1.1 = 3) : (ptX 1 (ldY X L)).1 = (ptX 1 (ld1 X L)).1 ∧ ((ptX 1 (ld1 X L)).1 = false → (ptX 1 (ldY X L)).2 = (ptX 1 (ld1 X L)).2) := by
  have e2 : (ptX 1 (ld2 X L)).1 = (ptX 1 (ld1 X L)).1 ∧ ((ptX 1 (ld1 X L)).1 = false → (ptX 1 (ld2 X L)).2 = (ptX 1 (ld1 X L)).2) := by
    unfold ptX
    show (if (wr 1 X.1.2.1 X.1.2.2.1).1 = true then _ else _ : Bool × XT).1 = (if (wr 1 X.1.2.1 X.1.2.2.1).1 = true then _ else _ : Bool × XT).1 ∧ ((if (wr 1 X.1.2.1 X.1.2.2.1).1 = true then _ else _ : Bool × XT).1 = false → (if (wr 1 X.1.2.1 X.1.2.2.1).1 = true then _ else _ : Bool × XT).2 = (if (wr 1 X.1.2.1 X.1.2.2.1).1 = true then _ else _ : Bool × XT).2)
    split
    · exact ⟨rfl, fun z => absurd z (by show ¬ true = false; decide)⟩
    · rw [if_neg (show ¬ (ld2 X L).2.2.1.1 = 5 by show ¬ (4 : Nat) = 5; decide), if_neg (show ¬ (ld1 X L).2.2.1.1 = 5 by show ¬ X.2.2.1.1 = 5; omega)]
      exact ⟨rfl, fun _ => rfl⟩
  unfold ldY
  split
  · exact ⟨rfl, fun _ => rfl⟩
  · split
    · exact e2
    · exact ⟨rfl, fun _ => rfl⟩
theorem m_loadStep (M : MX X L N h) (I : PI X L) (d0 : X.1.1 = 0) (q : X.2.2.1.1 = 3) (K : ∀ h', fr Um h h' → MX (ptX 1 (ldY X L)).2 (ldL X L) N h' → Q (some (vI (bI (ptX 1 (ldY X L)).1))) h') : EvM mX7_loadStep [vR 27] h Q := by
  obtain ⟨o1, o2, o3, o4, o5, o6, o7, o8, -⟩ := ld_ok I q
  obtain ⟨li, -, -, -, -, lt⟩ := ld_in I q
  have us := li.1
  have O := li.2.1
  have wz := PR.wz I
  obtain ⟨⟨b1, b2, b3, b4, b5⟩, c1, c2, c3, c4, c5, c6, c7⟩ := I.2.2.2.2.2.2.2.2.2.1 (by omega)
  obtain ⟨c6a, c6b, c6c⟩ := c6 (by omega)
  obtain ⟨H1, H2, H3, H4, H5, H6, H7⟩ := M
  obtain ⟨B1, B2, B3⟩ := H4 (by omega)
  obtain ⟨l27, l26, l28, l30, l31, l38, l39⟩ := H5 (by omega)
  have R1 := B2.1
  have R3 := B2.2.2.1
  rw [c6b, List.append_nil] at R1 R3
  have BB : ∀ n, ¬ nu X.2.2.2.2.1 n = 0 → nz X.2.2.2.2.1 n ≤ 9 := fun n hn => by
    have := (O n hn).2.1
    omega
  have s11 : h.1 27 11 = 3 := by
    rw [H3.1, q]
    rfl
  obtain ⟨pt1, pt2⟩ := pt_ld (L := L) q
  rw [pt1] at K
  have wzS : ∀ n, 64 ≤ n → nu (ldS X L) n = 0 := by
    intro n hn
    show upd (nu X.2.2.2.2.1) (nn X.2.2.2.2) 1 n = 0
    rw [upd_ne _ _ (by omega)]
    exact wz n hn
  have nn1 : ∀ r c, nn (ldS X L, ldk X L, r, c) = nn X.2.2.2.2 + 1 := fun r c => ad_cn o2 (by omega)
  have c80 : cn (nu (ldS X L)) 80 = nn X.2.2.2.2 + 1 := by
    rw [show (80 : Nat) = 64 + 16 from rfl, cn_64 wzS 16]
    exact nn1 0 0
  -- the node is filled
  have fin : ∀ h2, fz 27 [27, 40, 41, 42, 43, 44, 45, 46] [26, 30, 33] h h2 → M_st (ldS X L) h2 → (L.1 = true → h2.1 27 26 = nI (ldn X L + (ldl X L).length) ∧ h2.1 27 30 = h.1 27 30) → (L.1 = false → h2.1 27 30 = nI (6 * (nn X.2.2.2.2 - L.2.2) + (ldl X L).length)) → Ev mX7_loadStep 189 [(0, vR 27), (1, vI (nI (nn X.2.2.2.2)))] [] h2 Q := by
    intro h2 f2 S2 v26 v30
    have n33 := S2.2.1
    rw [c80] at n33
    apply sX7_loadStep_189
    rw [n33]
    simp (disch := omega) only [nt_le, nt_lt, nt_eq, nt_cl, nt_vp, nI_add, lu_le, lu_lt, lu_eq, ul_le, ul_lt, ul_eq, lu_add, ul_add, lu_sub, lu_mul, ul_mul, nt_sub, nt_m1]
    refine ⟨fun _ => ?_, fun z => by omega⟩
    refine m_blk (X := ld1 X L) (L := ldL X L) (N := N) (H1.k f2 (by decide)) (H2.k f2.1 (by decide)) (H7.k f2 (by decide) (by decide)) (by rw [f2.2 11 (by decide)]; exact s11) q d0 (fun ok h3 f3 D3 => ⟨1, rfl, fun _ => ?_, fun z => absurd z (by decide)⟩) (fun no h3 f3 M3 => ⟨0, rfl, fun z => absurd rfl z, fun _ => ?_⟩)
    · rw [ok, pt_ok (X := ldY X L) (by rw [pt1]; exact ok)] at K
      have k31 : h3.1 27 31 = nI (nn X.2.2.2.2 - L.2.2) := by
        rw [f3.2 31 (by decide), f2.2 31 (by decide)]
        exact l31
      rw [k31]
      simp (disch := omega) only [nt_le, nt_lt, nt_eq, nt_cl, nt_vp, nI_add, lu_le, lu_lt, lu_eq, ul_le, ul_lt, ul_eq, lu_add, ul_add, lu_sub, lu_mul, ul_mul, nt_sub, nt_m1]
      refine ⟨by omega, fun h6 e6 h7 e7 => ?_⟩
      have f7 : fz 27 [27, 39, 40, 41, 42, 43, 44, 45, 46] [5, 6, 26, 30, 31, 33] h h7 := by
        refine ((f2.mono (by decide) (by decide)).tr (f3.mono (by decide) (by decide))).tr ?_
        rw [e7, e6]
        (repeat first | exact fz.rf | refine fz.up ?_ (by decide) (by decide) | refine fz.sI ?_ (by decide) (by decide) _ | refine fz.sJ ?_ (by decide) _)
      have g7 : fz 27 [27, 39] [31] h3 h7 := by
        rw [e7, e6]
        (repeat first | exact fz.rf | refine fz.up ?_ (by decide) (by decide) | refine fz.sI ?_ (by decide) (by decide) _ | refine fz.sJ ?_ (by decide) _)
      have D7 : M_dk (dkO 1 X.1) h7 := D3.k g7 (by decide)
      have S7 : M_st (ldS X L) h7 := (S2.fr f3.1 (f3.2 33 (by decide)) (by decide)).fr g7.1 (g7.2 33 (by decide)) (by decide)
      have n31 : h7.1 27 31 = nI (nn X.2.2.2.2 + 1 - L.2.2) := by
        rw [e7, e6]
        simp (disch := decide) only [sI_at, sI_ne, sI_21, sI_22, sJ_1, sJ_at, sJ_ne, sJ_22, sW_1, sW_21, upd_at, upd_ne]
        rw [k31, show nn X.2.2.2.2 + 1 - L.2.2 = nn X.2.2.2.2 - L.2.2 + 1 by omega]
        exact nI_1 _
      have n39 : ∀ k, k < nn X.2.2.2.2 + 1 - L.2.2 → h7.1 39 k = nI (L.2.2 + k) := by
        intro k hk
        have r39 : h7.1 39 = upd (h.1 39) (nn X.2.2.2.2 - L.2.2) (nI (nn X.2.2.2.2)) := by
          rw [e7, e6]
          simp (disch := decide) only [sI_at, sI_ne, sI_21, sI_22, sJ_1, sJ_at, sJ_ne, sJ_22, sW_1, sW_21, upd_at, upd_ne]
          rw [f3.1.i 39 (by decide), f2.1.i 39 (by decide)]
        rw [r39]
        by_cases z : k = nn X.2.2.2.2 - L.2.2
        · rw [z, upd_at, show L.2.2 + (nn X.2.2.2.2 - L.2.2) = nn X.2.2.2.2 by omega]
        · rw [upd_ne _ _ z]
          exact l39 k (by omega)
      have n27 : h7.1 27 27 = bI (!L.1) := by
        rw [f7.2 27 (by decide)]
        exact l27
      have n28 : h7.1 27 28 = nI (L.2.2 - L.2.1) := by
        rw [f7.2 28 (by decide)]
        exact l28
      have n17 : h7.1 27 17 = nI X.2.2.2.1.2.1.flatten.length := by
        rw [f7.2 17 (by decide)]
        exact R1
      have m26 : L.1 = true → h7.1 27 26 = nI (ldn X L + (ldl X L).length) ∧ h7.1 27 30 = h.1 27 30 := by
        intro z
        rw [g7.2 26 (by decide), f3.2 26 (by decide), g7.2 30 (by decide), f3.2 30 (by decide)]
        exact v26 z
      have m30 : L.1 = false → h7.1 27 30 = nI (6 * (nn X.2.2.2.2 - L.2.2) + (ldl X L).length) := by
        intro z
        rw [g7.2 30 (by decide), f3.2 30 (by decide)]
        exact v30 z
      clear e6 e7
      -- the heap with the node, the row as it is said
      have MY : ∀ (L' : LT) (h8 : Hp), fz 27 [27, 38] [27, 28, 30, 31] h7 h8 → M_ld L' (nn X.2.2.2.2 + 1) h8 → MX (dkO 1 X.1, (ld1 X L).2) L' N h8 := by
        intro L' h8 f8 l8
        have G8 : fz 27 [27, 38, 39, 40, 41, 42, 43, 44, 45, 46] [5, 6, 26, 27, 28, 30, 31, 33] h h8 := (f7.mono (by decide) (by decide)).tr (f8.mono (by decide) (by decide))
        refine ⟨D7.k f8 (by decide), H2.k G8.1 (by decide), H3.k G8 (by decide), fun _ => M_bd.k ⟨B1, B2, B3⟩ G8 (by decide) (by decide), fun _ => ?_, ⟨S7.fr f8.1 (f8.2 33 (by decide)) (by decide), fun z => ?_⟩, H7.k G8 (by decide) (by decide)⟩
        · show M_ld L' (nn (ldS X L, ldk X L, X.2.2.2.2.2.2)) h8
          rw [nn1]
          exact l8
        · have z : X.2.2.1.1 = 4 ∨ X.2.2.1.1 = 5 := z
          omega
      have F7 : fr Um h h7 := f7.1.mono (by decide)
      have more : ∀ s : Int32, (s = 0 ↔ ldn X L + 6 < ldE X L) → Ev mX7_loadStep 276 [(0, vR 27), (1, vI (nI (nn X.2.2.2.2)))] [vI s] h7 Q := by
        intro s hs
        apply sX7_loadStep_276
        rw [hs, n31]
        simp (disch := omega) only [nt_le, nt_lt, nt_eq, nt_cl, nt_vp, nI_add, lu_le, lu_lt, lu_eq, ul_le, ul_lt, ul_eq, lu_add, ul_add, lu_sub, lu_mul, ul_mul, nt_sub, nt_m1]
        refine ⟨fun y => ?_, fun y => ⟨fun y2 => ?_, fun y2 h8 e8 h9 e9 => ?_⟩⟩
        · have eY : ldY X L = ld1 X L := by
            unfold ldY
            rw [if_pos y]
          have eL : ldL X L = L := by
            unfold ldL
            rw [if_pos y]
          rw [eY, eL] at K
          refine K h7 F7 (MY L h7 fz.rf ⟨n27, fun z => ?_, n28, ?_, n31, fun k hk => ?_, n39⟩)
          · rw [(m26 z).1]
            have e0 := lt z
            have : ldn X L = 6 * nn X.2.2.2.2 := by
              rw [e0]
              unfold ldn
              show 0 + 6 * (nn X.2.2.2.2 - 0) = _
              omega
            congr 1
            omega
          · by_cases z : L.1 = true
            · rw [if_pos z, (m26 z).2, l30, if_pos z]
            · rw [if_neg z, m30 (by simpa using z)]
              congr 1
              omega
          · rw [f7.1.i 38 (by decide)]
            exact l38 k hk
        · have y2 : ¬ nn X.2.2.2.2 = L.2.2 := by omega
          have eY : ldY X L = ld1 X L := by
            unfold ldY
            rw [if_neg y, if_neg y2]
          have eL : ldL X L = (false, L.2.2, nn X.2.2.2.2 + 1) := by
            unfold ldL
            rw [if_neg y, if_neg y2]
          rw [eY, eL] at K
          apply sX7_loadStep_299
          intro k1 e1 k2 e2
          have f2 : fz 27 [27, 38] [27, 28, 30, 31] h7 k2 := by
            rw [e2, e1]
            (repeat first | exact fz.rf | refine fz.up ?_ (by decide) (by decide) | refine fz.sI ?_ (by decide) (by decide) _ | refine fz.sJ ?_ (by decide) _)
          have j31 : k2.1 27 31 = nI (nn X.2.2.2.2 + 1 - L.2.2) := by
            rw [e2, e1]
            simp (disch := decide) only [sI_at, sI_ne, sI_21, sI_22, sJ_1, sJ_at, sJ_ne, sJ_22, sW_1, sW_21, upd_at, upd_ne]
            exact n31
          refine m_ld_314 (w := nn X.2.2.2.2 + 1 - L.2.2) (by omega) (nn X.2.2.2.2 + 1 - L.2.2) 0 k2 (by omega) fr.rf j31 (fun i hi => absurd hi (Nat.not_lt_zero _)) (fun h8 f8 z30 z31 z38 => ?_)
          have f9 := f2.tr (f8.mono (by decide) (by decide))
          refine K h8 (F7.tr (f9.1.mono (by decide))) (MY _ h8 f9 ⟨?_, fun z => absurd z (by show ¬ false = true; decide), ?_, ?_, ?_, fun k hk => ?_, fun k hk => ?_⟩)
          · rw [f8.2 27 (by decide), e2, e1]
            simp (disch := decide) only [sI_at, sI_ne, sI_21, sI_22, sJ_1, sJ_at, sJ_ne, sJ_22, sW_1, sW_21, upd_at, upd_ne]
            rfl
          · rw [f8.2 28 (by decide), e2, e1]
            simp (disch := decide) only [sI_at, sI_ne, sI_21, sI_22, sJ_1, sJ_at, sJ_ne, sJ_22, sW_1, sW_21, upd_at, upd_ne]
            exact n31
          · rw [z30, if_neg (by show ¬ false = true; decide)]
            show (0 : Int32) = nI (6 * (nn X.2.2.2.2 + 1 - (nn X.2.2.2.2 + 1)))
            rw [Nat.sub_self]
            rfl
          · rw [z31]
            show (0 : Int32) = nI (nn X.2.2.2.2 + 1 - (nn X.2.2.2.2 + 1))
            rw [Nat.sub_self]
            rfl
          · have hk : k < nn X.2.2.2.2 + 1 - L.2.2 := hk
            rw [z38 k hk, f2.1.i 39 (by decide)]
            exact n39 k hk
          · have hk : k < nn X.2.2.2.2 + 1 - (nn X.2.2.2.2 + 1) := hk
            omega
        · have y2 : nn X.2.2.2.2 = L.2.2 := by omega
          have eY : ldY X L = ld2 X L := by
            unfold ldY
            rw [if_neg y, if_pos y2]
          have eL : ldL X L = L := by
            unfold ldL
            rw [if_neg y, if_pos y2]
          rw [eY, eL] at K
          apply sX7_loadStep_299
          intro k1 e1 k2 e2
          have f2 : fz 27 [27, 38] [11, 27, 28, 30, 31, 34] h7 k2 := by
            rw [e2, e1, e9, e8]
            (repeat first | exact fz.rf | refine fz.up ?_ (by decide) (by decide) | refine fz.sI ?_ (by decide) (by decide) _ | refine fz.sJ ?_ (by decide) _)
          have j31 : k2.1 27 31 = nI (nn X.2.2.2.2 + 1 - L.2.2) := by
            rw [e2, e1, e9, e8]
            simp (disch := decide) only [sI_at, sI_ne, sI_21, sI_22, sJ_1, sJ_at, sJ_ne, sJ_22, sW_1, sW_21, upd_at, upd_ne]
            exact n31
          refine m_ld_314 (w := nn X.2.2.2.2 + 1 - L.2.2) (by omega) (nn X.2.2.2.2 + 1 - L.2.2) 0 k2 (by omega) fr.rf j31 (fun i hi => absurd hi (Nat.not_lt_zero _)) (fun k8 f8 z30 z31 z38 => ?_)
          have f9 := f2.tr (f8.mono (by decide) (by decide))
          have G9 : fz 27 [27, 38, 39, 40, 41, 42, 43, 44, 45, 46] [5, 6, 11, 26, 27, 28, 30, 31, 33, 34] h k8 := (f7.mono (by decide) (by decide)).tr (f9.mono (by decide) (by decide))
          refine K k8 (F7.tr (f9.1.mono (by decide))) ⟨D7.k f9 (by decide), H2.k G9.1 (by decide), ⟨?_, fun _ => ?_, ?_, ?_, ?_⟩, fun _ => M_bd.k ⟨B1, B2, B3⟩ G9 (by decide) (by decide), fun z => absurd z.2 (by show ¬ 4 ≤ 3; decide), ⟨S7.fr f9.1 (f9.2 33 (by decide)) (by decide), fun _ => ?_⟩, H7.k G9 (by decide) (by decide)⟩
          · rw [f8.2 11 (by decide), e2, e1, e9]
            simp (disch := decide) only [sI_at, sI_ne, sI_21, sI_22, sJ_1, sJ_at, sJ_ne, sJ_22, sW_1, sW_21, upd_at, upd_ne]
            rfl
          · rw [G9.2 12 (by decide)]
            exact H3.2.1 (by omega)
          · rw [G9.2 13 (by decide)]
            exact H3.2.2.1
          · rw [G9.2 14 (by decide)]
            exact H3.2.2.2.1
          · rw [G9.2 15 (by decide)]
            exact H3.2.2.2.2
          · rw [f8.2 34 (by decide), e2, e1, e9, e8]
            simp (disch := decide) only [sI_at, sI_ne, sI_21, sI_22, sJ_1, sJ_at, sJ_ne, sJ_22, sW_1, sW_21, upd_at, upd_ne]
            rfl
      rw [n27, bI_0]
      refine ⟨fun z => ?_, fun z => ?_⟩
      · have z : L.1 = true := by
          revert z
          cases L.1 <;> decide
        have eE : ldE X L = X.2.2.2.1.2.1.flatten.length := by
          unfold ldE
          rw [if_pos z]
        rw [(m26 z).1, n17, ← eE]
        simp (disch := omega) only [nt_le, nt_lt, nt_eq, nt_cl, nt_vp, nI_add, lu_le, lu_lt, lu_eq, ul_le, ul_lt, ul_eq, lu_add, ul_add, lu_sub, lu_mul, ul_mul, nt_sub, nt_m1]
        exact ⟨fun y => more 0 ⟨fun _ => by omega, fun _ => rfl⟩, fun y => more 1 ⟨fun w => absurd w (by decide), fun w => by omega⟩⟩
      · have z : L.1 = false := by
          revert z
          cases L.1 <;> decide
        have eE : ldE X L = L.2.2 := by
          unfold ldE
          rw [if_neg (by rw [z]; decide)]
        have eN : ldn X L = L.2.1 + 6 * (nn X.2.2.2.2 - L.2.2) := rfl
        obtain ⟨w1, w2⟩ := o8 z
        rw [m30 z, n28]
        simp (disch := omega) only [nt_le, nt_lt, nt_eq, nt_cl, nt_vp, nI_add, lu_le, lu_lt, lu_eq, ul_le, ul_lt, ul_eq, lu_add, ul_add, lu_sub, lu_mul, ul_mul, nt_sub, nt_m1]
        exact ⟨fun y => more 0 ⟨fun _ => by omega, fun _ => rfl⟩, fun y => more 1 ⟨fun w => absurd w (by decide), fun w => by omega⟩⟩
    · rw [no, pt2 no] at K
      exact K h3 ((f2.1.mono (by decide)).tr f3) M3
  have go : ∀ s : Int32, s = bI L.1 → Ev mX7_loadStep 13 [(0, vR 27)] [vI s, vR 27] h Q := by
    intro s hs
    subst hs
    apply sX7_loadStep_13
    refine m_newNode H6.1 (b := bI L.1) (by cases L.1 <;> decide) (by rw [show (80 : Nat) = 64 + 16 from rfl, cn_64 wz 16]; have := cn_le (nu X.2.2.2.2.1) 64; omega) (fun h1 f1 g1 S1 => ⟨_, rfl, ?_⟩)
    have hf : cn (nu X.2.2.2.2.1) 80 < 80 := by
      rw [show (80 : Nat) = 64 + 16 from rfl, cn_64 wz 16]
      have := cn_le (nu X.2.2.2.2.1) 64
      omega
    have e := fw_nn us (fw_ok hf).1
    rw [e] at S1 ⊢
    have eb : (if bI L.1 = 0 then (1 : Int32) else 0) = bI (!L.1) := by
      cases L.1 <;> rfl
    rw [eb] at S1
    have S1 := S1.cg ad_new
    have z1 : fz 27 [27, 40, 41, 42, 43, 44, 45, 46] [26, 30, 33] h h1 := ⟨f1.mono (by decide), fun y hy => g1 y (fun z => hy (by rw [z]; decide))⟩
    rw [z1.2 27 (by decide), l27, bI_0]
    refine ⟨fun z => ?_, fun z => ?_⟩
    · have z : L.1 = false := by
        revert z
        cases L.1 <;> decide
      obtain ⟨w1, w2⟩ := o8 z
      have eE : ldE X L = L.2.2 := by
        unfold ldE
        rw [if_neg (by rw [z]; decide)]
      have eN : ldn X L = L.2.1 + 6 * (nn X.2.2.2.2 - L.2.2) := rfl
      have el : ldl X L = rgI (ldn X L) (min 6 (ldE X L - ldn X L)) := by
        unfold ldl ldE ldn
        rw [if_neg (by rw [z]; decide), if_neg (by rw [z]; decide)]
      have b1 : bI (!L.1) = 1 := by
        rw [z]
        rfl
      rw [b1] at S1
      rw [eE] at o4 o5
      refine m_ld_119 (S := X.2.2.2.2.1) (m := nn X.2.2.2.2) (a := L.2.1) (E := L.2.2) (n0 := 6 * (nn X.2.2.2.2 - L.2.2)) (l := ldl X L) BB (by omega) o4 o5 w2 (fun i hi => ?_) (ldl X L).length 0 h1 (by omega) S1 ?_ ?_ (fun k hk => ?_) (fun h2 f2 S2 n2 => ?_)
      · rw [el] at hi ⊢
        rw [rgI_len] at hi
        exact rgI_at hi
      · rw [z1.2 28 (by decide)]
        exact l28
      · rw [g1 30 (by decide), l30, if_neg (by rw [z]; decide)]
        rfl
      · rw [z1.1.i 38 (by decide)]
        exact l38 k hk
      · refine fin h2 (z1.tr (f2.mono (by decide) (by decide))) ?_ (fun y => absurd y (by rw [z]; decide)) (fun _ => n2)
        unfold ldS
        rw [b1]
        exact S2
    · have z : L.1 = true := by
        revert z
        cases L.1 <;> decide
      have e0 := lt z
      have eE : ldE X L = X.2.2.2.1.2.1.flatten.length := by
        unfold ldE
        rw [if_pos z]
      have eN : ldn X L = 6 * nn X.2.2.2.2 := by
        rw [e0]
        unfold ldn
        show 0 + 6 * (nn X.2.2.2.2 - 0) = _
        omega
      have el : ldl X L = (X.2.2.2.1.2.1.flatten.drop (6 * nn X.2.2.2.2)).take 6 := by
        unfold ldl
        rw [if_pos z]
      have b1 : bI (!L.1) = 0 := by
        rw [z]
        rfl
      rw [b1] at S1
      refine m_ld_24 (S := X.2.2.2.2.1) (m := nn X.2.2.2.2) (a := ldn X L) (E := ldE X L) (l := ldl X L) (fl := X.2.2.2.1.2.1.flatten) BB (by omega) o4 o5 o6 eE (fun i hi => ?_) (ldl X L).length 0 h1 (by omega) S1 ?_ ?_ (fun k hk => ?_) (fun h2 f2 S2 n2 => ?_)
      · rw [el] at hi ⊢
        rw [eN]
        rw [List.length_take] at hi
        rw [List.getD_eq_getElem?_getD, List.getElem?_take, if_pos (by omega), List.getElem?_drop, ← List.getD_eq_getElem?_getD]
      · rw [z1.2 17 (by decide), eE]
        exact R1
      · rw [g1 26 (by decide), l26 z, eN]
        rfl
      · rw [z1.1.i 32 (by decide), z1.1.i 33 (by decide)]
        exact R3 k hk
      · refine fin h2 (z1.tr (f2.mono (by decide) (by decide))) ?_ (fun _ => ⟨n2, ?_⟩) (fun y => absurd y (by rw [z]; decide))
        · unfold ldS
          rw [b1]
          exact S2
        · rw [f2.2 30 (by decide), g1 30 (by decide)]
  apply sX7_loadStep
  rw [l27]
  refine ⟨fun z => go 0 ?_, fun z => go 1 ?_⟩
  · revert z
    cases L.1 <;> decide
  · revert z
    cases L.1 <;> decide
end ML2
