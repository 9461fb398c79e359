/-! what the class's tree does to one node -/
section STP
variable {S : SR} {h : Hp} {Q : Option AV → Hp → Prop}
theorem c_freeNode (H : C_st S h) {n : Nat} (hn : n < 64) (hu : ¬ nu S n = 0) (h1 : ∀ h', fr [16, 18, 19, 20] h h' → (∀ q, q ≠ 5 → h'.1 16 q = h.1 16 q) → C_st (nFree n S) h' → Q none h') : EvM mX5_freeNode [vR 16, vI (nI n)] h Q := by
  apply sX5_freeNode
  simp (disch := omega) only [nt_le, nt_lt, nt_eq, nt_cl, nt_vp, nI_add, lu_le, lu_lt, lu_eq, ul_le, ul_lt, ul_eq, lu_add, ul_add, lu_sub, lu_mul, ul_mul, nt_sub, nt_m1]
  refine ⟨hn, fun h3 e3 => ⟨hn, fun h4 e4 => ⟨hn, fun h6 e6 h7 e7 => ?_⟩⟩⟩
  have f7 : fr [16, 18, 19, 20] h h7 := by
    rw [e7, e6, e4, e3]
    exact (((fr.rf.sI (by decide) _).sI (by decide) _).sI (by decide) _).sI (by decide) _
  refine h1 h7 f7 (fun q hq => ?_) ?_
  · rw [e7, sI_at, upd_ne _ _ hq, e6, sI_ne _ _ (by decide), e4, sI_ne _ _ (by decide), e3, sI_ne _ _ (by decide)]
  have a18 : h7.1 18 = upd (h.1 18) n 0 := by rw [e7, sI_ne _ _ (by decide), e6, sI_at, e4, sI_ne _ _ (by decide), e3, sI_ne _ _ (by decide)]
  have a19 : h7.1 19 = upd (h.1 19) n 0 := by rw [e7, sI_ne _ _ (by decide), e6, sI_ne _ _ (by decide), e4, sI_at, e3, sI_ne _ _ (by decide)]
  have a20 : h7.1 20 = upd (h.1 20) n 0 := by rw [e7, sI_ne _ _ (by decide), e6, sI_ne _ _ (by decide), e4, sI_ne _ _ (by decide), e3, sI_at]
  have a21 : h7.1 21 = h.1 21 := f7.i 21 (by decide)
  have a16 : h7.1 16 5 = h.1 16 5 - 1 := by rw [e7, sI_at, upd_at, e6, sI_ne _ _ (by decide), e4, sI_ne _ _ (by decide), e3, sI_ne _ _ (by decide)]
  have arr : h7.2.2 = h.2.2 := f7.2 (by decide)
  refine ⟨fun k hk => ?_, ?_, fun k hk hu2 => ?_⟩
  · rw [a20, a21]
    obtain ⟨q1, q2⟩ := H.1 k hk
    refine ⟨?_, q2⟩
    show upd _ _ _ _ = upd _ _ _ _
    unfold upd
    split
    · rfl
    · exact q1
  · rw [a16, H.2.1]
    show nI (cn (nu S) 64) - 1 = nI (cn (upd (nu S) n 0) 64)
    rw [cn_upd, if_pos hn, if_neg hu, if_pos rfl]
    have hc : 1 ≤ cn (nu S) 64 := by
      have : ∀ m, n < m → 1 ≤ cn (nu S) m := by
        intro m
        induction m with
        | zero => intro q; omega
        | succ m ih =>
          intro q
          unfold cn
          by_cases e2 : n = m
          · subst e2
            rw [if_neg hu]
            omega
          · have := ih (by omega)
            omega
      exact this 64 hn
    generalize cn (nu S) 64 = z at hc ⊢
    rw [Nat.add_zero]
    exact pk_sub (a := z) (b := 1) hc
  · have hu3 : ¬ upd (nu S) n 0 k = 0 := hu2
    have q : k ≠ n := by
      intro q
      subst q
      rw [upd_at] at hu3
      exact hu3 rfl
    rw [upd_ne _ _ q] at hu3
    rw [a18, a19, arr, upd_ne _ _ q, upd_ne _ _ q]
    exact H.2.2 k hk hu3
theorem c_putIn_34 (H : C_st S h) {n i : Nat} (hn : n < 64) (hu : ¬ nu S n = 0) (hi : i ≤ nz S n) (hz : nz S n ≤ 8) {w : Int64} (HQ : ∀ h', fr [17, 18, 21] h h' → C_st (pIn n i w.toInt S) h' → Q none h') :
    ∀ (d k : Nat) (h' : Hp), k = i + d → k ≤ nz S n → fr [17] h h' → (∀ m, m ≠ n → h'.2.2 m = h.2.2 m) → (∀ j, j ≤ nz S n → h'.2.2 n j = if k < j then h.2.2 n (j - 1) else h.2.2 n j) → Ev mX5_putIn 34 [(0, vR 16), (1, vI (nI n)), (2, vI (nI i)), (3, vL w), (5, vI (nI k))] [] h' Q
  | 0, k, h', hk, hkz, f, ho, hr => by
    apply sX5_putIn_34
    simp (disch := omega) only [nt_le, nt_lt, nt_eq, nt_cl, nt_vp, nI_add, lu_le, lu_lt, lu_eq, ul_le, ul_lt, ul_eq, lu_add, ul_add, lu_sub, lu_mul, ul_mul, nt_sub, nt_m1]
    refine ⟨fun _ => ⟨hn, by omega, fun h4 e4 => ⟨hn, hn, fun h7 e7 => ⟨hn, fun h9 e9 => ?_⟩⟩⟩, fun c => by omega⟩
    have e : k = i := by omega
    subst e
    have f9 : fr [17, 18, 21] h h9 := by
      rw [e9, e7, e4]
      exact (((f.mono (by decide)).sW (by decide) _ _).sI (by decide) _).sI (by decide) _
    refine HQ h9 f9 ?_
    have hh1 : ∀ d, d ≠ 17 → h'.1 d = h.1 d := fun d hd => f.i d (by simpa using hd)
    have a18 : h9.1 18 = upd (h.1 18) n (h.1 18 n + 1) := by rw [e9, sI_ne _ _ (by decide), e7, sI_at, e4, sW_1, hh1 18 (by decide)]
    have a21 : h9.1 21 = upd (h.1 21) n 1 := by rw [e9, sI_at, e7, sI_ne _ _ (by decide), e4, sW_1, hh1 21 (by decide)]
    have arn : h9.2.2 n = vp_updL (h'.2.2 n) k w := by rw [e9, sI_22, e7, sI_22, e4, sW_at]
    have aro : ∀ m, m ≠ n → h9.2.2 m = h.2.2 m := fun m hm => by rw [e9, sI_22, e7, sI_22, e4, sW_ne _ _ hm, ho m hm]
    refine ⟨fun m hm => ?_, ?_, fun m hm hu2 => ?_⟩
    · rw [f9.i 20 (by decide), a21]
      obtain ⟨q1, q2⟩ := H.1 m hm
      refine ⟨q1, ?_⟩
      show upd _ _ _ _ = upd _ _ _ _
      unfold upd
      split
      · rfl
      · exact q2
    · rw [f9.i 16 (by decide)]
      exact H.2.1
    · obtain ⟨q1, q2, q3⟩ := H.2.2 m hm hu2
      rw [a18, f9.i 19 (by decide)]
      by_cases q : m = n
      · subst q
        refine ⟨?_, q2, fun j hj => ?_⟩
        · show upd _ _ _ _ = nI (va_up (nz S) m (nz S m + 1) m)
          rw [upd_at, va_up_self, q1]
          exact nI_1 _
        · have hj2 : j < nz S m + 1 := by
            have : j < va_up (nz S) m (nz S m + 1) m := hj
            rwa [va_up_self] at this
          show (h9.2.2 m j).toInt = va_up (nh S) m (insf (nh S m) k w.toInt) m j
          rw [va_up_self, arn]
          unfold insf
          by_cases c1 : j < k
          · rw [if_pos c1, uL_ne _ _ (by omega), hr j (by omega), if_neg (by omega)]
            exact q3 j (by omega)
          · rw [if_neg c1]
            by_cases c2 : j = k
            · rw [if_pos c2, c2, uL_at]
            · rw [if_neg c2, uL_ne _ _ c2, hr j (by omega), if_pos (by omega)]
              exact q3 (j - 1) (by omega)
      · refine ⟨?_, q2, fun j hj => ?_⟩
        · show upd _ _ _ _ = nI (va_up (nz S) n (nz S n + 1) m)
          rw [upd_ne _ _ q, va_up_ne _ _ q]
          exact q1
        · have hj2 : j < nz S m := by
            have : j < va_up (nz S) n (nz S n + 1) m := hj
            rwa [va_up_ne _ _ q] at this
          show (h9.2.2 m j).toInt = va_up (nh S) n _ m j
          rw [va_up_ne _ _ q, aro m q]
          exact q3 j hj2
  | d + 1, k, h', hk, hkz, f, ho, hr => by
    apply sX5_putIn_34
    simp (disch := omega) only [nt_le, nt_lt, nt_eq, nt_cl, nt_vp, nI_add, lu_le, lu_lt, lu_eq, ul_le, ul_lt, ul_eq, lu_add, ul_add, lu_sub, lu_mul, ul_mul, nt_sub, nt_m1]
    refine ⟨fun c => by omega, fun c => ⟨hn, hn, by omega, by omega, fun h5 e5 => ?_⟩⟩
    refine c_putIn_34 H hn hu hi hz HQ d (k - 1) h5 (by omega) (by omega) (by rw [e5]; exact f.sW (by decide) _ _) (fun m hm => ?_) (fun j hj => ?_)
    · rw [e5, sW_ne _ _ hm, ho m hm]
    · rw [e5, sW_at]
      by_cases c2 : j = k
      · subst c2
        rw [uL_at, hr (j - 1) (by omega), if_neg (by omega), if_pos (by omega)]
      · rw [uL_ne _ _ c2, hr j hj]
        by_cases c3 : k < j
        · rw [if_pos c3, if_pos (by omega)]
        · rw [if_neg c3, if_neg (by omega)]
theorem c_putIn (H : C_st S h) {n i : Nat} (hn : n < 64) (hu : ¬ nu S n = 0) (hi : i ≤ nz S n) (hz : nz S n ≤ 8) {w : Int64} (HQ : ∀ h', fr [17, 18, 21] h h' → C_st (pIn n i w.toInt S) h' → Q none h') : EvM mX5_putIn [vR 16, vI (nI n), vI (nI i), vL w] h Q := by
  apply sX5_putIn
  obtain ⟨q1, q2, q3⟩ := H.2.2 n hn hu
  simp (disch := omega) only [nt_le, nt_lt, nt_eq, nt_cl, nt_vp, nI_add, lu_le, lu_lt, lu_eq, ul_le, ul_lt, ul_eq, lu_add, ul_add, lu_sub, lu_mul, ul_mul, nt_sub, nt_m1]
  rw [q1]
  simp (disch := omega) only [nt_le, nt_lt, nt_eq, nt_cl, nt_vp, nI_add, lu_le, lu_lt, lu_eq, ul_le, ul_lt, ul_eq, lu_add, ul_add, lu_sub, lu_mul, ul_mul, nt_sub, nt_m1]
  refine ⟨fun c => by omega, fun c => ⟨hn, fun c => by omega, fun c => ⟨hn, fun c => ⟨hn, ?_⟩, fun c => by omega⟩⟩⟩
  exact c_putIn_34 H hn hu hi hz HQ (nz S n - i) (nz S n) h (by omega) (Nat.le_refl _) fr.rf (fun _ _ => rfl) (fun j hj => by rw [if_neg (by omega)])
theorem c_takeOut_17 (H : C_st S h) {n i : Nat} (hn : n < 64) (hu : ¬ nu S n = 0) (hi : i < nz S n) (hz : nz S n ≤ 9) (HQ : ∀ h', fr [17, 18, 21] h h' → C_st (tOut n i S) h' → Q none h') :
    ∀ (d k : Nat) (h' : Hp), k + d + 1 = nz S n → i ≤ k → fr [17] h h' → (∀ m, m ≠ n → h'.2.2 m = h.2.2 m) → (∀ j, j < nz S n → h'.2.2 n j = if i ≤ j ∧ j < k then h.2.2 n (j + 1) else h.2.2 n j) → Ev mX5_takeOut 17 [(0, vR 16), (1, vI (nI n)), (3, vI (nI k))] [] h' Q
  | 0, k, h', hk, hik, f, ho, hr => by
    have hh1 : ∀ d, d ≠ 17 → h'.1 d = h.1 d := fun d hd => f.i d (by simpa using hd)
    obtain ⟨z1, z2, z3⟩ := H.2.2 n hn hu
    apply sX5_takeOut_17
    rw [hh1 18 (by decide)]
    simp (disch := omega) only [nt_le, nt_lt, nt_eq, nt_cl, nt_vp, nI_add, lu_le, lu_lt, lu_eq, ul_le, ul_lt, ul_eq, lu_add, ul_add, lu_sub, lu_mul, ul_mul, nt_sub, nt_m1]
    rw [z1]
    simp (disch := omega) only [nt_le, nt_lt, nt_eq, nt_cl, nt_vp, nI_add, lu_le, lu_lt, lu_eq, ul_le, ul_lt, ul_eq, lu_add, ul_add, lu_sub, lu_mul, ul_mul, nt_sub, nt_m1]
    refine ⟨hn, fun _ => ⟨hn, hn, fun h7 e7 => ⟨hn, fun h9 e9 => ?_⟩⟩, fun c => by omega⟩
    have f9 : fr [17, 18, 21] h h9 := by
      rw [e9, e7]
      exact ((f.mono (by decide)).sI (by decide) _).sI (by decide) _
    refine HQ h9 f9 ?_
    have a18 : h9.1 18 = upd (h.1 18) n (nI (nz S n - 1)) := by rw [e9, sI_ne _ _ (by decide), e7, sI_at]
    have a21 : h9.1 21 = upd (h.1 21) n 1 := by rw [e9, sI_at, e7, sI_ne _ _ (by decide), hh1 21 (by decide)]
    have arr : h9.2.2 = h'.2.2 := by rw [e9, sI_22, e7, sI_22]
    refine ⟨fun m hm => ?_, ?_, fun m hm hu2 => ?_⟩
    · rw [f9.i 20 (by decide), a21]
      obtain ⟨q1, q2⟩ := H.1 m hm
      refine ⟨q1, ?_⟩
      show upd _ _ _ _ = upd _ _ _ _
      unfold upd
      split
      · rfl
      · exact q2
    · rw [f9.i 16 (by decide)]
      exact H.2.1
    · obtain ⟨q1, q2, q3⟩ := H.2.2 m hm hu2
      rw [a18, f9.i 19 (by decide), arr]
      by_cases q : m = n
      · subst q
        refine ⟨?_, q2, fun j hj => ?_⟩
        · show upd _ _ _ _ = nI (va_up (nz S) m (nz S m - 1) m)
          rw [upd_at, va_up_self]
        · have hj2 : j < nz S m - 1 := by
            have : j < va_up (nz S) m (nz S m - 1) m := hj
            rwa [va_up_self] at this
          show (h'.2.2 m j).toInt = va_up (nh S) m (delf (nh S m) i) m j
          rw [va_up_self, hr j (by omega)]
          unfold delf
          by_cases c1 : j < i
          · rw [if_pos c1, if_neg (by omega)]
            exact q3 j (by omega)
          · rw [if_neg c1, if_pos (by omega)]
            exact q3 (j + 1) (by omega)
      · refine ⟨?_, q2, fun j hj => ?_⟩
        · show upd _ _ _ _ = nI (va_up (nz S) n (nz S n - 1) m)
          rw [upd_ne _ _ q, va_up_ne _ _ q]
          exact q1
        · have hj2 : j < nz S m := by
            have : j < va_up (nz S) n (nz S n - 1) m := hj
            rwa [va_up_ne _ _ q] at this
          show (h'.2.2 m j).toInt = va_up (nh S) n _ m j
          rw [va_up_ne _ _ q, ho m q]
          exact q3 j hj2
  | d + 1, k, h', hk, hik, f, ho, hr => by
    have hh1 : ∀ d, d ≠ 17 → h'.1 d = h.1 d := fun d hd => f.i d (by simpa using hd)
    obtain ⟨z1, z2, z3⟩ := H.2.2 n hn hu
    apply sX5_takeOut_17
    rw [hh1 18 (by decide)]
    simp (disch := omega) only [nt_le, nt_lt, nt_eq, nt_cl, nt_vp, nI_add, lu_le, lu_lt, lu_eq, ul_le, ul_lt, ul_eq, lu_add, ul_add, lu_sub, lu_mul, ul_mul, nt_sub, nt_m1]
    rw [z1]
    simp (disch := omega) only [nt_le, nt_lt, nt_eq, nt_cl, nt_vp, nI_add, lu_le, lu_lt, lu_eq, ul_le, ul_lt, ul_eq, lu_add, ul_add, lu_sub, lu_mul, ul_mul, nt_sub, nt_m1]
    refine ⟨hn, fun c => by omega, fun c => ⟨hn, hn, by omega, by omega, fun h5 e5 => ?_⟩⟩
    refine c_takeOut_17 H hn hu hi hz HQ d (k + 1) h5 (by omega) (by omega) (by rw [e5]; exact f.sW (by decide) _ _) (fun m hm => ?_) (fun j hj => ?_)
    · rw [e5, sW_ne _ _ hm, ho m hm]
    · rw [e5, sW_at]
      by_cases c2 : j = k
      · subst c2
        rw [uL_at, hr (j + 1) (by omega), if_neg (by omega), if_pos (by omega)]
      · rw [uL_ne _ _ c2, hr j hj]
        by_cases c3 : i ≤ j ∧ j < k
        · rw [if_pos c3, if_pos (by omega)]
        · rw [if_neg c3, if_neg (by omega)]
theorem c_takeOut (H : C_st S h) {n i : Nat} (hn : n < 64) (hu : ¬ nu S n = 0) (hi : i < nz S n) (hz : nz S n ≤ 9) (HQ : ∀ h', fr [17, 18, 21] h h' → C_st (tOut n i S) h' → Q none h') : EvM mX5_takeOut [vR 16, vI (nI n), vI (nI i)] h Q := by
  apply sX5_takeOut
  obtain ⟨q1, q2, q3⟩ := H.2.2 n hn hu
  simp (disch := omega) only [nt_le, nt_lt, nt_eq, nt_cl, nt_vp, nI_add, lu_le, lu_lt, lu_eq, ul_le, ul_lt, ul_eq, lu_add, ul_add, lu_sub, lu_mul, ul_mul, nt_sub, nt_m1]
  rw [q1]
  simp (disch := omega) only [nt_le, nt_lt, nt_eq, nt_cl, nt_vp, nI_add, lu_le, lu_lt, lu_eq, ul_le, ul_lt, ul_eq, lu_add, ul_add, lu_sub, lu_mul, ul_mul, nt_sub, nt_m1]
  refine ⟨fun c => by omega, fun c => ⟨hn, fun c => ?_, fun c => by omega⟩⟩
  exact c_takeOut_17 H hn hu hi hz HQ (nz S n - i - 1) i h (by omega) (Nat.le_refl _) fr.rf (fun _ _ => rfl) (fun j hj => by rw [if_neg (by omega)])
theorem l2i_nI {x : Int64} {k : Nat} (hx : x.toInt = k) (hk : k < 2147483648) : Int64.toInt32 x = nI k := by
  have e : x = lN k := Int64.toInt_inj.mp (by rw [hx, lN_toInt hk])
  rw [e, lN_i]
theorem c_kidOf (H : C_st S h) {n i k : Nat} (hn : n < 64) (hu : ¬ nu S n = 0) (hi : i < nz S n) (hz : nz S n ≤ 9) (hk : nh S n i = k) (hk2 : k < 64) (HQ : Q (some (vI (nI k))) h) : EvM mX5_kidOf [vR 16, vI (nI n), vI (nI i)] h Q := by
  apply sX5_kidOf
  obtain ⟨q1, q2, q3⟩ := H.2.2 n hn hu
  have q4 := q3 i hi
  rw [hk] at q4
  simp (disch := omega) only [nt_le, nt_lt, nt_eq, nt_cl, nt_vp, nI_add, lu_le, lu_lt, lu_eq, ul_le, ul_lt, ul_eq, lu_add, ul_add, lu_sub, lu_mul, ul_mul, nt_sub, nt_m1]
  rw [q1]
  simp (disch := omega) only [nt_le, nt_lt, nt_eq, nt_cl, nt_vp, nI_add, lu_le, lu_lt, lu_eq, ul_le, ul_lt, ul_eq, lu_add, ul_add, lu_sub, lu_mul, ul_mul, nt_sub, nt_m1]
  refine ⟨fun c => by omega, fun c => ⟨hn, fun c => by omega, fun c => ⟨hn, by omega, ?_⟩⟩⟩
  apply sX5_kidOf_26
  have z0 : (0 : Int64).toInt = 0 := rfl
  have z64 : (64 : Int64).toInt = 64 := rfl
  refine ⟨fun c => ?_, fun c => ⟨fun c2 => ?_, fun c2 => ?_⟩⟩
  · exfalso
    have : ¬ lg_cmp (0 : Int64) (h.2.2 n i) ≤ 0 := by
      intro q
      have := lg_le.mp q
      unfold lg_cmp at c
      by_cases c3 : h.2.2 n i > 0
      · rw [if_pos c3] at c
        exact absurd c (by decide)
      · rw [if_neg c3] at c
        by_cases c4 : h.2.2 n i = 0
        · rw [if_pos c4] at c
          exact absurd c (by decide)
        · have h5 : h.2.2 n i ≤ 0 := Int64.not_lt.mp c3
          have h6 := Int64.le_iff_toInt_le.mp h5
          rw [q4, z0] at h6
          exact c4 (Int64.toInt_inj.mp (by rw [q4, z0]; omega))
    exact this (lg_le.mpr (by rw [z0, q4]; omega))
  · exfalso
    have c3 : lg_cmp (h.2.2 n i) 64 ≤ 0 := lg_le.mpr (by rw [q4, z64]; omega)
    have c4 : ¬ lg_cmp (h.2.2 n i) 64 = 0 := fun q => by
      have := lg_eq.mp q
      rw [q4, z64] at this
      omega
    exact c4 (Int32.le_antisymm c3 c2)
  · rw [l2i_nI q4 (by omega)]
    exact HQ
end STP
