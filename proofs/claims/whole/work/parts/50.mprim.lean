/-! the reference's nodes -/
def slt (v : Int32) (x : Int) (k p c : Int32) : Prop := (v = 0 → k.toInt * 256 + p.toInt = x ∧ 0 ≤ p.toInt ∧ p.toInt < 256) ∧ (¬ v = 0 → c = nI x.toNat ∧ 0 ≤ x ∧ x < 80)
def M_st (S : SR) (h : Hp) : Prop := (∀ n, n < 80 → h.1 40 n = nu S n ∧ (¬ nu S n = 0 → h.1 42 n = nd S n)) ∧ h.1 27 33 = nI (cn (nu S) 80) ∧ ∀ n, n < 80 → ¬ nu S n = 0 → h.1 43 n = nI (nz S n) ∧ h.1 41 n = (if nv S n = 0 then 1 else 0) ∧ ∀ i, i < nz S n → slt (nv S n) (nh S n i) (h.1 44 (9 * n + i)) (h.1 45 (9 * n + i)) (h.1 46 (9 * n + i))
theorem M_st.fr {S : SR} {h h' : Hp} {T : List Nat} (H : M_st S h) (f : fr T h h') (h5 : h'.1 27 33 = h.1 27 33) (hs : 40 ∉ T ∧ 41 ∉ T ∧ 42 ∉ T ∧ 43 ∉ T ∧ 44 ∉ T ∧ 45 ∉ T ∧ 46 ∉ T) : M_st S h' := by
  obtain ⟨q1, q2, q3, q4, q5, q6, q7⟩ := hs
  unfold M_st
  rw [h5, f.i 40 q1, f.i 41 q2, f.i 42 q3, f.i 43 q4, f.i 44 q5, f.i 45 q6, f.i 46 q7]
  exact H
theorem M_st.cg {S T : SR} {h : Hp} (H : M_st S h) (e : eqS S T) : M_st T h := by
  obtain ⟨e1, e2, e3, e4, e5⟩ := e
  unfold M_st
  rw [← e1, ← e2, ← e3, ← e4]
  refine ⟨H.1, H.2.1, fun n hn hu => ?_⟩
  obtain ⟨q1, q2, q3⟩ := H.2.2 n hn hu
  exact ⟨q1, q2, fun i hi => by rw [← e5 n i hi]; exact q3 i hi⟩
section MPR
variable {S : SR} {h : Hp} {Q : Option AV → Hp → Prop}
theorem m_newNode_2 (H : M_st S h) {b : Int32} (hb : b = 0 ∨ b = 1) : ∀ k i n : Nat, i + k = 80 → ff (nu S) k i = some n →
    (∀ h', n < 80 → fr [27, 40, 41, 42, 43] h h' → (∀ q, q ≠ 33 → h'.1 27 q = h.1 27 q) → M_st (nNew n (if b = 0 then 1 else 0) S) h' → Q (some (vI (nI n))) h') → Ev mX7_newNode 2 [(0, vR 27), (1, vI b), (2, vI (nI i))] [] h Q
  | 0, i, n, hi, h1, h2 => by cases h1
  | k + 1, i, n, hi, h1, h2 => by
    apply sX7_newNode_2
    simp (disch := omega) only [nt_le, nt_lt, nt_eq, nt_cl, nt_vp, nI_add, lu_le, lu_lt, lu_eq, ul_le, ul_lt, ul_eq, lu_add, ul_add, lu_sub, lu_mul, ul_mul, nt_sub, nt_m1]
    rw [(H.1 i (by omega)).1]
    refine ⟨by omega, fun e => ⟨by omega, fun h3 e3 => ⟨by omega, hb, fun h4 e4 => ⟨by omega, fun h5 e5 => ⟨by omega, fun h6 e6 h7 e7 => ?_⟩⟩⟩⟩, fun e => ?_⟩
    · have en : n = i := by
        unfold ff at h1
        rw [if_pos e] at h1
        exact (Option.some.inj h1).symm
      subst en
      have f7 : fr [27, 40, 41, 42, 43] h h7 := by
        rw [e7, e6, e5, e4, e3]
        exact ((((fr.rf.sI (by decide) _).sI (by decide) _).sI (by decide) _).sI (by decide) _).sI (by decide) _
      refine h2 h7 (by omega) f7 (fun q hq => ?_) ?_
      · rw [e7, sI_at, upd_ne _ _ hq, e6, sI_ne _ _ (by decide), e5, sI_ne _ _ (by decide), e4, sI_ne _ _ (by decide), e3, sI_ne _ _ (by decide)]
      have a43 : h7.1 43 = upd (h.1 43) n 0 := by rw [e7, sI_ne _ _ (by decide), e6, sI_at, e5, sI_ne _ _ (by decide), e4, sI_ne _ _ (by decide), e3, sI_ne _ _ (by decide)]
      have a41 : h7.1 41 = upd (h.1 41) n b := by rw [e7, sI_ne _ _ (by decide), e6, sI_ne _ _ (by decide), e5, sI_ne _ _ (by decide), e4, sI_at, e3, sI_ne _ _ (by decide)]
      have a40 : h7.1 40 = upd (h.1 40) n 1 := by rw [e7, sI_ne _ _ (by decide), e6, sI_ne _ _ (by decide), e5, sI_ne _ _ (by decide), e4, sI_ne _ _ (by decide), e3, sI_at]
      have a42 : h7.1 42 = upd (h.1 42) n 1 := by rw [e7, sI_ne _ _ (by decide), e6, sI_ne _ _ (by decide), e5, sI_at, e4, sI_ne _ _ (by decide), e3, sI_ne _ _ (by decide)]
      have a27 : h7.1 27 33 = h.1 27 33 + 1 := by rw [e7, sI_at, upd_at, e6, sI_ne _ _ (by decide), e5, sI_ne _ _ (by decide), e4, sI_ne _ _ (by decide), e3, sI_ne _ _ (by decide)]
      refine ⟨fun m hm => ?_, ?_, fun m hm hu => ?_⟩
      · rw [a40, a42]
        obtain ⟨q1, q2⟩ := H.1 m hm
        by_cases q : m = n
        · subst q
          rw [upd_at, upd_at]
          refine ⟨?_, fun _ => ?_⟩
          · show (1 : Int32) = upd (nu S) m 1 m
            rw [upd_at]
          · show (1 : Int32) = upd (nd S) m 1 m
            rw [upd_at]
        · rw [upd_ne _ _ q, upd_ne _ _ q]
          refine ⟨?_, fun hu => ?_⟩
          · show _ = upd (nu S) n 1 m
            rw [upd_ne _ _ q]
            exact q1
          · show _ = upd (nd S) n 1 m
            rw [upd_ne _ _ q]
            refine q2 ?_
            have : ¬ upd (nu S) n 1 m = 0 := hu
            rwa [upd_ne _ _ q] at this
      · rw [a27, H.2.1]
        show nI (cn (nu S) 80) + 1 = nI (cn (upd (nu S) n 1) 80)
        rw [cn_new (by omega) e]
        exact nI_1 _
      · rw [a43, a41, f7.i 44 (by decide), f7.i 45 (by decide), f7.i 46 (by decide)]
        by_cases q : m = n
        · subst q
          rw [upd_at, upd_at]
          refine ⟨?_, ?_, fun j hj => ?_⟩
          · show (0 : Int32) = nI (va_up (nz S) m 0 m)
            rw [va_up_self]
            rfl
          · show b = if upd (nv S) m (if b = 0 then 1 else 0) m = 0 then 1 else 0
            rw [upd_at]
            rcases hb with rfl | rfl <;> decide
          · exact absurd (show j < va_up (nz S) m 0 m from hj) (by rw [va_up_self]; omega)
        · rw [upd_ne _ _ q, upd_ne _ _ q]
          have hu2 : ¬ nu S m = 0 := by
            have : ¬ upd (nu S) n 1 m = 0 := hu
            rwa [upd_ne _ _ q] at this
          obtain ⟨q1, q2, q3⟩ := H.2.2 m hm hu2
          refine ⟨?_, ?_, fun j hj => ?_⟩
          · show _ = nI (va_up (nz S) n 0 m)
            rw [va_up_ne _ _ q]
            exact q1
          · show _ = if upd (nv S) n _ m = 0 then 1 else 0
            rw [upd_ne _ _ q]
            exact q2
          · have hj2 : j < va_up (nz S) n 0 m := hj
            rw [va_up_ne _ _ q] at hj2
            show slt (upd (nv S) n _ m) _ _ _ _
            rw [upd_ne _ _ q]
            exact q3 j hj2
    · refine m_newNode_2 H hb k (i + 1) n (by omega) ?_ h2
      unfold ff at h1
      rw [if_neg e] at h1
      exact h1
theorem m_newNode (H : M_st S h) {b : Int32} (hb : b = 0 ∨ b = 1) (hf : cn (nu S) 80 < 80)
    (h2 : ∀ h', fr [27, 40, 41, 42, 43] h h' → (∀ q, q ≠ 33 → h'.1 27 q = h.1 27 q) → M_st (nNew (fw 80 S) (if b = 0 then 1 else 0) S) h' → Q (some (vI (nI (fw 80 S)))) h') : EvM mX7_newNode [vR 27, vI b] h Q := by
  obtain ⟨w1, w2, w3⟩ := fw_ok hf
  apply sX7_newNode
  exact m_newNode_2 H hb 80 0 (fw 80 S) rfl w1 (fun h' _ a b c => h2 h' a b c)
theorem m_giveBack (H : M_st S h) {n : Nat} (hn : n < 80) (hu : ¬ nu S n = 0) (h1 : ∀ h', fr [27, 40, 42] h h' → (∀ q, q ≠ 33 → h'.1 27 q = h.1 27 q) → M_st (nFree n S) h' → Q none h') : EvM mX7_giveBack [vR 27, vI (nI n)] h Q := by
  apply sX7_giveBack
  simp (disch := omega) only [nt_le, nt_lt, nt_eq, nt_cl, nt_vp, nI_add, lu_le, lu_lt, lu_eq, ul_le, ul_lt, ul_eq, lu_add, ul_add, lu_sub, lu_mul, ul_mul, nt_sub, nt_m1]
  refine ⟨hn, fun h3 e3 => ⟨hn, fun h4 e4 h7 e7 => ?_⟩⟩
  have f7 : fr [27, 40, 42] h h7 := by
    rw [e7, e4, e3]
    exact ((fr.rf.sI (by decide) _).sI (by decide) _).sI (by decide) _
  refine h1 h7 f7 (fun q hq => ?_) ?_
  · rw [e7, sI_at, upd_ne _ _ hq, e4, sI_ne _ _ (by decide), e3, sI_ne _ _ (by decide)]
  have a40 : h7.1 40 = upd (h.1 40) n 0 := by rw [e7, sI_ne _ _ (by decide), e4, sI_ne _ _ (by decide), e3, sI_at]
  have a42 : h7.1 42 = upd (h.1 42) n 0 := by rw [e7, sI_ne _ _ (by decide), e4, sI_at, e3, sI_ne _ _ (by decide)]
  have a27 : h7.1 27 33 = h.1 27 33 - 1 := by rw [e7, sI_at, upd_at, e4, sI_ne _ _ (by decide), e3, sI_ne _ _ (by decide)]
  refine ⟨fun k hk => ?_, ?_, fun k hk hu2 => ?_⟩
  · rw [a40, a42]
    obtain ⟨q1, q2⟩ := H.1 k hk
    by_cases q : k = n
    · subst q
      rw [upd_at, upd_at]
      refine ⟨?_, fun hu2 => ?_⟩
      · show (0 : Int32) = upd (nu S) k 0 k
        rw [upd_at]
      · have : ¬ upd (nu S) k 0 k = 0 := hu2
        rw [upd_at] at this
        exact absurd rfl this
    · rw [upd_ne _ _ q, upd_ne _ _ q]
      refine ⟨?_, fun hu2 => q2 ?_⟩
      · show _ = upd (nu S) n 0 k
        rw [upd_ne _ _ q]
        exact q1
      · have : ¬ upd (nu S) n 0 k = 0 := hu2
        rwa [upd_ne _ _ q] at this
  · rw [a27, H.2.1]
    show nI (cn (nu S) 80) - 1 = nI (cn (upd (nu S) n 0) 80)
    rw [cn_upd, if_pos hn, if_neg hu, if_pos rfl]
    have hc := cn_pos hu 80 hn
    generalize cn (nu S) 80 = z at hc ⊢
    rw [Nat.add_zero]
    exact pk_sub (a := z) (b := 1) hc
  · have hu3 : ¬ upd (nu S) n 0 k = 0 := hu2
    have q : k ≠ n := by
      intro q
      subst q
      rw [upd_at] at hu3
      exact hu3 rfl
    rw [upd_ne _ _ q] at hu3
    rw [f7.i 43 (by decide), f7.i 41 (by decide), f7.i 44 (by decide), f7.i 45 (by decide), f7.i 46 (by decide)]
    exact H.2.2 k hk hu3
theorem m_copySlot {a b : Nat} (ha : a < 720) (hb : b < 720) (h1 : ∀ h', fr [44, 45, 46] h h' → (∀ c, c = 44 ∨ c = 45 ∨ c = 46 → h'.1 c = upd (h.1 c) b (h.1 c a)) → Q none h') : EvM mX7_copySlot [vR 27, vI (nI a), vI (nI b)] h Q := by
  apply sX7_copySlot
  simp (disch := omega) only [nt_le, nt_lt, nt_eq, nt_cl, nt_vp, nI_add, lu_le, lu_lt, lu_eq, ul_le, ul_lt, ul_eq, lu_add, ul_add, lu_sub, lu_mul, ul_mul, nt_sub, nt_m1]
  refine ⟨ha, hb, fun h3 e3 => ⟨ha, hb, fun h4 e4 => ⟨ha, hb, fun h5 e5 => ?_⟩⟩⟩
  refine h1 h5 (by rw [e5, e4, e3]; exact ((fr.rf.sI (by decide) _).sI (by decide) _).sI (by decide) _) (fun c hc => ?_)
  rcases hc with rfl | rfl | rfl
  · rw [e5, sI_ne _ _ (by decide), e4, sI_ne _ _ (by decide), e3, sI_at]
  · rw [e5, sI_ne _ _ (by decide), e4, sI_at, e3, sI_ne _ _ (by decide)]
  · rw [e5, sI_at, e4, sI_ne _ _ (by decide), e3, sI_ne _ _ (by decide)]
theorem m_openSlot_7 {n i z : Nat} (hn : n < 80) (hz : z ≤ 8) (hi : i ≤ z) (hzz : h.1 43 n = nI z) (HQ : ∀ h', fr [42, 43, 44, 45, 46] h h' → h'.1 43 = upd (h.1 43) n (nI (z + 1)) → h'.1 42 = upd (h.1 42) n 1 → (∀ c m, c = 44 ∨ c = 45 ∨ c = 46 → h'.1 c m = if 9 * n + i < m ∧ m ≤ 9 * n + z then h.1 c (m - 1) else h.1 c m) → Q none h') :
    ∀ (d k : Nat) (h' : Hp), k = i + d → k ≤ z → fr [44, 45, 46] h h' → (∀ c m, c = 44 ∨ c = 45 ∨ c = 46 → h'.1 c m = if 9 * n + k < m ∧ m ≤ 9 * n + z then h.1 c (m - 1) else h.1 c m) → Ev mX7_openSlot 7 [(0, vR 27), (1, vI (nI n)), (2, vI (nI i)), (3, vI (nI k))] [] h' Q
  | 0, k, h', hk, hkz, f, hr => by
    have e : k = i := by omega
    subst e
    apply sX7_openSlot_7
    simp (disch := omega) only [nt_le, nt_lt, nt_eq, nt_cl, nt_vp, nI_add, lu_le, lu_lt, lu_eq, ul_le, ul_lt, ul_eq, lu_add, ul_add, lu_sub, lu_mul, ul_mul, nt_sub, nt_m1]
    rw [f.i 43 (by decide), hzz]
    simp (disch := omega) only [nt_le, nt_lt, nt_eq, nt_cl, nt_vp, nI_add, lu_le, lu_lt, lu_eq, ul_le, ul_lt, ul_eq, lu_add, ul_add, lu_sub, lu_mul, ul_mul, nt_sub, nt_m1]
    refine ⟨fun _ => ⟨hn, hn, fun h4 e4 => ⟨hn, fun h6 e6 => ?_⟩⟩, fun c => absurd (Nat.le_refl _) c⟩
    have f6 : fr [42, 43] h' h6 := by rw [e6, e4]; exact (fr.rf.sI (by decide) _).sI (by decide) _
    refine HQ h6 ((f.mono (by decide)).tr (f6.mono (by decide))) (by rw [e6, sI_ne _ _ (by decide), e4, sI_at]) (by rw [e6, sI_at, e4, sI_ne _ _ (by decide), f.i 42 (by decide)]) (fun c m hc => ?_)
    rw [f6.i c (by rcases hc with rfl | rfl | rfl <;> decide)]
    exact hr c m hc
  | d + 1, k, h', hk, hkz, f, hr => by
    apply sX7_openSlot_7
    simp (disch := omega) only [nt_le, nt_lt, nt_eq, nt_cl, nt_vp, nI_add, lu_le, lu_lt, lu_eq, ul_le, ul_lt, ul_eq, lu_add, ul_add, lu_sub, lu_mul, ul_mul, nt_sub, nt_m1]
    refine ⟨fun c => by omega, fun _ => ?_⟩
    refine m_copySlot (by omega) (by omega) (fun h2 f2 g2 => ⟨rfl, ?_⟩)
    refine m_openSlot_7 hn hz hi hzz HQ d (k - 1) h2 (by omega) (by omega) (f.tr f2) (fun c m hc => ?_)
    rw [g2 c hc]
    by_cases q : m = 9 * n + k
    · subst q
      rw [upd_at, hr c _ hc, if_neg (by omega), if_pos (by omega)]
    · rw [upd_ne _ _ q, hr c m hc]
      by_cases q2 : 9 * n + k < m ∧ m ≤ 9 * n + z
      · rw [if_pos q2, if_pos (by omega)]
      · rw [if_neg q2, if_neg (by omega)]
theorem m_openSlot {n i z : Nat} (hn : n < 80) (hz : z ≤ 8) (hi : i ≤ z) (hzz : h.1 43 n = nI z) (HQ : ∀ h', fr [42, 43, 44, 45, 46] h h' → h'.1 43 = upd (h.1 43) n (nI (z + 1)) → h'.1 42 = upd (h.1 42) n 1 → (∀ c m, c = 44 ∨ c = 45 ∨ c = 46 → h'.1 c m = if 9 * n + i < m ∧ m ≤ 9 * n + z then h.1 c (m - 1) else h.1 c m) → Q none h') : EvM mX7_openSlot [vR 27, vI (nI n), vI (nI i)] h Q := by
  apply sX7_openSlot
  simp (disch := omega) only [nt_le, nt_lt, nt_eq, nt_cl, nt_vp, nI_add, lu_le, lu_lt, lu_eq, ul_le, ul_lt, ul_eq, lu_add, ul_add, lu_sub, lu_mul, ul_mul, nt_sub, nt_m1]
  rw [hzz]
  refine ⟨hn, m_openSlot_7 hn hz hi hzz HQ (z - i) z h (by omega) (Nat.le_refl _) fr.rf (fun c m hc => by rw [if_neg (by omega)])⟩
end MPR
