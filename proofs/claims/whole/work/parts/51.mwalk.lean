/-! the reference: slots open and close; ways down -/
theorem m_pIn_st {S : SR} {h h' h'' : Hp} (H : M_st S h) (B : ∀ m, ¬ nu S m = 0 → nz S m ≤ 9) {n i : Nat} {v : Int} (hn : n < 80) (hi : i ≤ nz S n) (hz : nz S n ≤ 8) (f : fr [42, 43, 44, 45, 46] h h') (a43 : h'.1 43 = upd (h.1 43) n (nI (nz S n + 1))) (a42 : h'.1 42 = upd (h.1 42) n 1) (sh : ∀ c m, c = 44 ∨ c = 45 ∨ c = 46 → h'.1 c m = if 9 * n + i < m ∧ m ≤ 9 * n + nz S n then h.1 c (m - 1) else h.1 c m)
    (f2 : fr [44, 45, 46] h' h'') (hs : ∀ c m, c = 44 ∨ c = 45 ∨ c = 46 → m ≠ 9 * n + i → h''.1 c m = h'.1 c m) (hv : slt (nv S n) v (h''.1 44 (9 * n + i)) (h''.1 45 (9 * n + i)) (h''.1 46 (9 * n + i))) : M_st (pIn n i v S) h'' := by
  refine ⟨fun m hm => ?_, ?_, fun m hm hu => ?_⟩
  · rw [f2.i 40 (by decide), f.i 40 (by decide), f2.i 42 (by decide), a42]
    obtain ⟨q1, q2⟩ := H.1 m hm
    refine ⟨q1, fun hu => ?_⟩
    show upd _ _ _ _ = upd _ _ _ _
    unfold upd
    split
    · rfl
    · exact q2 hu
  · rw [f2.i 27 (by decide), f.i 27 (by decide)]
    exact H.2.1
  · obtain ⟨q1, q2, q3⟩ := H.2.2 m hm hu
    have hb := B m hu
    rw [f2.i 43 (by decide), a43, f2.i 41 (by decide), f.i 41 (by decide)]
    by_cases q : m = n
    · subst q
      refine ⟨?_, q2, fun j hj => ?_⟩
      · show upd _ _ _ _ = nI (va_up (nz S) m (nz S m + 1) m)
        rw [upd_at, va_up_self]
      · have hj2 : j < nz S m + 1 := by
          have : j < va_up (nz S) m (nz S m + 1) m := hj
          rwa [va_up_self] at this
        show slt (nv S m) (va_up (nh S) m (insf (nh S m) i v) m j) _ _ _
        rw [va_up_self]
        unfold insf
        by_cases c1 : j < i
        · rw [if_pos c1, hs 44 _ (by decide) (by omega), hs 45 _ (by decide) (by omega), hs 46 _ (by decide) (by omega), sh 44 _ (by decide), sh 45 _ (by decide), sh 46 _ (by decide), if_neg (by omega), if_neg (by omega), if_neg (by omega)]
          exact q3 j (by omega)
        · rw [if_neg c1]
          by_cases c2 : j = i
          · rw [if_pos c2, c2]
            exact hv
          · rw [if_neg c2, hs 44 _ (by decide) (by omega), hs 45 _ (by decide) (by omega), hs 46 _ (by decide) (by omega), sh 44 _ (by decide), sh 45 _ (by decide), sh 46 _ (by decide), if_pos (by omega), if_pos (by omega), if_pos (by omega), show 9 * m + j - 1 = 9 * m + (j - 1) by omega]
            exact q3 (j - 1) (by omega)
    · refine ⟨?_, q2, fun j hj => ?_⟩
      · show upd _ _ _ _ = nI (va_up (nz S) n (nz S n + 1) m)
        rw [upd_ne _ _ q, va_up_ne _ _ q]
        exact q1
      · have hj2 : j < nz S m := by
          have : j < va_up (nz S) n (nz S n + 1) m := hj
          rwa [va_up_ne _ _ q] at this
        show slt (nv S m) (va_up (nh S) n _ m j) _ _ _
        rw [va_up_ne _ _ q, hs 44 _ (by decide) (by omega), hs 45 _ (by decide) (by omega), hs 46 _ (by decide) (by omega), sh 44 _ (by decide), sh 45 _ (by decide), sh 46 _ (by decide), if_neg (by omega), if_neg (by omega), if_neg (by omega)]
        exact q3 j hj2
section MWK
variable {S : SR} {h : Hp} {Q : Option AV → Hp → Prop} {rk : Nat → Nat}
theorem m_closeSlot_12 {n i z : Nat} {hb : Hp} (hn : n < 80) (hz : z ≤ 8) (hi : i ≤ z) (hzz : hb.1 43 n = nI z) (HQ : ∀ h', fr [42, 44, 45, 46] hb h' → h'.1 42 = upd (hb.1 42) n 1 → (∀ c m, c = 44 ∨ c = 45 ∨ c = 46 → h'.1 c m = if 9 * n + i ≤ m ∧ m < 9 * n + z then hb.1 c (m + 1) else hb.1 c m) → Q none h') :
    ∀ (d k : Nat) (h' : Hp), k + d = z → i ≤ k → fr [44, 45, 46] hb h' → (∀ c m, c = 44 ∨ c = 45 ∨ c = 46 → h'.1 c m = if 9 * n + i ≤ m ∧ m < 9 * n + k then hb.1 c (m + 1) else hb.1 c m) → Ev mX7_closeSlot 12 [(0, vR 27), (1, vI (nI n)), (3, vI (nI k))] [] h' Q
  | 0, k, h', hk, hik, f, hr => by
    have e : k = z := by omega
    subst e
    apply sX7_closeSlot_12
    rw [f.i 43 (by decide)]
    simp (disch := omega) only [nt_le, nt_lt, nt_eq, nt_cl, nt_vp, nI_add, lu_le, lu_lt, lu_eq, ul_le, ul_lt, ul_eq, lu_add, ul_add, lu_sub, lu_mul, ul_mul, nt_sub, nt_m1]
    rw [hzz]
    simp (disch := omega) only [nt_le, nt_lt, nt_eq, nt_cl, nt_vp, nI_add, lu_le, lu_lt, lu_eq, ul_le, ul_lt, ul_eq, lu_add, ul_add, lu_sub, lu_mul, ul_mul, nt_sub, nt_m1]
    refine ⟨hn, fun _ => ⟨hn, fun h6 e6 => ?_⟩, fun c => absurd (Nat.le_refl _) c⟩
    have f6 : fr [42] h' h6 := by rw [e6]; exact fr.rf.sI (by decide) _
    refine HQ h6 ((f.mono (by decide)).tr (f6.mono (by decide))) (by rw [e6, sI_at, f.i 42 (by decide)]) (fun c m hc => ?_)
    rw [f6.i c (by rcases hc with rfl | rfl | rfl <;> decide)]
    exact hr c m hc
  | d + 1, k, h', hk, hik, f, hr => by
    apply sX7_closeSlot_12
    rw [f.i 43 (by decide)]
    simp (disch := omega) only [nt_le, nt_lt, nt_eq, nt_cl, nt_vp, nI_add, lu_le, lu_lt, lu_eq, ul_le, ul_lt, ul_eq, lu_add, ul_add, lu_sub, lu_mul, ul_mul, nt_sub, nt_m1]
    rw [hzz]
    simp (disch := omega) only [nt_le, nt_lt, nt_eq, nt_cl, nt_vp, nI_add, lu_le, lu_lt, lu_eq, ul_le, ul_lt, ul_eq, lu_add, ul_add, lu_sub, lu_mul, ul_mul, nt_sub, nt_m1]
    refine ⟨hn, fun c => by omega, fun _ => ?_⟩
    refine m_copySlot (by omega) (by omega) (fun h2 f2 g2 => ⟨rfl, ?_⟩)
    refine m_closeSlot_12 hn hz hi hzz HQ d (k + 1) h2 (by omega) (by omega) (f.tr f2) (fun c m hc => ?_)
    rw [g2 c hc]
    by_cases q : m = 9 * n + k
    · subst q
      rw [upd_at, hr c _ hc, if_neg (by omega), if_pos (by omega)]
    · rw [upd_ne _ _ q, hr c m hc]
      by_cases q2 : 9 * n + i ≤ m ∧ m < 9 * n + k
      · rw [if_pos q2, if_pos (by omega)]
      · rw [if_neg q2, if_neg (by omega)]
theorem m_closeSlot (H : M_st S h) (B : ∀ m, ¬ nu S m = 0 → nz S m ≤ 9) {n i : Nat} (hn : n < 80) (hu : ¬ nu S n = 0) (hi : i < nz S n) (HQ : ∀ h', fr [42, 43, 44, 45, 46] h h' → M_st (tOut n i S) h' → Q none h') : EvM mX7_closeSlot [vR 27, vI (nI n), vI (nI i)] h Q := by
  obtain ⟨z1, z2, z3⟩ := H.2.2 n hn hu
  have hbn := B n hu
  apply sX7_closeSlot
  simp (disch := omega) only [nt_le, nt_lt, nt_eq, nt_cl, nt_vp, nI_add, lu_le, lu_lt, lu_eq, ul_le, ul_lt, ul_eq, lu_add, ul_add, lu_sub, lu_mul, ul_mul, nt_sub, nt_m1]
  rw [z1]
  simp (disch := omega) only [nt_le, nt_lt, nt_eq, nt_cl, nt_vp, nI_add, lu_le, lu_lt, lu_eq, ul_le, ul_lt, ul_eq, lu_add, ul_add, lu_sub, lu_mul, ul_mul, nt_sub, nt_m1]
  refine ⟨hn, hn, fun h3 e3 => ?_⟩
  have a43 : h3.1 43 = upd (h.1 43) n (nI (nz S n - 1)) := by rw [e3, sI_at]
  have f3 : fr [43] h h3 := by rw [e3]; exact fr.rf.sI (by decide) _
  refine m_closeSlot_12 (i := i) (z := nz S n - 1) (hb := h3) hn (by omega) (by omega) (by rw [a43, upd_at]) (fun h' f4 a42 sh => ?_) (nz S n - 1 - i) i h3 (by omega) (Nat.le_refl _) fr.rf (fun c m hc => by rw [if_neg (by omega)])
  have f9 : fr [42, 43, 44, 45, 46] h h' := (f3.mono (by decide)).tr (f4.mono (by decide))
  refine HQ h' f9 ⟨fun m hm => ?_, ?_, fun m hm hu2 => ?_⟩
  · rw [f9.i 40 (by decide), a42, f3.i 42 (by decide)]
    obtain ⟨q1, q2⟩ := H.1 m hm
    refine ⟨q1, fun hu => ?_⟩
    show upd _ _ _ _ = upd _ _ _ _
    unfold upd
    split
    · rfl
    · exact q2 hu
  · rw [f9.i 27 (by decide)]
    exact H.2.1
  · obtain ⟨q1, q2, q3⟩ := H.2.2 m hm hu2
    have hbm := B m hu2
    have s4 : ∀ c m, c = 44 ∨ c = 45 ∨ c = 46 → h'.1 c m = if 9 * n + i ≤ m ∧ m < 9 * n + (nz S n - 1) then h.1 c (m + 1) else h.1 c m := fun c m hc => by
      rw [sh c m hc, f3.i c (by rcases hc with rfl | rfl | rfl <;> decide)]
    rw [f4.i 43 (by decide), a43, f9.i 41 (by decide)]
    by_cases q : m = n
    · subst q
      refine ⟨?_, q2, fun j hj => ?_⟩
      · show upd _ _ _ _ = nI (va_up (nz S) m (nz S m - 1) m)
        rw [upd_at, va_up_self]
      · have hj2 : j < nz S m - 1 := by
          have : j < va_up (nz S) m (nz S m - 1) m := hj
          rwa [va_up_self] at this
        show slt (nv S m) (va_up (nh S) m (delf (nh S m) i) m j) _ _ _
        rw [va_up_self]
        unfold delf
        by_cases c1 : j < i
        · rw [if_pos c1, s4 44 _ (by decide), s4 45 _ (by decide), s4 46 _ (by decide), if_neg (by omega), if_neg (by omega), if_neg (by omega)]
          exact q3 j (by omega)
        · rw [if_neg c1, s4 44 _ (by decide), s4 45 _ (by decide), s4 46 _ (by decide), if_pos (by omega), if_pos (by omega), if_pos (by omega)]
          exact q3 (j + 1) (by omega)
    · refine ⟨?_, q2, fun j hj => ?_⟩
      · show upd _ _ _ _ = nI (va_up (nz S) n (nz S n - 1) m)
        rw [upd_ne _ _ q, va_up_ne _ _ q]
        exact q1
      · have hj2 : j < nz S m := by
          have : j < va_up (nz S) n (nz S n - 1) m := hj
          rwa [va_up_ne _ _ q] at this
        show slt (nv S m) (va_up (nh S) n _ m j) _ _ _
        rw [va_up_ne _ _ q, s4 44 _ (by decide), s4 45 _ (by decide), s4 46 _ (by decide), if_neg (by omega), if_neg (by omega), if_neg (by omega)]
        exact q3 j hj2
theorem m_isBefore {k1 p1 k2 p2 : Int32} {a b : Int} (h1 : k1.toInt * 256 + p1.toInt = a ∧ 0 ≤ p1.toInt ∧ p1.toInt < 256) (h2 : k2.toInt * 256 + p2.toInt = b ∧ 0 ≤ p2.toInt ∧ p2.toInt < 256) (H1 : a < b → Q (some (vI 1)) h) (H0 : ¬ a < b → Q (some (vI 0)) h) : EvM mX7_isBefore [vI k1, vI p1, vI k2, vI p2] h Q := by
  apply sX7_isBefore
  rw [Int32.lt_iff_toInt_lt, Int32.le_iff_toInt_le, ← Int32.toInt_inj]
  refine ⟨fun c => H1 (by omega), fun c => ⟨fun c2 => H0 (by omega), fun c2 => ⟨fun c3 => H0 (by omega), fun c3 => H1 (by omega)⟩⟩⟩
theorem m_firstLeaf_2 (H : M_st S h) (O : okS S rk) : ∀ (r n : Nat), rk n = r → ¬ nu S n = 0 → 1 ≤ nz S n → (∀ m, ¬ nu S m = 0 → nv S m = 0 → 1 ≤ nz S m → nh S m 0 = lst S r n → Q (some (vI (nI m))) h) → Ev mX7_firstLeaf 2 [(0, vR 27), (2, vI (nI n))] [] h Q := by
  intro r
  induction r with
  | zero =>
    intro n hr hu hz HQ
    obtain ⟨o1, o2, o3, o4, o5⟩ := O n hu
    obtain ⟨q1, q2, q3⟩ := H.2.2 n (by omega) hu
    have hv : nv S n = 0 := by
      rcases o3 with o3 | o3
      · exact o3
      · obtain ⟨z, o6⟩ := o5 (by rw [o3]; decide)
        obtain ⟨k, -, -, o7, -⟩ := o6 0 (by omega)
        omega
    rw [if_pos hv] at q2
    apply sX7_firstLeaf_2
    simp (disch := omega) only [nt_le, nt_lt, nt_eq, nt_cl, nt_vp, nI_add, lu_le, lu_lt, lu_eq, ul_le, ul_lt, ul_eq, lu_add, ul_add, lu_sub, lu_mul, ul_mul, nt_sub, nt_m1]
    rw [q2]
    exact ⟨by omega, fun _ => HQ n hu hv hz rfl, fun c => absurd c (by decide)⟩
  | succ r ih =>
    intro n hr hu hz HQ
    obtain ⟨o1, o2, o3, o4, o5⟩ := O n hu
    obtain ⟨q1, q2, q3⟩ := H.2.2 n (by omega) hu
    have hv : ¬ nv S n = 0 := fun q => by
      have := o4 q
      omega
    obtain ⟨o6, o7⟩ := o5 hv
    obtain ⟨k, k1, k2, k3, k4⟩ := o7 0 (by omega)
    have kb := (O k k2).1
    rw [if_neg hv] at q2
    have q4 := ((q3 0 (by omega)).2 hv).1
    rw [k1, Int.toNat_natCast, Nat.add_zero] at q4
    apply sX7_firstLeaf_2
    simp (disch := omega) only [nt_le, nt_lt, nt_eq, nt_cl, nt_vp, nI_add, lu_le, lu_lt, lu_eq, ul_le, ul_lt, ul_eq, lu_add, ul_add, lu_sub, lu_mul, ul_mul, nt_sub, nt_m1]
    rw [q2, q4]
    refine ⟨by omega, fun c => absurd rfl c, fun _ => ⟨by omega, ?_⟩⟩
    refine ih k (by omega) k2 k4 (fun m a b c d => HQ m a b c ?_)
    rw [d]
    show _ = if _ then _ else _
    rw [if_neg hv, k1]
    rfl
theorem m_firstLeaf (H : M_st S h) (O : okS S rk) {n : Nat} (hu : ¬ nu S n = 0) (hz : 1 ≤ nz S n) (HQ : ∀ m, ¬ nu S m = 0 → nv S m = 0 → 1 ≤ nz S m → nh S m 0 = lst S (rk n) n → Q (some (vI (nI m))) h) : EvM mX7_firstLeaf [vR 27, vI (nI n)] h Q := by
  apply sX7_firstLeaf
  exact m_firstLeaf_2 H O (rk n) n rfl hu hz HQ
end MWK
