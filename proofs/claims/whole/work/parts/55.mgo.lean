/-! the reference's comes and goes, whole -/
section MGO
variable {Q : Option AV → Hp → Prop} {rk : Nat → Nat}
theorem pw_wyN {S : SR} {e : Int} (O : okS S rk) {n : Nat} (hu : ¬ nu S n = 0) : wyN S (pw S e (rk n) n).1 (rk n) (pw S e (rk n) n).2 := by
  obtain ⟨i1, i2, i3, i4, i5⟩ := pw_ok (e := e) O (rk n) n rfl hu
  intro j hj
  obtain ⟨y1, y2, y3, y4⟩ := i5 j hj
  obtain ⟨o1, o2, -⟩ := O _ y1
  refine ⟨by omega, y1, y2, o2, y3, fun q => ?_, fun i hi q => ?_⟩
  · rw [q] at y4
    omega
  · obtain ⟨z1, z2, z3, z4⟩ := i5 i (by omega)
    rw [q] at z4
    omega
theorem m_comes {S : SR} {h : Hp} (H : M_st S h) (O : okS S rk) {k q : Int32} {e : Int} (he : k.toInt * 256 + q.toInt = e ∧ 0 ≤ q.toInt ∧ q.toInt < 256) {n : Nat} (hn : h.1 27 34 = nI n) (hu : ¬ nu S n = 0) (hr : rk n < 16) {p : List (Nat × Nat)} {l i : Nat} (hp : pw S e (rk n) n = (p, l)) (hi : i = psL (nh S l) e (nz S l) 0) (hc : cn (nu S) 80 + nq p S (rk n) (nz S l + 1) ≤ 80)
    (HQ : ∀ h' T, T = suK 80 p (rk n) l (pIn l i e S) → fr [27, 40, 41, 42, 43, 44, 45, 46, 48, 49] h h' → (∀ q, q ≠ 33 → q ≠ 34 → q ≠ 45 → h'.1 27 q = h.1 27 q) → h'.1 27 34 = (match T.2 with | none => nI n | some t => nI t) → M_st T.1 h' → Q none h') : EvM mX7_comes [vR 27, vI k, vI q] h Q := by
  obtain ⟨i1, i2, i3, i4, i5⟩ := pw_ok (e := e) O (rk n) n rfl hu
  have hwy := pw_wyN (e := e) O hu
  obtain ⟨l1, l2, l3, l4, l5⟩ := O _ i2
  apply sX7_comes
  refine m_descend H O he hn hu hr (fun h1 f1 g1 w1 => ⟨rfl, ?_⟩)
  have H' : M_st S h1 := H.fr f1 (g1 33 (by decide)) (by decide)
  have e1 : (pw S e (rk n) n).1 = p := by rw [hp]
  have e2 : (pw S e (rk n) n).2 = l := by rw [hp]
  rw [e1] at i1 hwy
  rw [e2] at i2 i3 hwy l1 l2
  rw [hp] at w1
  have w2 : h1.1 27 45 = nI p.length ∧ (∀ k, k < p.length → h1.1 48 k = nI (p.getD k (0, 0)).1 ∧ h1.1 49 k = nI (p.getD k (0, 0)).2) ∧ h1.1 48 p.length = nI l := w1
  rw [i1] at w2
  obtain ⟨w3, w4, w5⟩ := w2
  obtain ⟨q1, q2, q3⟩ := H'.2.2 l (by omega) i2
  rw [w3]
  simp (disch := omega) only [nt_le, nt_lt, nt_eq, nt_cl, nt_vp, nI_add, lu_le, lu_lt, lu_eq, ul_le, ul_lt, ul_eq, lu_add, ul_add, lu_sub, lu_mul, ul_mul, nt_sub, nt_m1]
  rw [w5]
  refine ⟨by omega, ?_⟩
  refine m_comes_19 H' he (by omega) i2 i3 l2 (nz S l) 0 (by omega) ?_
  rw [← hi]
  have hil : i ≤ nz S l := by
    have := psL_le (nh S l) e (nz S l) 0
    rw [← hi] at this
    omega
  have B : ∀ m, ¬ nu S m = 0 → nz S m ≤ 9 := fun m hm => by
    have := (O m hm).2.1
    omega
  apply sX7_comes_68
  refine m_openSlot (by omega) l2 hil q1 (fun h2 f2 s43 s42 ssh => ⟨rfl, ?_⟩)
  simp (disch := omega) only [nt_le, nt_lt, nt_eq, nt_cl, nt_vp, nI_add, lu_le, lu_lt, lu_eq, ul_le, ul_lt, ul_eq, lu_add, ul_add, lu_sub, lu_mul, ul_mul, nt_sub, nt_m1]
  refine ⟨by omega, fun h3 e3 => ⟨by omega, fun h4 e4 => ?_⟩⟩
  have f4 : fr [44, 45, 46] h2 h4 := by rw [e4, e3]; exact (fr.rf.sI (by decide) _).sI (by decide) _
  have H4 := m_pIn_st (v := e) (i := i) H' B (by omega) hil l2 f2 s43 s42 ssh f4 (fun a m ha hm => by
    rcases ha with rfl | rfl | rfl
    · rw [e4, sI_ne _ _ (by decide), e3, sI_at, upd_ne _ _ hm]
    · rw [e4, sI_at, upd_ne _ _ hm, e3, sI_ne _ _ (by decide)]
    · rw [e4, sI_ne _ _ (by decide), e3, sI_ne _ _ (by decide)]) ⟨fun _ => by
      rw [e4, sI_ne _ _ (by decide), sI_at, upd_at, e3, sI_at, upd_at]
      exact he, fun z => absurd i3 z⟩
  have f14 : fr [42, 43, 44, 45, 46] h1 h4 := f2.tr (f4.mono (by decide))
  have hzl : nz (pIn l i e S) l = nz S l + 1 := va_up_self _ _ _
  refine m_comes_101 (p := p) (rk n) l (pIn l i e S) h4 H4 (fun z hz => (O z hz).2.2.1) (fun m hm => ?_) hr (by omega) i2 (fun j hj => ?_) ⟨?_, fun j hj => ?_⟩ ?_ (fun h5 f5 g5 r5 H5 => HQ h5 _ rfl ?_ (fun z a b c => ?_) ?_ H5)
  · show va_up (nz S) l (nz S l + 1) m ≤ 9
    by_cases y : m = l
    · rw [y, va_up_self]
      omega
    · rw [va_up_ne _ _ y]
      exact B m hm
  · obtain ⟨a1, a2, a7, a3, a4, a5, a6⟩ := hwy j hj
    have hz : nz (pIn l i e S) (p.getD j (0, 0)).1 = nz S (p.getD j (0, 0)).1 := va_up_ne _ _ a5
    exact ⟨a1, a2, a7, by rw [hz]; exact a3, by rw [hz]; exact a4, a5, a6⟩
  · rw [f14.i 27 (by decide), w3]
  · rw [f14.i 48 (by decide), f14.i 49 (by decide)]
    exact w4 j hj
  · rw [hzl]
    have e5 : nq p (pIn l i e S) (rk n) (nz S l + 1) = nq p S (rk n) (nz S l + 1) := nq_cg _ _ (fun j hj => va_up_ne _ _ (hwy j hj).2.2.2.2.2.1)
    rw [e5]
    exact hc
  · exact ((f1.mono (by decide)).tr (f14.mono (by decide))).tr (f5.mono (by decide))
  · rw [g5 z a b c, f14.i 27 (by decide)]
    exact g1 z c
  · rw [r5, f14.i 27 (by decide), g1 34 (by decide), hn]
    rfl
theorem m_goes_19 {S : SR} {h : Hp} (H : M_st S h) {n : Nat} {k q : Int32} {e : Int} (he : k.toInt * 256 + q.toInt = e ∧ 0 ≤ q.toInt ∧ q.toInt < 256) (hn : n < 80) (hu : ¬ nu S n = 0) (hv : nv S n = 0) (hz : nz S n ≤ 8) : ∀ d i, i + d = nz S n → Ev mX7_goes 68 [(0, vR 27), (3, vI (nI n)), (4, vI (nI (fnd (nh S n) e (nz S n) d i)))] [] h Q → Ev mX7_goes 19 [(0, vR 27), (1, vI k), (2, vI q), (3, vI (nI n)), (4, vI (nI i))] [] h Q := by
  obtain ⟨q1, q2, q3⟩ := H.2.2 n hn hu
  intro d
  induction d with
  | zero =>
    intro i hi K
    apply sX7_goes_19
    simp (disch := omega) only [nt_le, nt_lt, nt_eq, nt_cl, nt_vp, nI_add, lu_le, lu_lt, lu_eq, ul_le, ul_lt, ul_eq, lu_add, ul_add, lu_sub, lu_mul, ul_mul, nt_sub, nt_m1]
    rw [q1]
    simp (disch := omega) only [nt_le, nt_lt, nt_eq, nt_cl, nt_vp, nI_add, lu_le, lu_lt, lu_eq, ul_le, ul_lt, ul_eq, lu_add, ul_add, lu_sub, lu_mul, ul_mul, nt_sub, nt_m1]
    exact ⟨hn, fun _ => K, fun c => by omega⟩
  | succ d ih =>
    intro i hi K
    have q4 := (q3 i (by omega)).1 hv
    apply sX7_goes_19
    simp (disch := omega) only [nt_le, nt_lt, nt_eq, nt_cl, nt_vp, nI_add, lu_le, lu_lt, lu_eq, ul_le, ul_lt, ul_eq, lu_add, ul_add, lu_sub, lu_mul, ul_mul, nt_sub, nt_m1]
    rw [q1]
    simp (disch := omega) only [nt_le, nt_lt, nt_eq, nt_cl, nt_vp, nI_add, lu_le, lu_lt, lu_eq, ul_le, ul_lt, ul_eq, lu_add, ul_add, lu_sub, lu_mul, ul_mul, nt_sub, nt_m1]
    rw [← Int32.toInt_inj, ← Int32.toInt_inj]
    refine ⟨hn, fun c => by omega, fun _ => ⟨by omega, fun c => ?_, fun c => ⟨by omega, fun c2 => ?_, fun c2 => ?_⟩⟩⟩
    · rw [fnd, if_neg (by omega)] at K
      exact ih (i + 1) (by omega) K
    · rw [fnd, if_pos (by omega)] at K
      exact K
    · rw [fnd, if_neg (by omega)] at K
      exact ih (i + 1) (by omega) K
theorem m_goes_87 {p : List (Nat × Nat)} : ∀ (k c : Nat) (S : SR) (h : Hp), M_st S h → (∀ m, ¬ nu S m = 0 → nz S m ≤ 8) → k < 16 → c < 80 → ¬ nu S c = 0 → wyN S p k c → wyM p k h →
    (∀ h', fr [27, 40, 42, 43, 44, 45, 46] h h' → (∀ q, q ≠ 33 → q ≠ 45 → h'.1 27 q = h.1 27 q) → M_st (guK p k c S) h' → Ev mX7_goes 145 [(0, vR 27)] [] h' Q) → Ev mX7_goes 87 [(0, vR 27), (3, vI (nI c))] [] h Q := by
  intro k
  induction k with
  | zero =>
    intro c S h H B hk hc hu hw ha HQ
    obtain ⟨q1, q2, q3⟩ := H.2.2 c hc hu
    have K := HQ h fr.rf (fun _ _ _ => rfl) H
    apply sX7_goes_87
    simp (disch := omega) only [nt_le, nt_lt, nt_eq, nt_cl, nt_vp, nI_add, lu_le, lu_lt, lu_eq, ul_le, ul_lt, ul_eq, lu_add, ul_add, lu_sub, lu_mul, ul_mul, nt_sub, nt_m1]
    rw [ha.1]
    exact ⟨hc, fun _ => K, fun _ => ⟨fun _ => K, fun z => absurd (by decide) z⟩⟩
  | succ k ih =>
    intro c S h H B hk hc hu hw ha HQ
    obtain ⟨q1, q2, q3⟩ := H.2.2 c hc hu
    have hb := B c hu
    obtain ⟨b1, b2, b7, b3, b4, b5, b6⟩ := hw k (by omega)
    apply sX7_goes_87
    simp (disch := omega) only [nt_le, nt_lt, nt_eq, nt_cl, nt_vp, nI_add, lu_le, lu_lt, lu_eq, ul_le, ul_lt, ul_eq, lu_add, ul_add, lu_sub, lu_mul, ul_mul, nt_sub, nt_m1]
    rw [q1, ha.1]
    simp (disch := omega) only [nt_le, nt_lt, nt_eq, nt_cl, nt_vp, nI_add, lu_le, lu_lt, lu_eq, ul_le, ul_lt, ul_eq, lu_add, ul_add, lu_sub, lu_mul, ul_mul, nt_sub, nt_m1]
    refine ⟨hc, fun c1 => ?_, fun c1 => ⟨fun z => by omega, fun _ => ?_⟩⟩
    · rw [guK, if_neg c1] at HQ
      exact HQ h fr.rf (fun _ _ _ => rfl) H
    · rw [guK, if_pos c1] at HQ
      refine m_giveBack H hc hu (fun h1 f1 g1 H1 => ⟨rfl, fun h2 e2 => ?_⟩)
      have d2 : h2.1 27 45 = nI k := by
        rw [e2, sI_at, upd_at, g1 45 (by decide), ha.1]
        have := nt_sub (a := k + 1) (b := 1) (by omega)
        exact this
      have f2 : fr [27] h1 h2 := by rw [e2]; exact fr.rf.sI (by decide) _
      have H2 : M_st (nFree c S) h2 := H1.fr f2 (by rw [e2, sI_at, upd_ne _ _ (by decide)]) (by decide)
      have f02 : fr [27, 40, 42] h h2 := f1.tr (f2.mono (by decide))
      rw [d2]
      simp (disch := omega) only [nt_le, nt_lt, nt_eq, nt_cl, nt_vp, nI_add, lu_le, lu_lt, lu_eq, ul_le, ul_lt, ul_eq, lu_add, ul_add, lu_sub, lu_mul, ul_mul, nt_sub, nt_m1]
      rw [f02.i 48 (by decide), f02.i 49 (by decide), (ha.2 k (by omega)).1, (ha.2 k (by omega)).2]
      have hup : ¬ nu (nFree c S) (p.getD k (0, 0)).1 = 0 := by
        show ¬ upd (nu S) c 0 _ = 0
        rw [upd_ne _ _ b5]
        exact b2
      have uB : ∀ m, ¬ nu (nFree c S) m = 0 → ¬ nu S m = 0 := fun m hm => by
        have hm2 : ¬ upd (nu S) c 0 m = 0 := hm
        by_cases y : m = c
        · rw [y, upd_at] at hm2
          exact absurd rfl hm2
        · rwa [upd_ne _ _ y] at hm2
      refine ⟨by omega, by omega, m_closeSlot H2 (fun m hm => ?_) b1 hup b4 (fun h3 f3 H3 => ⟨rfl, ?_⟩)⟩
      · have := B m (uB m hm)
        show nz S m ≤ 9
        omega
      · have f03 : fr [27, 40, 42, 43, 44, 45, 46] h h3 := (f02.mono (by decide)).tr (f3.mono (by decide))
        refine ih (p.getD k (0, 0)).1 _ h3 H3 (fun m hm => ?_) (by omega) b1 hup (fun j hj => ?_) ⟨?_, fun j hj => ?_⟩ (fun h' y1 y2 y3 => HQ h' (f03.tr y1) (fun q a b => ?_) y3)
        · have hm2 := B m (uB m hm)
          show va_up (nz S) _ (nz S _ - 1) m ≤ 8
          by_cases y : m = (p.getD k (0, 0)).1
          · rw [y, va_up_self]
            omega
          · rw [va_up_ne _ _ y]
            exact hm2
        · obtain ⟨a1, a2, a7, a3, a4, a5, a6⟩ := hw j (by omega)
          have nk : (p.getD j (0, 0)).1 ≠ (p.getD k (0, 0)).1 := b6 j hj
          have hz : nz (tOut (p.getD k (0, 0)).1 (p.getD k (0, 0)).2 (nFree c S)) (p.getD j (0, 0)).1 = nz S (p.getD j (0, 0)).1 := va_up_ne _ _ nk
          refine ⟨a1, ?_, a7, by rw [hz]; exact a3, by rw [hz]; exact a4, nk, a6⟩
          show ¬ upd (nu S) c 0 _ = 0
          rw [upd_ne _ _ a5]
          exact a2
        · rw [f3.i 27 (by decide), d2]
        · rw [f03.i 48 (by decide), f03.i 49 (by decide)]
          exact ha.2 j (by omega)
        · rw [y2 q a b, f3.i 27 (by decide), e2, sI_at, upd_ne _ _ b]
          exact g1 q a
theorem m_goes_145 : ∀ (r n : Nat) (S : SR) (h : Hp), chC S rk r n → h.1 27 34 = nI n → M_st S h → (∀ m, ¬ nu S m = 0 → nz S m ≤ 9) →
    (∀ h', fr [27, 40, 42] h h' → (∀ q, q ≠ 33 → q ≠ 34 → h'.1 27 q = h.1 27 q) → h'.1 27 34 = nI (cps r n S).2 → M_st (cps r n S).1 h' → Q none h') → Ev mX7_goes 145 [(0, vR 27)] [] h Q := by
  intro r
  induction r with
  | zero =>
    intro n S h hc hn H B HQ
    obtain ⟨a, b, c, d, e⟩ := hc
    obtain ⟨q1, q2, q3⟩ := H.2.2 n (by omega) b
    rw [if_pos e] at q2
    apply sX7_goes_145
    rw [hn]
    simp (disch := omega) only [nt_le, nt_lt, nt_eq, nt_cl, nt_vp, nI_add, lu_le, lu_lt, lu_eq, ul_le, ul_lt, ul_eq, lu_add, ul_add, lu_sub, lu_mul, ul_mul, nt_sub, nt_m1]
    rw [q2]
    exact ⟨by omega, fun _ => HQ h fr.rf (fun _ _ _ => rfl) hn H, fun c => absurd c (by decide)⟩
  | succ r ih =>
    intro n S h hc hn H B HQ
    obtain ⟨a, b, c, d, k, e, f, g⟩ := hc
    obtain ⟨q1, q2, q3⟩ := H.2.2 n (by omega) b
    rw [if_neg g] at q2
    apply sX7_goes_145
    rw [hn]
    simp (disch := omega) only [nt_le, nt_lt, nt_eq, nt_cl, nt_vp, nI_add, lu_le, lu_lt, lu_eq, ul_le, ul_lt, ul_eq, lu_add, ul_add, lu_sub, lu_mul, ul_mul, nt_sub, nt_m1]
    rw [q2, q1]
    simp (disch := omega) only [nt_le, nt_lt, nt_eq, nt_cl, nt_vp, nI_add, lu_le, lu_lt, lu_eq, ul_le, ul_lt, ul_eq, lu_add, ul_add, lu_sub, lu_mul, ul_mul, nt_sub, nt_m1]
    refine ⟨by omega, fun z => absurd trivial z, fun _ => ⟨by omega, fun c1 => ?_, fun c1 => ⟨by omega, ?_⟩⟩⟩
    · rw [cps, if_neg g, if_neg c1] at HQ
      exact HQ h fr.rf (fun _ _ _ => rfl) hn H
    · rw [cps, if_neg g, if_pos c1, e, Int.toNat_natCast] at HQ
      have q4 := ((q3 0 (by omega)).2 g).1
      rw [e, Int.toNat_natCast, Nat.add_zero] at q4
      rw [q4]
      refine m_giveBack H (by omega) b (fun h1 f1 g1 H1 => ⟨rfl, fun h2 e2 => ?_⟩)
      have f2 : fr [27] h1 h2 := by rw [e2]; exact fr.rf.sI (by decide) _
      have H2 : M_st (nFree n S) h2 := H1.fr f2 (by rw [e2, sI_at, upd_ne _ _ (by decide)]) (by decide)
      refine ih k (nFree n S) h2 (f.free (by omega)) (by rw [e2, sI_at, upd_at]) H2 (fun m hm => B m ?_) (fun h' y1 y2 y3 y4 => HQ h' ((f1.tr (f2.mono (by decide))).tr y1) (fun q a b => ?_) y3 y4)
      · have hm2 : ¬ upd (nu S) n 0 m = 0 := hm
        by_cases y : m = n
        · rw [y, upd_at] at hm2
          exact absurd rfl hm2
        · rwa [upd_ne _ _ y] at hm2
      · rw [y2 q a b, e2, sI_at, upd_ne _ _ b, g1 q a]
theorem guK_B {p : List (Nat × Nat)} : ∀ (k c : Nat) (S : SR), (∀ m, ¬ nu S m = 0 → nz S m ≤ 8) → ∀ m, ¬ nu (guK p k c S) m = 0 → nz (guK p k c S) m ≤ 8
  | 0, c, S, B => B
  | k + 1, c, S, B => by
    unfold guK
    split
    · refine guK_B k _ _ (fun m hm => ?_)
      have hm2 : ¬ upd (nu S) c 0 m = 0 := hm
      have hm3 : ¬ nu S m = 0 := by
        by_cases y : m = c
        · rw [y, upd_at] at hm2
          exact absurd rfl hm2
        · rwa [upd_ne _ _ y] at hm2
      have := B m hm3
      show va_up (nz S) _ (nz S _ - 1) m ≤ 8
      by_cases y : m = (p.getD k (0, 0)).1
      · rw [y] at this ⊢
        rw [va_up_self]
        omega
      · rw [va_up_ne _ _ y]
        exact this
    · exact B
theorem m_goes {S : SR} {h : Hp} (H : M_st S h) (O : okS S rk) {k q : Int32} {e : Int} (he : k.toInt * 256 + q.toInt = e ∧ 0 ≤ q.toInt ∧ q.toInt < 256) {n : Nat} (hn : h.1 27 34 = nI n) (hu : ¬ nu S n = 0) (hr : rk n < 16) {p : List (Nat × Nat)} {l f : Nat} (hp : pw S e (rk n) n = (p, l)) (hf : f = fnd (nh S l) e (nz S l) (nz S l) 0)
    (H0 : ¬ f < nz S l → ∀ h', fr [27, 48, 49] h h' → (∀ q, q ≠ 45 → h'.1 27 q = h.1 27 q) → Q none h')
    (hch : f < nz S l → chC (guK p (rk n) l (tOut l f S)) rk (rk n) n)
    (H1 : f < nz S l → ∀ h' T, T = cps (rk n) n (guK p (rk n) l (tOut l f S)) → fr [27, 40, 42, 43, 44, 45, 46, 48, 49] h h' → (∀ q, q ≠ 33 → q ≠ 34 → q ≠ 45 → h'.1 27 q = h.1 27 q) → h'.1 27 34 = nI T.2 → M_st T.1 h' → Q none h') : EvM mX7_goes [vR 27, vI k, vI q] h Q := by
  obtain ⟨i1, i2, i3, i4, i5⟩ := pw_ok (e := e) O (rk n) n rfl hu
  have hwy := pw_wyN (e := e) O hu
  obtain ⟨l1, l2, l3, l4, l5⟩ := O _ i2
  apply sX7_goes
  refine m_descend H O he hn hu hr (fun h1 f1 g1 w1 => ⟨rfl, ?_⟩)
  have H' : M_st S h1 := H.fr f1 (g1 33 (by decide)) (by decide)
  have e1 : (pw S e (rk n) n).1 = p := by rw [hp]
  have e2 : (pw S e (rk n) n).2 = l := by rw [hp]
  rw [e1] at i1 hwy
  rw [e2] at i2 i3 hwy l1 l2
  rw [hp] at w1
  have w2 : h1.1 27 45 = nI p.length ∧ (∀ k, k < p.length → h1.1 48 k = nI (p.getD k (0, 0)).1 ∧ h1.1 49 k = nI (p.getD k (0, 0)).2) ∧ h1.1 48 p.length = nI l := w1
  rw [i1] at w2
  obtain ⟨w3, w4, w5⟩ := w2
  obtain ⟨q1, q2, q3⟩ := H'.2.2 l (by omega) i2
  rw [w3]
  simp (disch := omega) only [nt_le, nt_lt, nt_eq, nt_cl, nt_vp, nI_add, lu_le, lu_lt, lu_eq, ul_le, ul_lt, ul_eq, lu_add, ul_add, lu_sub, lu_mul, ul_mul, nt_sub, nt_m1]
  rw [w5]
  refine ⟨by omega, ?_⟩
  refine m_goes_19 H' he (by omega) i2 i3 l2 (nz S l) 0 (by omega) ?_
  rw [← hf]
  have hfl : f ≤ nz S l := by
    have := fnd_le (nh S l) e (nz S l) (nz S l) 0
    rw [← hf] at this
    omega
  have B : ∀ m, ¬ nu S m = 0 → nz S m ≤ 9 := fun m hm => by
    have := (O m hm).2.1
    omega
  apply sX7_goes_68
  simp (disch := omega) only [nt_le, nt_lt, nt_eq, nt_cl, nt_vp, nI_add, lu_le, lu_lt, lu_eq, ul_le, ul_lt, ul_eq, lu_add, ul_add, lu_sub, lu_mul, ul_mul, nt_sub, nt_m1]
  rw [q1]
  simp (disch := omega) only [nt_le, nt_lt, nt_eq, nt_cl, nt_vp, nI_add, lu_le, lu_lt, lu_eq, ul_le, ul_lt, ul_eq, lu_add, ul_add, lu_sub, lu_mul, ul_mul, nt_sub, nt_m1]
  refine ⟨by omega, fun c => ?_, fun c => H0 (by omega) h1 f1 g1⟩
  have c : f < nz S l := by omega
  refine m_closeSlot H' B (by omega) i2 c (fun h2 f2 H2 => ⟨rfl, ?_⟩)
  have B2 : ∀ m, ¬ nu (tOut l f S) m = 0 → nz (tOut l f S) m ≤ 8 := fun m hm => by
    have := (O m hm).2.1
    show va_up (nz S) l (nz S l - 1) m ≤ 8
    by_cases y : m = l
    · rw [y, va_up_self]
      omega
    · rw [va_up_ne _ _ y]
      exact this
  refine m_goes_87 (p := p) (rk n) l (tOut l f S) h2 H2 B2 hr (by omega) i2 (fun j hj => ?_) ⟨?_, fun j hj => ?_⟩ (fun h4 f4 g4 H4 => ?_)
  · obtain ⟨a1, a2, a7, a3, a4, a5, a6⟩ := hwy j hj
    have hz : nz (tOut l f S) (p.getD j (0, 0)).1 = nz S (p.getD j (0, 0)).1 := va_up_ne _ _ a5
    exact ⟨a1, a2, a7, by rw [hz]; exact a3, by rw [hz]; exact a4, a5, a6⟩
  · rw [f2.i 27 (by decide), w3]
  · rw [f2.i 48 (by decide), f2.i 49 (by decide)]
    exact w4 j hj
  · have r4 : h4.1 27 34 = nI n := by rw [g4 34 (by decide) (by decide), f2.i 27 (by decide), g1 34 (by decide), hn]
    refine m_goes_145 (rk n) n _ h4 (hch c) r4 H4 (fun m hm => by have := guK_B (p := p) (rk n) l _ B2 m hm; omega) (fun h5 f5 g5 r5 H5 => H1 c h5 _ rfl ?_ (fun z a b d => ?_) r5 H5)
    · exact (((f1.mono (by decide)).tr (f2.mono (by decide))).tr (f4.mono (by decide))).tr (f5.mono (by decide))
    · rw [g5 z a b, g4 z a d, f2.i 27 (by decide), g1 z d]
end MGO
