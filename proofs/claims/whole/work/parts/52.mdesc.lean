/-! the reference's descend -/
def mcS (S : SR) (e : Int) (r n : Nat) : Nat → Nat → Nat → Nat
  | 0, _, a => a
  | d + 1, c, a => mcS S e r n d (c + 1) (if e < lst S r (nh S n c).toNat then a else c)
theorem mcS_snoc (S : SR) (e : Int) (r n : Nat) : ∀ d c a, mcS S e r n (d + 1) c a = if e < lst S r (nh S n (c + d)).toNat then mcS S e r n d c a else c + d
  | 0, c, a => rfl
  | d + 1, c, a => by
    show mcS S e r n (d + 1) (c + 1) (if e < lst S r (nh S n c).toNat then a else c) = _
    rw [mcS_snoc S e r n d (c + 1), show c + 1 + d = c + (d + 1) by omega]
    rfl
theorem mcS_chg (S : SR) (e : Int) (r n : Nat) : ∀ d, mcS S e r n d 1 0 = chg S e r n d
  | 0 => rfl
  | d + 1 => by
    rw [mcS_snoc, mcS_chg S e r n d, show 1 + d = d + 1 by omega]
    rfl
def M_way (x : List (Nat × Nat) × Nat) (h : Hp) : Prop := h.1 27 45 = nI x.1.length ∧ (∀ k, k < x.1.length → h.1 48 k = nI (x.1.getD k (0, 0)).1 ∧ h.1 49 k = nI (x.1.getD k (0, 0)).2) ∧ h.1 48 x.1.length = nI x.2
section MDE
variable {S : SR} {h : Hp} {Q : Option AV → Hp → Prop} {rk : Nat → Nat}
theorem m_descend_25 (H : M_st S h) (O : okS S rk) {n : Nat} {k p : Int32} {e : Int} (he : k.toInt * 256 + p.toInt = e ∧ 0 ≤ p.toInt ∧ p.toInt < 256) (hu : ¬ nu S n = 0) (hv : ¬ nv S n = 0) : ∀ d c a, c + d = nz S n → 1 ≤ c →
    (Ev mX7_descend 25 [(0, vR 27), (1, vI k), (2, vI p), (3, vI (nI n)), (4, vI (nI (mcS S e (rk n - 1) n d c a))), (5, vI (nI (nz S n)))] [] h Q) → Ev mX7_descend 25 [(0, vR 27), (1, vI k), (2, vI p), (3, vI (nI n)), (4, vI (nI a)), (5, vI (nI c))] [] h Q := by
  obtain ⟨o1, o2, o3, o4, o5⟩ := O n hu
  obtain ⟨o6, o7⟩ := o5 hv
  obtain ⟨q1, q2, q3⟩ := H.2.2 n (by omega) hu
  intro d
  induction d with
  | zero =>
    intro c a hc h1 K
    have e2 : c = nz S n := by omega
    rw [e2]
    exact K
  | succ d ih =>
    intro c a hc h1 K
    obtain ⟨q, k1, k2, k3, k4⟩ := o7 c (by omega)
    have kb := (O q k2).1
    have q4 := ((q3 c (by omega)).2 hv).1
    rw [k1, Int.toNat_natCast] at q4
    apply sX7_descend_25
    simp (disch := omega) only [nt_le, nt_lt, nt_eq, nt_cl, nt_vp, nI_add, lu_le, lu_lt, lu_eq, ul_le, ul_lt, ul_eq, lu_add, ul_add, lu_sub, lu_mul, ul_mul, nt_sub, nt_m1]
    rw [q1, q4]
    simp (disch := omega) only [nt_le, nt_lt, nt_eq, nt_cl, nt_vp, nI_add, lu_le, lu_lt, lu_eq, ul_le, ul_lt, ul_eq, lu_add, ul_add, lu_sub, lu_mul, ul_mul, nt_sub, nt_m1]
    refine ⟨by omega, fun c => by omega, fun _ => ⟨by omega, ?_⟩⟩
    refine m_firstLeaf H O k2 k4 (fun m m1 m2 m3 m4 => ⟨nI m, rfl, ?_⟩)
    have mb := (O m m1).1
    obtain ⟨r1, r2, r3⟩ := H.2.2 m (by omega) m1
    have r4 := (r3 0 (by omega)).1 m2
    rw [m4, Nat.add_zero] at r4
    simp (disch := omega) only [nt_le, nt_lt, nt_eq, nt_cl, nt_vp, nI_add, lu_le, lu_lt, lu_eq, ul_le, ul_lt, ul_eq, lu_add, ul_add, lu_sub, lu_mul, ul_mul, nt_sub, nt_m1]
    refine ⟨by omega, by omega, ?_⟩
    have en : mcS S e (rk n - 1) n (d + 1) c a = mcS S e (rk n - 1) n d (c + 1) (if e < lst S (rk n - 1) q then a else c) := by
      show mcS S e (rk n - 1) n d (c + 1) (if e < lst S (rk n - 1) (nh S n c).toNat then a else c) = _
      rw [k1]
      rfl
    rw [en] at K
    rw [show rk q = rk n - 1 by omega] at r4
    refine m_isBefore he r4 (fun c1 => ⟨1, rfl, fun z => absurd z (by decide), fun _ => ?_⟩) (fun c1 => ⟨0, rfl, fun _ => ?_, fun z => absurd rfl z⟩)
    · rw [if_pos c1] at K
      exact ih (c + 1) a (by omega) (by omega) K
    · rw [if_neg c1] at K
      exact ih (c + 1) c (by omega) (by omega) K
theorem m_descend_10 (H : M_st S h) (O : okS S rk) {k p : Int32} {e : Int} (he : k.toInt * 256 + p.toInt = e ∧ 0 ≤ p.toInt ∧ p.toInt < 256) : ∀ (r n : Nat) (pl : List (Nat × Nat)) (h' : Hp), rk n = r → ¬ nu S n = 0 → pl.length + r < 16 → fr [27, 48, 49] h h' → (∀ q, q ≠ 45 → h'.1 27 q = h.1 27 q) → h'.1 27 45 = nI pl.length → (∀ j, j < pl.length → h'.1 48 j = nI (pl.getD j (0, 0)).1 ∧ h'.1 49 j = nI (pl.getD j (0, 0)).2) →
    (∀ h'', fr [27, 48, 49] h h'' → (∀ q, q ≠ 45 → h''.1 27 q = h.1 27 q) → M_way (pl ++ (pw S e r n).1, (pw S e r n).2) h'' → Q none h'') → Ev mX7_descend 10 [(0, vR 27), (1, vI k), (2, vI p), (3, vI (nI n))] [] h' Q := by
  intro r
  induction r with
  | zero =>
    intro n pl h' hr hu hl f f27 w0 w1 HQ
    obtain ⟨o1, o2, o3, o4, o5⟩ := O n hu
    have H' : M_st S h' := H.fr f (f27 33 (by decide)) (by decide)
    obtain ⟨q1, q2, q3⟩ := H'.2.2 n (by omega) hu
    have hv : nv S n = 0 := by
      rcases o3 with o3 | o3
      · exact o3
      · obtain ⟨z, o6⟩ := o5 (by rw [o3]; decide)
        obtain ⟨k, -, -, o7, -⟩ := o6 0 (by omega)
        omega
    rw [if_pos hv] at q2
    apply sX7_descend_10
    simp (disch := omega) only [nt_le, nt_lt, nt_eq, nt_cl, nt_vp, nI_add, lu_le, lu_lt, lu_eq, ul_le, ul_lt, ul_eq, lu_add, ul_add, lu_sub, lu_mul, ul_mul, nt_sub, nt_m1]
    rw [q2, w0]
    simp (disch := omega) only [nt_le, nt_lt, nt_eq, nt_cl, nt_vp, nI_add, lu_le, lu_lt, lu_eq, ul_le, ul_lt, ul_eq, lu_add, ul_add, lu_sub, lu_mul, ul_mul, nt_sub, nt_m1]
    refine ⟨by omega, fun _ => ⟨by omega, fun h4 e4 => ?_⟩, fun c => absurd c (by decide)⟩
    have a45 : h4.1 27 45 = nI pl.length := by rw [e4, sI_ne _ _ (by decide), w0]
    rw [a45]
    simp (disch := omega) only [nt_le, nt_lt, nt_eq, nt_cl, nt_vp, nI_add, lu_le, lu_lt, lu_eq, ul_le, ul_lt, ul_eq, lu_add, ul_add, lu_sub, lu_mul, ul_mul, nt_sub, nt_m1]
    refine ⟨by omega, fun h6 e6 => HQ h6 (by rw [e6, e4]; exact (f.sI (by decide) _).sI (by decide) _) (fun q hq => ?_) ⟨?_, fun j hj => ?_, ?_⟩⟩
    · rw [e6, sI_ne _ _ (by decide), e4, sI_ne _ _ (by decide)]
      exact f27 q hq
    · show h6.1 27 45 = nI (pl ++ []).length
      rw [List.append_nil, e6, sI_ne _ _ (by decide), a45]
    · have hj0 : j < (pl ++ []).length := hj
      have hj2 : j < pl.length := by simpa using hj0
      obtain ⟨y1, y2⟩ := w1 j hj2
      show h6.1 48 j = nI ((pl ++ []).getD j (0, 0)).1 ∧ h6.1 49 j = nI ((pl ++ []).getD j (0, 0)).2
      rw [List.append_nil, e6, sI_ne _ _ (by decide), sI_at, e4, sI_at, sI_ne _ _ (by decide), upd_ne _ _ (by omega), upd_ne _ _ (by omega)]
      exact ⟨y1, y2⟩
    · show h6.1 48 (pl ++ []).length = nI n
      rw [List.append_nil, e6, sI_ne _ _ (by decide), e4, sI_at, upd_at]
  | succ r ih =>
    intro n pl h' hr hu hl f f27 w0 w1 HQ
    obtain ⟨o1, o2, o3, o4, o5⟩ := O n hu
    have H' : M_st S h' := H.fr f (f27 33 (by decide)) (by decide)
    obtain ⟨q1, q2, q3⟩ := H'.2.2 n (by omega) hu
    have hv : ¬ nv S n = 0 := fun q => by
      have := o4 q
      omega
    obtain ⟨o6, o7⟩ := o5 hv
    rw [if_neg hv] at q2
    apply sX7_descend_10
    simp (disch := omega) only [nt_le, nt_lt, nt_eq, nt_cl, nt_vp, nI_add, lu_le, lu_lt, lu_eq, ul_le, ul_lt, ul_eq, lu_add, ul_add, lu_sub, lu_mul, ul_mul, nt_sub, nt_m1]
    rw [q2]
    refine ⟨by omega, fun c => absurd rfl c, fun _ => ?_⟩
    refine m_descend_25 H' O he hu hv (nz S n - 1) 1 0 (by omega) (Nat.le_refl _) ?_
    rw [mcS_chg]
    have ht : chg S e (rk n - 1) n (nz S n - 1) = chz S e r n := by rw [hr]; rfl
    rw [ht]
    have htl : chz S e r n < nz S n := by
      have := chg_le S e r n (nz S n - 1)
      unfold chz
      omega
    have HQ2 := HQ
    rw [show pw S e (r + 1) n = ((n, chz S e r n) :: (pw S e r (nh S n (chz S e r n)).toNat).1, (pw S e r (nh S n (chz S e r n)).toNat).2) by rw [pw, if_neg hv]] at HQ2
    generalize chz S e r n = t at htl HQ2 ⊢
    obtain ⟨q, k1, k2, k3, k4⟩ := o7 t htl
    rw [k1] at HQ2
    have kb := (O q k2).1
    have q4 := ((q3 t htl).2 hv).1
    rw [k1, Int.toNat_natCast] at q4
    apply sX7_descend_25
    simp (disch := omega) only [nt_le, nt_lt, nt_eq, nt_cl, nt_vp, nI_add, lu_le, lu_lt, lu_eq, ul_le, ul_lt, ul_eq, lu_add, ul_add, lu_sub, lu_mul, ul_mul, nt_sub, nt_m1]
    rw [q1, w0]
    simp (disch := omega) only [nt_le, nt_lt, nt_eq, nt_cl, nt_vp, nI_add, lu_le, lu_lt, lu_eq, ul_le, ul_lt, ul_eq, lu_add, ul_add, lu_sub, lu_mul, ul_mul, nt_sub, nt_m1]
    refine ⟨by omega, fun _ => ⟨by omega, fun h4 e4 => ?_⟩, fun c => absurd (Nat.le_refl _) c⟩
    have a4 : h4.1 27 45 = nI pl.length := by rw [e4, sI_ne _ _ (by decide), w0]
    rw [a4]
    simp (disch := omega) only [nt_le, nt_lt, nt_eq, nt_cl, nt_vp, nI_add, lu_le, lu_lt, lu_eq, ul_le, ul_lt, ul_eq, lu_add, ul_add, lu_sub, lu_mul, ul_mul, nt_sub, nt_m1]
    refine ⟨by omega, fun h6 e6 => ?_⟩
    have a6 : h6.1 27 45 = nI pl.length := by rw [e6, sI_ne _ _ (by decide), a4]
    rw [a6]
    simp (disch := omega) only [nt_le, nt_lt, nt_eq, nt_cl, nt_vp, nI_add, lu_le, lu_lt, lu_eq, ul_le, ul_lt, ul_eq, lu_add, ul_add, lu_sub, lu_mul, ul_mul, nt_sub, nt_m1]
    intro h7 e7
    have f7 : fr [27, 48, 49] h' h7 := by rw [e7, e6, e4]; exact ((fr.rf.sI (by decide) _).sI (by decide) _).sI (by decide) _
    rw [f7.i 46 (by decide), q4]
    have w48 : h7.1 48 = upd (h'.1 48) pl.length (nI n) := by rw [e7, sI_ne _ _ (by decide), e6, sI_ne _ _ (by decide), e4, sI_at]
    have w49 : h7.1 49 = upd (h'.1 49) pl.length (nI t) := by rw [e7, sI_ne _ _ (by decide), e6, sI_at, e4, sI_ne _ _ (by decide)]
    refine ⟨by omega, ih q (pl ++ [(n, t)]) h7 (by omega) k2 (by rw [List.length_append]; simp; omega) (f.tr f7) (fun z hz => ?_) ?_ (fun j hj => ?_) (fun h'' g1 g2 g3 => HQ2 h'' g1 g2 ?_)⟩
    · rw [e7, sI_at, upd_ne _ _ hz, e6, sI_ne _ _ (by decide), e4, sI_ne _ _ (by decide)]
      exact f27 z hz
    · rw [e7, sI_at, upd_at, List.length_append]
      rfl
    · have hj2 : j < pl.length + 1 := by simpa using hj
      rw [w48, w49]
      by_cases c2 : j = pl.length
      · subst c2
        rw [upd_at, upd_at]
        simp [List.getD]
      · obtain ⟨y1, y2⟩ := w1 j (by omega)
        rw [upd_ne _ _ c2, upd_ne _ _ c2, y1, y2]
        simp [List.getD_eq_getElem?_getD, List.getElem?_append_left (show j < pl.length by omega)]
    · have e9 : (pl ++ [(n, t)]) ++ (pw S e r q).1 = pl ++ (n, t) :: (pw S e r q).1 := by simp
      rw [e9] at g3
      exact g3
theorem m_descend (H : M_st S h) (O : okS S rk) {k p : Int32} {e : Int} (he : k.toInt * 256 + p.toInt = e ∧ 0 ≤ p.toInt ∧ p.toInt < 256) {n : Nat} (hn : h.1 27 34 = nI n) (hu : ¬ nu S n = 0) (hr : rk n < 16)
    (HQ : ∀ h', fr [27, 48, 49] h h' → (∀ q, q ≠ 45 → h'.1 27 q = h.1 27 q) → M_way (pw S e (rk n) n) h' → Q none h') : EvM mX7_descend [vR 27, vI k, vI p] h Q := by
  apply sX7_descend
  intro h1 e1
  have a : h1.1 27 34 = nI n := by rw [e1, sI_at, upd_ne _ _ (by decide), hn]
  rw [a]
  refine m_descend_10 H O he (rk n) n [] h1 rfl hu (by simpa using hr) (by rw [e1]; exact fr.rf.sI (by decide) _) (fun q hq => by rw [e1, sI_at, upd_ne _ _ hq]) ?_ (fun j hj => absurd hj (Nat.not_lt_zero _)) (fun h'' g1 g2 g3 => HQ h'' g1 g2 g3)
  rw [e1, sI_at, upd_at]
  rfl
end MDE
