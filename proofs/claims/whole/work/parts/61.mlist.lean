/-! the reference goes through the tree -/
theorem rws_app (S : SR) : ∀ (j : Nat) (a b : List Nat), rws S j (a ++ b) = rws S j a ++ rws S j b
  | 0, a, b => rfl
  | j + 1, a, b => by
    show rws S j (rwB S (a ++ b)) = _
    unfold rwB
    rw [List.flatMap_append]
    exact rws_app S j _ _
theorem rws_nil (S : SR) : ∀ j, rws S j [] = []
  | 0 => rfl
  | j + 1 => rws_nil S j
theorem rws_one (S : SR) (j n : Nat) : rws S (j + 1) [n] = rws S j (kids S n) := by
  show rws S j (rwB S [n]) = _
  unfold rwB
  simp
section MLS
variable {S : SR} {Q : Option AV → Hp → Prop} {rk : Nat → Nat}
theorem m_go_44 (O : okS S rk) : ∀ (r n d : Nat) (a : List Nat) (h : Hp), M_st S h → rk n = r → ¬ nu S n = 0 → d + r < 16 → a.length + (rws S r [n]).length ≤ 80 → h.1 27 45 = nI d → h.1 48 d = nI n → h.1 49 d = nI 0 → h.1 27 50 = nI a.length → arL (h.1 52) a →
    (∀ h', fr [27, 48, 49, 52] h h' → (∀ q, q ≠ 45 → q ≠ 50 → h'.1 27 q = h.1 27 q) → h'.1 27 45 = nI d - 1 → (∀ j, j < d → h'.1 48 j = h.1 48 j ∧ h'.1 49 j = h.1 49 j) → h'.1 27 50 = nI (a ++ rws S r [n]).length → arL (h'.1 52) (a ++ rws S r [n]) → Ev mX7_goThrough 44 [(0, vR 27)] [] h' Q) → Ev mX7_goThrough 44 [(0, vR 27)] [] h Q := by
  intro r
  induction r with
  | zero =>
    intro n d a h H hr hu hd hl h45 h48 h49 h50 ha K
    obtain ⟨o1, o2, o3, o4, o5⟩ := O n hu
    obtain ⟨q1, q2, q3⟩ := H.2.2 n (by omega) hu
    rw [if_pos ((rk_pos O hu).mpr hr)] at q2
    have hl2 : a.length + 1 ≤ 80 := hl
    apply sX7_goThrough_44
    rw [h45]
    simp (disch := omega) only [nt_le, nt_lt, nt_eq, nt_cl, nt_vp, nI_add, lu_le, lu_lt, lu_eq, ul_le, ul_lt, ul_eq, lu_add, ul_add, lu_sub, lu_mul, ul_mul, nt_sub, nt_m1]
    rw [h48]
    simp (disch := omega) only [nt_le, nt_lt, nt_eq, nt_cl, nt_vp, nI_add, lu_le, lu_lt, lu_eq, ul_le, ul_lt, ul_eq, lu_add, ul_add, lu_sub, lu_mul, ul_mul, nt_sub, nt_m1]
    rw [q2, h50]
    simp (disch := omega) only [nt_le, nt_lt, nt_eq, nt_cl, nt_vp, nI_add, lu_le, lu_lt, lu_eq, ul_le, ul_lt, ul_eq, lu_add, ul_add, lu_sub, lu_mul, ul_mul, nt_sub, nt_m1]
    refine ⟨fun c => by omega, fun _ => ⟨by omega, by omega, fun c => absurd c (by decide), fun _ => ⟨by omega, fun h1 e1 h2 e2 h3 e3 => ?_⟩⟩⟩
    have a45 : h2.1 27 45 = nI d := by rw [e2, sI_at, upd_ne _ _ (by decide), e1, sI_ne _ _ (by decide), h45]
    have a50 : h1.1 27 50 = nI a.length := by rw [e1, sI_ne _ _ (by decide), h50]
    have f3 : fr [27, 48, 49, 52] h h3 := by rw [e3, e2, e1]; exact ((fr.rf.sI (by decide) _).sI (by decide) _).sI (by decide) _
    have f13 : fr [27] h1 h3 := by rw [e3, e2]; exact (fr.rf.sI (by decide) _).sI (by decide) _
    have f01 : fr [52] h h1 := by rw [e1]; exact fr.rf.sI (by decide) _
    refine K h3 f3 (fun q x y => ?_) (by rw [e3, sI_at, upd_at, a45]) (fun j hj => ?_) ?_ ?_
    · rw [e3, sI_at, upd_ne _ _ x, e2, sI_at, upd_ne _ _ y, f01.i 27 (by decide)]
    · rw [f13.i 48 (by decide), f13.i 49 (by decide), f01.i 48 (by decide), f01.i 49 (by decide)]
      exact ⟨rfl, rfl⟩
    · rw [e3, sI_at, upd_ne _ _ (by decide), e2, sI_at, upd_at, a50]
      show nI a.length + 1 = nI (a ++ [n]).length
      rw [List.length_append]
      exact nI_1 _
    · rw [f13.i 52 (by decide), e1, sI_at]
      exact arL_snoc ha
  | succ r ih =>
    intro n d a h H hr hu hd hl h45 h48 h49 h50 ha K
    obtain ⟨o1, o2, o3, o4, o5⟩ := O n hu
    have hv : ¬ nv S n = 0 := fun z => by
      have := (rk_pos O hu).mp z
      omega
    obtain ⟨o6, o7⟩ := o5 hv
    rw [rws_one] at hl K
    -- the kids that are left
    have inner : ∀ (m t : Nat) (b : List Nat) (h1 : Hp), M_st S h1 → t + m = nz S n → b.length + (rws S r ((kids S n).drop t)).length ≤ 80 → h1.1 27 45 = nI d → h1.1 48 d = nI n → h1.1 49 d = nI t → h1.1 27 50 = nI b.length → arL (h1.1 52) b → fr [27, 48, 49, 52] h h1 → (∀ q, q ≠ 45 → q ≠ 50 → h1.1 27 q = h.1 27 q) → (∀ j, j < d → h1.1 48 j = h.1 48 j ∧ h1.1 49 j = h.1 49 j) → b ++ rws S r ((kids S n).drop t) = a ++ rws S r (kids S n) → Ev mX7_goThrough 44 [(0, vR 27)] [] h1 Q := by
      intro m
      induction m with
      | zero =>
        intro t b h1 H1 ht hb g45 g48 g49 g50 gb gf gq gj ge
        obtain ⟨q1, q2, q3⟩ := H1.2.2 n (by omega) hu
        rw [if_neg hv] at q2
        apply sX7_goThrough_44
        rw [g45]
        simp (disch := omega) only [nt_le, nt_lt, nt_eq, nt_cl, nt_vp, nI_add, lu_le, lu_lt, lu_eq, ul_le, ul_lt, ul_eq, lu_add, ul_add, lu_sub, lu_mul, ul_mul, nt_sub, nt_m1]
        rw [g48, g49]
        simp (disch := omega) only [nt_le, nt_lt, nt_eq, nt_cl, nt_vp, nI_add, lu_le, lu_lt, lu_eq, ul_le, ul_lt, ul_eq, lu_add, ul_add, lu_sub, lu_mul, ul_mul, nt_sub, nt_m1]
        rw [q2, q1]
        simp (disch := omega) only [nt_le, nt_lt, nt_eq, nt_cl, nt_vp, nI_add, lu_le, lu_lt, lu_eq, ul_le, ul_lt, ul_eq, lu_add, ul_add, lu_sub, lu_mul, ul_mul, nt_sub, nt_m1]
        refine ⟨fun c => by omega, fun _ => ⟨by omega, by omega, fun _ => ⟨by omega, by omega, fun _ h8 e8 => ?_, fun c => by omega⟩, fun c => absurd trivial c⟩⟩
        have f8 : fr [27] h1 h8 := by rw [e8]; exact fr.rf.sI (by decide) _
        have hdr : (kids S n).drop t = [] := List.drop_eq_nil_of_le (by rw [kids_len]; omega)
        rw [hdr, rws_nil, List.append_nil] at ge
        refine K h8 (gf.tr (f8.mono (by decide))) (fun q x y => ?_) (by rw [e8, sI_at, upd_at]) (fun j hj => ?_) ?_ ?_
        · rw [e8, sI_at, upd_ne _ _ x]
          exact gq q x y
        · rw [f8.i 48 (by decide), f8.i 49 (by decide)]
          exact gj j hj
        · rw [e8, sI_at, upd_ne _ _ (by decide), g50, ge]
        · rw [f8.i 52 (by decide), ← ge]
          exact gb
      | succ m ihm =>
        intro t b h1 H1 ht hb g45 g48 g49 g50 gb gf gq gj ge
        obtain ⟨q1, q2, q3⟩ := H1.2.2 n (by omega) hu
        rw [if_neg hv] at q2
        obtain ⟨k, k1, k2, k3, k4⟩ := o7 t (by omega)
        have kb := (O k k2).1
        have q4 := ((q3 t (by omega)).2 hv).1
        rw [k1, Int.toNat_natCast] at q4
        have ht2 : t < (kids S n).length := by rw [kids_len]; omega
        have e0 := kids_at S (show t < nz S n by omega)
        rw [k1, Int.toNat_natCast, List.getD_eq_getElem?_getD, List.getElem?_eq_getElem ht2] at e0
        have e0 : (kids S n)[t] = k := e0
        have ed : (kids S n).drop t = [k] ++ (kids S n).drop (t + 1) := by
          rw [List.drop_eq_getElem_cons ht2, e0]
          rfl
        rw [ed, rws_app] at hb ge
        rw [List.length_append] at hb
        apply sX7_goThrough_44
        rw [g45]
        simp (disch := omega) only [nt_le, nt_lt, nt_eq, nt_cl, nt_vp, nI_add, lu_le, lu_lt, lu_eq, ul_le, ul_lt, ul_eq, lu_add, ul_add, lu_sub, lu_mul, ul_mul, nt_sub, nt_m1]
        rw [g48, g49]
        simp (disch := omega) only [nt_le, nt_lt, nt_eq, nt_cl, nt_vp, nI_add, lu_le, lu_lt, lu_eq, ul_le, ul_lt, ul_eq, lu_add, ul_add, lu_sub, lu_mul, ul_mul, nt_sub, nt_m1]
        rw [q2, q1, q4]
        simp (disch := omega) only [nt_le, nt_lt, nt_eq, nt_cl, nt_vp, nI_add, lu_le, lu_lt, lu_eq, ul_le, ul_lt, ul_eq, lu_add, ul_add, lu_sub, lu_mul, ul_mul, nt_sub, nt_m1]
        refine ⟨fun c => by omega, fun _ => ⟨by omega, by omega, fun _ => ⟨by omega, by omega, fun c => by omega, fun _ => ⟨by omega, by omega, by omega, by omega, fun h2 e2 h3 e3 => ?_⟩⟩, fun c => absurd trivial c⟩⟩
        have a45 : h3.1 27 45 = nI (d + 1) := by rw [e3, sI_at, upd_at, e2, sI_ne _ _ (by decide), g45]; exact nI_1 _
        rw [a45]
        simp (disch := omega) only [nt_le, nt_lt, nt_eq, nt_cl, nt_vp, nI_add, lu_le, lu_lt, lu_eq, ul_le, ul_lt, ul_eq, lu_add, ul_add, lu_sub, lu_mul, ul_mul, nt_sub, nt_m1]
        refine ⟨by omega, fun h4 e4 => ?_⟩
        have b45 : h4.1 27 45 = nI (d + 1) := by rw [e4, sI_ne _ _ (by decide), a45]
        rw [b45]
        simp (disch := omega) only [nt_le, nt_lt, nt_eq, nt_cl, nt_vp, nI_add, lu_le, lu_lt, lu_eq, ul_le, ul_lt, ul_eq, lu_add, ul_add, lu_sub, lu_mul, ul_mul, nt_sub, nt_m1]
        refine ⟨by omega, fun h5 e5 => ?_⟩
        have f5 : fr [27, 48, 49, 52] h1 h5 := by rw [e5, e4, e3, e2]; exact (((fr.rf.sI (by decide) _).sI (by decide) _).sI (by decide) _).sI (by decide) _
        have c27 : ∀ q, q ≠ 45 → h5.1 27 q = h1.1 27 q := fun q x => by rw [e5, sI_ne _ _ (by decide), e4, sI_ne _ _ (by decide), e3, sI_at, upd_ne _ _ x, e2, sI_ne _ _ (by decide)]
        have c48 : h5.1 48 = upd (h1.1 48) (d + 1) (nI k) := by rw [e5, sI_ne _ _ (by decide), e4, sI_at, e3, sI_ne _ _ (by decide), e2, sI_ne _ _ (by decide)]
        have c49 : h5.1 49 = upd (upd (h1.1 49) d (nI (t + 1))) (d + 1) 0 := by rw [e5, sI_at, e4, sI_ne _ _ (by decide), e3, sI_ne _ _ (by decide), e2, sI_at]
        have c52 : h5.1 52 = h1.1 52 := by rw [e5, sI_ne _ _ (by decide), e4, sI_ne _ _ (by decide), e3, sI_ne _ _ (by decide), e2, sI_ne _ _ (by decide)]
        have H5 : M_st S h5 := H1.fr f5 (c27 33 (by decide)) (by decide)
        refine ih k (d + 1) b h5 H5 (by omega) k2 (by omega) (by omega) (by rw [e5, sI_ne _ _ (by decide), b45]) (by rw [c48, upd_at]) (by rw [c49, upd_at]; rfl) (by rw [c27 50 (by decide), g50]) (by rw [c52]; exact gb) (fun h6 y1 y2 y3 y4 y5 y6 => ?_)
        have H6 : M_st S h6 := H5.fr y1 (y2 33 (by decide) (by decide)) (by decide)
        have z45 : h6.1 27 45 = nI d := by
          rw [y3]
          have := nt_sub (a := d + 1) (b := 1) (by omega)
          exact this
        obtain ⟨z48, z49⟩ := y4 d (by omega)
        refine ihm (t + 1) (b ++ rws S r [k]) h6 H6 (by omega) (by rw [List.length_append]; omega) z45 (by rw [z48, c48, upd_ne _ _ (by omega), g48]) (by rw [z49, c49, upd_ne _ _ (by omega), upd_at]) y5 y6 (gf.tr (f5.tr y1)) (fun q x y => ?_) (fun j hj => ?_) ?_
        · rw [y2 q x y, c27 q x]
          exact gq q x y
        · obtain ⟨u1, u2⟩ := y4 j (by omega)
          rw [u1, u2, c48, c49, upd_ne _ _ (by omega), upd_ne _ _ (by omega), upd_ne _ _ (by omega)]
          exact gj j hj
        · rw [List.append_assoc]
          exact ge
    exact inner (nz S n) 0 a h H (by omega) (by rw [List.drop_zero]; exact hl) h45 h48 h49 h50 ha fr.rf (fun _ _ _ => rfl) (fun _ _ => ⟨rfl, rfl⟩) (by rw [List.drop_zero])
theorem m_goThrough (O : okS S rk) {h : Hp} (H : M_st S h) {n : Nat} (hs : h.1 27 11 = 4 ∨ h.1 27 11 = 5) (hn : h.1 27 34 = nI n) (hu : ¬ nu S n = 0) (hr : rk n < 16) (hb : (rws S (rk n) [n]).length ≤ 80) (K : ∀ h', fr [27, 48, 49, 52] h h' → (∀ q, q ≠ 45 → q ≠ 50 → h'.1 27 q = h.1 27 q) → h'.1 27 50 = nI (rws S (rk n) [n]).length → arL (h'.1 52) (rws S (rk n) [n]) → Q none h') : EvM mX7_goThrough [vR 27] h Q := by
  apply sX7_goThrough
  intro h1 e1
  have s1 : h1.1 27 11 = h.1 27 11 := by rw [e1, sI_at, upd_ne _ _ (by decide)]
  have key : Ev mX7_goThrough 22 [(0, vR 27)] [] h1 Q := by
    apply sX7_goThrough_22
    intro h2 e2 h3 e3 h4 e4
    have f4 : fr [27, 48, 49, 52] h h4 := by rw [e4, e3, e2, e1]; exact (((fr.rf.sI (by decide) _).sI (by decide) _).sI (by decide) _).sI (by decide) _
    have c27 : ∀ q, q ≠ 45 → q ≠ 50 → h4.1 27 q = h.1 27 q := fun q x y => by rw [e4, sI_ne _ _ (by decide), e3, sI_ne _ _ (by decide), e2, sI_at, upd_ne _ _ x, e1, sI_at, upd_ne _ _ y]
    refine m_go_44 O (rk n) n 0 [] h4 (H.fr f4 (c27 33 (by decide) (by decide)) (by decide)) rfl hu (by omega) (by simpa using hb) ?_ ?_ ?_ ?_ (fun i hi => absurd hi (Nat.not_lt_zero _)) (fun h' y1 y2 y3 y4 y5 y6 => ?_)
    · rw [e4, sI_ne _ _ (by decide), e3, sI_ne _ _ (by decide), e2, sI_at, upd_at]
      rfl
    · rw [e4, sI_ne _ _ (by decide), e3, sI_at]
      show upd (h2.1 48) 0 (h2.1 27 34) 0 = nI n
      rw [upd_at, e2, sI_at, upd_ne _ _ (by decide), e1, sI_at, upd_ne _ _ (by decide), hn]
    · rw [e4, sI_at]
      show upd (h3.1 49) 0 0 0 = nI 0
      rw [upd_at]
      rfl
    · rw [e4, sI_ne _ _ (by decide), e3, sI_ne _ _ (by decide), e2, sI_at, upd_ne _ _ (by decide), e1, sI_at, upd_at]
      rfl
    · apply sX7_goThrough_44
      rw [y3]
      refine ⟨fun _ => ?_, fun c => absurd (by decide) c⟩
      rw [List.nil_append] at y5 y6
      exact K h' (f4.tr y1) (fun q x y => by rw [y2 q x y]; exact c27 q x y) y5 y6
  rw [s1]
  refine ⟨fun _ => key, fun c => ⟨fun _ => key, fun c2 => ?_⟩⟩
  rcases hs with z | z
  · exact absurd z c
  · exact absurd z c2
end MLS
