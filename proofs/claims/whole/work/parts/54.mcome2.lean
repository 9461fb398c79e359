/-! the reference's comes, whole -/
def wyN (S : SR) (p : List (Nat × Nat)) (k c : Nat) : Prop := ∀ j, j < k → (p.getD j (0, 0)).1 < 80 ∧ ¬ nu S (p.getD j (0, 0)).1 = 0 ∧ ¬ nv S (p.getD j (0, 0)).1 = 0 ∧ nz S (p.getD j (0, 0)).1 ≤ 8 ∧ (p.getD j (0, 0)).2 < nz S (p.getD j (0, 0)).1 ∧ (p.getD j (0, 0)).1 ≠ c ∧ ∀ i, i < j → (p.getD i (0, 0)).1 ≠ (p.getD j (0, 0)).1
section MC2
variable {Q : Option AV → Hp → Prop}
theorem m_comes_101 {p : List (Nat × Nat)} : ∀ (k c : Nat) (S : SR) (h : Hp), M_st S h → fgS S → (∀ m, ¬ nu S m = 0 → nz S m ≤ 9) → k < 16 → c < 80 → ¬ nu S c = 0 → wyN S p k c → wyM p k h → cn (nu S) 80 + nq p S k (nz S c) ≤ 80 →
    (∀ h', fr [27, 40, 41, 42, 43, 44, 45, 46] h h' → (∀ q, q ≠ 33 → q ≠ 34 → q ≠ 45 → h'.1 27 q = h.1 27 q) → h'.1 27 34 = (match (suK 80 p k c S).2 with | none => h.1 27 34 | some t => nI t) → M_st (suK 80 p k c S).1 h' → Q none h') → Ev mX7_comes 101 [(0, vR 27), (3, vI (nI c))] [] h Q := by
  intro k
  induction k with
  | zero =>
    intro c S h H F B hk hc hu hw ha hn HQ
    obtain ⟨q1, q2, q3⟩ := H.2.2 c hc hu
    have hb := B c hu
    apply sX7_comes_101
    simp (disch := omega) only [nt_le, nt_lt, nt_eq, nt_cl, nt_vp, nI_add, lu_le, lu_lt, lu_eq, ul_le, ul_lt, ul_eq, lu_add, ul_add, lu_sub, lu_mul, ul_mul, nt_sub, nt_m1]
    rw [q1, q2]
    simp (disch := omega) only [nt_le, nt_lt, nt_eq, nt_cl, nt_vp, nI_add, lu_le, lu_lt, lu_eq, ul_le, ul_lt, ul_eq, lu_add, ul_add, lu_sub, lu_mul, ul_mul, nt_sub, nt_m1]
    refine ⟨hc, fun c1 => ?_, fun c1 => ⟨hc, ?_⟩⟩
    · rw [suK, if_pos c1] at HQ
      exact HQ h fr.rf (fun _ _ _ _ => rfl) rfl H
    · rw [nq, if_neg c1] at hn
      rw [suK, if_neg c1] at HQ
      obtain ⟨w1, w2, w3⟩ := fw_ok (S := S) (N := 80) (by omega)
      have hcw : c ≠ fw 80 S := fun q => hu (by rw [q]; exact w3)
      refine m_newNode H (by split <;> simp) (by omega) (fun h1 f1 g1 H1 => ⟨nI (fw 80 S), rfl, ?_⟩)
      have eb : (if (if nv S c = 0 then (1 : Int32) else 0) = 0 then (1 : Int32) else 0) = nv S c := by
        rcases F c hu with z | z <;> rw [z] <;> decide
      rw [eb] at H1
      refine m_comes_127 (hb := h1) hc w2 hcw (fun h2 f2 sh => ?_) 5 0 h1 rfl fr.rf (fun a m _ => by rw [if_neg (by omega)])
      apply sX7_comes_127
      simp (disch := omega) only [nt_le, nt_lt, nt_eq, nt_cl, nt_vp, nI_add, lu_le, lu_lt, lu_eq, ul_le, ul_lt, ul_eq, lu_add, ul_add, lu_sub, lu_mul, ul_mul, nt_sub, nt_m1]
      refine ⟨fun _ => ⟨w2, fun h3 e3 => ⟨hc, fun h5 e5 => ⟨hc, fun h7 e7 => ?_⟩⟩⟩, fun c => absurd (Nat.le_refl _) c⟩
      have f7 : fr [42, 43] h2 h7 := by rw [e7, e5, e3]; exact ((fr.rf.sI (by decide) _).sI (by decide) _).sI (by decide) _
      have a43 : h7.1 43 = upd (upd (h2.1 43) (fw 80 S) 5) c 4 := by rw [e7, sI_ne _ _ (by decide), e5, sI_at, e3, sI_at]
      have a42 : h7.1 42 = upd (h2.1 42) c 1 := by rw [e7, sI_at, e5, sI_ne _ _ (by decide), e3, sI_ne _ _ (by decide)]
      have H7 := m_dvd H1 B hc w2 hcw hu (by omega) f2 sh f7 a43 a42
      have d7 : h7.1 27 45 = nI 0 := by rw [f7.i 27 (by decide), f2.i 27 (by decide), g1 45 (by decide), ha.1]
      rw [d7]
      refine ⟨fun z => absurd rfl z, fun _ => ?_⟩
      have B7 : ∀ m, ¬ nu (dvd c (fw 80 S) S) m = 0 → nz (dvd c (fw 80 S) S) m ≤ 9 := by
        intro m hm
        have hm2 : ¬ upd (nu S) (fw 80 S) 1 m = 0 := hm
        show va_up (va_up (nz S) (fw 80 S) 5) c 4 m ≤ 9
        by_cases y1 : m = c
        · rw [y1, va_up_self]; omega
        · rw [va_up_ne _ _ y1]
          by_cases y2 : m = fw 80 S
          · rw [y2, va_up_self]; omega
          · rw [va_up_ne _ _ y2]
            rw [upd_ne _ _ y2] at hm2
            exact B m hm2
      have hfd : cn (nu (dvd c (fw 80 S) S)) 80 < 80 := by
        show cn (upd (nu S) (fw 80 S) 1) 80 < 80
        rw [cn_new w2 w3]
        omega
      obtain ⟨t1, t2, t3⟩ := fw_ok hfd
      refine m_newNode H7 (Or.inl rfl) hfd (fun h8 f8 g8 H8 => ⟨nI (fw 80 (dvd c (fw 80 S) S)), rfl, ?_⟩)
      rw [if_pos rfl] at H8
      generalize fw 80 (dvd c (fw 80 S) S) = t at *
      simp (disch := omega) only [nt_le, nt_lt, nt_eq, nt_cl, nt_vp, nI_add, lu_le, lu_lt, lu_eq, ul_le, ul_lt, ul_eq, lu_add, ul_add, lu_sub, lu_mul, ul_mul, nt_sub, nt_m1]
      refine ⟨t2, fun h9 e9 => ⟨by omega, fun h10 e10 => ⟨by omega, fun h11 e11 h12 e12 => ?_⟩⟩⟩
      have f11 : fr [43, 46] h8 h11 := by rw [e11, e10, e9]; exact ((fr.rf.sI (by decide) _).sI (by decide) _).sI (by decide) _
      have H11 := m_rto H8 B7 hc w2 t2 t3 f11 (by rw [e11, sI_ne _ _ (by decide), e10, sI_ne _ _ (by decide), e9, sI_at]) (by rw [e11, sI_at, e10, sI_at, e9, sI_ne _ _ (by decide)])
      have f12 : fr [27] h11 h12 := by rw [e12]; exact fr.rf.sI (by decide) _
      have g11 : ∀ q, q ≠ 33 → h11.1 27 q = h.1 27 q := fun q a => by
        rw [f11.i 27 (by decide), g8 q a, f7.i 27 (by decide), f2.i 27 (by decide), g1 q a]
      refine HQ h12 ?_ (fun q a b d => ?_) ?_ (H11.fr f12 (by rw [e12, sI_at, upd_ne _ _ (by decide)]) (by decide))
      · exact (((((f1.mono (by decide)).tr (f2.mono (by decide))).tr (f7.mono (by decide))).tr (f8.mono (by decide))).tr (f11.mono (by decide))).tr (f12.mono (by decide))
      · rw [e12, sI_at, upd_ne _ _ b]
        exact g11 q a
      · rw [e12, sI_at, upd_at]
  | succ k ih =>
    intro c S h H F B hk hc hu hw ha hn HQ
    obtain ⟨q1, q2, q3⟩ := H.2.2 c hc hu
    have hb := B c hu
    apply sX7_comes_101
    simp (disch := omega) only [nt_le, nt_lt, nt_eq, nt_cl, nt_vp, nI_add, lu_le, lu_lt, lu_eq, ul_le, ul_lt, ul_eq, lu_add, ul_add, lu_sub, lu_mul, ul_mul, nt_sub, nt_m1]
    rw [q1, q2]
    simp (disch := omega) only [nt_le, nt_lt, nt_eq, nt_cl, nt_vp, nI_add, lu_le, lu_lt, lu_eq, ul_le, ul_lt, ul_eq, lu_add, ul_add, lu_sub, lu_mul, ul_mul, nt_sub, nt_m1]
    refine ⟨hc, fun c1 => ?_, fun c1 => ⟨hc, ?_⟩⟩
    · rw [suK, if_pos c1] at HQ
      exact HQ h fr.rf (fun _ _ _ _ => rfl) rfl H
    · rw [nq, if_neg c1] at hn
      rw [suK, if_neg c1] at HQ
      obtain ⟨w1, w2, w3⟩ := fw_ok (S := S) (N := 80) (by omega)
      have hcw : c ≠ fw 80 S := fun q => hu (by rw [q]; exact w3)
      obtain ⟨b1, b2, b7, b3, b4, b5, b6⟩ := hw k (by omega)
      have nw : (p.getD k (0, 0)).1 ≠ fw 80 S := fun q => b2 (by rw [q]; exact w3)
      refine m_newNode H (by split <;> simp) (by omega) (fun h1 f1 g1 H1 => ⟨nI (fw 80 S), rfl, ?_⟩)
      have eb : (if (if nv S c = 0 then (1 : Int32) else 0) = 0 then (1 : Int32) else 0) = nv S c := by
        rcases F c hu with z | z <;> rw [z] <;> decide
      rw [eb] at H1
      refine m_comes_127 (hb := h1) hc w2 hcw (fun h2 f2 sh => ?_) 5 0 h1 rfl fr.rf (fun a m _ => by rw [if_neg (by omega)])
      apply sX7_comes_127
      simp (disch := omega) only [nt_le, nt_lt, nt_eq, nt_cl, nt_vp, nI_add, lu_le, lu_lt, lu_eq, ul_le, ul_lt, ul_eq, lu_add, ul_add, lu_sub, lu_mul, ul_mul, nt_sub, nt_m1]
      refine ⟨fun _ => ⟨w2, fun h3 e3 => ⟨hc, fun h5 e5 => ⟨hc, fun h7 e7 => ?_⟩⟩⟩, fun c => absurd (Nat.le_refl _) c⟩
      have f7 : fr [42, 43] h2 h7 := by rw [e7, e5, e3]; exact ((fr.rf.sI (by decide) _).sI (by decide) _).sI (by decide) _
      have a43 : h7.1 43 = upd (upd (h2.1 43) (fw 80 S) 5) c 4 := by rw [e7, sI_ne _ _ (by decide), e5, sI_at, e3, sI_at]
      have a42 : h7.1 42 = upd (h2.1 42) c 1 := by rw [e7, sI_at, e5, sI_ne _ _ (by decide), e3, sI_ne _ _ (by decide)]
      have H7 := m_dvd H1 B hc w2 hcw hu (by omega) f2 sh f7 a43 a42
      have d7 : h7.1 27 45 = nI (k + 1) := by rw [f7.i 27 (by decide), f2.i 27 (by decide), g1 45 (by decide), ha.1]
      have f17 : fr [27, 40, 41, 42, 43, 44, 45, 46] h h7 := ((f1.mono (by decide)).tr (f2.mono (by decide))).tr (f7.mono (by decide))
      rw [d7]
      simp (disch := omega) only [nt_le, nt_lt, nt_eq, nt_cl, nt_vp, nI_add, lu_le, lu_lt, lu_eq, ul_le, ul_lt, ul_eq, lu_add, ul_add, lu_sub, lu_mul, ul_mul, nt_sub, nt_m1]
      refine ⟨fun _ h9 e9 => ?_, fun z => by omega⟩
      rw [show k + 1 - 1 = k by omega] at e9
      have d9 : h9.1 27 45 = nI k := by rw [e9, sI_at, upd_at]
      have f9 : fr [27] h7 h9 := by rw [e9]; exact fr.rf.sI (by decide) _
      have g9 : ∀ q, q ≠ 33 → q ≠ 45 → h9.1 27 q = h.1 27 q := fun q a b => by rw [e9, sI_at, upd_ne _ _ b, f7.i 27 (by decide), f2.i 27 (by decide), g1 q a]
      have H9 : M_st (dvd c (fw 80 S) S) h9 := H7.fr f9 (by rw [e9, sI_at, upd_ne _ _ (by decide)]) (by decide)
      have p48 : h9.1 48 k = nI (p.getD k (0, 0)).1 := by rw [f9.i 48 (by decide), f17.i 48 (by decide)]; exact (ha.2 k (by omega)).1
      have p49 : h9.1 49 k = nI (p.getD k (0, 0)).2 := by rw [f9.i 49 (by decide), f17.i 49 (by decide)]; exact (ha.2 k (by omega)).2
      rw [d9]
      simp (disch := omega) only [nt_le, nt_lt, nt_eq, nt_cl, nt_vp, nI_add, lu_le, lu_lt, lu_eq, ul_le, ul_lt, ul_eq, lu_add, ul_add, lu_sub, lu_mul, ul_mul, nt_sub, nt_m1]
      rw [p48, p49]
      simp (disch := omega) only [nt_le, nt_lt, nt_eq, nt_cl, nt_vp, nI_add, lu_le, lu_lt, lu_eq, ul_le, ul_lt, ul_eq, lu_add, ul_add, lu_sub, lu_mul, ul_mul, nt_sub, nt_m1]
      have B7 : ∀ m, ¬ nu (dvd c (fw 80 S) S) m = 0 → nz (dvd c (fw 80 S) S) m ≤ 9 := by
        intro m hm
        have hm2 : ¬ upd (nu S) (fw 80 S) 1 m = 0 := hm
        show va_up (va_up (nz S) (fw 80 S) 5) c 4 m ≤ 9
        by_cases y1 : m = c
        · rw [y1, va_up_self]; omega
        · rw [va_up_ne _ _ y1]
          by_cases y2 : m = fw 80 S
          · rw [y2, va_up_self]; omega
          · rw [va_up_ne _ _ y2]
            rw [upd_ne _ _ y2] at hm2
            exact B m hm2
      have hup : ¬ nu (dvd c (fw 80 S) S) (p.getD k (0, 0)).1 = 0 := by
        show ¬ upd (nu S) (fw 80 S) 1 _ = 0
        rw [upd_ne _ _ nw]
        exact b2
      have hzp : nz (dvd c (fw 80 S) S) (p.getD k (0, 0)).1 = nz S (p.getD k (0, 0)).1 := by
        show va_up (va_up (nz S) (fw 80 S) 5) c 4 _ = _
        rw [va_up_ne _ _ b5, va_up_ne _ _ nw]
      have hvp : nv (dvd c (fw 80 S) S) (p.getD k (0, 0)).1 = nv S (p.getD k (0, 0)).1 := upd_ne _ _ nw
      obtain ⟨z1, z2, z3⟩ := H9.2.2 _ b1 hup
      refine ⟨by omega, by omega, ?_⟩
      refine m_openSlot (z := nz (dvd c (fw 80 S) S) (p.getD k (0, 0)).1) b1 (by omega) (by omega) z1 (fun h10 f10 s43 s42 ssh => ⟨rfl, ?_⟩)
      rw [f10.i 27 (by decide), d9]
      simp (disch := omega) only [nt_le, nt_lt, nt_eq, nt_cl, nt_vp, nI_add, lu_le, lu_lt, lu_eq, ul_le, ul_lt, ul_eq, lu_add, ul_add, lu_sub, lu_mul, ul_mul, nt_sub, nt_m1]
      rw [f10.i 49 (by decide), p49]
      simp (disch := omega) only [nt_le, nt_lt, nt_eq, nt_cl, nt_vp, nI_add, lu_le, lu_lt, lu_eq, ul_le, ul_lt, ul_eq, lu_add, ul_add, lu_sub, lu_mul, ul_mul, nt_sub, nt_m1]
      refine ⟨by omega, by omega, fun h11 e11 => ?_⟩
      have f11 : fr [44, 45, 46] h10 h11 := by rw [e11]; exact fr.rf.sI (by decide) _
      have H11 := m_pIn_st (v := (fw 80 S : Int)) (i := (p.getD k (0, 0)).2 + 1) H9 B7 b1 (by omega) (by omega) f10 s43 s42 ssh f11 (fun a m ha2 hm => by
        rcases ha2 with rfl | rfl | rfl
        · rw [e11, sI_ne _ _ (by decide)]
        · rw [e11, sI_ne _ _ (by decide)]
        · rw [e11, sI_at, upd_ne _ _ (by omega)]) ⟨fun z => absurd (hvp.symm.trans z) b7, fun _ => ⟨by rw [e11, sI_at, show 9 * (p.getD k (0, 0)).1 + ((p.getD k (0, 0)).2 + 1) = 9 * (p.getD k (0, 0)).1 + (p.getD k (0, 0)).2 + 1 by omega, upd_at, Int.toNat_natCast], by omega, by omega⟩⟩
      have hzn : nz (pIn (p.getD k (0, 0)).1 ((p.getD k (0, 0)).2 + 1) (fw 80 S) (dvd c (fw 80 S) S)) (p.getD k (0, 0)).1 = nz S (p.getD k (0, 0)).1 + 1 := by
        show va_up _ _ (nz (dvd c (fw 80 S) S) (p.getD k (0, 0)).1 + 1) _ = _
        rw [va_up_self, hzp]
      have f11' : fr [27, 40, 41, 42, 43, 44, 45, 46] h h11 := ((f17.tr (f9.mono (by decide))).tr (f10.mono (by decide))).tr (f11.mono (by decide))
      refine ih (p.getD k (0, 0)).1 _ h11 H11 ?_ ?_ (by omega) b1 hup (fun j hj => ?_) ⟨?_, fun j hj => ?_⟩ ?_ (fun h'' y1 y2 y3 y4 => HQ h'' (f11'.tr y1) (fun q a b d => ?_) ?_ y4)
      · intro n hn9
        show upd (nv S) (fw 80 S) (nv S c) n = 0 ∨ upd (nv S) (fw 80 S) (nv S c) n = 1
        have hn8 : ¬ upd (nu S) (fw 80 S) 1 n = 0 := hn9
        by_cases q : n = fw 80 S
        · rw [q, upd_at]
          exact F c hu
        · rw [upd_ne _ _ q] at hn8 ⊢
          exact F n hn8
      · intro m hm
        by_cases y : m = (p.getD k (0, 0)).1
        · rw [y, hzn]
          omega
        · show va_up _ _ _ m ≤ 9
          rw [va_up_ne _ _ y]
          exact B7 m hm
      · obtain ⟨a1, a2, a7, a3, a4, a5, a6⟩ := hw j (by omega)
        have nk : (p.getD j (0, 0)).1 ≠ (p.getD k (0, 0)).1 := b6 j hj
        have njw : (p.getD j (0, 0)).1 ≠ fw 80 S := fun q => a2 (by rw [q]; exact w3)
        have hz : nz (pIn (p.getD k (0, 0)).1 ((p.getD k (0, 0)).2 + 1) (fw 80 S) (dvd c (fw 80 S) S)) (p.getD j (0, 0)).1 = nz S (p.getD j (0, 0)).1 := by
          show va_up (va_up (va_up (nz S) (fw 80 S) 5) c 4) _ _ _ = _
          rw [va_up_ne _ _ nk, va_up_ne _ _ a5, va_up_ne _ _ njw]
        refine ⟨a1, ?_, ?_, by rw [hz]; exact a3, by rw [hz]; exact a4, nk, a6⟩
        · show ¬ upd (nu S) (fw 80 S) 1 _ = 0
          rw [upd_ne _ _ njw]
          exact a2
        · show ¬ upd (nv S) (fw 80 S) (nv S c) _ = 0
          rw [upd_ne _ _ njw]
          exact a7
      · rw [f11.i 27 (by decide), f10.i 27 (by decide), d9]
      · rw [f11'.i 48 (by decide), f11'.i 49 (by decide)]
        exact ha.2 j (by omega)
      · rw [hzn]
        have e5 : nq p (pIn (p.getD k (0, 0)).1 ((p.getD k (0, 0)).2 + 1) (fw 80 S) (dvd c (fw 80 S) S)) k (nz S (p.getD k (0, 0)).1 + 1) = nq p S k (nz S (p.getD k (0, 0)).1 + 1) := by
          refine nq_cg k _ (fun j hj => ?_)
          obtain ⟨a1, a2, a7, a3, a4, a5, a6⟩ := hw j (by omega)
          have nk : (p.getD j (0, 0)).1 ≠ (p.getD k (0, 0)).1 := b6 j hj
          have njw : (p.getD j (0, 0)).1 ≠ fw 80 S := fun q => a2 (by rw [q]; exact w3)
          show va_up (va_up (va_up (nz S) (fw 80 S) 5) c 4) _ _ _ = _
          rw [va_up_ne _ _ nk, va_up_ne _ _ a5, va_up_ne _ _ njw]
        rw [e5]
        show cn (upd (nu S) (fw 80 S) 1) 80 + _ ≤ 80
        rw [cn_new w2 w3]
        omega
      · rw [y2 q a b d, f11.i 27 (by decide), f10.i 27 (by decide), g9 q a d]
      · rw [y3]
        split
        · rw [f11.i 27 (by decide), f10.i 27 (by decide), g9 34 (by decide) (by decide)]
        · rfl
end MC2
