/-! the reference's comes -/
/-- where it comes to, from the left -/
def psL (f : Nat → Int) (e : Int) : Nat → Nat → Nat
  | 0, i => i
  | d + 1, i => if f i < e then psL f e d (i + 1) else i
theorem psL_le (f : Nat → Int) (e : Int) : ∀ d i, i ≤ psL f e d i ∧ psL f e d i ≤ i + d
  | 0, i => ⟨Nat.le_refl _, Nat.le_refl _⟩
  | d + 1, i => by
    have := psL_le f e d (i + 1)
    unfold psL
    split <;> omega
def wyM (p : List (Nat × Nat)) (k : Nat) (h : Hp) : Prop := h.1 27 45 = nI k ∧ ∀ j, j < k → h.1 48 j = nI (p.getD j (0, 0)).1 ∧ h.1 49 j = nI (p.getD j (0, 0)).2
section MCO
variable {Q : Option AV → Hp → Prop}
theorem m_comes_19 {S : SR} {h : Hp} (H : M_st S h) {n : Nat} {k p : Int32} {e : Int} (he : k.toInt * 256 + p.toInt = e ∧ 0 ≤ p.toInt ∧ p.toInt < 256) (hn : n < 80) (hu : ¬ nu S n = 0) (hv : nv S n = 0) (hz : nz S n ≤ 8) : ∀ d i, i + d = nz S n → Ev mX7_comes 68 [(0, vR 27), (1, vI k), (2, vI p), (3, vI (nI n)), (4, vI (nI (psL (nh S n) e d i)))] [] h Q → Ev mX7_comes 19 [(0, vR 27), (1, vI k), (2, vI p), (3, vI (nI n)), (4, vI (nI i))] [] h Q := by
  obtain ⟨q1, q2, q3⟩ := H.2.2 n hn hu
  intro d
  induction d with
  | zero =>
    intro i hi K
    apply sX7_comes_19
    simp (disch := omega) only [nt_le, nt_lt, nt_eq, nt_cl, nt_vp, nI_add, lu_le, lu_lt, lu_eq, ul_le, ul_lt, ul_eq, lu_add, ul_add, lu_sub, lu_mul, ul_mul, nt_sub, nt_m1]
    rw [q1]
    simp (disch := omega) only [nt_le, nt_lt, nt_eq, nt_cl, nt_vp, nI_add, lu_le, lu_lt, lu_eq, ul_le, ul_lt, ul_eq, lu_add, ul_add, lu_sub, lu_mul, ul_mul, nt_sub, nt_m1]
    exact ⟨hn, fun _ => K, fun c => by omega⟩
  | succ d ih =>
    intro i hi K
    have q4 := (q3 i (by omega)).1 hv
    apply sX7_comes_19
    simp (disch := omega) only [nt_le, nt_lt, nt_eq, nt_cl, nt_vp, nI_add, lu_le, lu_lt, lu_eq, ul_le, ul_lt, ul_eq, lu_add, ul_add, lu_sub, lu_mul, ul_mul, nt_sub, nt_m1]
    rw [q1]
    simp (disch := omega) only [nt_le, nt_lt, nt_eq, nt_cl, nt_vp, nI_add, lu_le, lu_lt, lu_eq, ul_le, ul_lt, ul_eq, lu_add, ul_add, lu_sub, lu_mul, ul_mul, nt_sub, nt_m1]
    refine ⟨hn, fun c => by omega, fun _ => ⟨by omega, by omega, ?_⟩⟩
    refine m_isBefore q4 he (fun c1 => ⟨1, rfl, fun z => absurd z (by decide), fun _ => ?_⟩) (fun c1 => ⟨0, rfl, fun _ => ?_, fun z => absurd rfl z⟩)
    · rw [psL, if_pos c1] at K
      exact ih (i + 1) (by omega) K
    · rw [psL, if_neg c1] at K
      exact K
/-- the copying of five -/
theorem m_comes_127 {c w : Nat} {hb : Hp} (hc : c < 80) (hw : w < 80) (hcw : c ≠ w)
    (K : ∀ h2, fr [44, 45, 46] hb h2 → (∀ a m, a = 44 ∨ a = 45 ∨ a = 46 → h2.1 a m = if 9 * w ≤ m ∧ m < 9 * w + 5 then hb.1 a (9 * c + 4 + (m - 9 * w)) else hb.1 a m) → Ev mX7_comes 127 [(0, vR 27), (3, vI (nI c)), (5, vI (nI w)), (6, vI (nI 9))] [] h2 Q) :
    ∀ (d i : Nat) (h' : Hp), i + d = 5 → fr [44, 45, 46] hb h' → (∀ a m, a = 44 ∨ a = 45 ∨ a = 46 → h'.1 a m = if 9 * w ≤ m ∧ m < 9 * w + i then hb.1 a (9 * c + 4 + (m - 9 * w)) else hb.1 a m) → Ev mX7_comes 127 [(0, vR 27), (3, vI (nI c)), (5, vI (nI w)), (6, vI (nI (4 + i)))] [] h' Q
  | 0, i, h', hi, f, hr => by
    have e : i = 5 := by omega
    subst e
    exact K h' f hr
  | d + 1, i, h', hi, f, hr => by
    apply sX7_comes_127
    simp (disch := omega) only [nt_le, nt_lt, nt_eq, nt_cl, nt_vp, nI_add, lu_le, lu_lt, lu_eq, ul_le, ul_lt, ul_eq, lu_add, ul_add, lu_sub, lu_mul, ul_mul, nt_sub, nt_m1]
    refine ⟨fun c => by omega, fun _ => ?_⟩
    refine m_copySlot (by omega) (by omega) (fun h2 f2 g2 => ⟨rfl, ?_⟩)
    rw [show 4 + i + 1 = 4 + (i + 1) by omega]
    refine m_comes_127 hc hw hcw K d (i + 1) h2 (by omega) (f.tr f2) (fun a m ha => ?_)
    rw [g2 a ha]
    by_cases q : m = 9 * w + (4 + i) - 4
    · rw [q, upd_at, hr a _ ha, if_neg (by omega), if_pos (by omega), show 9 * c + 4 + (9 * w + (4 + i) - 4 - 9 * w) = 9 * c + (4 + i) by omega]
    · rw [upd_ne _ _ q, hr a m ha]
      by_cases q2 : 9 * w ≤ m ∧ m < 9 * w + i
      · rw [if_pos q2, if_pos (by omega)]
      · rw [if_neg q2, if_neg (by omega)]
/-- what the copying and the new counts make of the store -/
theorem m_dvd {S : SR} {hb h2 h7 : Hp} {c w : Nat} (H : M_st (nNew w (nv S c) S) hb) (B : ∀ m, ¬ nu S m = 0 → nz S m ≤ 9) (hc : c < 80) (hw : w < 80) (hcw : c ≠ w) (hu : ¬ nu S c = 0) (hz : nz S c = 9) (f2 : fr [44, 45, 46] hb h2) (sh : ∀ a m, a = 44 ∨ a = 45 ∨ a = 46 → h2.1 a m = if 9 * w ≤ m ∧ m < 9 * w + 5 then hb.1 a (9 * c + 4 + (m - 9 * w)) else hb.1 a m) (f7 : fr [42, 43] h2 h7) (a43 : h7.1 43 = upd (upd (h2.1 43) w 5) c 4) (a42 : h7.1 42 = upd (h2.1 42) c 1) : M_st (dvd c w S) h7 := by
  refine ⟨fun m hm => ?_, ?_, fun m hm hu2 => ?_⟩
  · rw [f7.i 40 (by decide), f2.i 40 (by decide), a42, f2.i 42 (by decide)]
    obtain ⟨q1, q2⟩ := H.1 m hm
    refine ⟨q1, fun hu3 => ?_⟩
    show upd _ _ _ _ = upd (upd (nd S) w 1) c 1 m
    unfold upd
    split
    · rfl
    · exact q2 hu3
  · rw [f7.i 27 (by decide), f2.i 27 (by decide)]
    exact H.2.1
  · obtain ⟨q1, q2, q3⟩ := H.2.2 m hm hu2
    have q1 : hb.1 43 m = nI (va_up (nz S) w 0 m) := q1
    have q2 : hb.1 41 m = if upd (nv S) w (nv S c) m = 0 then 1 else 0 := q2
    have hu3 : ¬ upd (nu S) w 1 m = 0 := hu2
    rw [a43, f7.i 41 (by decide), f2.i 41 (by decide), f2.i 43 (by decide), f7.i 44 (by decide), f7.i 45 (by decide), f7.i 46 (by decide)]
    have hcz : ∀ i, i < 9 → slt (nv S c) (nh S c i) (hb.1 44 (9 * c + i)) (hb.1 45 (9 * c + i)) (hb.1 46 (9 * c + i)) := by
      intro i hi
      have hcu : ¬ nu (nNew w (nv S c) S) c = 0 := by
        show ¬ upd (nu S) w 1 c = 0
        rw [upd_ne _ _ hcw]
        exact hu
      obtain ⟨-, -, y3⟩ := H.2.2 c hc hcu
      have y4 := y3 i (by show i < va_up (nz S) w 0 c; rw [va_up_ne _ _ hcw, hz]; exact hi)
      have y5 : slt (upd (nv S) w (nv S c) c) (nh S c i) (hb.1 44 (9 * c + i)) (hb.1 45 (9 * c + i)) (hb.1 46 (9 * c + i)) := y4
      rw [upd_ne _ _ hcw] at y5
      exact y5
    by_cases q : m = c
    · subst q
      refine ⟨?_, q2, fun j hj => ?_⟩
      · show upd _ _ _ _ = nI (va_up (va_up (nz S) w 5) m 4 m)
        rw [upd_at, va_up_self]
        rfl
      · have hj2 : j < va_up (va_up (nz S) w 5) m 4 m := hj
        rw [va_up_self] at hj2
        show slt (upd (nv S) w (nv S m) m) (va_up (nh S) w _ m j) _ _ _
        rw [upd_ne _ _ hcw, va_up_ne _ _ hcw, sh 44 _ (by decide), sh 45 _ (by decide), sh 46 _ (by decide), if_neg (by omega), if_neg (by omega), if_neg (by omega)]
        exact hcz j (by omega)
    · by_cases qw : m = w
      · subst qw
        refine ⟨?_, q2, fun j hj => ?_⟩
        · show upd _ _ _ _ = nI (va_up (va_up (nz S) m 5) c 4 m)
          rw [upd_ne _ _ q, upd_at, va_up_ne _ _ q, va_up_self]
          rfl
        · have hj2 : j < va_up (va_up (nz S) m 5) c 4 m := hj
          rw [va_up_ne _ _ q, va_up_self] at hj2
          show slt (upd (nv S) m (nv S c) m) (va_up (nh S) m (fun k => nh S c (4 + k)) m j) _ _ _
          rw [upd_at, va_up_self, sh 44 _ (by decide), sh 45 _ (by decide), sh 46 _ (by decide), if_pos (by omega), if_pos (by omega), if_pos (by omega), show 9 * c + 4 + (9 * m + j - 9 * m) = 9 * c + (4 + j) by omega]
          exact hcz (4 + j) (by omega)
      · refine ⟨?_, q2, fun j hj => ?_⟩
        · show upd _ _ _ _ = nI (va_up (va_up (nz S) w 5) c 4 m)
          rw [upd_ne _ _ q, upd_ne _ _ qw, va_up_ne _ _ q, va_up_ne _ _ qw, q1, va_up_ne _ _ qw]
        · have hj2 : j < va_up (va_up (nz S) w 5) c 4 m := hj
          rw [va_up_ne _ _ q, va_up_ne _ _ qw] at hj2
          rw [upd_ne _ _ qw] at hu3
          have hbm := B m hu3
          have y3 : slt (upd (nv S) w (nv S c) m) (nh S m j) (hb.1 44 (9 * m + j)) (hb.1 45 (9 * m + j)) (hb.1 46 (9 * m + j)) := q3 j (by show j < va_up (nz S) w 0 m; rw [va_up_ne _ _ qw]; exact hj2)
          show slt (upd (nv S) w (nv S c) m) (va_up (nh S) w _ m j) _ _ _
          rw [va_up_ne _ _ qw, sh 44 _ (by decide), sh 45 _ (by decide), sh 46 _ (by decide), if_neg (by omega), if_neg (by omega), if_neg (by omega)]
          exact y3
/-- a new root over two -/
theorem m_rto {S : SR} {h h9 : Hp} {a b t : Nat} (H : M_st (nNew t 1 S) h) (B : ∀ m, ¬ nu S m = 0 → nz S m ≤ 9) (ha : a < 80) (hb : b < 80) (ht : t < 80) (h0 : nu S t = 0) (f : fr [43, 46] h h9) (a43 : h9.1 43 = upd (h.1 43) t 2) (a46 : h9.1 46 = upd (upd (h.1 46) (9 * t) (nI a)) (9 * t + 1) (nI b)) : M_st (rto a b t S) h9 := by
  refine ⟨fun m hm => ?_, ?_, fun m hm hu => ?_⟩
  · rw [f.i 40 (by decide), f.i 42 (by decide)]
    obtain ⟨q1, q2⟩ := H.1 m hm
    refine ⟨q1, fun hu => ?_⟩
    show _ = upd (upd (upd (nd S) t 1) t 1) t 1 m
    rw [upd_upd, upd_upd]
    exact q2 hu
  · rw [f.i 27 (by decide)]
    exact H.2.1
  · obtain ⟨q1, q2, q3⟩ := H.2.2 m hm hu
    have hu3 : ¬ upd (nu S) t 1 m = 0 := hu
    have q1 : h.1 43 m = nI (va_up (nz S) t 0 m) := q1
    rw [a43, f.i 41 (by decide), f.i 44 (by decide), f.i 45 (by decide), a46]
    by_cases q : m = t
    · subst q
      refine ⟨?_, q2, fun j hj => ?_⟩
      · show upd _ _ _ _ = nI (va_up (va_up (va_up (nz S) m 0) m (va_up (nz S) m 0 m + 1)) m (va_up (va_up (nz S) m 0) m (va_up (nz S) m 0 m + 1) m + 1) m)
        rw [upd_at, va_up_self, va_up_self, va_up_self]
        rfl
      · have hj2 : j < va_up (va_up (va_up (nz S) m 0) m (va_up (nz S) m 0 m + 1)) m (va_up (va_up (nz S) m 0) m (va_up (nz S) m 0 m + 1) m + 1) m := hj
        rw [va_up_self, va_up_self, va_up_self] at hj2
        show slt (upd (nv S) m 1 m) (va_up (va_up (nh S) m (insf (nh S m) 0 a)) m (insf (va_up (nh S) m (insf (nh S m) 0 a) m) 1 b) m j) _ _ _
        rw [upd_at, va_up_self, va_up_self]
        refine ⟨fun z => absurd z (by decide), fun _ => ?_⟩
        have hj3 : j = 0 ∨ j = 1 := by omega
        rcases hj3 with rfl | rfl
        · rw [upd_ne _ _ (show 9 * m + 0 ≠ 9 * m + 1 by omega), show 9 * m + 0 = 9 * m from rfl, upd_at]
          have e : insf (insf (nh S m) 0 ↑a) 1 ↑b 0 = (a : Int) := by
            unfold insf
            rw [if_pos (by omega), if_neg (by omega), if_pos rfl]
          rw [e]
          exact ⟨by rw [Int.toNat_natCast], by omega, by omega⟩
        · rw [upd_at]
          have e : insf (insf (nh S m) 0 ↑a) 1 ↑b 1 = (b : Int) := by
            show (if 1 < 1 then _ else if 1 = 1 then _ else _) = _
            rw [if_neg (by omega), if_pos rfl]
          rw [e]
          exact ⟨by rw [Int.toNat_natCast], by omega, by omega⟩
    · refine ⟨?_, q2, fun j hj => ?_⟩
      · show upd _ _ _ _ = nI (va_up (va_up (va_up (nz S) t 0) t _) t _ m)
        rw [upd_ne _ _ q, va_up_ne _ _ q, va_up_ne _ _ q]
        exact q1
      · have hj2 : j < va_up (va_up (va_up (nz S) t 0) t (va_up (nz S) t 0 t + 1)) t (va_up (va_up (nz S) t 0) t (va_up (nz S) t 0 t + 1) t + 1) m := hj
        rw [va_up_ne _ _ q, va_up_ne _ _ q, va_up_ne _ _ q] at hj2
        rw [upd_ne _ _ q] at hu3
        have hbm := B m hu3
        have y3 : slt (upd (nv S) t 1 m) (nh S m j) (h.1 44 (9 * m + j)) (h.1 45 (9 * m + j)) (h.1 46 (9 * m + j)) := q3 j (by show j < va_up (nz S) t 0 m; rw [va_up_ne _ _ q]; exact hj2)
        show slt (upd (nv S) t 1 m) (va_up (va_up (nh S) t _) t _ m j) _ _ _
        rw [va_up_ne _ _ q, va_up_ne _ _ q, upd_ne _ _ (show 9 * m + j ≠ 9 * t + 1 by omega), upd_ne _ _ (show 9 * m + j ≠ 9 * t by omega)]
        exact y3
end MCO
