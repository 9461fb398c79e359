/-! the class's letCome, whole -/
section CM3
variable {S : SR} {Q : Option AV → Hp → Prop} {rk : Nat → Nat}
theorem pw_ok {e : Int} (O : okS S rk) : ∀ (r n : Nat), rk n = r → ¬ nu S n = 0 → (pw S e r n).1.length = r ∧ ¬ nu S (pw S e r n).2 = 0 ∧ nv S (pw S e r n).2 = 0 ∧ rk (pw S e r n).2 = 0 ∧
    ∀ j, j < r → ¬ nu S ((pw S e r n).1.getD j (0, 0)).1 = 0 ∧ ¬ nv S ((pw S e r n).1.getD j (0, 0)).1 = 0 ∧ ((pw S e r n).1.getD j (0, 0)).2 < nz S ((pw S e r n).1.getD j (0, 0)).1 ∧ rk ((pw S e r n).1.getD j (0, 0)).1 + j = r := by
  intro r
  induction r with
  | zero =>
    intro n hr hu
    obtain ⟨o1, o2, o3, o4, o5⟩ := O n hu
    have hv : nv S n = 0 := by
      rcases o3 with o3 | o3
      · exact o3
      · obtain ⟨z, o6⟩ := o5 (by rw [o3]; decide)
        obtain ⟨k, -, -, o7, -⟩ := o6 0 (by omega)
        omega
    exact ⟨rfl, hu, hv, hr, fun j hj => absurd hj (Nat.not_lt_zero _)⟩
  | succ r ih =>
    intro n hr hu
    obtain ⟨o1, o2, o3, o4, o5⟩ := O n hu
    have hv : ¬ nv S n = 0 := fun q => by
      have := o4 q
      omega
    obtain ⟨o6, o7⟩ := o5 hv
    have htl : chz S e r n < nz S n := by
      have := chg_le S e r n (nz S n - 1)
      unfold chz
      omega
    rw [pw, if_neg hv]
    generalize chz S e r n = t at htl ⊢
    obtain ⟨q, k1, k2, k3, k4⟩ := o7 t htl
    rw [k1]
    obtain ⟨i1, i2, i3, i4, i5⟩ := ih q (by omega) k2
    refine ⟨?_, i2, i3, i4, fun j hj => ?_⟩
    · show List.length (_ :: _) = _
      rw [List.length_cons]
      have : (pw S e r q).1.length = r := i1
      show (pw S e r (q : Int).toNat).1.length + 1 = r + 1
      rw [Int.toNat_natCast, this]
    · cases j with
      | zero => exact ⟨hu, hv, htl, by show rk n + 0 = r + 1; omega⟩
      | succ j =>
        obtain ⟨y1, y2, y3, y4⟩ := i5 j (by omega)
        refine ⟨y1, y2, y3, ?_⟩
        show rk ((pw S e r (q : Int).toNat).1.getD j (0, 0)).1 + (j + 1) = r + 1
        rw [Int.toNat_natCast]
        omega
theorem pw_wy {e : Int} (O : okS S rk) {n : Nat} (hu : ¬ nu S n = 0) : wyK S (pw S e (rk n) n).1 (rk n) (pw S e (rk n) n).2 := by
  obtain ⟨i1, i2, i3, i4, i5⟩ := pw_ok (e := e) O (rk n) n rfl hu
  intro j hj
  obtain ⟨y1, y2, y3, y4⟩ := i5 j hj
  obtain ⟨o1, o2, -⟩ := O _ y1
  refine ⟨o1, y1, o2, y3, fun q => ?_, fun i hi q => ?_⟩
  · rw [q] at y4
    omega
  · obtain ⟨z1, z2, z3, z4⟩ := i5 i (by omega)
    rw [q] at z4
    omega
theorem c_newNodes_7 {p : List (Nat × Nat)} {h : Hp} (H : C_st S h) : ∀ (k c m : Nat), k < 64 → c < 64 → ¬ nu S c = 0 → nz S c ≤ 8 → wyK S p k c → wyA p k c h → m + k < 64 → Q (some (vI (nI (m + nq p S k (nz S c + 1))))) h → Ev mX5_newNodesOnWay 7 [(0, vR 16), (1, vI (nI m)), (2, vI (nI k))] [] h Q := by
  intro k
  induction k with
  | zero =>
    intro c m hk hc hu hz hw ha hm HQ
    obtain ⟨q1, q2, q3⟩ := H.2.2 c hc hu
    apply sX5_newNodesOnWay_7
    simp (disch := omega) only [nt_le, nt_lt, nt_eq, nt_cl, nt_vp, nI_add, lu_le, lu_lt, lu_eq, ul_le, ul_lt, ul_eq, lu_add, ul_add, lu_sub, lu_mul, ul_mul, nt_sub, nt_m1]
    rw [ha.2]
    simp (disch := omega) only [nt_le, nt_lt, nt_eq, nt_cl, nt_vp, nI_add, lu_le, lu_lt, lu_eq, ul_le, ul_lt, ul_eq, lu_add, ul_add, lu_sub, lu_mul, ul_mul, nt_sub, nt_m1]
    rw [q1]
    simp (disch := omega) only [nt_le, nt_lt, nt_eq, nt_cl, nt_vp, nI_add, lu_le, lu_lt, lu_eq, ul_le, ul_lt, ul_eq, lu_add, ul_add, lu_sub, lu_mul, ul_mul, nt_sub, nt_m1]
    refine ⟨fun c => by omega, fun _ => ⟨by omega, hc, fun c1 => ?_, fun c1 => ?_⟩⟩
    · apply sX5_newNodesOnWay_7
      refine ⟨fun _ => ?_, fun c2 => absurd (by decide : nI 0 + (-1) < 0) c2⟩
      rw [nq, if_neg (by omega)] at HQ
      simp (disch := omega) only [nt_le, nt_lt, nt_eq, nt_cl, nt_vp, nI_add, lu_le, lu_lt, lu_eq, ul_le, ul_lt, ul_eq, lu_add, ul_add, lu_sub, lu_mul, ul_mul, nt_sub, nt_m1]
      rw [show m + 1 + 1 = m + 2 by omega]
      exact HQ
    · rw [nq, if_pos (by omega)] at HQ
      exact HQ
  | succ k ih =>
    intro c m hk hc hu hz hw ha hm HQ
    obtain ⟨q1, q2, q3⟩ := H.2.2 c hc hu
    obtain ⟨b1, b2, b3, b4, b5, b6⟩ := hw k (by omega)
    apply sX5_newNodesOnWay_7
    simp (disch := omega) only [nt_le, nt_lt, nt_eq, nt_cl, nt_vp, nI_add, lu_le, lu_lt, lu_eq, ul_le, ul_lt, ul_eq, lu_add, ul_add, lu_sub, lu_mul, ul_mul, nt_sub, nt_m1]
    rw [ha.2]
    simp (disch := omega) only [nt_le, nt_lt, nt_eq, nt_cl, nt_vp, nI_add, lu_le, lu_lt, lu_eq, ul_le, ul_lt, ul_eq, lu_add, ul_add, lu_sub, lu_mul, ul_mul, nt_sub, nt_m1]
    rw [q1]
    simp (disch := omega) only [nt_le, nt_lt, nt_eq, nt_cl, nt_vp, nI_add, lu_le, lu_lt, lu_eq, ul_le, ul_lt, ul_eq, lu_add, ul_add, lu_sub, lu_mul, ul_mul, nt_sub, nt_m1]
    refine ⟨fun c => by omega, fun _ => ⟨by omega, hc, fun c1 => ?_, fun c1 => ?_⟩⟩
    · rw [nq, if_neg (by omega)] at HQ
      rw [show k + 1 - 1 = k by omega]
      refine ih (p.getD k (0, 0)).1 (m + 1) (by omega) b1 b2 b3 (fun j hj => ?_) ⟨fun j hj => ha.1 j (by omega), (ha.1 k (by omega)).1⟩ (by omega) ?_
      · obtain ⟨a1, a2, a3, a4, a5, a6⟩ := hw j (by omega)
        exact ⟨a1, a2, a3, a4, b6 j hj, a6⟩
      · rw [show m + 1 + nq p S k (nz S (p.getD k (0, 0)).1 + 1) = m + (1 + nq p S k (nz S (p.getD k (0, 0)).1 + 1)) by omega]
        exact HQ
    · rw [nq, if_pos (by omega)] at HQ
      exact HQ
theorem nq_le (p : List (Nat × Nat)) (S : SR) : ∀ k z, nq p S k z ≤ k + 2
  | 0, z => by
    unfold nq
    split <;> omega
  | k + 1, z => by
    have := nq_le p S k (nz S (p.getD k (0, 0)).1 + 1)
    unfold nq
    split <;> omega
/-- where it comes to, from the right -/
def psn (f : Nat → Int) (e : Int) : Nat → Nat
  | 0 => 0
  | k + 1 => if e < f k then psn f e k else k + 1
theorem psn_le (f : Nat → Int) (e : Int) : ∀ k, psn f e k ≤ k
  | 0 => Nat.le_refl _
  | k + 1 => by
    have := psn_le f e k
    unfold psn
    split <;> omega
theorem c_letCome_39 {h : Hp} (H : C_st S h) {n : Nat} {e : Int64} (hn : n < 64) (hu : ¬ nu S n = 0) (hz : nz S n ≤ 8) : ∀ k, k ≤ nz S n → Ev mX5_letCome 66 [(0, vR 16), (1, vL e), (3, vI (nI n)), (4, vI (nI (psn (nh S n) e.toInt k)))] [] h Q → Ev mX5_letCome 39 [(0, vR 16), (1, vL e), (3, vI (nI n)), (4, vI (nI k))] [] h Q := by
  obtain ⟨q1, q2, q3⟩ := H.2.2 n hn hu
  intro k
  induction k with
  | zero =>
    intro hk K
    apply sX5_letCome_39
    exact ⟨fun _ => K, fun c => absurd (by decide) c⟩
  | succ k ih =>
    intro hk K
    apply sX5_letCome_39
    simp (disch := omega) only [nt_le, nt_lt, nt_eq, nt_cl, nt_vp, nI_add, lu_le, lu_lt, lu_eq, ul_le, ul_lt, ul_eq, lu_add, ul_add, lu_sub, lu_mul, ul_mul, nt_sub, nt_m1]
    rw [show k + 1 - 1 = k by omega, lg_le, q3 k (by omega)]
    refine ⟨fun c => by omega, fun _ => ⟨hn, by omega, fun c => ?_, fun c => ?_⟩⟩
    · rw [psn, if_neg (by omega)] at K
      exact K
    · rw [psn, if_pos (by omega)] at K
      exact ih (by omega) K
theorem c_letCome {h : Hp} (H : C_st S h) (O : okS S rk) {e : Int64} {n : Nat} (hn : h.1 16 7 = nI n) (hu : ¬ nu S n = 0) (hr : rk n < 60)
    (H0 : 64 < cn (nu S) 64 + nq (pw S e.toInt (rk n) n).1 S (rk n) (nz S (pw S e.toInt (rk n) n).2 + 1) → ∀ h', fr [16, 22, 23] h h' → (∀ q, q ≠ 10 → h'.1 16 q = h.1 16 q) → Q (some (vI 0)) h')
    (H1 : cn (nu S) 64 + nq (pw S e.toInt (rk n) n).1 S (rk n) (nz S (pw S e.toInt (rk n) n).2 + 1) ≤ 64 → ∀ h' T, T = suK 64 (pw S e.toInt (rk n) n).1 (rk n) (pw S e.toInt (rk n) n).2 (pIn (pw S e.toInt (rk n) n).2 (psn (nh S (pw S e.toInt (rk n) n).2) e.toInt (nz S (pw S e.toInt (rk n) n).2)) e.toInt S) → fr [16, 17, 18, 19, 20, 21, 22, 23] h h' → h'.1 16 6 = h.1 16 6 + 1 → h'.1 16 7 = (match T.2 with | none => nI n | some t => nI t) → C_st T.1 h' → Q (some (vI 1)) h') : EvM mX5_letCome [vR 16, vL e] h Q := by
  obtain ⟨i1, i2, i3, i4, i5⟩ := pw_ok (e := e.toInt) O (rk n) n rfl hu
  have hwy := pw_wy (e := e.toInt) O hu
  obtain ⟨l1, l2, l3, l4, l5⟩ := O _ i2
  apply sX5_letCome
  refine c_goDown H O hn hu hr (fun h1 f1 g1 w1 => ⟨rfl, ?_⟩)
  have H' : C_st S h1 := H.fr f1 (g1 5 (by decide)) (by decide)
  generalize hp : (pw S e.toInt (rk n) n).1 = p at *
  generalize hl : (pw S e.toInt (rk n) n).2 = l at *
  have wA : wyA p (rk n) l h1 := by
    unfold C_way at w1
    rw [hp, hl, i1] at w1
    exact ⟨w1.2.1, w1.2.2⟩
  have w10 : h1.1 16 10 = nI (rk n) := by
    unfold C_way at w1
    rw [hp, i1] at w1
    exact w1.1
  apply sX5_newNodesOnWay
  rw [w10]
  refine c_newNodes_7 (p := p) H' (rk n) l 0 (by omega) l1 i2 l2 hwy wA (by omega) ⟨_, rfl, ?_⟩
  rw [H'.2.1, Nat.zero_add]
  have hb := nq_le p S (rk n) (nz S l + 1)
  have hb2 := cn_le (nu S) 64
  generalize hNq : nq p S (rk n) (nz S l + 1) = m at *
  obtain ⟨q1, q2, q3⟩ := H'.2.2 l l1 i2
  have hsz := wA.2
  generalize hC : cn (nu S) 64 = C at *
  simp (disch := omega) only [nt_le, nt_lt, nt_eq, nt_cl, nt_vp, nI_add, lu_le, lu_lt, lu_eq, ul_le, ul_lt, ul_eq, lu_add, ul_add, lu_sub, lu_mul, ul_mul, nt_sub, nt_m1]
  rw [w10]
  simp (disch := omega) only [nt_le, nt_lt, nt_eq, nt_cl, nt_vp, nI_add, lu_le, lu_lt, lu_eq, ul_le, ul_lt, ul_eq, lu_add, ul_add, lu_sub, lu_mul, ul_mul, nt_sub, nt_m1]
  rw [hsz]
  simp (disch := omega) only [nt_le, nt_lt, nt_eq, nt_cl, nt_vp, nI_add, lu_le, lu_lt, lu_eq, ul_le, ul_lt, ul_eq, lu_add, ul_add, lu_sub, lu_mul, ul_mul, nt_sub, nt_m1]
  rw [q1]
  refine ⟨fun c => ⟨by omega, l1, ?_⟩, fun c => H0 (by omega) h1 f1 g1⟩
  refine c_letCome_39 H' l1 i2 l2 (nz S l) (Nat.le_refl _) ?_
  have hps := psn_le (nh S l) e.toInt (nz S l)
  generalize hP : psn (nh S l) e.toInt (nz S l) = at' at *
  apply sX5_letCome_66
  refine c_putIn H' l1 i2 hps l2 (fun h2 f2 H2 => ⟨rfl, fun h3 e3 => ?_⟩)
  have f3 : fr [16] h2 h3 := by rw [e3]; exact fr.rf.sI (by decide) _
  have H3 : C_st (pIn l at' e.toInt S) h3 := H2.fr f3 (by rw [e3, sI_at, upd_ne _ _ (by decide)]) (by decide)
  have s10 : h3.1 16 10 = nI (rk n) := by rw [e3, sI_at, upd_ne _ _ (by decide), f2.i 16 (by decide), w10]
  rw [s10]
  have hzl : nz (pIn l at' e.toInt S) l = nz S l + 1 := va_up_self _ _ _
  have hwy2 : wyK (pIn l at' e.toInt S) p (rk n) l := by
    intro j hj
    obtain ⟨a1, a2, a3, a4, a5, a6⟩ := hwy j hj
    have hz : nz (pIn l at' e.toInt S) (p.getD j (0, 0)).1 = nz S (p.getD j (0, 0)).1 := va_up_ne _ _ a5
    exact ⟨a1, a2, by rw [hz]; exact a3, by rw [hz]; exact a4, a5, a6⟩
  have wA2 : wyA p (rk n) l h3 := by
    unfold wyA
    rw [f3.i 22 (by decide), f3.i 23 (by decide), f2.i 22 (by decide), f2.i 23 (by decide)]
    exact wA
  have hnq2 : nq p (pIn l at' e.toInt S) (rk n) (nz S l + 1) = m := by
    rw [← hNq]
    exact nq_cg _ _ (fun j hj => va_up_ne _ _ (hwy j hj).2.2.2.2.1)
  refine c_letCome_90 (p := p) (rk n) l (pIn l at' e.toInt S) h3 H3 (fun z hz => (O z hz).2.2.1) (by omega) l1 i2 (by omega) hwy2 wA2 ?_ (fun h4 f4 g4 r4 H4 => ?_)
  · rw [hzl, hnq2]
    show cn (nu S) 64 + m ≤ 64
    omega
  · refine H1 (by omega) h4 _ rfl ?_ ?_ ?_ H4
    · exact (((f1.mono (by decide)).tr (f2.mono (by decide))).tr (f3.mono (by decide))).tr (f4.mono (by decide))
    · rw [g4 6 (by decide) (by decide), e3, sI_at, upd_at, f2.i 16 (by decide), g1 6 (by decide)]
    · rw [r4, e3, sI_at, upd_ne _ _ (by decide), f2.i 16 (by decide), g1 7 (by decide), hn]
      rfl
end CM3
