/-! an entry comes: nodes are divided -/
theorem upd_upd (f : Nat → Int32) (k : Nat) (v w : Int32) : upd (upd f k v) k w = upd f k w := by
  funext j
  unfold upd
  split <;> rfl
theorem upd_same (f : Nat → Int32) (k : Nat) : upd f k (f k) = f := by
  funext j
  unfold upd
  split
  · next q => rw [q]
  · rfl
def eqS (S T : SR) : Prop := nz S = nz T ∧ nv S = nv T ∧ nu S = nu T ∧ nd S = nd T ∧ ∀ n i, i < nz S n → nh S n i = nh T n i
theorem C_st.cg {S T : SR} {h : Hp} (H : C_st S h) (e : eqS S T) : C_st T h := by
  obtain ⟨e1, e2, e3, e4, e5⟩ := e
  unfold C_st
  rw [← e1, ← e2, ← e3, ← e4]
  refine ⟨H.1, H.2.1, fun n hn hu => ?_⟩
  obtain ⟨q1, q2, q3⟩ := H.2.2 n hn hu
  exact ⟨q1, q2, fun i hi => by rw [← e5 n i hi]; exact q3 i hi⟩
def fw (N : Nat) (S : SR) : Nat := (ff (nu S) N 0).getD 0
theorem fw_ok {N : Nat} {S : SR} (h : cn (nu S) N < N) : ff (nu S) N 0 = some (fw N S) ∧ fw N S < N ∧ nu S (fw N S) = 0 := by
  obtain ⟨n, h1, h2, h3⟩ := ff_some h
  unfold fw
  rw [h1]
  exact ⟨rfl, h2, h3⟩
/-- w takes what c has behind its first four; i of them so far -/
def mvS (S : SR) (c w i : Nat) : SR := (va_up (nz S) w i, upd (nv S) w (nv S c), va_up (nh S) w (fun k => nh S c (4 + k)), upd (nu S) w 1, upd (nd S) w 1)
def dvd (c w : Nat) (S : SR) : SR := (va_up (va_up (nz S) w 5) c 4, upd (nv S) w (nv S c), va_up (nh S) w (fun k => nh S c (4 + k)), upd (nu S) w 1, upd (upd (nd S) w 1) c 1)
def rto (a b t : Nat) (S : SR) : SR := pIn t 1 b (pIn t 0 a (nNew t 1 S))
def suK (N : Nat) (p : List (Nat × Nat)) : Nat → Nat → SR → SR × Option Nat
  | 0, c, S => if nz S c ≤ 8 then (S, none) else (rto c (fw N S) (fw N (dvd c (fw N S) S)) (dvd c (fw N S) S), some (fw N (dvd c (fw N S) S)))
  | k + 1, c, S => if nz S c ≤ 8 then (S, none) else suK N p k (p.getD k (0, 0)).1 (pIn (p.getD k (0, 0)).1 ((p.getD k (0, 0)).2 + 1) (fw N S) (dvd c (fw N S) S))
/-- how many new nodes it takes; z: how many the lowest one has -/
def nq (p : List (Nat × Nat)) (S : SR) : Nat → Nat → Nat
  | 0, z => if z ≤ 8 then 0 else 2
  | k + 1, z => if z ≤ 8 then 0 else 1 + nq p S k (nz S (p.getD k (0, 0)).1 + 1)
theorem nq_cg {p : List (Nat × Nat)} {S T : SR} : ∀ (k z : Nat), (∀ j, j < k → nz S (p.getD j (0, 0)).1 = nz T (p.getD j (0, 0)).1) → nq p S k z = nq p T k z
  | 0, z, _ => rfl
  | k + 1, z, h => by
    unfold nq
    rw [h k (by omega), nq_cg k _ (fun j hj => h j (by omega))]
section CME
variable {S : SR} {h : Hp} {Q : Option AV → Hp → Prop}
theorem mv_0 {c w : Nat} : eqS (nNew w (nv S c) S) (mvS S c w 0) := by
  refine ⟨rfl, rfl, rfl, rfl, fun n i hi => ?_⟩
  by_cases q : n = w
  · subst q
    have : i < va_up (nz S) n 0 n := hi
    rw [va_up_self] at this
    omega
  · show nh S n i = va_up (nh S) w _ n i
    rw [va_up_ne _ _ q]
theorem mv_s {c w i : Nat} : eqS (pIn w i (nh S c (4 + i)) (mvS S c w i)) (mvS S c w (i + 1)) := by
  refine ⟨?_, rfl, rfl, ?_, fun n j hj => ?_⟩
  · show va_up (va_up (nz S) w i) w (va_up (nz S) w i w + 1) = va_up (nz S) w (i + 1)
    rw [va_up_self, bx_uu]
  · exact upd_upd _ _ _ _
  · show va_up (va_up (nh S) w _) w (insf (va_up (nh S) w (fun k => nh S c (4 + k)) w) i _) n j = va_up (nh S) w _ n j
    rw [bx_uu]
    by_cases q : n = w
    · subst q
      have h2 : j < va_up (va_up (nz S) n i) n (va_up (nz S) n i n + 1) n := hj
      rw [va_up_self, va_up_self] at h2
      rw [va_up_self, va_up_self]
      unfold insf
      by_cases c1 : j < i
      · rw [if_pos c1]
      · rw [if_neg c1, if_pos (show j = i by omega), show j = i by omega]
    · rw [va_up_ne _ _ q, va_up_ne _ _ q]
/-- the part of a divide that moves five -/
theorem c_divide_27 {c w k : Nat} (hc : c < 64) (hw : w < 64) (hcw : c ≠ w) (hu : ¬ nu S c = 0) (hz : nz S c = 9) {h0 : Hp}
    (K : ∀ h6, C_st (dvd c w S) h6 → fr [16, 17, 18, 19, 20, 21] h0 h6 → (∀ q, q ≠ 5 → h6.1 16 q = h0.1 16 q) → ((nI k ≤ 0) → EvM mX5_putRootOver [vR 16, vI (nI c), vI (nI w)] h6 (fun v h8 => v = none ∧ Q none h8)) ∧ ((¬ nI k ≤ 0) → (vp_in (nI k - 1) 64 ∧ (vp_in (nI k) 64 ∧ EvM mX5_putIn [vR 16, vI (h6.1 22 (Int32.toNatClampNeg (nI k - 1))), vI ((h6.1 23 (Int32.toNatClampNeg (nI k))) + 1), vL (Int32.toInt64 (nI w))] h6 (fun v h11 => v = none ∧ Q none h11))))) :
    ∀ (d i : Nat) (h' : Hp), i + d = 5 → C_st (mvS S c w i) h' → fr [16, 17, 18, 19, 20, 21] h0 h' → (∀ q, q ≠ 5 → h'.1 16 q = h0.1 16 q) → Ev mX5_divide 27 [(0, vR 16), (1, vI (nI k)), (2, vI (nI c)), (3, vI (nI w)), (4, vI (nI (4 + i)))] [] h' Q := by
  intro d
  induction d with
  | zero =>
    intro i h' hi H f f16
    have e : i = 5 := by omega
    subst e
    have huc : ¬ nu (mvS S c w 5) c = 0 := by
      show ¬ upd (nu S) w 1 c = 0
      rw [upd_ne _ _ hcw]
      exact hu
    obtain ⟨q1, q2, q3⟩ := H.2.2 c hc huc
    have q1 : h'.1 18 c = nI 9 := by
      rw [q1]
      show nI (va_up (nz S) w 5 c) = nI 9
      rw [va_up_ne _ _ hcw, hz]
    apply sX5_divide_27
    simp (disch := omega) only [nt_le, nt_lt, nt_eq, nt_cl, nt_vp, nI_add, lu_le, lu_lt, lu_eq, ul_le, ul_lt, ul_eq, lu_add, ul_add, lu_sub, lu_mul, ul_mul, nt_sub, nt_m1]
    rw [q1]
    simp (disch := omega) only [nt_le, nt_lt, nt_eq, nt_cl, nt_vp, nI_add, lu_le, lu_lt, lu_eq, ul_le, ul_lt, ul_eq, lu_add, ul_add, lu_sub, lu_mul, ul_mul, nt_sub, nt_m1]
    refine ⟨hc, fun _ => ⟨hc, fun h4 e4 => ⟨hc, fun h6 e6 => ?_⟩⟩, fun c => by omega⟩
    have a18 : h6.1 18 = upd (h'.1 18) c 4 := by rw [e6, sI_ne _ _ (by decide), e4, sI_at]
    have a21 : h6.1 21 = upd (h'.1 21) c 1 := by rw [e6, sI_at, e4, sI_ne _ _ (by decide)]
    have f46 : fr [18, 21] h' h6 := by rw [e6, e4]; exact (fr.rf.sI (by decide) _).sI (by decide) _
    have := K h6 ?_ (by rw [e6, e4]; exact (f.sI (by decide) _).sI (by decide) _) (fun q hq => by rw [f46.i 16 (by decide)]; exact f16 q hq)
    · exact this
    · refine ⟨fun m hm => ?_, ?_, fun m hm hu2 => ?_⟩
      · rw [f46.i 20 (by decide), a21]
        obtain ⟨y1, y2⟩ := H.1 m hm
        refine ⟨y1, ?_⟩
        show upd _ _ _ _ = upd (upd (nd S) w 1) c 1 m
        unfold upd
        split
        · rfl
        · exact y2
      · rw [f46.i 16 (by decide)]
        exact H.2.1
      · obtain ⟨y1, y2, y3⟩ := H.2.2 m hm hu2
        rw [a18, f46.i 19 (by decide), f46.2 (by decide)]
        by_cases q : m = c
        · subst q
          refine ⟨?_, y2, fun j hj => ?_⟩
          · show upd _ _ _ _ = nI (va_up (va_up (nz S) w 5) m 4 m)
            rw [upd_at, va_up_self]
            rfl
          · have hj2 : j < va_up (va_up (nz S) w 5) m 4 m := hj
            rw [va_up_self] at hj2
            refine y3 j ?_
            show j < va_up (nz S) w 5 m
            rw [va_up_ne _ _ hcw, hz]
            omega
        · refine ⟨?_, y2, fun j hj => ?_⟩
          · show upd _ _ _ _ = nI (va_up (va_up (nz S) w 5) c 4 m)
            rw [upd_ne _ _ q, va_up_ne _ _ q]
            exact y1
          · have hj2 : j < va_up (va_up (nz S) w 5) c 4 m := hj
            rw [va_up_ne _ _ q] at hj2
            exact y3 j hj2
  | succ d ih =>
    intro i h' hi H f f16
    have huc : ¬ nu (mvS S c w i) c = 0 := by
      show ¬ upd (nu S) w 1 c = 0
      rw [upd_ne _ _ hcw]
      exact hu
    have huw : ¬ nu (mvS S c w i) w = 0 := by
      show ¬ upd (nu S) w 1 w = 0
      rw [upd_at]
      decide
    have hzw : nz (mvS S c w i) w = i := va_up_self _ _ _
    obtain ⟨q1, q2, q3⟩ := H.2.2 c hc huc
    have hzc : nz (mvS S c w i) c = 9 := by
      show va_up (nz S) w i c = 9
      rw [va_up_ne _ _ hcw, hz]
    rw [hzc] at q1 q3
    have q4 := q3 (4 + i) (by omega)
    have q5 : nh (mvS S c w i) c (4 + i) = nh S c (4 + i) := by
      show va_up (nh S) w _ c (4 + i) = _
      rw [va_up_ne _ _ hcw]
    rw [q5] at q4
    apply sX5_divide_27
    simp (disch := omega) only [nt_le, nt_lt, nt_eq, nt_cl, nt_vp, nI_add, lu_le, lu_lt, lu_eq, ul_le, ul_lt, ul_eq, lu_add, ul_add, lu_sub, lu_mul, ul_mul, nt_sub, nt_m1]
    rw [q1]
    simp (disch := omega) only [nt_le, nt_lt, nt_eq, nt_cl, nt_vp, nI_add, lu_le, lu_lt, lu_eq, ul_le, ul_lt, ul_eq, lu_add, ul_add, lu_sub, lu_mul, ul_mul, nt_sub, nt_m1]
    refine ⟨hc, fun c => by omega, fun _ => ⟨hc, by omega, ?_⟩⟩
    rw [show 4 + i - 4 = i by omega]
    refine c_putIn H hw huw (by omega) (by omega) (fun h3 g1 g2 => ⟨rfl, ?_⟩)
    rw [q4] at g2
    rw [show 4 + i + 1 = 4 + (i + 1) by omega]
    exact ih (i + 1) h3 (by omega) (g2.cg mv_s) (f.tr (g1.mono (by decide))) (fun q hq => by rw [g1.i 16 (by decide)]; exact f16 q hq)
theorem i2l_nI {w : Nat} (hw : w < 2147483648) : (Int32.toInt64 (nI w)).toInt = (w : Int) := by
  rw [nI_l hw, lN_toInt hw]
theorem c_putRootOver (H : C_st S h) {a b : Nat} (ha : a < 64) (hb : b < 64) (hf : cn (nu S) 64 < 64) (HQ : ∀ h', fr [16, 17, 18, 19, 20, 21] h h' → (∀ q, q ≠ 5 → q ≠ 7 → h'.1 16 q = h.1 16 q) → h'.1 16 7 = nI (fw 64 S) → C_st (rto a b (fw 64 S) S) h' → Q none h') : EvM mX5_putRootOver [vR 16, vI (nI a), vI (nI b)] h Q := by
  obtain ⟨hw1, hw2, hw3⟩ := fw_ok hf
  apply sX5_putRootOver
  refine c_newNode H (Or.inr rfl) (fun e => by rw [hw1] at e; cases e) (fun n h1 e hn f1 f16 H1 => ⟨nI n, rfl, ?_⟩)
  have en : fw 64 S = n := by
    rw [hw1] at e
    exact Option.some.inj e
  have e9 : ¬ nI n = (-1) := by
    intro q
    have h1 := congrArg Int32.toInt q
    rw [nI_toInt (show n < 2 ^ 31 by omega)] at h1
    have h2 : (-1 : Int32).toInt = -1 := rfl
    rw [h2] at h1
    omega
  refine ⟨fun _ => ?_, fun q => absurd q e9⟩
  have hu1 : ¬ nu (nNew n 1 S) n = 0 := by
    show ¬ upd (nu S) n 1 n = 0
    rw [upd_at]
    decide
  have hz1 : nz (nNew n 1 S) n = 0 := va_up_self _ _ _
  refine c_putIn (i := 0) H1 hn hu1 (by omega) (by omega) (fun h2 f2 H2 => ⟨rfl, ?_⟩)
  rw [i2l_nI (by omega)] at H2
  have hz2 : nz (pIn n 0 a (nNew n 1 S)) n = 1 := by
    show va_up _ n (nz (nNew n 1 S) n + 1) n = 1
    rw [va_up_self, hz1]
  refine c_putIn (i := 1) H2 hn hu1 (by omega) (by omega) (fun h3 f3 H3 => ⟨rfl, fun h4 e4 => ?_⟩)
  rw [i2l_nI (by omega)] at H3
  have g3 : fr [16, 17, 18, 19, 20, 21] h h3 := ((f1.mono (by decide)).tr (f2.mono (by decide))).tr (f3.mono (by decide))
  have s3 : ∀ q, q ≠ 5 → h3.1 16 q = h.1 16 q := fun q hq => by rw [f3.i 16 (by decide), f2.i 16 (by decide)]; exact f16 q hq
  refine HQ h4 (by rw [e4]; exact g3.sI (by decide) _) (fun q q5 q7 => ?_) ?_ ?_
  · rw [e4, sI_at, upd_ne _ _ q7]
    exact s3 q q5
  · rw [e4, sI_at, upd_at, en]
  · rw [en]
    refine H3.fr (T := [16]) (by rw [e4]; exact fr.rf.sI (by decide) _) ?_ (by decide)
    rw [e4, sI_at, upd_ne _ _ (by decide)]
end CME
