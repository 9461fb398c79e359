/-! an entry goes: the class's letGo -/
/-- where it is, from the left; z if nowhere -/
def fnd (f : Nat → Int) (e : Int) (z : Nat) : Nat → Nat → Nat
  | 0, i => i
  | d + 1, i => if f i = e then i else fnd f e z d (i + 1)
theorem fnd_le (f : Nat → Int) (e : Int) (z : Nat) : ∀ d i, i ≤ fnd f e z d i ∧ fnd f e z d i ≤ i + d
  | 0, i => ⟨Nat.le_refl _, Nat.le_refl _⟩
  | d + 1, i => by
    have := fnd_le f e z d (i + 1)
    unfold fnd
    split <;> omega
/-- nodes without anything go, from depth k upwards; c: the lowest -/
def guK (p : List (Nat × Nat)) : Nat → Nat → SR → SR
  | 0, _, S => S
  | k + 1, c, S => if nz S c = 0 then guK p k (p.getD k (0, 0)).1 (tOut (p.getD k (0, 0)).1 (p.getD k (0, 0)).2 (nFree c S)) else S
/-- a root over just one goes -/
def cps : Nat → Nat → SR → SR × Nat
  | 0, n, S => (S, n)
  | d + 1, n, S => if nv S n = 0 then (S, n) else if nz S n = 1 then cps d (nh S n 0).toNat (nFree n S) else (S, n)
section CGO
variable {Q : Option AV → Hp → Prop}
theorem c_letGo_18 {S : SR} {h : Hp} (H : C_st S h) {n : Nat} {e : Int64} (hn : n < 64) (hu : ¬ nu S n = 0) (hz : nz S n ≤ 8) : ∀ d i, i + d = nz S n → Ev mX5_letGo 49 [(0, vR 16), (3, vI (nI n)), (4, vI (nI (fnd (nh S n) e.toInt (nz S n) d i)))] [] h Q → Ev mX5_letGo 18 [(0, vR 16), (1, vL e), (3, vI (nI n)), (4, vI (nI i))] [] h Q := by
  obtain ⟨q1, q2, q3⟩ := H.2.2 n hn hu
  intro d
  induction d with
  | zero =>
    intro i hi K
    apply sX5_letGo_18
    simp (disch := omega) only [nt_le, nt_lt, nt_eq, nt_cl, nt_vp, nI_add, lu_le, lu_lt, lu_eq, ul_le, ul_lt, ul_eq, lu_add, ul_add, lu_sub, lu_mul, ul_mul, nt_sub, nt_m1]
    rw [q1]
    simp (disch := omega) only [nt_le, nt_lt, nt_eq, nt_cl, nt_vp, nI_add, lu_le, lu_lt, lu_eq, ul_le, ul_lt, ul_eq, lu_add, ul_add, lu_sub, lu_mul, ul_mul, nt_sub, nt_m1]
    exact ⟨hn, fun _ => K, fun c => by omega⟩
  | succ d ih =>
    intro i hi K
    apply sX5_letGo_18
    simp (disch := omega) only [nt_le, nt_lt, nt_eq, nt_cl, nt_vp, nI_add, lu_le, lu_lt, lu_eq, ul_le, ul_lt, ul_eq, lu_add, ul_add, lu_sub, lu_mul, ul_mul, nt_sub, nt_m1]
    rw [q1]
    simp (disch := omega) only [nt_le, nt_lt, nt_eq, nt_cl, nt_vp, nI_add, lu_le, lu_lt, lu_eq, ul_le, ul_lt, ul_eq, lu_add, ul_add, lu_sub, lu_mul, ul_mul, nt_sub, nt_m1]
    rw [lg_eq, q3 i (by omega)]
    refine ⟨hn, fun c => by omega, fun _ => ⟨hn, by omega, fun c => ?_, fun c => ?_⟩⟩
    · rw [fnd, if_pos c] at K
      exact K
    · rw [fnd, if_neg c] at K
      exact ih (i + 1) (by omega) K
theorem cn_pos {f : Nat → Int32} {n : Nat} (h : ¬ f n = 0) : ∀ N, n < N → 1 ≤ cn f N
  | 0, q => by omega
  | N + 1, q => by
    unfold cn
    by_cases e : n = N
    · subst e
      rw [if_neg h]
      omega
    · have := cn_pos h N (by omega)
      omega
/-- a way, looked at from below: each next node has the lower one at its turn -/
theorem c_letGo_84 {p : List (Nat × Nat)} : ∀ (k c : Nat) (S : SR) (h : Hp), C_st S h → k < 64 → c < 64 → ¬ nu S c = 0 → nz S c ≤ 8 → wyK S p k c → wyA p k c h →
    (∀ h', fr [16, 17, 18, 19, 20, 21] h h' → (∀ q, q ≠ 5 → h'.1 16 q = h.1 16 q) → C_st (guK p k c S) h' → Ev mX5_letGo 144 [(0, vR 16), (5, vI 0)] [] h' Q) → Ev mX5_letGo 84 [(0, vR 16), (5, vI (nI k))] [] h Q := by
  intro k
  induction k with
  | zero =>
    intro c S h H hk hc hu hzc hw ha HQ
    apply sX5_letGo_84
    exact ⟨fun _ => HQ h fr.rf (fun _ _ => rfl) H, fun c => absurd (by decide) c⟩
  | succ k ih =>
    intro c S h H hk hc hu hzc hw ha HQ
    obtain ⟨q1, q2, q3⟩ := H.2.2 c hc hu
    obtain ⟨b1, b2, b3, b4, b5, b6⟩ := hw k (by omega)
    apply sX5_letGo_84
    simp (disch := omega) only [nt_le, nt_lt, nt_eq, nt_cl, nt_vp, nI_add, lu_le, lu_lt, lu_eq, ul_le, ul_lt, ul_eq, lu_add, ul_add, lu_sub, lu_mul, ul_mul, nt_sub, nt_m1]
    rw [ha.2]
    simp (disch := omega) only [nt_le, nt_lt, nt_eq, nt_cl, nt_vp, nI_add, lu_le, lu_lt, lu_eq, ul_le, ul_lt, ul_eq, lu_add, ul_add, lu_sub, lu_mul, ul_mul, nt_sub, nt_m1]
    rw [q1]
    have hz0 : nI (nz S c) = 0 ↔ nz S c = 0 := by
      constructor
      · intro q
        exact (nt_eq (by omega) (by omega)).mp q
      · intro q
        rw [q]
        rfl
    refine ⟨fun c => by omega, fun _ => ⟨by omega, hc, fun c1 => ?_, fun c1 => ⟨by omega, ?_⟩⟩⟩
    · rw [guK] at HQ
      rw [if_neg (fun q => c1 (hz0.mpr q))] at HQ
      exact HQ h fr.rf (fun _ _ => rfl) H
    · refine c_freeNode H hc hu (fun h1 f1 g1 H1 => ⟨rfl, ?_⟩)
      rw [f1.i 22 (by decide), f1.i 23 (by decide)]
      rw [show k + 1 - 1 = k by omega, (ha.1 k (by omega)).1, (ha.1 k (by omega)).2]
      have hup : ¬ nu (nFree c S) (p.getD k (0, 0)).1 = 0 := by
        show ¬ upd (nu S) c 0 _ = 0
        rw [upd_ne _ _ b5]
        exact b2
      refine ⟨by omega, by omega, c_takeOut H1 b1 hup b4 (by show nz S _ ≤ 9; omega) (fun h2 f2 H2 => ⟨rfl, ?_⟩)⟩
      rw [guK, if_pos (hz0.mp c1)] at HQ
      refine ih (p.getD k (0, 0)).1 _ h2 H2 (by omega) b1 hup (by show va_up (nz S) _ _ _ ≤ 8; rw [va_up_self]; show nz S _ - 1 ≤ 8; omega) (fun j hj => ?_) ⟨fun j hj => ?_, ?_⟩ (fun h' y1 y2 y3 => HQ h' (((f1.mono (by decide)).tr (f2.mono (by decide))).tr y1) (fun q hq => by rw [y2 q hq, f2.i 16 (by decide)]; exact g1 q hq) y3)
      · obtain ⟨a1, a2, a3, a4, a5, a6⟩ := hw j (by omega)
        have nk : (p.getD j (0, 0)).1 ≠ (p.getD k (0, 0)).1 := b6 j hj
        have hz : nz (tOut (p.getD k (0, 0)).1 (p.getD k (0, 0)).2 (nFree c S)) (p.getD j (0, 0)).1 = nz S (p.getD j (0, 0)).1 := va_up_ne _ _ nk
        refine ⟨a1, ?_, by rw [hz]; exact a3, by rw [hz]; exact a4, nk, a6⟩
        show ¬ upd (nu S) c 0 _ = 0
        rw [upd_ne _ _ a5]
        exact a2
      · rw [f2.i 22 (by decide), f2.i 23 (by decide), f1.i 22 (by decide), f1.i 23 (by decide)]
        exact ha.1 j (by omega)
      · rw [f2.i 22 (by decide), f1.i 22 (by decide)]
        exact (ha.1 k (by omega)).1
end CGO
