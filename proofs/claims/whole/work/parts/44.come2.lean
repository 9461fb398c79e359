/-! an entry comes: the class's letCome -/
/-- a way in a store: its nodes are used, in order, apart from each other and from c -/
def wyK (S : SR) (p : List (Nat × Nat)) (k c : Nat) : Prop := ∀ j, j < k → (p.getD j (0, 0)).1 < 64 ∧ ¬ nu S (p.getD j (0, 0)).1 = 0 ∧ nz S (p.getD j (0, 0)).1 ≤ 8 ∧ (p.getD j (0, 0)).2 < nz S (p.getD j (0, 0)).1 ∧ (p.getD j (0, 0)).1 ≠ c ∧ ∀ i, i < j → (p.getD i (0, 0)).1 ≠ (p.getD j (0, 0)).1
def wyA (p : List (Nat × Nat)) (k c : Nat) (h : Hp) : Prop := (∀ j, j < k → h.1 22 j = nI (p.getD j (0, 0)).1 ∧ h.1 23 (j + 1) = nI (p.getD j (0, 0)).2) ∧ h.1 22 k = nI c
theorem cn_new {S : SR} {N w : Nat} (hw : w < N) (h0 : nu S w = 0) : cn (upd (nu S) w 1) N = cn (nu S) N + 1 := by
  rw [cn_upd, if_pos hw, if_pos h0, if_neg (by decide)]
  rfl
section CM2
variable {Q : Option AV → Hp → Prop}
theorem c_divide {S : SR} {h : Hp} {p : List (Nat × Nat)} {k c : Nat} (H : C_st S h) (hk : k < 64) (hc : c < 64) (hu : ¬ nu S c = 0) (hz : nz S c = 9) (hv : nv S c = 0 ∨ nv S c = 1) (hw : wyK S p k c) (ha : wyA p k c h) (hf : cn (nu S) 64 + (if k = 0 then 2 else 1) ≤ 64)
    (H0 : k = 0 → ∀ h', fr [16, 17, 18, 19, 20, 21] h h' → (∀ q, q ≠ 5 → q ≠ 7 → h'.1 16 q = h.1 16 q) → h'.1 16 7 = nI (fw 64 (dvd c (fw 64 S) S)) → C_st (rto c (fw 64 S) (fw 64 (dvd c (fw 64 S) S)) (dvd c (fw 64 S) S)) h' → Q none h')
    (H1 : ∀ m, k = m + 1 → ∀ h', fr [16, 17, 18, 19, 20, 21] h h' → (∀ q, q ≠ 5 → h'.1 16 q = h.1 16 q) → C_st (pIn (p.getD m (0, 0)).1 ((p.getD m (0, 0)).2 + 1) (fw 64 S) (dvd c (fw 64 S) S)) h' → Q none h') : EvM mX5_divide [vR 16, vI (nI k)] h Q := by
  have hlt : cn (nu S) 64 < 64 := by
    by_cases q : k = 0
    · rw [if_pos q] at hf; omega
    · rw [if_neg q] at hf; omega
  obtain ⟨w1, w2, w3⟩ := fw_ok hlt
  obtain ⟨q1, q2, q3⟩ := H.2.2 c hc hu
  have hcw : c ≠ fw 64 S := fun q => hu (by rw [q]; exact w3)
  apply sX5_divide
  simp (disch := omega) only [nt_le, nt_lt, nt_eq, nt_cl, nt_vp, nI_add, lu_le, lu_lt, lu_eq, ul_le, ul_lt, ul_eq, lu_add, ul_add, lu_sub, lu_mul, ul_mul, nt_sub, nt_m1]
  rw [ha.2]
  simp (disch := omega) only [nt_le, nt_lt, nt_eq, nt_cl, nt_vp, nI_add, lu_le, lu_lt, lu_eq, ul_le, ul_lt, ul_eq, lu_add, ul_add, lu_sub, lu_mul, ul_mul, nt_sub, nt_m1]
  rw [q2]
  refine ⟨hk, hc, ?_⟩
  refine c_newNode H hv (fun e => by rw [w1] at e; cases e) (fun n h1 e hn f1 f16 H1' => ⟨nI n, rfl, ?_⟩)
  have en : fw 64 S = n := by
    rw [w1] at e
    exact Option.some.inj e
  have e9 : ¬ nI n = (-1) := by
    intro q
    have h1 := congrArg Int32.toInt q
    rw [nI_toInt (show n < 2 ^ 31 by omega)] at h1
    have h2 : (-1 : Int32).toInt = -1 := rfl
    rw [h2] at h1
    omega
  refine ⟨fun _ => ?_, fun q => absurd q e9⟩
  rw [en] at hcw H0 H1 w3
  refine c_divide_27 (h0 := h) (k := k) hc hn hcw hu hz (fun h6 H6 f6 g6 => ⟨fun c0 => ?_, fun c0 => ?_⟩) 5 0 h1 rfl (H1'.cg mv_0) (f1.mono (by decide)) f16
  · have hk0 : k = 0 := by
      have : nI k ≤ nI 0 := c0
      rw [nt_le (by omega) (by omega)] at this
      omega
    rw [if_pos hk0] at hf
    have hfd : cn (nu (dvd c n S)) 64 < 64 := by
      show cn (upd (nu S) n 1) 64 < 64
      rw [cn_new hn w3]
      omega
    refine c_putRootOver H6 hc hn hfd (fun h' y1 y2 y3 y4 => ⟨rfl, H0 hk0 h' (f6.tr y1) (fun q a b => by rw [y2 q a b]; exact g6 q a) y3 y4⟩)
  · have hk0 : ¬ k ≤ 0 := by
      intro q
      apply c0
      show nI k ≤ nI 0
      rw [nt_le (by omega) (by omega)]
      exact q
    obtain ⟨m, rfl⟩ : ∃ m, k = m + 1 := ⟨k - 1, by omega⟩
    have hwm := hw m (by omega)
    have ham := ha.1 m (by omega)
    simp (disch := omega) only [nt_le, nt_lt, nt_eq, nt_cl, nt_vp, nI_add, lu_le, lu_lt, lu_eq, ul_le, ul_lt, ul_eq, lu_add, ul_add, lu_sub, lu_mul, ul_mul, nt_sub, nt_m1]
    rw [f6.i 22 (by decide), f6.i 23 (by decide), show m + 1 - 1 = m by omega, ham.1, ham.2]
    simp (disch := omega) only [nt_le, nt_lt, nt_eq, nt_cl, nt_vp, nI_add, lu_le, lu_lt, lu_eq, ul_le, ul_lt, ul_eq, lu_add, ul_add, lu_sub, lu_mul, ul_mul, nt_sub, nt_m1]
    have nw : (p.getD m (0, 0)).1 ≠ n := fun q => hwm.2.1 (by rw [q]; exact w3)
    have hup : ¬ nu (dvd c n S) (p.getD m (0, 0)).1 = 0 := by
      show ¬ upd (nu S) n 1 _ = 0
      rw [upd_ne _ _ nw]
      exact hwm.2.1
    have hzp : nz (dvd c n S) (p.getD m (0, 0)).1 = nz S (p.getD m (0, 0)).1 := by
      show va_up (va_up (nz S) n 5) c 4 _ = _
      rw [va_up_ne _ _ hwm.2.2.2.2.1, va_up_ne _ _ nw]
    refine ⟨by omega, by omega, ?_⟩
    refine c_putIn H6 hwm.1 hup (by omega) (by omega) (fun h' y1 y2 => ⟨rfl, H1 m rfl h' (f6.tr (y1.mono (by decide))) (fun q a => by rw [y1.i 16 (by decide)]; exact g6 q a) ?_⟩)
    rw [i2l_nI (by omega)] at y2
    exact y2
theorem wy_step {S : SR} {p : List (Nat × Nat)} {k c w : Nat} (hw : wyK S p (k + 1) c) (h0 : nu S w = 0) : wyK (pIn (p.getD k (0, 0)).1 ((p.getD k (0, 0)).2 + 1) w (dvd c w S)) p k (p.getD k (0, 0)).1 := by
  intro j hj
  obtain ⟨a1, a2, a3, a4, a5, a6⟩ := hw j (by omega)
  obtain ⟨b1, b2, b3, b4, b5, b6⟩ := hw k (by omega)
  have nk : (p.getD j (0, 0)).1 ≠ (p.getD k (0, 0)).1 := b6 j hj
  have nw : (p.getD j (0, 0)).1 ≠ w := fun q => a2 (by rw [q]; exact h0)
  have hz : nz (pIn (p.getD k (0, 0)).1 ((p.getD k (0, 0)).2 + 1) w (dvd c w S)) (p.getD j (0, 0)).1 = nz S (p.getD j (0, 0)).1 := by
    show va_up (va_up (va_up (nz S) w 5) c 4) _ _ _ = _
    rw [va_up_ne _ _ nk, va_up_ne _ _ a5, va_up_ne _ _ nw]
  refine ⟨a1, ?_, by rw [hz]; exact a3, by rw [hz]; exact a4, nk, a6⟩
  show ¬ upd (nu S) w 1 _ = 0
  rw [upd_ne _ _ nw]
  exact a2
/-- what holds of the nodes that are used: flags -/
def fgS (S : SR) : Prop := ∀ n, ¬ nu S n = 0 → nv S n = 0 ∨ nv S n = 1
theorem c_letCome_90 {p : List (Nat × Nat)} : ∀ (k c : Nat) (S : SR) (h : Hp), C_st S h → fgS S → k < 64 → c < 64 → ¬ nu S c = 0 → nz S c ≤ 9 → wyK S p k c → wyA p k c h → cn (nu S) 64 + nq p S k (nz S c) ≤ 64 →
    (∀ h', fr [16, 17, 18, 19, 20, 21] h h' → (∀ q, q ≠ 5 → q ≠ 7 → h'.1 16 q = h.1 16 q) → h'.1 16 7 = (match (suK 64 p k c S).2 with | none => h.1 16 7 | some t => nI t) → C_st (suK 64 p k c S).1 h' → Q (some (vI 1)) h') → Ev mX5_letCome 90 [(0, vR 16), (5, vI (nI k))] [] h Q := by
  intro k
  induction k with
  | zero =>
    intro c S h H F hk hc hu hz hw ha hn HQ
    obtain ⟨q1, q2, q3⟩ := H.2.2 c hc hu
    apply sX5_letCome_90
    simp (disch := omega) only [nt_le, nt_lt, nt_eq, nt_cl, nt_vp, nI_add, lu_le, lu_lt, lu_eq, ul_le, ul_lt, ul_eq, lu_add, ul_add, lu_sub, lu_mul, ul_mul, nt_sub, nt_m1]
    rw [ha.2]
    simp (disch := omega) only [nt_le, nt_lt, nt_eq, nt_cl, nt_vp, nI_add, lu_le, lu_lt, lu_eq, ul_le, ul_lt, ul_eq, lu_add, ul_add, lu_sub, lu_mul, ul_mul, nt_sub, nt_m1]
    rw [q1]
    simp (disch := omega) only [nt_le, nt_lt, nt_eq, nt_cl, nt_vp, nI_add, lu_le, lu_lt, lu_eq, ul_le, ul_lt, ul_eq, lu_add, ul_add, lu_sub, lu_mul, ul_mul, nt_sub, nt_m1]
    refine ⟨fun c => by omega, fun _ => ⟨by omega, hc, fun c1 => ?_, fun c1 => ?_⟩⟩
    · have e : suK 64 p 0 c S = (S, none) := by rw [suK, if_pos c1]
      rw [e] at HQ
      exact HQ h fr.rf (fun _ _ _ => rfl) rfl H
    · have hn2 : nq p S 0 (nz S c) = 2 := by rw [nq, if_neg c1]
      have e : suK 64 p 0 c S = (rto c (fw 64 S) (fw 64 (dvd c (fw 64 S) S)) (dvd c (fw 64 S) S), some (fw 64 (dvd c (fw 64 S) S))) := by rw [suK, if_neg c1]
      rw [e] at HQ
      refine c_divide (p := p) H (by omega) hc hu (by omega) (F c hu) hw ha (by rw [if_pos rfl]; omega) (fun _ h' y1 y2 y3 y4 => ⟨rfl, ?_⟩) (fun m hm => by omega)
      apply sX5_letCome_90
      refine ⟨fun _ => HQ h' y1 y2 y3 y4, fun c2 => absurd (by decide : nI 0 + (-1) < 0) c2⟩
  | succ k ih =>
    intro c S h H F hk hc hu hz hw ha hn HQ
    obtain ⟨q1, q2, q3⟩ := H.2.2 c hc hu
    apply sX5_letCome_90
    simp (disch := omega) only [nt_le, nt_lt, nt_eq, nt_cl, nt_vp, nI_add, lu_le, lu_lt, lu_eq, ul_le, ul_lt, ul_eq, lu_add, ul_add, lu_sub, lu_mul, ul_mul, nt_sub, nt_m1]
    rw [ha.2]
    simp (disch := omega) only [nt_le, nt_lt, nt_eq, nt_cl, nt_vp, nI_add, lu_le, lu_lt, lu_eq, ul_le, ul_lt, ul_eq, lu_add, ul_add, lu_sub, lu_mul, ul_mul, nt_sub, nt_m1]
    rw [q1]
    simp (disch := omega) only [nt_le, nt_lt, nt_eq, nt_cl, nt_vp, nI_add, lu_le, lu_lt, lu_eq, ul_le, ul_lt, ul_eq, lu_add, ul_add, lu_sub, lu_mul, ul_mul, nt_sub, nt_m1]
    refine ⟨fun c => by omega, fun _ => ⟨by omega, hc, fun c1 => ?_, fun c1 => ?_⟩⟩
    · have e : suK 64 p (k + 1) c S = (S, none) := by rw [suK, if_pos c1]
      rw [e] at HQ
      exact HQ h fr.rf (fun _ _ _ => rfl) rfl H
    · have hn2 : nq p S (k + 1) (nz S c) = 1 + nq p S k (nz S (p.getD k (0, 0)).1 + 1) := by rw [nq, if_neg c1]
      rw [hn2] at hn
      have e : suK 64 p (k + 1) c S = suK 64 p k (p.getD k (0, 0)).1 (pIn (p.getD k (0, 0)).1 ((p.getD k (0, 0)).2 + 1) (fw 64 S) (dvd c (fw 64 S) S)) := by rw [suK, if_neg c1]
      rw [e] at HQ
      obtain ⟨w1, w2, w3⟩ := fw_ok (S := S) (N := 64) (by omega)
      obtain ⟨b1, b2, b3, b4, b5, b6⟩ := hw k (by omega)
      have hcw : c ≠ fw 64 S := fun q => hu (by rw [q]; exact w3)
      have nw : (p.getD k (0, 0)).1 ≠ fw 64 S := fun q => b2 (by rw [q]; exact w3)
      refine c_divide (p := p) H (by omega) hc hu (by omega) (F c hu) hw ha (by rw [if_neg (by omega)]; omega) (fun h0 => by omega) (fun m hm h' y1 y2 y4 => ⟨rfl, ?_⟩)
      have em : m = k := by omega
      subst em
      rw [show m + 1 - 1 = m by omega]
      have hzn : nz (pIn (p.getD m (0, 0)).1 ((p.getD m (0, 0)).2 + 1) (fw 64 S) (dvd c (fw 64 S) S)) (p.getD m (0, 0)).1 = nz S (p.getD m (0, 0)).1 + 1 := by
        show va_up _ _ (va_up (va_up (nz S) (fw 64 S) 5) c 4 (p.getD m (0, 0)).1 + 1) _ = _
        rw [va_up_self, va_up_ne _ _ b5, va_up_ne _ _ nw]
      have hws := wy_step hw w3
      refine ih (p.getD m (0, 0)).1 _ h' y4 ?_ (by omega) b1 ?_ (by rw [hzn]; omega) hws ⟨fun j hj => ?_, ?_⟩ ?_ (fun h'' z1 z2 z3 z4 => HQ h'' (y1.tr z1) (fun q a b => by rw [z2 q a b]; exact y2 q a) ?_ z4)
      · intro n hn9
        show upd (nv S) (fw 64 S) (nv S c) n = 0 ∨ upd (nv S) (fw 64 S) (nv S c) n = 1
        have hn8 : ¬ upd (nu S) (fw 64 S) 1 n = 0 := hn9
        by_cases q : n = fw 64 S
        · rw [q, upd_at]
          exact F c hu
        · rw [upd_ne _ _ q] at hn8 ⊢
          exact F n hn8
      · show ¬ upd (nu S) (fw 64 S) 1 _ = 0
        rw [upd_ne _ _ nw]
        exact b2
      · rw [y1.i 22 (by decide), y1.i 23 (by decide)]
        exact ha.1 j (by omega)
      · rw [y1.i 22 (by decide)]
        exact (ha.1 m (by omega)).1
      · rw [hzn]
        have e5 : nq p (pIn (p.getD m (0, 0)).1 ((p.getD m (0, 0)).2 + 1) (fw 64 S) (dvd c (fw 64 S) S)) m (nz S (p.getD m (0, 0)).1 + 1) = nq p S m (nz S (p.getD m (0, 0)).1 + 1) := by
          refine nq_cg m _ (fun j hj => ?_)
          obtain ⟨a1, a2, a3, a4, a5, a6⟩ := hw j (by omega)
          have nk : (p.getD j (0, 0)).1 ≠ (p.getD m (0, 0)).1 := b6 j hj
          have njw : (p.getD j (0, 0)).1 ≠ fw 64 S := fun q => a2 (by rw [q]; exact w3)
          show va_up (va_up (va_up (nz S) (fw 64 S) 5) c 4) _ _ _ = _
          rw [va_up_ne _ _ nk, va_up_ne _ _ a5, va_up_ne _ _ njw]
        rw [e5]
        show cn (upd (nu S) (fw 64 S) 1) 64 + _ ≤ 64
        rw [cn_new w2 w3]
        omega
      · rw [z3]
        split
        · exact y2 7 (by decide)
        · rfl
end CM2
