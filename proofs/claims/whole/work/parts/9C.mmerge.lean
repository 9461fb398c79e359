/-! the reference: runs are merged -/
section MME
variable {X : XT} {L : LT} {N : NT} {h : Hp} {Q : Option AV → Hp → Prop}
/-- where an entry of the turned row comes from -/
def rot (n T i : Nat) : Nat := if i < T - n then n + i else i - (T - n)
theorem m_mg_30 {n T : Nat} (hn : n ≤ T) (hT : T ≤ 240) {h0 : Hp} : ∀ (d k : Nat) (h : Hp), k + d = T → fr [50, 51] h0 h → h0.1 27 17 = nI T → (∀ i, i < T → rot n T i < k → h.1 50 i = h0.1 32 (rot n T i) ∧ h.1 51 i = h0.1 33 (rot n T i)) → (∀ h', fr [50, 51] h0 h' → (∀ i, i < T → h'.1 50 i = h0.1 32 (rot n T i) ∧ h'.1 51 i = h0.1 33 (rot n T i)) → Ev mX7_mergeStep 90 [(0, vR 27), (1, vI (nI n)), (2, vI 0)] [] h' Q) → Ev mX7_mergeStep 30 [(0, vR 27), (1, vI (nI n)), (2, vI (nI k))] [] h Q := by
  intro d
  induction d with
  | zero =>
    intro k h hk f c17 a K
    have e : k = T := by omega
    subst e
    apply sX7_mergeStep_30
    rw [f.i 27 (by decide), c17]
    simp (disch := omega) only [nt_le, nt_lt, nt_eq, nt_cl, nt_vp, nI_add, lu_le, lu_lt, lu_eq, ul_le, ul_lt, ul_eq, lu_add, ul_add, lu_sub, lu_mul, ul_mul, nt_sub, nt_m1]
    refine ⟨fun _ => K h f (fun i hi => a i hi ?_), fun z => absurd (Nat.le_refl _) z⟩
    unfold rot
    split <;> omega
  | succ d ih =>
    intro k h hk f c17 a K
    have key : ∀ (s : Nat), s < T → rot n T s = k → Ev mX7_mergeStep 57 [(0, vR 27), (1, vI (nI n)), (2, vI (nI k))] [vI (nI s)] h Q := by
      intro s hs hr
      apply sX7_mergeStep_57
      simp (disch := omega) only [nt_le, nt_lt, nt_eq, nt_cl, nt_vp, nI_add, lu_le, lu_lt, lu_eq, ul_le, ul_lt, ul_eq, lu_add, ul_add, lu_sub, lu_mul, ul_mul, nt_sub, nt_m1]
      refine ⟨by omega, by omega, fun h3 e3 => ⟨by omega, by omega, fun h6 e6 => ?_⟩⟩
      have f6 : fr [50, 51] h h6 := by
        rw [e6, e3]
        (repeat first | exact fr.rf | refine fr.sI ?_ (by decide) _ | refine fr.sJ ?_ (by decide) _ | refine fr.sW ?_ (by decide) _ _)
      have r50 : h6.1 50 = upd (h.1 50) s (h.1 32 k) := by
        rw [e6, e3]
        simp (disch := decide) only [sI_at, sI_ne, sI_21, sI_22, sJ_1, sJ_at, sJ_ne, sJ_22, sW_1, sW_21, upd_at, upd_ne]
      have r51 : h6.1 51 = upd (h.1 51) s (h.1 33 k) := by
        rw [e6, e3]
        simp (disch := decide) only [sI_at, sI_ne, sI_21, sI_22, sJ_1, sJ_at, sJ_ne, sJ_22, sW_1, sW_21, upd_at, upd_ne]
      refine ih (k + 1) h6 (by omega) (f.tr f6) c17 (fun i hi hi2 => ?_) K
      rw [r50, r51]
      by_cases q : i = s
      · rw [q, upd_at, upd_at, hr, f.i 32 (by decide), f.i 33 (by decide)]
        exact ⟨rfl, rfl⟩
      · rw [upd_ne _ _ q, upd_ne _ _ q]
        refine a i hi ?_
        have : ¬ rot n T i = k := fun z => by
          apply q
          rw [← z] at hr
          revert hr
          unfold rot
          split <;> split <;> omega
        omega
    apply sX7_mergeStep_30
    rw [f.i 27 (by decide), c17]
    simp (disch := omega) only [nt_le, nt_lt, nt_eq, nt_cl, nt_vp, nI_add, lu_le, lu_lt, lu_eq, ul_le, ul_lt, ul_eq, lu_add, ul_add, lu_sub, lu_mul, ul_mul, nt_sub, nt_m1]
    refine ⟨fun z => by omega, fun _ => ⟨fun z => ?_, fun z => ?_⟩⟩
    · rw [nt_sub (by omega)]
      refine key (k - n) (by omega) ?_
      unfold rot
      rw [if_pos (by omega)]
      omega
    · refine key (T - n + k) (by omega) ?_
      unfold rot
      rw [if_neg (by omega)]
      omega
theorem m_mg_90 {n T : Nat} (hT : T ≤ 240) {h0 : Hp} : ∀ (d k : Nat) (h : Hp), k + d = T → fr [32, 33] h0 h → h0.1 27 17 = nI T → (∀ i, i < k → h.1 32 i = h0.1 50 i ∧ h.1 33 i = h0.1 51 i) → (∀ h', fr [32, 33] h0 h' → (∀ i, i < T → h'.1 32 i = h0.1 50 i ∧ h'.1 33 i = h0.1 51 i) → Ev mX7_mergeStep 90 [(0, vR 27), (1, vI (nI n)), (2, vI (nI T))] [] h' Q) → Ev mX7_mergeStep 90 [(0, vR 27), (1, vI (nI n)), (2, vI (nI k))] [] h Q := by
  intro d
  induction d with
  | zero =>
    intro k h hk f c17 a K
    have e : k = T := by omega
    subst e
    exact K h f a
  | succ d ih =>
    intro k h hk f c17 a K
    apply sX7_mergeStep_90
    rw [f.i 27 (by decide), c17]
    simp (disch := omega) only [nt_le, nt_lt, nt_eq, nt_cl, nt_vp, nI_add, lu_le, lu_lt, lu_eq, ul_le, ul_lt, ul_eq, lu_add, ul_add, lu_sub, lu_mul, ul_mul, nt_sub, nt_m1]
    refine ⟨fun z => by omega, fun _ => ⟨by omega, by omega, fun h5 e5 => ⟨by omega, by omega, fun h8 e8 => ?_⟩⟩⟩
    have f8 : fr [32, 33] h h8 := by
      rw [e8, e5]
      (repeat first | exact fr.rf | refine fr.sI ?_ (by decide) _ | refine fr.sJ ?_ (by decide) _ | refine fr.sW ?_ (by decide) _ _)
    have r32 : h8.1 32 = upd (h.1 32) k (h.1 50 k) := by
      rw [e8, e5]
      simp (disch := decide) only [sI_at, sI_ne, sI_21, sI_22, sJ_1, sJ_at, sJ_ne, sJ_22, sW_1, sW_21, upd_at, upd_ne]
    have r33 : h8.1 33 = upd (h.1 33) k (h.1 51 k) := by
      rw [e8, e5]
      simp (disch := decide) only [sI_at, sI_ne, sI_21, sI_22, sJ_1, sJ_at, sJ_ne, sJ_22, sW_1, sW_21, upd_at, upd_ne]
    refine ih (k + 1) h8 (by omega) (f.tr f8) c17 (fun i hi => ?_) K
    rw [r32, r33]
    by_cases q : i = k
    · rw [q, upd_at, upd_at, f.i 50 (by decide), f.i 51 (by decide)]
      exact ⟨rfl, rfl⟩
    · rw [upd_ne _ _ q, upd_ne _ _ q]
      exact a i (by omega)
theorem m_mg_140 {n T c : Nat} {rn : Nat → Int32} (hc : c ≤ 30) {h0 : Hp} : ∀ (d k : Nat) (h : Hp), k + d = c → fr [34] h0 h → h0.1 27 20 = nI (c + 1) → h0.1 27 17 = nI T → (∀ i, i < k → h.1 34 i = rn (i + 2) - nI n) → (∀ i, k ≤ i → h.1 34 i = rn i) → (∀ h', fr [34] h0 h' → (∀ i, i < c → h'.1 34 i = rn (i + 2) - nI n) → h'.1 34 c = nI T → EvM mX7_writeBlocks [vR 27, vI (nI (n + 7) / 8)] h' (fun v h4 => ∃ r5 : Int32, v = some (vI r5) ∧ ((r5 = 0 ∨ r5 = 1) ∧ Q (some (vI r5)) h4))) → Ev mX7_mergeStep 140 [(0, vR 27), (1, vI (nI n)), (2, vI (nI k))] [] h Q := by
  intro d
  induction d with
  | zero =>
    intro k h hk f c20 c17 a1 a2 K
    have e : k = c := by omega
    subst e
    apply sX7_mergeStep_140
    rw [f.i 27 (by decide), c20, c17]
    rw [show nI (k + 1) - 1 = nI k from lu_sub (k := 1) (a := k + 1) (show 1 ≤ k + 1 by omega)]
    simp (disch := omega) only [nt_le, nt_lt, nt_eq, nt_cl, nt_vp, nI_add, lu_le, lu_lt, lu_eq, ul_le, ul_lt, ul_eq, lu_add, ul_add, lu_sub, lu_mul, ul_mul, nt_sub, nt_m1]
    refine ⟨fun _ => ⟨by omega, fun h3 e3 => ?_⟩, fun z => absurd (Nat.le_refl _) z⟩
    have r34 : h3.1 34 = upd (h.1 34) k (nI T) := by
      rw [e3]
      simp (disch := decide) only [sI_at, sI_ne, sI_21, sI_22, sJ_1, sJ_at, sJ_ne, sJ_22, sW_1, sW_21, upd_at, upd_ne]
    refine K h3 (f.tr (by rw [e3]; (repeat first | exact fr.rf | refine fr.sI ?_ (by decide) _ | refine fr.sJ ?_ (by decide) _ | refine fr.sW ?_ (by decide) _ _))) (fun i hi => ?_) ?_
    · rw [r34, upd_ne _ _ (by omega)]
      exact a1 i hi
    · rw [r34, upd_at]
  | succ d ih =>
    intro k h hk f c20 c17 a1 a2 K
    apply sX7_mergeStep_140
    rw [f.i 27 (by decide), c20]
    rw [show nI (c + 1) - 1 = nI c from lu_sub (k := 1) (a := c + 1) (show 1 ≤ c + 1 by omega)]
    simp (disch := omega) only [nt_le, nt_lt, nt_eq, nt_cl, nt_vp, nI_add, lu_le, lu_lt, lu_eq, ul_le, ul_lt, ul_eq, lu_add, ul_add, lu_sub, lu_mul, ul_mul, nt_sub, nt_m1]
    refine ⟨fun z => by omega, fun _ => ⟨by omega, by omega, fun h8 e8 => ?_⟩⟩
    have r34 : h8.1 34 = upd (h.1 34) k (rn (k + 2) - nI n) := by
      rw [e8]
      simp (disch := decide) only [sI_at, sI_ne, sI_21, sI_22, sJ_1, sJ_at, sJ_ne, sJ_22, sW_1, sW_21, upd_at, upd_ne]
      rw [a2 (k + 2) (by omega)]
    refine ih (k + 1) h8 (by omega) (f.tr (by rw [e8]; (repeat first | exact fr.rf | refine fr.sI ?_ (by decide) _ | refine fr.sJ ?_ (by decide) _ | refine fr.sW ?_ (by decide) _ _))) c20 c17 (fun i hi => ?_) (fun i hi => ?_) K
    · rw [r34]
      by_cases q : i = k
      · rw [q, upd_at]
      · rw [upd_ne _ _ q]
        exact a1 i (by omega)
    · rw [r34, upd_ne _ _ (by omega)]
      exact a2 i (by omega)
theorem m_mergeStep (M : MX X L N h) (I : PI X L) (d0 : X.1.1 = 0) (q : X.2.2.1.1 = 2) (K : ∀ h', fr Um h h' → MX (mgX X).2 L N h' → Q (some (vI (bI (mgX X).1))) h') : EvM mX7_mergeStep [vR 27] h Q := by
  obtain ⟨⟨b1, b2, b3, b4, b5⟩, c1, c2, c3, c4, c5, c6, c7⟩ := I.2.2.2.2.2.2.2.2.2.1 (by omega)
  obtain ⟨c6a, c6b, c6c⟩ := c6 (by omega)
  rw [c6b, List.append_nil] at c1 c3
  obtain ⟨H1, H2, H3, H4, H5, H6, H7⟩ := M
  obtain ⟨B1, B2, B3⟩ := H4 (by omega)
  have L5 := H5 (by omega)
  rw [c6b] at B2
  apply sX7_mergeStep
  rw [B2.2.1]
  simp (disch := omega) only [nt_le, nt_lt, nt_eq, nt_cl, nt_vp, nI_add, lu_le, lu_lt, lu_eq, ul_le, ul_lt, ul_eq, lu_add, ul_add, lu_sub, lu_mul, ul_mul, nt_sub, nt_m1]
  refine ⟨fun z => ?_, fun z h3 e3 => ?_⟩
  · have two : ∃ r1 r2 t, X.2.2.2.1.2.1 = r1 :: r2 :: t := by
      cases e : X.2.2.2.1.2.1 with
      | nil =>
        rw [e] at z
        exact absurd z (by simp)
      | cons r1 t =>
        cases t with
        | nil =>
          rw [e] at z
          exact absurd z (by simp)
        | cons r2 t => exact ⟨r1, r2, t, rfl⟩
    obtain ⟨r1, r2, t, hc⟩ := two
    rw [hc] at B2 c1 c2 c3 c6c
    have fe : (r1 :: r2 :: t).flatten = (r1 ++ r2) ++ t.flatten := by
      rw [List.flatten_cons, List.flatten_cons, List.append_assoc]
    obtain ⟨R1, R2, R3, R4⟩ := B2
    rw [List.append_nil, fe] at R1 R3
    rw [fe] at c1 c3
    rw [List.length_cons, List.length_cons] at c6c R2 R4
    have n12 := (List.nodup_append.mp c3).1
    have ll : ((r1 ++ r2) ++ t.flatten).length = (r1 ++ r2).length + t.flatten.length := List.length_append
    have e34 : h.1 34 (Int32.toNatClampNeg 1) = nI (0 + (r1 ++ r2).length) := by
      have := R4 1 (by omega)
      rw [show (1 : Int32).toNatClampNeg = 1 from rfl, this, Nat.zero_add]
      congr 1
      show (r1 ++ (r2 ++ [])).length = _
      rw [List.append_nil]
    rw [e34]
    have il := isort_len (r1 ++ r2)
    have e9 : (t.flatten ++ isort (r1 ++ r2)).length = t.flatten.length + (r1 ++ r2).length := by rw [List.length_append, il]
    refine m_sort (o := 0) (l := r1 ++ r2) (by omega) n12 (fun i hi => ?_) (fun h2 f2 u2 a2 => ⟨rfl, ?_⟩)
    · have := R3 i (by omega)
      rw [gD_apl hi] at this
      rw [Nat.zero_add]
      exact this
    rw [Nat.zero_add]
    rw [Nat.zero_add] at u2
    have A2 : ∀ i, i < ((r1 ++ r2) ++ t.flatten).length → ent (h2.1 32 i) (h2.1 33 i) ((isort (r1 ++ r2) ++ t.flatten).getD i 0) := by
      intro i hi
      by_cases y : i < (r1 ++ r2).length
      · have := a2 i y
        rw [Nat.zero_add] at this
        rw [gD_apl (by omega)]
        exact this
      · have := R3 i hi
        obtain ⟨v1, v2⟩ := u2 i (by omega)
        rw [gD_apr y] at this
        rw [gD_apr (by omega), il, v1, v2]
        exact this
    have c17 : h2.1 27 17 = nI ((r1 ++ r2) ++ t.flatten).length := by
      rw [f2.i 27 (by decide)]
      exact R1
    refine m_mg_30 (n := (r1 ++ r2).length) (T := ((r1 ++ r2) ++ t.flatten).length) (by omega) (by omega) ((r1 ++ r2) ++ t.flatten).length 0 h2 (by omega) fr.rf c17 (fun i _ hi => absurd hi (Nat.not_lt_zero _)) (fun h3 f3 a3 => ?_)
    have d17 : h3.1 27 17 = nI ((r1 ++ r2) ++ t.flatten).length := by
      rw [f3.i 27 (by decide)]
      exact c17
    refine m_mg_90 (n := (r1 ++ r2).length) (T := ((r1 ++ r2) ++ t.flatten).length) (by omega) ((r1 ++ r2) ++ t.flatten).length 0 h3 (by omega) fr.rf d17 (fun i hi => absurd hi (Nat.not_lt_zero _)) (fun h4 f4 a4 => ?_)
    have g4 : fr [32, 33, 50, 51] h h4 := ((f2.mono (by decide)).tr (f3.mono (by decide))).tr (f4.mono (by decide))
    have d20 : h4.1 27 20 = nI (t.length + 2) := by
      rw [g4.i 27 (by decide)]
      exact R2
    apply sX7_mergeStep_90
    rw [f4.i 27 (by decide), d17]
    rw [← f4.i 27 (by decide), d20]
    simp (disch := omega) only [nt_le, nt_lt, nt_eq, nt_cl, nt_vp, nI_add, lu_le, lu_lt, lu_eq, ul_le, ul_lt, ul_eq, lu_add, ul_add, lu_sub, lu_mul, ul_mul, nt_sub, nt_m1]
    refine ⟨fun _ h5 e5 => ?_, fun y => absurd (Nat.le_refl _) y⟩
    have f5 : fz 27 [27] [20] h4 h5 := by
      rw [e5]
      (repeat first | exact fz.rf | refine fz.up ?_ (by decide) (by decide) | refine fz.sI ?_ (by decide) (by decide) _ | refine fz.sJ ?_ (by decide) _)
    have e20 : h5.1 27 20 = nI (t.length + 1) := by
      rw [e5]
      simp (disch := decide) only [sI_at, sI_ne, sI_21, sI_22, sJ_1, sJ_at, sJ_ne, sJ_22, sW_1, sW_21, upd_at, upd_ne]
      rfl
    refine m_mg_140 (n := (r1 ++ r2).length) (T := ((r1 ++ r2) ++ t.flatten).length) (c := t.length) (rn := h.1 34) (by omega) t.length 0 h5 (by omega) fr.rf e20 (by rw [f5.2 17 (by decide), g4.i 27 (by decide)]; exact R1) (fun i hi => absurd hi (Nat.not_lt_zero _)) (fun i _ => by rw [f5.1.i 34 (by decide), g4.i 34 (by decide)]) (fun h6 f6 a6 b6 => ?_)
    have g6 : fz 27 [27, 32, 33, 34, 50, 51] [20] h h6 := (((fz.of (F := []) g4 (by decide)).mono (by decide) (by decide)).tr (f5.mono (by decide) (by decide))).tr ((fz.of (F := []) f6 (by decide)).mono (by decide) (by decide))
    have M6 : MX (mgY r1 r2 t X) L N h6 := by
      refine ⟨H1.k g6 (by decide), H2.k g6.1 (by decide), H3.k g6 (by decide), fun _ => ⟨?_, ⟨?_, ?_, fun i hi => ?_, fun r hr => ?_⟩, B3.k g6 (by decide) (by decide)⟩, fun _ => L5.k g6 (by decide) (by decide), H6.k g6 (by decide) (by decide), H7.k g6 (by decide) (by decide)⟩
      · rw [g6.2 16 (by decide)]
        exact B1
      · show _ = nI ((t ++ [isort (r1 ++ r2)]).flatten ++ X.2.2.2.1.2.2.1).length
        rw [c6b, List.append_nil, fl_app, List.length_append, il, g6.2 17 (by decide), R1, ll, Nat.add_comm]
      · show _ = nI (t ++ [isort (r1 ++ r2)]).length
        rw [f6.i 27 (by decide), e20, List.length_append, List.length_singleton]
      · have hi : i < ((t ++ [isort (r1 ++ r2)]).flatten ++ X.2.2.2.1.2.2.1).length := hi
        show ent _ _ (((t ++ [isort (r1 ++ r2)]).flatten ++ X.2.2.2.1.2.2.1).getD i 0)
        rw [c6b, List.append_nil, fl_app] at hi ⊢
        rw [List.length_append, il] at hi
        obtain ⟨v1, v2⟩ := a4 i (by omega)
        obtain ⟨w1, w2⟩ := a3 i (by omega)
        rw [f6.i 32 (by decide), f5.1.i 32 (by decide), f6.i 33 (by decide), f5.1.i 33 (by decide), v1, v2, w1, w2]
        have ro : rot (r1 ++ r2).length ((r1 ++ r2) ++ t.flatten).length i < ((r1 ++ r2) ++ t.flatten).length := by
          unfold rot
          split <;> omega
        have := A2 _ ro
        have e3 : (isort (r1 ++ r2) ++ t.flatten).getD (rot (r1 ++ r2).length ((r1 ++ r2) ++ t.flatten).length i) 0 = (t.flatten ++ isort (r1 ++ r2)).getD i 0 := by
          unfold rot
          by_cases y : i < t.flatten.length
          · rw [if_pos (by omega), gD_apr (by omega), gD_apl y, il]
            congr 1
            omega
          · rw [if_neg (by omega), gD_apl (by omega), gD_apr y]
            congr 1
            omega
        rw [e3] at this
        exact this
      · have hr : r < (t ++ [isort (r1 ++ r2)]).length := hr
        show _ = nI ((t ++ [isort (r1 ++ r2)]).take (r + 1)).flatten.length
        rw [List.length_append, List.length_singleton] at hr
        by_cases y : r = t.length
        · rw [y, b6, List.take_of_length_le (by simp), fl_app, e9, ll, Nat.add_comm]
        · rw [a6 r (by omega), R4 (r + 2) (by omega), List.take_append_of_le_length (by omega), show (r1 :: r2 :: t).take (r + 2 + 1) = r1 :: r2 :: t.take (r + 1) from rfl]
          have e1 : (r1 :: r2 :: t.take (r + 1)).flatten.length = (r1 ++ r2).length + (t.take (r + 1)).flatten.length := by
            rw [List.flatten_cons, List.flatten_cons, ← List.append_assoc, List.length_append]
          rw [e1, nt_sub (by omega), Nat.add_sub_cancel_left]
    have e7 : nI ((r1 ++ r2).length + 7) / 8 = nI ((r1.length + r2.length + 7) / 8) := by
      have l12 := List.length_append (as := r1) (bs := r2)
      rw [l12]
      exact pk_div (a := r1.length + r2.length + 7) (d := 8) (by omega) (by decide) (by decide)
    rw [e7]
    have ex : mgX X = ptX ((r1.length + r2.length + 7) / 8) (mgY r1 r2 t X) := by
      unfold mgX
      rw [hc]
    rw [ex] at K
    have l12 : r1.length + r2.length ≤ 240 := by
      rw [← List.length_append]
      omega
    exact m_writeBlocks M6 (by show X.2.2.1.1 < 7; omega) d0 (by omega) (fun h7 f7 M7 => ⟨_, rfl, by cases (ptX _ _).1 <;> decide, K h7 ((g6.1.mono (by decide)).tr (f7.1.mono (by decide))) M7⟩)
  · have f3 : fz 27 [27] [11] h h3 := by
      rw [e3]
      (repeat first | exact fz.rf | refine fz.up ?_ (by decide) (by decide) | refine fz.sI ?_ (by decide) (by decide) _ | refine fz.sJ ?_ (by decide) _)
    have ex : mgX X = (true, lbX X) := by
      unfold mgX
      split
      · next r1 r2 t hc =>
        rw [hc] at z
        exact absurd (by simp) z
      · rfl
    rw [ex] at K
    rw [← c6b] at B2
    refine K h3 (f3.1.mono (by decide)) ⟨H1.k f3 (by decide), H2.k f3.1 (by decide), ⟨?_, fun _ => ?_, ?_, ?_, ?_⟩, fun _ => (M_bd.k ⟨B1, B2, B3⟩ f3 (by decide) (by decide)), fun _ => L5.k f3 (by decide) (by decide), ⟨H6.1.fr f3.1 (f3.2 33 (by decide)) (by decide), fun y => absurd y (by show ¬ ((3 : Nat) = 4 ∨ (3 : Nat) = 5); decide)⟩, H7.k f3 (by decide) (by decide)⟩
    · rw [e3]
      simp (disch := decide) only [sI_at, sI_ne, sI_21, sI_22, sJ_1, sJ_at, sJ_ne, sJ_22, sW_1, sW_21, upd_at, upd_ne]
      rfl
    · rw [f3.2 12 (by decide)]
      exact H3.2.1 (by omega)
    · rw [f3.2 13 (by decide)]
      exact H3.2.2.1
    · rw [f3.2 14 (by decide)]
      exact H3.2.2.2.1
    · rw [f3.2 15 (by decide)]
      exact H3.2.2.2.2
end MME
