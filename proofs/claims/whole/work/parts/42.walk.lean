/-! ways down -/
theorem C_st.fr {S : SR} {h h' : Hp} {T : List Nat} (H : C_st S h) (f : fr T h h') (h5 : h'.1 16 5 = h.1 16 5) (hs : 17 ∉ T ∧ 18 ∉ T ∧ 19 ∉ T ∧ 20 ∉ T ∧ 21 ∉ T) : C_st S h' := by
  obtain ⟨q1, q2, q3, q4, q5⟩ := hs
  unfold C_st
  rw [h5, f.i 18 q2, f.i 19 q3, f.i 20 q4, f.i 21 q5, f.2 q1]
  exact H
/-- every node that is used is in order; rk: its height -/
def okS (S : SR) (rk : Nat → Nat) : Prop := ∀ n, ¬ nu S n = 0 → n < 64 ∧ nz S n ≤ 8 ∧ (nv S n = 0 ∨ nv S n = 1) ∧ (nv S n = 0 → rk n = 0) ∧ (¬ nv S n = 0 → 1 ≤ nz S n ∧ ∀ i, i < nz S n → ∃ k : Nat, nh S n i = k ∧ ¬ nu S k = 0 ∧ rk k + 1 = rk n ∧ 1 ≤ nz S k)
def lst (S : SR) : Nat → Nat → Int
  | 0, n => nh S n 0
  | r + 1, n => if nv S n = 0 then nh S n 0 else lst S r (nh S n 0).toNat
def chg (S : SR) (e : Int) (r n : Nat) : Nat → Nat
  | 0 => 0
  | k + 1 => if e < lst S r (nh S n (k + 1)).toNat then chg S e r n k else k + 1
theorem chg_le (S : SR) (e : Int) (r n : Nat) : ∀ k, chg S e r n k ≤ k
  | 0 => Nat.le_refl _
  | k + 1 => by
    have := chg_le S e r n k
    unfold chg
    split <;> omega
def chz (S : SR) (e : Int) (r n : Nat) : Nat := chg S e r n (nz S n - 1)
def pw (S : SR) (e : Int) : Nat → Nat → List (Nat × Nat) × Nat
  | 0, n => ([], n)
  | r + 1, n => if nv S n = 0 then ([], n) else ((n, chz S e r n) :: (pw S e r (nh S n (chz S e r n)).toNat).1, (pw S e r (nh S n (chz S e r n)).toNat).2)
theorem pw_len (S : SR) (e : Int) : ∀ r n, (pw S e r n).1.length ≤ r
  | 0, n => Nat.le_refl _
  | r + 1, n => by
    unfold pw
    split
    · exact Nat.zero_le _
    · have := pw_len S e r (nh S n (chz S e r n)).toNat
      simp only [List.length_cons]
      omega
def C_way (x : List (Nat × Nat) × Nat) (h : Hp) : Prop := h.1 16 10 = nI x.1.length ∧ (∀ k, k < x.1.length → h.1 22 k = nI (x.1.getD k (0, 0)).1 ∧ h.1 23 (k + 1) = nI (x.1.getD k (0, 0)).2) ∧ h.1 22 x.1.length = nI x.2
section WLK
variable {S : SR} {h : Hp} {Q : Option AV → Hp → Prop} {rk : Nat → Nat}
theorem c_leastOf_4 (H : C_st S h) (O : okS S rk) : ∀ (r n d : Nat), rk n = r → ¬ nu S n = 0 → 1 ≤ nz S n → d + r < 64 → (∀ w : Int64, w.toInt = lst S r n → Q (some (vL w)) h) → Ev mX5_leastOf 4 [(0, vR 16), (2, vI (nI n)), (3, vI (nI d))] [] h Q := by
  intro r
  induction r with
  | zero =>
    intro n d hr hu hz hd HQ
    obtain ⟨o1, o2, o3, o4, o5⟩ := O n hu
    obtain ⟨q1, q2, q3⟩ := H.2.2 n o1 hu
    have hv : nv S n = 0 := by
      rcases o3 with o3 | o3
      · exact o3
      · obtain ⟨z, o6⟩ := o5 (by rw [o3]; decide)
        obtain ⟨k, -, -, o7, -⟩ := o6 0 (by omega)
        omega
    apply sX5_leastOf_4
    simp (disch := omega) only [nt_le, nt_lt, nt_eq, nt_cl, nt_vp, nI_add, lu_le, lu_lt, lu_eq, ul_le, ul_lt, ul_eq, lu_add, ul_add, lu_sub, lu_mul, ul_mul, nt_sub, nt_m1]
    rw [q2]
    refine ⟨fun c => by omega, fun c => ⟨o1, fun _ => ?_, fun c2 => absurd hv c2⟩⟩
    apply sX5_leastOf_32
    simp (disch := omega) only [nt_le, nt_lt, nt_eq, nt_cl, nt_vp, nI_add, lu_le, lu_lt, lu_eq, ul_le, ul_lt, ul_eq, lu_add, ul_add, lu_sub, lu_mul, ul_mul, nt_sub, nt_m1]
    exact ⟨o1, HQ _ (q3 0 (by omega))⟩
  | succ r ih =>
    intro n d hr hu hz hd HQ
    obtain ⟨o1, o2, o3, o4, o5⟩ := O n hu
    obtain ⟨q1, q2, q3⟩ := H.2.2 n o1 hu
    have hv : ¬ nv S n = 0 := fun q => by
      have := o4 q
      omega
    obtain ⟨o6, o7⟩ := o5 hv
    obtain ⟨k, k1, k2, k3, k4⟩ := o7 0 (by omega)
    have kb := (O k k2).1
    apply sX5_leastOf_4
    simp (disch := omega) only [nt_le, nt_lt, nt_eq, nt_cl, nt_vp, nI_add, lu_le, lu_lt, lu_eq, ul_le, ul_lt, ul_eq, lu_add, ul_add, lu_sub, lu_mul, ul_mul, nt_sub, nt_m1]
    rw [q2]
    refine ⟨fun c => by omega, fun c => ⟨o1, fun c2 => absurd c2 hv, fun _ => ?_⟩⟩
    refine c_kidOf (i := 0) (k := k) H o1 hu (by omega) (by omega) k1 kb ⟨nI k, rfl, ?_⟩
    refine ih k (d + 1) (by omega) k2 k4 (by omega) (fun w hw => HQ w ?_)
    rw [hw]
    show _ = if _ then _ else _
    rw [if_neg hv, k1]
    rfl
theorem c_leastOf (H : C_st S h) (O : okS S rk) {n : Nat} (hu : ¬ nu S n = 0) (hz : 1 ≤ nz S n) (hr : rk n < 64) (HQ : ∀ w : Int64, w.toInt = lst S (rk n) n → Q (some (vL w)) h) : EvM mX5_leastOf [vR 16, vI (nI n)] h Q := by
  apply sX5_leastOf
  exact c_leastOf_4 H O (rk n) n 0 rfl hu hz (by omega) HQ
theorem c_goDown_55 (H : C_st S h) (O : okS S rk) {n : Nat} {e : Int64} (hu : ¬ nu S n = 0) (hv : ¬ nv S n = 0) (hr : rk n < 64) : ∀ k, k < nz S n → Ev mX5_goDown 82 [(0, vR 16), (1, vL e), (3, vI (nI n)), (4, vI (nI (chg S e.toInt (rk n - 1) n k)))] [] h Q → Ev mX5_goDown 55 [(0, vR 16), (1, vL e), (3, vI (nI n)), (4, vI (nI k))] [] h Q := by
  obtain ⟨o1, o2, o3, o4, o5⟩ := O n hu
  obtain ⟨o6, o7⟩ := o5 hv
  intro k
  induction k with
  | zero =>
    intro hk K
    apply sX5_goDown_55
    exact ⟨fun _ => K, fun c => absurd (by decide) c⟩
  | succ k ih =>
    intro hk K
    obtain ⟨q, k1, k2, k3, k4⟩ := o7 (k + 1) hk
    have kb := (O q k2).1
    apply sX5_goDown_55
    simp (disch := omega) only [nt_le, nt_lt, nt_eq, nt_cl, nt_vp, nI_add, lu_le, lu_lt, lu_eq, ul_le, ul_lt, ul_eq, lu_add, ul_add, lu_sub, lu_mul, ul_mul, nt_sub, nt_m1]
    refine ⟨fun c => by omega, fun c => ?_⟩
    refine c_kidOf (k := q) H o1 hu hk (by omega) k1 kb ⟨nI q, rfl, ?_⟩
    refine c_leastOf H O k2 k4 (by omega) (fun w hw => ⟨w, rfl, ?_⟩)
    rw [lg_le, hw, show rk q = rk n - 1 by omega]
    have e1 : chg S e.toInt (rk n - 1) n (k + 1) = if e.toInt < lst S (rk n - 1) q then chg S e.toInt (rk n - 1) n k else k + 1 := by
      show (if _ then _ else _) = _
      rw [k1]
      rfl
    rw [e1] at K
    refine ⟨fun c2 => ?_, fun c2 => ?_⟩
    · rw [if_neg (by omega)] at K
      exact K
    · rw [if_pos (by omega)] at K
      rw [show k + 1 - 1 = k by omega]
      exact ih (by omega) K
theorem c_goDown_27 (H : C_st S h) (O : okS S rk) {e : Int64} {h0 : Hp} : ∀ (r n : Nat) (pl : List (Nat × Nat)) (h' : Hp), rk n = r → ¬ nu S n = 0 → pl.length + r < 60 → fr [16, 22, 23] h h' → (∀ q, q ≠ 10 → h'.1 16 q = h.1 16 q) → C_way (pl, n) h' →
    (∀ h'', fr [16, 22, 23] h h'' → (∀ q, q ≠ 10 → h''.1 16 q = h.1 16 q) → C_way (pl ++ (pw S e.toInt r n).1, (pw S e.toInt r n).2) h'' → Q none h'') → Ev mX5_goDown 27 [(0, vR 16), (1, vL e), (3, vI (nI n))] [] h' Q := by
  intro r
  induction r with
  | zero =>
    intro n pl h' hr hu hl f f16 hw HQ
    obtain ⟨o1, o2, o3, o4, o5⟩ := O n hu
    have H' : C_st S h' := H.fr f (f16 5 (by decide)) (by decide)
    obtain ⟨q1, q2, q3⟩ := H'.2.2 n o1 hu
    have hv : nv S n = 0 := by
      rcases o3 with o3 | o3
      · exact o3
      · obtain ⟨z, o6⟩ := o5 (by rw [o3]; decide)
        obtain ⟨k, -, -, o7, -⟩ := o6 0 (by omega)
        omega
    apply sX5_goDown_27
    simp (disch := omega) only [nt_le, nt_lt, nt_eq, nt_cl, nt_vp, nI_add, lu_le, lu_lt, lu_eq, ul_le, ul_lt, ul_eq, lu_add, ul_add, lu_sub, lu_mul, ul_mul, nt_sub, nt_m1]
    rw [q2]
    refine ⟨o1, fun _ => HQ h' f f16 ?_, fun c => absurd hv c⟩
    show C_way (pl ++ [], n) h'
    rw [List.append_nil]
    exact hw
  | succ r ih =>
    intro n pl h' hr hu hl f f16 hw HQ
    obtain ⟨o1, o2, o3, o4, o5⟩ := O n hu
    have H' : C_st S h' := H.fr f (f16 5 (by decide)) (by decide)
    obtain ⟨q1, q2, q3⟩ := H'.2.2 n o1 hu
    have hv : ¬ nv S n = 0 := fun q => by
      have := o4 q
      omega
    obtain ⟨o6, o7⟩ := o5 hv
    have hw0 : h'.1 16 10 = nI pl.length := hw.1
    apply sX5_goDown_27
    simp (disch := omega) only [nt_le, nt_lt, nt_eq, nt_cl, nt_vp, nI_add, lu_le, lu_lt, lu_eq, ul_le, ul_lt, ul_eq, lu_add, ul_add, lu_sub, lu_mul, ul_mul, nt_sub, nt_m1]
    rw [q2, hw0, q1]
    simp (disch := omega) only [nt_le, nt_lt, nt_eq, nt_cl, nt_vp, nI_add, lu_le, lu_lt, lu_eq, ul_le, ul_lt, ul_eq, lu_add, ul_add, lu_sub, lu_mul, ul_mul, nt_sub, nt_m1]
    refine ⟨o1, fun c => absurd c hv, fun _ => ⟨fun c => by omega, fun c => ⟨o1, ?_⟩⟩⟩
    refine c_goDown_55 H' O hu hv (by omega) (nz S n - 1) (by omega) ?_
    have ht : chg S e.toInt (rk n - 1) n (nz S n - 1) = chz S e.toInt r n := by rw [hr]; rfl
    rw [ht]
    have htl : chz S e.toInt r n < nz S n := by
      have := chg_le S e.toInt r n (nz S n - 1)
      unfold chz
      omega
    have HQ2 := HQ
    rw [show pw S e.toInt (r + 1) n = ((n, chz S e.toInt r n) :: (pw S e.toInt r (nh S n (chz S e.toInt r n)).toNat).1, (pw S e.toInt r (nh S n (chz S e.toInt r n)).toNat).2) by rw [pw, if_neg hv]] at HQ2
    generalize chz S e.toInt r n = t at htl HQ2 ⊢
    obtain ⟨q, k1, k2, k3, k4⟩ := o7 t htl
    rw [k1] at HQ2
    have kb := (O q k2).1
    apply sX5_goDown_82
    refine c_kidOf (k := q) H' o1 hu htl (by omega) k1 kb ⟨nI q, rfl, ?_⟩
    intro h3 e3
    have a3 : h3.1 16 10 = nI (pl.length + 1) := by rw [e3, sI_at, upd_at, hw0]; exact nI_1 _
    rw [a3]
    simp (disch := omega) only [nt_le, nt_lt, nt_eq, nt_cl, nt_vp, nI_add, lu_le, lu_lt, lu_eq, ul_le, ul_lt, ul_eq, lu_add, ul_add, lu_sub, lu_mul, ul_mul, nt_sub, nt_m1]
    refine ⟨by omega, fun h5 e5 => ?_⟩
    have a5 : h5.1 16 10 = nI (pl.length + 1) := by rw [e5, sI_ne _ _ (by decide), a3]
    rw [a5]
    simp (disch := omega) only [nt_le, nt_lt, nt_eq, nt_cl, nt_vp, nI_add, lu_le, lu_lt, lu_eq, ul_le, ul_lt, ul_eq, lu_add, ul_add, lu_sub, lu_mul, ul_mul, nt_sub, nt_m1]
    refine ⟨by omega, fun h7 e7 => ?_⟩
    have w22 : h7.1 22 = upd (h'.1 22) (pl.length + 1) (nI q) := by rw [e7, sI_ne _ _ (by decide), e5, sI_at, e3, sI_ne _ _ (by decide)]
    have w23 : h7.1 23 = upd (h'.1 23) (pl.length + 1) (nI t) := by rw [e7, sI_at, e5, sI_ne _ _ (by decide), e3, sI_ne _ _ (by decide)]
    refine ih q (pl ++ [(n, t)]) h7 (by omega) k2 (by rw [List.length_append]; simp; omega) (by rw [e7, e5, e3]; exact ((f.sI (by decide) _).sI (by decide) _).sI (by decide) _) (fun z hz => ?_) ⟨?_, fun k hk => ?_, ?_⟩ (fun h'' g1 g2 g3 => HQ2 h'' g1 g2 ?_)
    · rw [e7, sI_ne _ _ (by decide), e5, sI_ne _ _ (by decide), e3, sI_at, upd_ne _ _ hz]
      exact f16 z hz
    · show h7.1 16 10 = nI (pl ++ [(n, t)]).length
      rw [e7, sI_ne _ _ (by decide), a5, List.length_append]
      rfl
    · have hk2 : k < pl.length + 1 := by simpa using hk
      rw [w22, w23]
      by_cases c2 : k = pl.length
      · subst c2
        rw [upd_ne _ _ (by omega), upd_at]
        have : h'.1 22 pl.length = nI n := hw.2.2
        rw [this]
        simp [List.getD]
      · obtain ⟨y1, y2⟩ := hw.2.1 k (by show k < pl.length; omega)
        rw [upd_ne _ _ (by omega), upd_ne _ _ (by omega), y1, y2]
        simp [List.getD_eq_getElem?_getD, List.getElem?_append_left (show k < pl.length by omega)]
    · show h7.1 22 (pl ++ [(n, t)]).length = nI q
      rw [w22, List.length_append]
      exact upd_at _ _ _
    · have e9 : (pl ++ [(n, t)]) ++ (pw S e.toInt r q).1 = pl ++ (n, t) :: (pw S e.toInt r q).1 := by simp
      rw [e9] at g3
      exact g3
theorem c_goDown (H : C_st S h) (O : okS S rk) {e : Int64} {n : Nat} (hn : h.1 16 7 = nI n) (hu : ¬ nu S n = 0) (hr : rk n < 60)
    (HQ : ∀ h', fr [16, 22, 23] h h' → (∀ q, q ≠ 10 → h'.1 16 q = h.1 16 q) → C_way (pw S e.toInt (rk n) n) h' → Q none h') : EvM mX5_goDown [vR 16, vL e] h Q := by
  apply sX5_goDown
  intro h1 e1 h2 e2 h3 e3
  rw [hn]
  have f : fr [16, 22, 23] h h3 := by
    rw [e3, e2, e1]
    exact ((fr.rf.sI (by decide) _).sI (by decide) _).sI (by decide) _
  refine c_goDown_27 (h0 := h) H O (rk n) n [] h3 rfl hu (by simpa using hr) f (fun q hq => ?_) ⟨?_, fun k hk => absurd hk (Nat.not_lt_zero _), ?_⟩ (fun h'' g1 g2 g3 => HQ h'' g1 g2 g3)
  · rw [e3, sI_ne _ _ (by decide), e2, sI_ne _ _ (by decide), e1, sI_at, upd_ne _ _ hq]
  · rw [e3, sI_ne _ _ (by decide), e2, sI_ne _ _ (by decide), e1, sI_at, upd_at]
    rfl
  · show h3.1 22 0 = nI n
    rw [e3, sI_ne _ _ (by decide), e2, sI_at]
    show upd (h1.1 22) 0 (h1.1 16 7) 0 = nI n
    rw [upd_at, e1, sI_at, upd_ne _ _ (by decide), hn]
end WLK
