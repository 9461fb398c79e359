/-! questions to the class's tree -/
def okE (E : Int) : Prop := -549755813888 ≤ E ∧ E < 549755813888
theorem key_int {w : Int64} (h : okE w.toInt) : (Int64.toInt32 (w >>> (Int32.toInt64 8 &&& 63))).toInt = w.toInt / 256 := by
  obtain ⟨h1, h2⟩ := h
  have e := l_shr w
  rw [l2i_rng (by rw [e]; omega) (by rw [e]; omega), e]
theorem plc_int (w : Int64) : Int64.toInt32 (w &&& 255) = nI (w.toInt % 256).toNat := by
  have h : w.toInt = (w.toInt / 256) * 256 + ((w.toInt % 256).toNat : Int) := by omega
  exact place_of h (by omega)
/-- the entries of leaves, in order -/
def enL (S : SR) (l : List Nat) : List Int := l.flatMap (fun m => (List.range (nz S m)).map (nh S m))
/-- how many the leaf has in which the p-th is -/
def lsz (S : SR) : List Nat → Nat → Nat
  | [], _ => 0
  | m :: t, p => if p < nz S m then nz S m else lsz S t (p - nz S m)
theorem enL_cons (S : SR) (m : Nat) (t : List Nat) : enL S (m :: t) = (List.range (nz S m)).map (nh S m) ++ enL S t := by
  unfold enL
  rw [List.flatMap_cons]
theorem enL_len (S : SR) (m : Nat) (t : List Nat) : (enL S (m :: t)).length = nz S m + (enL S t).length := by
  rw [enL_cons, List.length_append]
  simp
theorem enL_at0 (S : SR) {m p : Nat} {t : List Nat} (h : p < nz S m) : (enL S (m :: t)).getD p 0 = nh S m p := by
  rw [enL_cons, List.getD_eq_getElem?_getD, List.getElem?_append_left (by simpa using h)]
  simp [h]
theorem enL_at1 (S : SR) {m p : Nat} {t : List Nat} (h : ¬ p < nz S m) : (enL S (m :: t)).getD p 0 = (enL S t).getD (p - nz S m) 0 := by
  rw [enL_cons, List.getD_eq_getElem?_getD, List.getElem?_append_right (by simpa using Nat.not_lt.mp h), List.getD_eq_getElem?_getD]
  simp
/-- rows of a list that an array holds, from a place on -/
def arT (f : Nat → Int32) (i : Nat) (l : List Nat) : Prop := ∀ j, j < l.length → f (i + j) = nI (l.getD j 0)
theorem arT.hd {f : Nat → Int32} {i x : Nat} {l : List Nat} (h : arT f i (x :: l)) : f i = nI x := h 0 (by simp)
theorem arT.tl {f : Nat → Int32} {i x : Nat} {l : List Nat} (h : arT f i (x :: l)) : arT f (i + 1) l := by
  intro j hj
  have := h (j + 1) (by simpa using hj)
  rw [show i + 1 + j = i + (j + 1) by omega, this]
  rfl
theorem arL.tl {f : Nat → Int32} {l : List Nat} (h : arL f l) : arT f 0 l := by
  intro j hj
  rw [Nat.zero_add]
  exact h j hj
section ASK
variable {S : SR} {h : Hp} {Q : Option AV → Hp → Prop} {rk : Nat → Nat}
theorem c_levels_7 (H : C_st S h) (O : okS S rk) : ∀ (r n m : Nat), rk n = r → ¬ nu S n = 0 → m + r < 64 → Q (some (vI (nI (m + r)))) h → Ev mX5_levels 7 [(0, vR 16), (1, vI (nI n)), (2, vI (nI m))] [] h Q := by
  intro r
  induction r with
  | zero =>
    intro n m hr hu hm K
    obtain ⟨o1, o2, o3, o4, o5⟩ := O n hu
    obtain ⟨q1, q2, q3⟩ := H.2.2 n o1 hu
    apply sX5_levels_7
    simp (disch := omega) only [nt_le, nt_lt, nt_eq, nt_cl, nt_vp, nI_add, lu_le, lu_lt, lu_eq, ul_le, ul_lt, ul_eq, lu_add, ul_add, lu_sub, lu_mul, ul_mul, nt_sub, nt_m1]
    rw [q2]
    exact ⟨o1, fun _ => K, fun c => absurd ((rk_pos O hu).mpr hr) c⟩
  | succ r ih =>
    intro n m hr hu hm K
    obtain ⟨o1, o2, o3, o4, o5⟩ := O n hu
    obtain ⟨q1, q2, q3⟩ := H.2.2 n o1 hu
    have hv : ¬ nv S n = 0 := fun q => by
      have := o4 q
      omega
    obtain ⟨o6, o7⟩ := o5 hv
    obtain ⟨k, k1, k2, k3, k4⟩ := o7 0 (by omega)
    have kb := (O k k2).1
    apply sX5_levels_7
    simp (disch := omega) only [nt_le, nt_lt, nt_eq, nt_cl, nt_vp, nI_add, lu_le, lu_lt, lu_eq, ul_le, ul_lt, ul_eq, lu_add, ul_add, lu_sub, lu_mul, ul_mul, nt_sub, nt_m1]
    rw [q2]
    refine ⟨o1, fun c => absurd c hv, fun _ => ⟨fun c => by omega, fun _ => ?_⟩⟩
    refine c_kidOf (i := 0) (k := k) H o1 hu (by omega) (by omega) k1 kb ⟨nI k, rfl, ?_⟩
    refine ih k (m + 1) (by omega) k2 (by omega) ?_
    rw [show m + 1 + r = m + (r + 1) by omega]
    exact K
theorem c_levels (H : C_st S h) (O : okS S rk) {n : Nat} (hn : h.1 16 7 = nI n) (hu : ¬ nu S n = 0) (hr : rk n < 60) (K : Q (some (vI (nI (1 + rk n)))) h) : EvM mX5_levels [vR 16] h Q := by
  apply sX5_levels
  rw [hn]
  exact c_levels_7 H O (rk n) n 1 rfl hu (by omega) K
theorem c_entryAt_10 (H : C_st S h) : ∀ (l : List Nat) (i p x : Nat), arT (h.1 24) i l → (∀ m ∈ l, m < 64 ∧ ¬ nu S m = 0 ∧ nz S m ≤ 8) → i + l.length = x → x ≤ 64 → p < (enL S l).length → (∀ w : Int64, w.toInt = (enL S l).getD p 0 → Q (some (vL w)) h) → Ev mX5_entryAt 10 [(0, vR 16), (2, vI (nI p)), (3, vI (nI x)), (4, vI (nI i))] [] h Q
  | [], i, p, x, ha, hl, hx, hx2, hp, K => absurd hp (by simp [enL])
  | m :: t, i, p, x, ha, hl, hx, hx2, hp, K => by
    obtain ⟨mb, hu, hz⟩ := hl m List.mem_cons_self
    obtain ⟨q1, q2, q3⟩ := H.2.2 m mb hu
    rw [enL_len] at hp
    rw [List.length_cons] at hx
    by_cases hpl : p < 2147483648
    · apply sX5_entryAt_10
      simp (disch := omega) only [nt_le, nt_lt, nt_eq, nt_cl, nt_vp, nI_add, lu_le, lu_lt, lu_eq, ul_le, ul_lt, ul_eq, lu_add, ul_add, lu_sub, lu_mul, ul_mul, nt_sub, nt_m1]
      rw [ha.hd]
      simp (disch := omega) only [nt_le, nt_lt, nt_eq, nt_cl, nt_vp, nI_add, lu_le, lu_lt, lu_eq, ul_le, ul_lt, ul_eq, lu_add, ul_add, lu_sub, lu_mul, ul_mul, nt_sub, nt_m1]
      rw [q1]
      simp (disch := omega) only [nt_le, nt_lt, nt_eq, nt_cl, nt_vp, nI_add, lu_le, lu_lt, lu_eq, ul_le, ul_lt, ul_eq, lu_add, ul_add, lu_sub, lu_mul, ul_mul, nt_sub, nt_m1]
      have nx : ¬ p < nz S m → Ev mX5_entryAt 50 [(0, vR 16), (2, vI (nI p)), (3, vI (nI x)), (4, vI (nI i)), (5, vI (nI m))] [] h Q := by
        intro hpm
        apply sX5_entryAt_50
        simp (disch := omega) only [nt_le, nt_lt, nt_eq, nt_cl, nt_vp, nI_add, lu_le, lu_lt, lu_eq, ul_le, ul_lt, ul_eq, lu_add, ul_add, lu_sub, lu_mul, ul_mul, nt_sub, nt_m1]
        rw [q1]
        simp (disch := omega) only [nt_le, nt_lt, nt_eq, nt_cl, nt_vp, nI_add, lu_le, lu_lt, lu_eq, ul_le, ul_lt, ul_eq, lu_add, ul_add, lu_sub, lu_mul, ul_mul, nt_sub, nt_m1]
        refine ⟨mb, c_entryAt_10 H t (i + 1) (p - nz S m) x ha.tl (fun z hz => hl z (List.mem_cons_of_mem _ hz)) (by omega) hx2 (by omega) (fun w hw => K w ?_)⟩
        rw [enL_at1 S hpm]
        exact hw
      refine ⟨fun c => by omega, fun _ => ⟨by omega, fun c => by omega, fun _ => ⟨mb, fun c => nx (by omega), fun c => ⟨mb, by omega, ?_⟩⟩⟩⟩
      refine K _ ?_
      rw [enL_at0 S (by omega)]
      exact q3 p (by omega)
    · exfalso
      have : (enL S t).length ≤ 8 * t.length := by
        clear hp ha hx K
        induction t with
        | nil => simp [enL]
        | cons y t ih =>
          rw [enL_len, List.length_cons]
          have h1 := (hl y (by simp)).2.2
          have h2 := ih (fun z hz => hl z (by simp only [List.mem_cons] at hz ⊢; rcases hz with a | a; exact Or.inl a; exact Or.inr (Or.inr a)))
          omega
      omega
theorem c_sizeOf_10 (H : C_st S h) : ∀ (l : List Nat) (i p x : Nat), arT (h.1 24) i l → (∀ m ∈ l, m < 64 ∧ ¬ nu S m = 0 ∧ nz S m ≤ 8) → i + l.length = x → x ≤ 64 → p < (enL S l).length → p < 2147483648 → Q (some (vI (nI (lsz S l p)))) h → Ev mX5_sizeOfLeafAt 10 [(0, vR 16), (2, vI (nI p)), (3, vI (nI x)), (4, vI (nI i))] [] h Q
  | [], i, p, x, ha, hl, hx, hx2, hp, hpl, K => absurd hp (by simp [enL])
  | m :: t, i, p, x, ha, hl, hx, hx2, hp, hpl, K => by
    obtain ⟨mb, hu, hz⟩ := hl m List.mem_cons_self
    obtain ⟨q1, q2, q3⟩ := H.2.2 m mb hu
    rw [enL_len] at hp
    rw [List.length_cons] at hx
    apply sX5_sizeOfLeafAt_10
    simp (disch := omega) only [nt_le, nt_lt, nt_eq, nt_cl, nt_vp, nI_add, lu_le, lu_lt, lu_eq, ul_le, ul_lt, ul_eq, lu_add, ul_add, lu_sub, lu_mul, ul_mul, nt_sub, nt_m1]
    rw [ha.hd]
    simp (disch := omega) only [nt_le, nt_lt, nt_eq, nt_cl, nt_vp, nI_add, lu_le, lu_lt, lu_eq, ul_le, ul_lt, ul_eq, lu_add, ul_add, lu_sub, lu_mul, ul_mul, nt_sub, nt_m1]
    rw [q1]
    simp (disch := omega) only [nt_le, nt_lt, nt_eq, nt_cl, nt_vp, nI_add, lu_le, lu_lt, lu_eq, ul_le, ul_lt, ul_eq, lu_add, ul_add, lu_sub, lu_mul, ul_mul, nt_sub, nt_m1]
    refine ⟨fun c => by omega, fun _ => ⟨by omega, mb, fun c => ⟨mb, ?_⟩, fun c => ⟨mb, ?_⟩⟩⟩
    · simp (disch := omega) only [nt_le, nt_lt, nt_eq, nt_cl, nt_vp, nI_add, lu_le, lu_lt, lu_eq, ul_le, ul_lt, ul_eq, lu_add, ul_add, lu_sub, lu_mul, ul_mul, nt_sub, nt_m1]
      refine c_sizeOf_10 H t (i + 1) (p - nz S m) x ha.tl (fun z hz => hl z (List.mem_cons_of_mem _ hz)) (by omega) hx2 (by omega) (by omega) ?_
      rw [lsz, if_neg (by omega)] at K
      exact K
    · rw [lsz, if_pos (by omega)] at K
      exact K
/-- which entries are asked for -/
def inr (lo hi : Int32) (E : Int) : Bool := decide (lo.toInt ≤ E / 256) && decide (E / 256 ≤ hi.toInt)
def tlL (lo hi : Int32) (es : List Int) : List Nat := (es.filter (inr lo hi)).map (fun E => (E % 256).toNat)
theorem tlL_len (lo hi : Int32) (es : List Int) : (tlL lo hi es).length ≤ es.length := by
  unfold tlL
  rw [List.length_map]
  exact List.length_filter_le _ _
theorem tlL_app (lo hi : Int32) (a b : List Int) : tlL lo hi (a ++ b) = tlL lo hi a ++ tlL lo hi b := by
  unfold tlL
  rw [List.filter_append, List.map_append]
theorem c_tell_31 (O : okS S rk) {lo hi : Int32} {x i m : Nat} (mb : m < 64) (hu : ¬ nu S m = 0) (hz : nz S m ≤ 8) (hE : ∀ j, j < nz S m → okE (nh S m j)) : ∀ (d t : Nat) (a : List Nat) (h : Hp), C_st S h → t + d = nz S m → a.length + d ≤ 240 → arL (h.1 26) a →
    (∀ h', fr [26] h h' → arL (h'.1 26) (a ++ tlL lo hi (((List.range (nz S m)).map (nh S m)).drop t)) → Ev mX5_tell 12 [(0, vR 16), (1, vI lo), (2, vI hi), (3, vR 26), (4, vI (nI x)), (5, vI (nI (a ++ tlL lo hi (((List.range (nz S m)).map (nh S m)).drop t)).length)), (6, vI (nI (i + 1)))] [] h' Q) → Ev mX5_tell 31 [(0, vR 16), (1, vI lo), (2, vI hi), (3, vR 26), (4, vI (nI x)), (5, vI (nI a.length)), (6, vI (nI i)), (7, vI (nI m)), (8, vI (nI t))] [] h Q := by
  intro d
  induction d with
  | zero =>
    intro t a h H ht hl ha K
    obtain ⟨q1, q2, q3⟩ := H.2.2 m mb hu
    have hdr : ((List.range (nz S m)).map (nh S m)).drop t = [] := List.drop_eq_nil_of_le (by simp; omega)
    rw [hdr] at K
    apply sX5_tell_31
    simp (disch := omega) only [nt_le, nt_lt, nt_eq, nt_cl, nt_vp, nI_add, lu_le, lu_lt, lu_eq, ul_le, ul_lt, ul_eq, lu_add, ul_add, lu_sub, lu_mul, ul_mul, nt_sub, nt_m1]
    rw [q1]
    simp (disch := omega) only [nt_le, nt_lt, nt_eq, nt_cl, nt_vp, nI_add, lu_le, lu_lt, lu_eq, ul_le, ul_lt, ul_eq, lu_add, ul_add, lu_sub, lu_mul, ul_mul, nt_sub, nt_m1]
    refine ⟨mb, fun _ => ?_, fun c => by omega⟩
    have := K h fr.rf (by simpa [tlL] using ha)
    simpa [tlL] using this
  | succ d ih =>
    intro t a h H ht hl ha K
    obtain ⟨q1, q2, q3⟩ := H.2.2 m mb hu
    have ht2 : t < ((List.range (nz S m)).map (nh S m)).length := by simp; omega
    have ed : ((List.range (nz S m)).map (nh S m)).drop t = nh S m t :: ((List.range (nz S m)).map (nh S m)).drop (t + 1) := by
      rw [List.drop_eq_getElem_cons ht2]
      simp
    have qt := q3 t (by omega)
    have oke := hE t (by omega)
    have kk : (Int64.toInt32 (h.2.2 m t >>> (Int32.toInt64 8 &&& 63))).toInt = nh S m t / 256 := by
      rw [key_int (by rw [qt]; exact oke), qt]
    apply sX5_tell_31
    simp (disch := omega) only [nt_le, nt_lt, nt_eq, nt_cl, nt_vp, nI_add, lu_le, lu_lt, lu_eq, ul_le, ul_lt, ul_eq, lu_add, ul_add, lu_sub, lu_mul, ul_mul, nt_sub, nt_m1]
    rw [q1]
    simp (disch := omega) only [nt_le, nt_lt, nt_eq, nt_cl, nt_vp, nI_add, lu_le, lu_lt, lu_eq, ul_le, ul_lt, ul_eq, lu_add, ul_add, lu_sub, lu_mul, ul_mul, nt_sub, nt_m1]
    refine ⟨mb, fun c => by omega, fun _ => ⟨fun c => by omega, fun _ => ⟨mb, by omega, ?_⟩⟩⟩
    apply sX6_keyOf
    refine ⟨_, rfl, ?_⟩
    rw [Int32.lt_iff_toInt_lt, Int32.lt_iff_toInt_lt, kk]
    have skip : inr lo hi (nh S m t) = false → Ev mX5_tell 31 [(0, vR 16), (1, vI lo), (2, vI hi), (3, vR 26), (4, vI (nI x)), (5, vI (nI a.length)), (6, vI (nI i)), (7, vI (nI m)), (8, vI (nI (t + 1)))] [] h Q := by
      intro hi2
      refine ih (t + 1) a h H (by omega) (by omega) ha (fun h' y1 y2 => ?_)
      have e9 : tlL lo hi (((List.range (nz S m)).map (nh S m)).drop t) = tlL lo hi (((List.range (nz S m)).map (nh S m)).drop (t + 1)) := by
        rw [ed]
        unfold tlL
        rw [List.filter_cons, hi2]
        rfl
      rw [e9] at K
      exact K h' y1 y2
    refine ⟨fun c => skip ?_, fun c => ⟨fun c2 => skip ?_, fun c2 => ⟨mb, by omega, ?_⟩⟩⟩
    · unfold inr
      rw [decide_eq_false (show ¬ lo.toInt ≤ nh S m t / 256 by omega), Bool.false_and]
    · unfold inr
      rw [decide_eq_false (show ¬ nh S m t / 256 ≤ hi.toInt by omega), Bool.and_false]
    · apply sX6_placeOf
      refine ⟨_, rfl, by omega, fun h9 e9 => ?_⟩
      rw [plc_int, qt] at e9
      have f9 : fr [26] h h9 := by rw [e9]; exact fr.rf.sI (by decide) _
      have e10 : tlL lo hi (((List.range (nz S m)).map (nh S m)).drop t) = [(nh S m t % 256).toNat] ++ tlL lo hi (((List.range (nz S m)).map (nh S m)).drop (t + 1)) := by
        rw [ed]
        unfold tlL
        rw [List.filter_cons]
        have hin : inr lo hi (nh S m t) = true := by
          unfold inr
          rw [decide_eq_true (show lo.toInt ≤ nh S m t / 256 by omega), decide_eq_true (show nh S m t / 256 ≤ hi.toInt by omega)]
          rfl
        rw [hin]
        rfl
      rw [e10, ← List.append_assoc] at K
      have := ih (t + 1) (a ++ [(nh S m t % 256).toNat]) h9 (H.fr f9 (by rw [f9.i 16 (by decide)]) (by decide)) (by omega) (by rw [List.length_append]; simp; omega) (by rw [e9, sI_at]; exact arL_snoc ha) (fun h' y1 y2 => K h' (f9.tr y1) y2)
      rw [List.length_append] at this
      exact this
end ASK
