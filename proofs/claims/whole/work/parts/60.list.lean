/-! rows of nodes, listed -/
def kids (S : SR) (n : Nat) : List Nat := (List.range (nz S n)).map (fun i => (nh S n i).toNat)
def rwB (S : SR) (l : List Nat) : List Nat := l.flatMap (kids S)
/-- the row so many below -/
def rws (S : SR) : Nat → List Nat → List Nat
  | 0, l => l
  | j + 1, l => rws S j (rwB S l)
theorem kids_len (S : SR) (n : Nat) : (kids S n).length = nz S n := by simp [kids]
theorem kids_at (S : SR) {n i : Nat} (hi : i < nz S n) : (kids S n).getD i 0 = (nh S n i).toNat := by
  simp [kids, List.getD_eq_getElem?_getD, hi]
/-- an array holds a list -/
def arL (f : Nat → Int32) (l : List Nat) : Prop := ∀ i, i < l.length → f i = nI (l.getD i 0)
theorem arL_snoc {f : Nat → Int32} {l : List Nat} {v : Nat} (h : arL f l) : arL (upd f l.length (nI v)) (l ++ [v]) := by
  intro i hi
  have hi2 : i < l.length + 1 := by simpa using hi
  by_cases q : i = l.length
  · subst q
    rw [upd_at]
    simp [List.getD_eq_getElem?_getD]
  · rw [upd_ne _ _ q, h i (by omega)]
    simp [List.getD_eq_getElem?_getD, List.getElem?_append_left (show i < l.length by omega)]
theorem okS_kid {S : SR} {rk : Nat → Nat} (O : okS S rk) {n : Nat} (hu : ¬ nu S n = 0) (hv : ¬ nv S n = 0) {k : Nat} (hk : k ∈ kids S n) : ¬ nu S k = 0 ∧ rk k + 1 = rk n ∧ 1 ≤ nz S k := by
  obtain ⟨i, hi, rfl⟩ := List.mem_map.mp hk
  have hi2 : i < nz S n := List.mem_range.mp hi
  obtain ⟨q, k1, k2, k3, k4⟩ := ((O n hu).2.2.2.2 hv).2 i hi2
  rw [k1, Int.toNat_natCast]
  exact ⟨k2, k3, k4⟩
theorem rk_pos {S : SR} {rk : Nat → Nat} (O : okS S rk) {n : Nat} (hu : ¬ nu S n = 0) : nv S n = 0 ↔ rk n = 0 := by
  obtain ⟨o1, o2, o3, o4, o5⟩ := O n hu
  refine ⟨o4, fun h => ?_⟩
  rcases o3 with q | q
  · exact q
  · obtain ⟨z, o6⟩ := o5 (by rw [q]; decide)
    obtain ⟨k, -, -, o7, -⟩ := o6 0 (by omega)
    omega
section LST
variable {S : SR} {Q : Option AV → Hp → Prop} {rk : Nat → Nat}
theorem c_listRow_20 {n x i : Nat} (O : okS S rk) (hu : ¬ nu S n = 0) (hv : ¬ nv S n = 0) : ∀ (d t : Nat) (a : List Nat) (h : Hp), C_st S h → t + d = nz S n → a.length + d ≤ 64 → arL (h.1 25) a →
    (∀ h', fr [25] h h' → arL (h'.1 25) (a ++ (kids S n).drop t) → Ev mX5_listRowBelow 4 [(0, vR 16), (1, vI (nI x)), (2, vI (nI (a.length + d))), (3, vI (nI (i + 1)))] [] h' Q) → Ev mX5_listRowBelow 20 [(0, vR 16), (1, vI (nI x)), (2, vI (nI a.length)), (3, vI (nI i)), (4, vI (nI n)), (5, vI (nI t))] [] h Q := by
  obtain ⟨o1, o2, o3, o4, o5⟩ := O n hu
  obtain ⟨o6, o7⟩ := o5 hv
  intro d
  induction d with
  | zero =>
    intro t a h H ht hl ha K
    obtain ⟨q1, q2, q3⟩ := H.2.2 n o1 hu
    apply sX5_listRowBelow_20
    simp (disch := omega) only [nt_le, nt_lt, nt_eq, nt_cl, nt_vp, nI_add, lu_le, lu_lt, lu_eq, ul_le, ul_lt, ul_eq, lu_add, ul_add, lu_sub, lu_mul, ul_mul, nt_sub, nt_m1]
    rw [q1]
    simp (disch := omega) only [nt_le, nt_lt, nt_eq, nt_cl, nt_vp, nI_add, lu_le, lu_lt, lu_eq, ul_le, ul_lt, ul_eq, lu_add, ul_add, lu_sub, lu_mul, ul_mul, nt_sub, nt_m1]
    refine ⟨o1, fun _ => ?_, fun c => by omega⟩
    refine K h fr.rf ?_
    rw [List.drop_eq_nil_of_le (by rw [kids_len]; omega), List.append_nil]
    exact ha
  | succ d ih =>
    intro t a h H ht hl ha K
    obtain ⟨q1, q2, q3⟩ := H.2.2 n o1 hu
    obtain ⟨q, k1, k2, k3, k4⟩ := o7 t (by omega)
    have kb := (O q k2).1
    apply sX5_listRowBelow_20
    simp (disch := omega) only [nt_le, nt_lt, nt_eq, nt_cl, nt_vp, nI_add, lu_le, lu_lt, lu_eq, ul_le, ul_lt, ul_eq, lu_add, ul_add, lu_sub, lu_mul, ul_mul, nt_sub, nt_m1]
    rw [q1]
    simp (disch := omega) only [nt_le, nt_lt, nt_eq, nt_cl, nt_vp, nI_add, lu_le, lu_lt, lu_eq, ul_le, ul_lt, ul_eq, lu_add, ul_add, lu_sub, lu_mul, ul_mul, nt_sub, nt_m1]
    refine ⟨o1, fun c => by omega, fun _ => ⟨fun c => by omega, fun _ => ?_⟩⟩
    refine c_kidOf (k := q) H o1 hu (by omega) (by omega) k1 kb ⟨nI q, rfl, by omega, fun h7 e7 => ?_⟩
    have f7 : fr [25] h h7 := by rw [e7]; exact fr.rf.sI (by decide) _
    have a7 : arL (h7.1 25) (a ++ [q]) := by rw [e7, sI_at]; exact arL_snoc ha
    have := ih (t + 1) (a ++ [q]) h7 (H.fr f7 (by rw [f7.i 16 (by decide)]) (by decide)) (by omega) (by rw [List.length_append]; simp; omega) a7 (fun h' y1 y2 => ?_)
    · rw [List.length_append] at this
      exact this
    · have e1 : a ++ [q] ++ (kids S n).drop (t + 1) = a ++ (kids S n).drop t := by
        have ht2 : t < (kids S n).length := by rw [kids_len]; omega
        have e0 := kids_at S (show t < nz S n by omega)
        rw [k1, Int.toNat_natCast, List.getD_eq_getElem?_getD, List.getElem?_eq_getElem ht2] at e0
        have e0 : (kids S n)[t] = q := e0
        rw [List.drop_eq_getElem_cons ht2, List.append_assoc, e0]
        rfl
      rw [e1] at y2
      have := K h' (f7.tr y1) y2
      rw [List.length_append, show a.length + [q].length + d = a.length + (d + 1) by simp; omega]
      exact this
theorem c_listRow_4 (O : okS S rk) {l : List Nat} (hlu : ∀ n ∈ l, ¬ nu S n = 0 ∧ ¬ nv S n = 0) (hr : (rwB S l).length ≤ 64) (hl64 : l.length ≤ 64) : ∀ (d i : Nat) (h : Hp), C_st S h → i + d = l.length → arL (h.1 24) l → arL (h.1 25) (rwB S (l.take i)) →
    (∀ h', fr [24, 25] h h' → arL (h'.1 24) (rwB S l) → Q (some (vI (nI (rwB S l).length))) h') → Ev mX5_listRowBelow 4 [(0, vR 16), (1, vI (nI l.length)), (2, vI (nI (rwB S (l.take i)).length)), (3, vI (nI i))] [] h Q := by
  intro d
  induction d with
  | zero =>
    intro i h H hi ha hb K
    have hi2 : i = l.length := by omega
    rw [hi2, List.take_length] at hb ⊢
    apply sX5_listRowBelow_4
    simp (disch := omega) only [nt_le, nt_lt, nt_eq, nt_cl, nt_vp, nI_add, lu_le, lu_lt, lu_eq, ul_le, ul_lt, ul_eq, lu_add, ul_add, lu_sub, lu_mul, ul_mul, nt_sub, nt_m1]
    refine ⟨fun _ => ⟨⟨by decide, by decide, ?_, ?_, ?_⟩, fun h3 e3 => ?_⟩, fun c => absurd (Nat.le_refl _) c⟩
    · exact nI_pos (show (rwB S l).length < 2 ^ 31 by omega)
    · rw [nt_cl (by omega)]
      show 0 + _ ≤ 64
      omega
    · rw [nt_cl (by omega)]
      show 0 + _ ≤ 64
      omega
    · refine K h3 (by rw [e3]; exact fr.rf.sI (by decide) _) (fun j hj => ?_)
      rw [e3, sI_at]
      show va_cpy (h.1 25) (h.1 24) 0 0 _ j = _
      unfold va_cpy
      rw [if_pos ⟨Nat.zero_le _, by omega⟩, Nat.zero_add, Nat.sub_zero]
      exact hb j hj
  | succ d ih =>
    intro i h H hi ha hb K
    have hil : i < l.length := by omega
    have hmem : l.getD i 0 ∈ l := by
      rw [List.getD_eq_getElem?_getD, List.getElem?_eq_getElem hil]
      exact List.getElem_mem hil
    obtain ⟨hu, hv⟩ := hlu _ hmem
    have nb := (O _ hu).1
    have et : rwB S (l.take (i + 1)) = rwB S (l.take i) ++ kids S (l.getD i 0) := by
      unfold rwB
      rw [List.take_succ, List.flatMap_append, List.getElem?_eq_getElem hil]
      simp [List.getD_eq_getElem?_getD, List.getElem?_eq_getElem hil]
    have hlen : (rwB S (l.take (i + 1))).length ≤ 64 := by
      have : rwB S l = rwB S (l.take (i + 1)) ++ rwB S (l.drop (i + 1)) := by
        unfold rwB
        rw [← List.flatMap_append, List.take_append_drop]
      rw [this, List.length_append] at hr
      omega
    have hlen2 := hlen
    rw [et, List.length_append, kids_len] at hlen2
    apply sX5_listRowBelow_4
    simp (disch := omega) only [nt_le, nt_lt, nt_eq, nt_cl, nt_vp, nI_add, lu_le, lu_lt, lu_eq, ul_le, ul_lt, ul_eq, lu_add, ul_add, lu_sub, lu_mul, ul_mul, nt_sub, nt_m1]
    rw [ha i hil]
    refine ⟨fun c => by omega, fun _ => ⟨by omega, ?_⟩⟩
    refine c_listRow_20 O hu hv (nz S (l.getD i 0)) 0 (rwB S (l.take i)) h H (by omega) hlen2 hb (fun h' y1 y2 => ?_)
    rw [List.drop_zero, ← et] at y2
    have := ih (i + 1) h' (H.fr y1 (by rw [y1.i 16 (by decide)]) (by decide)) (by omega) (by rw [y1.i 24 (by decide)]; exact ha) y2 (fun h'' z1 z2 => K h'' ((y1.mono (by decide)).tr z1) z2)
    rw [et, List.length_append, kids_len] at this
    exact this
theorem c_listRow (O : okS S rk) {h : Hp} (H : C_st S h) {l : List Nat} (hlu : ∀ n ∈ l, ¬ nu S n = 0 ∧ ¬ nv S n = 0) (hr : (rwB S l).length ≤ 64) (hl64 : l.length ≤ 64) (ha : arL (h.1 24) l) (K : ∀ h', fr [24, 25] h h' → arL (h'.1 24) (rwB S l) → Q (some (vI (nI (rwB S l).length))) h') : EvM mX5_listRowBelow [vR 16, vI (nI l.length)] h Q := by
  apply sX5_listRowBelow
  exact c_listRow_4 O hlu hr hl64 l.length 0 h H (by omega) ha (fun i hi => absurd hi (by simp [rwB])) K
theorem c_listLeaves_14 (O : okS S rk) : ∀ (r d : Nat) (l : List Nat) (h : Hp), C_st S h → l ≠ [] → (∀ n ∈ l, ¬ nu S n = 0 ∧ rk n = r) → (∀ j, j ≤ r → (rws S j l).length ≤ 64) → d + r < 64 → arL (h.1 24) l →
    (∀ h', fr [24, 25] h h' → arL (h'.1 24) (rws S r l) → Q (some (vI (nI (rws S r l).length))) h') → Ev mX5_listLeaves 14 [(0, vR 16), (1, vI (nI l.length)), (2, vI (nI d))] [] h Q := by
  intro r
  induction r with
  | zero =>
    intro d l h H hne hl hb hd ha K
    obtain ⟨x, t, rfl⟩ := List.exists_cons_of_ne_nil hne
    obtain ⟨hu, hr⟩ := hl x List.mem_cons_self
    have xb := (O x hu).1
    have ha0 : h.1 24 0 = nI x := ha 0 (by simp)
    obtain ⟨q1, q2, q3⟩ := H.2.2 x xb hu
    apply sX5_listLeaves_14
    show (64 ≤ nI d → _) ∧ (¬ 64 ≤ nI d → (vp_in (h.1 24 0) 64 ∧ ((h.1 19 (Int32.toNatClampNeg (h.1 24 0)) = 0 → _) ∧ (¬ h.1 19 (Int32.toNatClampNeg (h.1 24 0)) = 0 → _))))
    rw [ha0]
    simp (disch := omega) only [nt_le, nt_lt, nt_eq, nt_cl, nt_vp, nI_add, lu_le, lu_lt, lu_eq, ul_le, ul_lt, ul_eq, lu_add, ul_add, lu_sub, lu_mul, ul_mul, nt_sub, nt_m1]
    rw [q2]
    exact ⟨fun c => by omega, fun _ => ⟨xb, fun _ => K h fr.rf ha, fun c => absurd ((rk_pos O hu).mpr hr) c⟩⟩
  | succ r ih =>
    intro d l h H hne hl hb hd ha K
    obtain ⟨x, t, hx⟩ := List.exists_cons_of_ne_nil hne
    obtain ⟨hu, hr⟩ := hl x (by rw [hx]; exact List.mem_cons_self)
    have xb := (O x hu).1
    have ha0 : h.1 24 0 = nI x := by
      have := ha 0 (by rw [hx]; simp)
      rw [this, hx]
      rfl
    obtain ⟨q1, q2, q3⟩ := H.2.2 x xb hu
    have hv : ∀ n ∈ l, ¬ nu S n = 0 ∧ ¬ nv S n = 0 := fun n hn => ⟨(hl n hn).1, fun z => by
      have := (rk_pos O (hl n hn).1).mp z
      rw [(hl n hn).2] at this
      omega⟩
    apply sX5_listLeaves_14
    show (64 ≤ nI d → _) ∧ (¬ 64 ≤ nI d → (vp_in (h.1 24 0) 64 ∧ ((h.1 19 (Int32.toNatClampNeg (h.1 24 0)) = 0 → _) ∧ (¬ h.1 19 (Int32.toNatClampNeg (h.1 24 0)) = 0 → _))))
    rw [ha0]
    simp (disch := omega) only [nt_le, nt_lt, nt_eq, nt_cl, nt_vp, nI_add, lu_le, lu_lt, lu_eq, ul_le, ul_lt, ul_eq, lu_add, ul_add, lu_sub, lu_mul, ul_mul, nt_sub, nt_m1]
    rw [q2]
    refine ⟨fun c => by omega, fun _ => ⟨xb, fun c => absurd c (hv x (by rw [hx]; exact List.mem_cons_self)).2, fun _ => ?_⟩⟩
    refine c_listRow O H hv (hb 1 (by omega)) (hb 0 (by omega)) ha (fun h' y1 y2 => ⟨_, rfl, ?_⟩)
    refine ih (d + 1) (rwB S l) h' (H.fr y1 (by rw [y1.i 16 (by decide)]) (by decide)) ?_ (fun n hn => ?_) (fun j hj => hb (j + 1) (by omega)) (by omega) y2 (fun h'' z1 z2 => K h'' (y1.tr z1) z2)
    · intro e
      have h1 : (kids S x).length = 0 := by
        have : kids S x = [] := by
          unfold rwB at e
          rw [hx, List.flatMap_cons] at e
          exact (List.append_eq_nil_iff.mp e).1
        rw [this]
        rfl
      rw [kids_len] at h1
      have := ((O x hu).2.2.2.2 (hv x (by rw [hx]; exact List.mem_cons_self)).2).1
      omega
    · obtain ⟨m, hm, hk⟩ := List.mem_flatMap.mp hn
      obtain ⟨y1, y2, y3⟩ := okS_kid O (hl m hm).1 (hv m hm).2 hk
      have := (hl m hm).2
      exact ⟨y1, by omega⟩
theorem c_listLeaves (O : okS S rk) {h : Hp} (H : C_st S h) {n : Nat} (hn : h.1 16 7 = nI n) (hu : ¬ nu S n = 0) (hr : rk n < 64) (hb : ∀ j, j ≤ rk n → (rws S j [n]).length ≤ 64) (K : ∀ h', fr [24, 25] h h' → arL (h'.1 24) (rws S (rk n) [n]) → Q (some (vI (nI (rws S (rk n) [n]).length))) h') : EvM mX5_listLeaves [vR 16] h Q := by
  apply sX5_listLeaves
  intro h1 e1
  have f1 : fr [24, 25] h h1 := by rw [e1]; exact fr.rf.sI (by decide) _
  refine c_listLeaves_14 O (rk n) 0 [n] h1 (H.fr f1 (by rw [f1.i 16 (by decide)]) (by decide)) (by simp) (fun m hm => by rw [List.mem_singleton.mp hm]; exact ⟨hu, rfl⟩) hb (by omega) ?_ (fun h' y1 y2 => K h' (f1.tr y1) y2)
  intro i hi
  have hi2 : i = 0 := by simpa using hi
  subst hi2
  rw [e1, sI_at, hn]
  rfl
end LST
