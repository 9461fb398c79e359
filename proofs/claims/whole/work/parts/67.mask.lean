/-! questions to the reference's tree -/
section MAS
variable {S : SR} {Q : Option AV → Hp → Prop} {rk : Nat → Nat}
theorem m_in {h : Hp} {x lo hi : Int32} (H1 : lo.toInt ≤ x.toInt → x.toInt ≤ hi.toInt → Q (some (vI 1)) h) (H0 : ¬ (lo.toInt ≤ x.toInt ∧ x.toInt ≤ hi.toInt) → Q (some (vI 0)) h) : EvM mX7_in [vI x, vI lo, vI hi] h Q := by
  apply sX7_in
  rw [Int32.lt_iff_toInt_lt, Int32.lt_iff_toInt_lt]
  exact ⟨fun c => H0 (by omega), fun c => ⟨fun c2 => H0 (by omega), fun c2 => H1 (by omega) (by omega)⟩⟩
theorem m_height_7 {h : Hp} (H : M_st S h) (O : okS S rk) : ∀ (r n m : Nat), rk n = r → ¬ nu S n = 0 → Q (some (vI (nI (m + r)))) h → Ev mX7_height 7 [(0, vR 27), (1, vI (nI m)), (2, vI (nI n))] [] h Q := by
  intro r
  induction r with
  | zero =>
    intro n m hr hu K
    obtain ⟨o1, o2, o3, o4, o5⟩ := O n hu
    obtain ⟨q1, q2, q3⟩ := H.2.2 n (by omega) hu
    rw [if_pos ((rk_pos O hu).mpr hr)] at q2
    apply sX7_height_7
    simp (disch := omega) only [nt_le, nt_lt, nt_eq, nt_cl, nt_vp, nI_add, lu_le, lu_lt, lu_eq, ul_le, ul_lt, ul_eq, lu_add, ul_add, lu_sub, lu_mul, ul_mul, nt_sub, nt_m1]
    rw [q2]
    exact ⟨by omega, fun _ => K, fun c => absurd c (by decide)⟩
  | succ r ih =>
    intro n m hr hu K
    obtain ⟨o1, o2, o3, o4, o5⟩ := O n hu
    obtain ⟨q1, q2, q3⟩ := H.2.2 n (by omega) hu
    have hv : ¬ nv S n = 0 := fun q => by
      have := o4 q
      omega
    obtain ⟨o6, o7⟩ := o5 hv
    obtain ⟨k, k1, k2, k3, k4⟩ := o7 0 (by omega)
    rw [if_neg hv] at q2
    have q4 := ((q3 0 (by omega)).2 hv).1
    rw [k1, Int.toNat_natCast, Nat.add_zero] at q4
    apply sX7_height_7
    simp (disch := omega) only [nt_le, nt_lt, nt_eq, nt_cl, nt_vp, nI_add, lu_le, lu_lt, lu_eq, ul_le, ul_lt, ul_eq, lu_add, ul_add, lu_sub, lu_mul, ul_mul, nt_sub, nt_m1]
    rw [q2, q4]
    refine ⟨by omega, fun c => absurd rfl c, fun _ => ⟨by omega, ?_⟩⟩
    refine ih k (m + 1) (by omega) k2 ?_
    rw [show m + 1 + r = m + (r + 1) by omega]
    exact K
theorem m_height {h : Hp} (H : M_st S h) (O : okS S rk) {n : Nat} (hn : h.1 27 34 = nI n) (hu : ¬ nu S n = 0) (K : Q (some (vI (nI (1 + rk n)))) h) : EvM mX7_height [vR 27] h Q := by
  apply sX7_height
  rw [hn]
  exact m_height_7 H O (rk n) n 1 rfl hu K
theorem m_entries_8 {h : Hp} (H : M_st S h) {x : Nat} (hx2 : x ≤ 80) (h50 : h.1 27 50 = nI x) : ∀ (l : List Nat) (i s : Nat), arT (h.1 52) i l → (∀ m ∈ l, m < 64 ∧ ¬ nu S m = 0 ∧ nz S m ≤ 8) → i + l.length = x → s + (enL S l).length < 2000 → Q (some (vI (nI (s + (enL S l).length)))) h → Ev mX7_entries 8 [(0, vR 27), (1, vI (nI s)), (2, vI (nI i))] [] h Q
  | [], i, s, ha, hl, hx, hs, K => by
    have hx : i = x := by simpa using hx
    subst hx
    apply sX7_entries_8
    rw [h50]
    simp (disch := omega) only [nt_le, nt_lt, nt_eq, nt_cl, nt_vp, nI_add, lu_le, lu_lt, lu_eq, ul_le, ul_lt, ul_eq, lu_add, ul_add, lu_sub, lu_mul, ul_mul, nt_sub, nt_m1]
    exact ⟨fun _ => K, fun c => absurd (Nat.le_refl _) c⟩
  | m :: t, i, s, ha, hl, hx, hs, K => by
    obtain ⟨mb, hu, hz⟩ := hl m List.mem_cons_self
    obtain ⟨q1, q2, q3⟩ := H.2.2 m (by omega) hu
    rw [List.length_cons] at hx
    rw [enL_len] at hs K
    apply sX7_entries_8
    rw [h50]
    simp (disch := omega) only [nt_le, nt_lt, nt_eq, nt_cl, nt_vp, nI_add, lu_le, lu_lt, lu_eq, ul_le, ul_lt, ul_eq, lu_add, ul_add, lu_sub, lu_mul, ul_mul, nt_sub, nt_m1]
    rw [ha.hd]
    simp (disch := omega) only [nt_le, nt_lt, nt_eq, nt_cl, nt_vp, nI_add, lu_le, lu_lt, lu_eq, ul_le, ul_lt, ul_eq, lu_add, ul_add, lu_sub, lu_mul, ul_mul, nt_sub, nt_m1]
    rw [q1]
    simp (disch := omega) only [nt_le, nt_lt, nt_eq, nt_cl, nt_vp, nI_add, lu_le, lu_lt, lu_eq, ul_le, ul_lt, ul_eq, lu_add, ul_add, lu_sub, lu_mul, ul_mul, nt_sub, nt_m1]
    refine ⟨fun c => by omega, fun _ => ⟨by omega, by omega, ?_⟩⟩
    refine m_entries_8 H hx2 h50 t (i + 1) (s + nz S m) ha.tl (fun z hz => hl z (List.mem_cons_of_mem _ hz)) (by omega) (by omega) ?_
    rw [Nat.add_assoc]
    exact K
theorem m_entries (O : okS S rk) {h : Hp} (H : M_st S h) {n : Nat} (hs : h.1 27 11 = 4 ∨ h.1 27 11 = 5) (hn : h.1 27 34 = nI n) (hu : ¬ nu S n = 0) (hr : rk n < 16) (hb : (rws S (rk n) [n]).length ≤ 64) (K : ∀ h', fr [27, 48, 49, 52] h h' → (∀ q, q ≠ 45 → q ≠ 50 → h'.1 27 q = h.1 27 q) → Q (some (vI (nI (enL S (rws S (rk n) [n])).length))) h') : EvM mX7_entries [vR 27] h Q := by
  apply sX7_entries
  have hle := enL_le (S := S) _ (lv_mem O hu)
  refine m_goThrough O H hs hn hu hr (by omega) (fun h' f g h50 a => ⟨rfl, ?_⟩)
  refine m_entries_8 (H.fr f (g 33 (by decide) (by decide)) (by decide)) (x := (rws S (rk n) [n]).length) (by omega) h50 _ 0 0 a.tl (lv_mem O hu) (by omega) (by omega) ?_
  rw [Nat.zero_add]
  exact K h' f g
theorem m_slot_8 {h : Hp} (H : M_st S h) {x y : Nat} (hx2 : x ≤ 80) (hy : y < 2147483648) (h50 : h.1 27 50 = nI x) : ∀ (l : List Nat) (i p : Nat), arT (h.1 52) i l → (∀ m ∈ l, m < 64 ∧ ¬ nu S m = 0 ∧ nz S m ≤ 8) → i + l.length = x → p < 2147483648 → (∀ m j, m ∈ l → j < nz S m → p < (enL S l).length → nh S m j = (enL S l).getD p 0 → lsz S l p = nz S m → Q (some (vI (nI (9 * m + j)))) h) → ((enL S l).length ≤ p → Q (some (vI (-1))) h) → Ev mX7_slotOf 8 [(0, vR 27), (1, vI (nI y)), (2, vI (nI p)), (3, vI (nI i))] [] h Q
  | [], i, p, ha, hl, hx, hp, K1, K0 => by
    have hx : i = x := by simpa using hx
    subst hx
    apply sX7_slotOf_8
    rw [h50]
    simp (disch := omega) only [nt_le, nt_lt, nt_eq, nt_cl, nt_vp, nI_add, lu_le, lu_lt, lu_eq, ul_le, ul_lt, ul_eq, lu_add, ul_add, lu_sub, lu_mul, ul_mul, nt_sub, nt_m1]
    exact ⟨fun _ => K0 (Nat.zero_le _), fun c => absurd (Nat.le_refl _) c⟩
  | m :: t, i, p, ha, hl, hx, hp, K1, K0 => by
    obtain ⟨mb, hu, hz⟩ := hl m List.mem_cons_self
    obtain ⟨q1, q2, q3⟩ := H.2.2 m (by omega) hu
    rw [List.length_cons] at hx
    rw [enL_len] at K0
    apply sX7_slotOf_8
    rw [h50]
    simp (disch := omega) only [nt_le, nt_lt, nt_eq, nt_cl, nt_vp, nI_add, lu_le, lu_lt, lu_eq, ul_le, ul_lt, ul_eq, lu_add, ul_add, lu_sub, lu_mul, ul_mul, nt_sub, nt_m1]
    rw [ha.hd]
    simp (disch := omega) only [nt_le, nt_lt, nt_eq, nt_cl, nt_vp, nI_add, lu_le, lu_lt, lu_eq, ul_le, ul_lt, ul_eq, lu_add, ul_add, lu_sub, lu_mul, ul_mul, nt_sub, nt_m1]
    rw [q1]
    simp (disch := omega) only [nt_le, nt_lt, nt_eq, nt_cl, nt_vp, nI_add, lu_le, lu_lt, lu_eq, ul_le, ul_lt, ul_eq, lu_add, ul_add, lu_sub, lu_mul, ul_mul, nt_sub, nt_m1]
    refine ⟨fun c => by omega, fun _ => ⟨fun c => by omega, fun _ => ⟨by omega, by omega, fun c => ⟨by omega, ?_⟩, fun c => ?_⟩⟩⟩
    · simp (disch := omega) only [nt_le, nt_lt, nt_eq, nt_cl, nt_vp, nI_add, lu_le, lu_lt, lu_eq, ul_le, ul_lt, ul_eq, lu_add, ul_add, lu_sub, lu_mul, ul_mul, nt_sub, nt_m1]
      refine m_slot_8 H hx2 hy h50 t (i + 1) (p - nz S m) ha.tl (fun z hz => hl z (List.mem_cons_of_mem _ hz)) (by omega) (by omega) (fun m2 j a b c2 d e => K1 m2 j (List.mem_cons_of_mem _ a) b (by rw [enL_len]; omega) ?_ ?_) (fun c2 => K0 (by omega))
      · rw [enL_at1 S (by omega)]
        exact d
      · rw [lsz, if_neg (by omega)]
        exact e
    · refine K1 m p List.mem_cons_self (by omega) (by rw [enL_len]; omega) ?_ ?_
      · rw [enL_at0 S (by omega)]
      · rw [lsz, if_pos (by omega)]
theorem m_slotOf (O : okS S rk) {h : Hp} (H : M_st S h) {n : Nat} {y : Int32} (hs : h.1 27 11 = 4 ∨ h.1 27 11 = 5) (hn : h.1 27 34 = nI n) (hu : ¬ nu S n = 0) (hr : rk n < 16) (hb : (rws S (rk n) [n]).length ≤ 64)
    (K1 : ∀ h' p m j, y = nI p → fr [27, 48, 49, 52] h h' → (∀ q, q ≠ 45 → q ≠ 50 → h'.1 27 q = h.1 27 q) → m ∈ rws S (rk n) [n] → j < nz S m → p < (enL S (rws S (rk n) [n])).length → nh S m j = (enL S (rws S (rk n) [n])).getD p 0 → lsz S (rws S (rk n) [n]) p = nz S m → Q (some (vI (nI (9 * m + j)))) h')
    (K0 : (∀ p : Nat, y = nI p → (enL S (rws S (rk n) [n])).length ≤ p ∨ 2147483648 ≤ p) → ∀ h', fr [27, 48, 49, 52] h h' → (∀ q, q ≠ 45 → q ≠ 50 → h'.1 27 q = h.1 27 q) → Q (some (vI (-1))) h') : EvM mX7_slotOf [vR 27, vI y] h Q := by
  apply sX7_slotOf
  refine m_goThrough O H hs hn hu hr (by omega) (fun h' f g h50 a => ⟨rfl, ?_⟩)
  have H' : M_st S h' := H.fr f (g 33 (by decide) (by decide)) (by decide)
  by_cases hy : y < 0
  · apply sX7_slotOf_8
    have no : ∀ p : Nat, y = nI p → (enL S (rws S (rk n) [n])).length ≤ p ∨ 2147483648 ≤ p := fun p hp => by
      by_cases z : p < 2147483648
      · rw [hp] at hy
        exact absurd hy (nI_pos (by omega))
      · omega
    exact ⟨fun _ => K0 no h' f g, fun _ => ⟨fun _ => K0 no h' f g, fun c => absurd hy c⟩⟩
  · obtain ⟨p, hp, rfl⟩ := nI_of hy
    have hp : p < 2147483648 := by omega
    refine m_slot_8 H' (x := (rws S (rk n) [n]).length) (by omega) hp h50 _ 0 p a.tl (lv_mem O hu) (by omega) hp (fun m j a b c d e => K1 h' p m j rfl f g a b c d e) (fun c => K0 (fun p2 hp2 => ?_) h' f g)
    by_cases z : p2 < 2147483648
    · have := (nt_eq hp z).mp hp2
      omega
    · omega
/-- one leaf's entries that are asked for -/
theorem m_ask_222 {lo hi : Int32} {x3 i m : Nat} {b : Bool} (mb : m < 64) (hu : ¬ nu S m = 0) (hv : nv S m = 0) (hz : nz S m ≤ 8) : ∀ (d t : Nat) (a : List Nat) (h : Hp), M_st S h → t + d = nz S m → a.length + d ≤ 240 → h.1 27 42 = nI a.length → arL (h.1 47) a →
    (∀ h', fr [27, 47] h h' → (∀ q, q ≠ 42 → h'.1 27 q = h.1 27 q) → h'.1 27 42 = nI (a ++ tlL lo hi (((List.range (nz S m)).map (nh S m)).drop t)).length → arL (h'.1 47) (a ++ tlL lo hi (((List.range (nz S m)).map (nh S m)).drop t)) → Ev mX7_ask 133 [(0, vR 27), (1, vI lo), (2, vI hi), (3, vI (nI x3)), (4, vI (bI b)), (5, vI (nI (i + 1)))] [] h' Q) → Ev mX7_ask 222 [(0, vR 27), (1, vI lo), (2, vI hi), (3, vI (nI x3)), (4, vI (bI b)), (5, vI (nI i)), (6, vI (nI m)), (7, vI (nI (9 * m + t)))] [] h Q := by
  intro d
  induction d with
  | zero =>
    intro t a h H ht hl h42 ha K
    obtain ⟨q1, q2, q3⟩ := H.2.2 m (by omega) hu
    have hdr : ((List.range (nz S m)).map (nh S m)).drop t = [] := List.drop_eq_nil_of_le (by simp; omega)
    have e0 : tlL lo hi ([] : List Int) = [] := rfl
    rw [hdr, e0, List.append_nil] at K
    apply sX7_ask_222
    simp (disch := omega) only [nt_le, nt_lt, nt_eq, nt_cl, nt_vp, nI_add, lu_le, lu_lt, lu_eq, ul_le, ul_lt, ul_eq, lu_add, ul_add, lu_sub, lu_mul, ul_mul, nt_sub, nt_m1]
    rw [q1]
    simp (disch := omega) only [nt_le, nt_lt, nt_eq, nt_cl, nt_vp, nI_add, lu_le, lu_lt, lu_eq, ul_le, ul_lt, ul_eq, lu_add, ul_add, lu_sub, lu_mul, ul_mul, nt_sub, nt_m1]
    exact ⟨by omega, fun _ => K h fr.rf (fun _ _ => rfl) h42 ha, fun c => by omega⟩
  | succ d ih =>
    intro t a h H ht hl h42 ha K
    obtain ⟨q1, q2, q3⟩ := H.2.2 m (by omega) hu
    have ht2 : t < ((List.range (nz S m)).map (nh S m)).length := by simp; omega
    have ed : ((List.range (nz S m)).map (nh S m)).drop t = nh S m t :: ((List.range (nz S m)).map (nh S m)).drop (t + 1) := by
      rw [List.drop_eq_getElem_cons ht2]
      simp
    obtain ⟨s1, s2, s3⟩ := (q3 t (by omega)).1 hv
    have kk : (h.1 44 (9 * m + t)).toInt = nh S m t / 256 := by omega
    have pp : h.1 45 (9 * m + t) = nI (nh S m t % 256).toNat := by
      apply Int32.toInt_inj.mp
      rw [nI_toInt (show (nh S m t % 256).toNat < 2 ^ 31 by omega)]
      omega
    apply sX7_ask_222
    simp (disch := omega) only [nt_le, nt_lt, nt_eq, nt_cl, nt_vp, nI_add, lu_le, lu_lt, lu_eq, ul_le, ul_lt, ul_eq, lu_add, ul_add, lu_sub, lu_mul, ul_mul, nt_sub, nt_m1]
    rw [q1]
    simp (disch := omega) only [nt_le, nt_lt, nt_eq, nt_cl, nt_vp, nI_add, lu_le, lu_lt, lu_eq, ul_le, ul_lt, ul_eq, lu_add, ul_add, lu_sub, lu_mul, ul_mul, nt_sub, nt_m1]
    refine ⟨by omega, fun c => by omega, fun _ => ⟨by omega, ?_⟩⟩
    refine m_in (fun c1 c2 => ⟨1, rfl, fun z => absurd z (by decide), fun _ => ?_⟩) (fun c1 => ⟨0, rfl, fun _ => ?_, fun z => absurd rfl z⟩)
    · rw [h42, pp]
      simp (disch := omega) only [nt_le, nt_lt, nt_eq, nt_cl, nt_vp, nI_add, lu_le, lu_lt, lu_eq, ul_le, ul_lt, ul_eq, lu_add, ul_add, lu_sub, lu_mul, ul_mul, nt_sub, nt_m1]
      refine ⟨by omega, by omega, fun h9 e9 h10 e10 => ?_⟩
      have f10 : fr [27, 47] h h10 := by rw [e10, e9]; exact (fr.rf.sI (by decide) _).sI (by decide) _
      have c27 : ∀ q, q ≠ 42 → h10.1 27 q = h.1 27 q := fun q hq => by rw [e10, sI_at, upd_ne _ _ hq, e9, sI_ne _ _ (by decide)]
      have e11 : tlL lo hi (((List.range (nz S m)).map (nh S m)).drop t) = [(nh S m t % 256).toNat] ++ tlL lo hi (((List.range (nz S m)).map (nh S m)).drop (t + 1)) := by
        rw [ed]
        unfold tlL
        rw [List.filter_cons]
        have hin : inr lo hi (nh S m t) = true := by
          unfold inr
          rw [decide_eq_true (show lo.toInt ≤ nh S m t / 256 by omega), decide_eq_true (show nh S m t / 256 ≤ hi.toInt by omega)]
          rfl
        rw [hin]
        rfl
      rw [e11, ← List.append_assoc] at K
      have := ih (t + 1) (a ++ [(nh S m t % 256).toNat]) h10 (H.fr f10 (c27 33 (by decide)) (by decide)) (by omega) (by rw [List.length_append]; simp; omega) (by rw [e10, sI_at, upd_at, e9, sI_ne _ _ (by decide), h42, List.length_append]; exact nI_1 _) (by rw [e10, sI_ne _ _ (by decide), e9, sI_at]; exact arL_snoc ha) (fun h' y1 y2 y3 y4 => K h' (f10.tr y1) (fun q hq => by rw [y2 q hq]; exact c27 q hq) y3 y4)
      exact this
    · have e9 : tlL lo hi (((List.range (nz S m)).map (nh S m)).drop t) = tlL lo hi (((List.range (nz S m)).map (nh S m)).drop (t + 1)) := by
        rw [ed]
        unfold tlL
        rw [List.filter_cons]
        have hin : inr lo hi (nh S m t) = false := by
          unfold inr
          by_cases z : lo.toInt ≤ nh S m t / 256
          · rw [decide_eq_false (show ¬ nh S m t / 256 ≤ hi.toInt by omega), Bool.and_false]
          · rw [decide_eq_false z, Bool.false_and]
        rw [hin]
        rfl
      rw [e9] at K
      exact ih (t + 1) a h H (by omega) (by omega) h42 ha K
end MAS
