/-! the class's audit against the table; its nodes cleared and counted -/
def rowE (tp tk : Nat → Int32) (E : Int) : Prop := ∃ p : Nat, p < 240 ∧ E % 256 = p ∧ ¬ tp p = 0 ∧ (tk p).toInt = E / 256
section JUS
variable {S : SR} {Q : Option AV → Hp → Prop} {rk : Nat → Nat} {tp tk tv dp : Nat → Int32}
theorem c_just_31 {x i m : Nat} (mb : m < 64) (hu : ¬ nu S m = 0) (hz : nz S m ≤ 8) {h : Hp} (H : C_st S h) (T : C_tb tp tk tv dp h) {rest : List Int}
    (K0 : ∀ (p : Nat) (w : Int64), p < 2000 → (0 < p → ∀ E ∈ rest, w.toInt < E) → p = p → Ev mX5_hasJustTheRowsOf 13 [(0, vR 16), (1, vR 1), (2, vI (nI x)), (3, vI (nI p)), (4, vL w), (6, vI (nI (i + 1)))] [] h Q → True) :
    ∀ (d t p : Nat) (w : Int64), t + d = nz S m → p + d < 2000 → (∀ E ∈ ((List.range (nz S m)).map (nh S m)).drop t ++ rest, okE E ∧ rowE tp tk E) → List.Pairwise (· < ·) (((List.range (nz S m)).map (nh S m)).drop t ++ rest) → (0 < p → ∀ E ∈ ((List.range (nz S m)).map (nh S m)).drop t ++ rest, w.toInt < E) →
      (∀ w2 : Int64, (0 < p + d → ∀ E ∈ rest, w2.toInt < E) → Ev mX5_hasJustTheRowsOf 13 [(0, vR 16), (1, vR 1), (2, vI (nI x)), (3, vI (nI (p + d))), (4, vL w2), (6, vI (nI (i + 1)))] [] h Q) → Ev mX5_hasJustTheRowsOf 31 [(0, vR 16), (1, vR 1), (2, vI (nI x)), (3, vI (nI p)), (4, vL w), (6, vI (nI i)), (7, vI (nI m)), (8, vI (nI t))] [] h Q := by
  clear K0
  obtain ⟨q1, q2, q3⟩ := H.2.2 m mb hu
  intro d
  induction d with
  | zero =>
    intro t p w ht hp hE hs hb K
    have hdr : ((List.range (nz S m)).map (nh S m)).drop t = [] := List.drop_eq_nil_of_le (by simp; omega)
    rw [hdr, List.nil_append] at hb
    apply sX5_hasJustTheRowsOf_31
    simp (disch := omega) only [nt_le, nt_lt, nt_eq, nt_cl, nt_vp, nI_add, lu_le, lu_lt, lu_eq, ul_le, ul_lt, ul_eq, lu_add, ul_add, lu_sub, lu_mul, ul_mul, nt_sub, nt_m1]
    rw [q1]
    simp (disch := omega) only [nt_le, nt_lt, nt_eq, nt_cl, nt_vp, nI_add, lu_le, lu_lt, lu_eq, ul_le, ul_lt, ul_eq, lu_add, ul_add, lu_sub, lu_mul, ul_mul, nt_sub, nt_m1]
    exact ⟨mb, fun _ => K w hb, fun c => by omega⟩
  | succ d ih =>
    intro t p w ht hp hE hs hb K
    have ht2 : t < ((List.range (nz S m)).map (nh S m)).length := by simp; omega
    have ed : ((List.range (nz S m)).map (nh S m)).drop t = nh S m t :: ((List.range (nz S m)).map (nh S m)).drop (t + 1) := by
      rw [List.drop_eq_getElem_cons ht2]
      simp
    rw [ed, List.cons_append] at hE hs hb
    obtain ⟨oke, pl, pl1, pl2, pl3, pl4⟩ := hE _ List.mem_cons_self
    have qt := q3 t (by omega)
    have okw : okE (h.2.2 m t).toInt := by rw [qt]; exact oke
    obtain ⟨hs1, hs2⟩ := List.pairwise_cons.mp hs
    have epl : Int64.toInt32 (h.2.2 m t &&& 255) = nI pl := by
      rw [plc_int, qt, pl2]
      rfl
    have k74 : Ev mX5_hasJustTheRowsOf 74 [(0, vR 16), (1, vR 1), (2, vI (nI x)), (3, vI (nI p)), (6, vI (nI i)), (7, vI (nI m)), (8, vI (nI t)), (9, vL (h.2.2 m t)), (11, vI (nI pl))] [] h Q := by
      apply sX5_hasJustTheRowsOf_74
      refine c_has_in T pl1 (fun z => absurd z pl3) (fun _ => ⟨1, rfl, fun z => absurd z (by decide), fun _ => ?_⟩)
      refine c_keyAt T pl1 pl3 ⟨_, rfl, ?_⟩
      apply sX6_keyOf
      refine ⟨_, rfl, ?_⟩
      have ek : tk pl = Int64.toInt32 (h.2.2 m t >>> (Int32.toInt64 8 &&& 63)) := by
        apply Int32.toInt_inj.mp
        rw [key_int okw, qt, pl4]
      refine ⟨fun _ => ?_, fun z => absurd ek z⟩
      simp (disch := omega) only [nt_le, nt_lt, nt_eq, nt_cl, nt_vp, nI_add, lu_le, lu_lt, lu_eq, ul_le, ul_lt, ul_eq, lu_add, ul_add, lu_sub, lu_mul, ul_mul, nt_sub, nt_m1]
      refine ih (t + 1) (p + 1) _ (by omega) (by omega) (fun E hE2 => hE E (List.mem_cons_of_mem _ hE2)) hs2 (fun _ E hE2 => by rw [qt]; exact hs1 E hE2) (fun w2 hw2 => ?_)
      rw [show p + 1 + d = p + (d + 1) by omega] at hw2 ⊢
      exact K w2 hw2
    apply sX5_hasJustTheRowsOf_31
    simp (disch := omega) only [nt_le, nt_lt, nt_eq, nt_cl, nt_vp, nI_add, lu_le, lu_lt, lu_eq, ul_le, ul_lt, ul_eq, lu_add, ul_add, lu_sub, lu_mul, ul_mul, nt_sub, nt_m1]
    rw [q1]
    simp (disch := omega) only [nt_le, nt_lt, nt_eq, nt_cl, nt_vp, nI_add, lu_le, lu_lt, lu_eq, ul_le, ul_lt, ul_eq, lu_add, ul_add, lu_sub, lu_mul, ul_mul, nt_sub, nt_m1]
    refine ⟨mb, fun c => by omega, fun _ => ⟨mb, by omega, ?_⟩⟩
    apply sX6_placeOf
    rw [epl]
    refine ⟨_, rfl, fun _ => k74, fun c => ⟨fun c2 => ?_, fun _ => k74⟩⟩
    exfalso
    have hlt := hb (by omega) _ List.mem_cons_self
    have h1 : lg_cmp w (h.2.2 m t) ≤ 0 := lg_le.mpr (by rw [qt]; omega)
    have h2 : ¬ lg_cmp w (h.2.2 m t) = 0 := fun z => by
      have := lg_eq.mp z
      rw [qt] at this
      omega
    exact h2 (Int32.le_antisymm h1 c2)
theorem c_just_13 {x : Nat} (hx2 : x ≤ 64) {h : Hp} (H : C_st S h) (T : C_tb tp tk tv dp h) : ∀ (l : List Nat) (i p : Nat) (w : Int64), arT (h.1 24) i l → (∀ m ∈ l, m < 64 ∧ ¬ nu S m = 0 ∧ nz S m ≤ 8) → (∀ E ∈ enL S l, okE E ∧ rowE tp tk E) → List.Pairwise (· < ·) (enL S l) → (0 < p → ∀ E ∈ enL S l, w.toInt < E) → i + l.length = x → p + (enL S l).length < 2000 → cn tp 240 = p + (enL S l).length → h.1 16 6 = nI (p + (enL S l).length) → Q (some (vI 1)) h → Ev mX5_hasJustTheRowsOf 13 [(0, vR 16), (1, vR 1), (2, vI (nI x)), (3, vI (nI p)), (4, vL w), (6, vI (nI i))] [] h Q
  | [], i, p, w, ha, hl, hE, hs, hb, hx, hn, hc, hec, K => by
    have hx : i = x := by simpa using hx
    subst hx
    have e0 : (enL S []).length = 0 := rfl
    rw [e0, Nat.add_zero] at hc hec
    apply sX5_hasJustTheRowsOf_13
    simp (disch := omega) only [nt_le, nt_lt, nt_eq, nt_cl, nt_vp, nI_add, lu_le, lu_lt, lu_eq, ul_le, ul_lt, ul_eq, lu_add, ul_add, lu_sub, lu_mul, ul_mul, nt_sub, nt_m1]
    refine ⟨fun _ => ?_, fun c => absurd (Nat.le_refl _) c⟩
    apply sX4_count
    rw [T.2.2, hc]
    exact ⟨_, rfl, fun z => absurd rfl z, fun _ => ⟨fun z => absurd hec.symm z, fun _ => K⟩⟩
  | m :: t, i, p, w, ha, hl, hE, hs, hb, hx, hn, hc, hec, K => by
    obtain ⟨mb, hu, hz⟩ := hl m List.mem_cons_self
    rw [List.length_cons] at hx
    rw [enL_len] at hn hc hec
    rw [enL_cons] at hE hs hb
    apply sX5_hasJustTheRowsOf_13
    simp (disch := omega) only [nt_le, nt_lt, nt_eq, nt_cl, nt_vp, nI_add, lu_le, lu_lt, lu_eq, ul_le, ul_lt, ul_eq, lu_add, ul_add, lu_sub, lu_mul, ul_mul, nt_sub, nt_m1]
    rw [ha.hd]
    refine ⟨fun c => by omega, fun _ => ⟨by omega, ?_⟩⟩
    refine c_just_31 (rest := enL S t) mb hu hz H T (fun _ _ _ _ _ _ => trivial) (nz S m) 0 p w (by omega) (by omega) (by rw [List.drop_zero]; exact hE) (by rw [List.drop_zero]; exact hs) (by rw [List.drop_zero]; exact hb) (fun w2 hw2 => ?_)
    exact c_just_13 hx2 H T t (i + 1) (p + nz S m) w2 ha.tl (fun z hz => hl z (List.mem_cons_of_mem _ hz)) (fun E hE2 => hE E (List.mem_append_right _ hE2)) (List.pairwise_append.mp hs).2.1 hw2 (by omega) (by omega) (by omega) (by rw [hec, Nat.add_assoc]) K
theorem c_just (O : okS S rk) {h : Hp} (H : C_st S h) (T : C_tb tp tk tv dp h) {n : Nat} (hn : h.1 16 7 = nI n) (hu : ¬ nu S n = 0) (hr : rk n < 64) (hb : ∀ j, j ≤ rk n → (rws S j [n]).length ≤ 64) (hE : ∀ E ∈ enL S (rws S (rk n) [n]), okE E ∧ rowE tp tk E) (hs : List.Pairwise (· < ·) (enL S (rws S (rk n) [n]))) (hc : cn tp 240 = (enL S (rws S (rk n) [n])).length) (hec : h.1 16 6 = nI (enL S (rws S (rk n) [n])).length) (K : ∀ h', fr [24, 25] h h' → Q (some (vI 1)) h') : EvM mX5_hasJustTheRowsOf [vR 16, vR 1] h Q := by
  apply sX5_hasJustTheRowsOf
  have hbb := hb _ (Nat.le_refl (rk n))
  have hle := enL_le (S := S) _ (lv_mem O hu)
  refine c_listLeaves O H hn hu hr hb (fun h' f a => ⟨_, rfl, ?_⟩)
  exact c_just_13 hbb (H.fr f (by rw [f.i 16 (by decide)]) (by decide)) (T.fr f (by decide)) _ 0 0 0 a.tl (lv_mem O hu) hE hs (fun z => absurd z (by omega)) (by omega) (by omega) (by omega) (by rw [f.i 16 (by decide), hec, Nat.zero_add]) (K h' f)
/-- how many nodes are used and written since -/
def cn2 (f g : Nat → Int32) : Nat → Nat
  | 0 => 0
  | n + 1 => cn2 f g n + (if f n = 0 ∨ g n = 0 then 0 else 1)
theorem cn2_le (f g : Nat → Int32) : ∀ n, cn2 f g n ≤ n
  | 0 => Nat.le_refl _
  | n + 1 => by
    have := cn2_le f g n
    unfold cn2
    split <;> omega
theorem c_touched_4 {h : Hp} (H : C_st S h) (K : Q (some (vI (nI (cn2 (nu S) (nd S) 64)))) h) : ∀ d i, i + d = 64 → Ev mX5_touchedCount 4 [(0, vR 16), (1, vI (nI (cn2 (nu S) (nd S) i))), (2, vI (nI i))] [] h Q
  | 0, i, hi => by
    have e : i = 64 := by omega
    subst e
    apply sX5_touchedCount_4
    exact ⟨fun _ => K, fun c => absurd (by decide) c⟩
  | d + 1, i, hi => by
    have nx := c_touched_4 H K d (i + 1) (by omega)
    rw [cn2] at nx
    have hle := cn2_le (nu S) (nd S) i
    apply sX5_touchedCount_4
    obtain ⟨a, b⟩ := H.1 i (by omega)
    simp (disch := omega) only [nt_le, nt_lt, nt_eq, nt_cl, nt_vp, nI_add, lu_le, lu_lt, lu_eq, ul_le, ul_lt, ul_eq, lu_add, ul_add, lu_sub, lu_mul, ul_mul, nt_sub, nt_m1]
    rw [a, b]
    refine ⟨fun c => by omega, fun _ => ⟨by omega, fun c => ?_, fun c => ⟨by omega, fun c2 => ?_, fun c2 => ?_⟩⟩⟩
    · rw [if_pos (Or.inl c)] at nx
      exact nx
    · rw [if_pos (Or.inr c2)] at nx
      exact nx
    · rw [if_neg (fun z => z.elim c c2)] at nx
      exact nx
theorem c_touchedCount {h : Hp} (H : C_st S h) (K : Q (some (vI (nI (cn2 (nu S) (nd S) 64)))) h) : EvM mX5_touchedCount [vR 16] h Q := by
  apply sX5_touchedCount
  exact c_touched_4 H K 64 0 rfl
/-- a clearing loop's array -/
theorem clr_st {f f' : Nat → Int32} {i : Nat} (h : ∀ j, j < i → f' j = 0) : ∀ j, j < i + 1 → upd f' i 0 j = 0 := by
  intro j hj
  by_cases q : j = i
  · subst q
    exact upd_at _ _ _
  · rw [upd_ne _ _ q]
    exact h j (by omega)
theorem c_tuntouch_2 : ∀ (d i : Nat) (h : Hp), i + d = 64 → (∀ j, j < i → h.1 21 j = 0) → (∀ h', fr [21] h h' → (∀ j, j < 64 → h'.1 21 j = 0) → Q none h') → Ev mX5_untouch 2 [(0, vR 16), (1, vI (nI i))] [] h Q
  | 0, i, h, hi, hz, K => by
    apply sX5_untouch_2
    simp (disch := omega) only [nt_le, nt_lt, nt_eq, nt_cl, nt_vp, nI_add, lu_le, lu_lt, lu_eq, ul_le, ul_lt, ul_eq, lu_add, ul_add, lu_sub, lu_mul, ul_mul, nt_sub, nt_m1]
    exact ⟨fun _ => K h fr.rf (fun j hj => hz j (by omega)), fun c => by omega⟩
  | d + 1, i, h, hi, hz, K => by
    apply sX5_untouch_2
    simp (disch := omega) only [nt_le, nt_lt, nt_eq, nt_cl, nt_vp, nI_add, lu_le, lu_lt, lu_eq, ul_le, ul_lt, ul_eq, lu_add, ul_add, lu_sub, lu_mul, ul_mul, nt_sub, nt_m1]
    refine ⟨fun c => by omega, fun _ => ⟨by omega, fun h3 e3 => ?_⟩⟩
    have f3 : fr [21] h h3 := by rw [e3]; exact fr.rf.sI (by decide) _
    refine c_tuntouch_2 d (i + 1) h3 (by omega) ?_ (fun h' y1 y2 => K h' (f3.tr y1) y2)
    rw [e3, sI_at]
    exact clr_st (f := h.1 21) hz
theorem c_tuntouch {h : Hp} (H : C_st S h) (K : ∀ h', fr [21] h h' → C_st (nz S, nv S, nh S, nu S, fun _ => 0) h' → Q none h') : EvM mX5_untouch [vR 16] h Q := by
  apply sX5_untouch
  refine c_tuntouch_2 64 0 h rfl (fun j hj => absurd hj (Nat.not_lt_zero _)) (fun h' f z => K h' f ⟨fun n hn => ?_, ?_, fun n hn hu => ?_⟩)
  · rw [f.i 20 (by decide)]
    exact ⟨(H.1 n hn).1, z n hn⟩
  · rw [f.i 16 (by decide)]
    exact H.2.1
  · rw [f.i 18 (by decide), f.i 19 (by decide), f.2 (by decide)]
    exact H.2.2 n hn hu
theorem c_tclear_2 : ∀ (d i : Nat) (h : Hp), i + d = 64 → (∀ j, j < i → h.1 20 j = 0) → (∀ h', fr [16, 18, 19, 20] h h' → (∀ j, j < 64 → h'.1 20 j = 0) → h'.1 16 5 = 0 → h'.1 16 6 = 0 → h'.1 16 7 = 0 → Q none h') → Ev mX5_clear 2 [(0, vR 16), (1, vI (nI i))] [] h Q
  | 0, i, h, hi, hz, K => by
    apply sX5_clear_2
    simp (disch := omega) only [nt_le, nt_lt, nt_eq, nt_cl, nt_vp, nI_add, lu_le, lu_lt, lu_eq, ul_le, ul_lt, ul_eq, lu_add, ul_add, lu_sub, lu_mul, ul_mul, nt_sub, nt_m1]
    refine ⟨fun _ h2 e2 h3 e3 h4 e4 => K h4 (by rw [e4, e3, e2]; exact ((fr.rf.sI (by decide) _).sI (by decide) _).sI (by decide) _) (fun j hj => ?_) ?_ ?_ ?_, fun c => by omega⟩
    · rw [e4, sI_ne _ _ (by decide), e3, sI_ne _ _ (by decide), e2, sI_ne _ _ (by decide)]
      exact hz j (by omega)
    · rw [e4, sI_at, upd_ne _ _ (by decide), e3, sI_at, upd_ne _ _ (by decide), e2, sI_at, upd_at]
    · rw [e4, sI_at, upd_ne _ _ (by decide), e3, sI_at, upd_at]
    · rw [e4, sI_at, upd_at]
  | d + 1, i, h, hi, hz, K => by
    apply sX5_clear_2
    simp (disch := omega) only [nt_le, nt_lt, nt_eq, nt_cl, nt_vp, nI_add, lu_le, lu_lt, lu_eq, ul_le, ul_lt, ul_eq, lu_add, ul_add, lu_sub, lu_mul, ul_mul, nt_sub, nt_m1]
    refine ⟨fun c => by omega, fun _ => ⟨by omega, fun h3 e3 => ⟨by omega, fun h4 e4 => ⟨by omega, fun h5 e5 => ?_⟩⟩⟩⟩
    have f5 : fr [16, 18, 19, 20] h h5 := by rw [e5, e4, e3]; exact ((fr.rf.sI (by decide) _).sI (by decide) _).sI (by decide) _
    refine c_tclear_2 d (i + 1) h5 (by omega) ?_ (fun h' y1 y2 y3 y4 y5 => K h' (f5.tr y1) y2 y3 y4 y5)
    rw [e5, sI_ne _ _ (by decide), e4, sI_ne _ _ (by decide), e3, sI_at]
    exact clr_st (f := h.1 20) hz
/-- a store without nodes -/
def emS (S : SR) : SR := (nz S, nv S, nh S, fun _ => 0, nd S)
theorem cn_0 : ∀ n, cn (fun _ => (0 : Int32)) n = 0
  | 0 => rfl
  | n + 1 => by
    unfold cn
    rw [cn_0 n, if_pos rfl]
theorem c_tclear {h : Hp} (H : C_st S h) (K : ∀ h', fr [16, 18, 19, 20] h h' → h'.1 16 6 = 0 → h'.1 16 7 = 0 → C_st (emS S) h' → Q none h') : EvM mX5_clear [vR 16] h Q := by
  apply sX5_clear
  refine c_tclear_2 64 0 h rfl (fun j hj => absurd hj (Nat.not_lt_zero _)) (fun h' f z z5 z6 z7 => K h' f z6 z7 ⟨fun n hn => ?_, ?_, fun n hn hu => absurd rfl hu⟩)
  · rw [f.i 21 (by decide)]
    exact ⟨z n hn, (H.1 n hn).2⟩
  · rw [z5]
    show (0 : Int32) = nI (cn (fun _ => 0) 64)
    rw [cn_0]
    rfl
end JUS
