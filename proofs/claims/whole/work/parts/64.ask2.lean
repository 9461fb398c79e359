/-! questions to the class's tree, whole -/
section AS2
variable {S : SR} {Q : Option AV → Hp → Prop} {rk : Nat → Nat}
theorem rws_mem (O : okS S rk) : ∀ (r : Nat) (l : List Nat), (∀ n ∈ l, ¬ nu S n = 0 ∧ rk n = r) → ∀ m ∈ rws S r l, ¬ nu S m = 0 ∧ rk m = 0
  | 0, l, h => h
  | r + 1, l, h => by
    refine rws_mem O r (rwB S l) (fun n hn => ?_)
    obtain ⟨x, hx, hk⟩ := List.mem_flatMap.mp hn
    have hv : ¬ nv S x = 0 := fun z => by
      have := (rk_pos O (h x hx).1).mp z
      rw [(h x hx).2] at this
      omega
    obtain ⟨y1, y2, y3⟩ := okS_kid O (h x hx).1 hv hk
    have := (h x hx).2
    exact ⟨y1, by omega⟩
theorem lv_mem (O : okS S rk) {n : Nat} (hu : ¬ nu S n = 0) : ∀ m ∈ rws S (rk n) [n], m < 64 ∧ ¬ nu S m = 0 ∧ nz S m ≤ 8 := by
  intro m hm
  obtain ⟨h1, h2⟩ := rws_mem O (rk n) [n] (fun x hx => by rw [List.mem_singleton.mp hx]; exact ⟨hu, rfl⟩) m hm
  exact ⟨(O m h1).1, h1, (O m h1).2.1⟩
theorem enL_le : ∀ (l : List Nat), (∀ m ∈ l, m < 64 ∧ ¬ nu S m = 0 ∧ nz S m ≤ 8) → (enL S l).length ≤ 8 * l.length
  | [], _ => by simp [enL]
  | m :: t, h => by
    have h1 := (h m List.mem_cons_self).2.2
    have h2 := enL_le t (fun z hz => h z (List.mem_cons_of_mem _ hz))
    rw [enL_len, List.length_cons]
    omega
theorem c_entryAt (O : okS S rk) {h : Hp} (H : C_st S h) {n p : Nat} (hn : h.1 16 7 = nI n) (hu : ¬ nu S n = 0) (hr : rk n < 64) (hb : ∀ j, j ≤ rk n → (rws S j [n]).length ≤ 64) (hp : p < (enL S (rws S (rk n) [n])).length) (K : ∀ h' (w : Int64), fr [24, 25] h h' → w.toInt = (enL S (rws S (rk n) [n])).getD p 0 → Q (some (vL w)) h') : EvM mX5_entryAt [vR 16, vI (nI p)] h Q := by
  apply sX5_entryAt
  refine c_listLeaves O H hn hu hr hb (fun h' f a => ⟨_, rfl, ?_⟩)
  exact c_entryAt_10 (H.fr f (by rw [f.i 16 (by decide)]) (by decide)) _ 0 p _ a.tl (lv_mem O hu) (by omega) (hb _ (Nat.le_refl _)) hp (fun w hw => K h' w f hw)
theorem c_sizeOfLeafAt (O : okS S rk) {h : Hp} (H : C_st S h) {n p : Nat} (hn : h.1 16 7 = nI n) (hu : ¬ nu S n = 0) (hr : rk n < 64) (hb : ∀ j, j ≤ rk n → (rws S j [n]).length ≤ 64) (hp : p < (enL S (rws S (rk n) [n])).length) (K : ∀ h', fr [24, 25] h h' → Q (some (vI (nI (lsz S (rws S (rk n) [n]) p)))) h') : EvM mX5_sizeOfLeafAt [vR 16, vI (nI p)] h Q := by
  apply sX5_sizeOfLeafAt
  have hbb := hb _ (Nat.le_refl (rk n))
  have hle := enL_le (S := S) _ (lv_mem O hu)
  refine c_listLeaves O H hn hu hr hb (fun h' f a => ⟨_, rfl, ?_⟩)
  exact c_sizeOf_10 (H.fr f (by rw [f.i 16 (by decide)]) (by decide)) _ 0 p _ a.tl (lv_mem O hu) (by omega) hbb hp (by omega) (K h' f)
theorem c_tell_12 (O : okS S rk) {lo hi : Int32} {x : Nat} (hx2 : x ≤ 64) : ∀ (l : List Nat) (i : Nat) (a : List Nat) (h : Hp), C_st S h → arT (h.1 24) i l → (∀ m ∈ l, m < 64 ∧ ¬ nu S m = 0 ∧ nz S m ≤ 8) → (∀ E ∈ enL S l, okE E) → i + l.length = x → a.length + (enL S l).length ≤ 240 → arL (h.1 26) a →
    (∀ h', fr [26] h h' → arL (h'.1 26) (a ++ tlL lo hi (enL S l)) → Q (some (vI (nI (a ++ tlL lo hi (enL S l)).length))) h') → Ev mX5_tell 12 [(0, vR 16), (1, vI lo), (2, vI hi), (3, vR 26), (4, vI (nI x)), (5, vI (nI a.length)), (6, vI (nI i))] [] h Q
  | [], i, a, h, H, ha, hl, hE, hx, hn, hb, K => by
    apply sX5_tell_12
    have hx : i = x := by simpa using hx
    subst hx
    simp (disch := omega) only [nt_le, nt_lt, nt_eq, nt_cl, nt_vp, nI_add, lu_le, lu_lt, lu_eq, ul_le, ul_lt, ul_eq, lu_add, ul_add, lu_sub, lu_mul, ul_mul, nt_sub, nt_m1]
    refine ⟨fun _ => ?_, fun c => absurd (Nat.le_refl _) c⟩
    have e : a ++ tlL lo hi (enL S []) = a := by simp [enL, tlL]
    rw [e] at K
    exact K h fr.rf hb
  | m :: t, i, a, h, H, ha, hl, hE, hx, hn, hb, K => by
    obtain ⟨mb, hu, hz⟩ := hl m List.mem_cons_self
    rw [List.length_cons] at hx
    rw [enL_len] at hn
    have hEm : ∀ j, j < nz S m → okE (nh S m j) := fun j hj => hE _ (by rw [enL_cons]; exact List.mem_append_left _ (List.mem_map.mpr ⟨j, List.mem_range.mpr hj, rfl⟩))
    apply sX5_tell_12
    simp (disch := omega) only [nt_le, nt_lt, nt_eq, nt_cl, nt_vp, nI_add, lu_le, lu_lt, lu_eq, ul_le, ul_lt, ul_eq, lu_add, ul_add, lu_sub, lu_mul, ul_mul, nt_sub, nt_m1]
    rw [ha.hd]
    refine ⟨fun c => by omega, fun _ => ⟨by omega, ?_⟩⟩
    refine c_tell_31 O mb hu hz hEm (nz S m) 0 a h H (by omega) (by omega) hb (fun h' y1 y2 => ?_)
    rw [List.drop_zero] at y2 ⊢
    have hlen := tlL_len lo hi ((List.range (nz S m)).map (nh S m))
    rw [List.length_map, List.length_range] at hlen
    refine c_tell_12 O hx2 t (i + 1) (a ++ tlL lo hi ((List.range (nz S m)).map (nh S m))) h' (H.fr y1 (by rw [y1.i 16 (by decide)]) (by decide)) (by rw [y1.i 24 (by decide)]; exact ha.tl) (fun z hz => hl z (List.mem_cons_of_mem _ hz)) (fun E hE2 => hE E (by rw [enL_cons]; exact List.mem_append_right _ hE2)) (by omega) (by rw [List.length_append]; omega) y2 (fun h'' z1 z2 => ?_)
    rw [List.append_assoc, ← tlL_app, ← enL_cons] at z2 ⊢
    exact K h'' (y1.tr z1) z2
theorem c_tell (O : okS S rk) {h : Hp} (H : C_st S h) {n : Nat} {lo hi : Int32} (hn : h.1 16 7 = nI n) (hu : ¬ nu S n = 0) (hr : rk n < 64) (hb : ∀ j, j ≤ rk n → (rws S j [n]).length ≤ 64) (hE : ∀ E ∈ enL S (rws S (rk n) [n]), okE E) (hc : (enL S (rws S (rk n) [n])).length ≤ 240) (K : ∀ h', fr [24, 25, 26] h h' → arL (h'.1 26) (tlL lo hi (enL S (rws S (rk n) [n]))) → Q (some (vI (nI (tlL lo hi (enL S (rws S (rk n) [n]))).length))) h') : EvM mX5_tell [vR 16, vI lo, vI hi, vR 26] h Q := by
  apply sX5_tell
  refine c_listLeaves O H hn hu hr hb (fun h' f a => ⟨_, rfl, ?_⟩)
  refine c_tell_12 O (hb _ (Nat.le_refl _)) _ 0 [] h' (H.fr f (by rw [f.i 16 (by decide)]) (by decide)) a.tl (lv_mem O hu) hE (by omega) (by simpa using hc) (fun i hi => absurd hi (Nat.not_lt_zero _)) (fun h'' y1 y2 => ?_)
  rw [List.nil_append] at y2 ⊢
  exact K h'' ((f.mono (by decide)).tr (y1.mono (by decide))) y2
/-- the first entry with the key of the one behind it -/
def twn : List Int → Nat → Int → Option Nat
  | [], _, _ => none
  | e :: t, p, b => if 0 < p ∧ b / 256 = e / 256 then some (p - 1) else twn t (p + 1) e
theorem c_twin_12 {x : Nat} (hx2 : x ≤ 64) {h : Hp} (H : C_st S h) : ∀ (l : List Nat) (i p : Nat) (w : Int64), arT (h.1 24) i l → (∀ m ∈ l, m < 64 ∧ ¬ nu S m = 0 ∧ nz S m ≤ 8) → (∀ E ∈ enL S l, okE E) → i + l.length = x → p + (enL S l).length < 2000 → okE w.toInt → (∀ r, twn (enL S l) p w.toInt = some r → Q (some (vI (nI r))) h) → (twn (enL S l) p w.toInt = none → Q (some (vI (-1))) h) → Ev mX5_firstTwin 12 [(0, vR 16), (1, vI (nI x)), (2, vI (nI p)), (3, vL w), (5, vI (nI i))] [] h Q
  | [], i, p, w, ha, hl, hE, hx, hn, hw, K1, K2 => by
    apply sX5_firstTwin_12
    have hx : i = x := by simpa using hx
    subst hx
    simp (disch := omega) only [nt_le, nt_lt, nt_eq, nt_cl, nt_vp, nI_add, lu_le, lu_lt, lu_eq, ul_le, ul_lt, ul_eq, lu_add, ul_add, lu_sub, lu_mul, ul_mul, nt_sub, nt_m1]
    exact ⟨fun _ => K2 rfl, fun c => absurd (Nat.le_refl _) c⟩
  | m :: t, i, p, w, ha, hl, hE, hx, hn, hw, K1, K2 => by
    obtain ⟨mb, hu, hz⟩ := hl m List.mem_cons_self
    rw [List.length_cons] at hx
    rw [enL_len] at hn
    have hEm : ∀ j, j < nz S m → okE (nh S m j) := fun j hj => hE _ (by rw [enL_cons]; exact List.mem_append_left _ (List.mem_map.mpr ⟨j, List.mem_range.mpr hj, rfl⟩))
    apply sX5_firstTwin_12
    simp (disch := omega) only [nt_le, nt_lt, nt_eq, nt_cl, nt_vp, nI_add, lu_le, lu_lt, lu_eq, ul_le, ul_lt, ul_eq, lu_add, ul_add, lu_sub, lu_mul, ul_mul, nt_sub, nt_m1]
    rw [ha.hd]
    refine ⟨fun c => by omega, fun _ => ⟨by omega, ?_⟩⟩
    rw [enL_cons] at K1 K2
    -- the leaf, then the rest; how many came is kept by the number
    have key : ∀ (d t2 p2 : Nat) (w2 : Int64), t2 + d = nz S m → p2 = p + t2 → okE w2.toInt → (∀ r, twn (((List.range (nz S m)).map (nh S m)).drop t2 ++ enL S t) p2 w2.toInt = some r → Q (some (vI (nI r))) h) → (twn (((List.range (nz S m)).map (nh S m)).drop t2 ++ enL S t) p2 w2.toInt = none → Q (some (vI (-1))) h) → Ev mX5_firstTwin 30 [(0, vR 16), (1, vI (nI x)), (2, vI (nI p2)), (3, vL w2), (5, vI (nI i)), (6, vI (nI m)), (7, vI (nI t2))] [] h Q := by
      obtain ⟨q1, q2, q3⟩ := H.2.2 m mb hu
      intro d
      induction d with
      | zero =>
        intro t2 p2 w2 ht hp hw2 J1 J2
        have hdr : ((List.range (nz S m)).map (nh S m)).drop t2 = [] := List.drop_eq_nil_of_le (by simp; omega)
        rw [hdr, List.nil_append] at J1 J2
        apply sX5_firstTwin_30
        simp (disch := omega) only [nt_le, nt_lt, nt_eq, nt_cl, nt_vp, nI_add, lu_le, lu_lt, lu_eq, ul_le, ul_lt, ul_eq, lu_add, ul_add, lu_sub, lu_mul, ul_mul, nt_sub, nt_m1]
        rw [q1]
        simp (disch := omega) only [nt_le, nt_lt, nt_eq, nt_cl, nt_vp, nI_add, lu_le, lu_lt, lu_eq, ul_le, ul_lt, ul_eq, lu_add, ul_add, lu_sub, lu_mul, ul_mul, nt_sub, nt_m1]
        refine ⟨mb, fun _ => ?_, fun c => by omega⟩
        exact c_twin_12 hx2 H t (i + 1) p2 w2 ha.tl (fun z hz => hl z (List.mem_cons_of_mem _ hz)) (fun E hE2 => hE E (by rw [enL_cons]; exact List.mem_append_right _ hE2)) (by omega) (by omega) hw2 J1 J2
      | succ d ih =>
        intro t2 p2 w2 ht hp hw2 J1 J2
        have ht2 : t2 < ((List.range (nz S m)).map (nh S m)).length := by simp; omega
        have ed : ((List.range (nz S m)).map (nh S m)).drop t2 = nh S m t2 :: ((List.range (nz S m)).map (nh S m)).drop (t2 + 1) := by
          rw [List.drop_eq_getElem_cons ht2]
          simp
        rw [ed, List.cons_append] at J1 J2
        have qt := q3 t2 (by omega)
        have okw : okE (h.2.2 m t2).toInt := by rw [qt]; exact hEm t2 (by omega)
        have nx : ¬ (0 < p2 ∧ w2.toInt / 256 = nh S m t2 / 256) → Ev mX5_firstTwin 30 [(0, vR 16), (1, vI (nI x)), (2, vI (nI (p2 + 1))), (3, vL (h.2.2 m t2)), (5, vI (nI i)), (6, vI (nI m)), (7, vI (nI (t2 + 1)))] [] h Q := by
          intro hno
          rw [twn, if_neg hno] at J1 J2
          refine ih (t2 + 1) (p2 + 1) _ (by omega) (by omega) okw ?_ ?_
          · rw [qt]
            exact J1
          · rw [qt]
            exact J2
        apply sX5_firstTwin_30
        simp (disch := omega) only [nt_le, nt_lt, nt_eq, nt_cl, nt_vp, nI_add, lu_le, lu_lt, lu_eq, ul_le, ul_lt, ul_eq, lu_add, ul_add, lu_sub, lu_mul, ul_mul, nt_sub, nt_m1]
        rw [q1]
        simp (disch := omega) only [nt_le, nt_lt, nt_eq, nt_cl, nt_vp, nI_add, lu_le, lu_lt, lu_eq, ul_le, ul_lt, ul_eq, lu_add, ul_add, lu_sub, lu_mul, ul_mul, nt_sub, nt_m1]
        refine ⟨mb, fun c => by omega, fun _ => ⟨mb, by omega, fun c => nx (by omega), fun c => ?_⟩⟩
        apply sX6_keyOf
        refine ⟨_, rfl, ?_⟩
        apply sX6_keyOf
        refine ⟨_, rfl, ?_⟩
        rw [← Int32.toInt_inj, key_int hw2, key_int okw, qt]
        refine ⟨fun c2 => nx (by omega), fun c2 => ?_⟩
        rw [show nI p2 - 1 = nI (p2 - 1) from nt_sub (b := 1) (by omega)]
        refine J1 (p2 - 1) ?_
        rw [twn, if_pos ⟨by omega, c2⟩]
    exact key (nz S m) 0 p w (by omega) (by omega) hw (by rw [List.drop_zero]; exact K1) (by rw [List.drop_zero]; exact K2)
theorem c_firstTwin (O : okS S rk) {h : Hp} (H : C_st S h) {n : Nat} (hn : h.1 16 7 = nI n) (hu : ¬ nu S n = 0) (hr : rk n < 64) (hb : ∀ j, j ≤ rk n → (rws S j [n]).length ≤ 64) (hE : ∀ E ∈ enL S (rws S (rk n) [n]), okE E) (K1 : ∀ h' r, fr [24, 25] h h' → twn (enL S (rws S (rk n) [n])) 0 0 = some r → Q (some (vI (nI r))) h') (K2 : ∀ h', fr [24, 25] h h' → twn (enL S (rws S (rk n) [n])) 0 0 = none → Q (some (vI (-1))) h') : EvM mX5_firstTwin [vR 16] h Q := by
  apply sX5_firstTwin
  have hbb := hb _ (Nat.le_refl (rk n))
  have hle := enL_le (S := S) _ (lv_mem O hu)
  refine c_listLeaves O H hn hu hr hb (fun h' f a => ⟨_, rfl, ?_⟩)
  exact c_twin_12 hbb (H.fr f (by rw [f.i 16 (by decide)]) (by decide)) _ 0 0 0 a.tl (lv_mem O hu) hE (by omega) (by omega) ⟨by decide, by decide⟩ (fun r hr2 => K1 h' r f hr2) (fun hr2 => K2 h' f hr2)
end AS2
