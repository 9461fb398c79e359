/-! the class: a node is loaded -/
theorem ad_new {S : SR} {m : Nat} {v : Int32} : eqS (nNew m v S) (adS m v [] S) := by
  refine ⟨rfl, rfl, rfl, rfl, fun n i hi => ?_⟩
  by_cases q : n = m
  · subst q
    have hi : i < va_up (nz S) n 0 n := hi
    rw [va_up_self] at hi
    exact absurd hi (Nat.not_lt_zero _)
  · show nh S n i = va_up (nh S) m _ n i
    rw [va_up_ne _ _ q]
theorem ad_put {S : SR} {m : Nat} {v : Int32} {l : List Int} {e : Int} : eqS (pIn m l.length e (adS m v l S)) (adS m v (l ++ [e]) S) := by
  refine ⟨?_, rfl, rfl, ?_, fun n i hi => ?_⟩
  · funext n
    show va_up (va_up (nz S) m l.length) m (va_up (nz S) m l.length m + 1) n = va_up (nz S) m (l ++ [e]).length n
    by_cases q : n = m
    · subst q
      rw [va_up_self, va_up_self, va_up_self, List.length_append]
      rfl
    · rw [va_up_ne _ _ q, va_up_ne _ _ q, va_up_ne _ _ q]
  · funext n
    show upd (upd (nd S) m 1) m 1 n = upd (nd S) m 1 n
    by_cases q : n = m
    · subst q
      rw [upd_at, upd_at]
    · rw [upd_ne _ _ q]
  · show va_up (va_up (nh S) m (fun i => l.getD i 0)) m (insf (va_up (nh S) m (fun i => l.getD i 0) m) l.length e) n i = va_up (nh S) m (fun i => (l ++ [e]).getD i 0) n i
    have hi : i < va_up (va_up (nz S) m l.length) m (va_up (nz S) m l.length m + 1) n := hi
    by_cases q : n = m
    · subst q
      rw [va_up_self, va_up_self] at hi
      rw [va_up_self, va_up_self, va_up_self]
      unfold insf
      dsimp only
      rw [gD_app (by rw [List.length_append]; exact hi)]
      by_cases z : i < l.length
      · rw [if_pos z, if_pos z]
      · rw [if_neg z, if_neg z, if_pos (by omega)]
    · rw [va_up_ne _ _ q, va_up_ne _ _ q, va_up_ne _ _ q]
theorem fw_nn {S : SR} {m N : Nat} (h1 : ∀ n, ¬ nu S n = 0 ↔ n < m) {n : Nat} (h : ff (nu S) N 0 = some n) : n = m := by
  obtain ⟨a1, a2, a3, a4⟩ := ff_lt h
  have b1 : ¬ n < m := fun z => (h1 n).mpr z a3
  by_cases q : n = m
  · exact q
  · have := a4 m (Nat.zero_le _) (by omega)
    have := (h1 m).mp this
    omega
section CLD
variable {X : XT} {L : LT} {N : NT} {h : Hp} {Q : Option AV → Hp → Prop}
theorem c_make_27 {S : SR} {m a E : Nat} {v : Int32} {l : List Int} {lf : Bool} {fl : List Int} (hm : m < 64) (hl : l.length = min 6 (E - a)) (haE : a ≤ E) (hE : E ≤ 240) (hlf : lf = true → E = fl.length ∧ ∀ i, i < l.length → l.getD i 0 = fl.getD (a + i) 0) (hln : lf = false → ∀ i, i < l.length → l.getD i 0 = ((a + i : Nat) : Int)) : ∀ (d i : Nat) (h : Hp), i + d = l.length → C_st (adS m v (l.take i) S) h → h.1 12 1 = nI (a + i) → h.1 12 2 = nI E → h.1 12 0 = bI lf → (lf = true → h.1 7 4 = nI fl.length ∧ ∀ i, i < fl.length → (h.2.1 9 i).toInt = fl.getD i 0) →
    (∀ h', fz 12 [12, 17, 18, 21] [1] h h' → C_st (adS m v l S) h' → h'.1 12 1 = nI (a + l.length) → Ev mX1_makeNode 89 [(0, vR 12), (1, vR 16), (2, vR 7), (3, vI (nI m))] [] h' Q) → Ev mX1_makeNode 27 [(0, vR 12), (1, vR 16), (2, vR 7), (3, vI (nI m)), (4, vI (nI i))] [] h Q := by
  intro d
  induction d with
  | zero =>
    intro i h hi H h1 h2 h0 hf K
    have e : i = l.length := by omega
    subst e
    rw [List.take_length] at H
    apply sX1_makeNode_27
    rw [h1, h2]
    simp (disch := omega) only [nt_le, nt_lt, nt_eq, nt_cl, nt_vp, nI_add, lu_le, lu_lt, lu_eq, ul_le, ul_lt, ul_eq, lu_add, ul_add, lu_sub, lu_mul, ul_mul, nt_sub, nt_m1]
    exact ⟨fun _ => K h fz.rf H h1, fun z => ⟨fun _ => K h fz.rf H h1, fun z2 => by omega⟩⟩
  | succ d ih =>
    intro i h hi H h1 h2 h0 hf K
    have tl : (l.take i).length = i := by
      rw [List.length_take]
      omega
    have tk := tk_snoc (l := l) (s := i) (by omega)
    have put : ∀ (w : Int64), w.toInt = l.getD i 0 → Ev mX1_makeNode 70 [(0, vR 12), (1, vR 16), (2, vR 7), (3, vI (nI m)), (4, vI (nI i))] [vL w, vI (nI m), vR 16] h Q := by
      intro w hw
      have hu : ¬ nu (adS m v (l.take i) S) m = 0 := (ad_us m).mpr (Or.inl rfl)
      have nzm : nz (adS m v (l.take i) S) m = i := by rw [ad_m.1, tl]
      obtain ⟨q1, q2, q3⟩ := H.2.2 m hm hu
      rw [nzm] at q1
      apply sX1_makeNode_70
      apply sX5_append
      simp (disch := omega) only [nt_le, nt_lt, nt_eq, nt_cl, nt_vp, nI_add, lu_le, lu_lt, lu_eq, ul_le, ul_lt, ul_eq, lu_add, ul_add, lu_sub, lu_mul, ul_mul, nt_sub, nt_m1]
      rw [q1]
      refine ⟨fun z => absurd z (Nat.not_lt_zero _), fun _ => ⟨fun z => by omega, fun _ => ⟨by omega, ?_⟩⟩⟩
      refine c_putIn H hm hu (by rw [nzm]; exact Nat.le_refl _) (by rw [nzm]; omega) (fun h3 f3 H3 => ⟨rfl, trivial, fun h4 e4 => ?_⟩)
      have c12 : h3.1 12 = h.1 12 := f3.i 12 (by decide)
      have f4 : fz 12 [12, 17, 18, 21] [1] h h4 := by
        refine ((fz.of (F := []) f3 (by decide)).mono (by decide) (by decide)).tr ?_
        rw [e4]
        (repeat first | exact fz.rf | refine fz.up ?_ (by decide) (by decide) | refine fz.sI ?_ (by decide) (by decide) _ | refine fz.sJ ?_ (by decide) _)
      have H3 : C_st (adS m v (l.take (i + 1)) S) h3 := by
        rw [tk]
        have := ad_put (S := S) (m := m) (v := v) (l := l.take i) (e := l.getD i 0)
        rw [tl, ← hw] at this
        rw [← hw]
        exact H3.cg this
      refine ih (i + 1) h4 (by omega) (H3.fr (T := [12]) (by rw [e4]; (repeat first | exact fr.rf | refine fr.sI ?_ (by decide) _ | refine fr.sJ ?_ (by decide) _ | refine fr.sW ?_ (by decide) _ _)) (by rw [e4]; simp (disch := decide) only [sI_at, sI_ne, sI_21, sI_22, sJ_1, sJ_at, sJ_ne, sJ_22, sW_1, sW_21, upd_at, upd_ne]) (by decide)) ?_ ?_ ?_ (fun z => ?_) (fun h' y1 y2 y3 => K h' (f4.tr y1) y2 y3)
      · rw [e4]
        simp (disch := decide) only [sI_at, sI_ne, sI_21, sI_22, sJ_1, sJ_at, sJ_ne, sJ_22, sW_1, sW_21, upd_at, upd_ne]
        rw [c12, h1]
        exact nI_1 _
      · rw [f4.2 2 (by decide)]
        exact h2
      · rw [f4.2 0 (by decide)]
        exact h0
      · rw [f4.1.i 7 (by decide), f4.1.j 9 (by decide)]
        exact hf z
    apply sX1_makeNode_27
    rw [h1, h2, h0, bI_0]
    simp (disch := omega) only [nt_le, nt_lt, nt_eq, nt_cl, nt_vp, nI_add, lu_le, lu_lt, lu_eq, ul_le, ul_lt, ul_eq, lu_add, ul_add, lu_sub, lu_mul, ul_mul, nt_sub, nt_m1]
    refine ⟨fun z => by omega, fun _ => ⟨fun z => by omega, fun _ => ⟨fun z => put _ ?_, fun z => ?_⟩⟩⟩
    · rw [hln z i (by omega), Int32.toInt_toInt64, nI_toInt (show a + i < 2 ^ 31 by omega)]
    · have z : lf = true := by simpa using z
      obtain ⟨z1, z2⟩ := hf z
      obtain ⟨y1, y2⟩ := hlf z
      apply sX3_entryAt
      rw [z1]
      simp (disch := omega) only [nt_le, nt_lt, nt_eq, nt_cl, nt_vp, nI_add, lu_le, lu_lt, lu_eq, ul_le, ul_lt, ul_eq, lu_add, ul_add, lu_sub, lu_mul, ul_mul, nt_sub, nt_m1]
      refine ⟨fun y => absurd y (Nat.not_lt_zero _), fun _ => ⟨fun y => by omega, fun _ => ⟨by omega, _, rfl, put _ ?_⟩⟩⟩
      rw [z2 (a + i) (by omega), y2 i (by omega)]
theorem c_loadNode (C : CX X L N h) (I : PI X L) (q : X.2.2.1.1 = 3) (K : ∀ h', fr Uc h h' → CX (ptX 1 (ldY X L)).2 (ldL X L) N h' → Q (some (vI (bI (ptX 1 (ldY X L)).1))) h') : EvM mX6_loadNode [vR 0] h Q := by
  obtain ⟨o1, o2, o3, o4, o5, o6, o7, o8, -⟩ := ld_ok I q
  obtain ⟨li, -⟩ := ld_in I q
  have us := li.1
  obtain ⟨-, -, -, -, -, lt⟩ := ld_in I q
  obtain ⟨H1, H2, H3, H4, H5, H6, H7⟩ := C
  obtain ⟨d0, d1, d2, d3⟩ := H5 q
  have ee : (if L.1 = true then X.2.2.2.1.2.1.flatten.length else L.2.2) = ldE X L := rfl
  rw [ee] at d2
  have en : L.2.1 + 6 * (nn X.2.2.2.2 - L.2.2) = ldn X L := rfl
  rw [en] at d1
  have R := H4.2.1
  apply sX6_loadNode
  apply sX5_nodeCount
  have nc : h.1 16 5 = nI (nn X.2.2.2.2) := H6.1.2.1
  rw [nc]
  refine ⟨_, rfl, ?_⟩
  simp (disch := omega) only [nt_le, nt_lt, nt_eq, nt_cl, nt_vp, nI_add, lu_le, lu_lt, lu_eq, ul_le, ul_lt, ul_eq, lu_add, ul_add, lu_sub, lu_mul, ul_mul, nt_sub, nt_m1]
  refine ⟨fun _ => ?_, fun z => by omega⟩
  have fl1 : L.1 = true → ldE X L = X.2.2.2.1.2.1.flatten.length ∧ ∀ i, i < (ldl X L).length → (ldl X L).getD i 0 = X.2.2.2.1.2.1.flatten.getD (ldn X L + i) 0 := by
    intro z
    have e0 := lt z
    refine ⟨by unfold ldE; rw [if_pos z], fun i hi => ?_⟩
    have e1 : ldl X L = (X.2.2.2.1.2.1.flatten.drop (6 * nn X.2.2.2.2)).take 6 := by
      unfold ldl
      rw [if_pos z]
    have e2 : ldn X L = 6 * nn X.2.2.2.2 := by
      rw [e0]
      unfold ldn
      show 0 + 6 * (nn X.2.2.2.2 - 0) = _
      omega
    rw [e1] at hi ⊢
    rw [e2]
    rw [List.length_take] at hi
    rw [List.getD_eq_getElem?_getD, List.getElem?_take, if_pos (by omega), List.getElem?_drop, ← List.getD_eq_getElem?_getD]
  have fl2 : L.1 = false → ∀ i, i < (ldl X L).length → (ldl X L).getD i 0 = ((ldn X L + i : Nat) : Int) := by
    intro z i hi
    have e1 : ldl X L = rgI (ldn X L) (min 6 (ldE X L - ldn X L)) := by
      unfold ldl ldE ldn
      rw [if_neg (by rw [z]; decide), if_neg (by rw [z]; decide)]
    rw [e1] at hi ⊢
    rw [rgI_len] at hi
    exact rgI_at hi
  have go : ∀ s : Int32, s = bI (!L.1) → Ev mX1_makeNode 13 [(0, vR 12), (1, vR 16), (2, vR 7)] [vI s, vR 16] h (fun v h4 => ∃ r5 : Int32, v = some (vI r5) ∧ (((r5 = 0) → EvM mX6_putBlocks [vR 0, vI 1] h4 (fun v h7 => ∃ r8 : Int32, v = some (vI r8) ∧ ((r8 = 0 ∨ r8 = 1) ∧ Q (some (vI r8)) h7))) ∧ ((¬ r5 = 0) → (∀ h9 : Hp, h9 = sI h4 0 (upd (h4.1 0) 2 4) → EvM mX6_putBlocks [vR 0, vI 1] h9 (fun v h10 => ∃ r11 : Int32, v = some (vI r11) ∧ ((r11 = 0 ∨ r11 = 1) ∧ Q (some (vI r11)) h10)))))) := by
    intro s hs
    subst hs
    apply sX1_makeNode_13
    refine c_newNode H6.1 (b := bI (!L.1)) (by cases L.1 <;> decide) (fun z => ?_) (fun n h1 z hn f1 g1 S1 => ?_)
    · have := ff_none z (nn X.2.2.2.2) (Nat.zero_le _) (by omega)
      exact absurd o2 this
    · have e := fw_nn us z
      subst e
      refine ⟨_, rfl, fun _ => ?_, fun y => ?_⟩
      · refine c_make_27 (S := X.2.2.2.2.1) (m := nn X.2.2.2.2) (a := ldn X L) (E := ldE X L) (v := bI (!L.1)) (l := ldl X L) (lf := L.1) (fl := X.2.2.2.1.2.1.flatten) hn o4 o5 o6 fl1 fl2 (ldl X L).length 0 h1 (by omega) (S1.cg ad_new) ?_ ?_ ?_ (fun y => ?_) (fun h2 f2 S2 n2 => ?_)
        · rw [f1.i 12 (by decide)]
          exact d1
        · rw [f1.i 12 (by decide)]
          exact d2
        · rw [f1.i 12 (by decide)]
          exact d0
        · rw [f1.i 7 (by decide), f1.j 9 (by decide)]
          exact ⟨R.2.1, R.2.2.2.2.1⟩
        have F2 : fr [12, 16, 17, 18, 19, 20, 21] h h2 := (f1.mono (by decide)).tr (f2.1.mono (by decide))
        have c2 : h2.1 12 2 = nI (ldE X L) := by
          rw [f2.2 2 (by decide), f1.i 12 (by decide)]
          exact d2
        have c0 : h2.1 12 0 = bI L.1 := by
          rw [f2.2 0 (by decide), f1.i 12 (by decide)]
          exact d0
        have c3 : h2.1 12 3 = nI L.2.2 := by
          rw [f2.2 3 (by decide), f1.i 12 (by decide)]
          exact d3
        have t6 : ∀ x, x ≠ 5 → h2.1 16 x = h.1 16 x := fun x hx => by
          rw [f2.1.i 16 (by decide)]
          exact g1 x hx
        have nn1 : ∀ r c, nn (ldS X L, ldk X L, r, c) = nn X.2.2.2.2 + 1 := fun r c => ad_cn o2 hn
        -- a heap with the node in it
        have CY : ∀ (L' : LT) (h3 : Hp), fr [12] h2 h3 → C_ld L' X.2.2.2.1.2.1.flatten.length (nn X.2.2.2.2 + 1) h3 → CX (ld1 X L) L' N h3 := by
          intro L' h3 f3 l3
          have F3 : fr [12, 16, 17, 18, 19, 20, 21] h h3 := F2.tr (f3.mono (by decide))
          have G3 : fz 0 [12, 16, 17, 18, 19, 20, 21] [] h h3 := fz.of F3 (by decide)
          refine ⟨H1.k F3 (by decide), H2.k F3 (by decide), H3.k G3 (by decide), H4.k G3 (by decide) (by decide), fun _ => ?_, ⟨S2.fr f3 (by rw [f3.i 16 (by decide)]) (by decide), ?_, ?_⟩, H7.k G3 (by decide) (by decide)⟩
          · show C_ld L' X.2.2.2.1.2.1.flatten.length (nn (ldS X L, ldk X L, X.2.2.2.2.2.2)) h3
            rw [nn1]
            exact l3
          · rw [f3.i 16 (by decide), t6 7 (by decide)]
            exact H6.2.1
          · rw [f3.i 16 (by decide), t6 6 (by decide)]
            exact H6.2.2
        have s7 : (ldY X L).2.2.1.1 < 7 := by
          unfold ldY
          split
          · show X.2.2.1.1 < 7
            omega
          · split
            · show 4 < 7
              decide
            · show X.2.2.1.1 < 7
              omega
        apply sX1_makeNode_89
        rw [c2, n2, c3]
        simp (disch := omega) only [nt_le, nt_lt, nt_eq, nt_cl, nt_vp, nI_add, lu_le, lu_lt, lu_eq, ul_le, ul_lt, ul_eq, lu_add, ul_add, lu_sub, lu_mul, ul_mul, nt_sub, nt_m1]
        refine ⟨fun y => ⟨fun y2 => ?_, fun y2 => ?_⟩, fun y => ?_⟩
        · intro k3 e3 k4 e4 k5 e5 k6 e6
          have ny : ¬ ldn X L + 6 < ldE X L := by omega
          have eY : ldY X L = ld1 X L := by
            unfold ldY
            rw [if_neg ny, if_neg y2]
          have eL : ldL X L = (false, L.2.2, nn X.2.2.2.2 + 1) := by
            unfold ldL
            rw [if_neg ny, if_neg y2]
          rw [eY, eL] at K
          have f6 : fr [12] h2 k6 := by
            rw [e6, e5, e4, e3]
            (repeat first | exact fr.rf | refine fr.sI ?_ (by decide) _ | refine fr.sJ ?_ (by decide) _ | refine fr.sW ?_ (by decide) _ _)
          have C6 := CY (false, L.2.2, nn X.2.2.2.2 + 1) k6 f6 (by
            rw [e6, e5, e4, e3]
            refine ⟨?_, ?_, ?_, ?_⟩ <;> simp (disch := decide) only [sI_at, sI_ne, sI_21, sI_22, sJ_1, sJ_at, sJ_ne, sJ_22, sW_1, sW_21, upd_at, upd_ne]
            · rfl
            · rw [c3]
              show nI L.2.2 = nI (L.2.2 + 6 * (nn X.2.2.2.2 + 1 - (nn X.2.2.2.2 + 1)))
              rw [Nat.sub_self]
              rfl
            · rfl)
          refine ⟨0, rfl, fun _ => ?_, fun w => absurd rfl w⟩
          exact c_putBlocks (n := 1) C6 (by rw [← eY]; exact s7) (by decide) (fun h5 f5 C5 => ⟨_, rfl, by cases (ptX _ _).1 <;> decide, K h5 ((F2.mono (by decide)).tr ((f6.mono (by decide)).tr f5)) C5⟩)
        · have ny : ¬ ldn X L + 6 < ldE X L := by omega
          have eY : ldY X L = ld2 X L := by
            unfold ldY
            rw [if_neg ny, if_pos y2]
          have eL : ldL X L = L := by
            unfold ldL
            rw [if_neg ny, if_pos y2]
          rw [eY, eL] at K
          apply sX3_total
          have t4 : h2.1 7 4 = nI X.2.2.2.1.2.1.flatten.length := by
            rw [F2.i 7 (by decide)]
            exact R.2.1
          rw [t4]
          refine ⟨_, rfl, ?_⟩
          apply sX5_finishLoad
          intro k1 e1 k2 e2
          refine ⟨rfl, 1, rfl, fun w => absurd w (by decide), fun _ k9 e9 => ?_⟩
          have f9 : fr [0, 16] h2 k9 := by
            rw [e9, e2, e1]
            (repeat first | exact fr.rf | refine fr.sI ?_ (by decide) _ | refine fr.sJ ?_ (by decide) _ | refine fr.sW ?_ (by decide) _ _)
          have G9 : fz 0 [0, 12, 16, 17, 18, 19, 20, 21] [2] h k9 := by
            refine ((fz.of (F := []) F2 (by decide)).mono (by decide) (by decide)).tr ?_
            rw [e9, e2, e1]
            (repeat first | exact fz.rf | refine fz.up ?_ (by decide) (by decide) | refine fz.sI ?_ (by decide) (by decide) _ | refine fz.sJ ?_ (by decide) _)
          have C9 : CX (ld2 X L) L N k9 := by
            refine ⟨H1.k G9.1 (by decide), H2.k G9.1 (by decide), ⟨?_, ?_, ?_, ?_, ?_⟩, H4.k G9 (by decide) (by decide), fun w => absurd w (by show ¬ (4 : Nat) = 3; decide), ⟨S2.fr f9 ?_ (by decide), ?_, ?_⟩, H7.k G9 (by decide) (by decide)⟩
            · rw [e9]
              simp (disch := decide) only [sI_at, sI_ne, sI_21, sI_22, sJ_1, sJ_at, sJ_ne, sJ_22, sW_1, sW_21, upd_at, upd_ne]
              rfl
            · rw [G9.2 3 (by decide)]
              exact H3.2.1
            · rw [G9.2 5 (by decide)]
              exact H3.2.2.1
            · rw [G9.2 6 (by decide)]
              exact H3.2.2.2.1
            · rw [G9.2 7 (by decide)]
              exact H3.2.2.2.2
            · rw [e9, e2, e1]
              simp (disch := decide) only [sI_at, sI_ne, sI_21, sI_22, sJ_1, sJ_at, sJ_ne, sJ_22, sW_1, sW_21, upd_at, upd_ne]
            · rw [e9, e2, e1]
              simp (disch := decide) only [sI_at, sI_ne, sI_21, sI_22, sJ_1, sJ_at, sJ_ne, sJ_22, sW_1, sW_21, upd_at, upd_ne]
              rfl
            · rw [e9, e2, e1]
              simp (disch := decide) only [sI_at, sI_ne, sI_21, sI_22, sJ_1, sJ_at, sJ_ne, sJ_22, sW_1, sW_21, upd_at, upd_ne]
              rfl
          exact c_putBlocks (n := 1) C9 (by rw [← eY]; exact s7) (by decide) (fun h5 f5 C5 => ⟨_, rfl, by cases (ptX _ _).1 <;> decide, K h5 ((F2.mono (by decide)).tr ((f9.mono (by decide)).tr f5)) C5⟩)
        · have ny : ldn X L + 6 < ldE X L := by omega
          have eY : ldY X L = ld1 X L := by
            unfold ldY
            rw [if_pos ny]
          have eL : ldL X L = L := by
            unfold ldL
            rw [if_pos ny]
          rw [eY, eL] at K
          have C6 := CY L h2 fr.rf (by
            refine ⟨c0, ?_, ?_, c3⟩
            · rw [n2]
              congr 1
              unfold ldn at ny ⊢
              omega
            · exact c2)
          refine ⟨0, rfl, fun _ => ?_, fun w => absurd rfl w⟩
          exact c_putBlocks (n := 1) C6 (by rw [← eY]; exact s7) (by decide) (fun h5 f5 C5 => ⟨_, rfl, by cases (ptX _ _).1 <;> decide, K h5 ((F2.mono (by decide)).tr f5) C5⟩)
      · exact absurd y (by
          intro w
          have := congrArg Int32.toInt w
          rw [nI_toInt (show nn X.2.2.2.2 < 2 ^ 31 by omega), show (-1 : Int32).toInt = -1 from rfl] at this
          omega)
  apply sX1_makeNode
  rw [d0]
  refine ⟨fun z => go 0 ?_, fun z => go 1 ?_⟩
  · cases e : L.1 with
    | true => rfl
    | false =>
      rw [e] at z
      exact absurd rfl z
  · rw [bI_0.mp z]
    rfl
end CLD
