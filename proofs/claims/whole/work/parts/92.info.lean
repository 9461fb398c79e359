/-! calls of both: info -/
theorem fl_ge {n : Nat} : ∀ (l : List (List Int)), (∀ r ∈ l, n ≤ r.length) → n * l.length ≤ l.flatten.length
  | [], _ => by simp
  | x :: l, h => by
    rw [List.flatten_cons, List.length_append, List.length_cons]
    have := fl_ge l (fun r hr => h r (List.mem_cons_of_mem _ hr))
    have := h x (List.mem_cons_self ..)
    rw [Nat.mul_add]
    omega
section INF
variable {X : XT} {L : LT} {N : NT} {h : Hp} {Q : Option AV → Hp → Prop} {P : Int32 → Option AV → Hp → Prop}
theorem PR.cl10 {R : Int → Prop} (H : PR R X L) : X.2.2.2.1.2.1.length ≤ 10 ∧ (X.2.2.2.1.2.1.flatten ++ X.2.2.2.1.2.2.1).length ≤ 240 := by
  by_cases q : 1 ≤ X.2.2.1.1 ∧ X.2.2.1.1 ≤ 4
  · obtain ⟨⟨b1, -⟩, r1, r2, r3, r4, r5, r6, r7⟩ := H.2.2.2.2.2.2.2.2.2.1 q
    refine ⟨?_, by omega⟩
    by_cases q1 : X.2.2.1.1 = 1
    · have := fl_ge _ (r5 q1).2.2
      rw [List.length_append] at r1
      omega
    · exact (r6 (by omega)).2.2
  · rw [H.2.2.2.2.2.2.1 q]
    exact ⟨by decide, by decide⟩
theorem m_runFrom {cl : List (List Int)} {op : List Int} (H : M_rn cl op h) (hc : cl.length ≤ 40) (K : Q (some (vI (nI cl.flatten.length))) h) : EvM mX7_runFrom [vR 27, vI (nI cl.length)] h Q := by
  apply sX7_runFrom
  refine ⟨fun z => ?_, fun z => ?_⟩
  · have c1 : 1 ≤ cl.length := by
      by_cases q : cl.length = 0
      · rw [q] at z
        exact absurd rfl z
      · omega
    rw [show nI cl.length - 1 = nI (cl.length - 1) from lu_sub (k := 1) c1]
    simp (disch := omega) only [nt_le, nt_lt, nt_eq, nt_cl, nt_vp, nI_add, lu_le, lu_lt, lu_eq, ul_le, ul_lt, ul_eq, lu_add, ul_add, lu_sub, lu_mul, ul_mul, nt_sub, nt_m1]
    refine ⟨by omega, ?_⟩
    rw [H.2.2.2 (cl.length - 1) (by omega), show cl.length - 1 + 1 = cl.length by omega, List.take_length]
    exact K
  · have c0 : cl.length = 0 := by
      rw [show (0 : Int32) = nI 0 from rfl, nt_eq (by omega) (by decide)] at z
      exact z
    have : cl = [] := List.eq_nil_of_length_eq_zero c0
    subst this
    exact K
theorem m_infoX {x : Int32} (M : MX X L N h) (hs : X.2.2.1.1 < 7) (d0 : X.1.1 = 0) (K : ∀ h', h' = sI h 27 (upd (h.1 27) 0 0) → Ev mX7_info 46 [(0, vR 27), (1, vI x), (2, vI (bI (decide (1 ≤ X.2.2.1.1 ∧ X.2.2.1.1 ≤ 4))))] [vI (bI (decide (X.2.2.1.1 = 4 ∨ X.2.2.1.1 = 5)))] h' Q) : EvM mX7_info [vR 27, vI x] h Q := by
  have le : ∀ a b : Nat, a < 2147483648 → b < 2147483648 → ((nI a).toInt ≤ (nI b).toInt ↔ a ≤ b) := fun a b ha hb => by
    rw [← Int32.le_iff_toInt_le]
    exact nt_le ha hb
  apply sX7_info
  intro h4 e4
  have M4 := M.th e4
  have k := K h4 e4
  rw [m_down M e4, M4.2.2.1.1]
  refine ⟨fun _ => ?_, fun z => absurd d0 z⟩
  have fin : ∀ r, r = bI (decide (1 ≤ X.2.2.1.1 ∧ X.2.2.1.1 ≤ 4)) → ((h4.1 27 11 = 4 → Ev mX7_info 41 [(0, vR 27), (1, vI x), (2, vI r)] [] h4 Q) ∧ (¬ h4.1 27 11 = 4 → ((¬ h4.1 27 11 = 5 → Ev mX7_info 46 [(0, vR 27), (1, vI x), (2, vI r)] [vI 0] h4 Q) ∧ (h4.1 27 11 = 5 → Ev mX7_info 41 [(0, vR 27), (1, vI x), (2, vI r)] [] h4 Q)))) := by
    intro r hr
    subst hr
    rw [M4.2.2.1.1]
    simp (disch := omega) only [nt_le, nt_lt, nt_eq, nt_cl, nt_vp, nI_add, lu_le, lu_lt, lu_eq, ul_le, ul_lt, ul_eq, lu_add, ul_add, lu_sub, lu_mul, ul_mul, nt_sub, nt_m1]
    refine ⟨fun z => ?_, fun z => ⟨fun z2 => ?_, fun z2 => ?_⟩⟩
    · apply sX7_info_41
      rw [decide_eq_true (show X.2.2.1.1 = 4 ∨ X.2.2.1.1 = 5 from Or.inl z)] at k
      exact k
    · rw [decide_eq_false (show ¬ (X.2.2.1.1 = 4 ∨ X.2.2.1.1 = 5) by omega)] at k
      exact k
    · apply sX7_info_41
      rw [decide_eq_true (show X.2.2.1.1 = 4 ∨ X.2.2.1.1 = 5 from Or.inr z2)] at k
      exact k
  refine m_in (fun a1 a2 => ⟨1, rfl, fin 1 ?_⟩) (fun a => ⟨0, rfl, fin 0 ?_⟩)
  · have b1 : 1 ≤ X.2.2.1.1 := (le 1 _ (by decide) (by omega)).mp a1
    have b2 : X.2.2.1.1 ≤ 4 := (le _ 4 (by omega) (by decide)).mp a2
    rw [decide_eq_true ⟨b1, b2⟩]
    rfl
  · have : ¬ (1 ≤ X.2.2.1.1 ∧ X.2.2.1.1 ≤ 4) := fun z => a ⟨(le 1 _ (by decide) (by omega)).mpr z.1, (le _ 4 (by omega) (by decide)).mpr z.2⟩
    rw [decide_eq_false this]
    rfl
theorem op_info {x : Int32} (I : Inv h) (K : ∀ r h2, Inv h2 → P r (some (vI r)) h2) : EvM mX6_info [vR 0, vI x] h (fun v h1 => ∃ r, v = some (vI r) ∧ EvM mX7_info [vR 27, vI x] h1 (P r)) := by
  obtain ⟨X, L, N, C, M, I, n⟩ := I
  have hs := PR.s I
  have unk : ∀ h4, h4 = sI h 27 (upd (h.1 27) 0 0) → Inv h4 := fun h4 e4 => ⟨X, L, N, C.th e4, M.th e4, I, n⟩
  have cl10 := PR.cl10 I
  have bI0 : ∀ p : Prop, [Decidable p] → (bI (decide p) = 0 ↔ ¬ p) := by
    intro p _
    rw [bI_0, decide_eq_false_iff_not]
  have nb : ¬ (1 ≤ X.2.2.1.1 ∧ X.2.2.1.1 ≤ 4) → X.2.2.2.1 = (0, [], [], []) := I.2.2.2.2.2.2.1
  have wz := PR.wz I
  apply sX6_info
  refine c_isDown C I.1 ⟨_, rfl, fun d0 => ?_, fun d1 => ⟨_, rfl, ?_⟩⟩
  · have out : (¬ x = 0 ∧ ¬ x = 1 ∧ ¬ x = 2 ∧ ¬ x = 3 ∧ ¬ x = 4 ∧ ¬ x = 5 ∧ ¬ x = 6 ∧ ¬ x = 7 ∧ ¬ x = 8 ∧ ¬ x = 9 ∧ ¬ x = 10 ∧ ¬ x = 11) → EvM mX7_info [vR 27, vI x] h (P (-102)) := by
      intro ⟨q0, q1, q2, q3, q4, q5, q6, q7, q8, q9, q10, q11⟩
      refine m_infoX M hs d0 (fun h4 e4 => ?_)
      apply sX7_info_46
      exact ⟨fun z => absurd z q0, fun z => absurd z q1, fun z => absurd z q2, fun z => absurd z q3, fun z => absurd z q4, fun z => absurd z q5, fun z => absurd z q6, fun z => absurd z q7, fun z => absurd z q8, fun z => absurd z q9, fun z => absurd z q10, fun z => absurd z q11, fun _ => K _ _ (unk h4 e4)⟩
    refine ⟨fun z => ⟨_, rfl, out ?_⟩, fun z1 => ⟨fun z2 => ?_, fun z => ⟨_, rfl, out ?_⟩⟩⟩
    · refine ⟨?_, ?_, ?_, ?_, ?_, ?_, ?_, ?_, ?_, ?_, ?_, ?_⟩ <;> (intro q; rw [q] at z; exact absurd z (by decide))
    · refine ⟨fun q => ⟨_, rfl, ?_⟩, fun q => ?_, fun q => ⟨_, rfl, ?_⟩, fun q => ?_, fun q => ?_, fun q => ?_, fun q => ?_, fun q => ?_, fun q => ?_, fun q => ⟨_, rfl, ?_⟩, fun q => ⟨_, rfl, ?_⟩, fun q => ⟨_, rfl, ?_⟩⟩
      · subst q
        refine m_infoX M hs d0 (fun h4 e4 => ?_)
        apply sX7_info_46
        refine ⟨fun z => ?_, fun z => ?_, fun z => ?_, fun z => ?_, fun z => ?_, fun z => ?_, fun z => ?_, fun z => ?_, fun z => ?_, fun z => ?_, fun z => ?_, fun z => ?_, fun z => ?_⟩ <;> first | exact absurd z (by decide) | skip
        rw [C.2.2.1.1, (M.th e4).2.2.1.1]
        exact K _ _ (unk h4 e4)
      · subst q
        have mod : ∀ r, r = (if X.2.2.1.2.1 = 0 then (0 : Int32) else 1) → EvM mX7_info [vR 27, vI 1] h (P r) := by
          intro r hr
          refine m_infoX M hs d0 (fun h4 e4 => ?_)
          apply sX7_info_46
          refine ⟨fun z => ?_, fun z => ?_, fun z => ?_, fun z => ?_, fun z => ?_, fun z => ?_, fun z => ?_, fun z => ?_, fun z => ?_, fun z => ?_, fun z => ?_, fun z => ?_, fun z => ?_⟩ <;> first | exact absurd z (by decide) | skip
          have M4 := M.th e4
          have s0 : h4.1 27 11 = 0 ↔ X.2.2.1.1 = 0 := m_st M4 hs 0 (by decide)
          have k := K r _ (unk h4 e4)
          rw [s0]
          refine ⟨fun z0 => ?_, fun z0 => ?_⟩
          · have r0 : r = 0 := by rw [hr, if_pos (I.2.2.2.2.1 z0)]
            subst r0
            exact k
          · rw [M4.2.2.1.2.1 z0]
            refine ⟨fun y => ?_, fun y => ?_⟩
            · have r0 : r = 0 := by rw [hr, if_pos y]
              subst r0
              exact k
            · have r0 : r = 1 := by rw [hr, if_neg y]
              subst r0
              exact k
        rw [C.2.2.1.2.1]
        exact ⟨fun y => ⟨_, rfl, mod 0 (by rw [if_pos y])⟩, fun y => ⟨_, rfl, mod 1 (by rw [if_neg y])⟩⟩
      · subst q
        refine m_infoX M hs d0 (fun h4 e4 => ?_)
        apply sX7_info_46
        refine ⟨fun z => ?_, fun z => ?_, fun z => ?_, fun z => ?_, fun z => ?_, fun z => ?_, fun z => ?_, fun z => ?_, fun z => ?_, fun z => ?_, fun z => ?_, fun z => ?_, fun z => ?_⟩ <;> first | exact absurd z (by decide) | skip
        rw [C.2.2.2.1.1, bI0]
        refine ⟨fun y => ?_, fun y => ?_⟩
        · rw [nb y]
          exact K _ _ (unk h4 e4)
        · rw [((M.th e4).2.2.2.1 (Decidable.not_not.mp y)).1]
          exact K _ _ (unk h4 e4)
      · subst q
        apply sX3_count
        refine ⟨_, rfl, _, rfl, ?_⟩
        refine m_infoX M hs d0 (fun h4 e4 => ?_)
        apply sX7_info_46
        refine ⟨fun z => ?_, fun z => ?_, fun z => ?_, fun z => ?_, fun z => ?_, fun z => ?_, fun z => ?_, fun z => ?_, fun z => ?_, fun z => ?_, fun z => ?_, fun z => ?_, fun z => ?_⟩ <;> first | exact absurd z (by decide) | skip
        rw [C.2.2.2.1.2.1.2.2.1, bI0]
        refine ⟨fun y => ?_, fun y => ?_⟩
        · rw [nb y]
          exact K _ _ (unk h4 e4)
        · rw [((M.th e4).2.2.2.1 (Decidable.not_not.mp y)).2.1.2.1]
          exact K _ _ (unk h4 e4)
      · subst q
        apply sX3_pickedCount
        refine ⟨_, rfl, _, rfl, ?_⟩
        refine m_infoX M hs d0 (fun h4 e4 => ?_)
        apply sX7_info_46
        refine ⟨fun z => ?_, fun z => ?_, fun z => ?_, fun z => ?_, fun z => ?_, fun z => ?_, fun z => ?_, fun z => ?_, fun z => ?_, fun z => ?_, fun z => ?_, fun z => ?_, fun z => ?_⟩ <;> first | exact absurd z (by decide) | skip
        rw [C.2.2.2.1.2.1.1, bI0]
        refine ⟨fun y => ?_, fun y => ?_⟩
        · rw [nb y]
          exact K _ _ (unk h4 e4)
        · have mb := (M.th e4).2.2.2.1 (Decidable.not_not.mp y)
          rw [mb.2.1.2.1]
          refine m_runFrom mb.2.1 (by omega) ⟨_, rfl, ?_⟩
          rw [mb.2.1.1, List.length_append, nt_sub (by omega), show X.2.2.2.1.2.1.flatten.length + X.2.2.2.1.2.2.1.length - X.2.2.2.1.2.1.flatten.length = X.2.2.2.1.2.2.1.length by omega]
          exact K _ _ (unk h4 e4)
      · subst q
        apply sX2_count
        refine ⟨_, rfl, _, rfl, ?_⟩
        refine m_infoX M hs d0 (fun h4 e4 => ?_)
        apply sX7_info_46
        refine ⟨fun z => ?_, fun z => ?_, fun z => ?_, fun z => ?_, fun z => ?_, fun z => ?_, fun z => ?_, fun z => ?_, fun z => ?_, fun z => ?_, fun z => ?_, fun z => ?_, fun z => ?_⟩ <;> first | exact absurd z (by decide) | skip
        obtain ⟨f, -, -, lc, -⟩ := C.2.2.2.1.2.2
        rw [lc, bI0]
        refine ⟨fun y => ?_, fun y => ?_⟩
        · rw [nb y]
          exact K _ _ (unk h4 e4)
        · rw [((M.th e4).2.2.2.1 (Decidable.not_not.mp y)).2.2.1]
          exact K _ _ (unk h4 e4)
      · subst q
        apply sX5_nodeCount
        refine ⟨_, rfl, _, rfl, ?_⟩
        refine m_infoX M hs d0 (fun h4 e4 => ?_)
        apply sX7_info_46
        refine ⟨fun z => ?_, fun z => ?_, fun z => ?_, fun z => ?_, fun z => ?_, fun z => ?_, fun z => ?_, fun z => ?_, fun z => ?_, fun z => ?_, fun z => ?_, fun z => ?_, fun z => ?_⟩ <;> first | exact absurd z (by decide) | skip
        have M4 := M.th e4
        have e33 : h4.1 27 33 = nI (cn (nu X.2.2.2.2.1) 64) := by
          rw [M4.2.2.2.2.2.1.1.2.1, cn_64 wz 16]
        rw [C.2.2.2.2.2.1.1.2.1, bI0, show (3 : Int32) = nI 3 from rfl, m_st M4 hs 3 (by decide), e33]
        refine ⟨fun y => K _ _ (unk h4 e4), fun y => ⟨fun y2 => ?_, fun y2 => K _ _ (unk h4 e4)⟩⟩
        have z0 := I.2.2.2.2.2.2.2.2.1 (by omega)
        have : cn (nu X.2.2.2.2.1) 64 = 0 := by
          rw [cn_cg 64 (fun i _ => z0 i), cn_0]
        rw [this]
        exact K _ _ (unk h4 e4)
      · subst q
        refine c_hasTree C hs (fun q => ⟨1, rfl, fun z => absurd z (by decide), fun _ => ?_⟩) (fun q => ⟨0, rfl, fun _ => ⟨_, rfl, ?_⟩, fun z => absurd rfl z⟩)
        · have w := PR.wf I q
          refine c_levels (rk := X.2.2.2.2.2.1) C.2.2.2.2.2.1.1 w.1.1 C.2.2.2.2.2.1.2.1 w.1.2.1 (by have := w.2.1; omega) ⟨_, rfl, _, rfl, ?_⟩
          refine m_infoX M hs d0 (fun h4 e4 => ?_)
          apply sX7_info_46
          refine ⟨fun z => ?_, fun z => ?_, fun z => ?_, fun z => ?_, fun z => ?_, fun z => ?_, fun z => ?_, fun z => ?_, fun z => ?_, fun z => ?_, fun z => ?_, fun z => ?_, fun z => ?_⟩ <;> first | exact absurd z (by decide) | skip
          have M4 := M.th e4
          rw [bI0]
          exact ⟨fun y => absurd q y, fun _ => m_height (rk := X.2.2.2.2.2.1) M4.2.2.2.2.2.1.1 w.1.1 (M4.2.2.2.2.2.1.2 q) w.1.2.1 ⟨_, rfl, K _ _ (unk h4 e4)⟩⟩
        · refine m_infoX M hs d0 (fun h4 e4 => ?_)
          apply sX7_info_46
          refine ⟨fun z => ?_, fun z => ?_, fun z => ?_, fun z => ?_, fun z => ?_, fun z => ?_, fun z => ?_, fun z => ?_, fun z => ?_, fun z => ?_, fun z => ?_, fun z => ?_, fun z => ?_⟩ <;> first | exact absurd z (by decide) | skip
          rw [bI0]
          exact ⟨fun y => K _ _ (unk h4 e4), fun y => absurd q y⟩
      · subst q
        refine c_hasTree C hs (fun q => ⟨1, rfl, fun z => absurd z (by decide), fun _ => ?_⟩) (fun q => ⟨0, rfl, fun _ => ⟨_, rfl, ?_⟩, fun z => absurd rfl z⟩)
        · have w := PR.wf I q
          apply sX5_entryCount
          refine ⟨_, rfl, _, rfl, ?_⟩
          refine m_infoX M hs d0 (fun h4 e4 => ?_)
          apply sX7_info_46
          refine ⟨fun z => ?_, fun z => ?_, fun z => ?_, fun z => ?_, fun z => ?_, fun z => ?_, fun z => ?_, fun z => ?_, fun z => ?_, fun z => ?_, fun z => ?_, fun z => ?_, fun z => ?_⟩ <;> first | exact absurd z (by decide) | skip
          have M4 := M.th e4
          refine m_entriesX M4 I (fun h5 f5 => ⟨_, rfl, ?_⟩)
          rw [if_pos q, C.2.2.2.2.2.1.2.2, w.2.2.2.2]
          exact K _ _ ⟨X, L, N, (C.th e4).k (fUm f5 (by decide)), M4.scr (f5.mono (by decide) (by decide)), I, n⟩
        · refine m_infoX M hs d0 (fun h4 e4 => ?_)
          apply sX7_info_46
          refine ⟨fun z => ?_, fun z => ?_, fun z => ?_, fun z => ?_, fun z => ?_, fun z => ?_, fun z => ?_, fun z => ?_, fun z => ?_, fun z => ?_, fun z => ?_, fun z => ?_, fun z => ?_⟩ <;> first | exact absurd z (by decide) | skip
          have M4 := M.th e4
          refine m_entriesX M4 I (fun h5 f5 => ⟨_, rfl, ?_⟩)
          rw [if_neg q]
          exact K _ _ ⟨X, L, N, (C.th e4).k (fUm f5 (by decide)), M4.scr (f5.mono (by decide) (by decide)), I, n⟩
      · subst q
        refine m_infoX M hs d0 (fun h4 e4 => ?_)
        apply sX7_info_46
        refine ⟨fun z => ?_, fun z => ?_, fun z => ?_, fun z => ?_, fun z => ?_, fun z => ?_, fun z => ?_, fun z => ?_, fun z => ?_, fun z => ?_, fun z => ?_, fun z => ?_, fun z => ?_⟩ <;> first | exact absurd z (by decide) | skip
        rw [C.2.2.1.2.2.1, (M.th e4).2.2.1.2.2.1]
        exact K _ _ (unk h4 e4)
      · subst q
        refine m_infoX M hs d0 (fun h4 e4 => ?_)
        apply sX7_info_46
        refine ⟨fun z => ?_, fun z => ?_, fun z => ?_, fun z => ?_, fun z => ?_, fun z => ?_, fun z => ?_, fun z => ?_, fun z => ?_, fun z => ?_, fun z => ?_, fun z => ?_, fun z => ?_⟩ <;> first | exact absurd z (by decide) | skip
        rw [C.2.2.1.2.2.2.1, (M.th e4).2.2.1.2.2.2.1]
        exact K _ _ (unk h4 e4)
      · obtain ⟨j, j1, j2⟩ := i_in (k := 11) (by decide) z1 z2
        have x11 : x = 11 := by
          obtain ⟨q0, q1, q2, q3, q4, q5, q6, q7, q8, q9, q10⟩ := q
          rw [j2] at q0 q1 q2 q3 q4 q5 q6 q7 q8 q9 q10
          have : j = 0 ∨ j = 1 ∨ j = 2 ∨ j = 3 ∨ j = 4 ∨ j = 5 ∨ j = 6 ∨ j = 7 ∨ j = 8 ∨ j = 9 ∨ j = 10 ∨ j = 11 := by omega
          rcases this with e | e | e | e | e | e | e | e | e | e | e | e
          · exact absurd (by rw [e]; rfl) q0
          · exact absurd (by rw [e]; rfl) q1
          · exact absurd (by rw [e]; rfl) q2
          · exact absurd (by rw [e]; rfl) q3
          · exact absurd (by rw [e]; rfl) q4
          · exact absurd (by rw [e]; rfl) q5
          · exact absurd (by rw [e]; rfl) q6
          · exact absurd (by rw [e]; rfl) q7
          · exact absurd (by rw [e]; rfl) q8
          · exact absurd (by rw [e]; rfl) q9
          · exact absurd (by rw [e]; rfl) q10
          · rw [j2, e]
            rfl
        clear q j2
        subst x11
        refine m_infoX M hs d0 (fun h4 e4 => ?_)
        apply sX7_info_46
        refine ⟨fun z => ?_, fun z => ?_, fun z => ?_, fun z => ?_, fun z => ?_, fun z => ?_, fun z => ?_, fun z => ?_, fun z => ?_, fun z => ?_, fun z => ?_, fun z => ?_, fun z => ?_⟩ <;> first | exact absurd z (by decide) | skip
        rw [C.2.2.1.2.2.2.2, (M.th e4).2.2.1.2.2.2.2]
        exact K _ _ (unk h4 e4)
    · refine ⟨?_, ?_, ?_, ?_, ?_, ?_, ?_, ?_, ?_, ?_, ?_, ?_⟩ <;> (intro q; rw [q] at z; exact absurd (by decide) z)
  · apply sX7_info
    intro h4 e4
    rw [m_down M e4]
    exact ⟨fun z => absurd z d1, fun _ => K _ _ (unk h4 e4)⟩
end INF
