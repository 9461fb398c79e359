/-! the law's two methods that catch -/
theorem goodX : ∀ w ∈ wsL_law, goodWord w = true := by
  intro w hw
  rcases List.mem_append.mp hw with hw | hw
  · rcases List.mem_append.mp hw with hw | hw
    · exact List.all_eq_true.mp all_good w hw
    · exact (List.mem_filter.mp hw).2
  · exact (List.mem_filter.mp hw).2
theorem inGX {ws : List Cond} (h : ∀ w ∈ ws, w ∈ wsL_law) : GoodIn wsL_law ws := fun w hw => ⟨h w hw, good_of_word (goodX w (h w hw))⟩
def wsH (M : MD) (hh : List (Nat × Nat × Nat × Nat)) : List Cond := .codeWith M.1 M.2.1 M.2.2.1 M.2.2.2.1 hh :: wsL_law
abbrev hhL : List (Nat × Nat × Nat × Nat) := [(0, 10, 13, 13), (0, 10, 17, 15)]
def EvL (M : MD) (as : List AV) (h : Hp) (Q : Option AV → Hp → Prop) : Prop := ∀ g : GG, WD g → g.1.stackTraces = false → Met g.1 M.1 (wsH M hhL) M.2.2.2.2.2 (PxX g h as) (Qx g Q) 1 6 (Aw g)
theorem pxX_blind (g : GG) (h : Hp) (as : List AV) : FrameBlind (PxX g h as) := by
  intro a U f mk q
  obtain ⟨q0, qP, qK, qX⟩ := q
  exact ⟨q0, qP, qK.calling f mk a, qX.calling f mk a⟩
section CAU
variable {M N : MD} {h : Hp} {Q QQ : Option AV → Hp → Prop} {XQ : String → Hp → Prop} {x1 x2 : Int32} {idx : Nat}
set_option maxHeartbeats 4000000 in
set_option maxRecDepth 100000 in
theorem evL_of (hM : M.1.cls = RL ∧ M.2.2.1 = 5 ∧ M.2.2.2.1 = some .int) (hN : N.1.cls = RX6) (hw : ∀ w ∈ wsV RL idx RX6 N.1 (wsX N), w ∈ wsL_law) (hd : (parseMethodDescriptor N.1.desc).map (fun d => d.parameters.length) = some 2) (hR : N.2.2.2.2.2.cells = 1 ∧ N.2.2.2.2.2.slots = 6 ∧ N.2.2.2.2.2.frames + 1 ≤ M.2.2.2.2.2.frames ∧ 8 + (N.2.2.1 + 11) + N.2.2.2.2.2.locals ≤ M.2.2.2.2.2.locals) (hR2 : 1 ≤ M.2.2.2.2.2.cells ∧ 6 ≤ M.2.2.2.2.2.slots)
    (hc1 : Cond.classLink RL 13 nISE ∈ wsL_law ∧ Cond.classLink RL 15 nIAE ∈ wsL_law)
    (d0 : decode M.2.1 0 = .ok (.aload_n 3, 1)) (d1 : decode M.2.1 1 = .ok (.iconst 0, 1)) (d2 : decode M.2.1 2 = .ok (.aload_n 0, 1)) (d3 : decode M.2.1 3 = .ok (.iload_n 1, 1)) (d4 : decode M.2.1 4 = .ok (.iload_n 2, 1)) (d5 : decode M.2.1 5 = .ok (.invokevirtual idx, 3)) (d8 : decode M.2.1 8 = .ok (.i2l, 1)) (d9 : decode M.2.1 9 = .ok (.lastore, 1)) (d10 : decode M.2.1 10 = .ok (.goto 11, 3)) (d13 : decode M.2.1 13 = .ok (.astore 4, 2)) (d15 : decode M.2.1 15 = .ok (.iconst 1, 1)) (d16 : decode M.2.1 16 = .ok (.ireturn, 1)) (d17 : decode M.2.1 17 = .ok (.astore 4, 2)) (d19 : decode M.2.1 19 = .ok (.iconst 2, 1)) (d20 : decode M.2.1 20 = .ok (.ireturn, 1)) (d21 : decode M.2.1 21 = .ok (.iconst 0, 1)) (d22 : decode M.2.1 22 = .ok (.ireturn, 1))
    (H : EvX N [vR 0, vI x1, vI x2] h QQ XQ) (hQ : ∀ v h1, QQ v h1 → ∃ r, v = some (vI r)) (hX : ∀ E h1, XQ E h1 → E = nISE ∨ E = nIAE)
    (K0 : ∀ r h1, QQ (some (vI r)) h1 → Q (some (vI 0)) (sJ h1 53 (vp_updL (h1.2.1 53) 0 (Int32.toInt64 r)))) (K1 : ∀ h1, XQ nISE h1 → Q (some (vI 1)) h1) (K2 : ∀ h1, XQ nIAE h1 → Q (some (vI 2)) h1) : EvL M [vR 0, vI x1, vI x2, vR 53] h Q := by
  intro g hg hst
  obtain ⟨m1, m2, m3⟩ := hM
  refine va_MetW (cc := M.2.1) (maxL := M.2.2.1) (ret := M.2.2.2.1) (hh := hhL) (by rw [m1]; decide) rfl ?_
  intro p e s m args below meth c s₁ B hml hv
  obtain ⟨rfl, hP, hK, hXS⟩ := hv
  have hx := B.exec
  have hb := B.bytes
  have hr : meth.sig.returnType = some .int := B.returns.trans m3
  have hts0 := atoms_spec (ws := wsH M hhL) B.pre
  have hts : ∀ w ∈ wsL_law, w.before ([vR 0, vI x1, vI x2, vR 53].map (ro g.2.2.1)).toArray s = true := fun w hw => hts0 w (List.mem_cons_of_mem _ hw)
  have hown : s.vm.findClass RL = some m.cls := by
    rw [← m1]
    exact findClass_of_methodNamed B.named
  have hlocks := B.notSynchronized
  have hxt : c.exceptionTable.toList = tableOf hhL := vx_table (x := M.1) B (hts0 _ List.mem_cons_self)
  have hl := lv_entry ([vR 0, vI x1, vI x2, vR 53].map (ro g.2.2.1)) (n := M.2.2.1) (by rw [m2]; exact Nat.le_of_ble_eq_true rfl)
  rw [lg_entry_eq]
  generalize (lg_sl ([vR 0, vI x1, vI x2, vR 53].map (ro g.2.2.1)) ++ List.replicate (M.2.2.1 - (lg_sl ([vR 0, vI x1, vI x2, vR 53].map (ro g.2.2.1))).length) Slot.unset).toArray = ls at hl ⊢
  have hl : lv_has ls M.2.2.1 [(0, .ref (g.2.2.1 0)), (1, .int x1), (2, .int x2), (3, .ref (g.2.2.1 53))] := hl
  have hS : va_S (Aw g) s.heap s.heap [] := va_S.rf
  have hD := wo_D hg
  refine lv_aload_n hx hb d0 rfl (lv_at hl 3 rfl) ?_
  refine lv_iconst (v := 0) hx hb d1 (by decide) ?_
  refine lv_aload_n hx hb d2 rfl (lv_at hl 0 rfl) ?_
  refine lv_iload_n hx hb d3 rfl (lv_at hl 1 rfl) ?_
  refine lv_iload_n hx hb d4 rfl (lv_at hl 2 rfl) ?_
  have hrecv := va_recv (q0 := 0) (ci := 6) hK.1 hP rfl ((wo_at g h (by decide)).trans (by rw [cel_obj g h (c := 0) rfl]))
  have hcw := cwV (R := M.2.2.2.2.2) (rm := N.2.2.2.2.2) (mc := 1) (ms := 6) (bytes := N.2.1) (maxL := N.2.2.1) (ret := N.2.2.2.1) 2 hts (inGX hw) rfl hR.1 hR.2.1 ⟨hN, by rw [hN]; decide, by rw [hN]; decide, hd⟩ hR.2.2
  have hrun := vx_runV (p := p) (e := e) (below := below) (meth := meth) (locs := []) (cells := 0) (slots := 0) (As := [.int x1, .int x2]) (rest := [.int 0, .ref (g.2.2.1 53)]) (b := g.2.2.1 0) (g := F0 m 5 ls [.int x2, .int x1, .ref (g.2.2.1 0), .int 0, .ref (g.2.2.1 53)]) ⟨hx, hb, hml, hown, hts⟩ (H g hg hst) hcw ⟨pxX_blind g h _, hrecv, fun U hU hW => ⟨rfl, by rw [hU]; exact hP, hK.moved hW, hXS.to hS (fun _ z => z) hU hW⟩⟩ rfl rfl hl.1 rfl (lv_room (Nat.le_of_ble_eq_true rfl)) d5 ⟨by simpa using hR2.1, by simpa using hR2.2⟩
  intro T hT X
  rcases hrun T hT X with ⟨v, st₀, t, T', Lc, h0, X', hL, e1, e2, ⟨⟨v1, h1, hv, hq, hb1⟩, hF⟩, stp⟩ | ⟨q, st₀, t, T', Lc, E, ce, h0, X', hL, e1, e2, ⟨u, -, ⟨hq, hb1⟩, hF⟩, hce, hcv, hcl, stp⟩
  · obtain ⟨r, rfl⟩ := hQ v1 h1 hq
    cases hv
    obtain ⟨k1, k2, k3⟩ := vx_keep h0 e1 hS (fun _ _ z => z) (fun _ z => z) hL hF
    have hP1 : va_P g.2.1 vwCl (wo g h1) T'.heap := by
      rw [e1]
      exact hb1
    have w : W p g.1 e M.2.2.2.2.2 s m ([vR 0, vI x1, vI x2, vR 53].map (ro g.2.2.1)).toArray below meth c T'.heap ([] ++ Lc) (0 + 1) (0 + 6) (MQ below (Qx g Q) ([vR 0, vI x1, vI x2, vR 53].map (ro g.2.2.1)).toArray s 1 6 (Aw g)) (F0 m 8 ls [.int r, .int 0, .ref (g.2.2.1 53)]) := by
      refine lv_i2l hx hb d8 rfl ?_
      refine va_last hx hb (hK.1) hP1 (hD h1) k3 53 2 ((wo_at g h1 (by decide)).trans (by rw [cel_j g h1 (c := 53) rfl (by decide)])) rfl (by unfold vp_in; decide) d9 (fun H2 locs2 hP2 hD2 hS2 => ?_)
      rw [wo_set (h' := sJ h1 53 (vp_updL (h1.2.1 53) 0 (Int32.toInt64 r))) (by decide) (by rw [cel_j g _ (c := 53) rfl (by decide)]; show Sum.inl (_, _, Sum.inr (Sum.inl (va_up h1.2.1 53 _ 53))) = _; rw [va_up_self]; rfl) (fun d hd => cel_sJ_ne g h1 _ hd)] at hP2
      refine lv_goto (tgt := 21) hx hb d10 (by decide) ?_
      refine lv_iconst (v := 0) hx hb d21 (by decide) ?_
      exact W.iret (v := 0) hx hb hr (fun t ht hW => ⟨⟨some (vI 0), _, rfl, K0 r h1 hq, by rw [ht]; exact hP2⟩, hS2.F ht⟩) hS2.2.2 d22 hlocks
    obtain ⟨t2, a1, b1⟩ := w T' rfl X'
    exact ⟨t2, stp t2 a1, b1⟩
  · obtain ⟨k1, k2, k3⟩ := vx_keep h0 e1 hS (fun _ _ z => z) (fun _ z => z) hL hF
    have hP1 : va_P g.2.1 vwCl (wo g u) T'.heap := by
      rw [e1]
      exact hb1
    have w : vx_W p g.1 e M.2.2.2.2.2 s m ([vR 0, vI x1, vI x2, vR 53].map (ro g.2.2.1)).toArray below meth c T'.heap ([] ++ Lc) (0 + 1) (0 + 6) (MQ below (Qx g Q) ([vR 0, vI x1, vI x2, vR 53].map (ro g.2.2.1)).toArray s 1 6 (Aw g)) (F0 m 5 ls [.int 0, .ref (g.2.2.1 53)]) q := by
      rcases hX E u hq with e3 | e3
      · subst e3
        refine vx_catch (own := RL) (name := nISE) hown [] { startPc := 0, endPc := 10, handlerPc := 13, catchType := 13 } [{ startPc := 0, endPc := 10, handlerPc := 17, catchType := 15 }] (by rw [hxt]; rfl) (fun z hz => absurd hz List.not_mem_nil) rfl (by decide) (hts _ hc1.1) (va_Nw.use rfl hXS.2.2.2.2.2.2.1) (by rw [e1]; exact hce) hcv hcl ?_
        refine lv_astore hx hb d13 hl (by rw [m2]; decide) rfl (fun ls' hl' => ?_)
        refine lv_iconst (v := 1) hx hb d15 (by decide) ?_
        exact W.iret (v := 1) hx hb hr (fun t ht hW => ⟨⟨some (vI 1), u, rfl, K1 u hq, by rw [ht]; exact hP1⟩, k3.F ht⟩) k3.2.2 d16 hlocks
      · subst e3
        refine vx_catch (own := RL) (name := nIAE) hown [{ startPc := 0, endPc := 10, handlerPc := 13, catchType := 13 }] { startPc := 0, endPc := 10, handlerPc := 17, catchType := 15 } [] (by rw [hxt]; rfl) (fun z hz => ?_) rfl (by decide) (hts _ hc1.2) (va_Nw.use rfl hXS.2.2.2.2.2.2.2.1) (by rw [e1]; exact hce) hcv hcl ?_
        · rw [List.mem_singleton.mp hz]
          exact Or.inr ⟨by decide, nISE, hts _ hc1.1, hXS.2.2.2.2.2.1⟩
        · refine lv_astore hx hb d17 hl (by rw [m2]; decide) rfl (fun ls' hl' => ?_)
          refine lv_iconst (v := 2) hx hb d19 (by decide) ?_
          exact W.iret (v := 2) hx hb hr (fun t ht hW => ⟨⟨some (vI 2), u, rfl, K2 u hq, by rw [ht]; exact hP1⟩, k3.F ht⟩) k3.2.2 d20 hlocks
    obtain ⟨t2, a1, b1⟩ := w T' rfl X'
    exact ⟨t2, stp.trans a1, b1⟩
end CAU
abbrev mL_row : MD := (yL_row, cL_row, 5, some .int, RL, { frames := 7, cells := 1, slots := 6, locals := 130 })
abbrev mL_entry : MD := (yL_entry, cL_entry, 5, some .int, RL, { frames := 7, cells := 1, slots := 6, locals := 130 })
theorem in4 {idx : Nat} {N : MD} (hm : ∀ w ∈ [Cond.methodLink RL idx N.1, .instanceMethod N.1, .selects RX6 N.1 N.1, .initialized RX6, .code N.1 N.2.1 N.2.2.1 N.2.2.2.1], w ∈ wsL_law0) : ∀ w ∈ wsV RL idx RX6 N.1 (wsX N), w ∈ wsL_law := by
  intro w hw
  rcases List.mem_append.mp hw with hw | hw
  · exact law_in0 _ (hm w (by simp only [List.mem_cons, List.not_mem_nil, or_false] at hw ⊢; rcases hw with h | h | h | h <;> simp [h]))
  · rcases List.mem_cons.mp hw with e | hw
    · exact law_in0 _ (hm w (by rw [e]; simp))
    · exact hw
theorem hcL : Cond.classLink RL 13 nISE ∈ wsL_law ∧ Cond.classLink RL 15 nIAE ∈ wsL_law := ⟨law_in0 _ (by decide +kernel), law_in0 _ (by decide +kernel)⟩
theorem inRow : ∀ w ∈ wsV RL 7 RX6 yX6_row (wsX mX6_row), w ∈ wsL_law := in4 (N := mX6_row) (by decide +kernel)
theorem inEnt : ∀ w ∈ wsV RL 17 RX6 yX6_entry (wsX mX6_entry), w ∈ wsL_law := in4 (N := mX6_entry) (by decide +kernel)
section CA2
variable {h : Hp} {Q : Option AV → Hp → Prop} {x1 x2 : Int32}
/-- what the law's row leaves: whether it threw, what it found -/
theorem evL_row {X : XT} {L : LT} {N : NT} (C : CX X L N h) (I : PI X L) (K : ∀ k r h', rwS X x1 x2 k r → (k = 0 → h' = sJ h 53 (vp_updL (h.2.1 53) 0 (Int32.toInt64 r))) → (¬ k = 0 → h' = h) → Q (some (vI k)) h') : EvL mL_row [vR 0, vI x1, vI x2, vR 53] h Q := by
  refine evL_of (N := mX6_row) (idx := 7) (QQ := fun v h1 => ∃ r, v = some (vI r) ∧ rwS X x1 x2 0 r ∧ h1 = h) (XQ := fun E h1 => h1 = h ∧ ((E = nISE ∧ rwS X x1 x2 1 0) ∨ (E = nIAE ∧ rwS X x1 x2 2 0))) ⟨rfl, rfl, rfl⟩ rfl inRow (by decide +kernel) ⟨rfl, rfl, by decide, by decide⟩ ⟨by decide, by decide⟩ hcL dL_row_0 dL_row_1 dL_row_2 dL_row_3 dL_row_4 dL_row_5 dL_row_8 dL_row_9 dL_row_10 dL_row_13 dL_row_15 dL_row_16 dL_row_17 dL_row_19 dL_row_20 dL_row_21 dL_row_22 (evX_row C I (fun z => ⟨rfl, Or.inl ⟨rfl, z⟩⟩) (fun z => ⟨rfl, Or.inr ⟨rfl, z⟩⟩) (fun r z => ⟨r, rfl, z, rfl⟩)) (fun v h1 z => ⟨z.choose, z.choose_spec.1⟩) (fun E h1 z => z.2.elim (fun y => Or.inl y.1) (fun y => Or.inr y.1)) (fun r h1 z => ?_) (fun h1 z => ?_) (fun h1 z => ?_)
  · obtain ⟨r', e, z1, z2⟩ := z
    cases e
    rw [z2]
    exact K 0 r _ z1 (fun _ => rfl) (fun y => absurd rfl y)
  · obtain ⟨z1, z | z⟩ := z
    · rw [z1]
      exact K 1 0 h z.2 (fun y => absurd y (by decide)) (fun _ => rfl)
    · exact absurd z.1 (by decide)
  · obtain ⟨z1, z | z⟩ := z
    · exact absurd z.1 (by decide)
    · rw [z1]
      exact K 2 0 h z.2 (fun y => absurd y (by decide)) (fun _ => rfl)
theorem evL_entry {X : XT} {L : LT} {N : NT} (C : CX X L N h) (I : PI X L) (K : ∀ k r h1 h', enS X x1 x2 k r → fr [24, 25] h h1 → (k = 0 → h' = sJ h1 53 (vp_updL (h1.2.1 53) 0 (Int32.toInt64 r))) → (¬ k = 0 → h' = h1) → Q (some (vI k)) h') : EvL mL_entry [vR 0, vI x1, vI x2, vR 53] h Q := by
  refine evL_of (N := mX6_entry) (idx := 17) (QQ := fun v h1 => ∃ r, v = some (vI r) ∧ enS X x1 x2 0 r ∧ fr [24, 25] h h1) (XQ := fun E h1 => h1 = h ∧ ((E = nISE ∧ enS X x1 x2 1 0) ∨ (E = nIAE ∧ enS X x1 x2 2 0))) ⟨rfl, rfl, rfl⟩ rfl inEnt (by decide +kernel) ⟨rfl, rfl, by decide, by decide⟩ ⟨by decide, by decide⟩ hcL dL_entry_0 dL_entry_1 dL_entry_2 dL_entry_3 dL_entry_4 dL_entry_5 dL_entry_8 dL_entry_9 dL_entry_10 dL_entry_13 dL_entry_15 dL_entry_16 dL_entry_17 dL_entry_19 dL_entry_20 dL_entry_21 dL_entry_22 (evX_entry C I (fun z => ⟨rfl, Or.inl ⟨rfl, z⟩⟩) (fun z => ⟨rfl, Or.inr ⟨rfl, z⟩⟩) (fun r h' z f => ⟨r, rfl, z, f⟩)) (fun v h1 z => ⟨z.choose, z.choose_spec.1⟩) (fun E h1 z => z.2.elim (fun y => Or.inl y.1) (fun y => Or.inr y.1)) (fun r h1 z => ?_) (fun h1 z => ?_) (fun h1 z => ?_)
  · obtain ⟨r', e, z1, z2⟩ := z
    cases e
    exact K 0 r h1 _ z1 z2 (fun _ => rfl) (fun y => absurd rfl y)
  · obtain ⟨z1, z | z⟩ := z
    · rw [z1]
      exact K 1 0 h h z.2 fr.rf (fun y => absurd y (by decide)) (fun _ => rfl)
    · exact absurd z.1 (by decide)
  · obtain ⟨z1, z | z⟩ := z
    · exact absurd z.1 (by decide)
    · rw [z1]
      exact K 2 0 h h z.2 fr.rf (fun y => absurd y (by decide)) (fun _ => rfl)
end CA2
