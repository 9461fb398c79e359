/-! calls that return or throw, and their catching -/
abbrev nISE : String := "java/lang/IllegalStateException"
abbrev nIAE : String := "java/lang/IllegalArgumentException"
abbrev nSup : List String := ["java/lang/RuntimeException", "java/lang/Exception"]
def wsL_law : List Cond := wsL_law0 ++ (vx_atS RX6 124 nISE nSup).filter goodWord ++ (vx_atS RX6 131 nIAE nSup).filter goodWord
abbrev xB (cls : String) : List Cond := [.castable cls cls, .declares (Bundle.initS "java/lang/RuntimeException"), .declares (Bundle.initS "java/lang/Exception"), .declares (Bundle.initS Bundle.tN)]
theorem at1_good : ∀ w ∈ vx_atS RX6 124 nISE nSup, goodWord w = true ∨ w ∈ xB nISE := by decide +kernel
theorem at2_good : ∀ w ∈ vx_atS RX6 131 nIAE nSup, goodWord w = true ∨ w ∈ xB nIAE := by decide +kernel
theorem law_in0 : ∀ w ∈ wsL_law0, w ∈ wsL_law := fun _ h => List.mem_append_left _ (List.mem_append_left _ h)
theorem law_in1 : ∀ w ∈ vx_atS RX6 124 nISE nSup, (w ∈ wsL_law ∧ goodWord w = true) ∨ w ∈ xB nISE := fun w h => (at1_good w h).imp (fun g => ⟨List.mem_append_left _ (List.mem_append_right _ (List.mem_filter.mpr ⟨h, g⟩)), g⟩) id
theorem law_in2 : ∀ w ∈ vx_atS RX6 131 nIAE nSup, (w ∈ wsL_law ∧ goodWord w = true) ∨ w ∈ xB nIAE := fun w h => (at2_good w h).imp (fun g => ⟨List.mem_append_right _ (List.mem_filter.mpr ⟨h, g⟩), g⟩) id
/-- the two statics, the texts -/
def XSt (A : Nat → Prop) (U : State) : Prop := vx_Zq Bundle.tN "UNASSIGNED_STACK" Bundle.steD A U U.heap ∧ vx_Zq Bundle.tN "SUPPRESSED_SENTINEL" Bundle.listD A U U.heap ∧ (∃ sa, vk_R RX6 122 "there is no power" sa U) ∧ (∃ sa, vk_R RX6 129 "there is no row" sa U) ∧ (∃ sa, vk_R RX6 188 "there is no such entry" sa U) ∧ va_Nc nIAE nISE U ∧ va_Nw (.castable nISE nISE) U ∧ va_Nw (.castable nIAE nIAE) U ∧ va_Nw (.declares (Bundle.initS "java/lang/RuntimeException")) U ∧ va_Nw (.declares (Bundle.initS "java/lang/Exception")) U ∧ va_Nw (.declares (Bundle.initS Bundle.tN)) U
theorem XSt.calling {A : Nat → Prop} {U : State} (h : XSt A U) (f : JFrame) (mk : MethodId) (a : Array Value) : XSt A (U.calling f mk a) := by
  obtain ⟨h1, h2, ⟨s1, h3⟩, ⟨s2, h4⟩, ⟨s3, h5⟩, h6, h7, h8, h9, h10, h11⟩ := h
  exact ⟨vx_Zq.moved (u := U) (U := U.calling f mk a) (Vm.Alike.refl U.vm) h1, vx_Zq.moved (u := U) (U := U.calling f mk a) (Vm.Alike.refl U.vm) h2, ⟨s1, vk_R.same rfl h3⟩, ⟨s2, vk_R.same rfl h4⟩, ⟨s3, vk_R.same rfl h5⟩, va_Nc.moved (u := U) (U := U.calling f mk a) (Vm.Alike.refl U.vm) h6, va_Nw.same rfl rfl h7, va_Nw.same rfl rfl h8, va_Nw.same rfl rfl h9, va_Nw.same rfl rfl h10, va_Nw.same rfl rfl h11⟩
theorem XSt.to {A B : Nat → Prop} {s U : State} {H : Heap} {locs : List Loc} (h : XSt A s) (hS : va_S A s.heap H locs) (hB : ∀ q, B q → A q) (hU : U.heap = H) (hW : s.WarmedH U.vm) : XSt B U := by
  obtain ⟨h1, h2, ⟨s1, h3⟩, ⟨s2, h4⟩, ⟨s3, h5⟩, h6, h7, h8, h9, h10, h11⟩ := h
  refine ⟨?_, ?_, ⟨s1, vk_R.warm hW h3⟩, ⟨s2, vk_R.warm hW h4⟩, ⟨s3, vk_R.warm hW h5⟩, va_Nc.moved hW.alike h6, va_Nw.warmC hW h7, va_Nw.warmC hW h8, va_Nw.warmD hW h9, va_Nw.warmD hW h10, va_Nw.warmD hW h11⟩
  · rw [hU]
    exact (vx_Zq.moved hW.alike (h1.kept hS.2.1)).narrow hB
  · rw [hU]
    exact (vx_Zq.moved hW.alike (h2.kept hS.2.1)).narrow hB
theorem xs_1 : ∀ U A, XSt A U → ∀ w ∈ xB nISE, va_Nw w U := by
  intro U A h w hw
  obtain ⟨-, -, -, -, -, -, h7, h8, h9, h10, h11⟩ := h
  simp only [List.mem_cons, List.not_mem_nil, or_false] at hw
  rcases hw with e | e | e | e <;> subst e <;> assumption
theorem xs_2 : ∀ U A, XSt A U → ∀ w ∈ xB nIAE, va_Nw w U := by
  intro U A h w hw
  obtain ⟨-, -, -, -, -, -, h7, h8, h9, h10, h11⟩ := h
  simp only [List.mem_cons, List.not_mem_nil, or_false] at hw
  rcases hw with e | e | e | e <;> subst e <;> assumption
def wsX (M : MD) : List Cond := .code M.1 M.2.1 M.2.2.1 M.2.2.2.1 :: wsL_law
def Xc (g : GG) (XQ : String → Hp → Prop) : String → State → State → Prop := vx_X (S := Hp) (fun _ => True) (fun E u t => XQ E u ∧ va_P g.2.1 vwCl (wo g u) t.heap) (Aw g)
def PxX (g : GG) (h : Hp) (as : List AV) : Array Value → State → Prop := va_Pc (as.map (ro g.2.2.1)) (fun U => va_P g.2.1 vwCl (wo g h) U.heap ∧ WK g U ∧ XSt (Aw g) U)
def EvX (M : MD) (as : List AV) (h : Hp) (Q : Option AV → Hp → Prop) (XQ : String → Hp → Prop) : Prop := ∀ g : GG, WD g → g.1.stackTraces = false → vx_Met g.1 M.1 (wsX M) M.2.2.2.2.2 (PxX g h as) (Qx g Q) (Xc g XQ) 1 6 (Aw g)
abbrev kX (Q : Option AV → Hp → Prop) (XQ : String → Hp → Prop) : KT := (fun g _ => Aw g, (0, 0), fun g below args s => vx_MQ below (Qx g Q) (Xc g XQ) args s 1 6 (Aw g), fun g _ s args c => g.1.stackTraces = false ∧ (∀ w ∈ wsL_law, w.before args s = true) ∧ (∀ x ∈ c.exceptionTable.toList, False) ∧ XSt (Aw g) s)
section THR
variable {M : MD} {pc : Nat} {L : List (Nat × AV)} {h : Hp} {Q : Option AV → Hp → Prop} {XQ : String → Hp → Prop}
theorem evX_of {as : List AV} (hy : plainName M.1.cls = true) (hcls : M.2.2.2.2.1 = M.1.cls) (hn : avN as ≤ M.2.2.1) (H : EvK M (kX Q XQ) 0 (avA 0 as) [] h) : EvX M as h Q XQ := by
  intro g hg hst
  refine vx_ofW (cc := M.2.1) (maxL := M.2.2.1) (ret := M.2.2.2.1) hy rfl ?_
  intro p e s m args below meth c s₁ B hml hxt hv
  obtain ⟨rfl, hP, hK, hX⟩ := hv
  have hts := atoms_spec (ws := wsX M) B.pre
  have hown : s.vm.findClass M.2.2.2.2.1 = some m.cls := by rw [hcls]; exact findClass_of_methodNamed B.named
  have hl := lv_entry (as.map (ro g.2.2.1)) (n := M.2.2.1) (by rw [avN_sl]; exact hn)
  rw [lg_entry_eq]
  rw [avA_lm] at hl
  exact H g hg p e s m _ below meth c ⟨B.exec, B.bytes, B.returns, B.notSynchronized, hml, hown, fun w h => hts w (List.mem_cons_of_mem _ (law_in0 w h)), hK⟩ (fun x hx => ⟨x, hx, rfl⟩) ⟨Nat.zero_le _, Nat.zero_le _⟩ ⟨hst, fun w h => hts w (List.mem_cons_of_mem _ h), hxt, hX⟩ s.heap [] _ hP va_S.rf hl
theorem ev_xret {v : Int32} (hd : decode M.2.1 pc = .ok (.ireturn, 1)) (hr : M.2.2.2.1 = some .int) (H : Q (some (vI v)) h) : EvK M (kX Q XQ) pc L [vI v] h := by
  intro g hg p e s m args below meth cd B kA kr kz H0 locs ls hP hS hl
  refine W.widen (k := 1) (n := 6) (Nat.zero_le _) (Nat.zero_le _) ?_
  exact vx_ret (W.iret (v := v) B.1 B.2.1 (B.2.2.1.trans hr) (fun t ht hW => ⟨⟨some (vI v), h, rfl, H, by rw [ht]; exact hP⟩, hS.F ht⟩) hS.2.2 hd B.2.2.2.1)
theorem ev_xthr {ik is ic : Nat} {cls text : String} (hown : M.2.2.2.2.1 = RX6) (hcls : Bundle.fit cls = true) (hk : Cond.classLink RX6 ik cls ∈ wsL_law0) (hini : Cond.initialized cls ∈ wsL_law0) (hat : ∀ w ∈ vx_atS RX6 ic cls nSup, (w ∈ wsL_law ∧ goodWord w = true) ∨ w ∈ xB cls) (hcs : ∀ U A, XSt A U → ∀ w ∈ xB cls, va_Nw w U) (hstr : ∀ U A, XSt A U → ∃ sa, vk_R RX6 is text sa U)
    (d0 : decode M.2.1 pc = .ok (.new ik, 3)) (d3 : decode M.2.1 (pc + 3) = .ok (.dup, 1)) (d4 : decode M.2.1 (pc + 4) = .ok (.ldc is, 2)) (d6 : decode M.2.1 (pc + 6) = .ok (.invokespecial ic, 3)) (d9 : decode M.2.1 (pc + 9) = .ok (.athrow, 1)) (hR : 5 < M.2.2.2.2.2.frames ∧ 82 ≤ M.2.2.2.2.2.locals ∧ 1 ≤ M.2.2.2.2.2.cells ∧ 6 ≤ M.2.2.2.2.2.slots) (H : XQ cls h) : EvK M (kX Q XQ) pc L [] h := by
  intro g hg p e s m args below meth cd B kA kr kz H0 locs ls hP hS hl
  obtain ⟨k1, k2, k3, k4⟩ := kz
  obtain ⟨sa, hsa⟩ := hstr s _ k4
  have ho : s.vm.findClass RX6 = some m.cls := by
    rw [← hown]
    exact B.2.2.2.2.2.1
  refine vx_throwS (A := Aw g) (names := nSup) (sa := sa) (text := text) (rest := []) B.1 B.2.1 k1 ho hcls (by decide +kernel) (k2 _ (law_in0 _ hk)) (k2 _ (law_in0 _ hini)) hsa (fun w hw => ?_) (fun w hw => ?_) k4.1 k4.2.1 hS (hl.1.trans B.2.2.2.2.1.symm) d0 d3 d4 d6 d9 (fun x hx => (k3 x hx).elim) hR.1 (by simpa using hR.2.1) (by simpa using hR.2.2.1) (by simpa using hR.2.2.2) B.2.2.2.1 (fun t hvm hz hq => ?_) (fun z hz => hS.2.2 z hz) (Nat.le_of_ble_eq_true rfl) (Nat.le_of_ble_eq_true rfl)
  · rcases hat w hw with h1 | h1
    · exact k2 w h1.1
    · have h2 := hcs s _ k4 w h1
      simp only [List.mem_cons, List.not_mem_nil, or_false] at h1
      rcases h1 with e | e | e | e <;> subst e <;> exact va_Nw.use rfl h2
  · rcases List.mem_cons.mp hw with e1 | hw
    · subst e1
      rfl
    · rcases List.mem_cons.mp hw with e1 | hw
      · subst e1
        rfl
      · rcases hat w hw with h1 | h1
        · unfold vx_ot
          rw [h1.2, Bool.or_true]
        · simp only [List.mem_cons, List.not_mem_nil, or_false] at h1
          rcases h1 with e | e | e | e <;> subst e <;> rfl
  · refine ⟨h, trivial, ⟨H, hP.kept (fun k q hk => hq q.1 (hP k q hk).lt)⟩, Nat.le_trans hS.1 hz, fun q h1 h2 => ?_⟩
    rw [hq q (Nat.lt_of_lt_of_le h1 hS.1)]
    exact hS.2.1 q h1 h2
theorem evX_row {x1 x2 : Int32} {X : XT} {Lt : LT} {N : NT} (C : CX X Lt N h) (I : PI X Lt) (K1 : rwS X x1 x2 1 0 → XQ nISE h) (K2 : rwS X x1 x2 2 0 → XQ nIAE h) (K0 : ∀ r, rwS X x1 x2 0 r → Q (some (vI r)) h) : EvX mX6_row [vR 0, vI x1, vI x2] h Q XQ := by
  refine evX_of (by decide) rfl (Nat.le_of_ble_eq_true rfl) ?_
  show EvK mX6_row (kX Q XQ) 0 [(0, vR 0), (1, vI x1), (2, vI x2)] [] h
  refine c_row C I (fun z => ?_) (fun z => ?_) (fun r z => ev_xret dX6_row_64 rfl (K0 r z))
  · exact ev_xthr (ik := 120) (is := 122) (ic := 124) (cls := nISE) (text := "there is no power") rfl (by decide +kernel) (by decide +kernel) (by decide +kernel) law_in1 xs_1 (fun U A hU => hU.2.2.1) dX6_row_10 dX6_row_13 dX6_row_14 dX6_row_16 dX6_row_19 ⟨by decide, by decide, by decide, by decide⟩ (K1 z)
  · exact ev_xthr (ik := 127) (is := 129) (ic := 131) (cls := nIAE) (text := "there is no row") rfl (by decide +kernel) (by decide +kernel) (by decide +kernel) law_in2 xs_2 (fun U A hU => hU.2.2.2.1) dX6_row_31 dX6_row_34 dX6_row_35 dX6_row_37 dX6_row_40 ⟨by decide, by decide, by decide, by decide⟩ (K2 z)
theorem evX_entry {x1 x2 : Int32} {X : XT} {Lt : LT} {N : NT} (C : CX X Lt N h) (I : PI X Lt) (K1 : enS X x1 x2 1 0 → XQ nISE h) (K2 : enS X x1 x2 2 0 → XQ nIAE h) (K0 : ∀ r h', enS X x1 x2 0 r → fr [24, 25] h h' → Q (some (vI r)) h') : EvX mX6_entry [vR 0, vI x1, vI x2] h Q XQ := by
  refine evX_of (by decide) rfl (Nat.le_of_ble_eq_true rfl) ?_
  show EvK mX6_entry (kX Q XQ) 0 [(0, vR 0), (1, vI x1), (2, vI x2)] [] h
  refine c_entry C I (fun z => ?_) (fun z => ?_) (fun r h' z f => ev_xret dX6_entry_62 rfl (K0 r h' z f))
  · exact ev_xthr (ik := 120) (is := 122) (ic := 124) (cls := nISE) (text := "there is no power") rfl (by decide +kernel) (by decide +kernel) (by decide +kernel) law_in1 xs_1 (fun U A hU => hU.2.2.1) dX6_entry_10 dX6_entry_13 dX6_entry_14 dX6_entry_16 dX6_entry_19 ⟨by decide, by decide, by decide, by decide⟩ (K1 z)
  · exact ev_xthr (ik := 127) (is := 188) (ic := 131) (cls := nIAE) (text := "there is no such entry") rfl (by decide +kernel) (by decide +kernel) (by decide +kernel) law_in2 xs_2 (fun U A hU => hU.2.2.2.2.1) dX6_entry_28 dX6_entry_31 dX6_entry_32 dX6_entry_34 dX6_entry_37 ⟨by decide, by decide, by decide, by decide⟩ (K2 z)
end THR
