/-! the law's loop -/
abbrev kW (Lx : Nat) (xs : Nat → Int32) (c d : Nat) : KT := (fun _ s a => s.heap.size ≤ a, (c, d), fun _ below args s => lw_Z below args s, fun g _ s args _ => g.1.stackTraces = false ∧ (∀ w ∈ wsL_law, w.before args s = true) ∧ XSt (fun a => s.heap.size ≤ a) s ∧ args = #[Value.ref (g.2.2.1 200)] ∧ va_X (g.2.2.1 200) Lx xs s s.heap ∧ g.2.2.1 200 < s.heap.size)
theorem kW_SK {Lx : Nat} {xs : Nat → Int32} {c d : Nat} : SK (kW Lx xs c d) Lx xs := fun g p s args cd kz => ⟨kz.2.2.2.2.1, kz.2.2.2.2.2, Nat.not_le.mpr kz.2.2.2.2.2⟩
theorem EvM.imp {M : MD} {as : List AV} {h : Hp} {Q Q' : Option AV → Hp → Prop} (H : EvM M as h Q) (hq : ∀ v h1, Q v h1 → Q' v h1) : EvM M as h Q' := by
  intro g hg p e ha hc hk s m args below hf happ hP hK
  obtain ⟨n, o, h1, h2, h3, ⟨⟨v, h4, e1, q1, p1⟩, f1⟩, r⟩ := H g hg p e ha hc hk s m args below hf happ hP hK
  exact ⟨n, o, h1, h2, h3, ⟨⟨v, h4, e1, hq v h4 q1, p1⟩, f1⟩, r⟩
section LOOP
variable {Lx : Nat} {xs : Nat → Int32} {c d : Nat} {h : Hp} {L : List (Nat × AV)}
theorem ev_callL {N : MD} {pc idx n : Nat} {As rest stk : List AV} {QQ : Option AV → Hp → Prop} (hd : decode code pc = .ok (.invokestatic idx, 3)) (hw : ∀ w ∈ va_wsS RL idx N.1 (wsH N hhL), w ∈ wsL_law) (hy : N.1.cls ≠ "java/lang/invoke/MethodHandle" ∧ N.1.cls ≠ "java/lang/invoke/VarHandle" ∧ (parseMethodDescriptor N.1.desc).map (fun d => d.parameters.length) = some n) (hR : N.2.2.2.2.2.cells = 1 ∧ N.2.2.2.2.2.slots = 6 ∧ N.2.2.2.2.2.frames + 1 ≤ room_1.frames ∧ 8 + (N.2.2.1 + 11) + N.2.2.2.2.2.locals ≤ room_1.locals) (hn : As.length = n) (hst : stk = As.reverse ++ rest) (hc : c + 1 ≤ 601024) (hs : d + 6 ≤ 7293034)
    (H : EvL N As h QQ) (KK : ∀ v h1, QQ v h1 → EvK mL_law (kW Lx xs (c + 1) (d + 6)) (pc + 3) L (v.toList ++ rest) h1) (hcat : (rest.map (fun v => if isL v = true then 2 else 1)).sum ≤ 8 := by decide) : EvK mL_law (kW Lx xs c d) pc L stk h := by
  intro g hg p e s m args below meth cd B kA kr kz H0 locs ls hP hS hl
  subst hst
  have hr1 : c + 1 ≤ room_1.cells ∧ d + 6 ≤ room_1.slots := ⟨hc, hs⟩
  have hcw := vx_cwSW (R := room_1) (rm := N.2.2.2.2.2) (mc := 1) (ms := 6) (hh := hhL) (bytes := N.2.1) (maxL := N.2.2.1) (ret := N.2.2.2.1) n kz.2.1 (inGX hw) rfl hR.1 hR.2.1 hy hR.2.2
  have hA : ∀ q, Aw g q → s.heap.size ≤ q := Aw_in kA
  have hrun := vx_runSW (p := p) (e := e) (below := below) (meth := meth) (locs := locs) (cells := c) (slots := d) (As := As.map (ro g.2.2.1)) (rest := rest.map (ro g.2.2.1)) (g := F0 m pc ls ((As.reverse ++ rest).map (ro g.2.2.1))) ⟨B.1, B.2.1, B.2.2.2.2.1, B.2.2.2.2.2.1, kz.2.1⟩ (H g hg kz.1) hcw ⟨pxX_blind g h _, fun U hU hW => ⟨rfl, by rw [hU]; exact hP, B.2.2.2.2.2.2.2.moved hW, kz.2.2.1.to hS hA hU hW⟩⟩ rfl (by simpa using hn) hl.1 (by simp) (lv_room (cat_le _ _ 8 hcat)) hd hr1
  intro T hT X
  obtain ⟨v, st₀, t, T', Lc, h0, X', hL, e1, e2, ⟨⟨v1, h1, hv, hp, hb⟩, hz, hk⟩, stp⟩ := hrun T hT X
  have hv : v = v1.map (ro g.2.2.1) := by
    cases hv
    rfl
  rw [h0] at hz hk
  obtain ⟨t2, a1, b1⟩ := KK v1 h1 hp g hg p e s m args below meth cd B kA hr1 kz T'.heap (locs ++ Lc) ls (by rw [e1]; exact hb)
    ⟨Nat.le_trans hS.1 (by rw [e1]; exact hz), fun q h1 h2 => by rw [e1, hk q (Nat.lt_of_lt_of_le h1 hS.1) (fun z => h2 (hA q z))]; exact hS.2.1 q h1 h2, fun q hq => by
      rcases List.mem_append.mp hq with h | h
      · exact hS.2.2 q h
      · exact hA _ (hL q h)⟩ hl T' rfl X'
  refine ⟨t2, stp t2 ?_, b1⟩
  have e9 : v.toList ++ rest.map (ro g.2.2.1) = (v1.toList ++ rest).map (ro g.2.2.1) := by
    rw [hv]
    cases v1 <;> simp
  show Steps _ _ _ (T'.setTop { F0 m pc ls ((As.reverse ++ rest).map (ro g.2.2.1)) with pc := pc + 3, stack := v.toList ++ rest.map (ro g.2.2.1) }) t2
  rw [e9]
  exact a1
theorem law_end (hc : c ≤ 601024) (hs : d ≤ 7293034) : EvK mL_law (kW Lx xs c d) 714 L [] h := by
  intro g hg p e s m args below meth cd B kA kr kz H0 locs ls hP hS hl
  obtain ⟨k1, k2, k3, rfl, k5, k6⟩ := kz
  refine lv_iconst (v := 1) B.1 B.2.1 dL_law_714 (by decide) ?_
  refine va_forget (fun q hq => hS.2.2 q hq) ?_
  refine W.widen (k := 601024) (n := 7293034) hc hs ?_
  exact lw_ret B.1 B.2.1 B.2.2.1 B.2.2.2.1 dL_law_715
theorem in3 {idx : Nat} {N : MD} (hm : ∀ w ∈ [Cond.methodLink RL idx N.1, .static N.1, .initialized N.1.cls, .codeWith N.1 N.2.1 N.2.2.1 N.2.2.2.1 hhL], w ∈ wsL_law0) : ∀ w ∈ va_wsS RL idx N.1 (wsH N hhL), w ∈ wsL_law := by
  intro w hw
  rcases List.mem_append.mp hw with hw | hw
  · exact law_in0 _ (hm w (by simp only [List.mem_cons, List.not_mem_nil, or_false] at hw ⊢; rcases hw with h | h | h <;> simp [h]))
  · rcases List.mem_cons.mp hw with e | hw
    · exact law_in0 _ (hm w (by rw [e]; simp))
    · exact hw
theorem inLrow : ∀ w ∈ va_wsS RL 39 yL_row (wsH mL_row hhL), w ∈ wsL_law := in3 (N := mL_row) (by decide +kernel)
theorem inLentry : ∀ w ∈ va_wsS RL 74 yL_entry (wsH mL_entry hhL), w ∈ wsL_law := in3 (N := mL_entry) (by decide +kernel)
theorem law_loop (hx : Lx ≤ 2048) : ∀ (n i c d : Nat) (h : Hp), Lx ≤ i + 4 * n → i ≤ Lx + 4 → c + n ≤ 601024 → d + 6 * n ≤ 7293034 → Inv h → EvK mL_law (kW Lx xs c d) 23 [(0, vR 200), (1, vR 0), (2, vR 27), (3, vR 53), (4, vI (nI i))] [] h := by
  intro n
  have sub4 : (nI Lx - 4).toInt = (Lx : Int) - 4 := by
    by_cases q : 4 ≤ Lx
    · rw [show nI Lx - 4 = nI (Lx - 4) from lu_sub (k := 4) q, nI_toInt (by omega)]
      omega
    · have : Lx = 0 ∨ Lx = 1 ∨ Lx = 2 ∨ Lx = 3 := by omega
      rcases this with e | e | e | e <;> (rw [e]; rfl)
  induction n with
  | zero =>
    intro i c d h hi hi2 hc hs I
    apply sL_law_23 kW_SK
    refine ⟨fun _ => law_end (by omega) (by omega), fun z => ?_⟩
    rw [Int32.lt_iff_toInt_lt, sub4, nI_toInt (show i < 2 ^ 31 by omega)] at z
    omega
  | succ n ih =>
    intro i c d h hi hi2 hc hs I
    have hk : SK (kW Lx xs c d) Lx xs := kW_SK
    apply sL_law_23 hk
    rw [Int32.lt_iff_toInt_lt, sub4, nI_toInt (show i < 2 ^ 31 by omega)]
    refine ⟨fun _ => law_end (by omega) (by omega), fun z => ?_⟩
    have i4 : i + 4 ≤ Lx := by omega
    have next : ∀ h2, Inv h2 → EvK mL_law (kW Lx xs c d) 708 [(0, vR 200), (1, vR 0), (2, vR 27), (3, vR 53), (4, vI (nI i))] [] h2 := by
      intro h2 I2
      apply sL_law_708 hk
      simp (disch := omega) only [nt_le, nt_lt, nt_eq, nt_cl, nt_vp, nI_add, lu_le, lu_lt, lu_eq, ul_le, ul_lt, ul_eq, lu_add, ul_add, lu_sub, lu_mul, ul_mul, nt_sub, nt_m1]
      exact ih (i + 4) c d h2 (by omega) (by omega) (by omega) (by omega) I2
    have nx2 : ∀ h2, Inv h2 → EvK mL_law (kW Lx xs (c + 1) (d + 6)) 708 [(0, vR 200), (1, vR 0), (2, vR 27), (3, vR 53), (4, vI (nI i))] [] h2 := by
      intro h2 I2
      apply sL_law_708 kW_SK
      simp (disch := omega) only [nt_le, nt_lt, nt_eq, nt_cl, nt_vp, nI_add, lu_le, lu_lt, lu_eq, ul_le, ul_lt, ul_eq, lu_add, ul_add, lu_sub, lu_mul, ul_mul, nt_sub, nt_m1]
      exact ih (i + 4) (c + 1) (d + 6) h2 (by omega) (by omega) (by omega) (by omega) I2
    simp (disch := omega) only [nt_le, nt_lt, nt_eq, nt_cl, nt_vp, nI_add, lu_le, lu_lt, lu_eq, ul_le, ul_lt, ul_eq, lu_add, ul_add, lu_sub, lu_mul, ul_mul, nt_sub, nt_m1]
    refine ⟨by omega, fun _ => ?_, fun _ => ?_, fun _ => ?_, fun _ => ?_, fun _ => ?_, fun _ => ?_, fun _ => ?_, fun _ => ?_, fun _ => ?_, fun _ => ?_, fun _ => ?_, fun _ => ?_, fun _ => ?_, fun _ => ?_, fun _ => ?_, fun _ => ?_, fun _ => ?_, fun _ => ?_, fun _ => next h I⟩
    · apply sL_law_124 hk
      simp (disch := omega) only [nt_le, nt_lt, nt_eq, nt_cl, nt_vp, nI_add, lu_le, lu_lt, lu_eq, ul_le, ul_lt, ul_eq, lu_add, ul_add, lu_sub, lu_mul, ul_mul, nt_sub, nt_m1]
      exact ⟨by omega, by omega, op_add I (fun r h2 I2 => ⟨r, rfl, fun _ => next h2 I2, fun z => z rfl⟩)⟩
    · apply sL_law_161 hk
      simp (disch := omega) only [nt_le, nt_lt, nt_eq, nt_cl, nt_vp, nI_add, lu_le, lu_lt, lu_eq, ul_le, ul_lt, ul_eq, lu_add, ul_add, lu_sub, lu_mul, ul_mul, nt_sub, nt_m1]
      exact ⟨by omega, by omega, by omega, op_change I (fun r h2 I2 => ⟨r, rfl, fun _ => next h2 I2, fun z => z rfl⟩)⟩
    · apply sL_law_210 hk
      simp (disch := omega) only [nt_le, nt_lt, nt_eq, nt_cl, nt_vp, nI_add, lu_le, lu_lt, lu_eq, ul_le, ul_lt, ul_eq, lu_add, ul_add, lu_sub, lu_mul, ul_mul, nt_sub, nt_m1]
      exact ⟨by omega, op_remove I (fun r h2 I2 => ⟨r, rfl, fun _ => next h2 I2, fun z => z rfl⟩)⟩
    · obtain ⟨X, L, N, C, M, PIx, hn⟩ := I
      have go : ∀ z : Int32, (xs (i + 2) = 0 → z = 0) → (¬ xs (i + 2) = 0 → z = 1) → EvK mL_law (kW Lx xs c d) 256 [(0, vR 200), (1, vR 0), (2, vR 27), (3, vR 53), (4, vI (nI i))] [vI z, vI (xs (i + 1)), vR 0] h := by
        intro z hz0 hz1
        apply sL_law_256 hk
        refine ev_callL (n := 4) (N := mL_row) (QQ := fun v h1 => ∃ k r, v = some (vI k) ∧ rwS X (xs (i + 1)) z k r ∧ (k = 0 → h1 = sJ h 53 (vp_updL (h.2.1 53) 0 (Int32.toInt64 r))) ∧ (¬ k = 0 → h1 = h)) (As := [vR 0, vI (xs (i + 1)), vI z, vR 53]) (rest := []) dL_law_257 inLrow (by decide +kernel) ⟨rfl, rfl, by decide, by decide⟩ rfl rfl (by omega) (by omega) (evL_row C PIx (fun k r h1 q1 q2 q3 => ⟨k, r, rfl, q1, q2, q3⟩)) (fun v h1 z9 => ?_)
        obtain ⟨k, r, e, q1, q2, q3⟩ := z9
        subst e
        show EvK mL_law (kW Lx xs (c + 1) (d + 6)) 260 [(0, vR 200), (1, vR 0), (2, vR 27), (3, vR 53), (4, vI (nI i))] [vI k] h1
        have hk2 : SK (kW Lx xs (c + 1) (d + 6)) Lx xs := kW_SK
        have fin : EvK mL_law (kW Lx xs (c + 1) (d + 6)) 283 [(0, vR 200), (1, vR 0), (2, vR 27), (3, vR 53), (4, vI (nI i)), (5, vI k)] [vI z, vI (xs (i + 1)), vR 27] h1 := by
          apply sL_law_283 hk2
          have CM : CX X L N h1 ∧ MX X L N h1 := by
            by_cases k0 : k = 0
            · rw [q2 k0]
              exact ⟨C.k (fr.rf.sJ (by decide) _), MI.k M (fun d _ => rfl)⟩
            · rw [q3 k0]
              exact ⟨C, M⟩
          have o53 : k = 0 → h1.2.1 53 0 = Int32.toInt64 r := by
            intro k0
            rw [q2 k0]
            simp (disch := decide) only [sI_at, sI_ne, sI_21, sI_22, sJ_1, sJ_at, sJ_ne, sJ_22, sW_1, sW_21, upd_at, upd_ne]
            exact uL_at _ _ _
          · skip
            refine m_row CM.2 q1 (fun h2 r2 e2 er => ⟨r2, rfl, ?_⟩)
            have v0 : h2.1 27 0 = k := by
              rw [e2]
              simp (disch := decide) only [sI_at, sI_ne, sI_21, sI_22, sJ_1, sJ_at, sJ_ne, sJ_22, sW_1, sW_21, upd_at, upd_ne]
            have I2 : Inv h2 := ⟨X, L, N, CM.1.th e2, CM.2.th e2, PIx, hn⟩
            have o2 : h2.2.1 53 = h1.2.1 53 := by
              rw [e2]
              simp (disch := decide) only [sI_at, sI_ne, sI_21, sI_22, sJ_1, sJ_at, sJ_ne, sJ_22, sW_1, sW_21, upd_at, upd_ne]
            apply sX7_thrown
            rw [v0]
            refine ⟨k, rfl, fun _ => ⟨fun _ => nx2 h2 I2, fun k0 => ⟨fun _ => nx2 h2 I2, fun y => y ?_⟩⟩, fun y => y rfl⟩
            rw [o2, show (Int32.toNatClampNeg 0) = 0 from rfl, o53 k0, er k0]
            exact lg_eq.mpr rfl
        apply sL_law_260 hk2
        simp (disch := omega) only [nt_le, nt_lt, nt_eq, nt_cl, nt_vp, nI_add, lu_le, lu_lt, lu_eq, ul_le, ul_lt, ul_eq, lu_add, ul_add, lu_sub, lu_mul, ul_mul, nt_sub, nt_m1]
        refine ⟨by omega, by omega, fun y => ?_, fun y => ?_⟩
        · have z0 := hz0 y
          subst z0
          exact fin
        · have z1 := hz1 y
          subst z1
          exact fin
      apply sL_law_235 hk
      simp (disch := omega) only [nt_le, nt_lt, nt_eq, nt_cl, nt_vp, nI_add, lu_le, lu_lt, lu_eq, ul_le, ul_lt, ul_eq, lu_add, ul_add, lu_sub, lu_mul, ul_mul, nt_sub, nt_m1]
      exact ⟨by omega, by omega, fun y => go 0 (fun _ => rfl) (fun w => absurd y w), fun y => go 1 (fun w => absurd w y) (fun _ => rfl)⟩
    · apply sL_law_319 hk
      simp (disch := omega) only [nt_le, nt_lt, nt_eq, nt_cl, nt_vp, nI_add, lu_le, lu_lt, lu_eq, ul_le, ul_lt, ul_eq, lu_add, ul_add, lu_sub, lu_mul, ul_mul, nt_sub, nt_m1]
      exact ⟨by omega, by omega, op_cut I (fun r h2 I2 => ⟨r, rfl, fun _ => next h2 I2, fun z => z rfl⟩)⟩
    · apply sL_law_356 hk
      exact op_start I (fun r h2 I2 => ⟨r, rfl, fun _ => next h2 I2, fun z => z rfl⟩)
    · have bld : ∀ (b : Bool), (xs (i + 1) = 0 ↔ b = false) → EvK mL_law (kW Lx xs c d) 384 [(0, vR 200), (1, vR 0), (2, vR 27), (3, vR 53), (4, vI (nI i))] [vI (bI b), vR 0] h := by
        intro b hb
        apply sL_law_384 hk
        simp (disch := omega) only [nt_le, nt_lt, nt_eq, nt_cl, nt_vp, nI_add, lu_le, lu_lt, lu_eq, ul_le, ul_lt, ul_eq, lu_add, ul_add, lu_sub, lu_mul, ul_mul, nt_sub, nt_m1]
        refine (op_build (b := b) I (P := fun r v h2 => ∃ r8 : Int32, v = some (vI r8) ∧ ((r = r8 → EvK mL_law (kW Lx xs c d) 708 [(0, vR 200), (1, vR 0), (2, vR 27), (3, vR 53), (4, vI (nI i))] [] h2) ∧ (¬ r = r8 → False))) (fun r h2 I2 => ⟨r, rfl, fun _ => next h2 I2, fun z => z rfl⟩)).imp (fun v h1 z => ?_)
        obtain ⟨r, e, H⟩ := z
        refine ⟨r, e, by omega, fun z => ?_, fun z => ?_⟩
        · have b0 := hb.mp z
          subst b0
          exact sL_law_402 hk H
        · have b1 : b = true := by
            cases b with
            | true => rfl
            | false => exact absurd (hb.mpr rfl) z
          subst b1
          exact sL_law_402 hk H
      apply sL_law_369 hk
      simp (disch := omega) only [nt_le, nt_lt, nt_eq, nt_cl, nt_vp, nI_add, lu_le, lu_lt, lu_eq, ul_le, ul_lt, ul_eq, lu_add, ul_add, lu_sub, lu_mul, ul_mul, nt_sub, nt_m1]
      exact ⟨by omega, fun z => bld false ⟨fun _ => rfl, fun _ => z⟩, fun z => bld true ⟨fun y => absurd y z, fun y => absurd y (by decide)⟩⟩
    · apply sL_law_410 hk
      exact op_drop I (fun r h2 I2 => ⟨r, rfl, fun _ => next h2 I2, fun z => z rfl⟩)
    · apply sL_law_423 hk
      simp (disch := omega) only [nt_le, nt_lt, nt_eq, nt_cl, nt_vp, nI_add, lu_le, lu_lt, lu_eq, ul_le, ul_lt, ul_eq, lu_add, ul_add, lu_sub, lu_mul, ul_mul, nt_sub, nt_m1]
      exact ⟨by omega, op_step I (fun r h2 I2 => ⟨r, rfl, fun _ => next h2 I2, fun z => z rfl⟩)⟩
    · apply sL_law_448 hk
      simp (disch := omega) only [nt_le, nt_lt, nt_eq, nt_cl, nt_vp, nI_add, lu_le, lu_lt, lu_eq, ul_le, ul_lt, ul_eq, lu_add, ul_add, lu_sub, lu_mul, ul_mul, nt_sub, nt_m1]
      exact ⟨by omega, op_info I (fun r h2 I2 => ⟨r, rfl, fun _ => next h2 I2, fun z => z rfl⟩)⟩
    · obtain ⟨X, L, N, C, M, PIx, hn⟩ := I
      have go : ∀ z : Int32, (xs (i + 2) = 0 → z = 0) → (¬ xs (i + 2) = 0 → z = 1) → EvK mL_law (kW Lx xs c d) 494 [(0, vR 200), (1, vR 0), (2, vR 27), (3, vR 53), (4, vI (nI i))] [vI z, vI (xs (i + 1)), vR 0] h := by
        intro z hz0 hz1
        apply sL_law_494 hk
        refine ev_callL (n := 4) (N := mL_entry) (QQ := fun v h1 => ∃ k r h0, v = some (vI k) ∧ enS X (xs (i + 1)) z k r ∧ fr [24, 25] h h0 ∧ (k = 0 → h1 = sJ h0 53 (vp_updL (h0.2.1 53) 0 (Int32.toInt64 r))) ∧ (¬ k = 0 → h1 = h0)) (As := [vR 0, vI (xs (i + 1)), vI z, vR 53]) (rest := []) dL_law_495 inLentry (by decide +kernel) ⟨rfl, rfl, by decide, by decide⟩ rfl rfl (by omega) (by omega) (evL_entry C PIx (fun k r h0 h1 q1 q0 q2 q3 => ⟨k, r, h0, rfl, q1, q0, q2, q3⟩)) (fun v h1 z9 => ?_)
        obtain ⟨k, r, h0, e, q1, q0, q2, q3⟩ := z9
        subst e
        show EvK mL_law (kW Lx xs (c + 1) (d + 6)) 498 [(0, vR 200), (1, vR 0), (2, vR 27), (3, vR 53), (4, vI (nI i))] [vI k] h1
        have hk2 : SK (kW Lx xs (c + 1) (d + 6)) Lx xs := kW_SK
        have fin : EvK mL_law (kW Lx xs (c + 1) (d + 6)) 521 [(0, vR 200), (1, vR 0), (2, vR 27), (3, vR 53), (4, vI (nI i)), (5, vI k)] [vI z, vI (xs (i + 1)), vR 27] h1 := by
          apply sL_law_521 hk2
          have C0 := C.scr q0
          have M0 : MX X L N h0 := M.k (q0.mono (by decide))
          have CM : CX X L N h1 ∧ MX X L N h1 := by
            by_cases k0 : k = 0
            · rw [q2 k0]
              exact ⟨C0.k (fr.rf.sJ (by decide) _), MI.k M0 (fun d _ => rfl)⟩
            · rw [q3 k0]
              exact ⟨C0, M0⟩
          have o53 : k = 0 → h1.2.1 53 0 = Int32.toInt64 r := by
            intro k0
            rw [q2 k0]
            simp (disch := decide) only [sI_at, sI_ne, sI_21, sI_22, sJ_1, sJ_at, sJ_ne, sJ_22, sW_1, sW_21, upd_at, upd_ne]
            exact uL_at _ _ _
          · skip
            refine m_entry CM.2 PIx q1 (fun h2 r2 f2 v0 er => ⟨r2, rfl, ?_⟩)
            have I2 : Inv h2 := ⟨X, L, N, CM.1.k (fUm f2 (by decide)), CM.2.scr (f2.mono (by decide) (by decide)), PIx, hn⟩
            have o2 : h2.2.1 53 = h1.2.1 53 := f2.1.j 53 (by decide)
            apply sX7_thrown
            rw [v0]
            refine ⟨k, rfl, fun _ => ⟨fun _ => nx2 h2 I2, fun k0 => ⟨fun _ => nx2 h2 I2, fun y => y ?_⟩⟩, fun y => y rfl⟩
            rw [o2, show (Int32.toNatClampNeg 0) = 0 from rfl, o53 k0, er k0]
            exact lg_eq.mpr rfl
        apply sL_law_498 hk2
        simp (disch := omega) only [nt_le, nt_lt, nt_eq, nt_cl, nt_vp, nI_add, lu_le, lu_lt, lu_eq, ul_le, ul_lt, ul_eq, lu_add, ul_add, lu_sub, lu_mul, ul_mul, nt_sub, nt_m1]
        refine ⟨by omega, by omega, fun y => ?_, fun y => ?_⟩
        · have z0 := hz0 y
          subst z0
          exact fin
        · have z1 := hz1 y
          subst z1
          exact fin
      apply sL_law_473 hk
      simp (disch := omega) only [nt_le, nt_lt, nt_eq, nt_cl, nt_vp, nI_add, lu_le, lu_lt, lu_eq, ul_le, ul_lt, ul_eq, lu_add, ul_add, lu_sub, lu_mul, ul_mul, nt_sub, nt_m1]
      exact ⟨by omega, by omega, fun y => go 0 (fun _ => rfl) (fun w => absurd y w), fun y => go 1 (fun w => absurd w y) (fun _ => rfl)⟩
    · apply sL_law_557 hk
      simp (disch := omega) only [nt_le, nt_lt, nt_eq, nt_cl, nt_vp, nI_add, lu_le, lu_lt, lu_eq, ul_le, ul_lt, ul_eq, lu_add, ul_add, lu_sub, lu_mul, ul_mul, nt_sub, nt_m1]
      exact ⟨by omega, op_leaf I (fun r h2 I2 => ⟨r, rfl, fun _ => next h2 I2, fun z => z rfl⟩)⟩
    · apply sL_law_582 hk
      simp (disch := omega) only [nt_le, nt_lt, nt_eq, nt_cl, nt_vp, nI_add, lu_le, lu_lt, lu_eq, ul_le, ul_lt, ul_eq, lu_add, ul_add, lu_sub, lu_mul, ul_mul, nt_sub, nt_m1]
      exact ⟨by omega, by omega, op_ask I (fun r h2 I2 => ⟨r, rfl, fun _ => next h2 I2, fun z => z rfl⟩)⟩
    · apply sL_law_619 hk
      simp (disch := omega) only [nt_le, nt_lt, nt_eq, nt_cl, nt_vp, nI_add, lu_le, lu_lt, lu_eq, ul_le, ul_lt, ul_eq, lu_add, ul_add, lu_sub, lu_mul, ul_mul, nt_sub, nt_m1]
      exact ⟨by omega, op_answer I (fun r h2 I2 => ⟨r, rfl, fun _ => next h2 I2, fun z => z rfl⟩)⟩
    · apply sL_law_644 hk
      exact op_cost I (fun r h2 I2 => ⟨r, rfl, fun _ => next h2 I2, fun z => z rfl⟩)
    · apply sL_law_657 hk
      simp (disch := omega) only [nt_le, nt_lt, nt_eq, nt_cl, nt_vp, nI_add, lu_le, lu_lt, lu_eq, ul_le, ul_lt, ul_eq, lu_add, ul_add, lu_sub, lu_mul, ul_mul, nt_sub, nt_m1]
      exact ⟨by omega, op_blocks I (fun r h2 I2 => ⟨r, rfl, fun _ => next h2 I2, fun z => z rfl⟩)⟩
    · apply sL_law_682 hk
      exact op_rows I (fun r h2 I2 => ⟨r, rfl, fun _ => next h2 I2, fun z => z rfl⟩)
    · apply sL_law_695 hk
      exact op_audit I (fun r h2 I2 => ⟨r, rfl, fun _ => next h2 I2, fun z => z rfl⟩)
end LOOP
