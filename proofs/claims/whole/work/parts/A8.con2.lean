/-! more of them -/
abbrev mX2_init : MD := (yX2_init, cX2_init, 1, none, RX2, { frames := 1, cells := 2, slots := 80, locals := 12 })
abbrev fX2 (h0 : Nat) : va_W := [(h0, .inr (2, [.null, .null, .int 0, .int 0]))]
abbrev wX2 (cy : Nat → ClassId) (h0 q1 q2 : Nat) : va_W := [(h0, .inr (2, [.ref q1, .ref q2, .int 0, .int 0])), (q1, .inl (cy 2, 40, .inr (.inl (fun _ => 0)))), (q2, .inl (cy 1, 40, .inl (fun _ => 0)))]
def pX2 (D : va_G) (cy : Nat → ClassId) (h0 : Nat) (w1 : va_W) (t : State) : Prop := ∃ q1 q2 : Nat, w1 = wX2 cy h0 q1 q2 ++ []
set_option maxHeartbeats 4000000 in
set_option maxRecDepth 100000 in
theorem kX2_init (l : Launch) (D : va_G) (cy : Nat → ClassId) : Ki l D cy mX2_init 2 [.null, .null, .int 0, .int 0] (pX2 D cy) := by
  intro h0 sz
  refine Met.ofW (cc := cX2_init) (maxL := 1) (ret := none) (by decide) rfl ?_
  intro p e s m args below meth c s₁ B hml hv
  obtain ⟨rfl, hsz, hP, hK, hD0, hO⟩ := hv
  have hx := B.exec
  have hb := B.bytes
  have hr := B.returns
  have hts0 := atoms_spec (ws := wsM mX2_init) B.pre
  have hts : ∀ w ∈ wsL_law0, w.before #[Value.ref h0] s = true := fun w hw => hts0 w (List.mem_cons_of_mem _ hw)
  have hown : s.vm.findClass RX2 = some m.cls := findClass_of_methodNamed B.named
  have hlocks := B.notSynchronized
  have hin : meth.name = "<init>" := (name_of_methodNamed B.named B.method).1
  subst hsz
  have hD := hD0.self (sz := s.heap.size)
  generalize hAe : va_A (fX2 h0) s.heap.size = A at hD ⊢
  have hA : ∀ q : Nat, s.heap.size ≤ q → A q := fun q h => by rw [← hAe]; exact Or.inr h
  have hS : va_S A s.heap s.heap [] := va_S.rf
  have hP : va_P D vwCl ([(h0, .inr (2, [.null, .null, .int 0, .int 0]))] ++ []) s.heap := hP
  have hD : va_D A ([(h0, .inr (2, [.null, .null, .int 0, .int 0]))] ++ []) := hD
  have hl := lv_entry ([.ref h0]) (n := 1) (Nat.le_of_ble_eq_true rfl)
  rw [lg_entry_eq]
  generalize (lg_sl ([.ref h0]) ++ List.replicate (1 - (lg_sl ([.ref h0])).length) Slot.unset).toArray = ls at hl ⊢
  have hl : lv_has ls 1 [(0, .ref h0)] := hl
  refine lv_aload_n hx hb dX2_init_0 rfl (lv_at hl 0 rfl) ?_
  refine W.objInit hx hb hown (hts (.methodLink RX2 3 objectInit) (by decide +kernel)) (hts (.instanceMethod objectInit) (by decide +kernel)) (hts (.code objectInit ⟨#[0xb1]⟩ 1 none) (by decide +kernel)) rfl (by rw [hml]; exact hl.1) rfl dX2_init_1 (Nat.le_of_ble_eq_true rfl) (Nat.le_of_ble_eq_true rfl) ?_
  refine W.eq (g2 := F0 m 4 ls []) rfl ?_
  refine lv_aload_n hx hb dX2_init_4 rfl (lv_at hl 0 rfl) ?_
  refine lv_bipush (v := 40) hx hb dX2_init_5 (by decide) ?_
  refine nwP (atype := .long) (ty := .long) (n := 40) (N' := 40) (X := [(h0, .inr (2, [.null, .null, .int 0, .int 0]))]) (PL := []) (a0 := (40, .inr (.inl (fun _ => 0)))) (t0 := 2) hx hb (hts (.arrayClass .long) (by decide +kernel)) rfl hK rfl (fun _ a b => ra_long a b) hP hD hS hA (fun _ => rfl) (by decide) (by decide) (by decide) (Nat.le_of_ble_eq_true rfl) (Nat.le_of_ble_eq_true rfl) dX2_init_7 (fun q1 H hP hD hS => ?_)
  have hP : va_P D vwCl ([(h0, .inr (2, [.null, .null, .int 0, .int 0])), (q1, .inl (cy 2, 40, .inr (.inl (fun _ => 0))))] ++ []) H := hP
  have hD : va_D A ([(h0, .inr (2, [.null, .null, .int 0, .int 0])), (q1, .inl (cy 2, 40, .inr (.inl (fun _ => 0))))] ++ []) := hD
  refine va_putF (D := D) (ci := 2) (v := .ref q1) (ty := .array .long) (C := RX2) (T := TX2) (N := 4) hx hb hts inlX2 tyX2 tyX2_ok nmX2 hown hK hP hD hS 0 rfl rfl 0 (by decide) (hts (.fieldLink RX2 9 "BuiltIndex$LogBeside" "entries" "[J") (by decide +kernel)) (fun _ h9 => h9) rfl hin rfl (by decide +kernel) rfl rfl (Nat.le_of_ble_eq_true rfl) dX2_init_9 (fun H locs hP hD hS => ?_)
  have hP : va_P D vwCl ([(h0, .inr (2, [.ref q1, .null, .int 0, .int 0])), (q1, .inl (cy 2, 40, .inr (.inl (fun _ => 0))))] ++ []) H := hP
  have hD : va_D A ([(h0, .inr (2, [.ref q1, .null, .int 0, .int 0])), (q1, .inl (cy 2, 40, .inr (.inl (fun _ => 0))))] ++ []) := hD
  refine lv_aload_n hx hb dX2_init_12 rfl (lv_at hl 0 rfl) ?_
  refine lv_bipush (v := 40) hx hb dX2_init_13 (by decide) ?_
  refine nwP (atype := .boolean) (ty := .boolean) (n := 40) (N' := 40) (X := [(h0, .inr (2, [.ref q1, .null, .int 0, .int 0])), (q1, .inl (cy 2, 40, .inr (.inl (fun _ => 0))))]) (PL := []) (a0 := (40, .inl (fun _ => 0))) (t0 := 1) hx hb (hts (.arrayClass .boolean) (by decide +kernel)) rfl hK rfl (fun _ a b => ra_bool a b) hP hD hS hA (fun _ => rfl) (by decide) (by decide) (by decide) (Nat.le_of_ble_eq_true rfl) (Nat.le_of_ble_eq_true rfl) dX2_init_15 (fun q2 H hP hD hS => ?_)
  have hP : va_P D vwCl ([(h0, .inr (2, [.ref q1, .null, .int 0, .int 0])), (q1, .inl (cy 2, 40, .inr (.inl (fun _ => 0)))), (q2, .inl (cy 1, 40, .inl (fun _ => 0)))] ++ []) H := hP
  have hD : va_D A ([(h0, .inr (2, [.ref q1, .null, .int 0, .int 0])), (q1, .inl (cy 2, 40, .inr (.inl (fun _ => 0)))), (q2, .inl (cy 1, 40, .inl (fun _ => 0)))] ++ []) := hD
  refine va_putF (D := D) (ci := 2) (v := .ref q2) (ty := .array .boolean) (C := RX2) (T := TX2) (N := 4) hx hb hts inlX2 tyX2 tyX2_ok nmX2 hown hK hP hD hS 0 rfl rfl 1 (by decide) (hts (.fieldLink RX2 15 "BuiltIndex$LogBeside" "comes" "[Z") (by decide +kernel)) (fun _ h9 => h9) rfl hin rfl (by decide +kernel) rfl rfl (Nat.le_of_ble_eq_true rfl) dX2_init_17 (fun H locs hP hD hS => ?_)
  have hP : va_P D vwCl ([(h0, .inr (2, [.ref q1, .ref q2, .int 0, .int 0])), (q1, .inl (cy 2, 40, .inr (.inl (fun _ => 0)))), (q2, .inl (cy 1, 40, .inl (fun _ => 0)))] ++ []) H := hP
  have hD : va_D A ([(h0, .inr (2, [.ref q1, .ref q2, .int 0, .int 0])), (q1, .inl (cy 2, 40, .inr (.inl (fun _ => 0)))), (q2, .inl (cy 1, 40, .inl (fun _ => 0)))] ++ []) := hD
  refine lv_aload_n hx hb dX2_init_20 rfl (lv_at hl 0 rfl) ?_
  refine lv_iconst (v := 0) hx hb dX2_init_21 (by decide) ?_
  refine va_put (D := D) (ci := 2) (v := .int 0) (ty := .int) (C := RX2) (T := TX2) (N := 4) hx hb hts inlX2 tyX2 tyX2_ok nmX2 hown hK hP hD hS 0 rfl rfl 2 (by decide) (hts (.fieldLink RX2 19 "BuiltIndex$LogBeside" "first" "I") (by decide +kernel)) (fun _ h9 => h9) rfl (by decide +kernel) rfl rfl (Nat.le_of_ble_eq_true rfl) dX2_init_22 (fun H locs hP hD hS => ?_)
  have hP : va_P D vwCl ([(h0, .inr (2, [.ref q1, .ref q2, .int 0, .int 0])), (q1, .inl (cy 2, 40, .inr (.inl (fun _ => 0)))), (q2, .inl (cy 1, 40, .inl (fun _ => 0)))] ++ []) H := hP
  have hD : va_D A ([(h0, .inr (2, [.ref q1, .ref q2, .int 0, .int 0])), (q1, .inl (cy 2, 40, .inr (.inl (fun _ => 0)))), (q2, .inl (cy 1, 40, .inl (fun _ => 0)))] ++ []) := hD
  refine lv_aload_n hx hb dX2_init_25 rfl (lv_at hl 0 rfl) ?_
  refine lv_iconst (v := 0) hx hb dX2_init_26 (by decide) ?_
  refine va_put (D := D) (ci := 2) (v := .int 0) (ty := .int) (C := RX2) (T := TX2) (N := 4) hx hb hts inlX2 tyX2 tyX2_ok nmX2 hown hK hP hD hS 0 rfl rfl 3 (by decide) (hts (.fieldLink RX2 23 "BuiltIndex$LogBeside" "count" "I") (by decide +kernel)) (fun _ h9 => h9) rfl (by decide +kernel) rfl rfl (Nat.le_of_ble_eq_true rfl) dX2_init_27 (fun H locs hP hD hS => ?_)
  have hP : va_P D vwCl ([(h0, .inr (2, [.ref q1, .ref q2, .int 0, .int 0])), (q1, .inl (cy 2, 40, .inr (.inl (fun _ => 0)))), (q2, .inl (cy 1, 40, .inl (fun _ => 0)))] ++ []) H := hP
  have hD : va_D A ([(h0, .inr (2, [.ref q1, .ref q2, .int 0, .int 0])), (q1, .inl (cy 2, 40, .inr (.inl (fun _ => 0)))), (q2, .inl (cy 1, 40, .inl (fun _ => 0)))] ++ []) := hD
  refine W.widen (k := 2) (n := 80) (Nat.le_of_ble_eq_true rfl) (Nat.le_of_ble_eq_true rfl) ?_
  subst hAe
  exact W.vret hx hb hr (fun t ht hW => ⟨⟨(), rfl, trivial, _, ⟨q1, q2, rfl⟩, by rw [ht]; exact hP, hD⟩, hS.F ht⟩) hS.2.2 dX2_init_30 hlocks
abbrev mX3_init : MD := (yX3_init, cX3_init, 1, none, RX3, { frames := 1, cells := 4, slots := 527, locals := 12 })
abbrev fX3 (h0 : Nat) : va_W := [(h0, .inr (3, [.null, .int 0, .null, .null, .int 0, .null, .int 0]))]
abbrev wX3 (cy : Nat → ClassId) (h0 q1 q2 q3 q4 : Nat) : va_W := [(h0, .inr (3, [.ref q1, .int 0, .ref q2, .ref q3, .int 0, .ref q4, .int 0])), (q1, .inl (cy 2, 36, .inr (.inl (fun _ => 0)))), (q2, .inl (cy 2, 240, .inr (.inl (fun _ => 0)))), (q3, .inl (cy 2, 240, .inr (.inl (fun _ => 0)))), (q4, .inl (cy 0, 11, .inl (fun _ => 0)))]
def pX3 (D : va_G) (cy : Nat → ClassId) (h0 : Nat) (w1 : va_W) (t : State) : Prop := ∃ q1 q2 q3 q4 : Nat, w1 = wX3 cy h0 q1 q2 q3 q4 ++ []
set_option maxHeartbeats 4000000 in
set_option maxRecDepth 100000 in
theorem kX3_init (l : Launch) (D : va_G) (cy : Nat → ClassId) : Ki l D cy mX3_init 3 [.null, .int 0, .null, .null, .int 0, .null, .int 0] (pX3 D cy) := by
  intro h0 sz
  refine Met.ofW (cc := cX3_init) (maxL := 1) (ret := none) (by decide) rfl ?_
  intro p e s m args below meth c s₁ B hml hv
  obtain ⟨rfl, hsz, hP, hK, hD0, hO⟩ := hv
  have hx := B.exec
  have hb := B.bytes
  have hr := B.returns
  have hts0 := atoms_spec (ws := wsM mX3_init) B.pre
  have hts : ∀ w ∈ wsL_law0, w.before #[Value.ref h0] s = true := fun w hw => hts0 w (List.mem_cons_of_mem _ hw)
  have hown : s.vm.findClass RX3 = some m.cls := findClass_of_methodNamed B.named
  have hlocks := B.notSynchronized
  have hin : meth.name = "<init>" := (name_of_methodNamed B.named B.method).1
  subst hsz
  have hD := hD0.self (sz := s.heap.size)
  generalize hAe : va_A (fX3 h0) s.heap.size = A at hD ⊢
  have hA : ∀ q : Nat, s.heap.size ≤ q → A q := fun q h => by rw [← hAe]; exact Or.inr h
  have hS : va_S A s.heap s.heap [] := va_S.rf
  have hP : va_P D vwCl ([(h0, .inr (3, [.null, .int 0, .null, .null, .int 0, .null, .int 0]))] ++ []) s.heap := hP
  have hD : va_D A ([(h0, .inr (3, [.null, .int 0, .null, .null, .int 0, .null, .int 0]))] ++ []) := hD
  have hl := lv_entry ([.ref h0]) (n := 1) (Nat.le_of_ble_eq_true rfl)
  rw [lg_entry_eq]
  generalize (lg_sl ([.ref h0]) ++ List.replicate (1 - (lg_sl ([.ref h0])).length) Slot.unset).toArray = ls at hl ⊢
  have hl : lv_has ls 1 [(0, .ref h0)] := hl
  refine lv_aload_n hx hb dX3_init_0 rfl (lv_at hl 0 rfl) ?_
  refine W.objInit hx hb hown (hts (.methodLink RX3 3 objectInit) (by decide +kernel)) (hts (.instanceMethod objectInit) (by decide +kernel)) (hts (.code objectInit ⟨#[0xb1]⟩ 1 none) (by decide +kernel)) rfl (by rw [hml]; exact hl.1) rfl dX3_init_1 (Nat.le_of_ble_eq_true rfl) (Nat.le_of_ble_eq_true rfl) ?_
  refine W.eq (g2 := F0 m 4 ls []) rfl ?_
  refine lv_aload_n hx hb dX3_init_4 rfl (lv_at hl 0 rfl) ?_
  refine lv_bipush (v := 36) hx hb dX3_init_5 (by decide) ?_
  refine nwP (atype := .long) (ty := .long) (n := 36) (N' := 36) (X := [(h0, .inr (3, [.null, .int 0, .null, .null, .int 0, .null, .int 0]))]) (PL := []) (a0 := (36, .inr (.inl (fun _ => 0)))) (t0 := 2) hx hb (hts (.arrayClass .long) (by decide +kernel)) rfl hK rfl (fun _ a b => ra_long a b) hP hD hS hA (fun _ => rfl) (by decide) (by decide) (by decide) (Nat.le_of_ble_eq_true rfl) (Nat.le_of_ble_eq_true rfl) dX3_init_7 (fun q1 H hP hD hS => ?_)
  have hP : va_P D vwCl ([(h0, .inr (3, [.null, .int 0, .null, .null, .int 0, .null, .int 0])), (q1, .inl (cy 2, 36, .inr (.inl (fun _ => 0))))] ++ []) H := hP
  have hD : va_D A ([(h0, .inr (3, [.null, .int 0, .null, .null, .int 0, .null, .int 0])), (q1, .inl (cy 2, 36, .inr (.inl (fun _ => 0))))] ++ []) := hD
  refine va_putF (D := D) (ci := 3) (v := .ref q1) (ty := .array .long) (C := RX3) (T := TX3) (N := 7) hx hb hts inlX3 tyX3 tyX3_ok nmX3 hown hK hP hD hS 0 rfl rfl 0 (by decide) (hts (.fieldLink RX3 9 "BuiltIndex$Runs" "picked" "[J") (by decide +kernel)) (fun _ h9 => h9) rfl hin rfl (by decide +kernel) rfl rfl (Nat.le_of_ble_eq_true rfl) dX3_init_9 (fun H locs hP hD hS => ?_)
  have hP : va_P D vwCl ([(h0, .inr (3, [.ref q1, .int 0, .null, .null, .int 0, .null, .int 0])), (q1, .inl (cy 2, 36, .inr (.inl (fun _ => 0))))] ++ []) H := hP
  have hD : va_D A ([(h0, .inr (3, [.ref q1, .int 0, .null, .null, .int 0, .null, .int 0])), (q1, .inl (cy 2, 36, .inr (.inl (fun _ => 0))))] ++ []) := hD
  refine lv_aload_n hx hb dX3_init_12 rfl (lv_at hl 0 rfl) ?_
  refine lv_iconst (v := 0) hx hb dX3_init_13 (by decide) ?_
  refine va_put (D := D) (ci := 3) (v := .int 0) (ty := .int) (C := RX3) (T := TX3) (N := 7) hx hb hts inlX3 tyX3 tyX3_ok nmX3 hown hK hP hD hS 0 rfl rfl 1 (by decide) (hts (.fieldLink RX3 15 "BuiltIndex$Runs" "pickedCount" "I") (by decide +kernel)) (fun _ h9 => h9) rfl (by decide +kernel) rfl rfl (Nat.le_of_ble_eq_true rfl) dX3_init_14 (fun H locs hP hD hS => ?_)
  have hP : va_P D vwCl ([(h0, .inr (3, [.ref q1, .int 0, .null, .null, .int 0, .null, .int 0])), (q1, .inl (cy 2, 36, .inr (.inl (fun _ => 0))))] ++ []) H := hP
  have hD : va_D A ([(h0, .inr (3, [.ref q1, .int 0, .null, .null, .int 0, .null, .int 0])), (q1, .inl (cy 2, 36, .inr (.inl (fun _ => 0))))] ++ []) := hD
  refine lv_aload_n hx hb dX3_init_17 rfl (lv_at hl 0 rfl) ?_
  refine lv_sipush (v := 240) hx hb dX3_init_18 (by decide) ?_
  refine nwP (atype := .long) (ty := .long) (n := 240) (N' := 240) (X := [(h0, .inr (3, [.ref q1, .int 0, .null, .null, .int 0, .null, .int 0])), (q1, .inl (cy 2, 36, .inr (.inl (fun _ => 0))))]) (PL := []) (a0 := (240, .inr (.inl (fun _ => 0)))) (t0 := 2) hx hb (hts (.arrayClass .long) (by decide +kernel)) rfl hK rfl (fun _ a b => ra_long a b) hP hD hS hA (fun _ => rfl) (by decide) (by decide) (by decide) (Nat.le_of_ble_eq_true rfl) (Nat.le_of_ble_eq_true rfl) dX3_init_21 (fun q2 H hP hD hS => ?_)
  have hP : va_P D vwCl ([(h0, .inr (3, [.ref q1, .int 0, .null, .null, .int 0, .null, .int 0])), (q1, .inl (cy 2, 36, .inr (.inl (fun _ => 0)))), (q2, .inl (cy 2, 240, .inr (.inl (fun _ => 0))))] ++ []) H := hP
  have hD : va_D A ([(h0, .inr (3, [.ref q1, .int 0, .null, .null, .int 0, .null, .int 0])), (q1, .inl (cy 2, 36, .inr (.inl (fun _ => 0)))), (q2, .inl (cy 2, 240, .inr (.inl (fun _ => 0))))] ++ []) := hD
  refine va_putF (D := D) (ci := 3) (v := .ref q2) (ty := .array .long) (C := RX3) (T := TX3) (N := 7) hx hb hts inlX3 tyX3 tyX3_ok nmX3 hown hK hP hD hS 0 rfl rfl 2 (by decide) (hts (.fieldLink RX3 19 "BuiltIndex$Runs" "sorted" "[J") (by decide +kernel)) (fun _ h9 => h9) rfl hin rfl (by decide +kernel) rfl rfl (Nat.le_of_ble_eq_true rfl) dX3_init_23 (fun H locs hP hD hS => ?_)
  have hP : va_P D vwCl ([(h0, .inr (3, [.ref q1, .int 0, .ref q2, .null, .int 0, .null, .int 0])), (q1, .inl (cy 2, 36, .inr (.inl (fun _ => 0)))), (q2, .inl (cy 2, 240, .inr (.inl (fun _ => 0))))] ++ []) H := hP
  have hD : va_D A ([(h0, .inr (3, [.ref q1, .int 0, .ref q2, .null, .int 0, .null, .int 0])), (q1, .inl (cy 2, 36, .inr (.inl (fun _ => 0)))), (q2, .inl (cy 2, 240, .inr (.inl (fun _ => 0))))] ++ []) := hD
  refine lv_aload_n hx hb dX3_init_26 rfl (lv_at hl 0 rfl) ?_
  refine lv_sipush (v := 240) hx hb dX3_init_27 (by decide) ?_
  refine nwP (atype := .long) (ty := .long) (n := 240) (N' := 240) (X := [(h0, .inr (3, [.ref q1, .int 0, .ref q2, .null, .int 0, .null, .int 0])), (q1, .inl (cy 2, 36, .inr (.inl (fun _ => 0)))), (q2, .inl (cy 2, 240, .inr (.inl (fun _ => 0))))]) (PL := []) (a0 := (240, .inr (.inl (fun _ => 0)))) (t0 := 2) hx hb (hts (.arrayClass .long) (by decide +kernel)) rfl hK rfl (fun _ a b => ra_long a b) hP hD hS hA (fun _ => rfl) (by decide) (by decide) (by decide) (Nat.le_of_ble_eq_true rfl) (Nat.le_of_ble_eq_true rfl) dX3_init_30 (fun q3 H hP hD hS => ?_)
  have hP : va_P D vwCl ([(h0, .inr (3, [.ref q1, .int 0, .ref q2, .null, .int 0, .null, .int 0])), (q1, .inl (cy 2, 36, .inr (.inl (fun _ => 0)))), (q2, .inl (cy 2, 240, .inr (.inl (fun _ => 0)))), (q3, .inl (cy 2, 240, .inr (.inl (fun _ => 0))))] ++ []) H := hP
  have hD : va_D A ([(h0, .inr (3, [.ref q1, .int 0, .ref q2, .null, .int 0, .null, .int 0])), (q1, .inl (cy 2, 36, .inr (.inl (fun _ => 0)))), (q2, .inl (cy 2, 240, .inr (.inl (fun _ => 0)))), (q3, .inl (cy 2, 240, .inr (.inl (fun _ => 0))))] ++ []) := hD
  refine va_putF (D := D) (ci := 3) (v := .ref q3) (ty := .array .long) (C := RX3) (T := TX3) (N := 7) hx hb hts inlX3 tyX3 tyX3_ok nmX3 hown hK hP hD hS 0 rfl rfl 3 (by decide) (hts (.fieldLink RX3 22 "BuiltIndex$Runs" "merged" "[J") (by decide +kernel)) (fun _ h9 => h9) rfl hin rfl (by decide +kernel) rfl rfl (Nat.le_of_ble_eq_true rfl) dX3_init_32 (fun H locs hP hD hS => ?_)
  have hP : va_P D vwCl ([(h0, .inr (3, [.ref q1, .int 0, .ref q2, .ref q3, .int 0, .null, .int 0])), (q1, .inl (cy 2, 36, .inr (.inl (fun _ => 0)))), (q2, .inl (cy 2, 240, .inr (.inl (fun _ => 0)))), (q3, .inl (cy 2, 240, .inr (.inl (fun _ => 0))))] ++ []) H := hP
  have hD : va_D A ([(h0, .inr (3, [.ref q1, .int 0, .ref q2, .ref q3, .int 0, .null, .int 0])), (q1, .inl (cy 2, 36, .inr (.inl (fun _ => 0)))), (q2, .inl (cy 2, 240, .inr (.inl (fun _ => 0)))), (q3, .inl (cy 2, 240, .inr (.inl (fun _ => 0))))] ++ []) := hD
  refine lv_aload_n hx hb dX3_init_35 rfl (lv_at hl 0 rfl) ?_
  refine lv_iconst (v := 0) hx hb dX3_init_36 (by decide) ?_
  refine va_put (D := D) (ci := 3) (v := .int 0) (ty := .int) (C := RX3) (T := TX3) (N := 7) hx hb hts inlX3 tyX3 tyX3_ok nmX3 hown hK hP hD hS 0 rfl rfl 4 (by decide) (hts (.fieldLink RX3 25 "BuiltIndex$Runs" "total" "I") (by decide +kernel)) (fun _ h9 => h9) rfl (by decide +kernel) rfl rfl (Nat.le_of_ble_eq_true rfl) dX3_init_37 (fun H locs hP hD hS => ?_)
  have hP : va_P D vwCl ([(h0, .inr (3, [.ref q1, .int 0, .ref q2, .ref q3, .int 0, .null, .int 0])), (q1, .inl (cy 2, 36, .inr (.inl (fun _ => 0)))), (q2, .inl (cy 2, 240, .inr (.inl (fun _ => 0)))), (q3, .inl (cy 2, 240, .inr (.inl (fun _ => 0))))] ++ []) H := hP
  have hD : va_D A ([(h0, .inr (3, [.ref q1, .int 0, .ref q2, .ref q3, .int 0, .null, .int 0])), (q1, .inl (cy 2, 36, .inr (.inl (fun _ => 0)))), (q2, .inl (cy 2, 240, .inr (.inl (fun _ => 0)))), (q3, .inl (cy 2, 240, .inr (.inl (fun _ => 0))))] ++ []) := hD
  refine lv_aload_n hx hb dX3_init_40 rfl (lv_at hl 0 rfl) ?_
  refine lv_bipush (v := 11) hx hb dX3_init_41 (by decide) ?_
  refine nwP (atype := .int) (ty := .int) (n := 11) (N' := 11) (X := [(h0, .inr (3, [.ref q1, .int 0, .ref q2, .ref q3, .int 0, .null, .int 0])), (q1, .inl (cy 2, 36, .inr (.inl (fun _ => 0)))), (q2, .inl (cy 2, 240, .inr (.inl (fun _ => 0)))), (q3, .inl (cy 2, 240, .inr (.inl (fun _ => 0))))]) (PL := []) (a0 := (11, .inl (fun _ => 0))) (t0 := 0) hx hb (hts (.arrayClass .int) (by decide +kernel)) rfl hK rfl (fun _ a b => ra_int a b) hP hD hS hA (fun _ => rfl) (by decide) (by decide) (by decide) (Nat.le_of_ble_eq_true rfl) (Nat.le_of_ble_eq_true rfl) dX3_init_43 (fun q4 H hP hD hS => ?_)
  have hP : va_P D vwCl ([(h0, .inr (3, [.ref q1, .int 0, .ref q2, .ref q3, .int 0, .null, .int 0])), (q1, .inl (cy 2, 36, .inr (.inl (fun _ => 0)))), (q2, .inl (cy 2, 240, .inr (.inl (fun _ => 0)))), (q3, .inl (cy 2, 240, .inr (.inl (fun _ => 0)))), (q4, .inl (cy 0, 11, .inl (fun _ => 0)))] ++ []) H := hP
  have hD : va_D A ([(h0, .inr (3, [.ref q1, .int 0, .ref q2, .ref q3, .int 0, .null, .int 0])), (q1, .inl (cy 2, 36, .inr (.inl (fun _ => 0)))), (q2, .inl (cy 2, 240, .inr (.inl (fun _ => 0)))), (q3, .inl (cy 2, 240, .inr (.inl (fun _ => 0)))), (q4, .inl (cy 0, 11, .inl (fun _ => 0)))] ++ []) := hD
  refine va_putF (D := D) (ci := 3) (v := .ref q4) (ty := .array .int) (C := RX3) (T := TX3) (N := 7) hx hb hts inlX3 tyX3 tyX3_ok nmX3 hown hK hP hD hS 0 rfl rfl 5 (by decide) (hts (.fieldLink RX3 28 "BuiltIndex$Runs" "lengths" "[I") (by decide +kernel)) (fun _ h9 => h9) rfl hin rfl (by decide +kernel) rfl rfl (Nat.le_of_ble_eq_true rfl) dX3_init_45 (fun H locs hP hD hS => ?_)
  have hP : va_P D vwCl ([(h0, .inr (3, [.ref q1, .int 0, .ref q2, .ref q3, .int 0, .ref q4, .int 0])), (q1, .inl (cy 2, 36, .inr (.inl (fun _ => 0)))), (q2, .inl (cy 2, 240, .inr (.inl (fun _ => 0)))), (q3, .inl (cy 2, 240, .inr (.inl (fun _ => 0)))), (q4, .inl (cy 0, 11, .inl (fun _ => 0)))] ++ []) H := hP
  have hD : va_D A ([(h0, .inr (3, [.ref q1, .int 0, .ref q2, .ref q3, .int 0, .ref q4, .int 0])), (q1, .inl (cy 2, 36, .inr (.inl (fun _ => 0)))), (q2, .inl (cy 2, 240, .inr (.inl (fun _ => 0)))), (q3, .inl (cy 2, 240, .inr (.inl (fun _ => 0)))), (q4, .inl (cy 0, 11, .inl (fun _ => 0)))] ++ []) := hD
  refine lv_aload_n hx hb dX3_init_48 rfl (lv_at hl 0 rfl) ?_
  refine lv_iconst (v := 0) hx hb dX3_init_49 (by decide) ?_
  refine va_put (D := D) (ci := 3) (v := .int 0) (ty := .int) (C := RX3) (T := TX3) (N := 7) hx hb hts inlX3 tyX3 tyX3_ok nmX3 hown hK hP hD hS 0 rfl rfl 6 (by decide) (hts (.fieldLink RX3 32 "BuiltIndex$Runs" "count" "I") (by decide +kernel)) (fun _ h9 => h9) rfl (by decide +kernel) rfl rfl (Nat.le_of_ble_eq_true rfl) dX3_init_50 (fun H locs hP hD hS => ?_)
  have hP : va_P D vwCl ([(h0, .inr (3, [.ref q1, .int 0, .ref q2, .ref q3, .int 0, .ref q4, .int 0])), (q1, .inl (cy 2, 36, .inr (.inl (fun _ => 0)))), (q2, .inl (cy 2, 240, .inr (.inl (fun _ => 0)))), (q3, .inl (cy 2, 240, .inr (.inl (fun _ => 0)))), (q4, .inl (cy 0, 11, .inl (fun _ => 0)))] ++ []) H := hP
  have hD : va_D A ([(h0, .inr (3, [.ref q1, .int 0, .ref q2, .ref q3, .int 0, .ref q4, .int 0])), (q1, .inl (cy 2, 36, .inr (.inl (fun _ => 0)))), (q2, .inl (cy 2, 240, .inr (.inl (fun _ => 0)))), (q3, .inl (cy 2, 240, .inr (.inl (fun _ => 0)))), (q4, .inl (cy 0, 11, .inl (fun _ => 0)))] ++ []) := hD
  refine W.widen (k := 4) (n := 527) (Nat.le_of_ble_eq_true rfl) (Nat.le_of_ble_eq_true rfl) ?_
  subst hAe
  exact W.vret hx hb hr (fun t ht hW => ⟨⟨(), rfl, trivial, _, ⟨q1, q2, q3, q4, rfl⟩, by rw [ht]; exact hP, hD⟩, hS.F ht⟩) hS.2.2 dX3_init_53 hlocks
abbrev mX4_init : MD := (yX4_init, cX4_init, 1, none, RX4, { frames := 1, cells := 4, slots := 740, locals := 12 })
abbrev fX4 (h0 : Nat) : va_W := [(h0, .inr (4, [.null, .null, .null, .null, .int 0]))]
abbrev wX4 (cy : Nat → ClassId) (h0 q1 q2 q3 q4 : Nat) : va_W := [(h0, .inr (4, [.ref q1, .ref q2, .ref q3, .ref q4, .int 0])), (q1, .inl (cy 0, 240, .inl (fun _ => 0))), (q2, .inl (cy 0, 240, .inl (fun _ => 0))), (q3, .inl (cy 1, 240, .inl (fun _ => 0))), (q4, .inl (cy 1, 20, .inl (fun _ => 0)))]
def pX4 (D : va_G) (cy : Nat → ClassId) (h0 : Nat) (w1 : va_W) (t : State) : Prop := ∃ q1 q2 q3 q4 : Nat, w1 = wX4 cy h0 q1 q2 q3 q4 ++ []
set_option maxHeartbeats 4000000 in
set_option maxRecDepth 100000 in
theorem kX4_init (l : Launch) (D : va_G) (cy : Nat → ClassId) : Ki l D cy mX4_init 4 [.null, .null, .null, .null, .int 0] (pX4 D cy) := by
  intro h0 sz
  refine Met.ofW (cc := cX4_init) (maxL := 1) (ret := none) (by decide) rfl ?_
  intro p e s m args below meth c s₁ B hml hv
  obtain ⟨rfl, hsz, hP, hK, hD0, hO⟩ := hv
  have hx := B.exec
  have hb := B.bytes
  have hr := B.returns
  have hts0 := atoms_spec (ws := wsM mX4_init) B.pre
  have hts : ∀ w ∈ wsL_law0, w.before #[Value.ref h0] s = true := fun w hw => hts0 w (List.mem_cons_of_mem _ hw)
  have hown : s.vm.findClass RX4 = some m.cls := findClass_of_methodNamed B.named
  have hlocks := B.notSynchronized
  have hin : meth.name = "<init>" := (name_of_methodNamed B.named B.method).1
  subst hsz
  have hD := hD0.self (sz := s.heap.size)
  generalize hAe : va_A (fX4 h0) s.heap.size = A at hD ⊢
  have hA : ∀ q : Nat, s.heap.size ≤ q → A q := fun q h => by rw [← hAe]; exact Or.inr h
  have hS : va_S A s.heap s.heap [] := va_S.rf
  have hP : va_P D vwCl ([(h0, .inr (4, [.null, .null, .null, .null, .int 0]))] ++ []) s.heap := hP
  have hD : va_D A ([(h0, .inr (4, [.null, .null, .null, .null, .int 0]))] ++ []) := hD
  have hl := lv_entry ([.ref h0]) (n := 1) (Nat.le_of_ble_eq_true rfl)
  rw [lg_entry_eq]
  generalize (lg_sl ([.ref h0]) ++ List.replicate (1 - (lg_sl ([.ref h0])).length) Slot.unset).toArray = ls at hl ⊢
  have hl : lv_has ls 1 [(0, .ref h0)] := hl
  refine lv_aload_n hx hb dX4_init_0 rfl (lv_at hl 0 rfl) ?_
  refine W.objInit hx hb hown (hts (.methodLink RX4 3 objectInit) (by decide +kernel)) (hts (.instanceMethod objectInit) (by decide +kernel)) (hts (.code objectInit ⟨#[0xb1]⟩ 1 none) (by decide +kernel)) rfl (by rw [hml]; exact hl.1) rfl dX4_init_1 (Nat.le_of_ble_eq_true rfl) (Nat.le_of_ble_eq_true rfl) ?_
  refine W.eq (g2 := F0 m 4 ls []) rfl ?_
  refine lv_aload_n hx hb dX4_init_4 rfl (lv_at hl 0 rfl) ?_
  refine lv_sipush (v := 240) hx hb dX4_init_5 (by decide) ?_
  refine nwP (atype := .int) (ty := .int) (n := 240) (N' := 240) (X := [(h0, .inr (4, [.null, .null, .null, .null, .int 0]))]) (PL := []) (a0 := (240, .inl (fun _ => 0))) (t0 := 0) hx hb (hts (.arrayClass .int) (by decide +kernel)) rfl hK rfl (fun _ a b => ra_int a b) hP hD hS hA (fun _ => rfl) (by decide) (by decide) (by decide) (Nat.le_of_ble_eq_true rfl) (Nat.le_of_ble_eq_true rfl) dX4_init_8 (fun q1 H hP hD hS => ?_)
  have hP : va_P D vwCl ([(h0, .inr (4, [.null, .null, .null, .null, .int 0])), (q1, .inl (cy 0, 240, .inl (fun _ => 0)))] ++ []) H := hP
  have hD : va_D A ([(h0, .inr (4, [.null, .null, .null, .null, .int 0])), (q1, .inl (cy 0, 240, .inl (fun _ => 0)))] ++ []) := hD
  refine va_putF (D := D) (ci := 4) (v := .ref q1) (ty := .array .int) (C := RX4) (T := TX4) (N := 5) hx hb hts inlX4 tyX4 tyX4_ok nmX4 hown hK hP hD hS 0 rfl rfl 0 (by decide) (hts (.fieldLink RX4 9 "BuiltIndex$Table" "keys" "[I") (by decide +kernel)) (fun _ h9 => h9) rfl hin rfl (by decide +kernel) rfl rfl (Nat.le_of_ble_eq_true rfl) dX4_init_10 (fun H locs hP hD hS => ?_)
  have hP : va_P D vwCl ([(h0, .inr (4, [.ref q1, .null, .null, .null, .int 0])), (q1, .inl (cy 0, 240, .inl (fun _ => 0)))] ++ []) H := hP
  have hD : va_D A ([(h0, .inr (4, [.ref q1, .null, .null, .null, .int 0])), (q1, .inl (cy 0, 240, .inl (fun _ => 0)))] ++ []) := hD
  refine lv_aload_n hx hb dX4_init_13 rfl (lv_at hl 0 rfl) ?_
  refine lv_sipush (v := 240) hx hb dX4_init_14 (by decide) ?_
  refine nwP (atype := .int) (ty := .int) (n := 240) (N' := 240) (X := [(h0, .inr (4, [.ref q1, .null, .null, .null, .int 0])), (q1, .inl (cy 0, 240, .inl (fun _ => 0)))]) (PL := []) (a0 := (240, .inl (fun _ => 0))) (t0 := 0) hx hb (hts (.arrayClass .int) (by decide +kernel)) rfl hK rfl (fun _ a b => ra_int a b) hP hD hS hA (fun _ => rfl) (by decide) (by decide) (by decide) (Nat.le_of_ble_eq_true rfl) (Nat.le_of_ble_eq_true rfl) dX4_init_17 (fun q2 H hP hD hS => ?_)
  have hP : va_P D vwCl ([(h0, .inr (4, [.ref q1, .null, .null, .null, .int 0])), (q1, .inl (cy 0, 240, .inl (fun _ => 0))), (q2, .inl (cy 0, 240, .inl (fun _ => 0)))] ++ []) H := hP
  have hD : va_D A ([(h0, .inr (4, [.ref q1, .null, .null, .null, .int 0])), (q1, .inl (cy 0, 240, .inl (fun _ => 0))), (q2, .inl (cy 0, 240, .inl (fun _ => 0)))] ++ []) := hD
  refine va_putF (D := D) (ci := 4) (v := .ref q2) (ty := .array .int) (C := RX4) (T := TX4) (N := 5) hx hb hts inlX4 tyX4 tyX4_ok nmX4 hown hK hP hD hS 0 rfl rfl 1 (by decide) (hts (.fieldLink RX4 15 "BuiltIndex$Table" "values" "[I") (by decide +kernel)) (fun _ h9 => h9) rfl hin rfl (by decide +kernel) rfl rfl (Nat.le_of_ble_eq_true rfl) dX4_init_19 (fun H locs hP hD hS => ?_)
  have hP : va_P D vwCl ([(h0, .inr (4, [.ref q1, .ref q2, .null, .null, .int 0])), (q1, .inl (cy 0, 240, .inl (fun _ => 0))), (q2, .inl (cy 0, 240, .inl (fun _ => 0)))] ++ []) H := hP
  have hD : va_D A ([(h0, .inr (4, [.ref q1, .ref q2, .null, .null, .int 0])), (q1, .inl (cy 0, 240, .inl (fun _ => 0))), (q2, .inl (cy 0, 240, .inl (fun _ => 0)))] ++ []) := hD
  refine lv_aload_n hx hb dX4_init_22 rfl (lv_at hl 0 rfl) ?_
  refine lv_sipush (v := 240) hx hb dX4_init_23 (by decide) ?_
  refine nwP (atype := .boolean) (ty := .boolean) (n := 240) (N' := 240) (X := [(h0, .inr (4, [.ref q1, .ref q2, .null, .null, .int 0])), (q1, .inl (cy 0, 240, .inl (fun _ => 0))), (q2, .inl (cy 0, 240, .inl (fun _ => 0)))]) (PL := []) (a0 := (240, .inl (fun _ => 0))) (t0 := 1) hx hb (hts (.arrayClass .boolean) (by decide +kernel)) rfl hK rfl (fun _ a b => ra_bool a b) hP hD hS hA (fun _ => rfl) (by decide) (by decide) (by decide) (Nat.le_of_ble_eq_true rfl) (Nat.le_of_ble_eq_true rfl) dX4_init_26 (fun q3 H hP hD hS => ?_)
  have hP : va_P D vwCl ([(h0, .inr (4, [.ref q1, .ref q2, .null, .null, .int 0])), (q1, .inl (cy 0, 240, .inl (fun _ => 0))), (q2, .inl (cy 0, 240, .inl (fun _ => 0))), (q3, .inl (cy 1, 240, .inl (fun _ => 0)))] ++ []) H := hP
  have hD : va_D A ([(h0, .inr (4, [.ref q1, .ref q2, .null, .null, .int 0])), (q1, .inl (cy 0, 240, .inl (fun _ => 0))), (q2, .inl (cy 0, 240, .inl (fun _ => 0))), (q3, .inl (cy 1, 240, .inl (fun _ => 0)))] ++ []) := hD
  refine va_putF (D := D) (ci := 4) (v := .ref q3) (ty := .array .boolean) (C := RX4) (T := TX4) (N := 5) hx hb hts inlX4 tyX4 tyX4_ok nmX4 hown hK hP hD hS 0 rfl rfl 2 (by decide) (hts (.fieldLink RX4 18 "BuiltIndex$Table" "present" "[Z") (by decide +kernel)) (fun _ h9 => h9) rfl hin rfl (by decide +kernel) rfl rfl (Nat.le_of_ble_eq_true rfl) dX4_init_28 (fun H locs hP hD hS => ?_)
  have hP : va_P D vwCl ([(h0, .inr (4, [.ref q1, .ref q2, .ref q3, .null, .int 0])), (q1, .inl (cy 0, 240, .inl (fun _ => 0))), (q2, .inl (cy 0, 240, .inl (fun _ => 0))), (q3, .inl (cy 1, 240, .inl (fun _ => 0)))] ++ []) H := hP
  have hD : va_D A ([(h0, .inr (4, [.ref q1, .ref q2, .ref q3, .null, .int 0])), (q1, .inl (cy 0, 240, .inl (fun _ => 0))), (q2, .inl (cy 0, 240, .inl (fun _ => 0))), (q3, .inl (cy 1, 240, .inl (fun _ => 0)))] ++ []) := hD
  refine lv_aload_n hx hb dX4_init_31 rfl (lv_at hl 0 rfl) ?_
  refine lv_bipush (v := 20) hx hb dX4_init_32 (by decide) ?_
  refine nwP (atype := .boolean) (ty := .boolean) (n := 20) (N' := 20) (X := [(h0, .inr (4, [.ref q1, .ref q2, .ref q3, .null, .int 0])), (q1, .inl (cy 0, 240, .inl (fun _ => 0))), (q2, .inl (cy 0, 240, .inl (fun _ => 0))), (q3, .inl (cy 1, 240, .inl (fun _ => 0)))]) (PL := []) (a0 := (20, .inl (fun _ => 0))) (t0 := 1) hx hb (hts (.arrayClass .boolean) (by decide +kernel)) rfl hK rfl (fun _ a b => ra_bool a b) hP hD hS hA (fun _ => rfl) (by decide) (by decide) (by decide) (Nat.le_of_ble_eq_true rfl) (Nat.le_of_ble_eq_true rfl) dX4_init_34 (fun q4 H hP hD hS => ?_)
  have hP : va_P D vwCl ([(h0, .inr (4, [.ref q1, .ref q2, .ref q3, .null, .int 0])), (q1, .inl (cy 0, 240, .inl (fun _ => 0))), (q2, .inl (cy 0, 240, .inl (fun _ => 0))), (q3, .inl (cy 1, 240, .inl (fun _ => 0))), (q4, .inl (cy 1, 20, .inl (fun _ => 0)))] ++ []) H := hP
  have hD : va_D A ([(h0, .inr (4, [.ref q1, .ref q2, .ref q3, .null, .int 0])), (q1, .inl (cy 0, 240, .inl (fun _ => 0))), (q2, .inl (cy 0, 240, .inl (fun _ => 0))), (q3, .inl (cy 1, 240, .inl (fun _ => 0))), (q4, .inl (cy 1, 20, .inl (fun _ => 0)))] ++ []) := hD
  refine va_putF (D := D) (ci := 4) (v := .ref q4) (ty := .array .boolean) (C := RX4) (T := TX4) (N := 5) hx hb hts inlX4 tyX4 tyX4_ok nmX4 hown hK hP hD hS 0 rfl rfl 3 (by decide) (hts (.fieldLink RX4 22 "BuiltIndex$Table" "touched" "[Z") (by decide +kernel)) (fun _ h9 => h9) rfl hin rfl (by decide +kernel) rfl rfl (Nat.le_of_ble_eq_true rfl) dX4_init_36 (fun H locs hP hD hS => ?_)
  have hP : va_P D vwCl ([(h0, .inr (4, [.ref q1, .ref q2, .ref q3, .ref q4, .int 0])), (q1, .inl (cy 0, 240, .inl (fun _ => 0))), (q2, .inl (cy 0, 240, .inl (fun _ => 0))), (q3, .inl (cy 1, 240, .inl (fun _ => 0))), (q4, .inl (cy 1, 20, .inl (fun _ => 0)))] ++ []) H := hP
  have hD : va_D A ([(h0, .inr (4, [.ref q1, .ref q2, .ref q3, .ref q4, .int 0])), (q1, .inl (cy 0, 240, .inl (fun _ => 0))), (q2, .inl (cy 0, 240, .inl (fun _ => 0))), (q3, .inl (cy 1, 240, .inl (fun _ => 0))), (q4, .inl (cy 1, 20, .inl (fun _ => 0)))] ++ []) := hD
  refine lv_aload_n hx hb dX4_init_39 rfl (lv_at hl 0 rfl) ?_
  refine lv_iconst (v := 0) hx hb dX4_init_40 (by decide) ?_
  refine va_put (D := D) (ci := 4) (v := .int 0) (ty := .int) (C := RX4) (T := TX4) (N := 5) hx hb hts inlX4 tyX4 tyX4_ok nmX4 hown hK hP hD hS 0 rfl rfl 4 (by decide) (hts (.fieldLink RX4 25 "BuiltIndex$Table" "count" "I") (by decide +kernel)) (fun _ h9 => h9) rfl (by decide +kernel) rfl rfl (Nat.le_of_ble_eq_true rfl) dX4_init_41 (fun H locs hP hD hS => ?_)
  have hP : va_P D vwCl ([(h0, .inr (4, [.ref q1, .ref q2, .ref q3, .ref q4, .int 0])), (q1, .inl (cy 0, 240, .inl (fun _ => 0))), (q2, .inl (cy 0, 240, .inl (fun _ => 0))), (q3, .inl (cy 1, 240, .inl (fun _ => 0))), (q4, .inl (cy 1, 20, .inl (fun _ => 0)))] ++ []) H := hP
  have hD : va_D A ([(h0, .inr (4, [.ref q1, .ref q2, .ref q3, .ref q4, .int 0])), (q1, .inl (cy 0, 240, .inl (fun _ => 0))), (q2, .inl (cy 0, 240, .inl (fun _ => 0))), (q3, .inl (cy 1, 240, .inl (fun _ => 0))), (q4, .inl (cy 1, 20, .inl (fun _ => 0)))] ++ []) := hD
  refine W.widen (k := 4) (n := 740) (Nat.le_of_ble_eq_true rfl) (Nat.le_of_ble_eq_true rfl) ?_
  subst hAe
  exact W.vret hx hb hr (fun t ht hW => ⟨⟨(), rfl, trivial, _, ⟨q1, q2, q3, q4, rfl⟩, by rw [ht]; exact hP, hD⟩, hS.F ht⟩) hS.2.2 dX4_init_44 hlocks
abbrev mX5_init : MD := (yX5_init, cX5_init, 1, none, RX5, { frames := 1, cells := 73, slots := 1152, locals := 12 })
abbrev fX5 (h0 : Nat) : va_W := [(h0, .inr (5, [.null, .null, .null, .null, .null, .int 0, .int 0, .int 0, .null, .null, .int 0, .null, .null]))]
abbrev wX5 (cy : Nat → ClassId) (h0 q1 q2 q3 q4 q5 q6 q7 q8 q9 : Nat) (cA : ClassId) (r : Nat → Nat) : va_W := [(h0, .inr (5, [.ref q1, .ref q2, .ref q3, .ref q4, .ref q5, .int 0, .int 0, .int 0, .ref q6, .ref q7, .int 0, .ref q8, .ref q9])), (q1, .inl (cA, 64, .inr (.inr (.inr (.inr (fun i => if i < 64 then some (r i) else none)))))), (q2, .inl (cy 0, 64, .inl (fun _ => 0))), (q3, .inl (cy 1, 64, .inl (fun _ => 0))), (q4, .inl (cy 1, 64, .inl (fun _ => 0))), (q5, .inl (cy 1, 64, .inl (fun _ => 0))), (q6, .inl (cy 0, 64, .inl (fun _ => 0))), (q7, .inl (cy 0, 64, .inl (fun _ => 0))), (q8, .inl (cy 0, 64, .inl (fun _ => 0))), (q9, .inl (cy 0, 64, .inl (fun _ => 0)))]
def pX5 (D : va_G) (cy : Nat → ClassId) (h0 : Nat) (w1 : va_W) (t : State) : Prop := ∃ (q1 q2 q3 q4 q5 q6 q7 q8 q9 : Nat) (cA : ClassId) (r : Nat → Nat), (∀ i j : Nat, i < 64 → j < 64 → r i = r j → i = j) ∧ w1 = wX5 cy h0 q1 q2 q3 q4 q5 q6 q7 q8 q9 cA r ++ va_pl ([] ++ (List.range 64).map r) (vr_up (fun _ => .inr (0, [])) ((List.range 64).map r) (.inl (cy 2, 9, .inr (.inl (fun _ => 0))))) ∧ va_K D vwCl (ty3 cy ++ [(cA, .array .long)]) t
set_option maxHeartbeats 4000000 in
set_option maxRecDepth 100000 in
theorem kX5_init (l : Launch) (D : va_G) (cy : Nat → ClassId) : Ki l D cy mX5_init 5 [.null, .null, .null, .null, .null, .int 0, .int 0, .int 0, .null, .null, .int 0, .null, .null] (pX5 D cy) := by
  intro h0 sz
  refine Met.ofW (cc := cX5_init) (maxL := 1) (ret := none) (by decide) rfl ?_
  intro p e s m args below meth c s₁ B hml hv
  obtain ⟨rfl, hsz, hP, hK, hD0, hO⟩ := hv
  have hx := B.exec
  have hb := B.bytes
  have hr := B.returns
  have hts0 := atoms_spec (ws := wsM mX5_init) B.pre
  have hts : ∀ w ∈ wsL_law0, w.before #[Value.ref h0] s = true := fun w hw => hts0 w (List.mem_cons_of_mem _ hw)
  have hown : s.vm.findClass RX5 = some m.cls := findClass_of_methodNamed B.named
  have hlocks := B.notSynchronized
  have hin : meth.name = "<init>" := (name_of_methodNamed B.named B.method).1
  subst hsz
  have hD := hD0.self (sz := s.heap.size)
  generalize hAe : va_A (fX5 h0) s.heap.size = A at hD ⊢
  have hA : ∀ q : Nat, s.heap.size ≤ q → A q := fun q h => by rw [← hAe]; exact Or.inr h
  have hS : va_S A s.heap s.heap [] := va_S.rf
  have hP : va_P D vwCl ([(h0, .inr (5, [.null, .null, .null, .null, .null, .int 0, .int 0, .int 0, .null, .null, .int 0, .null, .null]))] ++ []) s.heap := hP
  have hD : va_D A ([(h0, .inr (5, [.null, .null, .null, .null, .null, .int 0, .int 0, .int 0, .null, .null, .int 0, .null, .null]))] ++ []) := hD
  have hl := lv_entry ([.ref h0]) (n := 1) (Nat.le_of_ble_eq_true rfl)
  rw [lg_entry_eq]
  generalize (lg_sl ([.ref h0]) ++ List.replicate (1 - (lg_sl ([.ref h0])).length) Slot.unset).toArray = ls at hl ⊢
  have hl : lv_has ls 1 [(0, .ref h0)] := hl
  refine lv_aload_n hx hb dX5_init_0 rfl (lv_at hl 0 rfl) ?_
  refine W.objInit hx hb hown (hts (.methodLink RX5 3 objectInit) (by decide +kernel)) (hts (.instanceMethod objectInit) (by decide +kernel)) (hts (.code objectInit ⟨#[0xb1]⟩ 1 none) (by decide +kernel)) rfl (by rw [hml]; exact hl.1) rfl dX5_init_1 (Nat.le_of_ble_eq_true rfl) (Nat.le_of_ble_eq_true rfl) ?_
  refine W.eq (g2 := F0 m 4 ls []) rfl ?_
  refine lv_aload_n hx hb dX5_init_4 rfl (lv_at hl 0 rfl) ?_
  refine lv_bipush (v := 64) hx hb dX5_init_5 (by decide) ?_
  refine lv_bipush (v := 9) hx hb dX5_init_7 (by decide) ?_
  refine va_mna (X := [(h0, .inr (5, [.null, .null, .null, .null, .null, .int 0, .int 0, .int 0, .null, .null, .int 0, .null, .null]))]) (L := []) (f := fun _ => .inr (0, [])) (ty := .long) (cy := cy 2) (z := (9, .inr (.inl (fun _ => 0)))) (N' := 64) (K' := 9) hx hb hown (hts (.classLink RX5 9 ("[" ++ (FieldType.array .long).toString)) (by decide +kernel)) hO (hts (.arrayClass .long) (by decide +kernel)) (hK.2 2 _ rfl).2 hK hP hD hS hA (by decide) (by decide) (by decide) (by decide) (by decide) (by decide) (by decide) rfl rfl (Nat.le_of_ble_eq_true rfl) (Nat.le_of_ble_eq_true rfl) (fun _ => rfl) dX5_init_9 (fun q1 r cA H hr1 hr2 hK5 hP hD hS => ?_)
  obtain ⟨PL, ePL⟩ : ∃ z : va_W, z = va_pl ([] ++ (List.range 64).map r) (vr_up (fun _ => .inr (0, [])) ((List.range 64).map r) (.inl (cy 2, 9, .inr (.inl (fun _ => 0))))) := ⟨_, rfl⟩
  rw [← ePL] at hP hD
  have hP : va_P D vwCl ([(h0, .inr (5, [.null, .null, .null, .null, .null, .int 0, .int 0, .int 0, .null, .null, .int 0, .null, .null])), (q1, .inl (cA, 64, .inr (.inr (.inr (.inr (fun i => if i < 64 then some (r i) else none))))))] ++ PL) H := hP
  have hD : va_D A ([(h0, .inr (5, [.null, .null, .null, .null, .null, .int 0, .int 0, .int 0, .null, .null, .int 0, .null, .null])), (q1, .inl (cA, 64, .inr (.inr (.inr (.inr (fun i => if i < 64 then some (r i) else none))))))] ++ PL) := hD
  refine va_putF (D := D) (ci := 5) (v := .ref q1) (ty := .array (.array .long)) (C := RX5) (T := TX5) (N := 13) hx hb hts inlX5 tyX5 tyX5_ok nmX5 hown hK hP hD hS 0 rfl rfl 0 (by decide) (hts (.fieldLink RX5 11 "BuiltIndex$Tree" "held" "[[J") (by decide +kernel)) (fun _ h9 => h9) rfl hin rfl (by decide +kernel) rfl rfl (Nat.le_of_ble_eq_true rfl) dX5_init_13 (fun H locs hP hD hS => ?_)
  have hP : va_P D vwCl ([(h0, .inr (5, [.ref q1, .null, .null, .null, .null, .int 0, .int 0, .int 0, .null, .null, .int 0, .null, .null])), (q1, .inl (cA, 64, .inr (.inr (.inr (.inr (fun i => if i < 64 then some (r i) else none))))))] ++ PL) H := hP
  have hD : va_D A ([(h0, .inr (5, [.ref q1, .null, .null, .null, .null, .int 0, .int 0, .int 0, .null, .null, .int 0, .null, .null])), (q1, .inl (cA, 64, .inr (.inr (.inr (.inr (fun i => if i < 64 then some (r i) else none))))))] ++ PL) := hD
  refine lv_aload_n hx hb dX5_init_16 rfl (lv_at hl 0 rfl) ?_
  refine lv_bipush (v := 64) hx hb dX5_init_17 (by decide) ?_
  refine nwP (atype := .int) (ty := .int) (n := 64) (N' := 64) (X := [(h0, .inr (5, [.ref q1, .null, .null, .null, .null, .int 0, .int 0, .int 0, .null, .null, .int 0, .null, .null])), (q1, .inl (cA, 64, .inr (.inr (.inr (.inr (fun i => if i < 64 then some (r i) else none))))))]) (PL := PL) (a0 := (64, .inl (fun _ => 0))) (t0 := 0) hx hb (hts (.arrayClass .int) (by decide +kernel)) rfl hK rfl (fun _ a b => ra_int a b) hP hD hS hA (fun _ => rfl) (by decide) (by decide) (by decide) (Nat.le_of_ble_eq_true rfl) (Nat.le_of_ble_eq_true rfl) dX5_init_19 (fun q2 H hP hD hS => ?_)
  have hP : va_P D vwCl ([(h0, .inr (5, [.ref q1, .null, .null, .null, .null, .int 0, .int 0, .int 0, .null, .null, .int 0, .null, .null])), (q1, .inl (cA, 64, .inr (.inr (.inr (.inr (fun i => if i < 64 then some (r i) else none)))))), (q2, .inl (cy 0, 64, .inl (fun _ => 0)))] ++ PL) H := hP
  have hD : va_D A ([(h0, .inr (5, [.ref q1, .null, .null, .null, .null, .int 0, .int 0, .int 0, .null, .null, .int 0, .null, .null])), (q1, .inl (cA, 64, .inr (.inr (.inr (.inr (fun i => if i < 64 then some (r i) else none)))))), (q2, .inl (cy 0, 64, .inl (fun _ => 0)))] ++ PL) := hD
  refine va_putF (D := D) (ci := 5) (v := .ref q2) (ty := .array .int) (C := RX5) (T := TX5) (N := 13) hx hb hts inlX5 tyX5 tyX5_ok nmX5 hown hK hP hD hS 0 rfl rfl 1 (by decide) (hts (.fieldLink RX5 16 "BuiltIndex$Tree" "size" "[I") (by decide +kernel)) (fun _ h9 => h9) rfl hin rfl (by decide +kernel) rfl rfl (Nat.le_of_ble_eq_true rfl) dX5_init_21 (fun H locs hP hD hS => ?_)
  have hP : va_P D vwCl ([(h0, .inr (5, [.ref q1, .ref q2, .null, .null, .null, .int 0, .int 0, .int 0, .null, .null, .int 0, .null, .null])), (q1, .inl (cA, 64, .inr (.inr (.inr (.inr (fun i => if i < 64 then some (r i) else none)))))), (q2, .inl (cy 0, 64, .inl (fun _ => 0)))] ++ PL) H := hP
  have hD : va_D A ([(h0, .inr (5, [.ref q1, .ref q2, .null, .null, .null, .int 0, .int 0, .int 0, .null, .null, .int 0, .null, .null])), (q1, .inl (cA, 64, .inr (.inr (.inr (.inr (fun i => if i < 64 then some (r i) else none)))))), (q2, .inl (cy 0, 64, .inl (fun _ => 0)))] ++ PL) := hD
  refine lv_aload_n hx hb dX5_init_24 rfl (lv_at hl 0 rfl) ?_
  refine lv_bipush (v := 64) hx hb dX5_init_25 (by decide) ?_
  refine nwP (atype := .boolean) (ty := .boolean) (n := 64) (N' := 64) (X := [(h0, .inr (5, [.ref q1, .ref q2, .null, .null, .null, .int 0, .int 0, .int 0, .null, .null, .int 0, .null, .null])), (q1, .inl (cA, 64, .inr (.inr (.inr (.inr (fun i => if i < 64 then some (r i) else none)))))), (q2, .inl (cy 0, 64, .inl (fun _ => 0)))]) (PL := PL) (a0 := (64, .inl (fun _ => 0))) (t0 := 1) hx hb (hts (.arrayClass .boolean) (by decide +kernel)) rfl hK rfl (fun _ a b => ra_bool a b) hP hD hS hA (fun _ => rfl) (by decide) (by decide) (by decide) (Nat.le_of_ble_eq_true rfl) (Nat.le_of_ble_eq_true rfl) dX5_init_27 (fun q3 H hP hD hS => ?_)
  have hP : va_P D vwCl ([(h0, .inr (5, [.ref q1, .ref q2, .null, .null, .null, .int 0, .int 0, .int 0, .null, .null, .int 0, .null, .null])), (q1, .inl (cA, 64, .inr (.inr (.inr (.inr (fun i => if i < 64 then some (r i) else none)))))), (q2, .inl (cy 0, 64, .inl (fun _ => 0))), (q3, .inl (cy 1, 64, .inl (fun _ => 0)))] ++ PL) H := hP
  have hD : va_D A ([(h0, .inr (5, [.ref q1, .ref q2, .null, .null, .null, .int 0, .int 0, .int 0, .null, .null, .int 0, .null, .null])), (q1, .inl (cA, 64, .inr (.inr (.inr (.inr (fun i => if i < 64 then some (r i) else none)))))), (q2, .inl (cy 0, 64, .inl (fun _ => 0))), (q3, .inl (cy 1, 64, .inl (fun _ => 0)))] ++ PL) := hD
  refine va_putF (D := D) (ci := 5) (v := .ref q3) (ty := .array .boolean) (C := RX5) (T := TX5) (N := 13) hx hb hts inlX5 tyX5 tyX5_ok nmX5 hown hK hP hD hS 0 rfl rfl 2 (by decide) (hts (.fieldLink RX5 20 "BuiltIndex$Tree" "overNodes" "[Z") (by decide +kernel)) (fun _ h9 => h9) rfl hin rfl (by decide +kernel) rfl rfl (Nat.le_of_ble_eq_true rfl) dX5_init_29 (fun H locs hP hD hS => ?_)
  have hP : va_P D vwCl ([(h0, .inr (5, [.ref q1, .ref q2, .ref q3, .null, .null, .int 0, .int 0, .int 0, .null, .null, .int 0, .null, .null])), (q1, .inl (cA, 64, .inr (.inr (.inr (.inr (fun i => if i < 64 then some (r i) else none)))))), (q2, .inl (cy 0, 64, .inl (fun _ => 0))), (q3, .inl (cy 1, 64, .inl (fun _ => 0)))] ++ PL) H := hP
  have hD : va_D A ([(h0, .inr (5, [.ref q1, .ref q2, .ref q3, .null, .null, .int 0, .int 0, .int 0, .null, .null, .int 0, .null, .null])), (q1, .inl (cA, 64, .inr (.inr (.inr (.inr (fun i => if i < 64 then some (r i) else none)))))), (q2, .inl (cy 0, 64, .inl (fun _ => 0))), (q3, .inl (cy 1, 64, .inl (fun _ => 0)))] ++ PL) := hD
  refine lv_aload_n hx hb dX5_init_32 rfl (lv_at hl 0 rfl) ?_
  refine lv_bipush (v := 64) hx hb dX5_init_33 (by decide) ?_
  refine nwP (atype := .boolean) (ty := .boolean) (n := 64) (N' := 64) (X := [(h0, .inr (5, [.ref q1, .ref q2, .ref q3, .null, .null, .int 0, .int 0, .int 0, .null, .null, .int 0, .null, .null])), (q1, .inl (cA, 64, .inr (.inr (.inr (.inr (fun i => if i < 64 then some (r i) else none)))))), (q2, .inl (cy 0, 64, .inl (fun _ => 0))), (q3, .inl (cy 1, 64, .inl (fun _ => 0)))]) (PL := PL) (a0 := (64, .inl (fun _ => 0))) (t0 := 1) hx hb (hts (.arrayClass .boolean) (by decide +kernel)) rfl hK rfl (fun _ a b => ra_bool a b) hP hD hS hA (fun _ => rfl) (by decide) (by decide) (by decide) (Nat.le_of_ble_eq_true rfl) (Nat.le_of_ble_eq_true rfl) dX5_init_35 (fun q4 H hP hD hS => ?_)
  have hP : va_P D vwCl ([(h0, .inr (5, [.ref q1, .ref q2, .ref q3, .null, .null, .int 0, .int 0, .int 0, .null, .null, .int 0, .null, .null])), (q1, .inl (cA, 64, .inr (.inr (.inr (.inr (fun i => if i < 64 then some (r i) else none)))))), (q2, .inl (cy 0, 64, .inl (fun _ => 0))), (q3, .inl (cy 1, 64, .inl (fun _ => 0))), (q4, .inl (cy 1, 64, .inl (fun _ => 0)))] ++ PL) H := hP
  have hD : va_D A ([(h0, .inr (5, [.ref q1, .ref q2, .ref q3, .null, .null, .int 0, .int 0, .int 0, .null, .null, .int 0, .null, .null])), (q1, .inl (cA, 64, .inr (.inr (.inr (.inr (fun i => if i < 64 then some (r i) else none)))))), (q2, .inl (cy 0, 64, .inl (fun _ => 0))), (q3, .inl (cy 1, 64, .inl (fun _ => 0))), (q4, .inl (cy 1, 64, .inl (fun _ => 0)))] ++ PL) := hD
  refine va_putF (D := D) (ci := 5) (v := .ref q4) (ty := .array .boolean) (C := RX5) (T := TX5) (N := 13) hx hb hts inlX5 tyX5 tyX5_ok nmX5 hown hK hP hD hS 0 rfl rfl 3 (by decide) (hts (.fieldLink RX5 24 "BuiltIndex$Tree" "used" "[Z") (by decide +kernel)) (fun _ h9 => h9) rfl hin rfl (by decide +kernel) rfl rfl (Nat.le_of_ble_eq_true rfl) dX5_init_37 (fun H locs hP hD hS => ?_)
  have hP : va_P D vwCl ([(h0, .inr (5, [.ref q1, .ref q2, .ref q3, .ref q4, .null, .int 0, .int 0, .int 0, .null, .null, .int 0, .null, .null])), (q1, .inl (cA, 64, .inr (.inr (.inr (.inr (fun i => if i < 64 then some (r i) else none)))))), (q2, .inl (cy 0, 64, .inl (fun _ => 0))), (q3, .inl (cy 1, 64, .inl (fun _ => 0))), (q4, .inl (cy 1, 64, .inl (fun _ => 0)))] ++ PL) H := hP
  have hD : va_D A ([(h0, .inr (5, [.ref q1, .ref q2, .ref q3, .ref q4, .null, .int 0, .int 0, .int 0, .null, .null, .int 0, .null, .null])), (q1, .inl (cA, 64, .inr (.inr (.inr (.inr (fun i => if i < 64 then some (r i) else none)))))), (q2, .inl (cy 0, 64, .inl (fun _ => 0))), (q3, .inl (cy 1, 64, .inl (fun _ => 0))), (q4, .inl (cy 1, 64, .inl (fun _ => 0)))] ++ PL) := hD
  refine lv_aload_n hx hb dX5_init_40 rfl (lv_at hl 0 rfl) ?_
  refine lv_bipush (v := 64) hx hb dX5_init_41 (by decide) ?_
  refine nwP (atype := .boolean) (ty := .boolean) (n := 64) (N' := 64) (X := [(h0, .inr (5, [.ref q1, .ref q2, .ref q3, .ref q4, .null, .int 0, .int 0, .int 0, .null, .null, .int 0, .null, .null])), (q1, .inl (cA, 64, .inr (.inr (.inr (.inr (fun i => if i < 64 then some (r i) else none)))))), (q2, .inl (cy 0, 64, .inl (fun _ => 0))), (q3, .inl (cy 1, 64, .inl (fun _ => 0))), (q4, .inl (cy 1, 64, .inl (fun _ => 0)))]) (PL := PL) (a0 := (64, .inl (fun _ => 0))) (t0 := 1) hx hb (hts (.arrayClass .boolean) (by decide +kernel)) rfl hK rfl (fun _ a b => ra_bool a b) hP hD hS hA (fun _ => rfl) (by decide) (by decide) (by decide) (Nat.le_of_ble_eq_true rfl) (Nat.le_of_ble_eq_true rfl) dX5_init_43 (fun q5 H hP hD hS => ?_)
  have hP : va_P D vwCl ([(h0, .inr (5, [.ref q1, .ref q2, .ref q3, .ref q4, .null, .int 0, .int 0, .int 0, .null, .null, .int 0, .null, .null])), (q1, .inl (cA, 64, .inr (.inr (.inr (.inr (fun i => if i < 64 then some (r i) else none)))))), (q2, .inl (cy 0, 64, .inl (fun _ => 0))), (q3, .inl (cy 1, 64, .inl (fun _ => 0))), (q4, .inl (cy 1, 64, .inl (fun _ => 0))), (q5, .inl (cy 1, 64, .inl (fun _ => 0)))] ++ PL) H := hP
  have hD : va_D A ([(h0, .inr (5, [.ref q1, .ref q2, .ref q3, .ref q4, .null, .int 0, .int 0, .int 0, .null, .null, .int 0, .null, .null])), (q1, .inl (cA, 64, .inr (.inr (.inr (.inr (fun i => if i < 64 then some (r i) else none)))))), (q2, .inl (cy 0, 64, .inl (fun _ => 0))), (q3, .inl (cy 1, 64, .inl (fun _ => 0))), (q4, .inl (cy 1, 64, .inl (fun _ => 0))), (q5, .inl (cy 1, 64, .inl (fun _ => 0)))] ++ PL) := hD
  refine va_putF (D := D) (ci := 5) (v := .ref q5) (ty := .array .boolean) (C := RX5) (T := TX5) (N := 13) hx hb hts inlX5 tyX5 tyX5_ok nmX5 hown hK hP hD hS 0 rfl rfl 4 (by decide) (hts (.fieldLink RX5 27 "BuiltIndex$Tree" "touched" "[Z") (by decide +kernel)) (fun _ h9 => h9) rfl hin rfl (by decide +kernel) rfl rfl (Nat.le_of_ble_eq_true rfl) dX5_init_45 (fun H locs hP hD hS => ?_)
  have hP : va_P D vwCl ([(h0, .inr (5, [.ref q1, .ref q2, .ref q3, .ref q4, .ref q5, .int 0, .int 0, .int 0, .null, .null, .int 0, .null, .null])), (q1, .inl (cA, 64, .inr (.inr (.inr (.inr (fun i => if i < 64 then some (r i) else none)))))), (q2, .inl (cy 0, 64, .inl (fun _ => 0))), (q3, .inl (cy 1, 64, .inl (fun _ => 0))), (q4, .inl (cy 1, 64, .inl (fun _ => 0))), (q5, .inl (cy 1, 64, .inl (fun _ => 0)))] ++ PL) H := hP
  have hD : va_D A ([(h0, .inr (5, [.ref q1, .ref q2, .ref q3, .ref q4, .ref q5, .int 0, .int 0, .int 0, .null, .null, .int 0, .null, .null])), (q1, .inl (cA, 64, .inr (.inr (.inr (.inr (fun i => if i < 64 then some (r i) else none)))))), (q2, .inl (cy 0, 64, .inl (fun _ => 0))), (q3, .inl (cy 1, 64, .inl (fun _ => 0))), (q4, .inl (cy 1, 64, .inl (fun _ => 0))), (q5, .inl (cy 1, 64, .inl (fun _ => 0)))] ++ PL) := hD
  refine lv_aload_n hx hb dX5_init_48 rfl (lv_at hl 0 rfl) ?_
  refine lv_iconst (v := 0) hx hb dX5_init_49 (by decide) ?_
  refine va_put (D := D) (ci := 5) (v := .int 0) (ty := .int) (C := RX5) (T := TX5) (N := 13) hx hb hts inlX5 tyX5 tyX5_ok nmX5 hown hK hP hD hS 0 rfl rfl 5 (by decide) (hts (.fieldLink RX5 30 "BuiltIndex$Tree" "nodeCount" "I") (by decide +kernel)) (fun _ h9 => h9) rfl (by decide +kernel) rfl rfl (Nat.le_of_ble_eq_true rfl) dX5_init_50 (fun H locs hP hD hS => ?_)
  have hP : va_P D vwCl ([(h0, .inr (5, [.ref q1, .ref q2, .ref q3, .ref q4, .ref q5, .int 0, .int 0, .int 0, .null, .null, .int 0, .null, .null])), (q1, .inl (cA, 64, .inr (.inr (.inr (.inr (fun i => if i < 64 then some (r i) else none)))))), (q2, .inl (cy 0, 64, .inl (fun _ => 0))), (q3, .inl (cy 1, 64, .inl (fun _ => 0))), (q4, .inl (cy 1, 64, .inl (fun _ => 0))), (q5, .inl (cy 1, 64, .inl (fun _ => 0)))] ++ PL) H := hP
  have hD : va_D A ([(h0, .inr (5, [.ref q1, .ref q2, .ref q3, .ref q4, .ref q5, .int 0, .int 0, .int 0, .null, .null, .int 0, .null, .null])), (q1, .inl (cA, 64, .inr (.inr (.inr (.inr (fun i => if i < 64 then some (r i) else none)))))), (q2, .inl (cy 0, 64, .inl (fun _ => 0))), (q3, .inl (cy 1, 64, .inl (fun _ => 0))), (q4, .inl (cy 1, 64, .inl (fun _ => 0))), (q5, .inl (cy 1, 64, .inl (fun _ => 0)))] ++ PL) := hD
  refine lv_aload_n hx hb dX5_init_53 rfl (lv_at hl 0 rfl) ?_
  refine lv_iconst (v := 0) hx hb dX5_init_54 (by decide) ?_
  refine va_put (D := D) (ci := 5) (v := .int 0) (ty := .int) (C := RX5) (T := TX5) (N := 13) hx hb hts inlX5 tyX5 tyX5_ok nmX5 hown hK hP hD hS 0 rfl rfl 6 (by decide) (hts (.fieldLink RX5 34 "BuiltIndex$Tree" "entryCount" "I") (by decide +kernel)) (fun _ h9 => h9) rfl (by decide +kernel) rfl rfl (Nat.le_of_ble_eq_true rfl) dX5_init_55 (fun H locs hP hD hS => ?_)
  have hP : va_P D vwCl ([(h0, .inr (5, [.ref q1, .ref q2, .ref q3, .ref q4, .ref q5, .int 0, .int 0, .int 0, .null, .null, .int 0, .null, .null])), (q1, .inl (cA, 64, .inr (.inr (.inr (.inr (fun i => if i < 64 then some (r i) else none)))))), (q2, .inl (cy 0, 64, .inl (fun _ => 0))), (q3, .inl (cy 1, 64, .inl (fun _ => 0))), (q4, .inl (cy 1, 64, .inl (fun _ => 0))), (q5, .inl (cy 1, 64, .inl (fun _ => 0)))] ++ PL) H := hP
  have hD : va_D A ([(h0, .inr (5, [.ref q1, .ref q2, .ref q3, .ref q4, .ref q5, .int 0, .int 0, .int 0, .null, .null, .int 0, .null, .null])), (q1, .inl (cA, 64, .inr (.inr (.inr (.inr (fun i => if i < 64 then some (r i) else none)))))), (q2, .inl (cy 0, 64, .inl (fun _ => 0))), (q3, .inl (cy 1, 64, .inl (fun _ => 0))), (q4, .inl (cy 1, 64, .inl (fun _ => 0))), (q5, .inl (cy 1, 64, .inl (fun _ => 0)))] ++ PL) := hD
  refine lv_aload_n hx hb dX5_init_58 rfl (lv_at hl 0 rfl) ?_
  refine lv_iconst (v := 0) hx hb dX5_init_59 (by decide) ?_
  refine va_put (D := D) (ci := 5) (v := .int 0) (ty := .int) (C := RX5) (T := TX5) (N := 13) hx hb hts inlX5 tyX5 tyX5_ok nmX5 hown hK hP hD hS 0 rfl rfl 7 (by decide) (hts (.fieldLink RX5 37 "BuiltIndex$Tree" "root" "I") (by decide +kernel)) (fun _ h9 => h9) rfl (by decide +kernel) rfl rfl (Nat.le_of_ble_eq_true rfl) dX5_init_60 (fun H locs hP hD hS => ?_)
  have hP : va_P D vwCl ([(h0, .inr (5, [.ref q1, .ref q2, .ref q3, .ref q4, .ref q5, .int 0, .int 0, .int 0, .null, .null, .int 0, .null, .null])), (q1, .inl (cA, 64, .inr (.inr (.inr (.inr (fun i => if i < 64 then some (r i) else none)))))), (q2, .inl (cy 0, 64, .inl (fun _ => 0))), (q3, .inl (cy 1, 64, .inl (fun _ => 0))), (q4, .inl (cy 1, 64, .inl (fun _ => 0))), (q5, .inl (cy 1, 64, .inl (fun _ => 0)))] ++ PL) H := hP
  have hD : va_D A ([(h0, .inr (5, [.ref q1, .ref q2, .ref q3, .ref q4, .ref q5, .int 0, .int 0, .int 0, .null, .null, .int 0, .null, .null])), (q1, .inl (cA, 64, .inr (.inr (.inr (.inr (fun i => if i < 64 then some (r i) else none)))))), (q2, .inl (cy 0, 64, .inl (fun _ => 0))), (q3, .inl (cy 1, 64, .inl (fun _ => 0))), (q4, .inl (cy 1, 64, .inl (fun _ => 0))), (q5, .inl (cy 1, 64, .inl (fun _ => 0)))] ++ PL) := hD
  refine lv_aload_n hx hb dX5_init_63 rfl (lv_at hl 0 rfl) ?_
  refine lv_bipush (v := 64) hx hb dX5_init_64 (by decide) ?_
  refine nwP (atype := .int) (ty := .int) (n := 64) (N' := 64) (X := [(h0, .inr (5, [.ref q1, .ref q2, .ref q3, .ref q4, .ref q5, .int 0, .int 0, .int 0, .null, .null, .int 0, .null, .null])), (q1, .inl (cA, 64, .inr (.inr (.inr (.inr (fun i => if i < 64 then some (r i) else none)))))), (q2, .inl (cy 0, 64, .inl (fun _ => 0))), (q3, .inl (cy 1, 64, .inl (fun _ => 0))), (q4, .inl (cy 1, 64, .inl (fun _ => 0))), (q5, .inl (cy 1, 64, .inl (fun _ => 0)))]) (PL := PL) (a0 := (64, .inl (fun _ => 0))) (t0 := 0) hx hb (hts (.arrayClass .int) (by decide +kernel)) rfl hK rfl (fun _ a b => ra_int a b) hP hD hS hA (fun _ => rfl) (by decide) (by decide) (by decide) (Nat.le_of_ble_eq_true rfl) (Nat.le_of_ble_eq_true rfl) dX5_init_66 (fun q6 H hP hD hS => ?_)
  have hP : va_P D vwCl ([(h0, .inr (5, [.ref q1, .ref q2, .ref q3, .ref q4, .ref q5, .int 0, .int 0, .int 0, .null, .null, .int 0, .null, .null])), (q1, .inl (cA, 64, .inr (.inr (.inr (.inr (fun i => if i < 64 then some (r i) else none)))))), (q2, .inl (cy 0, 64, .inl (fun _ => 0))), (q3, .inl (cy 1, 64, .inl (fun _ => 0))), (q4, .inl (cy 1, 64, .inl (fun _ => 0))), (q5, .inl (cy 1, 64, .inl (fun _ => 0))), (q6, .inl (cy 0, 64, .inl (fun _ => 0)))] ++ PL) H := hP
  have hD : va_D A ([(h0, .inr (5, [.ref q1, .ref q2, .ref q3, .ref q4, .ref q5, .int 0, .int 0, .int 0, .null, .null, .int 0, .null, .null])), (q1, .inl (cA, 64, .inr (.inr (.inr (.inr (fun i => if i < 64 then some (r i) else none)))))), (q2, .inl (cy 0, 64, .inl (fun _ => 0))), (q3, .inl (cy 1, 64, .inl (fun _ => 0))), (q4, .inl (cy 1, 64, .inl (fun _ => 0))), (q5, .inl (cy 1, 64, .inl (fun _ => 0))), (q6, .inl (cy 0, 64, .inl (fun _ => 0)))] ++ PL) := hD
  refine va_putF (D := D) (ci := 5) (v := .ref q6) (ty := .array .int) (C := RX5) (T := TX5) (N := 13) hx hb hts inlX5 tyX5 tyX5_ok nmX5 hown hK hP hD hS 0 rfl rfl 8 (by decide) (hts (.fieldLink RX5 40 "BuiltIndex$Tree" "way" "[I") (by decide +kernel)) (fun _ h9 => h9) rfl hin rfl (by decide +kernel) rfl rfl (Nat.le_of_ble_eq_true rfl) dX5_init_68 (fun H locs hP hD hS => ?_)
  have hP : va_P D vwCl ([(h0, .inr (5, [.ref q1, .ref q2, .ref q3, .ref q4, .ref q5, .int 0, .int 0, .int 0, .ref q6, .null, .int 0, .null, .null])), (q1, .inl (cA, 64, .inr (.inr (.inr (.inr (fun i => if i < 64 then some (r i) else none)))))), (q2, .inl (cy 0, 64, .inl (fun _ => 0))), (q3, .inl (cy 1, 64, .inl (fun _ => 0))), (q4, .inl (cy 1, 64, .inl (fun _ => 0))), (q5, .inl (cy 1, 64, .inl (fun _ => 0))), (q6, .inl (cy 0, 64, .inl (fun _ => 0)))] ++ PL) H := hP
  have hD : va_D A ([(h0, .inr (5, [.ref q1, .ref q2, .ref q3, .ref q4, .ref q5, .int 0, .int 0, .int 0, .ref q6, .null, .int 0, .null, .null])), (q1, .inl (cA, 64, .inr (.inr (.inr (.inr (fun i => if i < 64 then some (r i) else none)))))), (q2, .inl (cy 0, 64, .inl (fun _ => 0))), (q3, .inl (cy 1, 64, .inl (fun _ => 0))), (q4, .inl (cy 1, 64, .inl (fun _ => 0))), (q5, .inl (cy 1, 64, .inl (fun _ => 0))), (q6, .inl (cy 0, 64, .inl (fun _ => 0)))] ++ PL) := hD
  refine lv_aload_n hx hb dX5_init_71 rfl (lv_at hl 0 rfl) ?_
  refine lv_bipush (v := 64) hx hb dX5_init_72 (by decide) ?_
  refine nwP (atype := .int) (ty := .int) (n := 64) (N' := 64) (X := [(h0, .inr (5, [.ref q1, .ref q2, .ref q3, .ref q4, .ref q5, .int 0, .int 0, .int 0, .ref q6, .null, .int 0, .null, .null])), (q1, .inl (cA, 64, .inr (.inr (.inr (.inr (fun i => if i < 64 then some (r i) else none)))))), (q2, .inl (cy 0, 64, .inl (fun _ => 0))), (q3, .inl (cy 1, 64, .inl (fun _ => 0))), (q4, .inl (cy 1, 64, .inl (fun _ => 0))), (q5, .inl (cy 1, 64, .inl (fun _ => 0))), (q6, .inl (cy 0, 64, .inl (fun _ => 0)))]) (PL := PL) (a0 := (64, .inl (fun _ => 0))) (t0 := 0) hx hb (hts (.arrayClass .int) (by decide +kernel)) rfl hK rfl (fun _ a b => ra_int a b) hP hD hS hA (fun _ => rfl) (by decide) (by decide) (by decide) (Nat.le_of_ble_eq_true rfl) (Nat.le_of_ble_eq_true rfl) dX5_init_74 (fun q7 H hP hD hS => ?_)
  have hP : va_P D vwCl ([(h0, .inr (5, [.ref q1, .ref q2, .ref q3, .ref q4, .ref q5, .int 0, .int 0, .int 0, .ref q6, .null, .int 0, .null, .null])), (q1, .inl (cA, 64, .inr (.inr (.inr (.inr (fun i => if i < 64 then some (r i) else none)))))), (q2, .inl (cy 0, 64, .inl (fun _ => 0))), (q3, .inl (cy 1, 64, .inl (fun _ => 0))), (q4, .inl (cy 1, 64, .inl (fun _ => 0))), (q5, .inl (cy 1, 64, .inl (fun _ => 0))), (q6, .inl (cy 0, 64, .inl (fun _ => 0))), (q7, .inl (cy 0, 64, .inl (fun _ => 0)))] ++ PL) H := hP
  have hD : va_D A ([(h0, .inr (5, [.ref q1, .ref q2, .ref q3, .ref q4, .ref q5, .int 0, .int 0, .int 0, .ref q6, .null, .int 0, .null, .null])), (q1, .inl (cA, 64, .inr (.inr (.inr (.inr (fun i => if i < 64 then some (r i) else none)))))), (q2, .inl (cy 0, 64, .inl (fun _ => 0))), (q3, .inl (cy 1, 64, .inl (fun _ => 0))), (q4, .inl (cy 1, 64, .inl (fun _ => 0))), (q5, .inl (cy 1, 64, .inl (fun _ => 0))), (q6, .inl (cy 0, 64, .inl (fun _ => 0))), (q7, .inl (cy 0, 64, .inl (fun _ => 0)))] ++ PL) := hD
  refine va_putF (D := D) (ci := 5) (v := .ref q7) (ty := .array .int) (C := RX5) (T := TX5) (N := 13) hx hb hts inlX5 tyX5 tyX5_ok nmX5 hown hK hP hD hS 0 rfl rfl 9 (by decide) (hts (.fieldLink RX5 43 "BuiltIndex$Tree" "wayAt" "[I") (by decide +kernel)) (fun _ h9 => h9) rfl hin rfl (by decide +kernel) rfl rfl (Nat.le_of_ble_eq_true rfl) dX5_init_76 (fun H locs hP hD hS => ?_)
  have hP : va_P D vwCl ([(h0, .inr (5, [.ref q1, .ref q2, .ref q3, .ref q4, .ref q5, .int 0, .int 0, .int 0, .ref q6, .ref q7, .int 0, .null, .null])), (q1, .inl (cA, 64, .inr (.inr (.inr (.inr (fun i => if i < 64 then some (r i) else none)))))), (q2, .inl (cy 0, 64, .inl (fun _ => 0))), (q3, .inl (cy 1, 64, .inl (fun _ => 0))), (q4, .inl (cy 1, 64, .inl (fun _ => 0))), (q5, .inl (cy 1, 64, .inl (fun _ => 0))), (q6, .inl (cy 0, 64, .inl (fun _ => 0))), (q7, .inl (cy 0, 64, .inl (fun _ => 0)))] ++ PL) H := hP
  have hD : va_D A ([(h0, .inr (5, [.ref q1, .ref q2, .ref q3, .ref q4, .ref q5, .int 0, .int 0, .int 0, .ref q6, .ref q7, .int 0, .null, .null])), (q1, .inl (cA, 64, .inr (.inr (.inr (.inr (fun i => if i < 64 then some (r i) else none)))))), (q2, .inl (cy 0, 64, .inl (fun _ => 0))), (q3, .inl (cy 1, 64, .inl (fun _ => 0))), (q4, .inl (cy 1, 64, .inl (fun _ => 0))), (q5, .inl (cy 1, 64, .inl (fun _ => 0))), (q6, .inl (cy 0, 64, .inl (fun _ => 0))), (q7, .inl (cy 0, 64, .inl (fun _ => 0)))] ++ PL) := hD
  refine lv_aload_n hx hb dX5_init_79 rfl (lv_at hl 0 rfl) ?_
  refine lv_iconst (v := 0) hx hb dX5_init_80 (by decide) ?_
  refine va_put (D := D) (ci := 5) (v := .int 0) (ty := .int) (C := RX5) (T := TX5) (N := 13) hx hb hts inlX5 tyX5 tyX5_ok nmX5 hown hK hP hD hS 0 rfl rfl 10 (by decide) (hts (.fieldLink RX5 46 "BuiltIndex$Tree" "wayEnd" "I") (by decide +kernel)) (fun _ h9 => h9) rfl (by decide +kernel) rfl rfl (Nat.le_of_ble_eq_true rfl) dX5_init_81 (fun H locs hP hD hS => ?_)
  have hP : va_P D vwCl ([(h0, .inr (5, [.ref q1, .ref q2, .ref q3, .ref q4, .ref q5, .int 0, .int 0, .int 0, .ref q6, .ref q7, .int 0, .null, .null])), (q1, .inl (cA, 64, .inr (.inr (.inr (.inr (fun i => if i < 64 then some (r i) else none)))))), (q2, .inl (cy 0, 64, .inl (fun _ => 0))), (q3, .inl (cy 1, 64, .inl (fun _ => 0))), (q4, .inl (cy 1, 64, .inl (fun _ => 0))), (q5, .inl (cy 1, 64, .inl (fun _ => 0))), (q6, .inl (cy 0, 64, .inl (fun _ => 0))), (q7, .inl (cy 0, 64, .inl (fun _ => 0)))] ++ PL) H := hP
  have hD : va_D A ([(h0, .inr (5, [.ref q1, .ref q2, .ref q3, .ref q4, .ref q5, .int 0, .int 0, .int 0, .ref q6, .ref q7, .int 0, .null, .null])), (q1, .inl (cA, 64, .inr (.inr (.inr (.inr (fun i => if i < 64 then some (r i) else none)))))), (q2, .inl (cy 0, 64, .inl (fun _ => 0))), (q3, .inl (cy 1, 64, .inl (fun _ => 0))), (q4, .inl (cy 1, 64, .inl (fun _ => 0))), (q5, .inl (cy 1, 64, .inl (fun _ => 0))), (q6, .inl (cy 0, 64, .inl (fun _ => 0))), (q7, .inl (cy 0, 64, .inl (fun _ => 0)))] ++ PL) := hD
  refine lv_aload_n hx hb dX5_init_84 rfl (lv_at hl 0 rfl) ?_
  refine lv_bipush (v := 64) hx hb dX5_init_85 (by decide) ?_
  refine nwP (atype := .int) (ty := .int) (n := 64) (N' := 64) (X := [(h0, .inr (5, [.ref q1, .ref q2, .ref q3, .ref q4, .ref q5, .int 0, .int 0, .int 0, .ref q6, .ref q7, .int 0, .null, .null])), (q1, .inl (cA, 64, .inr (.inr (.inr (.inr (fun i => if i < 64 then some (r i) else none)))))), (q2, .inl (cy 0, 64, .inl (fun _ => 0))), (q3, .inl (cy 1, 64, .inl (fun _ => 0))), (q4, .inl (cy 1, 64, .inl (fun _ => 0))), (q5, .inl (cy 1, 64, .inl (fun _ => 0))), (q6, .inl (cy 0, 64, .inl (fun _ => 0))), (q7, .inl (cy 0, 64, .inl (fun _ => 0)))]) (PL := PL) (a0 := (64, .inl (fun _ => 0))) (t0 := 0) hx hb (hts (.arrayClass .int) (by decide +kernel)) rfl hK rfl (fun _ a b => ra_int a b) hP hD hS hA (fun _ => rfl) (by decide) (by decide) (by decide) (Nat.le_of_ble_eq_true rfl) (Nat.le_of_ble_eq_true rfl) dX5_init_87 (fun q8 H hP hD hS => ?_)
  have hP : va_P D vwCl ([(h0, .inr (5, [.ref q1, .ref q2, .ref q3, .ref q4, .ref q5, .int 0, .int 0, .int 0, .ref q6, .ref q7, .int 0, .null, .null])), (q1, .inl (cA, 64, .inr (.inr (.inr (.inr (fun i => if i < 64 then some (r i) else none)))))), (q2, .inl (cy 0, 64, .inl (fun _ => 0))), (q3, .inl (cy 1, 64, .inl (fun _ => 0))), (q4, .inl (cy 1, 64, .inl (fun _ => 0))), (q5, .inl (cy 1, 64, .inl (fun _ => 0))), (q6, .inl (cy 0, 64, .inl (fun _ => 0))), (q7, .inl (cy 0, 64, .inl (fun _ => 0))), (q8, .inl (cy 0, 64, .inl (fun _ => 0)))] ++ PL) H := hP
  have hD : va_D A ([(h0, .inr (5, [.ref q1, .ref q2, .ref q3, .ref q4, .ref q5, .int 0, .int 0, .int 0, .ref q6, .ref q7, .int 0, .null, .null])), (q1, .inl (cA, 64, .inr (.inr (.inr (.inr (fun i => if i < 64 then some (r i) else none)))))), (q2, .inl (cy 0, 64, .inl (fun _ => 0))), (q3, .inl (cy 1, 64, .inl (fun _ => 0))), (q4, .inl (cy 1, 64, .inl (fun _ => 0))), (q5, .inl (cy 1, 64, .inl (fun _ => 0))), (q6, .inl (cy 0, 64, .inl (fun _ => 0))), (q7, .inl (cy 0, 64, .inl (fun _ => 0))), (q8, .inl (cy 0, 64, .inl (fun _ => 0)))] ++ PL) := hD
  refine va_putF (D := D) (ci := 5) (v := .ref q8) (ty := .array .int) (C := RX5) (T := TX5) (N := 13) hx hb hts inlX5 tyX5 tyX5_ok nmX5 hown hK hP hD hS 0 rfl rfl 11 (by decide) (hts (.fieldLink RX5 49 "BuiltIndex$Tree" "listed" "[I") (by decide +kernel)) (fun _ h9 => h9) rfl hin rfl (by decide +kernel) rfl rfl (Nat.le_of_ble_eq_true rfl) dX5_init_89 (fun H locs hP hD hS => ?_)
  have hP : va_P D vwCl ([(h0, .inr (5, [.ref q1, .ref q2, .ref q3, .ref q4, .ref q5, .int 0, .int 0, .int 0, .ref q6, .ref q7, .int 0, .ref q8, .null])), (q1, .inl (cA, 64, .inr (.inr (.inr (.inr (fun i => if i < 64 then some (r i) else none)))))), (q2, .inl (cy 0, 64, .inl (fun _ => 0))), (q3, .inl (cy 1, 64, .inl (fun _ => 0))), (q4, .inl (cy 1, 64, .inl (fun _ => 0))), (q5, .inl (cy 1, 64, .inl (fun _ => 0))), (q6, .inl (cy 0, 64, .inl (fun _ => 0))), (q7, .inl (cy 0, 64, .inl (fun _ => 0))), (q8, .inl (cy 0, 64, .inl (fun _ => 0)))] ++ PL) H := hP
  have hD : va_D A ([(h0, .inr (5, [.ref q1, .ref q2, .ref q3, .ref q4, .ref q5, .int 0, .int 0, .int 0, .ref q6, .ref q7, .int 0, .ref q8, .null])), (q1, .inl (cA, 64, .inr (.inr (.inr (.inr (fun i => if i < 64 then some (r i) else none)))))), (q2, .inl (cy 0, 64, .inl (fun _ => 0))), (q3, .inl (cy 1, 64, .inl (fun _ => 0))), (q4, .inl (cy 1, 64, .inl (fun _ => 0))), (q5, .inl (cy 1, 64, .inl (fun _ => 0))), (q6, .inl (cy 0, 64, .inl (fun _ => 0))), (q7, .inl (cy 0, 64, .inl (fun _ => 0))), (q8, .inl (cy 0, 64, .inl (fun _ => 0)))] ++ PL) := hD
  refine lv_aload_n hx hb dX5_init_92 rfl (lv_at hl 0 rfl) ?_
  refine lv_bipush (v := 64) hx hb dX5_init_93 (by decide) ?_
  refine nwP (atype := .int) (ty := .int) (n := 64) (N' := 64) (X := [(h0, .inr (5, [.ref q1, .ref q2, .ref q3, .ref q4, .ref q5, .int 0, .int 0, .int 0, .ref q6, .ref q7, .int 0, .ref q8, .null])), (q1, .inl (cA, 64, .inr (.inr (.inr (.inr (fun i => if i < 64 then some (r i) else none)))))), (q2, .inl (cy 0, 64, .inl (fun _ => 0))), (q3, .inl (cy 1, 64, .inl (fun _ => 0))), (q4, .inl (cy 1, 64, .inl (fun _ => 0))), (q5, .inl (cy 1, 64, .inl (fun _ => 0))), (q6, .inl (cy 0, 64, .inl (fun _ => 0))), (q7, .inl (cy 0, 64, .inl (fun _ => 0))), (q8, .inl (cy 0, 64, .inl (fun _ => 0)))]) (PL := PL) (a0 := (64, .inl (fun _ => 0))) (t0 := 0) hx hb (hts (.arrayClass .int) (by decide +kernel)) rfl hK rfl (fun _ a b => ra_int a b) hP hD hS hA (fun _ => rfl) (by decide) (by decide) (by decide) (Nat.le_of_ble_eq_true rfl) (Nat.le_of_ble_eq_true rfl) dX5_init_95 (fun q9 H hP hD hS => ?_)
  have hP : va_P D vwCl ([(h0, .inr (5, [.ref q1, .ref q2, .ref q3, .ref q4, .ref q5, .int 0, .int 0, .int 0, .ref q6, .ref q7, .int 0, .ref q8, .null])), (q1, .inl (cA, 64, .inr (.inr (.inr (.inr (fun i => if i < 64 then some (r i) else none)))))), (q2, .inl (cy 0, 64, .inl (fun _ => 0))), (q3, .inl (cy 1, 64, .inl (fun _ => 0))), (q4, .inl (cy 1, 64, .inl (fun _ => 0))), (q5, .inl (cy 1, 64, .inl (fun _ => 0))), (q6, .inl (cy 0, 64, .inl (fun _ => 0))), (q7, .inl (cy 0, 64, .inl (fun _ => 0))), (q8, .inl (cy 0, 64, .inl (fun _ => 0))), (q9, .inl (cy 0, 64, .inl (fun _ => 0)))] ++ PL) H := hP
  have hD : va_D A ([(h0, .inr (5, [.ref q1, .ref q2, .ref q3, .ref q4, .ref q5, .int 0, .int 0, .int 0, .ref q6, .ref q7, .int 0, .ref q8, .null])), (q1, .inl (cA, 64, .inr (.inr (.inr (.inr (fun i => if i < 64 then some (r i) else none)))))), (q2, .inl (cy 0, 64, .inl (fun _ => 0))), (q3, .inl (cy 1, 64, .inl (fun _ => 0))), (q4, .inl (cy 1, 64, .inl (fun _ => 0))), (q5, .inl (cy 1, 64, .inl (fun _ => 0))), (q6, .inl (cy 0, 64, .inl (fun _ => 0))), (q7, .inl (cy 0, 64, .inl (fun _ => 0))), (q8, .inl (cy 0, 64, .inl (fun _ => 0))), (q9, .inl (cy 0, 64, .inl (fun _ => 0)))] ++ PL) := hD
  refine va_putF (D := D) (ci := 5) (v := .ref q9) (ty := .array .int) (C := RX5) (T := TX5) (N := 13) hx hb hts inlX5 tyX5 tyX5_ok nmX5 hown hK hP hD hS 0 rfl rfl 12 (by decide) (hts (.fieldLink RX5 52 "BuiltIndex$Tree" "below" "[I") (by decide +kernel)) (fun _ h9 => h9) rfl hin rfl (by decide +kernel) rfl rfl (Nat.le_of_ble_eq_true rfl) dX5_init_97 (fun H locs hP hD hS => ?_)
  have hP : va_P D vwCl ([(h0, .inr (5, [.ref q1, .ref q2, .ref q3, .ref q4, .ref q5, .int 0, .int 0, .int 0, .ref q6, .ref q7, .int 0, .ref q8, .ref q9])), (q1, .inl (cA, 64, .inr (.inr (.inr (.inr (fun i => if i < 64 then some (r i) else none)))))), (q2, .inl (cy 0, 64, .inl (fun _ => 0))), (q3, .inl (cy 1, 64, .inl (fun _ => 0))), (q4, .inl (cy 1, 64, .inl (fun _ => 0))), (q5, .inl (cy 1, 64, .inl (fun _ => 0))), (q6, .inl (cy 0, 64, .inl (fun _ => 0))), (q7, .inl (cy 0, 64, .inl (fun _ => 0))), (q8, .inl (cy 0, 64, .inl (fun _ => 0))), (q9, .inl (cy 0, 64, .inl (fun _ => 0)))] ++ PL) H := hP
  have hD : va_D A ([(h0, .inr (5, [.ref q1, .ref q2, .ref q3, .ref q4, .ref q5, .int 0, .int 0, .int 0, .ref q6, .ref q7, .int 0, .ref q8, .ref q9])), (q1, .inl (cA, 64, .inr (.inr (.inr (.inr (fun i => if i < 64 then some (r i) else none)))))), (q2, .inl (cy 0, 64, .inl (fun _ => 0))), (q3, .inl (cy 1, 64, .inl (fun _ => 0))), (q4, .inl (cy 1, 64, .inl (fun _ => 0))), (q5, .inl (cy 1, 64, .inl (fun _ => 0))), (q6, .inl (cy 0, 64, .inl (fun _ => 0))), (q7, .inl (cy 0, 64, .inl (fun _ => 0))), (q8, .inl (cy 0, 64, .inl (fun _ => 0))), (q9, .inl (cy 0, 64, .inl (fun _ => 0)))] ++ PL) := hD
  refine W.widen (k := 73) (n := 1152) (Nat.le_of_ble_eq_true rfl) (Nat.le_of_ble_eq_true rfl) ?_
  subst hAe
  exact W.vret hx hb hr (fun t ht hW => ⟨⟨(), rfl, trivial, _, ⟨q1, q2, q3, q4, q5, q6, q7, q8, q9, cA, r, hr1, by rw [← ePL], va_K.moved hW.alike hK5⟩, by rw [ht]; exact hP, hD⟩, hS.F ht⟩) hS.2.2 dX5_init_100 hlocks
