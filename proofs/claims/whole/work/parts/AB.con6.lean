/-! the index is made -/
abbrev mX6_init : MD := (yX6_init, cX6_init, 1, none, RX6, { frames := 2, cells := 90, slots := 2778, locals := 32 })
abbrev fX6 (h0 : Nat) : va_W := [(h0, .inr (6, [.null, .null, .int 0, .int 0, .int 0, .int 0, .int 0, .int 0, .null, .null, .null, .null, .null, .int 0, .int 0]))]
abbrev wX6 (cy : Nat → ClassId) (h0 q1 q2 q3 q4 q5 q6 q7 q8 q9 q10 q11 q12 q13 q14 q15 q16 q17 q18 q19 q20 q21 q22 q23 q24 q25 q26 : Nat) (cA : ClassId) (r : Nat → Nat) : va_W := [(h0, .inr (6, [.ref q1, .ref q6, .int 0, .int 0, .int 0, .int 0, .int (-1), .int (-1), .ref q7, .ref q12, .ref q13, .ref q16, .ref q26, .int 0, .int 0])), (q1, .inr (4, [.ref q2, .ref q3, .ref q4, .ref q5, .int 0])), (q2, .inl (cy 0, 240, .inl (fun _ => 0))), (q3, .inl (cy 0, 240, .inl (fun _ => 0))), (q4, .inl (cy 1, 240, .inl (fun _ => 0))), (q5, .inl (cy 1, 20, .inl (fun _ => 0))), (q6, .inr (0, [.int 0, .int (-1), .int 0, .int 0, .int 0, .int 0])), (q7, .inr (3, [.ref q8, .int 0, .ref q9, .ref q10, .int 0, .ref q11, .int 0])), (q8, .inl (cy 2, 36, .inr (.inl (fun _ => 0)))), (q9, .inl (cy 2, 240, .inr (.inl (fun _ => 0)))), (q10, .inl (cy 2, 240, .inr (.inl (fun _ => 0)))), (q11, .inl (cy 0, 11, .inl (fun _ => 0))), (q12, .inr (1, [.int 1, .int 0, .int 0, .int 0])), (q13, .inr (2, [.ref q14, .ref q15, .int 0, .int 0])), (q14, .inl (cy 2, 40, .inr (.inl (fun _ => 0)))), (q15, .inl (cy 1, 40, .inl (fun _ => 0))), (q16, .inr (5, [.ref q17, .ref q18, .ref q19, .ref q20, .ref q21, .int 0, .int 0, .int 0, .ref q22, .ref q23, .int 0, .ref q24, .ref q25])), (q17, .inl (cA, 64, .inr (.inr (.inr (.inr (fun i => if i < 64 then some (r i) else none)))))), (q18, .inl (cy 0, 64, .inl (fun _ => 0))), (q19, .inl (cy 1, 64, .inl (fun _ => 0))), (q20, .inl (cy 1, 64, .inl (fun _ => 0))), (q21, .inl (cy 1, 64, .inl (fun _ => 0))), (q22, .inl (cy 0, 64, .inl (fun _ => 0))), (q23, .inl (cy 0, 64, .inl (fun _ => 0))), (q24, .inl (cy 0, 64, .inl (fun _ => 0))), (q25, .inl (cy 0, 64, .inl (fun _ => 0))), (q26, .inl (cy 0, 240, .inl (fun _ => 0)))]
def pX6 (D : va_G) (cy : Nat → ClassId) (h0 : Nat) (w1 : va_W) (t : State) : Prop := ∃ (q1 q2 q3 q4 q5 q6 q7 q8 q9 q10 q11 q12 q13 q14 q15 q16 q17 q18 q19 q20 q21 q22 q23 q24 q25 q26 : Nat) (cA : ClassId) (r : Nat → Nat), (∀ i j : Nat, i < 64 → j < 64 → r i = r j → i = j) ∧ w1 = wX6 cy h0 q1 q2 q3 q4 q5 q6 q7 q8 q9 q10 q11 q12 q13 q14 q15 q16 q17 q18 q19 q20 q21 q22 q23 q24 q25 q26 cA r ++ va_pl ([] ++ (List.range 64).map r) (vr_up (fun _ => .inr (0, [])) ((List.range 64).map r) (.inl (cy 2, 9, .inr (.inl (fun _ => 0))))) ∧ va_K D vwCl (ty3 cy ++ [(cA, .array .long)]) t
set_option maxHeartbeats 8000000 in
set_option maxRecDepth 100000 in
theorem kX6_init (l : Launch) (D : va_G) (cy : Nat → ClassId) : KiW l D cy mX6_init 6 [.null, .null, .int 0, .int 0, .int 0, .int 0, .int 0, .int 0, .null, .null, .null, .null, .null, .int 0, .int 0] (pX6 D cy) nwI := by
  intro h0 sz
  refine Met.ofW (cc := cX6_init) (maxL := 1) (ret := none) (by decide) rfl ?_
  intro p e s m args below meth c s₁ B hml hv
  obtain ⟨rfl, ⟨hsz, hP, hK, hD0, hO⟩, hWs⟩ := hv
  have hx := B.exec
  have hb := B.bytes
  have hr := B.returns
  have hts0 := atoms_spec (ws := wsM mX6_init) B.pre
  have hts : ∀ w ∈ wsL_law0, w.before #[Value.ref h0] s = true := fun w hw => hts0 w (List.mem_cons_of_mem _ hw)
  have hown : s.vm.findClass RX6 = some m.cls := findClass_of_methodNamed B.named
  have hlocks := B.notSynchronized
  have hin : meth.name = "<init>" := (name_of_methodNamed B.named B.method).1
  subst hsz
  have hD := hD0.self (sz := s.heap.size)
  generalize hAe : va_A (fX6 h0) s.heap.size = A at hD ⊢
  have hA : ∀ q : Nat, s.heap.size ≤ q → A q := fun q h => by rw [← hAe]; exact Or.inr h
  have hS : va_S A s.heap s.heap [] := va_S.rf
  have hP : va_P D vwCl ([(h0, .inr (6, [.null, .null, .int 0, .int 0, .int 0, .int 0, .int 0, .int 0, .null, .null, .null, .null, .null, .int 0, .int 0]))] ++ []) s.heap := hP
  have hD : va_D A ([(h0, .inr (6, [.null, .null, .int 0, .int 0, .int 0, .int 0, .int 0, .int 0, .null, .null, .null, .null, .null, .int 0, .int 0]))] ++ []) := hD
  have hl := lv_entry ([.ref h0]) (n := 1) (Nat.le_of_ble_eq_true rfl)
  rw [lg_entry_eq]
  generalize (lg_sl ([.ref h0]) ++ List.replicate (1 - (lg_sl ([.ref h0])).length) Slot.unset).toArray = ls at hl ⊢
  have hl : lv_has ls 1 [(0, .ref h0)] := hl
  refine lv_aload_n hx hb dX6_init_0 rfl (lv_at hl 0 rfl) ?_
  refine W.objInit hx hb hown (hts (.methodLink RX6 1 objectInit) (by decide +kernel)) (hts (.instanceMethod objectInit) (by decide +kernel)) (hts (.code objectInit ⟨#[0xb1]⟩ 1 none) (by decide +kernel)) rfl (by rw [hml]; exact hl.1) rfl dX6_init_1 (Nat.le_of_ble_eq_true rfl) (Nat.le_of_ble_eq_true rfl) ?_
  refine W.eq (g2 := F0 m 4 ls []) rfl ?_
  refine lv_aload_n hx hb dX6_init_4 rfl (lv_at hl 0 rfl) ?_
  refine nwO (X := (((h0, .inr (6, [.null, .null, .int 0, .int 0, .int 0, .int 0, .int 0, .int 0, .null, .null, .null, .null, .null, .int 0, .int 0])) : Nat × va_E) :: ([] : va_W))) (PL := ([] : va_W)) (ci := 4) (fs := [.null, .null, .null, .null, .int 0]) (C := RX4) (T := TX4) (N := 5) (index := 7) (own := RX6) hx hb hts inlX4 tyX4 tyX4_ok hown (by decide +kernel) hK hP hD hS hA rfl dfX4 (Nat.le_of_ble_eq_true rfl) (Nat.le_of_ble_eq_true rfl) dX6_init_5 (fun q1 H hP hD hS => ?_)
  refine lv_dup hx hb dX6_init_8 rfl ?_
  refine kcallN (N := mX4_init) (ci := 4) (fs := [.null, .null, .null, .null, .int 0]) (idx := 9) (own := RX6) (wr := (((h0, .inr (6, [.null, .null, .int 0, .int 0, .int 0, .int 0, .int 0, .int 0, .null, .null, .null, .null, .null, .int 0, .int 0])) : Nat × va_E) :: ([] : va_W)) ++ ([] : va_W)) (kX4_init l D cy) hx hb hml hown hts (hWs _ (by decide +kernel)) (by decide +kernel) (good_M (by decide +kernel)) ⟨rfl, rfl, rfl⟩ (by decide +kernel) ⟨by decide, by decide⟩ hK hO hP hD hS hA hl.1 (Nat.le_of_ble_eq_true rfl) dX6_init_9 ⟨Nat.le_of_ble_eq_true rfl, Nat.le_of_ble_eq_true rfl⟩ (fun w1 t H locs ht hvm hpo hP hD hS => ?_)
  obtain ⟨q2, q3, q4, q5, hpo⟩ := hpo
  subst hpo
  obtain ⟨Y1, eY1⟩ : ∃ z : va_W, z = (([] : va_W) ++ []) ++ (wX4 cy q1 q2 q3 q4 q5 ++ []) := ⟨_, rfl⟩
  have hP : va_P D vwCl ((((h0, .inr (6, [.null, .null, .int 0, .int 0, .int 0, .int 0, .int 0, .int 0, .null, .null, .null, .null, .null, .int 0, .int 0])) : Nat × va_E) :: Y1) ++ ([] : va_W)) H := by rw [List.append_nil, eY1]; exact hP
  have hD : va_D A ((((h0, .inr (6, [.null, .null, .int 0, .int 0, .int 0, .int 0, .int 0, .int 0, .null, .null, .null, .null, .null, .int 0, .int 0])) : Nat × va_E) :: Y1) ++ ([] : va_W)) := by rw [List.append_nil, eY1]; exact hD
  refine va_putF (D := D) (ci := 6) (v := .ref q1) (ty := .object RX4) (C := RX6) (T := TX6) (N := 15) hx hb hts inlX6 tyX6 tyX6_ok nmX6 hown hK hP hD hS 0 rfl rfl 0 (by decide) (hts (.fieldLink RX6 10 "BuiltIndex" "table" "LBuiltIndex$Table;") (by decide +kernel)) (fun _ h9 => h9) rfl hin rfl (by decide +kernel) rfl rfl (Nat.le_of_ble_eq_true rfl) dX6_init_12 (fun H locs hP hD hS => ?_)
  have hP : va_P D vwCl ((((h0, .inr (6, [.ref q1, .null, .int 0, .int 0, .int 0, .int 0, .int 0, .int 0, .null, .null, .null, .null, .null, .int 0, .int 0])) : Nat × va_E) :: Y1) ++ ([] : va_W)) H := hP
  have hD : va_D A ((((h0, .inr (6, [.ref q1, .null, .int 0, .int 0, .int 0, .int 0, .int 0, .int 0, .null, .null, .null, .null, .null, .int 0, .int 0])) : Nat × va_E) :: Y1) ++ ([] : va_W)) := hD
  refine lv_aload_n hx hb dX6_init_15 rfl (lv_at hl 0 rfl) ?_
  refine nwO (X := (((h0, .inr (6, [.ref q1, .null, .int 0, .int 0, .int 0, .int 0, .int 0, .int 0, .null, .null, .null, .null, .null, .int 0, .int 0])) : Nat × va_E) :: Y1)) (PL := ([] : va_W)) (ci := 0) (fs := [.int 0, .int 0, .int 0, .int 0, .int 0, .int 0]) (C := RX0) (T := TX0) (N := 6) (index := 16) (own := RX6) hx hb hts inlX0 tyX0 tyX0_ok hown (by decide +kernel) hK hP hD hS hA rfl dfX0 (Nat.le_of_ble_eq_true rfl) (Nat.le_of_ble_eq_true rfl) dX6_init_16 (fun q6 H hP hD hS => ?_)
  refine lv_dup hx hb dX6_init_19 rfl ?_
  refine kcallN (N := mX0_init) (ci := 0) (fs := [.int 0, .int 0, .int 0, .int 0, .int 0, .int 0]) (idx := 18) (own := RX6) (wr := (((h0, .inr (6, [.ref q1, .null, .int 0, .int 0, .int 0, .int 0, .int 0, .int 0, .null, .null, .null, .null, .null, .int 0, .int 0])) : Nat × va_E) :: Y1) ++ ([] : va_W)) (kX0_init l D cy) hx hb hml hown hts (hWs _ (by decide +kernel)) (by decide +kernel) (good_M (by decide +kernel)) ⟨rfl, rfl, rfl⟩ (by decide +kernel) ⟨by decide, by decide⟩ hK hO hP hD hS hA hl.1 (Nat.le_of_ble_eq_true rfl) dX6_init_20 ⟨Nat.le_of_ble_eq_true rfl, Nat.le_of_ble_eq_true rfl⟩ (fun w1 t H locs ht hvm hpo hP hD hS => ?_)
  have hpo : w1 = wX0 cy q6 ++ [] := hpo
  subst hpo
  obtain ⟨Y2, eY2⟩ : ∃ z : va_W, z = (Y1 ++ []) ++ (wX0 cy q6 ++ []) := ⟨_, rfl⟩
  have hP : va_P D vwCl ((((h0, .inr (6, [.ref q1, .null, .int 0, .int 0, .int 0, .int 0, .int 0, .int 0, .null, .null, .null, .null, .null, .int 0, .int 0])) : Nat × va_E) :: Y2) ++ ([] : va_W)) H := by rw [List.append_nil, eY2]; exact hP
  have hD : va_D A ((((h0, .inr (6, [.ref q1, .null, .int 0, .int 0, .int 0, .int 0, .int 0, .int 0, .null, .null, .null, .null, .null, .int 0, .int 0])) : Nat × va_E) :: Y2) ++ ([] : va_W)) := by rw [List.append_nil, eY2]; exact hD
  refine va_putF (D := D) (ci := 6) (v := .ref q6) (ty := .object RX0) (C := RX6) (T := TX6) (N := 15) hx hb hts inlX6 tyX6 tyX6_ok nmX6 hown hK hP hD hS 0 rfl rfl 1 (by decide) (hts (.fieldLink RX6 19 "BuiltIndex" "disk" "LBuiltIndex$Disk;") (by decide +kernel)) (fun _ h9 => h9) rfl hin rfl (by decide +kernel) rfl rfl (Nat.le_of_ble_eq_true rfl) dX6_init_23 (fun H locs hP hD hS => ?_)
  have hP : va_P D vwCl ((((h0, .inr (6, [.ref q1, .ref q6, .int 0, .int 0, .int 0, .int 0, .int 0, .int 0, .null, .null, .null, .null, .null, .int 0, .int 0])) : Nat × va_E) :: Y2) ++ ([] : va_W)) H := hP
  have hD : va_D A ((((h0, .inr (6, [.ref q1, .ref q6, .int 0, .int 0, .int 0, .int 0, .int 0, .int 0, .null, .null, .null, .null, .null, .int 0, .int 0])) : Nat × va_E) :: Y2) ++ ([] : va_W)) := hD
  refine lv_aload_n hx hb dX6_init_26 rfl (lv_at hl 0 rfl) ?_
  refine lv_iconst (v := 0) hx hb dX6_init_27 (by decide) ?_
  refine va_put (D := D) (ci := 6) (v := .int 0) (ty := .int) (C := RX6) (T := TX6) (N := 15) hx hb hts inlX6 tyX6 tyX6_ok nmX6 hown hK hP hD hS 0 rfl rfl 2 (by decide) (hts (.fieldLink RX6 23 "BuiltIndex" "state" "I") (by decide +kernel)) (fun _ h9 => h9) rfl (by decide +kernel) rfl rfl (Nat.le_of_ble_eq_true rfl) dX6_init_28 (fun H locs hP hD hS => ?_)
  have hP : va_P D vwCl ((((h0, .inr (6, [.ref q1, .ref q6, .int 0, .int 0, .int 0, .int 0, .int 0, .int 0, .null, .null, .null, .null, .null, .int 0, .int 0])) : Nat × va_E) :: Y2) ++ ([] : va_W)) H := hP
  have hD : va_D A ((((h0, .inr (6, [.ref q1, .ref q6, .int 0, .int 0, .int 0, .int 0, .int 0, .int 0, .null, .null, .null, .null, .null, .int 0, .int 0])) : Nat × va_E) :: Y2) ++ ([] : va_W)) := hD
  refine lv_aload_n hx hb dX6_init_31 rfl (lv_at hl 0 rfl) ?_
  refine lv_iconst (v := 0) hx hb dX6_init_32 (by decide) ?_
  refine va_put (D := D) (ci := 6) (v := .int 0) (ty := .boolean) (C := RX6) (T := TX6) (N := 15) hx hb hts inlX6 tyX6 tyX6_ok nmX6 hown hK hP hD hS 0 rfl rfl 3 (by decide) (hts (.fieldLink RX6 27 "BuiltIndex" "unique" "Z") (by decide +kernel)) (fun _ h9 => h9) rfl (by decide +kernel) rfl rfl (Nat.le_of_ble_eq_true rfl) dX6_init_33 (fun H locs hP hD hS => ?_)
  have hP : va_P D vwCl ((((h0, .inr (6, [.ref q1, .ref q6, .int 0, .int 0, .int 0, .int 0, .int 0, .int 0, .null, .null, .null, .null, .null, .int 0, .int 0])) : Nat × va_E) :: Y2) ++ ([] : va_W)) H := hP
  have hD : va_D A ((((h0, .inr (6, [.ref q1, .ref q6, .int 0, .int 0, .int 0, .int 0, .int 0, .int 0, .null, .null, .null, .null, .null, .int 0, .int 0])) : Nat × va_E) :: Y2) ++ ([] : va_W)) := hD
  refine lv_aload_n hx hb dX6_init_36 rfl (lv_at hl 0 rfl) ?_
  refine lv_iconst (v := 0) hx hb dX6_init_37 (by decide) ?_
  refine va_put (D := D) (ci := 6) (v := .int 0) (ty := .int) (C := RX6) (T := TX6) (N := 15) hx hb hts inlX6 tyX6 tyX6_ok nmX6 hown hK hP hD hS 0 rfl rfl 4 (by decide) (hts (.fieldLink RX6 31 "BuiltIndex" "nextPage" "I") (by decide +kernel)) (fun _ h9 => h9) rfl (by decide +kernel) rfl rfl (Nat.le_of_ble_eq_true rfl) dX6_init_38 (fun H locs hP hD hS => ?_)
  have hP : va_P D vwCl ((((h0, .inr (6, [.ref q1, .ref q6, .int 0, .int 0, .int 0, .int 0, .int 0, .int 0, .null, .null, .null, .null, .null, .int 0, .int 0])) : Nat × va_E) :: Y2) ++ ([] : va_W)) H := hP
  have hD : va_D A ((((h0, .inr (6, [.ref q1, .ref q6, .int 0, .int 0, .int 0, .int 0, .int 0, .int 0, .null, .null, .null, .null, .null, .int 0, .int 0])) : Nat × va_E) :: Y2) ++ ([] : va_W)) := hD
  refine lv_aload_n hx hb dX6_init_41 rfl (lv_at hl 0 rfl) ?_
  refine lv_iconst (v := 0) hx hb dX6_init_42 (by decide) ?_
  refine va_put (D := D) (ci := 6) (v := .int 0) (ty := .int) (C := RX6) (T := TX6) (N := 15) hx hb hts inlX6 tyX6 tyX6_ok nmX6 hown hK hP hD hS 0 rfl rfl 5 (by decide) (hts (.fieldLink RX6 34 "BuiltIndex" "whyStopped" "I") (by decide +kernel)) (fun _ h9 => h9) rfl (by decide +kernel) rfl rfl (Nat.le_of_ble_eq_true rfl) dX6_init_43 (fun H locs hP hD hS => ?_)
  have hP : va_P D vwCl ((((h0, .inr (6, [.ref q1, .ref q6, .int 0, .int 0, .int 0, .int 0, .int 0, .int 0, .null, .null, .null, .null, .null, .int 0, .int 0])) : Nat × va_E) :: Y2) ++ ([] : va_W)) H := hP
  have hD : va_D A ((((h0, .inr (6, [.ref q1, .ref q6, .int 0, .int 0, .int 0, .int 0, .int 0, .int 0, .null, .null, .null, .null, .null, .int 0, .int 0])) : Nat × va_E) :: Y2) ++ ([] : va_W)) := hD
  refine lv_aload_n hx hb dX6_init_46 rfl (lv_at hl 0 rfl) ?_
  refine lv_iconst (v := (-1)) hx hb dX6_init_47 (by decide) ?_
  refine va_put (D := D) (ci := 6) (v := .int (-1)) (ty := .int) (C := RX6) (T := TX6) (N := 15) hx hb hts inlX6 tyX6 tyX6_ok nmX6 hown hK hP hD hS 0 rfl rfl 6 (by decide) (hts (.fieldLink RX6 37 "BuiltIndex" "firstTwin" "I") (by decide +kernel)) (fun _ h9 => h9) rfl (by decide +kernel) rfl rfl (Nat.le_of_ble_eq_true rfl) dX6_init_48 (fun H locs hP hD hS => ?_)
  have hP : va_P D vwCl ((((h0, .inr (6, [.ref q1, .ref q6, .int 0, .int 0, .int 0, .int 0, .int (-1), .int 0, .null, .null, .null, .null, .null, .int 0, .int 0])) : Nat × va_E) :: Y2) ++ ([] : va_W)) H := hP
  have hD : va_D A ((((h0, .inr (6, [.ref q1, .ref q6, .int 0, .int 0, .int 0, .int 0, .int (-1), .int 0, .null, .null, .null, .null, .null, .int 0, .int 0])) : Nat × va_E) :: Y2) ++ ([] : va_W)) := hD
  refine lv_aload_n hx hb dX6_init_51 rfl (lv_at hl 0 rfl) ?_
  refine lv_iconst (v := (-1)) hx hb dX6_init_52 (by decide) ?_
  refine va_put (D := D) (ci := 6) (v := .int (-1)) (ty := .int) (C := RX6) (T := TX6) (N := 15) hx hb hts inlX6 tyX6 tyX6_ok nmX6 hown hK hP hD hS 0 rfl rfl 7 (by decide) (hts (.fieldLink RX6 40 "BuiltIndex" "secondTwin" "I") (by decide +kernel)) (fun _ h9 => h9) rfl (by decide +kernel) rfl rfl (Nat.le_of_ble_eq_true rfl) dX6_init_53 (fun H locs hP hD hS => ?_)
  have hP : va_P D vwCl ((((h0, .inr (6, [.ref q1, .ref q6, .int 0, .int 0, .int 0, .int 0, .int (-1), .int (-1), .null, .null, .null, .null, .null, .int 0, .int 0])) : Nat × va_E) :: Y2) ++ ([] : va_W)) H := hP
  have hD : va_D A ((((h0, .inr (6, [.ref q1, .ref q6, .int 0, .int 0, .int 0, .int 0, .int (-1), .int (-1), .null, .null, .null, .null, .null, .int 0, .int 0])) : Nat × va_E) :: Y2) ++ ([] : va_W)) := hD
  refine lv_aload_n hx hb dX6_init_56 rfl (lv_at hl 0 rfl) ?_
  refine nwO (X := (((h0, .inr (6, [.ref q1, .ref q6, .int 0, .int 0, .int 0, .int 0, .int (-1), .int (-1), .null, .null, .null, .null, .null, .int 0, .int 0])) : Nat × va_E) :: Y2)) (PL := ([] : va_W)) (ci := 3) (fs := [.null, .int 0, .null, .null, .int 0, .null, .int 0]) (C := RX3) (T := TX3) (N := 7) (index := 43) (own := RX6) hx hb hts inlX3 tyX3 tyX3_ok hown (by decide +kernel) hK hP hD hS hA rfl dfX3 (Nat.le_of_ble_eq_true rfl) (Nat.le_of_ble_eq_true rfl) dX6_init_57 (fun q7 H hP hD hS => ?_)
  refine lv_dup hx hb dX6_init_60 rfl ?_
  refine kcallN (N := mX3_init) (ci := 3) (fs := [.null, .int 0, .null, .null, .int 0, .null, .int 0]) (idx := 45) (own := RX6) (wr := (((h0, .inr (6, [.ref q1, .ref q6, .int 0, .int 0, .int 0, .int 0, .int (-1), .int (-1), .null, .null, .null, .null, .null, .int 0, .int 0])) : Nat × va_E) :: Y2) ++ ([] : va_W)) (kX3_init l D cy) hx hb hml hown hts (hWs _ (by decide +kernel)) (by decide +kernel) (good_M (by decide +kernel)) ⟨rfl, rfl, rfl⟩ (by decide +kernel) ⟨by decide, by decide⟩ hK hO hP hD hS hA hl.1 (Nat.le_of_ble_eq_true rfl) dX6_init_61 ⟨Nat.le_of_ble_eq_true rfl, Nat.le_of_ble_eq_true rfl⟩ (fun w1 t H locs ht hvm hpo hP hD hS => ?_)
  obtain ⟨q8, q9, q10, q11, hpo⟩ := hpo
  subst hpo
  obtain ⟨Y3, eY3⟩ : ∃ z : va_W, z = (Y2 ++ []) ++ (wX3 cy q7 q8 q9 q10 q11 ++ []) := ⟨_, rfl⟩
  have hP : va_P D vwCl ((((h0, .inr (6, [.ref q1, .ref q6, .int 0, .int 0, .int 0, .int 0, .int (-1), .int (-1), .null, .null, .null, .null, .null, .int 0, .int 0])) : Nat × va_E) :: Y3) ++ ([] : va_W)) H := by rw [List.append_nil, eY3]; exact hP
  have hD : va_D A ((((h0, .inr (6, [.ref q1, .ref q6, .int 0, .int 0, .int 0, .int 0, .int (-1), .int (-1), .null, .null, .null, .null, .null, .int 0, .int 0])) : Nat × va_E) :: Y3) ++ ([] : va_W)) := by rw [List.append_nil, eY3]; exact hD
  refine va_putF (D := D) (ci := 6) (v := .ref q7) (ty := .object RX3) (C := RX6) (T := TX6) (N := 15) hx hb hts inlX6 tyX6 tyX6_ok nmX6 hown hK hP hD hS 0 rfl rfl 8 (by decide) (hts (.fieldLink RX6 46 "BuiltIndex" "runs" "LBuiltIndex$Runs;") (by decide +kernel)) (fun _ h9 => h9) rfl hin rfl (by decide +kernel) rfl rfl (Nat.le_of_ble_eq_true rfl) dX6_init_64 (fun H locs hP hD hS => ?_)
  have hP : va_P D vwCl ((((h0, .inr (6, [.ref q1, .ref q6, .int 0, .int 0, .int 0, .int 0, .int (-1), .int (-1), .ref q7, .null, .null, .null, .null, .int 0, .int 0])) : Nat × va_E) :: Y3) ++ ([] : va_W)) H := hP
  have hD : va_D A ((((h0, .inr (6, [.ref q1, .ref q6, .int 0, .int 0, .int 0, .int 0, .int (-1), .int (-1), .ref q7, .null, .null, .null, .null, .int 0, .int 0])) : Nat × va_E) :: Y3) ++ ([] : va_W)) := hD
  refine lv_aload_n hx hb dX6_init_67 rfl (lv_at hl 0 rfl) ?_
  refine nwO (X := (((h0, .inr (6, [.ref q1, .ref q6, .int 0, .int 0, .int 0, .int 0, .int (-1), .int (-1), .ref q7, .null, .null, .null, .null, .int 0, .int 0])) : Nat × va_E) :: Y3)) (PL := ([] : va_W)) (ci := 1) (fs := [.int 0, .int 0, .int 0, .int 0]) (C := RX1) (T := TX1) (N := 4) (index := 50) (own := RX6) hx hb hts inlX1 tyX1 tyX1_ok hown (by decide +kernel) hK hP hD hS hA rfl dfX1 (Nat.le_of_ble_eq_true rfl) (Nat.le_of_ble_eq_true rfl) dX6_init_68 (fun q12 H hP hD hS => ?_)
  refine lv_dup hx hb dX6_init_71 rfl ?_
  refine kcallN (N := mX1_init) (ci := 1) (fs := [.int 0, .int 0, .int 0, .int 0]) (idx := 52) (own := RX6) (wr := (((h0, .inr (6, [.ref q1, .ref q6, .int 0, .int 0, .int 0, .int 0, .int (-1), .int (-1), .ref q7, .null, .null, .null, .null, .int 0, .int 0])) : Nat × va_E) :: Y3) ++ ([] : va_W)) (kX1_init l D cy) hx hb hml hown hts (hWs _ (by decide +kernel)) (by decide +kernel) (good_M (by decide +kernel)) ⟨rfl, rfl, rfl⟩ (by decide +kernel) ⟨by decide, by decide⟩ hK hO hP hD hS hA hl.1 (Nat.le_of_ble_eq_true rfl) dX6_init_72 ⟨Nat.le_of_ble_eq_true rfl, Nat.le_of_ble_eq_true rfl⟩ (fun w1 t H locs ht hvm hpo hP hD hS => ?_)
  have hpo : w1 = wX1 cy q12 ++ [] := hpo
  subst hpo
  obtain ⟨Y4, eY4⟩ : ∃ z : va_W, z = (Y3 ++ []) ++ (wX1 cy q12 ++ []) := ⟨_, rfl⟩
  have hP : va_P D vwCl ((((h0, .inr (6, [.ref q1, .ref q6, .int 0, .int 0, .int 0, .int 0, .int (-1), .int (-1), .ref q7, .null, .null, .null, .null, .int 0, .int 0])) : Nat × va_E) :: Y4) ++ ([] : va_W)) H := by rw [List.append_nil, eY4]; exact hP
  have hD : va_D A ((((h0, .inr (6, [.ref q1, .ref q6, .int 0, .int 0, .int 0, .int 0, .int (-1), .int (-1), .ref q7, .null, .null, .null, .null, .int 0, .int 0])) : Nat × va_E) :: Y4) ++ ([] : va_W)) := by rw [List.append_nil, eY4]; exact hD
  refine va_putF (D := D) (ci := 6) (v := .ref q12) (ty := .object RX1) (C := RX6) (T := TX6) (N := 15) hx hb hts inlX6 tyX6 tyX6_ok nmX6 hown hK hP hD hS 0 rfl rfl 9 (by decide) (hts (.fieldLink RX6 53 "BuiltIndex" "loader" "LBuiltIndex$Loader;") (by decide +kernel)) (fun _ h9 => h9) rfl hin rfl (by decide +kernel) rfl rfl (Nat.le_of_ble_eq_true rfl) dX6_init_75 (fun H locs hP hD hS => ?_)
  have hP : va_P D vwCl ((((h0, .inr (6, [.ref q1, .ref q6, .int 0, .int 0, .int 0, .int 0, .int (-1), .int (-1), .ref q7, .ref q12, .null, .null, .null, .int 0, .int 0])) : Nat × va_E) :: Y4) ++ ([] : va_W)) H := hP
  have hD : va_D A ((((h0, .inr (6, [.ref q1, .ref q6, .int 0, .int 0, .int 0, .int 0, .int (-1), .int (-1), .ref q7, .ref q12, .null, .null, .null, .int 0, .int 0])) : Nat × va_E) :: Y4) ++ ([] : va_W)) := hD
  refine lv_aload_n hx hb dX6_init_78 rfl (lv_at hl 0 rfl) ?_
  refine nwO (X := (((h0, .inr (6, [.ref q1, .ref q6, .int 0, .int 0, .int 0, .int 0, .int (-1), .int (-1), .ref q7, .ref q12, .null, .null, .null, .int 0, .int 0])) : Nat × va_E) :: Y4)) (PL := ([] : va_W)) (ci := 2) (fs := [.null, .null, .int 0, .int 0]) (C := RX2) (T := TX2) (N := 4) (index := 57) (own := RX6) hx hb hts inlX2 tyX2 tyX2_ok hown (by decide +kernel) hK hP hD hS hA rfl dfX2 (Nat.le_of_ble_eq_true rfl) (Nat.le_of_ble_eq_true rfl) dX6_init_79 (fun q13 H hP hD hS => ?_)
  refine lv_dup hx hb dX6_init_82 rfl ?_
  refine kcallN (N := mX2_init) (ci := 2) (fs := [.null, .null, .int 0, .int 0]) (idx := 59) (own := RX6) (wr := (((h0, .inr (6, [.ref q1, .ref q6, .int 0, .int 0, .int 0, .int 0, .int (-1), .int (-1), .ref q7, .ref q12, .null, .null, .null, .int 0, .int 0])) : Nat × va_E) :: Y4) ++ ([] : va_W)) (kX2_init l D cy) hx hb hml hown hts (hWs _ (by decide +kernel)) (by decide +kernel) (good_M (by decide +kernel)) ⟨rfl, rfl, rfl⟩ (by decide +kernel) ⟨by decide, by decide⟩ hK hO hP hD hS hA hl.1 (Nat.le_of_ble_eq_true rfl) dX6_init_83 ⟨Nat.le_of_ble_eq_true rfl, Nat.le_of_ble_eq_true rfl⟩ (fun w1 t H locs ht hvm hpo hP hD hS => ?_)
  obtain ⟨q14, q15, hpo⟩ := hpo
  subst hpo
  obtain ⟨Y5, eY5⟩ : ∃ z : va_W, z = (Y4 ++ []) ++ (wX2 cy q13 q14 q15 ++ []) := ⟨_, rfl⟩
  have hP : va_P D vwCl ((((h0, .inr (6, [.ref q1, .ref q6, .int 0, .int 0, .int 0, .int 0, .int (-1), .int (-1), .ref q7, .ref q12, .null, .null, .null, .int 0, .int 0])) : Nat × va_E) :: Y5) ++ ([] : va_W)) H := by rw [List.append_nil, eY5]; exact hP
  have hD : va_D A ((((h0, .inr (6, [.ref q1, .ref q6, .int 0, .int 0, .int 0, .int 0, .int (-1), .int (-1), .ref q7, .ref q12, .null, .null, .null, .int 0, .int 0])) : Nat × va_E) :: Y5) ++ ([] : va_W)) := by rw [List.append_nil, eY5]; exact hD
  refine va_putF (D := D) (ci := 6) (v := .ref q13) (ty := .object RX2) (C := RX6) (T := TX6) (N := 15) hx hb hts inlX6 tyX6 tyX6_ok nmX6 hown hK hP hD hS 0 rfl rfl 10 (by decide) (hts (.fieldLink RX6 60 "BuiltIndex" "log" "LBuiltIndex$LogBeside;") (by decide +kernel)) (fun _ h9 => h9) rfl hin rfl (by decide +kernel) rfl rfl (Nat.le_of_ble_eq_true rfl) dX6_init_86 (fun H locs hP hD hS => ?_)
  have hP : va_P D vwCl ((((h0, .inr (6, [.ref q1, .ref q6, .int 0, .int 0, .int 0, .int 0, .int (-1), .int (-1), .ref q7, .ref q12, .ref q13, .null, .null, .int 0, .int 0])) : Nat × va_E) :: Y5) ++ ([] : va_W)) H := hP
  have hD : va_D A ((((h0, .inr (6, [.ref q1, .ref q6, .int 0, .int 0, .int 0, .int 0, .int (-1), .int (-1), .ref q7, .ref q12, .ref q13, .null, .null, .int 0, .int 0])) : Nat × va_E) :: Y5) ++ ([] : va_W)) := hD
  refine lv_aload_n hx hb dX6_init_89 rfl (lv_at hl 0 rfl) ?_
  refine nwO (X := (((h0, .inr (6, [.ref q1, .ref q6, .int 0, .int 0, .int 0, .int 0, .int (-1), .int (-1), .ref q7, .ref q12, .ref q13, .null, .null, .int 0, .int 0])) : Nat × va_E) :: Y5)) (PL := ([] : va_W)) (ci := 5) (fs := [.null, .null, .null, .null, .null, .int 0, .int 0, .int 0, .null, .null, .int 0, .null, .null]) (C := RX5) (T := TX5) (N := 13) (index := 64) (own := RX6) hx hb hts inlX5 tyX5 tyX5_ok hown (by decide +kernel) hK hP hD hS hA rfl dfX5 (Nat.le_of_ble_eq_true rfl) (Nat.le_of_ble_eq_true rfl) dX6_init_90 (fun q16 H hP hD hS => ?_)
  refine lv_dup hx hb dX6_init_93 rfl ?_
  refine kcallN (N := mX5_init) (ci := 5) (fs := [.null, .null, .null, .null, .null, .int 0, .int 0, .int 0, .null, .null, .int 0, .null, .null]) (idx := 66) (own := RX6) (wr := (((h0, .inr (6, [.ref q1, .ref q6, .int 0, .int 0, .int 0, .int 0, .int (-1), .int (-1), .ref q7, .ref q12, .ref q13, .null, .null, .int 0, .int 0])) : Nat × va_E) :: Y5) ++ ([] : va_W)) (kX5_init l D cy) hx hb hml hown hts (hWs _ (by decide +kernel)) (by decide +kernel) (good_M (by decide +kernel)) ⟨rfl, rfl, rfl⟩ (by decide +kernel) ⟨by decide, by decide⟩ hK hO hP hD hS hA hl.1 (Nat.le_of_ble_eq_true rfl) dX6_init_94 ⟨Nat.le_of_ble_eq_true rfl, Nat.le_of_ble_eq_true rfl⟩ (fun w1 t H locs ht hvm hpo hP hD hS => ?_)
  obtain ⟨q17, q18, q19, q20, q21, q22, q23, q24, q25, cA, r, hr1, hpo, hK5⟩ := hpo
  have hK5 := va_K.moved hvm.symm hK5
  subst hpo
  obtain ⟨PL, ePL⟩ : ∃ z : va_W, z = va_pl ([] ++ (List.range 64).map r) (vr_up (fun _ => .inr (0, [])) ((List.range 64).map r) (.inl (cy 2, 9, .inr (.inl (fun _ => 0))))) := ⟨_, rfl⟩
  rw [← ePL, ← List.append_assoc] at hP hD
  obtain ⟨Y6, eY6⟩ : ∃ z : va_W, z = (Y5 ++ []) ++ (wX5 cy q16 q17 q18 q19 q20 q21 q22 q23 q24 q25 cA r) := ⟨_, rfl⟩
  have hP : va_P D vwCl ((((h0, .inr (6, [.ref q1, .ref q6, .int 0, .int 0, .int 0, .int 0, .int (-1), .int (-1), .ref q7, .ref q12, .ref q13, .null, .null, .int 0, .int 0])) : Nat × va_E) :: Y6) ++ PL) H := by rw [eY6]; exact hP
  have hD : va_D A ((((h0, .inr (6, [.ref q1, .ref q6, .int 0, .int 0, .int 0, .int 0, .int (-1), .int (-1), .ref q7, .ref q12, .ref q13, .null, .null, .int 0, .int 0])) : Nat × va_E) :: Y6) ++ PL) := by rw [eY6]; exact hD
  refine va_putF (D := D) (ci := 6) (v := .ref q16) (ty := .object RX5) (C := RX6) (T := TX6) (N := 15) hx hb hts inlX6 tyX6 tyX6_ok nmX6 hown hK hP hD hS 0 rfl rfl 11 (by decide) (hts (.fieldLink RX6 67 "BuiltIndex" "tree" "LBuiltIndex$Tree;") (by decide +kernel)) (fun _ h9 => h9) rfl hin rfl (by decide +kernel) rfl rfl (Nat.le_of_ble_eq_true rfl) dX6_init_97 (fun H locs hP hD hS => ?_)
  have hP : va_P D vwCl ((((h0, .inr (6, [.ref q1, .ref q6, .int 0, .int 0, .int 0, .int 0, .int (-1), .int (-1), .ref q7, .ref q12, .ref q13, .ref q16, .null, .int 0, .int 0])) : Nat × va_E) :: Y6) ++ PL) H := hP
  have hD : va_D A ((((h0, .inr (6, [.ref q1, .ref q6, .int 0, .int 0, .int 0, .int 0, .int (-1), .int (-1), .ref q7, .ref q12, .ref q13, .ref q16, .null, .int 0, .int 0])) : Nat × va_E) :: Y6) ++ PL) := hD
  refine lv_aload_n hx hb dX6_init_100 rfl (lv_at hl 0 rfl) ?_
  refine lv_sipush (v := 240) hx hb dX6_init_101 (by decide) ?_
  refine nwP (atype := .int) (ty := .int) (n := 240) (N' := 240) (X := (((h0, .inr (6, [.ref q1, .ref q6, .int 0, .int 0, .int 0, .int 0, .int (-1), .int (-1), .ref q7, .ref q12, .ref q13, .ref q16, .null, .int 0, .int 0])) : Nat × va_E) :: Y6)) (PL := PL) (a0 := (240, .inl (fun _ => 0))) (t0 := 0) hx hb (hts (.arrayClass .int) (by decide +kernel)) rfl hK rfl (fun _ a b => ra_int a b) hP hD hS hA (fun _ => rfl) (by decide) (by decide) (by decide) (Nat.le_of_ble_eq_true rfl) (Nat.le_of_ble_eq_true rfl) dX6_init_104 (fun q26 H hP hD hS => ?_)
  obtain ⟨Y7, eY7⟩ : ∃ z : va_W, z = Y6 ++ [(q26, .inl (cy 0, 240, .inl (fun _ => 0)))] := ⟨_, rfl⟩
  have hP : va_P D vwCl ((((h0, .inr (6, [.ref q1, .ref q6, .int 0, .int 0, .int 0, .int 0, .int (-1), .int (-1), .ref q7, .ref q12, .ref q13, .ref q16, .null, .int 0, .int 0])) : Nat × va_E) :: Y7) ++ PL) H := by rw [eY7]; exact hP
  have hD : va_D A ((((h0, .inr (6, [.ref q1, .ref q6, .int 0, .int 0, .int 0, .int 0, .int (-1), .int (-1), .ref q7, .ref q12, .ref q13, .ref q16, .null, .int 0, .int 0])) : Nat × va_E) :: Y7) ++ PL) := by rw [eY7]; exact hD
  refine va_putF (D := D) (ci := 6) (v := .ref q26) (ty := .array .int) (C := RX6) (T := TX6) (N := 15) hx hb hts inlX6 tyX6 tyX6_ok nmX6 hown hK hP hD hS 0 rfl rfl 12 (by decide) (hts (.fieldLink RX6 71 "BuiltIndex" "told" "[I") (by decide +kernel)) (fun _ h9 => h9) rfl hin rfl (by decide +kernel) rfl rfl (Nat.le_of_ble_eq_true rfl) dX6_init_106 (fun H locs hP hD hS => ?_)
  have hP : va_P D vwCl ((((h0, .inr (6, [.ref q1, .ref q6, .int 0, .int 0, .int 0, .int 0, .int (-1), .int (-1), .ref q7, .ref q12, .ref q13, .ref q16, .ref q26, .int 0, .int 0])) : Nat × va_E) :: Y7) ++ PL) H := hP
  have hD : va_D A ((((h0, .inr (6, [.ref q1, .ref q6, .int 0, .int 0, .int 0, .int 0, .int (-1), .int (-1), .ref q7, .ref q12, .ref q13, .ref q16, .ref q26, .int 0, .int 0])) : Nat × va_E) :: Y7) ++ PL) := hD
  refine lv_aload_n hx hb dX6_init_109 rfl (lv_at hl 0 rfl) ?_
  refine lv_iconst (v := 0) hx hb dX6_init_110 (by decide) ?_
  refine va_put (D := D) (ci := 6) (v := .int 0) (ty := .int) (C := RX6) (T := TX6) (N := 15) hx hb hts inlX6 tyX6 tyX6_ok nmX6 hown hK hP hD hS 0 rfl rfl 13 (by decide) (hts (.fieldLink RX6 75 "BuiltIndex" "toldCount" "I") (by decide +kernel)) (fun _ h9 => h9) rfl (by decide +kernel) rfl rfl (Nat.le_of_ble_eq_true rfl) dX6_init_111 (fun H locs hP hD hS => ?_)
  have hP : va_P D vwCl ((((h0, .inr (6, [.ref q1, .ref q6, .int 0, .int 0, .int 0, .int 0, .int (-1), .int (-1), .ref q7, .ref q12, .ref q13, .ref q16, .ref q26, .int 0, .int 0])) : Nat × va_E) :: Y7) ++ PL) H := hP
  have hD : va_D A ((((h0, .inr (6, [.ref q1, .ref q6, .int 0, .int 0, .int 0, .int 0, .int (-1), .int (-1), .ref q7, .ref q12, .ref q13, .ref q16, .ref q26, .int 0, .int 0])) : Nat × va_E) :: Y7) ++ PL) := hD
  refine lv_aload_n hx hb dX6_init_114 rfl (lv_at hl 0 rfl) ?_
  refine lv_iconst (v := 0) hx hb dX6_init_115 (by decide) ?_
  refine va_put (D := D) (ci := 6) (v := .int 0) (ty := .int) (C := RX6) (T := TX6) (N := 15) hx hb hts inlX6 tyX6 tyX6_ok nmX6 hown hK hP hD hS 0 rfl rfl 14 (by decide) (hts (.fieldLink RX6 78 "BuiltIndex" "latestCost" "I") (by decide +kernel)) (fun _ h9 => h9) rfl (by decide +kernel) rfl rfl (Nat.le_of_ble_eq_true rfl) dX6_init_116 (fun H locs hP hD hS => ?_)
  have hP : va_P D vwCl ((((h0, .inr (6, [.ref q1, .ref q6, .int 0, .int 0, .int 0, .int 0, .int (-1), .int (-1), .ref q7, .ref q12, .ref q13, .ref q16, .ref q26, .int 0, .int 0])) : Nat × va_E) :: Y7) ++ PL) H := hP
  have hD : va_D A ((((h0, .inr (6, [.ref q1, .ref q6, .int 0, .int 0, .int 0, .int 0, .int (-1), .int (-1), .ref q7, .ref q12, .ref q13, .ref q16, .ref q26, .int 0, .int 0])) : Nat × va_E) :: Y7) ++ PL) := hD
  refine W.widen (k := 90) (n := 2778) (Nat.le_of_ble_eq_true rfl) (Nat.le_of_ble_eq_true rfl) ?_
  have hD2 : va_D (va_A (fX6 h0) s.heap.size) ((((h0, .inr (6, [.ref q1, .ref q6, .int 0, .int 0, .int 0, .int 0, .int (-1), .int (-1), .ref q7, .ref q12, .ref q13, .ref q16, .ref q26, .int 0, .int 0])) : Nat × va_E) :: Y7) ++ PL) := by rw [hAe]; exact hD
  have hS2 : va_S (va_A (fX6 h0) s.heap.size) s.heap H locs := by rw [hAe]; exact hS
  exact W.vret hx hb hr (fun t ht hW => ⟨⟨(), rfl, trivial, _, ⟨q1, q2, q3, q4, q5, q6, q7, q8, q9, q10, q11, q12, q13, q14, q15, q16, q17, q18, q19, q20, q21, q22, q23, q24, q25, q26, cA, r, hr1, by rw [ePL, eY7, eY6, eY5, eY4, eY3, eY2, eY1]; rfl, va_K.moved hW.alike hK5⟩, by rw [ht]; exact hP, hD2⟩, hS2.F ht⟩) hS.2.2 dX6_init_119 hlocks
