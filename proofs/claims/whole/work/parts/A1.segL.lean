/-! the law's body, and the calls that may throw -/
def SK (K : KT) (Lx : Nat) (xs : Nat → Int32) : Prop := ∀ g p s args c, K.2.2.2 g p s args c → va_X (g.2.2.1 200) Lx xs s s.heap ∧ g.2.2.1 200 < s.heap.size ∧ ¬ K.1 g s (g.2.2.1 200)
section LWR
variable {M : MD} {K : KT} {pc : Nat} {L : List (Nat × AV)} {st : List AV} {h : Hp} {Lx : Nat} {xs : Nat → Int32}
theorem ev_sld (hk : SK K Lx xs) {i : Int32} (hd : decode M.2.1 pc = .ok (.iaload, 1)) (hi : vp_in i Lx) (H : EvK M K (pc + 1) L (vI (xs i.toNatClampNeg) :: st) h) : EvK M K pc L (vI i :: vR 200 :: st) h := by
  intro g hg p e s m args below meth c B kA kr kz H0 locs ls hP hS hl
  obtain ⟨hX, hbl, hbA⟩ := hk g p s args c kz
  exact va_sld B.1 B.2.1 hX hbl hbA hS hi hd (H g hg p e s m args below meth c B kA kr kz H0 locs ls hP hS hl)
theorem ev_slen (hk : SK K Lx xs) (hd : decode M.2.1 pc = .ok (.arraylength, 1)) (H : EvK M K (pc + 1) L (vI (nI Lx) :: st) h) : EvK M K pc L (vR 200 :: st) h := by
  intro g hg p e s m args below meth c B kA kr kz H0 locs ls hP hS hl
  obtain ⟨hX, hbl, hbA⟩ := hk g p s args c kz
  exact va_slen B.1 B.2.1 hX hbl hbA hS hd (H g hg p e s m args below meth c B kA kr kz H0 locs ls hP hS hl)
end LWR
abbrev mX6_row : MD := (yX6_row, cX6_row, 3, some .int, RX6, { frames := 6, cells := 1, slots := 6, locals := 90 })
abbrev mX6_entry : MD := (yX6_entry, cX6_entry, 5, some .int, RX6, { frames := 6, cells := 1, slots := 6, locals := 98 })
abbrev mL_law : MD := (yL_law, code, 7, ret, RL, room_1)
theorem rm_mX6_row_mX0_isDown : Rm mX6_row mX0_isDown := ⟨rfl, rfl, by decide, by decide⟩
theorem rm_mX6_row_mX4_has : Rm mX6_row mX4_has := ⟨rfl, rfl, by decide, by decide⟩
theorem mlX6_132 : MLv RX6 132 mX4_valueAt 1 := mlv_of (by decide +kernel) ⟨by decide +kernel, by decide +kernel, by decide +kernel⟩
theorem rm_mX6_row_mX4_valueAt : Rm mX6_row mX4_valueAt := ⟨rfl, rfl, by decide, by decide⟩
theorem rm_mX6_row_mX4_keyAt : Rm mX6_row mX4_keyAt := ⟨rfl, rfl, by decide, by decide⟩
theorem rm_mX6_entry_mX0_isDown : Rm mX6_entry mX0_isDown := ⟨rfl, rfl, by decide, by decide⟩
theorem rm_mX6_entry_mX6_isEntryOfTree : Rm mX6_entry mX6_isEntryOfTree := ⟨rfl, rfl, by decide, by decide⟩
theorem rm_mX6_entry_mX5_entryAt : Rm mX6_entry mX5_entryAt := ⟨rfl, rfl, by decide, by decide⟩
theorem rm_mX6_entry_mX6_placeOf : Rm mX6_entry mX6_placeOf := ⟨rfl, rfl, by decide, by decide⟩
theorem mlX6_198 : MLs RX6 198 mX6_keyOf 1 := mls_of (by decide +kernel) ⟨rfl, by decide +kernel, by decide +kernel, by decide +kernel⟩
theorem rm_mX6_entry_mX6_keyOf : Rm mX6_entry mX6_keyOf := ⟨rfl, rfl, by decide, by decide⟩
theorem mlL_24 : MLv RL 24 mX6_add 2 := mlv_of (by decide +kernel) ⟨by decide +kernel, by decide +kernel, by decide +kernel⟩
theorem rm_mL_law_mX6_add : Rm mL_law mX6_add := ⟨rfl, rfl, by decide, by decide⟩
theorem mlL_28 : MLv RL 28 mX7_add 2 := mlv_of (by decide +kernel) ⟨by decide +kernel, by decide +kernel, by decide +kernel⟩
theorem rm_mL_law_mX7_add : Rm mL_law mX7_add := ⟨rfl, rfl, by decide, by decide⟩
theorem mlL_29 : MLv RL 29 mX6_change 3 := mlv_of (by decide +kernel) ⟨by decide +kernel, by decide +kernel, by decide +kernel⟩
theorem rm_mL_law_mX6_change : Rm mL_law mX6_change := ⟨rfl, rfl, by decide, by decide⟩
theorem mlL_33 : MLv RL 33 mX7_change 3 := mlv_of (by decide +kernel) ⟨by decide +kernel, by decide +kernel, by decide +kernel⟩
theorem rm_mL_law_mX7_change : Rm mL_law mX7_change := ⟨rfl, rfl, by decide, by decide⟩
theorem mlL_34 : MLv RL 34 mX6_remove 1 := mlv_of (by decide +kernel) ⟨by decide +kernel, by decide +kernel, by decide +kernel⟩
theorem rm_mL_law_mX6_remove : Rm mL_law mX6_remove := ⟨rfl, rfl, by decide, by decide⟩
theorem mlL_38 : MLv RL 38 mX7_remove 1 := mlv_of (by decide +kernel) ⟨by decide +kernel, by decide +kernel, by decide +kernel⟩
theorem rm_mL_law_mX7_remove : Rm mL_law mX7_remove := ⟨rfl, rfl, by decide, by decide⟩
theorem mlL_44 : MLv RL 44 mX7_row 2 := mlv_of (by decide +kernel) ⟨by decide +kernel, by decide +kernel, by decide +kernel⟩
theorem rm_mL_law_mX7_row : Rm mL_law mX7_row := ⟨rfl, rfl, by decide, by decide⟩
theorem mlL_45 : MLv RL 45 mX7_thrown 0 := mlv_of (by decide +kernel) ⟨by decide +kernel, by decide +kernel, by decide +kernel⟩
theorem rm_mL_law_mX7_thrown : Rm mL_law mX7_thrown := ⟨rfl, rfl, by decide, by decide⟩
theorem mlL_49 : MLv RL 49 mX6_cut 2 := mlv_of (by decide +kernel) ⟨by decide +kernel, by decide +kernel, by decide +kernel⟩
theorem rm_mL_law_mX6_cut : Rm mL_law mX6_cut := ⟨rfl, rfl, by decide, by decide⟩
theorem mlL_52 : MLv RL 52 mX7_cut 2 := mlv_of (by decide +kernel) ⟨by decide +kernel, by decide +kernel, by decide +kernel⟩
theorem rm_mL_law_mX7_cut : Rm mL_law mX7_cut := ⟨rfl, rfl, by decide, by decide⟩
theorem mlL_53 : MLv RL 53 mX6_start 0 := mlv_of (by decide +kernel) ⟨by decide +kernel, by decide +kernel, by decide +kernel⟩
theorem rm_mL_law_mX6_start : Rm mL_law mX6_start := ⟨rfl, rfl, by decide, by decide⟩
theorem mlL_56 : MLv RL 56 mX7_start 0 := mlv_of (by decide +kernel) ⟨by decide +kernel, by decide +kernel, by decide +kernel⟩
theorem rm_mL_law_mX7_start : Rm mL_law mX7_start := ⟨rfl, rfl, by decide, by decide⟩
theorem mlL_57 : MLv RL 57 mX6_build 1 := mlv_of (by decide +kernel) ⟨by decide +kernel, by decide +kernel, by decide +kernel⟩
theorem rm_mL_law_mX6_build : Rm mL_law mX6_build := ⟨rfl, rfl, by decide, by decide⟩
theorem mlL_61 : MLv RL 61 mX7_build 1 := mlv_of (by decide +kernel) ⟨by decide +kernel, by decide +kernel, by decide +kernel⟩
theorem rm_mL_law_mX7_build : Rm mL_law mX7_build := ⟨rfl, rfl, by decide, by decide⟩
theorem mlL_62 : MLv RL 62 mX6_drop 0 := mlv_of (by decide +kernel) ⟨by decide +kernel, by decide +kernel, by decide +kernel⟩
theorem rm_mL_law_mX6_drop : Rm mL_law mX6_drop := ⟨rfl, rfl, by decide, by decide⟩
theorem mlL_65 : MLv RL 65 mX7_drop 0 := mlv_of (by decide +kernel) ⟨by decide +kernel, by decide +kernel, by decide +kernel⟩
theorem rm_mL_law_mX7_drop : Rm mL_law mX7_drop := ⟨rfl, rfl, by decide, by decide⟩
theorem mlL_66 : MLv RL 66 mX6_step 1 := mlv_of (by decide +kernel) ⟨by decide +kernel, by decide +kernel, by decide +kernel⟩
theorem rm_mL_law_mX6_step : Rm mL_law mX6_step := ⟨rfl, rfl, by decide, by decide⟩
theorem mlL_69 : MLv RL 69 mX7_step 1 := mlv_of (by decide +kernel) ⟨by decide +kernel, by decide +kernel, by decide +kernel⟩
theorem rm_mL_law_mX7_step : Rm mL_law mX7_step := ⟨rfl, rfl, by decide, by decide⟩
theorem mlL_70 : MLv RL 70 mX6_info 1 := mlv_of (by decide +kernel) ⟨by decide +kernel, by decide +kernel, by decide +kernel⟩
theorem rm_mL_law_mX6_info : Rm mL_law mX6_info := ⟨rfl, rfl, by decide, by decide⟩
theorem mlL_73 : MLv RL 73 mX7_info 1 := mlv_of (by decide +kernel) ⟨by decide +kernel, by decide +kernel, by decide +kernel⟩
theorem rm_mL_law_mX7_info : Rm mL_law mX7_info := ⟨rfl, rfl, by decide, by decide⟩
theorem mlL_76 : MLv RL 76 mX7_entry 2 := mlv_of (by decide +kernel) ⟨by decide +kernel, by decide +kernel, by decide +kernel⟩
theorem rm_mL_law_mX7_entry : Rm mL_law mX7_entry := ⟨rfl, rfl, by decide, by decide⟩
theorem mlL_77 : MLv RL 77 mX6_leaf 1 := mlv_of (by decide +kernel) ⟨by decide +kernel, by decide +kernel, by decide +kernel⟩
theorem rm_mL_law_mX6_leaf : Rm mL_law mX6_leaf := ⟨rfl, rfl, by decide, by decide⟩
theorem mlL_80 : MLv RL 80 mX7_leaf 1 := mlv_of (by decide +kernel) ⟨by decide +kernel, by decide +kernel, by decide +kernel⟩
theorem rm_mL_law_mX7_leaf : Rm mL_law mX7_leaf := ⟨rfl, rfl, by decide, by decide⟩
theorem mlL_81 : MLv RL 81 mX6_ask 2 := mlv_of (by decide +kernel) ⟨by decide +kernel, by decide +kernel, by decide +kernel⟩
theorem rm_mL_law_mX6_ask : Rm mL_law mX6_ask := ⟨rfl, rfl, by decide, by decide⟩
theorem mlL_84 : MLv RL 84 mX7_ask 2 := mlv_of (by decide +kernel) ⟨by decide +kernel, by decide +kernel, by decide +kernel⟩
theorem rm_mL_law_mX7_ask : Rm mL_law mX7_ask := ⟨rfl, rfl, by decide, by decide⟩
theorem mlL_85 : MLv RL 85 mX6_answer 1 := mlv_of (by decide +kernel) ⟨by decide +kernel, by decide +kernel, by decide +kernel⟩
theorem rm_mL_law_mX6_answer : Rm mL_law mX6_answer := ⟨rfl, rfl, by decide, by decide⟩
theorem mlL_88 : MLv RL 88 mX7_answer 1 := mlv_of (by decide +kernel) ⟨by decide +kernel, by decide +kernel, by decide +kernel⟩
theorem rm_mL_law_mX7_answer : Rm mL_law mX7_answer := ⟨rfl, rfl, by decide, by decide⟩
theorem mlL_89 : MLv RL 89 mX6_cost 0 := mlv_of (by decide +kernel) ⟨by decide +kernel, by decide +kernel, by decide +kernel⟩
theorem rm_mL_law_mX6_cost : Rm mL_law mX6_cost := ⟨rfl, rfl, by decide, by decide⟩
theorem mlL_92 : MLv RL 92 mX7_cost 0 := mlv_of (by decide +kernel) ⟨by decide +kernel, by decide +kernel, by decide +kernel⟩
theorem rm_mL_law_mX7_cost : Rm mL_law mX7_cost := ⟨rfl, rfl, by decide, by decide⟩
theorem mlL_93 : MLv RL 93 mX6_blocks 1 := mlv_of (by decide +kernel) ⟨by decide +kernel, by decide +kernel, by decide +kernel⟩
theorem rm_mL_law_mX6_blocks : Rm mL_law mX6_blocks := ⟨rfl, rfl, by decide, by decide⟩
theorem mlL_96 : MLv RL 96 mX7_blocks 1 := mlv_of (by decide +kernel) ⟨by decide +kernel, by decide +kernel, by decide +kernel⟩
theorem rm_mL_law_mX7_blocks : Rm mL_law mX7_blocks := ⟨rfl, rfl, by decide, by decide⟩
theorem mlL_97 : MLv RL 97 mX6_rows 0 := mlv_of (by decide +kernel) ⟨by decide +kernel, by decide +kernel, by decide +kernel⟩
theorem rm_mL_law_mX6_rows : Rm mL_law mX6_rows := ⟨rfl, rfl, by decide, by decide⟩
theorem mlL_100 : MLv RL 100 mX7_rows 0 := mlv_of (by decide +kernel) ⟨by decide +kernel, by decide +kernel, by decide +kernel⟩
theorem rm_mL_law_mX7_rows : Rm mL_law mX7_rows := ⟨rfl, rfl, by decide, by decide⟩
theorem mlL_101 : MLv RL 101 mX6_audit 0 := mlv_of (by decide +kernel) ⟨by decide +kernel, by decide +kernel, by decide +kernel⟩
theorem rm_mL_law_mX6_audit : Rm mL_law mX6_audit := ⟨rfl, rfl, by decide, by decide⟩
theorem mlL_104 : MLv RL 104 mX7_audit 0 := mlv_of (by decide +kernel) ⟨by decide +kernel, by decide +kernel, by decide +kernel⟩
theorem rm_mL_law_mX7_audit : Rm mL_law mX7_audit := ⟨rfl, rfl, by decide, by decide⟩
set_option maxRecDepth 20000 in
theorem sX6_row_0 {K : KT} {h : Hp} {x1 : Int32} {x2 : Int32} (H : EvM mX0_isDown [vR 6] h (fun v h1 => ∃ r2 : Int32, v = some (vI r2) ∧ (((r2 = 0) → EvM mX4_has [vR 1, vI x1] h1 (fun v h4 => ∃ r5 : Int32, v = some (vI r5) ∧ (((¬ r5 = 0) → (((x2 = 0) → EvM mX4_keyAt [vR 1, vI x1] h4 (fun v h8 => ∃ r9 : Int32, v = some (vI r9) ∧ EvK mX6_row K 64 [] [vI r9] h8)) ∧ ((¬ x2 = 0) → EvM mX4_valueAt [vR 1, vI x1] h4 (fun v h10 => ∃ r11 : Int32, v = some (vI r11) ∧ EvK mX6_row K 64 [] [vI r11] h10)))) ∧ ((r5 = 0) → EvK mX6_row K 31 [] [] h4)))) ∧ ((¬ r2 = 0) → EvK mX6_row K 10 [] [] h1)))) : EvK mX6_row K 0 [(0, vR 0), (1, vI x1), (2, vI x2)] [] h := by
  refine ev_aload_n 0 dX6_row_0 rfl (x := 0) rfl ?_
  refine ev_getR dX6_row_1 flX6_19 rfl rfl ?_
  refine ev_callV (As := []) (rest := []) dX6_row_4 mlX6_81 rm_mX6_row_mX0_isDown rfl rfl rfl rfl (Nat.le_of_ble_eq_true rfl) H (fun v h1 H => ?_)
  obtain ⟨r2, rfl, H⟩ := H
  show EvK mX6_row K 7 [(0, vR 0), (1, vI x1), (2, vI x2)] [vI r2] h1
  refine ev_if_eq 20 dX6_row_7 (by decide) ⟨fun c3 => ?_, fun c3 => ?_⟩
  · have H := H.1 c3
    refine ev_aload_n 0 dX6_row_20 rfl (x := 0) rfl ?_
    refine ev_getR dX6_row_21 flX6_10 rfl rfl ?_
    refine ev_iload_n 1 dX6_row_24 rfl (x := x1) rfl ?_
    refine ev_callV (As := [vI x1]) (rest := []) dX6_row_25 mlX6_108 rm_mX6_row_mX4_has rfl rfl rfl rfl (Nat.le_of_ble_eq_true rfl) H (fun v h4 H => ?_)
    obtain ⟨r5, rfl, H⟩ := H
    show EvK mX6_row K 28 [(0, vR 0), (1, vI x1), (2, vI x2)] [vI r5] h4
    refine ev_if_ne 41 dX6_row_28 (by decide) ⟨fun c6 => ?_, fun c6 => ?_⟩
    · have H := H.1 c6
      refine ev_iload_n 2 dX6_row_41 rfl (x := x2) rfl ?_
      refine ev_if_eq 56 dX6_row_42 (by decide) ⟨fun c7 => ?_, fun c7 => ?_⟩
      · have H := H.1 c7
        refine ev_aload_n 0 dX6_row_56 rfl (x := 0) rfl ?_
        refine ev_getR dX6_row_57 flX6_10 rfl rfl ?_
        refine ev_iload_n 1 dX6_row_60 rfl (x := x1) rfl ?_
        refine ev_callV (As := [vI x1]) (rest := []) dX6_row_61 mlX6_112 rm_mX6_row_mX4_keyAt rfl rfl rfl rfl (Nat.le_of_ble_eq_true rfl) H (fun v h8 H => ?_)
        obtain ⟨r9, rfl, H⟩ := H
        show EvK mX6_row K 64 [(0, vR 0), (1, vI x1), (2, vI x2)] [vI r9] h8
        exact ev_sub (L' := []) trivial H
      · have H := H.2 c7
        refine ev_aload_n 0 dX6_row_45 rfl (x := 0) rfl ?_
        refine ev_getR dX6_row_46 flX6_10 rfl rfl ?_
        refine ev_iload_n 1 dX6_row_49 rfl (x := x1) rfl ?_
        refine ev_callV (As := [vI x1]) (rest := []) dX6_row_50 mlX6_132 rm_mX6_row_mX4_valueAt rfl rfl rfl rfl (Nat.le_of_ble_eq_true rfl) H (fun v h10 H => ?_)
        obtain ⟨r11, rfl, H⟩ := H
        show EvK mX6_row K 53 [(0, vR 0), (1, vI x1), (2, vI x2)] [vI r11] h10
        refine ev_goto 64 dX6_row_53 (by decide) ?_
        exact ev_sub (L' := []) trivial H
    · have H := H.2 c6
      exact ev_sub (L' := []) trivial H
  · have H := H.2 c3
    exact ev_sub (L' := []) trivial H
set_option maxRecDepth 20000 in
theorem sX6_entry_0 {K : KT} {h : Hp} {x1 : Int32} {x2 : Int32} (H : EvM mX0_isDown [vR 6] h (fun v h1 => ∃ r2 : Int32, v = some (vI r2) ∧ (((r2 = 0) → EvM mX6_isEntryOfTree [vR 0, vI x1] h1 (fun v h4 => ∃ r5 : Int32, v = some (vI r5) ∧ (((¬ r5 = 0) → EvM mX5_entryAt [vR 16, vI x1] h4 (fun v h7 => ∃ r8 : Int64, v = some (vL r8) ∧ (((x2 = 0) → EvM mX6_keyOf [vL r8] h7 (fun v h10 => ∃ r11 : Int32, v = some (vI r11) ∧ EvK mX6_entry K 62 [] [vI r11] h10)) ∧ ((¬ x2 = 0) → EvM mX6_placeOf [vL r8] h7 (fun v h12 => ∃ r13 : Int32, v = some (vI r13) ∧ EvK mX6_entry K 62 [] [vI r13] h12))))) ∧ ((r5 = 0) → EvK mX6_entry K 28 [] [] h4)))) ∧ ((¬ r2 = 0) → EvK mX6_entry K 10 [] [] h1)))) : EvK mX6_entry K 0 [(0, vR 0), (1, vI x1), (2, vI x2)] [] h := by
  refine ev_aload_n 0 dX6_entry_0 rfl (x := 0) rfl ?_
  refine ev_getR dX6_entry_1 flX6_19 rfl rfl ?_
  refine ev_callV (As := []) (rest := []) dX6_entry_4 mlX6_81 rm_mX6_entry_mX0_isDown rfl rfl rfl rfl (Nat.le_of_ble_eq_true rfl) H (fun v h1 H => ?_)
  obtain ⟨r2, rfl, H⟩ := H
  show EvK mX6_entry K 7 [(0, vR 0), (1, vI x1), (2, vI x2)] [vI r2] h1
  refine ev_if_eq 20 dX6_entry_7 (by decide) ⟨fun c3 => ?_, fun c3 => ?_⟩
  · have H := H.1 c3
    refine ev_aload_n 0 dX6_entry_20 rfl (x := 0) rfl ?_
    refine ev_iload_n 1 dX6_entry_21 rfl (x := x1) rfl ?_
    refine ev_callV (As := [vI x1]) (rest := []) dX6_entry_22 mlX6_185 rm_mX6_entry_mX6_isEntryOfTree rfl rfl rfl rfl (Nat.le_of_ble_eq_true rfl) H (fun v h4 H => ?_)
    obtain ⟨r5, rfl, H⟩ := H
    show EvK mX6_entry K 25 [(0, vR 0), (1, vI x1), (2, vI x2)] [vI r5] h4
    refine ev_if_ne 38 dX6_entry_25 (by decide) ⟨fun c6 => ?_, fun c6 => ?_⟩
    · have H := H.1 c6
      refine ev_aload_n 0 dX6_entry_38 rfl (x := 0) rfl ?_
      refine ev_getR dX6_entry_39 flX6_67 rfl rfl ?_
      refine ev_iload_n 1 dX6_entry_42 rfl (x := x1) rfl ?_
      refine ev_callV (As := [vI x1]) (rest := []) dX6_entry_43 mlX6_190 rm_mX6_entry_mX5_entryAt rfl rfl rfl rfl (Nat.le_of_ble_eq_true rfl) H (fun v h7 H => ?_)
      obtain ⟨r8, rfl, H⟩ := H
      show EvK mX6_entry K 46 [(0, vR 0), (1, vI x1), (2, vI x2)] [vL r8] h7
      refine ev_lstore_n 3 dX6_entry_46 rfl (by decide) ?_
      refine ev_L (L' := [(3, vL r8), (0, vR 0), (1, vI x1), (2, vI x2)]) rfl ?_
      refine ev_iload_n 2 dX6_entry_47 rfl (x := x2) rfl ?_
      refine ev_if_eq 58 dX6_entry_48 (by decide) ⟨fun c9 => ?_, fun c9 => ?_⟩
      · have H := H.1 c9
        refine ev_lload_n 3 dX6_entry_58 rfl (x := r8) rfl ?_
        refine ev_callS (As := [vL r8]) (rest := []) dX6_entry_59 mlX6_198 rm_mX6_entry_mX6_keyOf rfl rfl (Nat.le_of_ble_eq_true rfl) H (fun v h10 H => ?_)
        obtain ⟨r11, rfl, H⟩ := H
        show EvK mX6_entry K 62 [(3, vL r8), (0, vR 0), (1, vI x1), (2, vI x2)] [vI r11] h10
        exact ev_sub (L' := []) trivial H
      · have H := H.2 c9
        refine ev_lload_n 3 dX6_entry_51 rfl (x := r8) rfl ?_
        refine ev_callS (As := [vL r8]) (rest := []) dX6_entry_52 mlX6_194 rm_mX6_entry_mX6_placeOf rfl rfl (Nat.le_of_ble_eq_true rfl) H (fun v h12 H => ?_)
        obtain ⟨r13, rfl, H⟩ := H
        show EvK mX6_entry K 55 [(3, vL r8), (0, vR 0), (1, vI x1), (2, vI x2)] [vI r13] h12
        refine ev_goto 62 dX6_entry_55 (by decide) ?_
        exact ev_sub (L' := []) trivial H
    · have H := H.2 c6
      exact ev_sub (L' := []) trivial H
  · have H := H.2 c3
    exact ev_sub (L' := []) trivial H
set_option maxRecDepth 20000 in
theorem sL_law_23 {K : KT} {h : Hp} {Lx : Nat} {xs : Nat → Int32} (hk : SK K Lx xs) {x4 : Int32} (H : (((((nI Lx) - 4) < x4) → EvK mL_law K 714 [] [] h) ∧ ((¬ ((nI Lx) - 4) < x4) → (vp_in x4 Lx ∧ (((((xs (Int32.toNatClampNeg x4)) &&& 31) = 0) → EvK mL_law K 124 [(0, vR 200), (1, vR 0), (2, vR 27), (3, vR 53), (4, vI x4)] [] h) ∧ ((((xs (Int32.toNatClampNeg x4)) &&& 31) = 1) → EvK mL_law K 161 [(0, vR 200), (1, vR 0), (2, vR 27), (3, vR 53), (4, vI x4)] [] h) ∧ ((((xs (Int32.toNatClampNeg x4)) &&& 31) = 2) → EvK mL_law K 210 [(0, vR 200), (1, vR 0), (2, vR 27), (3, vR 53), (4, vI x4)] [] h) ∧ ((((xs (Int32.toNatClampNeg x4)) &&& 31) = 3) → EvK mL_law K 235 [(0, vR 200), (1, vR 0), (2, vR 27), (3, vR 53), (4, vI x4)] [] h) ∧ ((((xs (Int32.toNatClampNeg x4)) &&& 31) = 4) → EvK mL_law K 319 [(0, vR 200), (1, vR 0), (2, vR 27), (3, vR 53), (4, vI x4)] [] h) ∧ ((((xs (Int32.toNatClampNeg x4)) &&& 31) = 5) → EvK mL_law K 356 [(0, vR 200), (1, vR 0), (2, vR 27), (3, vR 53), (4, vI x4)] [] h) ∧ ((((xs (Int32.toNatClampNeg x4)) &&& 31) = 6) → EvK mL_law K 369 [(0, vR 200), (1, vR 0), (2, vR 27), (3, vR 53), (4, vI x4)] [] h) ∧ ((((xs (Int32.toNatClampNeg x4)) &&& 31) = 7) → EvK mL_law K 410 [(0, vR 200), (1, vR 0), (2, vR 27), (3, vR 53), (4, vI x4)] [] h) ∧ ((((xs (Int32.toNatClampNeg x4)) &&& 31) = 8) → EvK mL_law K 423 [(0, vR 200), (1, vR 0), (2, vR 27), (3, vR 53), (4, vI x4)] [] h) ∧ ((((xs (Int32.toNatClampNeg x4)) &&& 31) = 9) → EvK mL_law K 448 [(0, vR 200), (1, vR 0), (2, vR 27), (3, vR 53), (4, vI x4)] [] h) ∧ ((((xs (Int32.toNatClampNeg x4)) &&& 31) = 10) → EvK mL_law K 473 [(0, vR 200), (1, vR 0), (2, vR 27), (3, vR 53), (4, vI x4)] [] h) ∧ ((((xs (Int32.toNatClampNeg x4)) &&& 31) = 11) → EvK mL_law K 557 [(0, vR 200), (1, vR 0), (2, vR 27), (3, vR 53), (4, vI x4)] [] h) ∧ ((((xs (Int32.toNatClampNeg x4)) &&& 31) = 12) → EvK mL_law K 582 [(0, vR 200), (1, vR 0), (2, vR 27), (3, vR 53), (4, vI x4)] [] h) ∧ ((((xs (Int32.toNatClampNeg x4)) &&& 31) = 13) → EvK mL_law K 619 [(0, vR 200), (1, vR 0), (2, vR 27), (3, vR 53), (4, vI x4)] [] h) ∧ ((((xs (Int32.toNatClampNeg x4)) &&& 31) = 14) → EvK mL_law K 644 [(0, vR 200), (1, vR 0), (2, vR 27), (3, vR 53), (4, vI x4)] [] h) ∧ ((((xs (Int32.toNatClampNeg x4)) &&& 31) = 15) → EvK mL_law K 657 [(0, vR 200), (1, vR 0), (2, vR 27), (3, vR 53), (4, vI x4)] [] h) ∧ ((((xs (Int32.toNatClampNeg x4)) &&& 31) = 16) → EvK mL_law K 682 [(0, vR 200), (1, vR 0), (2, vR 27), (3, vR 53), (4, vI x4)] [] h) ∧ ((((xs (Int32.toNatClampNeg x4)) &&& 31) = 17) → EvK mL_law K 695 [(0, vR 200), (1, vR 0), (2, vR 27), (3, vR 53), (4, vI x4)] [] h) ∧ ((¬ ((xs (Int32.toNatClampNeg x4)) &&& 31) = 0 ∧ ¬ ((xs (Int32.toNatClampNeg x4)) &&& 31) = 1 ∧ ¬ ((xs (Int32.toNatClampNeg x4)) &&& 31) = 2 ∧ ¬ ((xs (Int32.toNatClampNeg x4)) &&& 31) = 3 ∧ ¬ ((xs (Int32.toNatClampNeg x4)) &&& 31) = 4 ∧ ¬ ((xs (Int32.toNatClampNeg x4)) &&& 31) = 5 ∧ ¬ ((xs (Int32.toNatClampNeg x4)) &&& 31) = 6 ∧ ¬ ((xs (Int32.toNatClampNeg x4)) &&& 31) = 7 ∧ ¬ ((xs (Int32.toNatClampNeg x4)) &&& 31) = 8 ∧ ¬ ((xs (Int32.toNatClampNeg x4)) &&& 31) = 9 ∧ ¬ ((xs (Int32.toNatClampNeg x4)) &&& 31) = 10 ∧ ¬ ((xs (Int32.toNatClampNeg x4)) &&& 31) = 11 ∧ ¬ ((xs (Int32.toNatClampNeg x4)) &&& 31) = 12 ∧ ¬ ((xs (Int32.toNatClampNeg x4)) &&& 31) = 13 ∧ ¬ ((xs (Int32.toNatClampNeg x4)) &&& 31) = 14 ∧ ¬ ((xs (Int32.toNatClampNeg x4)) &&& 31) = 15 ∧ ¬ ((xs (Int32.toNatClampNeg x4)) &&& 31) = 16 ∧ ¬ ((xs (Int32.toNatClampNeg x4)) &&& 31) = 17) → EvK mL_law K 708 [(0, vR 200), (1, vR 0), (2, vR 27), (3, vR 53), (4, vI x4)] [] h)))))) : EvK mL_law K 23 [(0, vR 200), (1, vR 0), (2, vR 27), (3, vR 53), (4, vI x4)] [] h := by
  refine ev_iload dL_law_23 (x := x4) rfl ?_
  refine ev_aload_n 0 dL_law_25 rfl (x := 200) rfl ?_
  refine ev_slen hk dL_law_26 ?_
  refine ev_iconst 4 dL_law_27 (by decide) ?_
  refine ev_isub dL_law_28 ?_
  refine ev_icmp_gt 714 dL_law_29 (by decide) ⟨fun c1 => ?_, fun c1 => ?_⟩
  · have H := H.1 c1
    exact ev_sub (L' := []) trivial H
  · have H := H.2 c1
    refine ev_aload_n 0 dL_law_32 rfl (x := 200) rfl ?_
    refine ev_iload dL_law_33 (x := x4) rfl ?_
    obtain ⟨b2, H⟩ := H
    refine ev_sld hk dL_law_35 b2 ?_
    refine ev_bipush 31 dL_law_36 (by decide) ?_
    refine ev_iand dL_law_38 ?_
    by_cases e0 : ((xs (Int32.toNatClampNeg x4)) &&& 31) = 0
    · have H := H.1 e0
      refine ev_switch 124 dL_law_39 (Or.inl ⟨by rw [e0]; decide, by rw [e0]; decide, _, by rw [e0]; rfl, by decide⟩) ?_
      exact ev_sub (L' := [(0, vR 200), (1, vR 0), (2, vR 27), (3, vR 53), (4, vI x4)]) ⟨rfl, rfl, rfl, rfl, rfl, trivial⟩ H
    by_cases e1 : ((xs (Int32.toNatClampNeg x4)) &&& 31) = 1
    · have H := H.2.1 e1
      refine ev_switch 161 dL_law_39 (Or.inl ⟨by rw [e1]; decide, by rw [e1]; decide, _, by rw [e1]; rfl, by decide⟩) ?_
      exact ev_sub (L' := [(0, vR 200), (1, vR 0), (2, vR 27), (3, vR 53), (4, vI x4)]) ⟨rfl, rfl, rfl, rfl, rfl, trivial⟩ H
    by_cases e2 : ((xs (Int32.toNatClampNeg x4)) &&& 31) = 2
    · have H := H.2.2.1 e2
      refine ev_switch 210 dL_law_39 (Or.inl ⟨by rw [e2]; decide, by rw [e2]; decide, _, by rw [e2]; rfl, by decide⟩) ?_
      exact ev_sub (L' := [(0, vR 200), (1, vR 0), (2, vR 27), (3, vR 53), (4, vI x4)]) ⟨rfl, rfl, rfl, rfl, rfl, trivial⟩ H
    by_cases e3 : ((xs (Int32.toNatClampNeg x4)) &&& 31) = 3
    · have H := H.2.2.2.1 e3
      refine ev_switch 235 dL_law_39 (Or.inl ⟨by rw [e3]; decide, by rw [e3]; decide, _, by rw [e3]; rfl, by decide⟩) ?_
      exact ev_sub (L' := [(0, vR 200), (1, vR 0), (2, vR 27), (3, vR 53), (4, vI x4)]) ⟨rfl, rfl, rfl, rfl, rfl, trivial⟩ H
    by_cases e4 : ((xs (Int32.toNatClampNeg x4)) &&& 31) = 4
    · have H := H.2.2.2.2.1 e4
      refine ev_switch 319 dL_law_39 (Or.inl ⟨by rw [e4]; decide, by rw [e4]; decide, _, by rw [e4]; rfl, by decide⟩) ?_
      exact ev_sub (L' := [(0, vR 200), (1, vR 0), (2, vR 27), (3, vR 53), (4, vI x4)]) ⟨rfl, rfl, rfl, rfl, rfl, trivial⟩ H
    by_cases e5 : ((xs (Int32.toNatClampNeg x4)) &&& 31) = 5
    · have H := H.2.2.2.2.2.1 e5
      refine ev_switch 356 dL_law_39 (Or.inl ⟨by rw [e5]; decide, by rw [e5]; decide, _, by rw [e5]; rfl, by decide⟩) ?_
      exact ev_sub (L' := [(0, vR 200), (1, vR 0), (2, vR 27), (3, vR 53), (4, vI x4)]) ⟨rfl, rfl, rfl, rfl, rfl, trivial⟩ H
    by_cases e6 : ((xs (Int32.toNatClampNeg x4)) &&& 31) = 6
    · have H := H.2.2.2.2.2.2.1 e6
      refine ev_switch 369 dL_law_39 (Or.inl ⟨by rw [e6]; decide, by rw [e6]; decide, _, by rw [e6]; rfl, by decide⟩) ?_
      exact ev_sub (L' := [(0, vR 200), (1, vR 0), (2, vR 27), (3, vR 53), (4, vI x4)]) ⟨rfl, rfl, rfl, rfl, rfl, trivial⟩ H
    by_cases e7 : ((xs (Int32.toNatClampNeg x4)) &&& 31) = 7
    · have H := H.2.2.2.2.2.2.2.1 e7
      refine ev_switch 410 dL_law_39 (Or.inl ⟨by rw [e7]; decide, by rw [e7]; decide, _, by rw [e7]; rfl, by decide⟩) ?_
      exact ev_sub (L' := [(0, vR 200), (1, vR 0), (2, vR 27), (3, vR 53), (4, vI x4)]) ⟨rfl, rfl, rfl, rfl, rfl, trivial⟩ H
    by_cases e8 : ((xs (Int32.toNatClampNeg x4)) &&& 31) = 8
    · have H := H.2.2.2.2.2.2.2.2.1 e8
      refine ev_switch 423 dL_law_39 (Or.inl ⟨by rw [e8]; decide, by rw [e8]; decide, _, by rw [e8]; rfl, by decide⟩) ?_
      exact ev_sub (L' := [(0, vR 200), (1, vR 0), (2, vR 27), (3, vR 53), (4, vI x4)]) ⟨rfl, rfl, rfl, rfl, rfl, trivial⟩ H
    by_cases e9 : ((xs (Int32.toNatClampNeg x4)) &&& 31) = 9
    · have H := H.2.2.2.2.2.2.2.2.2.1 e9
      refine ev_switch 448 dL_law_39 (Or.inl ⟨by rw [e9]; decide, by rw [e9]; decide, _, by rw [e9]; rfl, by decide⟩) ?_
      exact ev_sub (L' := [(0, vR 200), (1, vR 0), (2, vR 27), (3, vR 53), (4, vI x4)]) ⟨rfl, rfl, rfl, rfl, rfl, trivial⟩ H
    by_cases e10 : ((xs (Int32.toNatClampNeg x4)) &&& 31) = 10
    · have H := H.2.2.2.2.2.2.2.2.2.2.1 e10
      refine ev_switch 473 dL_law_39 (Or.inl ⟨by rw [e10]; decide, by rw [e10]; decide, _, by rw [e10]; rfl, by decide⟩) ?_
      exact ev_sub (L' := [(0, vR 200), (1, vR 0), (2, vR 27), (3, vR 53), (4, vI x4)]) ⟨rfl, rfl, rfl, rfl, rfl, trivial⟩ H
    by_cases e11 : ((xs (Int32.toNatClampNeg x4)) &&& 31) = 11
    · have H := H.2.2.2.2.2.2.2.2.2.2.2.1 e11
      refine ev_switch 557 dL_law_39 (Or.inl ⟨by rw [e11]; decide, by rw [e11]; decide, _, by rw [e11]; rfl, by decide⟩) ?_
      exact ev_sub (L' := [(0, vR 200), (1, vR 0), (2, vR 27), (3, vR 53), (4, vI x4)]) ⟨rfl, rfl, rfl, rfl, rfl, trivial⟩ H
    by_cases e12 : ((xs (Int32.toNatClampNeg x4)) &&& 31) = 12
    · have H := H.2.2.2.2.2.2.2.2.2.2.2.2.1 e12
      refine ev_switch 582 dL_law_39 (Or.inl ⟨by rw [e12]; decide, by rw [e12]; decide, _, by rw [e12]; rfl, by decide⟩) ?_
      exact ev_sub (L' := [(0, vR 200), (1, vR 0), (2, vR 27), (3, vR 53), (4, vI x4)]) ⟨rfl, rfl, rfl, rfl, rfl, trivial⟩ H
    by_cases e13 : ((xs (Int32.toNatClampNeg x4)) &&& 31) = 13
    · have H := H.2.2.2.2.2.2.2.2.2.2.2.2.2.1 e13
      refine ev_switch 619 dL_law_39 (Or.inl ⟨by rw [e13]; decide, by rw [e13]; decide, _, by rw [e13]; rfl, by decide⟩) ?_
      exact ev_sub (L' := [(0, vR 200), (1, vR 0), (2, vR 27), (3, vR 53), (4, vI x4)]) ⟨rfl, rfl, rfl, rfl, rfl, trivial⟩ H
    by_cases e14 : ((xs (Int32.toNatClampNeg x4)) &&& 31) = 14
    · have H := H.2.2.2.2.2.2.2.2.2.2.2.2.2.2.1 e14
      refine ev_switch 644 dL_law_39 (Or.inl ⟨by rw [e14]; decide, by rw [e14]; decide, _, by rw [e14]; rfl, by decide⟩) ?_
      exact ev_sub (L' := [(0, vR 200), (1, vR 0), (2, vR 27), (3, vR 53), (4, vI x4)]) ⟨rfl, rfl, rfl, rfl, rfl, trivial⟩ H
    by_cases e15 : ((xs (Int32.toNatClampNeg x4)) &&& 31) = 15
    · have H := H.2.2.2.2.2.2.2.2.2.2.2.2.2.2.2.1 e15
      refine ev_switch 657 dL_law_39 (Or.inl ⟨by rw [e15]; decide, by rw [e15]; decide, _, by rw [e15]; rfl, by decide⟩) ?_
      exact ev_sub (L' := [(0, vR 200), (1, vR 0), (2, vR 27), (3, vR 53), (4, vI x4)]) ⟨rfl, rfl, rfl, rfl, rfl, trivial⟩ H
    by_cases e16 : ((xs (Int32.toNatClampNeg x4)) &&& 31) = 16
    · have H := H.2.2.2.2.2.2.2.2.2.2.2.2.2.2.2.2.1 e16
      refine ev_switch 682 dL_law_39 (Or.inl ⟨by rw [e16]; decide, by rw [e16]; decide, _, by rw [e16]; rfl, by decide⟩) ?_
      exact ev_sub (L' := [(0, vR 200), (1, vR 0), (2, vR 27), (3, vR 53), (4, vI x4)]) ⟨rfl, rfl, rfl, rfl, rfl, trivial⟩ H
    by_cases e17 : ((xs (Int32.toNatClampNeg x4)) &&& 31) = 17
    · have H := H.2.2.2.2.2.2.2.2.2.2.2.2.2.2.2.2.2.1 e17
      refine ev_switch 695 dL_law_39 (Or.inl ⟨by rw [e17]; decide, by rw [e17]; decide, _, by rw [e17]; rfl, by decide⟩) ?_
      exact ev_sub (L' := [(0, vR 200), (1, vR 0), (2, vR 27), (3, vR 53), (4, vI x4)]) ⟨rfl, rfl, rfl, rfl, rfl, trivial⟩ H
    have q0 := lv_neT e0 (a := 0) (by decide)
    have q1 := lv_neT e1 (a := 1) (by decide)
    have q2 := lv_neT e2 (a := 2) (by decide)
    have q3 := lv_neT e3 (a := 3) (by decide)
    have q4 := lv_neT e4 (a := 4) (by decide)
    have q5 := lv_neT e5 (a := 5) (by decide)
    have q6 := lv_neT e6 (a := 6) (by decide)
    have q7 := lv_neT e7 (a := 7) (by decide)
    have q8 := lv_neT e8 (a := 8) (by decide)
    have q9 := lv_neT e9 (a := 9) (by decide)
    have q10 := lv_neT e10 (a := 10) (by decide)
    have q11 := lv_neT e11 (a := 11) (by decide)
    have q12 := lv_neT e12 (a := 12) (by decide)
    have q13 := lv_neT e13 (a := 13) (by decide)
    have q14 := lv_neT e14 (a := 14) (by decide)
    have q15 := lv_neT e15 (a := 15) (by decide)
    have q16 := lv_neT e16 (a := 16) (by decide)
    have q17 := lv_neT e17 (a := 17) (by decide)
    have H := H.2.2.2.2.2.2.2.2.2.2.2.2.2.2.2.2.2.2 ⟨e0, e1, e2, e3, e4, e5, e6, e7, e8, e9, e10, e11, e12, e13, e14, e15, e16, e17⟩
    refine ev_switch 708 dL_law_39 (Or.inr ⟨by omega, by decide⟩) ?_
    exact ev_sub (L' := [(0, vR 200), (1, vR 0), (2, vR 27), (3, vR 53), (4, vI x4)]) ⟨rfl, rfl, rfl, rfl, rfl, trivial⟩ H
set_option maxRecDepth 20000 in
theorem sL_law_708 {K : KT} {h : Hp} {Lx : Nat} {xs : Nat → Int32} (hk : SK K Lx xs) {x4 : Int32} (H : EvK mL_law K 23 [(0, vR 200), (1, vR 0), (2, vR 27), (3, vR 53), (4, vI (x4 + 4))] [] h) : EvK mL_law K 708 [(0, vR 200), (1, vR 0), (2, vR 27), (3, vR 53), (4, vI x4)] [] h := by
  refine ev_iinc (x := x4) (v := 4) dL_law_708 rfl (by decide) (by decide) ?_
  refine ev_L (L' := [(4, vI (x4 + 4)), (0, vR 200), (1, vR 0), (2, vR 27), (3, vR 53)]) rfl ?_
  refine ev_goto 23 dL_law_711 (by decide) ?_
  exact ev_sub (L' := [(0, vR 200), (1, vR 0), (2, vR 27), (3, vR 53), (4, vI (x4 + 4))]) ⟨rfl, rfl, rfl, rfl, rfl, trivial⟩ H
set_option maxRecDepth 20000 in
theorem sL_law_124 {K : KT} {h : Hp} {Lx : Nat} {xs : Nat → Int32} (hk : SK K Lx xs) {x4 : Int32} (H : (vp_in (x4 + 1) Lx ∧ (vp_in (x4 + 2) Lx ∧ EvM mX6_add [vR 0, vI (xs (Int32.toNatClampNeg (x4 + 1))), vI (xs (Int32.toNatClampNeg (x4 + 2)))] h (fun v h3 => ∃ r4 : Int32, v = some (vI r4) ∧ EvM mX7_add [vR 27, vI (xs (Int32.toNatClampNeg (x4 + 1))), vI (xs (Int32.toNatClampNeg (x4 + 2)))] h3 (fun v h5 => ∃ r6 : Int32, v = some (vI r6) ∧ (((r4 = r6) → EvK mL_law K 708 [(0, vR 200), (1, vR 0), (2, vR 27), (3, vR 53), (4, vI x4)] [] h5) ∧ ((¬ r4 = r6) → False))))))) : EvK mL_law K 124 [(0, vR 200), (1, vR 0), (2, vR 27), (3, vR 53), (4, vI x4)] [] h := by
  refine ev_aload_n 1 dL_law_124 rfl (x := 0) rfl ?_
  refine ev_aload_n 0 dL_law_125 rfl (x := 200) rfl ?_
  refine ev_iload dL_law_126 (x := x4) rfl ?_
  refine ev_iconst 1 dL_law_128 (by decide) ?_
  refine ev_iadd dL_law_129 ?_
  obtain ⟨b1, H⟩ := H
  refine ev_sld hk dL_law_130 b1 ?_
  refine ev_aload_n 0 dL_law_131 rfl (x := 200) rfl ?_
  refine ev_iload dL_law_132 (x := x4) rfl ?_
  refine ev_iconst 2 dL_law_134 (by decide) ?_
  refine ev_iadd dL_law_135 ?_
  obtain ⟨b2, H⟩ := H
  refine ev_sld hk dL_law_136 b2 ?_
  refine ev_callV (As := [vI (xs (Int32.toNatClampNeg (x4 + 1))), vI (xs (Int32.toNatClampNeg (x4 + 2)))]) (rest := []) dL_law_137 mlL_24 rm_mL_law_mX6_add rfl rfl rfl rfl (Nat.le_of_ble_eq_true rfl) H (fun v h3 H => ?_)
  obtain ⟨r4, rfl, H⟩ := H
  show EvK mL_law K 140 [(0, vR 200), (1, vR 0), (2, vR 27), (3, vR 53), (4, vI x4)] [vI r4] h3
  refine ev_aload_n 2 dL_law_140 rfl (x := 27) rfl ?_
  refine ev_aload_n 0 dL_law_141 rfl (x := 200) rfl ?_
  refine ev_iload dL_law_142 (x := x4) rfl ?_
  refine ev_iconst 1 dL_law_144 (by decide) ?_
  refine ev_iadd dL_law_145 ?_
  refine ev_sld hk dL_law_146 b1 ?_
  refine ev_aload_n 0 dL_law_147 rfl (x := 200) rfl ?_
  refine ev_iload dL_law_148 (x := x4) rfl ?_
  refine ev_iconst 2 dL_law_150 (by decide) ?_
  refine ev_iadd dL_law_151 ?_
  refine ev_sld hk dL_law_152 b2 ?_
  refine ev_callV (As := [vI (xs (Int32.toNatClampNeg (x4 + 1))), vI (xs (Int32.toNatClampNeg (x4 + 2)))]) (rest := [vI r4]) dL_law_153 mlL_28 rm_mL_law_mX7_add rfl rfl rfl rfl (Nat.le_of_ble_eq_true rfl) H (fun v h5 H => ?_)
  obtain ⟨r6, rfl, H⟩ := H
  show EvK mL_law K 156 [(0, vR 200), (1, vR 0), (2, vR 27), (3, vR 53), (4, vI x4)] [vI r6, vI r4] h5
  refine ev_icmp_eq 708 dL_law_156 (by decide) ⟨fun c7 => ?_, fun c7 => ?_⟩
  · have H := H.1 c7
    exact ev_sub (L' := [(0, vR 200), (1, vR 0), (2, vR 27), (3, vR 53), (4, vI x4)]) ⟨rfl, rfl, rfl, rfl, rfl, trivial⟩ H
  · have H := H.2 c7
    refine ev_iconst 0 dL_law_159 (by decide) ?_
    exact H.elim
set_option maxRecDepth 20000 in
theorem sL_law_161 {K : KT} {h : Hp} {Lx : Nat} {xs : Nat → Int32} (hk : SK K Lx xs) {x4 : Int32} (H : (vp_in (x4 + 1) Lx ∧ (vp_in (x4 + 2) Lx ∧ (vp_in (x4 + 3) Lx ∧ EvM mX6_change [vR 0, vI (xs (Int32.toNatClampNeg (x4 + 1))), vI (xs (Int32.toNatClampNeg (x4 + 2))), vI (xs (Int32.toNatClampNeg (x4 + 3)))] h (fun v h4 => ∃ r5 : Int32, v = some (vI r5) ∧ EvM mX7_change [vR 27, vI (xs (Int32.toNatClampNeg (x4 + 1))), vI (xs (Int32.toNatClampNeg (x4 + 2))), vI (xs (Int32.toNatClampNeg (x4 + 3)))] h4 (fun v h6 => ∃ r7 : Int32, v = some (vI r7) ∧ (((r5 = r7) → EvK mL_law K 708 [(0, vR 200), (1, vR 0), (2, vR 27), (3, vR 53), (4, vI x4)] [] h6) ∧ ((¬ r5 = r7) → False)))))))) : EvK mL_law K 161 [(0, vR 200), (1, vR 0), (2, vR 27), (3, vR 53), (4, vI x4)] [] h := by
  refine ev_aload_n 1 dL_law_161 rfl (x := 0) rfl ?_
  refine ev_aload_n 0 dL_law_162 rfl (x := 200) rfl ?_
  refine ev_iload dL_law_163 (x := x4) rfl ?_
  refine ev_iconst 1 dL_law_165 (by decide) ?_
  refine ev_iadd dL_law_166 ?_
  obtain ⟨b1, H⟩ := H
  refine ev_sld hk dL_law_167 b1 ?_
  refine ev_aload_n 0 dL_law_168 rfl (x := 200) rfl ?_
  refine ev_iload dL_law_169 (x := x4) rfl ?_
  refine ev_iconst 2 dL_law_171 (by decide) ?_
  refine ev_iadd dL_law_172 ?_
  obtain ⟨b2, H⟩ := H
  refine ev_sld hk dL_law_173 b2 ?_
  refine ev_aload_n 0 dL_law_174 rfl (x := 200) rfl ?_
  refine ev_iload dL_law_175 (x := x4) rfl ?_
  refine ev_iconst 3 dL_law_177 (by decide) ?_
  refine ev_iadd dL_law_178 ?_
  obtain ⟨b3, H⟩ := H
  refine ev_sld hk dL_law_179 b3 ?_
  refine ev_callV (As := [vI (xs (Int32.toNatClampNeg (x4 + 1))), vI (xs (Int32.toNatClampNeg (x4 + 2))), vI (xs (Int32.toNatClampNeg (x4 + 3)))]) (rest := []) dL_law_180 mlL_29 rm_mL_law_mX6_change rfl rfl rfl rfl (Nat.le_of_ble_eq_true rfl) H (fun v h4 H => ?_)
  obtain ⟨r5, rfl, H⟩ := H
  show EvK mL_law K 183 [(0, vR 200), (1, vR 0), (2, vR 27), (3, vR 53), (4, vI x4)] [vI r5] h4
  refine ev_aload_n 2 dL_law_183 rfl (x := 27) rfl ?_
  refine ev_aload_n 0 dL_law_184 rfl (x := 200) rfl ?_
  refine ev_iload dL_law_185 (x := x4) rfl ?_
  refine ev_iconst 1 dL_law_187 (by decide) ?_
  refine ev_iadd dL_law_188 ?_
  refine ev_sld hk dL_law_189 b1 ?_
  refine ev_aload_n 0 dL_law_190 rfl (x := 200) rfl ?_
  refine ev_iload dL_law_191 (x := x4) rfl ?_
  refine ev_iconst 2 dL_law_193 (by decide) ?_
  refine ev_iadd dL_law_194 ?_
  refine ev_sld hk dL_law_195 b2 ?_
  refine ev_aload_n 0 dL_law_196 rfl (x := 200) rfl ?_
  refine ev_iload dL_law_197 (x := x4) rfl ?_
  refine ev_iconst 3 dL_law_199 (by decide) ?_
  refine ev_iadd dL_law_200 ?_
  refine ev_sld hk dL_law_201 b3 ?_
  refine ev_callV (As := [vI (xs (Int32.toNatClampNeg (x4 + 1))), vI (xs (Int32.toNatClampNeg (x4 + 2))), vI (xs (Int32.toNatClampNeg (x4 + 3)))]) (rest := [vI r5]) dL_law_202 mlL_33 rm_mL_law_mX7_change rfl rfl rfl rfl (Nat.le_of_ble_eq_true rfl) H (fun v h6 H => ?_)
  obtain ⟨r7, rfl, H⟩ := H
  show EvK mL_law K 205 [(0, vR 200), (1, vR 0), (2, vR 27), (3, vR 53), (4, vI x4)] [vI r7, vI r5] h6
  refine ev_icmp_eq 708 dL_law_205 (by decide) ⟨fun c8 => ?_, fun c8 => ?_⟩
  · have H := H.1 c8
    exact ev_sub (L' := [(0, vR 200), (1, vR 0), (2, vR 27), (3, vR 53), (4, vI x4)]) ⟨rfl, rfl, rfl, rfl, rfl, trivial⟩ H
  · have H := H.2 c8
    refine ev_iconst 0 dL_law_208 (by decide) ?_
    exact H.elim
set_option maxRecDepth 20000 in
theorem sL_law_210 {K : KT} {h : Hp} {Lx : Nat} {xs : Nat → Int32} (hk : SK K Lx xs) {x4 : Int32} (H : (vp_in (x4 + 1) Lx ∧ EvM mX6_remove [vR 0, vI (xs (Int32.toNatClampNeg (x4 + 1)))] h (fun v h2 => ∃ r3 : Int32, v = some (vI r3) ∧ EvM mX7_remove [vR 27, vI (xs (Int32.toNatClampNeg (x4 + 1)))] h2 (fun v h4 => ∃ r5 : Int32, v = some (vI r5) ∧ (((r3 = r5) → EvK mL_law K 708 [(0, vR 200), (1, vR 0), (2, vR 27), (3, vR 53), (4, vI x4)] [] h4) ∧ ((¬ r3 = r5) → False)))))) : EvK mL_law K 210 [(0, vR 200), (1, vR 0), (2, vR 27), (3, vR 53), (4, vI x4)] [] h := by
  refine ev_aload_n 1 dL_law_210 rfl (x := 0) rfl ?_
  refine ev_aload_n 0 dL_law_211 rfl (x := 200) rfl ?_
  refine ev_iload dL_law_212 (x := x4) rfl ?_
  refine ev_iconst 1 dL_law_214 (by decide) ?_
  refine ev_iadd dL_law_215 ?_
  obtain ⟨b1, H⟩ := H
  refine ev_sld hk dL_law_216 b1 ?_
  refine ev_callV (As := [vI (xs (Int32.toNatClampNeg (x4 + 1)))]) (rest := []) dL_law_217 mlL_34 rm_mL_law_mX6_remove rfl rfl rfl rfl (Nat.le_of_ble_eq_true rfl) H (fun v h2 H => ?_)
  obtain ⟨r3, rfl, H⟩ := H
  show EvK mL_law K 220 [(0, vR 200), (1, vR 0), (2, vR 27), (3, vR 53), (4, vI x4)] [vI r3] h2
  refine ev_aload_n 2 dL_law_220 rfl (x := 27) rfl ?_
  refine ev_aload_n 0 dL_law_221 rfl (x := 200) rfl ?_
  refine ev_iload dL_law_222 (x := x4) rfl ?_
  refine ev_iconst 1 dL_law_224 (by decide) ?_
  refine ev_iadd dL_law_225 ?_
  refine ev_sld hk dL_law_226 b1 ?_
  refine ev_callV (As := [vI (xs (Int32.toNatClampNeg (x4 + 1)))]) (rest := [vI r3]) dL_law_227 mlL_38 rm_mL_law_mX7_remove rfl rfl rfl rfl (Nat.le_of_ble_eq_true rfl) H (fun v h4 H => ?_)
  obtain ⟨r5, rfl, H⟩ := H
  show EvK mL_law K 230 [(0, vR 200), (1, vR 0), (2, vR 27), (3, vR 53), (4, vI x4)] [vI r5, vI r3] h4
  refine ev_icmp_eq 708 dL_law_230 (by decide) ⟨fun c6 => ?_, fun c6 => ?_⟩
  · have H := H.1 c6
    exact ev_sub (L' := [(0, vR 200), (1, vR 0), (2, vR 27), (3, vR 53), (4, vI x4)]) ⟨rfl, rfl, rfl, rfl, rfl, trivial⟩ H
  · have H := H.2 c6
    refine ev_iconst 0 dL_law_233 (by decide) ?_
    exact H.elim
set_option maxRecDepth 20000 in
theorem sL_law_235 {K : KT} {h : Hp} {Lx : Nat} {xs : Nat → Int32} (hk : SK K Lx xs) {x4 : Int32} (H : (vp_in (x4 + 1) Lx ∧ (vp_in (x4 + 2) Lx ∧ ((((xs (Int32.toNatClampNeg (x4 + 2))) = 0) → EvK mL_law K 256 [(0, vR 200), (1, vR 0), (2, vR 27), (3, vR 53), (4, vI x4)] [vI 0, vI (xs (Int32.toNatClampNeg (x4 + 1))), vR 0] h) ∧ ((¬ (xs (Int32.toNatClampNeg (x4 + 2))) = 0) → EvK mL_law K 256 [(0, vR 200), (1, vR 0), (2, vR 27), (3, vR 53), (4, vI x4)] [vI 1, vI (xs (Int32.toNatClampNeg (x4 + 1))), vR 0] h))))) : EvK mL_law K 235 [(0, vR 200), (1, vR 0), (2, vR 27), (3, vR 53), (4, vI x4)] [] h := by
  refine ev_aload_n 1 dL_law_235 rfl (x := 0) rfl ?_
  refine ev_aload_n 0 dL_law_236 rfl (x := 200) rfl ?_
  refine ev_iload dL_law_237 (x := x4) rfl ?_
  refine ev_iconst 1 dL_law_239 (by decide) ?_
  refine ev_iadd dL_law_240 ?_
  obtain ⟨b1, H⟩ := H
  refine ev_sld hk dL_law_241 b1 ?_
  refine ev_aload_n 0 dL_law_242 rfl (x := 200) rfl ?_
  refine ev_iload dL_law_243 (x := x4) rfl ?_
  refine ev_iconst 2 dL_law_245 (by decide) ?_
  refine ev_iadd dL_law_246 ?_
  obtain ⟨b2, H⟩ := H
  refine ev_sld hk dL_law_247 b2 ?_
  refine ev_if_eq 255 dL_law_248 (by decide) ⟨fun c3 => ?_, fun c3 => ?_⟩
  · have H := H.1 c3
    refine ev_iconst 0 dL_law_255 (by decide) ?_
    exact ev_sub (L' := [(0, vR 200), (1, vR 0), (2, vR 27), (3, vR 53), (4, vI x4)]) ⟨rfl, rfl, rfl, rfl, rfl, trivial⟩ H
  · have H := H.2 c3
    refine ev_iconst 1 dL_law_251 (by decide) ?_
    refine ev_goto 256 dL_law_252 (by decide) ?_
    exact ev_sub (L' := [(0, vR 200), (1, vR 0), (2, vR 27), (3, vR 53), (4, vI x4)]) ⟨rfl, rfl, rfl, rfl, rfl, trivial⟩ H
set_option maxRecDepth 20000 in
theorem sL_law_319 {K : KT} {h : Hp} {Lx : Nat} {xs : Nat → Int32} (hk : SK K Lx xs) {x4 : Int32} (H : (vp_in (x4 + 1) Lx ∧ (vp_in (x4 + 2) Lx ∧ EvM mX6_cut [vR 0, vI (xs (Int32.toNatClampNeg (x4 + 1))), vI (xs (Int32.toNatClampNeg (x4 + 2)))] h (fun v h3 => ∃ r4 : Int32, v = some (vI r4) ∧ EvM mX7_cut [vR 27, vI (xs (Int32.toNatClampNeg (x4 + 1))), vI (xs (Int32.toNatClampNeg (x4 + 2)))] h3 (fun v h5 => ∃ r6 : Int32, v = some (vI r6) ∧ (((r4 = r6) → EvK mL_law K 708 [(0, vR 200), (1, vR 0), (2, vR 27), (3, vR 53), (4, vI x4)] [] h5) ∧ ((¬ r4 = r6) → False))))))) : EvK mL_law K 319 [(0, vR 200), (1, vR 0), (2, vR 27), (3, vR 53), (4, vI x4)] [] h := by
  refine ev_aload_n 1 dL_law_319 rfl (x := 0) rfl ?_
  refine ev_aload_n 0 dL_law_320 rfl (x := 200) rfl ?_
  refine ev_iload dL_law_321 (x := x4) rfl ?_
  refine ev_iconst 1 dL_law_323 (by decide) ?_
  refine ev_iadd dL_law_324 ?_
  obtain ⟨b1, H⟩ := H
  refine ev_sld hk dL_law_325 b1 ?_
  refine ev_aload_n 0 dL_law_326 rfl (x := 200) rfl ?_
  refine ev_iload dL_law_327 (x := x4) rfl ?_
  refine ev_iconst 2 dL_law_329 (by decide) ?_
  refine ev_iadd dL_law_330 ?_
  obtain ⟨b2, H⟩ := H
  refine ev_sld hk dL_law_331 b2 ?_
  refine ev_callV (As := [vI (xs (Int32.toNatClampNeg (x4 + 1))), vI (xs (Int32.toNatClampNeg (x4 + 2)))]) (rest := []) dL_law_332 mlL_49 rm_mL_law_mX6_cut rfl rfl rfl rfl (Nat.le_of_ble_eq_true rfl) H (fun v h3 H => ?_)
  obtain ⟨r4, rfl, H⟩ := H
  show EvK mL_law K 335 [(0, vR 200), (1, vR 0), (2, vR 27), (3, vR 53), (4, vI x4)] [vI r4] h3
  refine ev_aload_n 2 dL_law_335 rfl (x := 27) rfl ?_
  refine ev_aload_n 0 dL_law_336 rfl (x := 200) rfl ?_
  refine ev_iload dL_law_337 (x := x4) rfl ?_
  refine ev_iconst 1 dL_law_339 (by decide) ?_
  refine ev_iadd dL_law_340 ?_
  refine ev_sld hk dL_law_341 b1 ?_
  refine ev_aload_n 0 dL_law_342 rfl (x := 200) rfl ?_
  refine ev_iload dL_law_343 (x := x4) rfl ?_
  refine ev_iconst 2 dL_law_345 (by decide) ?_
  refine ev_iadd dL_law_346 ?_
  refine ev_sld hk dL_law_347 b2 ?_
  refine ev_callV (As := [vI (xs (Int32.toNatClampNeg (x4 + 1))), vI (xs (Int32.toNatClampNeg (x4 + 2)))]) (rest := [vI r4]) dL_law_348 mlL_52 rm_mL_law_mX7_cut rfl rfl rfl rfl (Nat.le_of_ble_eq_true rfl) H (fun v h5 H => ?_)
  obtain ⟨r6, rfl, H⟩ := H
  show EvK mL_law K 351 [(0, vR 200), (1, vR 0), (2, vR 27), (3, vR 53), (4, vI x4)] [vI r6, vI r4] h5
  refine ev_icmp_eq 708 dL_law_351 (by decide) ⟨fun c7 => ?_, fun c7 => ?_⟩
  · have H := H.1 c7
    exact ev_sub (L' := [(0, vR 200), (1, vR 0), (2, vR 27), (3, vR 53), (4, vI x4)]) ⟨rfl, rfl, rfl, rfl, rfl, trivial⟩ H
  · have H := H.2 c7
    refine ev_iconst 0 dL_law_354 (by decide) ?_
    exact H.elim
set_option maxRecDepth 20000 in
theorem sL_law_356 {K : KT} {h : Hp} {Lx : Nat} {xs : Nat → Int32} (hk : SK K Lx xs) {x4 : Int32} (H : EvM mX6_start [vR 0] h (fun v h1 => ∃ r2 : Int32, v = some (vI r2) ∧ EvM mX7_start [vR 27] h1 (fun v h3 => ∃ r4 : Int32, v = some (vI r4) ∧ (((r2 = r4) → EvK mL_law K 708 [(0, vR 200), (1, vR 0), (2, vR 27), (3, vR 53), (4, vI x4)] [] h3) ∧ ((¬ r2 = r4) → False))))) : EvK mL_law K 356 [(0, vR 200), (1, vR 0), (2, vR 27), (3, vR 53), (4, vI x4)] [] h := by
  refine ev_aload_n 1 dL_law_356 rfl (x := 0) rfl ?_
  refine ev_callV (As := []) (rest := []) dL_law_357 mlL_53 rm_mL_law_mX6_start rfl rfl rfl rfl (Nat.le_of_ble_eq_true rfl) H (fun v h1 H => ?_)
  obtain ⟨r2, rfl, H⟩ := H
  show EvK mL_law K 360 [(0, vR 200), (1, vR 0), (2, vR 27), (3, vR 53), (4, vI x4)] [vI r2] h1
  refine ev_aload_n 2 dL_law_360 rfl (x := 27) rfl ?_
  refine ev_callV (As := []) (rest := [vI r2]) dL_law_361 mlL_56 rm_mL_law_mX7_start rfl rfl rfl rfl (Nat.le_of_ble_eq_true rfl) H (fun v h3 H => ?_)
  obtain ⟨r4, rfl, H⟩ := H
  show EvK mL_law K 364 [(0, vR 200), (1, vR 0), (2, vR 27), (3, vR 53), (4, vI x4)] [vI r4, vI r2] h3
  refine ev_icmp_eq 708 dL_law_364 (by decide) ⟨fun c5 => ?_, fun c5 => ?_⟩
  · have H := H.1 c5
    exact ev_sub (L' := [(0, vR 200), (1, vR 0), (2, vR 27), (3, vR 53), (4, vI x4)]) ⟨rfl, rfl, rfl, rfl, rfl, trivial⟩ H
  · have H := H.2 c5
    refine ev_iconst 0 dL_law_367 (by decide) ?_
    exact H.elim
set_option maxRecDepth 20000 in
theorem sL_law_369 {K : KT} {h : Hp} {Lx : Nat} {xs : Nat → Int32} (hk : SK K Lx xs) {x4 : Int32} (H : (vp_in (x4 + 1) Lx ∧ ((((xs (Int32.toNatClampNeg (x4 + 1))) = 0) → EvK mL_law K 384 [(0, vR 200), (1, vR 0), (2, vR 27), (3, vR 53), (4, vI x4)] [vI 0, vR 0] h) ∧ ((¬ (xs (Int32.toNatClampNeg (x4 + 1))) = 0) → EvK mL_law K 384 [(0, vR 200), (1, vR 0), (2, vR 27), (3, vR 53), (4, vI x4)] [vI 1, vR 0] h)))) : EvK mL_law K 369 [(0, vR 200), (1, vR 0), (2, vR 27), (3, vR 53), (4, vI x4)] [] h := by
  refine ev_aload_n 1 dL_law_369 rfl (x := 0) rfl ?_
  refine ev_aload_n 0 dL_law_370 rfl (x := 200) rfl ?_
  refine ev_iload dL_law_371 (x := x4) rfl ?_
  refine ev_iconst 1 dL_law_373 (by decide) ?_
  refine ev_iadd dL_law_374 ?_
  obtain ⟨b1, H⟩ := H
  refine ev_sld hk dL_law_375 b1 ?_
  refine ev_if_eq 383 dL_law_376 (by decide) ⟨fun c2 => ?_, fun c2 => ?_⟩
  · have H := H.1 c2
    refine ev_iconst 0 dL_law_383 (by decide) ?_
    exact ev_sub (L' := [(0, vR 200), (1, vR 0), (2, vR 27), (3, vR 53), (4, vI x4)]) ⟨rfl, rfl, rfl, rfl, rfl, trivial⟩ H
  · have H := H.2 c2
    refine ev_iconst 1 dL_law_379 (by decide) ?_
    refine ev_goto 384 dL_law_380 (by decide) ?_
    exact ev_sub (L' := [(0, vR 200), (1, vR 0), (2, vR 27), (3, vR 53), (4, vI x4)]) ⟨rfl, rfl, rfl, rfl, rfl, trivial⟩ H
set_option maxRecDepth 20000 in
theorem sL_law_410 {K : KT} {h : Hp} {Lx : Nat} {xs : Nat → Int32} (hk : SK K Lx xs) {x4 : Int32} (H : EvM mX6_drop [vR 0] h (fun v h1 => ∃ r2 : Int32, v = some (vI r2) ∧ EvM mX7_drop [vR 27] h1 (fun v h3 => ∃ r4 : Int32, v = some (vI r4) ∧ (((r2 = r4) → EvK mL_law K 708 [(0, vR 200), (1, vR 0), (2, vR 27), (3, vR 53), (4, vI x4)] [] h3) ∧ ((¬ r2 = r4) → False))))) : EvK mL_law K 410 [(0, vR 200), (1, vR 0), (2, vR 27), (3, vR 53), (4, vI x4)] [] h := by
  refine ev_aload_n 1 dL_law_410 rfl (x := 0) rfl ?_
  refine ev_callV (As := []) (rest := []) dL_law_411 mlL_62 rm_mL_law_mX6_drop rfl rfl rfl rfl (Nat.le_of_ble_eq_true rfl) H (fun v h1 H => ?_)
  obtain ⟨r2, rfl, H⟩ := H
  show EvK mL_law K 414 [(0, vR 200), (1, vR 0), (2, vR 27), (3, vR 53), (4, vI x4)] [vI r2] h1
  refine ev_aload_n 2 dL_law_414 rfl (x := 27) rfl ?_
  refine ev_callV (As := []) (rest := [vI r2]) dL_law_415 mlL_65 rm_mL_law_mX7_drop rfl rfl rfl rfl (Nat.le_of_ble_eq_true rfl) H (fun v h3 H => ?_)
  obtain ⟨r4, rfl, H⟩ := H
  show EvK mL_law K 418 [(0, vR 200), (1, vR 0), (2, vR 27), (3, vR 53), (4, vI x4)] [vI r4, vI r2] h3
  refine ev_icmp_eq 708 dL_law_418 (by decide) ⟨fun c5 => ?_, fun c5 => ?_⟩
  · have H := H.1 c5
    exact ev_sub (L' := [(0, vR 200), (1, vR 0), (2, vR 27), (3, vR 53), (4, vI x4)]) ⟨rfl, rfl, rfl, rfl, rfl, trivial⟩ H
  · have H := H.2 c5
    refine ev_iconst 0 dL_law_421 (by decide) ?_
    exact H.elim
set_option maxRecDepth 20000 in
theorem sL_law_423 {K : KT} {h : Hp} {Lx : Nat} {xs : Nat → Int32} (hk : SK K Lx xs) {x4 : Int32} (H : (vp_in (x4 + 1) Lx ∧ EvM mX6_step [vR 0, vI (xs (Int32.toNatClampNeg (x4 + 1)))] h (fun v h2 => ∃ r3 : Int32, v = some (vI r3) ∧ EvM mX7_step [vR 27, vI (xs (Int32.toNatClampNeg (x4 + 1)))] h2 (fun v h4 => ∃ r5 : Int32, v = some (vI r5) ∧ (((r3 = r5) → EvK mL_law K 708 [(0, vR 200), (1, vR 0), (2, vR 27), (3, vR 53), (4, vI x4)] [] h4) ∧ ((¬ r3 = r5) → False)))))) : EvK mL_law K 423 [(0, vR 200), (1, vR 0), (2, vR 27), (3, vR 53), (4, vI x4)] [] h := by
  refine ev_aload_n 1 dL_law_423 rfl (x := 0) rfl ?_
  refine ev_aload_n 0 dL_law_424 rfl (x := 200) rfl ?_
  refine ev_iload dL_law_425 (x := x4) rfl ?_
  refine ev_iconst 1 dL_law_427 (by decide) ?_
  refine ev_iadd dL_law_428 ?_
  obtain ⟨b1, H⟩ := H
  refine ev_sld hk dL_law_429 b1 ?_
  refine ev_callV (As := [vI (xs (Int32.toNatClampNeg (x4 + 1)))]) (rest := []) dL_law_430 mlL_66 rm_mL_law_mX6_step rfl rfl rfl rfl (Nat.le_of_ble_eq_true rfl) H (fun v h2 H => ?_)
  obtain ⟨r3, rfl, H⟩ := H
  show EvK mL_law K 433 [(0, vR 200), (1, vR 0), (2, vR 27), (3, vR 53), (4, vI x4)] [vI r3] h2
  refine ev_aload_n 2 dL_law_433 rfl (x := 27) rfl ?_
  refine ev_aload_n 0 dL_law_434 rfl (x := 200) rfl ?_
  refine ev_iload dL_law_435 (x := x4) rfl ?_
  refine ev_iconst 1 dL_law_437 (by decide) ?_
  refine ev_iadd dL_law_438 ?_
  refine ev_sld hk dL_law_439 b1 ?_
  refine ev_callV (As := [vI (xs (Int32.toNatClampNeg (x4 + 1)))]) (rest := [vI r3]) dL_law_440 mlL_69 rm_mL_law_mX7_step rfl rfl rfl rfl (Nat.le_of_ble_eq_true rfl) H (fun v h4 H => ?_)
  obtain ⟨r5, rfl, H⟩ := H
  show EvK mL_law K 443 [(0, vR 200), (1, vR 0), (2, vR 27), (3, vR 53), (4, vI x4)] [vI r5, vI r3] h4
  refine ev_icmp_eq 708 dL_law_443 (by decide) ⟨fun c6 => ?_, fun c6 => ?_⟩
  · have H := H.1 c6
    exact ev_sub (L' := [(0, vR 200), (1, vR 0), (2, vR 27), (3, vR 53), (4, vI x4)]) ⟨rfl, rfl, rfl, rfl, rfl, trivial⟩ H
  · have H := H.2 c6
    refine ev_iconst 0 dL_law_446 (by decide) ?_
    exact H.elim
set_option maxRecDepth 20000 in
theorem sL_law_448 {K : KT} {h : Hp} {Lx : Nat} {xs : Nat → Int32} (hk : SK K Lx xs) {x4 : Int32} (H : (vp_in (x4 + 1) Lx ∧ EvM mX6_info [vR 0, vI (xs (Int32.toNatClampNeg (x4 + 1)))] h (fun v h2 => ∃ r3 : Int32, v = some (vI r3) ∧ EvM mX7_info [vR 27, vI (xs (Int32.toNatClampNeg (x4 + 1)))] h2 (fun v h4 => ∃ r5 : Int32, v = some (vI r5) ∧ (((r3 = r5) → EvK mL_law K 708 [(0, vR 200), (1, vR 0), (2, vR 27), (3, vR 53), (4, vI x4)] [] h4) ∧ ((¬ r3 = r5) → False)))))) : EvK mL_law K 448 [(0, vR 200), (1, vR 0), (2, vR 27), (3, vR 53), (4, vI x4)] [] h := by
  refine ev_aload_n 1 dL_law_448 rfl (x := 0) rfl ?_
  refine ev_aload_n 0 dL_law_449 rfl (x := 200) rfl ?_
  refine ev_iload dL_law_450 (x := x4) rfl ?_
  refine ev_iconst 1 dL_law_452 (by decide) ?_
  refine ev_iadd dL_law_453 ?_
  obtain ⟨b1, H⟩ := H
  refine ev_sld hk dL_law_454 b1 ?_
  refine ev_callV (As := [vI (xs (Int32.toNatClampNeg (x4 + 1)))]) (rest := []) dL_law_455 mlL_70 rm_mL_law_mX6_info rfl rfl rfl rfl (Nat.le_of_ble_eq_true rfl) H (fun v h2 H => ?_)
  obtain ⟨r3, rfl, H⟩ := H
  show EvK mL_law K 458 [(0, vR 200), (1, vR 0), (2, vR 27), (3, vR 53), (4, vI x4)] [vI r3] h2
  refine ev_aload_n 2 dL_law_458 rfl (x := 27) rfl ?_
  refine ev_aload_n 0 dL_law_459 rfl (x := 200) rfl ?_
  refine ev_iload dL_law_460 (x := x4) rfl ?_
  refine ev_iconst 1 dL_law_462 (by decide) ?_
  refine ev_iadd dL_law_463 ?_
  refine ev_sld hk dL_law_464 b1 ?_
  refine ev_callV (As := [vI (xs (Int32.toNatClampNeg (x4 + 1)))]) (rest := [vI r3]) dL_law_465 mlL_73 rm_mL_law_mX7_info rfl rfl rfl rfl (Nat.le_of_ble_eq_true rfl) H (fun v h4 H => ?_)
  obtain ⟨r5, rfl, H⟩ := H
  show EvK mL_law K 468 [(0, vR 200), (1, vR 0), (2, vR 27), (3, vR 53), (4, vI x4)] [vI r5, vI r3] h4
  refine ev_icmp_eq 708 dL_law_468 (by decide) ⟨fun c6 => ?_, fun c6 => ?_⟩
  · have H := H.1 c6
    exact ev_sub (L' := [(0, vR 200), (1, vR 0), (2, vR 27), (3, vR 53), (4, vI x4)]) ⟨rfl, rfl, rfl, rfl, rfl, trivial⟩ H
  · have H := H.2 c6
    refine ev_iconst 0 dL_law_471 (by decide) ?_
    exact H.elim
set_option maxRecDepth 20000 in
theorem sL_law_473 {K : KT} {h : Hp} {Lx : Nat} {xs : Nat → Int32} (hk : SK K Lx xs) {x4 : Int32} (H : (vp_in (x4 + 1) Lx ∧ (vp_in (x4 + 2) Lx ∧ ((((xs (Int32.toNatClampNeg (x4 + 2))) = 0) → EvK mL_law K 494 [(0, vR 200), (1, vR 0), (2, vR 27), (3, vR 53), (4, vI x4)] [vI 0, vI (xs (Int32.toNatClampNeg (x4 + 1))), vR 0] h) ∧ ((¬ (xs (Int32.toNatClampNeg (x4 + 2))) = 0) → EvK mL_law K 494 [(0, vR 200), (1, vR 0), (2, vR 27), (3, vR 53), (4, vI x4)] [vI 1, vI (xs (Int32.toNatClampNeg (x4 + 1))), vR 0] h))))) : EvK mL_law K 473 [(0, vR 200), (1, vR 0), (2, vR 27), (3, vR 53), (4, vI x4)] [] h := by
  refine ev_aload_n 1 dL_law_473 rfl (x := 0) rfl ?_
  refine ev_aload_n 0 dL_law_474 rfl (x := 200) rfl ?_
  refine ev_iload dL_law_475 (x := x4) rfl ?_
  refine ev_iconst 1 dL_law_477 (by decide) ?_
  refine ev_iadd dL_law_478 ?_
  obtain ⟨b1, H⟩ := H
  refine ev_sld hk dL_law_479 b1 ?_
  refine ev_aload_n 0 dL_law_480 rfl (x := 200) rfl ?_
  refine ev_iload dL_law_481 (x := x4) rfl ?_
  refine ev_iconst 2 dL_law_483 (by decide) ?_
  refine ev_iadd dL_law_484 ?_
  obtain ⟨b2, H⟩ := H
  refine ev_sld hk dL_law_485 b2 ?_
  refine ev_if_eq 493 dL_law_486 (by decide) ⟨fun c3 => ?_, fun c3 => ?_⟩
  · have H := H.1 c3
    refine ev_iconst 0 dL_law_493 (by decide) ?_
    exact ev_sub (L' := [(0, vR 200), (1, vR 0), (2, vR 27), (3, vR 53), (4, vI x4)]) ⟨rfl, rfl, rfl, rfl, rfl, trivial⟩ H
  · have H := H.2 c3
    refine ev_iconst 1 dL_law_489 (by decide) ?_
    refine ev_goto 494 dL_law_490 (by decide) ?_
    exact ev_sub (L' := [(0, vR 200), (1, vR 0), (2, vR 27), (3, vR 53), (4, vI x4)]) ⟨rfl, rfl, rfl, rfl, rfl, trivial⟩ H
set_option maxRecDepth 20000 in
theorem sL_law_557 {K : KT} {h : Hp} {Lx : Nat} {xs : Nat → Int32} (hk : SK K Lx xs) {x4 : Int32} (H : (vp_in (x4 + 1) Lx ∧ EvM mX6_leaf [vR 0, vI (xs (Int32.toNatClampNeg (x4 + 1)))] h (fun v h2 => ∃ r3 : Int32, v = some (vI r3) ∧ EvM mX7_leaf [vR 27, vI (xs (Int32.toNatClampNeg (x4 + 1)))] h2 (fun v h4 => ∃ r5 : Int32, v = some (vI r5) ∧ (((r3 = r5) → EvK mL_law K 708 [(0, vR 200), (1, vR 0), (2, vR 27), (3, vR 53), (4, vI x4)] [] h4) ∧ ((¬ r3 = r5) → False)))))) : EvK mL_law K 557 [(0, vR 200), (1, vR 0), (2, vR 27), (3, vR 53), (4, vI x4)] [] h := by
  refine ev_aload_n 1 dL_law_557 rfl (x := 0) rfl ?_
  refine ev_aload_n 0 dL_law_558 rfl (x := 200) rfl ?_
  refine ev_iload dL_law_559 (x := x4) rfl ?_
  refine ev_iconst 1 dL_law_561 (by decide) ?_
  refine ev_iadd dL_law_562 ?_
  obtain ⟨b1, H⟩ := H
  refine ev_sld hk dL_law_563 b1 ?_
  refine ev_callV (As := [vI (xs (Int32.toNatClampNeg (x4 + 1)))]) (rest := []) dL_law_564 mlL_77 rm_mL_law_mX6_leaf rfl rfl rfl rfl (Nat.le_of_ble_eq_true rfl) H (fun v h2 H => ?_)
  obtain ⟨r3, rfl, H⟩ := H
  show EvK mL_law K 567 [(0, vR 200), (1, vR 0), (2, vR 27), (3, vR 53), (4, vI x4)] [vI r3] h2
  refine ev_aload_n 2 dL_law_567 rfl (x := 27) rfl ?_
  refine ev_aload_n 0 dL_law_568 rfl (x := 200) rfl ?_
  refine ev_iload dL_law_569 (x := x4) rfl ?_
  refine ev_iconst 1 dL_law_571 (by decide) ?_
  refine ev_iadd dL_law_572 ?_
  refine ev_sld hk dL_law_573 b1 ?_
  refine ev_callV (As := [vI (xs (Int32.toNatClampNeg (x4 + 1)))]) (rest := [vI r3]) dL_law_574 mlL_80 rm_mL_law_mX7_leaf rfl rfl rfl rfl (Nat.le_of_ble_eq_true rfl) H (fun v h4 H => ?_)
  obtain ⟨r5, rfl, H⟩ := H
  show EvK mL_law K 577 [(0, vR 200), (1, vR 0), (2, vR 27), (3, vR 53), (4, vI x4)] [vI r5, vI r3] h4
  refine ev_icmp_eq 708 dL_law_577 (by decide) ⟨fun c6 => ?_, fun c6 => ?_⟩
  · have H := H.1 c6
    exact ev_sub (L' := [(0, vR 200), (1, vR 0), (2, vR 27), (3, vR 53), (4, vI x4)]) ⟨rfl, rfl, rfl, rfl, rfl, trivial⟩ H
  · have H := H.2 c6
    refine ev_iconst 0 dL_law_580 (by decide) ?_
    exact H.elim
set_option maxRecDepth 20000 in
theorem sL_law_582 {K : KT} {h : Hp} {Lx : Nat} {xs : Nat → Int32} (hk : SK K Lx xs) {x4 : Int32} (H : (vp_in (x4 + 1) Lx ∧ (vp_in (x4 + 2) Lx ∧ EvM mX6_ask [vR 0, vI (xs (Int32.toNatClampNeg (x4 + 1))), vI (xs (Int32.toNatClampNeg (x4 + 2)))] h (fun v h3 => ∃ r4 : Int32, v = some (vI r4) ∧ EvM mX7_ask [vR 27, vI (xs (Int32.toNatClampNeg (x4 + 1))), vI (xs (Int32.toNatClampNeg (x4 + 2)))] h3 (fun v h5 => ∃ r6 : Int32, v = some (vI r6) ∧ (((r4 = r6) → EvK mL_law K 708 [(0, vR 200), (1, vR 0), (2, vR 27), (3, vR 53), (4, vI x4)] [] h5) ∧ ((¬ r4 = r6) → False))))))) : EvK mL_law K 582 [(0, vR 200), (1, vR 0), (2, vR 27), (3, vR 53), (4, vI x4)] [] h := by
  refine ev_aload_n 1 dL_law_582 rfl (x := 0) rfl ?_
  refine ev_aload_n 0 dL_law_583 rfl (x := 200) rfl ?_
  refine ev_iload dL_law_584 (x := x4) rfl ?_
  refine ev_iconst 1 dL_law_586 (by decide) ?_
  refine ev_iadd dL_law_587 ?_
  obtain ⟨b1, H⟩ := H
  refine ev_sld hk dL_law_588 b1 ?_
  refine ev_aload_n 0 dL_law_589 rfl (x := 200) rfl ?_
  refine ev_iload dL_law_590 (x := x4) rfl ?_
  refine ev_iconst 2 dL_law_592 (by decide) ?_
  refine ev_iadd dL_law_593 ?_
  obtain ⟨b2, H⟩ := H
  refine ev_sld hk dL_law_594 b2 ?_
  refine ev_callV (As := [vI (xs (Int32.toNatClampNeg (x4 + 1))), vI (xs (Int32.toNatClampNeg (x4 + 2)))]) (rest := []) dL_law_595 mlL_81 rm_mL_law_mX6_ask rfl rfl rfl rfl (Nat.le_of_ble_eq_true rfl) H (fun v h3 H => ?_)
  obtain ⟨r4, rfl, H⟩ := H
  show EvK mL_law K 598 [(0, vR 200), (1, vR 0), (2, vR 27), (3, vR 53), (4, vI x4)] [vI r4] h3
  refine ev_aload_n 2 dL_law_598 rfl (x := 27) rfl ?_
  refine ev_aload_n 0 dL_law_599 rfl (x := 200) rfl ?_
  refine ev_iload dL_law_600 (x := x4) rfl ?_
  refine ev_iconst 1 dL_law_602 (by decide) ?_
  refine ev_iadd dL_law_603 ?_
  refine ev_sld hk dL_law_604 b1 ?_
  refine ev_aload_n 0 dL_law_605 rfl (x := 200) rfl ?_
  refine ev_iload dL_law_606 (x := x4) rfl ?_
  refine ev_iconst 2 dL_law_608 (by decide) ?_
  refine ev_iadd dL_law_609 ?_
  refine ev_sld hk dL_law_610 b2 ?_
  refine ev_callV (As := [vI (xs (Int32.toNatClampNeg (x4 + 1))), vI (xs (Int32.toNatClampNeg (x4 + 2)))]) (rest := [vI r4]) dL_law_611 mlL_84 rm_mL_law_mX7_ask rfl rfl rfl rfl (Nat.le_of_ble_eq_true rfl) H (fun v h5 H => ?_)
  obtain ⟨r6, rfl, H⟩ := H
  show EvK mL_law K 614 [(0, vR 200), (1, vR 0), (2, vR 27), (3, vR 53), (4, vI x4)] [vI r6, vI r4] h5
  refine ev_icmp_eq 708 dL_law_614 (by decide) ⟨fun c7 => ?_, fun c7 => ?_⟩
  · have H := H.1 c7
    exact ev_sub (L' := [(0, vR 200), (1, vR 0), (2, vR 27), (3, vR 53), (4, vI x4)]) ⟨rfl, rfl, rfl, rfl, rfl, trivial⟩ H
  · have H := H.2 c7
    refine ev_iconst 0 dL_law_617 (by decide) ?_
    exact H.elim
set_option maxRecDepth 20000 in
theorem sL_law_619 {K : KT} {h : Hp} {Lx : Nat} {xs : Nat → Int32} (hk : SK K Lx xs) {x4 : Int32} (H : (vp_in (x4 + 1) Lx ∧ EvM mX6_answer [vR 0, vI (xs (Int32.toNatClampNeg (x4 + 1)))] h (fun v h2 => ∃ r3 : Int32, v = some (vI r3) ∧ EvM mX7_answer [vR 27, vI (xs (Int32.toNatClampNeg (x4 + 1)))] h2 (fun v h4 => ∃ r5 : Int32, v = some (vI r5) ∧ (((r3 = r5) → EvK mL_law K 708 [(0, vR 200), (1, vR 0), (2, vR 27), (3, vR 53), (4, vI x4)] [] h4) ∧ ((¬ r3 = r5) → False)))))) : EvK mL_law K 619 [(0, vR 200), (1, vR 0), (2, vR 27), (3, vR 53), (4, vI x4)] [] h := by
  refine ev_aload_n 1 dL_law_619 rfl (x := 0) rfl ?_
  refine ev_aload_n 0 dL_law_620 rfl (x := 200) rfl ?_
  refine ev_iload dL_law_621 (x := x4) rfl ?_
  refine ev_iconst 1 dL_law_623 (by decide) ?_
  refine ev_iadd dL_law_624 ?_
  obtain ⟨b1, H⟩ := H
  refine ev_sld hk dL_law_625 b1 ?_
  refine ev_callV (As := [vI (xs (Int32.toNatClampNeg (x4 + 1)))]) (rest := []) dL_law_626 mlL_85 rm_mL_law_mX6_answer rfl rfl rfl rfl (Nat.le_of_ble_eq_true rfl) H (fun v h2 H => ?_)
  obtain ⟨r3, rfl, H⟩ := H
  show EvK mL_law K 629 [(0, vR 200), (1, vR 0), (2, vR 27), (3, vR 53), (4, vI x4)] [vI r3] h2
  refine ev_aload_n 2 dL_law_629 rfl (x := 27) rfl ?_
  refine ev_aload_n 0 dL_law_630 rfl (x := 200) rfl ?_
  refine ev_iload dL_law_631 (x := x4) rfl ?_
  refine ev_iconst 1 dL_law_633 (by decide) ?_
  refine ev_iadd dL_law_634 ?_
  refine ev_sld hk dL_law_635 b1 ?_
  refine ev_callV (As := [vI (xs (Int32.toNatClampNeg (x4 + 1)))]) (rest := [vI r3]) dL_law_636 mlL_88 rm_mL_law_mX7_answer rfl rfl rfl rfl (Nat.le_of_ble_eq_true rfl) H (fun v h4 H => ?_)
  obtain ⟨r5, rfl, H⟩ := H
  show EvK mL_law K 639 [(0, vR 200), (1, vR 0), (2, vR 27), (3, vR 53), (4, vI x4)] [vI r5, vI r3] h4
  refine ev_icmp_eq 708 dL_law_639 (by decide) ⟨fun c6 => ?_, fun c6 => ?_⟩
  · have H := H.1 c6
    exact ev_sub (L' := [(0, vR 200), (1, vR 0), (2, vR 27), (3, vR 53), (4, vI x4)]) ⟨rfl, rfl, rfl, rfl, rfl, trivial⟩ H
  · have H := H.2 c6
    refine ev_iconst 0 dL_law_642 (by decide) ?_
    exact H.elim
set_option maxRecDepth 20000 in
theorem sL_law_644 {K : KT} {h : Hp} {Lx : Nat} {xs : Nat → Int32} (hk : SK K Lx xs) {x4 : Int32} (H : EvM mX6_cost [vR 0] h (fun v h1 => ∃ r2 : Int32, v = some (vI r2) ∧ EvM mX7_cost [vR 27] h1 (fun v h3 => ∃ r4 : Int32, v = some (vI r4) ∧ (((r2 = r4) → EvK mL_law K 708 [(0, vR 200), (1, vR 0), (2, vR 27), (3, vR 53), (4, vI x4)] [] h3) ∧ ((¬ r2 = r4) → False))))) : EvK mL_law K 644 [(0, vR 200), (1, vR 0), (2, vR 27), (3, vR 53), (4, vI x4)] [] h := by
  refine ev_aload_n 1 dL_law_644 rfl (x := 0) rfl ?_
  refine ev_callV (As := []) (rest := []) dL_law_645 mlL_89 rm_mL_law_mX6_cost rfl rfl rfl rfl (Nat.le_of_ble_eq_true rfl) H (fun v h1 H => ?_)
  obtain ⟨r2, rfl, H⟩ := H
  show EvK mL_law K 648 [(0, vR 200), (1, vR 0), (2, vR 27), (3, vR 53), (4, vI x4)] [vI r2] h1
  refine ev_aload_n 2 dL_law_648 rfl (x := 27) rfl ?_
  refine ev_callV (As := []) (rest := [vI r2]) dL_law_649 mlL_92 rm_mL_law_mX7_cost rfl rfl rfl rfl (Nat.le_of_ble_eq_true rfl) H (fun v h3 H => ?_)
  obtain ⟨r4, rfl, H⟩ := H
  show EvK mL_law K 652 [(0, vR 200), (1, vR 0), (2, vR 27), (3, vR 53), (4, vI x4)] [vI r4, vI r2] h3
  refine ev_icmp_eq 708 dL_law_652 (by decide) ⟨fun c5 => ?_, fun c5 => ?_⟩
  · have H := H.1 c5
    exact ev_sub (L' := [(0, vR 200), (1, vR 0), (2, vR 27), (3, vR 53), (4, vI x4)]) ⟨rfl, rfl, rfl, rfl, rfl, trivial⟩ H
  · have H := H.2 c5
    refine ev_iconst 0 dL_law_655 (by decide) ?_
    exact H.elim
set_option maxRecDepth 20000 in
theorem sL_law_657 {K : KT} {h : Hp} {Lx : Nat} {xs : Nat → Int32} (hk : SK K Lx xs) {x4 : Int32} (H : (vp_in (x4 + 1) Lx ∧ EvM mX6_blocks [vR 0, vI (xs (Int32.toNatClampNeg (x4 + 1)))] h (fun v h2 => ∃ r3 : Int32, v = some (vI r3) ∧ EvM mX7_blocks [vR 27, vI (xs (Int32.toNatClampNeg (x4 + 1)))] h2 (fun v h4 => ∃ r5 : Int32, v = some (vI r5) ∧ (((r3 = r5) → EvK mL_law K 708 [(0, vR 200), (1, vR 0), (2, vR 27), (3, vR 53), (4, vI x4)] [] h4) ∧ ((¬ r3 = r5) → False)))))) : EvK mL_law K 657 [(0, vR 200), (1, vR 0), (2, vR 27), (3, vR 53), (4, vI x4)] [] h := by
  refine ev_aload_n 1 dL_law_657 rfl (x := 0) rfl ?_
  refine ev_aload_n 0 dL_law_658 rfl (x := 200) rfl ?_
  refine ev_iload dL_law_659 (x := x4) rfl ?_
  refine ev_iconst 1 dL_law_661 (by decide) ?_
  refine ev_iadd dL_law_662 ?_
  obtain ⟨b1, H⟩ := H
  refine ev_sld hk dL_law_663 b1 ?_
  refine ev_callV (As := [vI (xs (Int32.toNatClampNeg (x4 + 1)))]) (rest := []) dL_law_664 mlL_93 rm_mL_law_mX6_blocks rfl rfl rfl rfl (Nat.le_of_ble_eq_true rfl) H (fun v h2 H => ?_)
  obtain ⟨r3, rfl, H⟩ := H
  show EvK mL_law K 667 [(0, vR 200), (1, vR 0), (2, vR 27), (3, vR 53), (4, vI x4)] [vI r3] h2
  refine ev_aload_n 2 dL_law_667 rfl (x := 27) rfl ?_
  refine ev_aload_n 0 dL_law_668 rfl (x := 200) rfl ?_
  refine ev_iload dL_law_669 (x := x4) rfl ?_
  refine ev_iconst 1 dL_law_671 (by decide) ?_
  refine ev_iadd dL_law_672 ?_
  refine ev_sld hk dL_law_673 b1 ?_
  refine ev_callV (As := [vI (xs (Int32.toNatClampNeg (x4 + 1)))]) (rest := [vI r3]) dL_law_674 mlL_96 rm_mL_law_mX7_blocks rfl rfl rfl rfl (Nat.le_of_ble_eq_true rfl) H (fun v h4 H => ?_)
  obtain ⟨r5, rfl, H⟩ := H
  show EvK mL_law K 677 [(0, vR 200), (1, vR 0), (2, vR 27), (3, vR 53), (4, vI x4)] [vI r5, vI r3] h4
  refine ev_icmp_eq 708 dL_law_677 (by decide) ⟨fun c6 => ?_, fun c6 => ?_⟩
  · have H := H.1 c6
    exact ev_sub (L' := [(0, vR 200), (1, vR 0), (2, vR 27), (3, vR 53), (4, vI x4)]) ⟨rfl, rfl, rfl, rfl, rfl, trivial⟩ H
  · have H := H.2 c6
    refine ev_iconst 0 dL_law_680 (by decide) ?_
    exact H.elim
set_option maxRecDepth 20000 in
theorem sL_law_682 {K : KT} {h : Hp} {Lx : Nat} {xs : Nat → Int32} (hk : SK K Lx xs) {x4 : Int32} (H : EvM mX6_rows [vR 0] h (fun v h1 => ∃ r2 : Int32, v = some (vI r2) ∧ EvM mX7_rows [vR 27] h1 (fun v h3 => ∃ r4 : Int32, v = some (vI r4) ∧ (((r2 = r4) → EvK mL_law K 708 [(0, vR 200), (1, vR 0), (2, vR 27), (3, vR 53), (4, vI x4)] [] h3) ∧ ((¬ r2 = r4) → False))))) : EvK mL_law K 682 [(0, vR 200), (1, vR 0), (2, vR 27), (3, vR 53), (4, vI x4)] [] h := by
  refine ev_aload_n 1 dL_law_682 rfl (x := 0) rfl ?_
  refine ev_callV (As := []) (rest := []) dL_law_683 mlL_97 rm_mL_law_mX6_rows rfl rfl rfl rfl (Nat.le_of_ble_eq_true rfl) H (fun v h1 H => ?_)
  obtain ⟨r2, rfl, H⟩ := H
  show EvK mL_law K 686 [(0, vR 200), (1, vR 0), (2, vR 27), (3, vR 53), (4, vI x4)] [vI r2] h1
  refine ev_aload_n 2 dL_law_686 rfl (x := 27) rfl ?_
  refine ev_callV (As := []) (rest := [vI r2]) dL_law_687 mlL_100 rm_mL_law_mX7_rows rfl rfl rfl rfl (Nat.le_of_ble_eq_true rfl) H (fun v h3 H => ?_)
  obtain ⟨r4, rfl, H⟩ := H
  show EvK mL_law K 690 [(0, vR 200), (1, vR 0), (2, vR 27), (3, vR 53), (4, vI x4)] [vI r4, vI r2] h3
  refine ev_icmp_eq 708 dL_law_690 (by decide) ⟨fun c5 => ?_, fun c5 => ?_⟩
  · have H := H.1 c5
    exact ev_sub (L' := [(0, vR 200), (1, vR 0), (2, vR 27), (3, vR 53), (4, vI x4)]) ⟨rfl, rfl, rfl, rfl, rfl, trivial⟩ H
  · have H := H.2 c5
    refine ev_iconst 0 dL_law_693 (by decide) ?_
    exact H.elim
set_option maxRecDepth 20000 in
theorem sL_law_695 {K : KT} {h : Hp} {Lx : Nat} {xs : Nat → Int32} (hk : SK K Lx xs) {x4 : Int32} (H : EvM mX6_audit [vR 0] h (fun v h1 => ∃ r2 : Int32, v = some (vI r2) ∧ EvM mX7_audit [vR 27] h1 (fun v h3 => ∃ r4 : Int32, v = some (vI r4) ∧ (((r2 = r4) → EvK mL_law K 708 [(0, vR 200), (1, vR 0), (2, vR 27), (3, vR 53), (4, vI x4)] [] h3) ∧ ((¬ r2 = r4) → False))))) : EvK mL_law K 695 [(0, vR 200), (1, vR 0), (2, vR 27), (3, vR 53), (4, vI x4)] [] h := by
  refine ev_aload_n 1 dL_law_695 rfl (x := 0) rfl ?_
  refine ev_callV (As := []) (rest := []) dL_law_696 mlL_101 rm_mL_law_mX6_audit rfl rfl rfl rfl (Nat.le_of_ble_eq_true rfl) H (fun v h1 H => ?_)
  obtain ⟨r2, rfl, H⟩ := H
  show EvK mL_law K 699 [(0, vR 200), (1, vR 0), (2, vR 27), (3, vR 53), (4, vI x4)] [vI r2] h1
  refine ev_aload_n 2 dL_law_699 rfl (x := 27) rfl ?_
  refine ev_callV (As := []) (rest := [vI r2]) dL_law_700 mlL_104 rm_mL_law_mX7_audit rfl rfl rfl rfl (Nat.le_of_ble_eq_true rfl) H (fun v h3 H => ?_)
  obtain ⟨r4, rfl, H⟩ := H
  show EvK mL_law K 703 [(0, vR 200), (1, vR 0), (2, vR 27), (3, vR 53), (4, vI x4)] [vI r4, vI r2] h3
  refine ev_icmp_eq 708 dL_law_703 (by decide) ⟨fun c5 => ?_, fun c5 => ?_⟩
  · have H := H.1 c5
    exact ev_sub (L' := [(0, vR 200), (1, vR 0), (2, vR 27), (3, vR 53), (4, vI x4)]) ⟨rfl, rfl, rfl, rfl, rfl, trivial⟩ H
  · have H := H.2 c5
    refine ev_iconst 0 dL_law_706 (by decide) ?_
    exact H.elim
set_option maxRecDepth 20000 in
theorem sL_law_260 {K : KT} {h : Hp} {Lx : Nat} {xs : Nat → Int32} (hk : SK K Lx xs) {x4 : Int32} {s0 : Int32} (H : (vp_in (x4 + 1) Lx ∧ (vp_in (x4 + 2) Lx ∧ ((((xs (Int32.toNatClampNeg (x4 + 2))) = 0) → EvK mL_law K 283 [(0, vR 200), (1, vR 0), (2, vR 27), (3, vR 53), (4, vI x4), (5, vI s0)] [vI 0, vI (xs (Int32.toNatClampNeg (x4 + 1))), vR 27] h) ∧ ((¬ (xs (Int32.toNatClampNeg (x4 + 2))) = 0) → EvK mL_law K 283 [(0, vR 200), (1, vR 0), (2, vR 27), (3, vR 53), (4, vI x4), (5, vI s0)] [vI 1, vI (xs (Int32.toNatClampNeg (x4 + 1))), vR 27] h))))) : EvK mL_law K 260 [(0, vR 200), (1, vR 0), (2, vR 27), (3, vR 53), (4, vI x4)] [vI s0] h := by
  refine ev_istore dL_law_260 (by decide) ?_
  refine ev_L (L' := [(5, vI s0), (0, vR 200), (1, vR 0), (2, vR 27), (3, vR 53), (4, vI x4)]) rfl ?_
  refine ev_aload_n 2 dL_law_262 rfl (x := 27) rfl ?_
  refine ev_aload_n 0 dL_law_263 rfl (x := 200) rfl ?_
  refine ev_iload dL_law_264 (x := x4) rfl ?_
  refine ev_iconst 1 dL_law_266 (by decide) ?_
  refine ev_iadd dL_law_267 ?_
  obtain ⟨b1, H⟩ := H
  refine ev_sld hk dL_law_268 b1 ?_
  refine ev_aload_n 0 dL_law_269 rfl (x := 200) rfl ?_
  refine ev_iload dL_law_270 (x := x4) rfl ?_
  refine ev_iconst 2 dL_law_272 (by decide) ?_
  refine ev_iadd dL_law_273 ?_
  obtain ⟨b2, H⟩ := H
  refine ev_sld hk dL_law_274 b2 ?_
  refine ev_if_eq 282 dL_law_275 (by decide) ⟨fun c3 => ?_, fun c3 => ?_⟩
  · have H := H.1 c3
    refine ev_iconst 0 dL_law_282 (by decide) ?_
    exact ev_sub (L' := [(0, vR 200), (1, vR 0), (2, vR 27), (3, vR 53), (4, vI x4), (5, vI s0)]) ⟨rfl, rfl, rfl, rfl, rfl, rfl, trivial⟩ H
  · have H := H.2 c3
    refine ev_iconst 1 dL_law_278 (by decide) ?_
    refine ev_goto 283 dL_law_279 (by decide) ?_
    exact ev_sub (L' := [(0, vR 200), (1, vR 0), (2, vR 27), (3, vR 53), (4, vI x4), (5, vI s0)]) ⟨rfl, rfl, rfl, rfl, rfl, rfl, trivial⟩ H
set_option maxRecDepth 20000 in
theorem sL_law_498 {K : KT} {h : Hp} {Lx : Nat} {xs : Nat → Int32} (hk : SK K Lx xs) {x4 : Int32} {s0 : Int32} (H : (vp_in (x4 + 1) Lx ∧ (vp_in (x4 + 2) Lx ∧ ((((xs (Int32.toNatClampNeg (x4 + 2))) = 0) → EvK mL_law K 521 [(0, vR 200), (1, vR 0), (2, vR 27), (3, vR 53), (4, vI x4), (5, vI s0)] [vI 0, vI (xs (Int32.toNatClampNeg (x4 + 1))), vR 27] h) ∧ ((¬ (xs (Int32.toNatClampNeg (x4 + 2))) = 0) → EvK mL_law K 521 [(0, vR 200), (1, vR 0), (2, vR 27), (3, vR 53), (4, vI x4), (5, vI s0)] [vI 1, vI (xs (Int32.toNatClampNeg (x4 + 1))), vR 27] h))))) : EvK mL_law K 498 [(0, vR 200), (1, vR 0), (2, vR 27), (3, vR 53), (4, vI x4)] [vI s0] h := by
  refine ev_istore dL_law_498 (by decide) ?_
  refine ev_L (L' := [(5, vI s0), (0, vR 200), (1, vR 0), (2, vR 27), (3, vR 53), (4, vI x4)]) rfl ?_
  refine ev_aload_n 2 dL_law_500 rfl (x := 27) rfl ?_
  refine ev_aload_n 0 dL_law_501 rfl (x := 200) rfl ?_
  refine ev_iload dL_law_502 (x := x4) rfl ?_
  refine ev_iconst 1 dL_law_504 (by decide) ?_
  refine ev_iadd dL_law_505 ?_
  obtain ⟨b1, H⟩ := H
  refine ev_sld hk dL_law_506 b1 ?_
  refine ev_aload_n 0 dL_law_507 rfl (x := 200) rfl ?_
  refine ev_iload dL_law_508 (x := x4) rfl ?_
  refine ev_iconst 2 dL_law_510 (by decide) ?_
  refine ev_iadd dL_law_511 ?_
  obtain ⟨b2, H⟩ := H
  refine ev_sld hk dL_law_512 b2 ?_
  refine ev_if_eq 520 dL_law_513 (by decide) ⟨fun c3 => ?_, fun c3 => ?_⟩
  · have H := H.1 c3
    refine ev_iconst 0 dL_law_520 (by decide) ?_
    exact ev_sub (L' := [(0, vR 200), (1, vR 0), (2, vR 27), (3, vR 53), (4, vI x4), (5, vI s0)]) ⟨rfl, rfl, rfl, rfl, rfl, rfl, trivial⟩ H
  · have H := H.2 c3
    refine ev_iconst 1 dL_law_516 (by decide) ?_
    refine ev_goto 521 dL_law_517 (by decide) ?_
    exact ev_sub (L' := [(0, vR 200), (1, vR 0), (2, vR 27), (3, vR 53), (4, vI x4), (5, vI s0)]) ⟨rfl, rfl, rfl, rfl, rfl, rfl, trivial⟩ H
set_option maxRecDepth 20000 in
theorem sL_law_256 {K : KT} {h : Hp} {Lx : Nat} {xs : Nat → Int32} (hk : SK K Lx xs) {x4 : Int32} {s0 : Int32} {s1 : Int32} (H : EvK mL_law K 257 [(0, vR 200), (1, vR 0), (2, vR 27), (3, vR 53), (4, vI x4)] [vR 53, vI s0, vI s1, vR 0] h) : EvK mL_law K 256 [(0, vR 200), (1, vR 0), (2, vR 27), (3, vR 53), (4, vI x4)] [vI s0, vI s1, vR 0] h := by
  refine ev_aload_n 3 dL_law_256 rfl (x := 53) rfl ?_
  exact ev_sub (L' := [(0, vR 200), (1, vR 0), (2, vR 27), (3, vR 53), (4, vI x4)]) ⟨rfl, rfl, rfl, rfl, rfl, trivial⟩ H
set_option maxRecDepth 20000 in
theorem sL_law_384 {K : KT} {h : Hp} {Lx : Nat} {xs : Nat → Int32} (hk : SK K Lx xs) {x4 : Int32} {s0 : Int32} (H : EvM mX6_build [vR 0, vI s0] h (fun v h1 => ∃ r2 : Int32, v = some (vI r2) ∧ (vp_in (x4 + 1) Lx ∧ ((((xs (Int32.toNatClampNeg (x4 + 1))) = 0) → EvK mL_law K 402 [(0, vR 200), (1, vR 0), (2, vR 27), (3, vR 53), (4, vI x4)] [vI 0, vR 27, vI r2] h1) ∧ ((¬ (xs (Int32.toNatClampNeg (x4 + 1))) = 0) → EvK mL_law K 402 [(0, vR 200), (1, vR 0), (2, vR 27), (3, vR 53), (4, vI x4)] [vI 1, vR 27, vI r2] h1))))) : EvK mL_law K 384 [(0, vR 200), (1, vR 0), (2, vR 27), (3, vR 53), (4, vI x4)] [vI s0, vR 0] h := by
  refine ev_callV (As := [vI s0]) (rest := []) dL_law_384 mlL_57 rm_mL_law_mX6_build rfl rfl rfl rfl (Nat.le_of_ble_eq_true rfl) H (fun v h1 H => ?_)
  obtain ⟨r2, rfl, H⟩ := H
  show EvK mL_law K 387 [(0, vR 200), (1, vR 0), (2, vR 27), (3, vR 53), (4, vI x4)] [vI r2] h1
  refine ev_aload_n 2 dL_law_387 rfl (x := 27) rfl ?_
  refine ev_aload_n 0 dL_law_388 rfl (x := 200) rfl ?_
  refine ev_iload dL_law_389 (x := x4) rfl ?_
  refine ev_iconst 1 dL_law_391 (by decide) ?_
  refine ev_iadd dL_law_392 ?_
  obtain ⟨b3, H⟩ := H
  refine ev_sld hk dL_law_393 b3 ?_
  refine ev_if_eq 401 dL_law_394 (by decide) ⟨fun c4 => ?_, fun c4 => ?_⟩
  · have H := H.1 c4
    refine ev_iconst 0 dL_law_401 (by decide) ?_
    exact ev_sub (L' := [(0, vR 200), (1, vR 0), (2, vR 27), (3, vR 53), (4, vI x4)]) ⟨rfl, rfl, rfl, rfl, rfl, trivial⟩ H
  · have H := H.2 c4
    refine ev_iconst 1 dL_law_397 (by decide) ?_
    refine ev_goto 402 dL_law_398 (by decide) ?_
    exact ev_sub (L' := [(0, vR 200), (1, vR 0), (2, vR 27), (3, vR 53), (4, vI x4)]) ⟨rfl, rfl, rfl, rfl, rfl, trivial⟩ H
set_option maxRecDepth 20000 in
theorem sL_law_494 {K : KT} {h : Hp} {Lx : Nat} {xs : Nat → Int32} (hk : SK K Lx xs) {x4 : Int32} {s0 : Int32} {s1 : Int32} (H : EvK mL_law K 495 [(0, vR 200), (1, vR 0), (2, vR 27), (3, vR 53), (4, vI x4)] [vR 53, vI s0, vI s1, vR 0] h) : EvK mL_law K 494 [(0, vR 200), (1, vR 0), (2, vR 27), (3, vR 53), (4, vI x4)] [vI s0, vI s1, vR 0] h := by
  refine ev_aload_n 3 dL_law_494 rfl (x := 53) rfl ?_
  exact ev_sub (L' := [(0, vR 200), (1, vR 0), (2, vR 27), (3, vR 53), (4, vI x4)]) ⟨rfl, rfl, rfl, rfl, rfl, trivial⟩ H
set_option maxRecDepth 20000 in
theorem sL_law_283 {K : KT} {h : Hp} {Lx : Nat} {xs : Nat → Int32} (hk : SK K Lx xs) {x4 : Int32} {x5 : Int32} {s0 : Int32} {s1 : Int32} (H : EvM mX7_row [vR 27, vI s1, vI s0] h (fun v h1 => ∃ r2 : Int32, v = some (vI r2) ∧ EvM mX7_thrown [vR 27] h1 (fun v h3 => ∃ r4 : Int32, v = some (vI r4) ∧ (((r4 = x5) → (((¬ x5 = 0) → EvK mL_law K 708 [(0, vR 200), (1, vR 0), (2, vR 27), (3, vR 53), (4, vI x4)] [] h3) ∧ ((x5 = 0) → ((((lg_cmp (h3.2.1 53 (Int32.toNatClampNeg 0)) (Int32.toInt64 r2)) = 0) → EvK mL_law K 708 [(0, vR 200), (1, vR 0), (2, vR 27), (3, vR 53), (4, vI x4)] [] h3) ∧ ((¬ (lg_cmp (h3.2.1 53 (Int32.toNatClampNeg 0)) (Int32.toInt64 r2)) = 0) → False))))) ∧ ((¬ r4 = x5) → False))))) : EvK mL_law K 283 [(0, vR 200), (1, vR 0), (2, vR 27), (3, vR 53), (4, vI x4), (5, vI x5)] [vI s0, vI s1, vR 27] h := by
  refine ev_callV (As := [vI s1, vI s0]) (rest := []) dL_law_283 mlL_44 rm_mL_law_mX7_row rfl rfl rfl rfl (Nat.le_of_ble_eq_true rfl) H (fun v h1 H => ?_)
  obtain ⟨r2, rfl, H⟩ := H
  show EvK mL_law K 286 [(0, vR 200), (1, vR 0), (2, vR 27), (3, vR 53), (4, vI x4), (5, vI x5)] [vI r2] h1
  refine ev_istore dL_law_286 (by decide) ?_
  refine ev_L (L' := [(6, vI r2), (0, vR 200), (1, vR 0), (2, vR 27), (3, vR 53), (4, vI x4), (5, vI x5)]) rfl ?_
  refine ev_aload_n 2 dL_law_288 rfl (x := 27) rfl ?_
  refine ev_callV (As := []) (rest := []) dL_law_289 mlL_45 rm_mL_law_mX7_thrown rfl rfl rfl rfl (Nat.le_of_ble_eq_true rfl) H (fun v h3 H => ?_)
  obtain ⟨r4, rfl, H⟩ := H
  show EvK mL_law K 292 [(6, vI r2), (0, vR 200), (1, vR 0), (2, vR 27), (3, vR 53), (4, vI x4), (5, vI x5)] [vI r4] h3
  refine ev_iload dL_law_292 (x := x5) rfl ?_
  refine ev_icmp_eq 299 dL_law_294 (by decide) ⟨fun c5 => ?_, fun c5 => ?_⟩
  · have H := H.1 c5
    refine ev_iload dL_law_299 (x := x5) rfl ?_
    refine ev_if_ne 316 dL_law_301 (by decide) ⟨fun c6 => ?_, fun c6 => ?_⟩
    · have H := H.1 c6
      refine ev_goto 708 dL_law_316 (by decide) ?_
      exact ev_sub (L' := [(0, vR 200), (1, vR 0), (2, vR 27), (3, vR 53), (4, vI x4)]) ⟨rfl, rfl, rfl, rfl, rfl, trivial⟩ H
    · have H := H.2 c6
      refine ev_aload_n 3 dL_law_304 rfl (x := 53) rfl ?_
      refine ev_iconst 0 dL_law_305 (by decide) ?_
      refine ev_lald dL_law_306 rfl (by decide) (by unfold vp_in; decide) ?_
      refine ev_iload dL_law_307 (x := r2) rfl ?_
      refine ev_i2l dL_law_309 ?_
      refine ev_lcmp dL_law_310 ?_
      refine ev_if_eq 316 dL_law_311 (by decide) ⟨fun c7 => ?_, fun c7 => ?_⟩
      · have H := H.1 c7
        refine ev_goto 708 dL_law_316 (by decide) ?_
        exact ev_sub (L' := [(0, vR 200), (1, vR 0), (2, vR 27), (3, vR 53), (4, vI x4)]) ⟨rfl, rfl, rfl, rfl, rfl, trivial⟩ H
      · have H := H.2 c7
        refine ev_iconst 0 dL_law_314 (by decide) ?_
        exact H.elim
  · have H := H.2 c5
    refine ev_iconst 0 dL_law_297 (by decide) ?_
    exact H.elim
set_option maxRecDepth 20000 in
theorem sL_law_521 {K : KT} {h : Hp} {Lx : Nat} {xs : Nat → Int32} (hk : SK K Lx xs) {x4 : Int32} {x5 : Int32} {s0 : Int32} {s1 : Int32} (H : EvM mX7_entry [vR 27, vI s1, vI s0] h (fun v h1 => ∃ r2 : Int32, v = some (vI r2) ∧ EvM mX7_thrown [vR 27] h1 (fun v h3 => ∃ r4 : Int32, v = some (vI r4) ∧ (((r4 = x5) → (((¬ x5 = 0) → EvK mL_law K 708 [(0, vR 200), (1, vR 0), (2, vR 27), (3, vR 53), (4, vI x4)] [] h3) ∧ ((x5 = 0) → ((((lg_cmp (h3.2.1 53 (Int32.toNatClampNeg 0)) (Int32.toInt64 r2)) = 0) → EvK mL_law K 708 [(0, vR 200), (1, vR 0), (2, vR 27), (3, vR 53), (4, vI x4)] [] h3) ∧ ((¬ (lg_cmp (h3.2.1 53 (Int32.toNatClampNeg 0)) (Int32.toInt64 r2)) = 0) → False))))) ∧ ((¬ r4 = x5) → False))))) : EvK mL_law K 521 [(0, vR 200), (1, vR 0), (2, vR 27), (3, vR 53), (4, vI x4), (5, vI x5)] [vI s0, vI s1, vR 27] h := by
  refine ev_callV (As := [vI s1, vI s0]) (rest := []) dL_law_521 mlL_76 rm_mL_law_mX7_entry rfl rfl rfl rfl (Nat.le_of_ble_eq_true rfl) H (fun v h1 H => ?_)
  obtain ⟨r2, rfl, H⟩ := H
  show EvK mL_law K 524 [(0, vR 200), (1, vR 0), (2, vR 27), (3, vR 53), (4, vI x4), (5, vI x5)] [vI r2] h1
  refine ev_istore dL_law_524 (by decide) ?_
  refine ev_L (L' := [(6, vI r2), (0, vR 200), (1, vR 0), (2, vR 27), (3, vR 53), (4, vI x4), (5, vI x5)]) rfl ?_
  refine ev_aload_n 2 dL_law_526 rfl (x := 27) rfl ?_
  refine ev_callV (As := []) (rest := []) dL_law_527 mlL_45 rm_mL_law_mX7_thrown rfl rfl rfl rfl (Nat.le_of_ble_eq_true rfl) H (fun v h3 H => ?_)
  obtain ⟨r4, rfl, H⟩ := H
  show EvK mL_law K 530 [(6, vI r2), (0, vR 200), (1, vR 0), (2, vR 27), (3, vR 53), (4, vI x4), (5, vI x5)] [vI r4] h3
  refine ev_iload dL_law_530 (x := x5) rfl ?_
  refine ev_icmp_eq 537 dL_law_532 (by decide) ⟨fun c5 => ?_, fun c5 => ?_⟩
  · have H := H.1 c5
    refine ev_iload dL_law_537 (x := x5) rfl ?_
    refine ev_if_ne 554 dL_law_539 (by decide) ⟨fun c6 => ?_, fun c6 => ?_⟩
    · have H := H.1 c6
      refine ev_goto 708 dL_law_554 (by decide) ?_
      exact ev_sub (L' := [(0, vR 200), (1, vR 0), (2, vR 27), (3, vR 53), (4, vI x4)]) ⟨rfl, rfl, rfl, rfl, rfl, trivial⟩ H
    · have H := H.2 c6
      refine ev_aload_n 3 dL_law_542 rfl (x := 53) rfl ?_
      refine ev_iconst 0 dL_law_543 (by decide) ?_
      refine ev_lald dL_law_544 rfl (by decide) (by unfold vp_in; decide) ?_
      refine ev_iload dL_law_545 (x := r2) rfl ?_
      refine ev_i2l dL_law_547 ?_
      refine ev_lcmp dL_law_548 ?_
      refine ev_if_eq 554 dL_law_549 (by decide) ⟨fun c7 => ?_, fun c7 => ?_⟩
      · have H := H.1 c7
        refine ev_goto 708 dL_law_554 (by decide) ?_
        exact ev_sub (L' := [(0, vR 200), (1, vR 0), (2, vR 27), (3, vR 53), (4, vI x4)]) ⟨rfl, rfl, rfl, rfl, rfl, trivial⟩ H
      · have H := H.2 c7
        refine ev_iconst 0 dL_law_552 (by decide) ?_
        exact H.elim
  · have H := H.2 c5
    refine ev_iconst 0 dL_law_535 (by decide) ?_
    exact H.elim
set_option maxRecDepth 20000 in
theorem sL_law_402 {K : KT} {h : Hp} {Lx : Nat} {xs : Nat → Int32} (hk : SK K Lx xs) {x4 : Int32} {s0 : Int32} {s2 : Int32} (H : EvM mX7_build [vR 27, vI s0] h (fun v h1 => ∃ r2 : Int32, v = some (vI r2) ∧ (((s2 = r2) → EvK mL_law K 708 [(0, vR 200), (1, vR 0), (2, vR 27), (3, vR 53), (4, vI x4)] [] h1) ∧ ((¬ s2 = r2) → False)))) : EvK mL_law K 402 [(0, vR 200), (1, vR 0), (2, vR 27), (3, vR 53), (4, vI x4)] [vI s0, vR 27, vI s2] h := by
  refine ev_callV (As := [vI s0]) (rest := [vI s2]) dL_law_402 mlL_61 rm_mL_law_mX7_build rfl rfl rfl rfl (Nat.le_of_ble_eq_true rfl) H (fun v h1 H => ?_)
  obtain ⟨r2, rfl, H⟩ := H
  show EvK mL_law K 405 [(0, vR 200), (1, vR 0), (2, vR 27), (3, vR 53), (4, vI x4)] [vI r2, vI s2] h1
  refine ev_icmp_eq 708 dL_law_405 (by decide) ⟨fun c3 => ?_, fun c3 => ?_⟩
  · have H := H.1 c3
    exact ev_sub (L' := [(0, vR 200), (1, vR 0), (2, vR 27), (3, vR 53), (4, vI x4)]) ⟨rfl, rfl, rfl, rfl, rfl, trivial⟩ H
  · have H := H.2 c3
    refine ev_iconst 0 dL_law_408 (by decide) ?_
    exact H.elim
