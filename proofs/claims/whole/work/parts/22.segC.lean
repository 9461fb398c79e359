set_option maxRecDepth 20000 in
theorem sX6_add {h : Hp} {Q : Option AV → Hp → Prop} {x1 : Int32} {x2 : Int32} (H : EvM mX0_isDown [vR 6] h (fun v h1 => ∃ r2 : Int32, v = some (vI r2) ∧ (((r2 = 0) → EvM mX4_firstFree [vR 1] h1 (fun v h4 => ∃ r5 : Int32, v = some (vI r5) ∧ (((¬ r5 = (-1)) → EvM mX6_wouldRepeat [vR 0, vI x1, vI r5] h4 (fun v h7 => ∃ r8 : Int32, v = some (vI r8) ∧ (((r8 = 0) → EvM mX6_writeDown [vR 0] h7 (fun v h10 => ∃ r11 : Int32, v = some (vI r11) ∧ (((¬ r11 = 0) → EvM mX4_put [vR 1, vI r5, vI x1, vI x2] h10 (fun v h13 => v = none ∧ EvM mX6_entryOf [vI x1, vI r5] h13 (fun v h14 => ∃ r15 : Int64, v = some (vL r15) ∧ EvM mX6_follow [vR 0, vL r15, vI 1] h14 (fun v h16 => v = none ∧ Q (some (vI r5)) h16)))) ∧ ((r11 = 0) → Q (some (vI (-106))) h10)))) ∧ ((¬ r8 = 0) → Q (some (vI (-105))) h7)))) ∧ ((r5 = (-1)) → Q (some (vI (-104))) h4)))) ∧ ((¬ r2 = 0) → Q (some (vI (-100))) h1)))) : EvM mX6_add [vR 0, vI x1, vI x2] h Q := by
  refine evM_of (by decide) rfl (Nat.le_of_ble_eq_true rfl) ?_
  show Ev mX6_add 0 [(0, vR 0), (1, vI x1), (2, vI x2)] [] h Q
  refine ev_aload_n 0 dX6_add_0 rfl (x := 0) rfl ?_
  refine ev_getR dX6_add_1 flX6_19 rfl rfl ?_
  refine ev_callV (As := []) (rest := []) dX6_add_4 mlX6_81 rm_mX6_add_mX0_isDown rfl rfl rfl rfl (Nat.le_of_ble_eq_true rfl) H (fun v h1 H => ?_)
  obtain ⟨r2, rfl, H⟩ := H
  show Ev mX6_add 7 [(0, vR 0), (1, vI x1), (2, vI x2)] [vI r2] h1 Q
  refine ev_if_eq 13 dX6_add_7 (by decide) ⟨fun c3 => ?_, fun c3 => ?_⟩
  · have H := H.1 c3
    refine ev_aload_n 0 dX6_add_13 rfl (x := 0) rfl ?_
    refine ev_getR dX6_add_14 flX6_10 rfl rfl ?_
    refine ev_callV (As := []) (rest := []) dX6_add_17 mlX6_85 rm_mX6_add_mX4_firstFree rfl rfl rfl rfl (Nat.le_of_ble_eq_true rfl) H (fun v h4 H => ?_)
    obtain ⟨r5, rfl, H⟩ := H
    show Ev mX6_add 20 [(0, vR 0), (1, vI x1), (2, vI x2)] [vI r5] h4 Q
    refine ev_istore_n 3 dX6_add_20 rfl (by decide) ?_
    refine ev_L (L' := [(3, vI r5), (0, vR 0), (1, vI x1), (2, vI x2)]) rfl ?_
    refine ev_iload_n 3 dX6_add_21 rfl (x := r5) rfl ?_
    refine ev_iconst (-1) dX6_add_22 (by decide) ?_
    refine ev_icmp_ne 29 dX6_add_23 (by decide) ⟨fun c6 => ?_, fun c6 => ?_⟩
    · have H := H.1 c6
      refine ev_aload_n 0 dX6_add_29 rfl (x := 0) rfl ?_
      refine ev_iload_n 1 dX6_add_30 rfl (x := x1) rfl ?_
      refine ev_iload_n 3 dX6_add_31 rfl (x := r5) rfl ?_
      refine ev_callV (As := [vI x1, vI r5]) (rest := []) dX6_add_32 mlX6_89 rm_mX6_add_mX6_wouldRepeat rfl rfl rfl rfl (Nat.le_of_ble_eq_true rfl) H (fun v h7 H => ?_)
      obtain ⟨r8, rfl, H⟩ := H
      show Ev mX6_add 35 [(3, vI r5), (0, vR 0), (1, vI x1), (2, vI x2)] [vI r8] h7 Q
      refine ev_if_eq 41 dX6_add_35 (by decide) ⟨fun c9 => ?_, fun c9 => ?_⟩
      · have H := H.1 c9
        refine ev_aload_n 0 dX6_add_41 rfl (x := 0) rfl ?_
        refine ev_callV (As := []) (rest := []) dX6_add_42 mlX6_93 rm_mX6_add_mX6_writeDown rfl rfl rfl rfl (Nat.le_of_ble_eq_true rfl) H (fun v h10 H => ?_)
        obtain ⟨r11, rfl, H⟩ := H
        show Ev mX6_add 45 [(3, vI r5), (0, vR 0), (1, vI x1), (2, vI x2)] [vI r11] h10 Q
        refine ev_if_ne 51 dX6_add_45 (by decide) ⟨fun c12 => ?_, fun c12 => ?_⟩
        · have H := H.1 c12
          refine ev_aload_n 0 dX6_add_51 rfl (x := 0) rfl ?_
          refine ev_getR dX6_add_52 flX6_10 rfl rfl ?_
          refine ev_iload_n 3 dX6_add_55 rfl (x := r5) rfl ?_
          refine ev_iload_n 1 dX6_add_56 rfl (x := x1) rfl ?_
          refine ev_iload_n 2 dX6_add_57 rfl (x := x2) rfl ?_
          refine ev_callV (As := [vI r5, vI x1, vI x2]) (rest := []) dX6_add_58 mlX6_96 rm_mX6_add_mX4_put rfl rfl rfl rfl (Nat.le_of_ble_eq_true rfl) H (fun v h13 H => ?_)
          obtain ⟨rfl, H⟩ := H
          show Ev mX6_add 61 [(3, vI r5), (0, vR 0), (1, vI x1), (2, vI x2)] [] h13 Q
          refine ev_aload_n 0 dX6_add_61 rfl (x := 0) rfl ?_
          refine ev_iload_n 1 dX6_add_62 rfl (x := x1) rfl ?_
          refine ev_iload_n 3 dX6_add_63 rfl (x := r5) rfl ?_
          refine ev_callS (As := [vI x1, vI r5]) (rest := [vR 0]) dX6_add_64 mlX6_100 rm_mX6_add_mX6_entryOf rfl rfl (Nat.le_of_ble_eq_true rfl) H (fun v h14 H => ?_)
          obtain ⟨r15, rfl, H⟩ := H
          show Ev mX6_add 67 [(3, vI r5), (0, vR 0), (1, vI x1), (2, vI x2)] [vL r15, vR 0] h14 Q
          refine ev_iconst 1 dX6_add_67 (by decide) ?_
          refine ev_callV (As := [vL r15, vI 1]) (rest := []) dX6_add_68 mlX6_104 rm_mX6_add_mX6_follow rfl rfl rfl rfl (Nat.le_of_ble_eq_true rfl) H (fun v h16 H => ?_)
          obtain ⟨rfl, H⟩ := H
          show Ev mX6_add 71 [(3, vI r5), (0, vR 0), (1, vI x1), (2, vI x2)] [] h16 Q
          refine ev_iload_n 3 dX6_add_71 rfl (x := r5) rfl ?_
          exact ev_iret dX6_add_72 rfl H
        · have H := H.2 c12
          refine ev_bipush (-106) dX6_add_48 (by decide) ?_
          exact ev_iret dX6_add_50 rfl H
      · have H := H.2 c9
        refine ev_bipush (-105) dX6_add_38 (by decide) ?_
        exact ev_iret dX6_add_40 rfl H
    · have H := H.2 c6
      refine ev_bipush (-104) dX6_add_26 (by decide) ?_
      exact ev_iret dX6_add_28 rfl H
  · have H := H.2 c3
    refine ev_bipush (-100) dX6_add_10 (by decide) ?_
    exact ev_iret dX6_add_12 rfl H
set_option maxRecDepth 20000 in
theorem sX6_change {h : Hp} {Q : Option AV → Hp → Prop} {x1 : Int32} {x2 : Int32} {x3 : Int32} (H : EvM mX0_isDown [vR 6] h (fun v h1 => ∃ r2 : Int32, v = some (vI r2) ∧ (((r2 = 0) → EvM mX4_has [vR 1, vI x1] h1 (fun v h4 => ∃ r5 : Int32, v = some (vI r5) ∧ (((¬ r5 = 0) → EvM mX6_wouldRepeat [vR 0, vI x2, vI x1] h4 (fun v h7 => ∃ r8 : Int32, v = some (vI r8) ∧ (((r8 = 0) → EvM mX6_writeDown [vR 0] h7 (fun v h10 => ∃ r11 : Int32, v = some (vI r11) ∧ (((¬ r11 = 0) → EvM mX4_keyAt [vR 1, vI x1] h10 (fun v h13 => ∃ r14 : Int32, v = some (vI r14) ∧ EvM mX4_put [vR 1, vI x1, vI x2, vI x3] h13 (fun v h15 => v = none ∧ (((r14 = x2) → Q (some (vI 1)) h15) ∧ ((¬ r14 = x2) → EvM mX6_entryOf [vI r14, vI x1] h15 (fun v h17 => ∃ r18 : Int64, v = some (vL r18) ∧ EvM mX6_follow [vR 0, vL r18, vI 0] h17 (fun v h19 => v = none ∧ EvM mX6_entryOf [vI x2, vI x1] h19 (fun v h20 => ∃ r21 : Int64, v = some (vL r21) ∧ EvM mX6_follow [vR 0, vL r21, vI 1] h20 (fun v h22 => v = none ∧ Q (some (vI 1)) h22))))))))) ∧ ((r11 = 0) → Q (some (vI (-106))) h10)))) ∧ ((¬ r8 = 0) → Q (some (vI (-105))) h7)))) ∧ ((r5 = 0) → Q (some (vI (-101))) h4)))) ∧ ((¬ r2 = 0) → Q (some (vI (-100))) h1)))) : EvM mX6_change [vR 0, vI x1, vI x2, vI x3] h Q := by
  refine evM_of (by decide) rfl (Nat.le_of_ble_eq_true rfl) ?_
  show Ev mX6_change 0 [(0, vR 0), (1, vI x1), (2, vI x2), (3, vI x3)] [] h Q
  refine ev_aload_n 0 dX6_change_0 rfl (x := 0) rfl ?_
  refine ev_getR dX6_change_1 flX6_19 rfl rfl ?_
  refine ev_callV (As := []) (rest := []) dX6_change_4 mlX6_81 rm_mX6_change_mX0_isDown rfl rfl rfl rfl (Nat.le_of_ble_eq_true rfl) H (fun v h1 H => ?_)
  obtain ⟨r2, rfl, H⟩ := H
  show Ev mX6_change 7 [(0, vR 0), (1, vI x1), (2, vI x2), (3, vI x3)] [vI r2] h1 Q
  refine ev_if_eq 13 dX6_change_7 (by decide) ⟨fun c3 => ?_, fun c3 => ?_⟩
  · have H := H.1 c3
    refine ev_aload_n 0 dX6_change_13 rfl (x := 0) rfl ?_
    refine ev_getR dX6_change_14 flX6_10 rfl rfl ?_
    refine ev_iload_n 1 dX6_change_17 rfl (x := x1) rfl ?_
    refine ev_callV (As := [vI x1]) (rest := []) dX6_change_18 mlX6_108 rm_mX6_change_mX4_has rfl rfl rfl rfl (Nat.le_of_ble_eq_true rfl) H (fun v h4 H => ?_)
    obtain ⟨r5, rfl, H⟩ := H
    show Ev mX6_change 21 [(0, vR 0), (1, vI x1), (2, vI x2), (3, vI x3)] [vI r5] h4 Q
    refine ev_if_ne 27 dX6_change_21 (by decide) ⟨fun c6 => ?_, fun c6 => ?_⟩
    · have H := H.1 c6
      refine ev_aload_n 0 dX6_change_27 rfl (x := 0) rfl ?_
      refine ev_iload_n 2 dX6_change_28 rfl (x := x2) rfl ?_
      refine ev_iload_n 1 dX6_change_29 rfl (x := x1) rfl ?_
      refine ev_callV (As := [vI x2, vI x1]) (rest := []) dX6_change_30 mlX6_89 rm_mX6_change_mX6_wouldRepeat rfl rfl rfl rfl (Nat.le_of_ble_eq_true rfl) H (fun v h7 H => ?_)
      obtain ⟨r8, rfl, H⟩ := H
      show Ev mX6_change 33 [(0, vR 0), (1, vI x1), (2, vI x2), (3, vI x3)] [vI r8] h7 Q
      refine ev_if_eq 39 dX6_change_33 (by decide) ⟨fun c9 => ?_, fun c9 => ?_⟩
      · have H := H.1 c9
        refine ev_aload_n 0 dX6_change_39 rfl (x := 0) rfl ?_
        refine ev_callV (As := []) (rest := []) dX6_change_40 mlX6_93 rm_mX6_change_mX6_writeDown rfl rfl rfl rfl (Nat.le_of_ble_eq_true rfl) H (fun v h10 H => ?_)
        obtain ⟨r11, rfl, H⟩ := H
        show Ev mX6_change 43 [(0, vR 0), (1, vI x1), (2, vI x2), (3, vI x3)] [vI r11] h10 Q
        refine ev_if_ne 49 dX6_change_43 (by decide) ⟨fun c12 => ?_, fun c12 => ?_⟩
        · have H := H.1 c12
          refine ev_aload_n 0 dX6_change_49 rfl (x := 0) rfl ?_
          refine ev_getR dX6_change_50 flX6_10 rfl rfl ?_
          refine ev_iload_n 1 dX6_change_53 rfl (x := x1) rfl ?_
          refine ev_callV (As := [vI x1]) (rest := []) dX6_change_54 mlX6_112 rm_mX6_change_mX4_keyAt rfl rfl rfl rfl (Nat.le_of_ble_eq_true rfl) H (fun v h13 H => ?_)
          obtain ⟨r14, rfl, H⟩ := H
          show Ev mX6_change 57 [(0, vR 0), (1, vI x1), (2, vI x2), (3, vI x3)] [vI r14] h13 Q
          refine ev_istore dX6_change_57 (by decide) ?_
          refine ev_L (L' := [(4, vI r14), (0, vR 0), (1, vI x1), (2, vI x2), (3, vI x3)]) rfl ?_
          refine ev_aload_n 0 dX6_change_59 rfl (x := 0) rfl ?_
          refine ev_getR dX6_change_60 flX6_10 rfl rfl ?_
          refine ev_iload_n 1 dX6_change_63 rfl (x := x1) rfl ?_
          refine ev_iload_n 2 dX6_change_64 rfl (x := x2) rfl ?_
          refine ev_iload_n 3 dX6_change_65 rfl (x := x3) rfl ?_
          refine ev_callV (As := [vI x1, vI x2, vI x3]) (rest := []) dX6_change_66 mlX6_96 rm_mX6_change_mX4_put rfl rfl rfl rfl (Nat.le_of_ble_eq_true rfl) H (fun v h15 H => ?_)
          obtain ⟨rfl, H⟩ := H
          show Ev mX6_change 69 [(4, vI r14), (0, vR 0), (1, vI x1), (2, vI x2), (3, vI x3)] [] h15 Q
          refine ev_iload dX6_change_69 (x := r14) rfl ?_
          refine ev_iload_n 2 dX6_change_71 rfl (x := x2) rfl ?_
          refine ev_icmp_eq 96 dX6_change_72 (by decide) ⟨fun c16 => ?_, fun c16 => ?_⟩
          · have H := H.1 c16
            refine ev_iconst 1 dX6_change_96 (by decide) ?_
            exact ev_iret dX6_change_97 rfl H
          · have H := H.2 c16
            refine ev_aload_n 0 dX6_change_75 rfl (x := 0) rfl ?_
            refine ev_iload dX6_change_76 (x := r14) rfl ?_
            refine ev_iload_n 1 dX6_change_78 rfl (x := x1) rfl ?_
            refine ev_callS (As := [vI r14, vI x1]) (rest := [vR 0]) dX6_change_79 mlX6_100 rm_mX6_change_mX6_entryOf rfl rfl (Nat.le_of_ble_eq_true rfl) H (fun v h17 H => ?_)
            obtain ⟨r18, rfl, H⟩ := H
            show Ev mX6_change 82 [(4, vI r14), (0, vR 0), (1, vI x1), (2, vI x2), (3, vI x3)] [vL r18, vR 0] h17 Q
            refine ev_iconst 0 dX6_change_82 (by decide) ?_
            refine ev_callV (As := [vL r18, vI 0]) (rest := []) dX6_change_83 mlX6_104 rm_mX6_change_mX6_follow rfl rfl rfl rfl (Nat.le_of_ble_eq_true rfl) H (fun v h19 H => ?_)
            obtain ⟨rfl, H⟩ := H
            show Ev mX6_change 86 [(4, vI r14), (0, vR 0), (1, vI x1), (2, vI x2), (3, vI x3)] [] h19 Q
            refine ev_aload_n 0 dX6_change_86 rfl (x := 0) rfl ?_
            refine ev_iload_n 2 dX6_change_87 rfl (x := x2) rfl ?_
            refine ev_iload_n 1 dX6_change_88 rfl (x := x1) rfl ?_
            refine ev_callS (As := [vI x2, vI x1]) (rest := [vR 0]) dX6_change_89 mlX6_100 rm_mX6_change_mX6_entryOf rfl rfl (Nat.le_of_ble_eq_true rfl) H (fun v h20 H => ?_)
            obtain ⟨r21, rfl, H⟩ := H
            show Ev mX6_change 92 [(4, vI r14), (0, vR 0), (1, vI x1), (2, vI x2), (3, vI x3)] [vL r21, vR 0] h20 Q
            refine ev_iconst 1 dX6_change_92 (by decide) ?_
            refine ev_callV (As := [vL r21, vI 1]) (rest := []) dX6_change_93 mlX6_104 rm_mX6_change_mX6_follow rfl rfl rfl rfl (Nat.le_of_ble_eq_true rfl) H (fun v h22 H => ?_)
            obtain ⟨rfl, H⟩ := H
            show Ev mX6_change 96 [(4, vI r14), (0, vR 0), (1, vI x1), (2, vI x2), (3, vI x3)] [] h22 Q
            refine ev_iconst 1 dX6_change_96 (by decide) ?_
            exact ev_iret dX6_change_97 rfl H
        · have H := H.2 c12
          refine ev_bipush (-106) dX6_change_46 (by decide) ?_
          exact ev_iret dX6_change_48 rfl H
      · have H := H.2 c9
        refine ev_bipush (-105) dX6_change_36 (by decide) ?_
        exact ev_iret dX6_change_38 rfl H
    · have H := H.2 c6
      refine ev_bipush (-101) dX6_change_24 (by decide) ?_
      exact ev_iret dX6_change_26 rfl H
  · have H := H.2 c3
    refine ev_bipush (-100) dX6_change_10 (by decide) ?_
    exact ev_iret dX6_change_12 rfl H
set_option maxRecDepth 20000 in
theorem sX6_remove {h : Hp} {Q : Option AV → Hp → Prop} {x1 : Int32} (H : EvM mX0_isDown [vR 6] h (fun v h1 => ∃ r2 : Int32, v = some (vI r2) ∧ (((r2 = 0) → EvM mX4_has [vR 1, vI x1] h1 (fun v h4 => ∃ r5 : Int32, v = some (vI r5) ∧ (((¬ r5 = 0) → EvM mX6_writeDown [vR 0] h4 (fun v h7 => ∃ r8 : Int32, v = some (vI r8) ∧ (((¬ r8 = 0) → EvM mX4_keyAt [vR 1, vI x1] h7 (fun v h10 => ∃ r11 : Int32, v = some (vI r11) ∧ EvM mX4_clearPlace [vR 1, vI x1] h10 (fun v h12 => v = none ∧ EvM mX6_entryOf [vI r11, vI x1] h12 (fun v h13 => ∃ r14 : Int64, v = some (vL r14) ∧ EvM mX6_follow [vR 0, vL r14, vI 0] h13 (fun v h15 => v = none ∧ Q (some (vI 1)) h15))))) ∧ ((r8 = 0) → Q (some (vI (-106))) h7)))) ∧ ((r5 = 0) → Q (some (vI (-101))) h4)))) ∧ ((¬ r2 = 0) → Q (some (vI (-100))) h1)))) : EvM mX6_remove [vR 0, vI x1] h Q := by
  refine evM_of (by decide) rfl (Nat.le_of_ble_eq_true rfl) ?_
  show Ev mX6_remove 0 [(0, vR 0), (1, vI x1)] [] h Q
  refine ev_aload_n 0 dX6_remove_0 rfl (x := 0) rfl ?_
  refine ev_getR dX6_remove_1 flX6_19 rfl rfl ?_
  refine ev_callV (As := []) (rest := []) dX6_remove_4 mlX6_81 rm_mX6_remove_mX0_isDown rfl rfl rfl rfl (Nat.le_of_ble_eq_true rfl) H (fun v h1 H => ?_)
  obtain ⟨r2, rfl, H⟩ := H
  show Ev mX6_remove 7 [(0, vR 0), (1, vI x1)] [vI r2] h1 Q
  refine ev_if_eq 13 dX6_remove_7 (by decide) ⟨fun c3 => ?_, fun c3 => ?_⟩
  · have H := H.1 c3
    refine ev_aload_n 0 dX6_remove_13 rfl (x := 0) rfl ?_
    refine ev_getR dX6_remove_14 flX6_10 rfl rfl ?_
    refine ev_iload_n 1 dX6_remove_17 rfl (x := x1) rfl ?_
    refine ev_callV (As := [vI x1]) (rest := []) dX6_remove_18 mlX6_108 rm_mX6_remove_mX4_has rfl rfl rfl rfl (Nat.le_of_ble_eq_true rfl) H (fun v h4 H => ?_)
    obtain ⟨r5, rfl, H⟩ := H
    show Ev mX6_remove 21 [(0, vR 0), (1, vI x1)] [vI r5] h4 Q
    refine ev_if_ne 27 dX6_remove_21 (by decide) ⟨fun c6 => ?_, fun c6 => ?_⟩
    · have H := H.1 c6
      refine ev_aload_n 0 dX6_remove_27 rfl (x := 0) rfl ?_
      refine ev_callV (As := []) (rest := []) dX6_remove_28 mlX6_93 rm_mX6_remove_mX6_writeDown rfl rfl rfl rfl (Nat.le_of_ble_eq_true rfl) H (fun v h7 H => ?_)
      obtain ⟨r8, rfl, H⟩ := H
      show Ev mX6_remove 31 [(0, vR 0), (1, vI x1)] [vI r8] h7 Q
      refine ev_if_ne 37 dX6_remove_31 (by decide) ⟨fun c9 => ?_, fun c9 => ?_⟩
      · have H := H.1 c9
        refine ev_aload_n 0 dX6_remove_37 rfl (x := 0) rfl ?_
        refine ev_getR dX6_remove_38 flX6_10 rfl rfl ?_
        refine ev_iload_n 1 dX6_remove_41 rfl (x := x1) rfl ?_
        refine ev_callV (As := [vI x1]) (rest := []) dX6_remove_42 mlX6_112 rm_mX6_remove_mX4_keyAt rfl rfl rfl rfl (Nat.le_of_ble_eq_true rfl) H (fun v h10 H => ?_)
        obtain ⟨r11, rfl, H⟩ := H
        show Ev mX6_remove 45 [(0, vR 0), (1, vI x1)] [vI r11] h10 Q
        refine ev_istore_n 2 dX6_remove_45 rfl (by decide) ?_
        refine ev_L (L' := [(2, vI r11), (0, vR 0), (1, vI x1)]) rfl ?_
        refine ev_aload_n 0 dX6_remove_46 rfl (x := 0) rfl ?_
        refine ev_getR dX6_remove_47 flX6_10 rfl rfl ?_
        refine ev_iload_n 1 dX6_remove_50 rfl (x := x1) rfl ?_
        refine ev_callV (As := [vI x1]) (rest := []) dX6_remove_51 mlX6_116 rm_mX6_remove_mX4_clearPlace rfl rfl rfl rfl (Nat.le_of_ble_eq_true rfl) H (fun v h12 H => ?_)
        obtain ⟨rfl, H⟩ := H
        show Ev mX6_remove 54 [(2, vI r11), (0, vR 0), (1, vI x1)] [] h12 Q
        refine ev_aload_n 0 dX6_remove_54 rfl (x := 0) rfl ?_
        refine ev_iload_n 2 dX6_remove_55 rfl (x := r11) rfl ?_
        refine ev_iload_n 1 dX6_remove_56 rfl (x := x1) rfl ?_
        refine ev_callS (As := [vI r11, vI x1]) (rest := [vR 0]) dX6_remove_57 mlX6_100 rm_mX6_remove_mX6_entryOf rfl rfl (Nat.le_of_ble_eq_true rfl) H (fun v h13 H => ?_)
        obtain ⟨r14, rfl, H⟩ := H
        show Ev mX6_remove 60 [(2, vI r11), (0, vR 0), (1, vI x1)] [vL r14, vR 0] h13 Q
        refine ev_iconst 0 dX6_remove_60 (by decide) ?_
        refine ev_callV (As := [vL r14, vI 0]) (rest := []) dX6_remove_61 mlX6_104 rm_mX6_remove_mX6_follow rfl rfl rfl rfl (Nat.le_of_ble_eq_true rfl) H (fun v h15 H => ?_)
        obtain ⟨rfl, H⟩ := H
        show Ev mX6_remove 64 [(2, vI r11), (0, vR 0), (1, vI x1)] [] h15 Q
        refine ev_iconst 1 dX6_remove_64 (by decide) ?_
        exact ev_iret dX6_remove_65 rfl H
      · have H := H.2 c9
        refine ev_bipush (-106) dX6_remove_34 (by decide) ?_
        exact ev_iret dX6_remove_36 rfl H
    · have H := H.2 c6
      refine ev_bipush (-101) dX6_remove_24 (by decide) ?_
      exact ev_iret dX6_remove_26 rfl H
  · have H := H.2 c3
    refine ev_bipush (-100) dX6_remove_10 (by decide) ?_
    exact ev_iret dX6_remove_12 rfl H
set_option maxRecDepth 20000 in
theorem sX6_rows {h : Hp} {Q : Option AV → Hp → Prop} (H : EvM mX0_isDown [vR 6] h (fun v h1 => ∃ r2 : Int32, v = some (vI r2) ∧ (((r2 = 0) → EvM mX4_count [vR 1] h1 (fun v h4 => ∃ r5 : Int32, v = some (vI r5) ∧ Q (some (vI r5)) h4)) ∧ ((¬ r2 = 0) → Q (some (vI (-100))) h1)))) : EvM mX6_rows [vR 0] h Q := by
  refine evM_of (by decide) rfl (Nat.le_of_ble_eq_true rfl) ?_
  show Ev mX6_rows 0 [(0, vR 0)] [] h Q
  refine ev_aload_n 0 dX6_rows_0 rfl (x := 0) rfl ?_
  refine ev_getR dX6_rows_1 flX6_19 rfl rfl ?_
  refine ev_callV (As := []) (rest := []) dX6_rows_4 mlX6_81 rm_mX6_rows_mX0_isDown rfl rfl rfl rfl (Nat.le_of_ble_eq_true rfl) H (fun v h1 H => ?_)
  obtain ⟨r2, rfl, H⟩ := H
  show Ev mX6_rows 7 [(0, vR 0)] [vI r2] h1 Q
  refine ev_if_eq 15 dX6_rows_7 (by decide) ⟨fun c3 => ?_, fun c3 => ?_⟩
  · have H := H.1 c3
    refine ev_aload_n 0 dX6_rows_15 rfl (x := 0) rfl ?_
    refine ev_getR dX6_rows_16 flX6_10 rfl rfl ?_
    refine ev_callV (As := []) (rest := []) dX6_rows_19 mlX6_135 rm_mX6_rows_mX4_count rfl rfl rfl rfl (Nat.le_of_ble_eq_true rfl) H (fun v h4 H => ?_)
    obtain ⟨r5, rfl, H⟩ := H
    show Ev mX6_rows 22 [(0, vR 0)] [vI r5] h4 Q
    exact ev_iret dX6_rows_22 rfl H
  · have H := H.2 c3
    refine ev_bipush (-100) dX6_rows_10 (by decide) ?_
    refine ev_goto 22 dX6_rows_12 (by decide) ?_
    exact ev_iret dX6_rows_22 rfl H
set_option maxRecDepth 20000 in
theorem sX6_cut {h : Hp} {Q : Option AV → Hp → Prop} {x1 : Int32} {x2 : Int32} (H : EvM mX0_isDown [vR 6] h (fun v h1 => ∃ r2 : Int32, v = some (vI r2) ∧ (((r2 = 0) → (((x1 < (-1)) → Q (some (vI (-102))) h1) ∧ ((¬ x1 < (-1)) → (((1000 < x1) → Q (some (vI (-102))) h1) ∧ ((¬ 1000 < x1) → (((x2 < 0) → Q (some (vI (-102))) h1) ∧ ((¬ x2 < 0) → (((x2 < 64) → EvM mX0_setLoss [vR 6, vI x1] h1 (fun v h8 => v = none ∧ Q (some (vI 1)) h8)) ∧ ((¬ x2 < 64) → Q (some (vI (-102))) h1))))))))) ∧ ((¬ r2 = 0) → Q (some (vI (-100))) h1)))) : EvM mX6_cut [vR 0, vI x1, vI x2] h Q := by
  refine evM_of (by decide) rfl (Nat.le_of_ble_eq_true rfl) ?_
  show Ev mX6_cut 0 [(0, vR 0), (1, vI x1), (2, vI x2)] [] h Q
  refine ev_aload_n 0 dX6_cut_0 rfl (x := 0) rfl ?_
  refine ev_getR dX6_cut_1 flX6_19 rfl rfl ?_
  refine ev_callV (As := []) (rest := []) dX6_cut_4 mlX6_81 rm_mX6_cut_mX0_isDown rfl rfl rfl rfl (Nat.le_of_ble_eq_true rfl) H (fun v h1 H => ?_)
  obtain ⟨r2, rfl, H⟩ := H
  show Ev mX6_cut 7 [(0, vR 0), (1, vI x1), (2, vI x2)] [vI r2] h1 Q
  refine ev_if_eq 13 dX6_cut_7 (by decide) ⟨fun c3 => ?_, fun c3 => ?_⟩
  · have H := H.1 c3
    refine ev_iload_n 1 dX6_cut_13 rfl (x := x1) rfl ?_
    refine ev_iconst (-1) dX6_cut_14 (by decide) ?_
    refine ev_icmp_lt 35 dX6_cut_15 (by decide) ⟨fun c4 => ?_, fun c4 => ?_⟩
    · have H := H.1 c4
      refine ev_bipush (-102) dX6_cut_35 (by decide) ?_
      exact ev_iret dX6_cut_37 rfl H
    · have H := H.2 c4
      refine ev_iload_n 1 dX6_cut_18 rfl (x := x1) rfl ?_
      refine ev_sipush 1000 dX6_cut_19 (by decide) ?_
      refine ev_icmp_gt 35 dX6_cut_22 (by decide) ⟨fun c5 => ?_, fun c5 => ?_⟩
      · have H := H.1 c5
        refine ev_bipush (-102) dX6_cut_35 (by decide) ?_
        exact ev_iret dX6_cut_37 rfl H
      · have H := H.2 c5
        refine ev_iload_n 2 dX6_cut_25 rfl (x := x2) rfl ?_
        refine ev_if_lt 35 dX6_cut_26 (by decide) ⟨fun c6 => ?_, fun c6 => ?_⟩
        · have H := H.1 c6
          refine ev_bipush (-102) dX6_cut_35 (by decide) ?_
          exact ev_iret dX6_cut_37 rfl H
        · have H := H.2 c6
          refine ev_iload_n 2 dX6_cut_29 rfl (x := x2) rfl ?_
          refine ev_bipush 64 dX6_cut_30 (by decide) ?_
          refine ev_icmp_lt 38 dX6_cut_32 (by decide) ⟨fun c7 => ?_, fun c7 => ?_⟩
          · have H := H.1 c7
            refine ev_aload_n 0 dX6_cut_38 rfl (x := 0) rfl ?_
            refine ev_getR dX6_cut_39 flX6_19 rfl rfl ?_
            refine ev_iload_n 1 dX6_cut_42 rfl (x := x1) rfl ?_
            refine ev_callV (As := [vI x1]) (rest := []) dX6_cut_43 mlX6_138 rm_mX6_cut_mX0_setLoss rfl rfl rfl rfl (Nat.le_of_ble_eq_true rfl) H (fun v h8 H => ?_)
            obtain ⟨rfl, H⟩ := H
            show Ev mX6_cut 46 [(0, vR 0), (1, vI x1), (2, vI x2)] [] h8 Q
            refine ev_iconst 1 dX6_cut_46 (by decide) ?_
            exact ev_iret dX6_cut_47 rfl H
          · have H := H.2 c7
            refine ev_bipush (-102) dX6_cut_35 (by decide) ?_
            exact ev_iret dX6_cut_37 rfl H
  · have H := H.2 c3
    refine ev_bipush (-100) dX6_cut_10 (by decide) ?_
    exact ev_iret dX6_cut_12 rfl H
set_option maxRecDepth 20000 in
theorem sX6_start {h : Hp} {Q : Option AV → Hp → Prop} (H : EvM mX0_isDown [vR 6] h (fun v h1 => ∃ r2 : Int32, v = some (vI r2) ∧ (((¬ r2 = 0) → EvM mX0_powerUp [vR 6] h1 (fun v h4 => v = none ∧ EvM mX4_count [vR 1] h4 (fun v h5 => ∃ r6 : Int32, v = some (vI r6) ∧ Q (some (vI r6)) h5))) ∧ ((r2 = 0) → Q (some (vI (-103))) h1)))) : EvM mX6_start [vR 0] h Q := by
  refine evM_of (by decide) rfl (Nat.le_of_ble_eq_true rfl) ?_
  show Ev mX6_start 0 [(0, vR 0)] [] h Q
  refine ev_aload_n 0 dX6_start_0 rfl (x := 0) rfl ?_
  refine ev_getR dX6_start_1 flX6_19 rfl rfl ?_
  refine ev_callV (As := []) (rest := []) dX6_start_4 mlX6_81 rm_mX6_start_mX0_isDown rfl rfl rfl rfl (Nat.le_of_ble_eq_true rfl) H (fun v h1 H => ?_)
  obtain ⟨r2, rfl, H⟩ := H
  show Ev mX6_start 7 [(0, vR 0)] [vI r2] h1 Q
  refine ev_if_ne 13 dX6_start_7 (by decide) ⟨fun c3 => ?_, fun c3 => ?_⟩
  · have H := H.1 c3
    refine ev_aload_n 0 dX6_start_13 rfl (x := 0) rfl ?_
    refine ev_getR dX6_start_14 flX6_19 rfl rfl ?_
    refine ev_callV (As := []) (rest := []) dX6_start_17 mlX6_141 rm_mX6_start_mX0_powerUp rfl rfl rfl rfl (Nat.le_of_ble_eq_true rfl) H (fun v h4 H => ?_)
    obtain ⟨rfl, H⟩ := H
    show Ev mX6_start 20 [(0, vR 0)] [] h4 Q
    refine ev_aload_n 0 dX6_start_20 rfl (x := 0) rfl ?_
    refine ev_getR dX6_start_21 flX6_10 rfl rfl ?_
    refine ev_callV (As := []) (rest := []) dX6_start_24 mlX6_135 rm_mX6_start_mX4_count rfl rfl rfl rfl (Nat.le_of_ble_eq_true rfl) H (fun v h5 H => ?_)
    obtain ⟨r6, rfl, H⟩ := H
    show Ev mX6_start 27 [(0, vR 0)] [vI r6] h5 Q
    exact ev_iret dX6_start_27 rfl H
  · have H := H.2 c3
    refine ev_bipush (-103) dX6_start_10 (by decide) ?_
    exact ev_iret dX6_start_12 rfl H
set_option maxRecDepth 20000 in
theorem sX6_blocks {h : Hp} {Q : Option AV → Hp → Prop} {x1 : Int32} (H : (((x1 < 0) → Q (some (vI (-102))) h) ∧ ((¬ x1 < 0) → (((x1 ≤ 3) → EvM mX0_countOf [vR 6, vI x1] h (fun v h3 => ∃ r4 : Int32, v = some (vI r4) ∧ Q (some (vI r4)) h3)) ∧ ((¬ x1 ≤ 3) → Q (some (vI (-102))) h))))) : EvM mX6_blocks [vR 0, vI x1] h Q := by
  refine evM_of (by decide) rfl (Nat.le_of_ble_eq_true rfl) ?_
  show Ev mX6_blocks 0 [(0, vR 0), (1, vI x1)] [] h Q
  refine ev_iload_n 1 dX6_blocks_0 rfl (x := x1) rfl ?_
  refine ev_if_lt 9 dX6_blocks_1 (by decide) ⟨fun c1 => ?_, fun c1 => ?_⟩
  · have H := H.1 c1
    refine ev_bipush (-102) dX6_blocks_9 (by decide) ?_
    exact ev_iret dX6_blocks_11 rfl H
  · have H := H.2 c1
    refine ev_iload_n 1 dX6_blocks_4 rfl (x := x1) rfl ?_
    refine ev_iconst 3 dX6_blocks_5 (by decide) ?_
    refine ev_icmp_le 12 dX6_blocks_6 (by decide) ⟨fun c2 => ?_, fun c2 => ?_⟩
    · have H := H.1 c2
      refine ev_aload_n 0 dX6_blocks_12 rfl (x := 0) rfl ?_
      refine ev_getR dX6_blocks_13 flX6_19 rfl rfl ?_
      refine ev_iload_n 1 dX6_blocks_16 rfl (x := x1) rfl ?_
      refine ev_callV (As := [vI x1]) (rest := []) dX6_blocks_17 mlX6_144 rm_mX6_blocks_mX0_countOf rfl rfl rfl rfl (Nat.le_of_ble_eq_true rfl) H (fun v h3 H => ?_)
      obtain ⟨r4, rfl, H⟩ := H
      show Ev mX6_blocks 20 [(0, vR 0), (1, vI x1)] [vI r4] h3 Q
      exact ev_iret dX6_blocks_20 rfl H
    · have H := H.2 c2
      refine ev_bipush (-102) dX6_blocks_9 (by decide) ?_
      exact ev_iret dX6_blocks_11 rfl H
set_option maxRecDepth 20000 in
theorem sX6_build {h : Hp} {Q : Option AV → Hp → Prop} {x1 : Int32} (H : EvM mX0_isDown [vR 6] h (fun v h1 => ∃ r2 : Int32, v = some (vI r2) ∧ (((r2 = 0) → ((((h1.1 0 2) = 0) → Ev mX6_build 32 [(0, vR 0), (1, vI x1)] [] h1 Q) ∧ ((¬ (h1.1 0 2) = 0) → ((((h1.1 0 2) = 6) → Ev mX6_build 32 [(0, vR 0), (1, vI x1)] [] h1 Q) ∧ ((¬ (h1.1 0 2) = 6) → Q (some (vI (-103))) h1))))) ∧ ((¬ r2 = 0) → Q (some (vI (-100))) h1)))) : EvM mX6_build [vR 0, vI x1] h Q := by
  refine evM_of (by decide) rfl (Nat.le_of_ble_eq_true rfl) ?_
  show Ev mX6_build 0 [(0, vR 0), (1, vI x1)] [] h Q
  refine ev_aload_n 0 dX6_build_0 rfl (x := 0) rfl ?_
  refine ev_getR dX6_build_1 flX6_19 rfl rfl ?_
  refine ev_callV (As := []) (rest := []) dX6_build_4 mlX6_81 rm_mX6_build_mX0_isDown rfl rfl rfl rfl (Nat.le_of_ble_eq_true rfl) H (fun v h1 H => ?_)
  obtain ⟨r2, rfl, H⟩ := H
  show Ev mX6_build 7 [(0, vR 0), (1, vI x1)] [vI r2] h1 Q
  refine ev_if_eq 13 dX6_build_7 (by decide) ⟨fun c3 => ?_, fun c3 => ?_⟩
  · have H := H.1 c3
    refine ev_aload_n 0 dX6_build_13 rfl (x := 0) rfl ?_
    refine ev_getI dX6_build_14 flX6_23 rfl rfl ?_
    refine ev_if_eq 32 dX6_build_17 (by decide) ⟨fun c4 => ?_, fun c4 => ?_⟩
    · have H := H.1 c4
      exact ev_sub (L' := [(0, vR 0), (1, vI x1)]) ⟨rfl, rfl, trivial⟩ H
    · have H := H.2 c4
      refine ev_aload_n 0 dX6_build_20 rfl (x := 0) rfl ?_
      refine ev_getI dX6_build_21 flX6_23 rfl rfl ?_
      refine ev_bipush 6 dX6_build_24 (by decide) ?_
      refine ev_icmp_eq 32 dX6_build_26 (by decide) ⟨fun c5 => ?_, fun c5 => ?_⟩
      · have H := H.1 c5
        exact ev_sub (L' := [(0, vR 0), (1, vI x1)]) ⟨rfl, rfl, trivial⟩ H
      · have H := H.2 c5
        refine ev_bipush (-103) dX6_build_29 (by decide) ?_
        exact ev_iret dX6_build_31 rfl H
  · have H := H.2 c3
    refine ev_bipush (-100) dX6_build_10 (by decide) ?_
    exact ev_iret dX6_build_12 rfl H
set_option maxRecDepth 20000 in
theorem sX6_build_32 {h : Hp} {Q : Option AV → Hp → Prop} {x1 : Int32} (H : EvM mX6_forgetIndex [vR 0] h (fun v h1 => v = none ∧ ((x1 = 0 ∨ x1 = 1) ∧ (∀ h3 : Hp, h3 = sI h1 0 (upd (h1.1 0) 3 x1) → (∀ h4 : Hp, h4 = sI h3 0 (upd (h3.1 0) 2 1) → Q (some (vI 1)) h4))))) : Ev mX6_build 32 [(0, vR 0), (1, vI x1)] [] h Q := by
  refine ev_aload_n 0 dX6_build_32 rfl (x := 0) rfl ?_
  refine ev_callV (As := []) (rest := []) dX6_build_33 mlX6_147 rm_mX6_build_mX6_forgetIndex rfl rfl rfl rfl (Nat.le_of_ble_eq_true rfl) H (fun v h1 H => ?_)
  obtain ⟨rfl, H⟩ := H
  show Ev mX6_build 36 [(0, vR 0), (1, vI x1)] [] h1 Q
  refine ev_aload_n 0 dX6_build_36 rfl (x := 0) rfl ?_
  refine ev_iload_n 1 dX6_build_37 rfl (x := x1) rfl ?_
  obtain ⟨z2, H⟩ := H
  refine ev_putZ dX6_build_38 fpX6_27 rfl rfl  z2 ?_
  obtain ⟨h3, eh3⟩ : ∃ z : Hp, z = sI h1 0 (upd (h1.1 0) 3 x1) := ⟨_, rfl⟩
  rw [← eh3]
  have H := H h3 eh3
  refine ev_aload_n 0 dX6_build_41 rfl (x := 0) rfl ?_
  refine ev_iconst 1 dX6_build_42 (by decide) ?_
  refine ev_putI dX6_build_43 fpX6_23 rfl rfl   ?_
  obtain ⟨h4, eh4⟩ : ∃ z : Hp, z = sI h3 0 (upd (h3.1 0) 2 1) := ⟨_, rfl⟩
  rw [← eh4]
  have H := H h4 eh4
  refine ev_iconst 1 dX6_build_46 (by decide) ?_
  exact ev_iret dX6_build_47 rfl H
set_option maxRecDepth 20000 in
theorem sX6_drop {h : Hp} {Q : Option AV → Hp → Prop} (H : EvM mX0_isDown [vR 6] h (fun v h1 => ∃ r2 : Int32, v = some (vI r2) ∧ (((r2 = 0) → (((¬ (h1.1 0 2) = 5) → EvM mX6_forgetIndex [vR 0] h1 (fun v h5 => v = none ∧ Q (some (vI (h1.1 0 2))) h5)) ∧ (((h1.1 0 2) = 5) → EvM mX6_makeCheckpoint [vR 0, vI 0] h1 (fun v h6 => ∃ r7 : Int32, v = some (vI r7) ∧ (((¬ r7 = 0) → EvM mX6_forgetIndex [vR 0] h6 (fun v h9 => v = none ∧ Q (some (vI (h1.1 0 2))) h9)) ∧ ((r7 = 0) → Q (some (vI (-106))) h6)))))) ∧ ((¬ r2 = 0) → Q (some (vI (-100))) h1)))) : EvM mX6_drop [vR 0] h Q := by
  refine evM_of (by decide) rfl (Nat.le_of_ble_eq_true rfl) ?_
  show Ev mX6_drop 0 [(0, vR 0)] [] h Q
  refine ev_aload_n 0 dX6_drop_0 rfl (x := 0) rfl ?_
  refine ev_getR dX6_drop_1 flX6_19 rfl rfl ?_
  refine ev_callV (As := []) (rest := []) dX6_drop_4 mlX6_81 rm_mX6_drop_mX0_isDown rfl rfl rfl rfl (Nat.le_of_ble_eq_true rfl) H (fun v h1 H => ?_)
  obtain ⟨r2, rfl, H⟩ := H
  show Ev mX6_drop 7 [(0, vR 0)] [vI r2] h1 Q
  refine ev_if_eq 13 dX6_drop_7 (by decide) ⟨fun c3 => ?_, fun c3 => ?_⟩
  · have H := H.1 c3
    refine ev_aload_n 0 dX6_drop_13 rfl (x := 0) rfl ?_
    refine ev_getI dX6_drop_14 flX6_23 rfl rfl ?_
    refine ev_istore_n 1 dX6_drop_17 rfl (by decide) ?_
    refine ev_L (L' := [(1, vI (h1.1 0 2)), (0, vR 0)]) rfl ?_
    refine ev_iload_n 1 dX6_drop_18 rfl (x := (h1.1 0 2)) rfl ?_
    refine ev_iconst 5 dX6_drop_19 (by decide) ?_
    refine ev_icmp_ne 34 dX6_drop_20 (by decide) ⟨fun c4 => ?_, fun c4 => ?_⟩
    · have H := H.1 c4
      refine ev_aload_n 0 dX6_drop_34 rfl (x := 0) rfl ?_
      refine ev_callV (As := []) (rest := []) dX6_drop_35 mlX6_147 rm_mX6_drop_mX6_forgetIndex rfl rfl rfl rfl (Nat.le_of_ble_eq_true rfl) H (fun v h5 H => ?_)
      obtain ⟨rfl, H⟩ := H
      show Ev mX6_drop 38 [(1, vI (h1.1 0 2)), (0, vR 0)] [] h5 Q
      refine ev_iload_n 1 dX6_drop_38 rfl (x := (h1.1 0 2)) rfl ?_
      exact ev_iret dX6_drop_39 rfl H
    · have H := H.2 c4
      refine ev_aload_n 0 dX6_drop_23 rfl (x := 0) rfl ?_
      refine ev_iconst 0 dX6_drop_24 (by decide) ?_
      refine ev_callV (As := [vI 0]) (rest := []) dX6_drop_25 mlX6_150 rm_mX6_drop_mX6_makeCheckpoint rfl rfl rfl rfl (Nat.le_of_ble_eq_true rfl) H (fun v h6 H => ?_)
      obtain ⟨r7, rfl, H⟩ := H
      show Ev mX6_drop 28 [(1, vI (h1.1 0 2)), (0, vR 0)] [vI r7] h6 Q
      refine ev_if_ne 34 dX6_drop_28 (by decide) ⟨fun c8 => ?_, fun c8 => ?_⟩
      · have H := H.1 c8
        refine ev_aload_n 0 dX6_drop_34 rfl (x := 0) rfl ?_
        refine ev_callV (As := []) (rest := []) dX6_drop_35 mlX6_147 rm_mX6_drop_mX6_forgetIndex rfl rfl rfl rfl (Nat.le_of_ble_eq_true rfl) H (fun v h9 H => ?_)
        obtain ⟨rfl, H⟩ := H
        show Ev mX6_drop 38 [(1, vI (h1.1 0 2)), (0, vR 0)] [] h9 Q
        refine ev_iload_n 1 dX6_drop_38 rfl (x := (h1.1 0 2)) rfl ?_
        exact ev_iret dX6_drop_39 rfl H
      · have H := H.2 c8
        refine ev_bipush (-106) dX6_drop_31 (by decide) ?_
        exact ev_iret dX6_drop_33 rfl H
  · have H := H.2 c3
    refine ev_bipush (-100) dX6_drop_10 (by decide) ?_
    exact ev_iret dX6_drop_12 rfl H
set_option maxRecDepth 20000 in
theorem sX6_step {h : Hp} {Q : Option AV → Hp → Prop} {x1 : Int32} (H : EvM mX0_isDown [vR 6] h (fun v h1 => ∃ r2 : Int32, v = some (vI r2) ∧ (((r2 = 0) → (((x1 < 1) → Q (some (vI (-102))) h1) ∧ ((¬ x1 < 1) → (((x1 ≤ 1000) → Ev mX6_step 32 [(0, vR 0), (1, vI x1), (2, vI 1), (3, vI 0)] [] h1 Q) ∧ ((¬ x1 ≤ 1000) → Q (some (vI (-102))) h1))))) ∧ ((¬ r2 = 0) → Q (some (vI (-100))) h1)))) : EvM mX6_step [vR 0, vI x1] h Q := by
  refine evM_of (by decide) rfl (Nat.le_of_ble_eq_true rfl) ?_
  show Ev mX6_step 0 [(0, vR 0), (1, vI x1)] [] h Q
  refine ev_aload_n 0 dX6_step_0 rfl (x := 0) rfl ?_
  refine ev_getR dX6_step_1 flX6_19 rfl rfl ?_
  refine ev_callV (As := []) (rest := []) dX6_step_4 mlX6_81 rm_mX6_step_mX0_isDown rfl rfl rfl rfl (Nat.le_of_ble_eq_true rfl) H (fun v h1 H => ?_)
  obtain ⟨r2, rfl, H⟩ := H
  show Ev mX6_step 7 [(0, vR 0), (1, vI x1)] [vI r2] h1 Q
  refine ev_if_eq 13 dX6_step_7 (by decide) ⟨fun c3 => ?_, fun c3 => ?_⟩
  · have H := H.1 c3
    refine ev_iload_n 1 dX6_step_13 rfl (x := x1) rfl ?_
    refine ev_iconst 1 dX6_step_14 (by decide) ?_
    refine ev_icmp_lt 25 dX6_step_15 (by decide) ⟨fun c4 => ?_, fun c4 => ?_⟩
    · have H := H.1 c4
      refine ev_bipush (-102) dX6_step_25 (by decide) ?_
      exact ev_iret dX6_step_27 rfl H
    · have H := H.2 c4
      refine ev_iload_n 1 dX6_step_18 rfl (x := x1) rfl ?_
      refine ev_sipush 1000 dX6_step_19 (by decide) ?_
      refine ev_icmp_le 28 dX6_step_22 (by decide) ⟨fun c5 => ?_, fun c5 => ?_⟩
      · have H := H.1 c5
        refine ev_iconst 1 dX6_step_28 (by decide) ?_
        refine ev_istore_n 2 dX6_step_29 rfl (by decide) ?_
        refine ev_L (L' := [(2, vI 1), (0, vR 0), (1, vI x1)]) rfl ?_
        refine ev_iconst 0 dX6_step_30 (by decide) ?_
        refine ev_istore_n 3 dX6_step_31 rfl (by decide) ?_
        refine ev_L (L' := [(3, vI 0), (2, vI 1), (0, vR 0), (1, vI x1)]) rfl ?_
        exact ev_sub (L' := [(0, vR 0), (1, vI x1), (2, vI 1), (3, vI 0)]) ⟨rfl, rfl, rfl, rfl, trivial⟩ H
      · have H := H.2 c5
        refine ev_bipush (-102) dX6_step_25 (by decide) ?_
        exact ev_iret dX6_step_27 rfl H
  · have H := H.2 c3
    refine ev_bipush (-100) dX6_step_10 (by decide) ?_
    exact ev_iret dX6_step_12 rfl H
set_option maxRecDepth 20000 in
theorem sX6_step_32 {h : Hp} {Q : Option AV → Hp → Prop} {x1 : Int32} {x2 : Int32} {x3 : Int32} (H : (((x1 ≤ x3) → Ev mX6_step 115 [(0, vR 0), (2, vI x2)] [] h Q) ∧ ((¬ x1 ≤ x3) → (((x2 = 0) → Ev mX6_step 115 [(0, vR 0), (2, vI x2)] [] h Q) ∧ ((¬ x2 = 0) → EvM mX6_isBuilding [vR 0] h (fun v h3 => ∃ r4 : Int32, v = some (vI r4) ∧ (((r4 = 0) → Ev mX6_step 115 [(0, vR 0), (2, vI x2)] [] h3 Q) ∧ ((¬ r4 = 0) → ((((h3.1 0 2) = 1) → EvM mX6_scanPage [vR 0] h3 (fun v h6 => ∃ r7 : Int32, v = some (vI r7) ∧ Ev mX6_step 32 [(0, vR 0), (1, vI x1), (2, vI r7), (3, vI (x3 + 1))] [] h6 Q)) ∧ (((h3.1 0 2) = 2) → EvM mX6_mergeRuns [vR 0] h3 (fun v h8 => ∃ r9 : Int32, v = some (vI r9) ∧ Ev mX6_step 32 [(0, vR 0), (1, vI x1), (2, vI r9), (3, vI (x3 + 1))] [] h8 Q)) ∧ (((h3.1 0 2) = 3) → EvM mX6_loadNode [vR 0] h3 (fun v h10 => ∃ r11 : Int32, v = some (vI r11) ∧ Ev mX6_step 32 [(0, vR 0), (1, vI x1), (2, vI r11), (3, vI (x3 + 1))] [] h10 Q)) ∧ ((¬ (h3.1 0 2) = 1 ∧ ¬ (h3.1 0 2) = 2 ∧ ¬ (h3.1 0 2) = 3) → EvM mX6_catchUp [vR 0] h3 (fun v h12 => ∃ r13 : Int32, v = some (vI r13) ∧ Ev mX6_step 32 [(0, vR 0), (1, vI x1), (2, vI r13), (3, vI (x3 + 1))] [] h12 Q))))))))))) : Ev mX6_step 32 [(0, vR 0), (1, vI x1), (2, vI x2), (3, vI x3)] [] h Q := by
  refine ev_iload_n 3 dX6_step_32 rfl (x := x3) rfl ?_
  refine ev_iload_n 1 dX6_step_33 rfl (x := x1) rfl ?_
  refine ev_icmp_ge 115 dX6_step_34 (by decide) ⟨fun c1 => ?_, fun c1 => ?_⟩
  · have H := H.1 c1
    exact ev_sub (L' := [(0, vR 0), (2, vI x2)]) ⟨rfl, rfl, trivial⟩ H
  · have H := H.2 c1
    refine ev_iload_n 2 dX6_step_37 rfl (x := x2) rfl ?_
    refine ev_if_eq 115 dX6_step_38 (by decide) ⟨fun c2 => ?_, fun c2 => ?_⟩
    · have H := H.1 c2
      exact ev_sub (L' := [(0, vR 0), (2, vI x2)]) ⟨rfl, rfl, trivial⟩ H
    · have H := H.2 c2
      refine ev_aload_n 0 dX6_step_41 rfl (x := 0) rfl ?_
      refine ev_callV (As := []) (rest := []) dX6_step_42 mlX6_153 rm_mX6_step_mX6_isBuilding rfl rfl rfl rfl (Nat.le_of_ble_eq_true rfl) H (fun v h3 H => ?_)
      obtain ⟨r4, rfl, H⟩ := H
      show Ev mX6_step 45 [(0, vR 0), (1, vI x1), (2, vI x2), (3, vI x3)] [vI r4] h3 Q
      refine ev_if_eq 115 dX6_step_45 (by decide) ⟨fun c5 => ?_, fun c5 => ?_⟩
      · have H := H.1 c5
        exact ev_sub (L' := [(0, vR 0), (2, vI x2)]) ⟨rfl, rfl, trivial⟩ H
      · have H := H.2 c5
        refine ev_aload_n 0 dX6_step_48 rfl (x := 0) rfl ?_
        refine ev_getI dX6_step_49 flX6_23 rfl rfl ?_
        by_cases e0 : (h3.1 0 2) = 1
        · have H := H.1 e0
          refine ev_switch 80 dX6_step_52 (Or.inl ⟨by rw [e0]; decide, by rw [e0]; decide, _, by rw [e0]; rfl, by decide⟩) ?_
          refine ev_aload_n 0 dX6_step_80 rfl (x := 0) rfl ?_
          refine ev_callV (As := []) (rest := []) dX6_step_81 mlX6_156 rm_mX6_step_mX6_scanPage rfl rfl rfl rfl (Nat.le_of_ble_eq_true rfl) H (fun v h6 H => ?_)
          obtain ⟨r7, rfl, H⟩ := H
          show Ev mX6_step 84 [(0, vR 0), (1, vI x1), (2, vI x2), (3, vI x3)] [vI r7] h6 Q
          refine ev_istore_n 2 dX6_step_84 rfl (by decide) ?_
          refine ev_L (L' := [(2, vI r7), (0, vR 0), (1, vI x1), (3, vI x3)]) rfl ?_
          refine ev_goto 109 dX6_step_85 (by decide) ?_
          refine ev_iinc (x := x3) (v := 1) dX6_step_109 rfl (by decide) (by decide) ?_
          refine ev_L (L' := [(3, vI (x3 + 1)), (2, vI r7), (0, vR 0), (1, vI x1)]) rfl ?_
          refine ev_goto 32 dX6_step_112 (by decide) ?_
          exact ev_sub (L' := [(0, vR 0), (1, vI x1), (2, vI r7), (3, vI (x3 + 1))]) ⟨rfl, rfl, rfl, rfl, trivial⟩ H
        by_cases e1 : (h3.1 0 2) = 2
        · have H := H.2.1 e1
          refine ev_switch 88 dX6_step_52 (Or.inl ⟨by rw [e1]; decide, by rw [e1]; decide, _, by rw [e1]; rfl, by decide⟩) ?_
          refine ev_aload_n 0 dX6_step_88 rfl (x := 0) rfl ?_
          refine ev_callV (As := []) (rest := []) dX6_step_89 mlX6_159 rm_mX6_step_mX6_mergeRuns rfl rfl rfl rfl (Nat.le_of_ble_eq_true rfl) H (fun v h8 H => ?_)
          obtain ⟨r9, rfl, H⟩ := H
          show Ev mX6_step 92 [(0, vR 0), (1, vI x1), (2, vI x2), (3, vI x3)] [vI r9] h8 Q
          refine ev_istore_n 2 dX6_step_92 rfl (by decide) ?_
          refine ev_L (L' := [(2, vI r9), (0, vR 0), (1, vI x1), (3, vI x3)]) rfl ?_
          refine ev_goto 109 dX6_step_93 (by decide) ?_
          refine ev_iinc (x := x3) (v := 1) dX6_step_109 rfl (by decide) (by decide) ?_
          refine ev_L (L' := [(3, vI (x3 + 1)), (2, vI r9), (0, vR 0), (1, vI x1)]) rfl ?_
          refine ev_goto 32 dX6_step_112 (by decide) ?_
          exact ev_sub (L' := [(0, vR 0), (1, vI x1), (2, vI r9), (3, vI (x3 + 1))]) ⟨rfl, rfl, rfl, rfl, trivial⟩ H
        by_cases e2 : (h3.1 0 2) = 3
        · have H := H.2.2.1 e2
          refine ev_switch 96 dX6_step_52 (Or.inl ⟨by rw [e2]; decide, by rw [e2]; decide, _, by rw [e2]; rfl, by decide⟩) ?_
          refine ev_aload_n 0 dX6_step_96 rfl (x := 0) rfl ?_
          refine ev_callV (As := []) (rest := []) dX6_step_97 mlX6_162 rm_mX6_step_mX6_loadNode rfl rfl rfl rfl (Nat.le_of_ble_eq_true rfl) H (fun v h10 H => ?_)
          obtain ⟨r11, rfl, H⟩ := H
          show Ev mX6_step 100 [(0, vR 0), (1, vI x1), (2, vI x2), (3, vI x3)] [vI r11] h10 Q
          refine ev_istore_n 2 dX6_step_100 rfl (by decide) ?_
          refine ev_L (L' := [(2, vI r11), (0, vR 0), (1, vI x1), (3, vI x3)]) rfl ?_
          refine ev_goto 109 dX6_step_101 (by decide) ?_
          refine ev_iinc (x := x3) (v := 1) dX6_step_109 rfl (by decide) (by decide) ?_
          refine ev_L (L' := [(3, vI (x3 + 1)), (2, vI r11), (0, vR 0), (1, vI x1)]) rfl ?_
          refine ev_goto 32 dX6_step_112 (by decide) ?_
          exact ev_sub (L' := [(0, vR 0), (1, vI x1), (2, vI r11), (3, vI (x3 + 1))]) ⟨rfl, rfl, rfl, rfl, trivial⟩ H
        have q0 := lv_neT e0 (a := 1) (by decide)
        have q1 := lv_neT e1 (a := 2) (by decide)
        have q2 := lv_neT e2 (a := 3) (by decide)
        have H := H.2.2.2 ⟨e0, e1, e2⟩
        refine ev_switch 104 dX6_step_52 (Or.inr ⟨by omega, by decide⟩) ?_
        refine ev_aload_n 0 dX6_step_104 rfl (x := 0) rfl ?_
        refine ev_callV (As := []) (rest := []) dX6_step_105 mlX6_165 rm_mX6_step_mX6_catchUp rfl rfl rfl rfl (Nat.le_of_ble_eq_true rfl) H (fun v h12 H => ?_)
        obtain ⟨r13, rfl, H⟩ := H
        show Ev mX6_step 108 [(0, vR 0), (1, vI x1), (2, vI x2), (3, vI x3)] [vI r13] h12 Q
        refine ev_istore_n 2 dX6_step_108 rfl (by decide) ?_
        refine ev_L (L' := [(2, vI r13), (0, vR 0), (1, vI x1), (3, vI x3)]) rfl ?_
        refine ev_iinc (x := x3) (v := 1) dX6_step_109 rfl (by decide) (by decide) ?_
        refine ev_L (L' := [(3, vI (x3 + 1)), (2, vI r13), (0, vR 0), (1, vI x1)]) rfl ?_
        refine ev_goto 32 dX6_step_112 (by decide) ?_
        exact ev_sub (L' := [(0, vR 0), (1, vI x1), (2, vI r13), (3, vI (x3 + 1))]) ⟨rfl, rfl, rfl, rfl, trivial⟩ H
set_option maxRecDepth 20000 in
theorem sX6_step_115 {h : Hp} {Q : Option AV → Hp → Prop} {x2 : Int32} (H : (((x2 = 0) → Q (some (vI (-106))) h) ∧ ((¬ x2 = 0) → Q (some (vI (h.1 0 2))) h))) : Ev mX6_step 115 [(0, vR 0), (2, vI x2)] [] h Q := by
  refine ev_iload_n 2 dX6_step_115 rfl (x := x2) rfl ?_
  refine ev_if_eq 126 dX6_step_116 (by decide) ⟨fun c1 => ?_, fun c1 => ?_⟩
  · have H := H.1 c1
    refine ev_bipush (-106) dX6_step_126 (by decide) ?_
    exact ev_iret dX6_step_128 rfl H
  · have H := H.2 c1
    refine ev_aload_n 0 dX6_step_119 rfl (x := 0) rfl ?_
    refine ev_getI dX6_step_120 flX6_23 rfl rfl ?_
    refine ev_goto 128 dX6_step_123 (by decide) ?_
    exact ev_iret dX6_step_128 rfl H
set_option maxRecDepth 20000 in
theorem sX6_info {h : Hp} {Q : Option AV → Hp → Prop} {x1 : Int32} (H : EvM mX0_isDown [vR 6] h (fun v h1 => ∃ r2 : Int32, v = some (vI r2) ∧ (((r2 = 0) → (((x1 < 0) → Q (some (vI (-102))) h1) ∧ ((¬ x1 < 0) → (((x1 ≤ 11) → (((x1 = 0) → Q (some (vI (h1.1 0 2))) h1) ∧ ((x1 = 1) → ((((h1.1 0 3) = 0) → Q (some (vI 0)) h1) ∧ ((¬ (h1.1 0 3) = 0) → Q (some (vI 1)) h1))) ∧ ((x1 = 2) → Q (some (vI (h1.1 0 4))) h1) ∧ ((x1 = 3) → EvM mX3_count [vR 7] h1 (fun v h7 => ∃ r8 : Int32, v = some (vI r8) ∧ Q (some (vI r8)) h7)) ∧ ((x1 = 4) → EvM mX3_pickedCount [vR 7] h1 (fun v h9 => ∃ r10 : Int32, v = some (vI r10) ∧ Q (some (vI r10)) h9)) ∧ ((x1 = 5) → EvM mX2_count [vR 13] h1 (fun v h11 => ∃ r12 : Int32, v = some (vI r12) ∧ Q (some (vI r12)) h11)) ∧ ((x1 = 6) → EvM mX5_nodeCount [vR 16] h1 (fun v h13 => ∃ r14 : Int32, v = some (vI r14) ∧ Q (some (vI r14)) h13)) ∧ ((x1 = 7) → EvM mX6_hasTree [vR 0] h1 (fun v h15 => ∃ r16 : Int32, v = some (vI r16) ∧ (((r16 = 0) → Q (some (vI 0)) h15) ∧ ((¬ r16 = 0) → EvM mX5_levels [vR 16] h15 (fun v h18 => ∃ r19 : Int32, v = some (vI r19) ∧ Q (some (vI r19)) h18))))) ∧ ((x1 = 8) → EvM mX6_hasTree [vR 0] h1 (fun v h20 => ∃ r21 : Int32, v = some (vI r21) ∧ (((r21 = 0) → Q (some (vI 0)) h20) ∧ ((¬ r21 = 0) → EvM mX5_entryCount [vR 16] h20 (fun v h23 => ∃ r24 : Int32, v = some (vI r24) ∧ Q (some (vI r24)) h23))))) ∧ ((x1 = 9) → Q (some (vI (h1.1 0 5))) h1) ∧ ((x1 = 10) → Q (some (vI (h1.1 0 6))) h1) ∧ ((¬ x1 = 0 ∧ ¬ x1 = 1 ∧ ¬ x1 = 2 ∧ ¬ x1 = 3 ∧ ¬ x1 = 4 ∧ ¬ x1 = 5 ∧ ¬ x1 = 6 ∧ ¬ x1 = 7 ∧ ¬ x1 = 8 ∧ ¬ x1 = 9 ∧ ¬ x1 = 10) → Q (some (vI (h1.1 0 7))) h1))) ∧ ((¬ x1 ≤ 11) → Q (some (vI (-102))) h1))))) ∧ ((¬ r2 = 0) → Q (some (vI (-100))) h1)))) : EvM mX6_info [vR 0, vI x1] h Q := by
  refine evM_of (by decide) rfl (Nat.le_of_ble_eq_true rfl) ?_
  show Ev mX6_info 0 [(0, vR 0), (1, vI x1)] [] h Q
  refine ev_aload_n 0 dX6_info_0 rfl (x := 0) rfl ?_
  refine ev_getR dX6_info_1 flX6_19 rfl rfl ?_
  refine ev_callV (As := []) (rest := []) dX6_info_4 mlX6_81 rm_mX6_info_mX0_isDown rfl rfl rfl rfl (Nat.le_of_ble_eq_true rfl) H (fun v h1 H => ?_)
  obtain ⟨r2, rfl, H⟩ := H
  show Ev mX6_info 7 [(0, vR 0), (1, vI x1)] [vI r2] h1 Q
  refine ev_if_eq 13 dX6_info_7 (by decide) ⟨fun c3 => ?_, fun c3 => ?_⟩
  · have H := H.1 c3
    refine ev_iload_n 1 dX6_info_13 rfl (x := x1) rfl ?_
    refine ev_if_lt 23 dX6_info_14 (by decide) ⟨fun c4 => ?_, fun c4 => ?_⟩
    · have H := H.1 c4
      refine ev_bipush (-102) dX6_info_23 (by decide) ?_
      exact ev_iret dX6_info_25 rfl H
    · have H := H.2 c4
      refine ev_iload_n 1 dX6_info_17 rfl (x := x1) rfl ?_
      refine ev_bipush 11 dX6_info_18 (by decide) ?_
      refine ev_icmp_le 26 dX6_info_20 (by decide) ⟨fun c5 => ?_, fun c5 => ?_⟩
      · have H := H.1 c5
        refine ev_iload_n 1 dX6_info_26 rfl (x := x1) rfl ?_
        by_cases e0 : x1 = 0
        · have H := H.1 e0
          refine ev_switch 84 dX6_info_27 (Or.inl ⟨by rw [e0]; decide, by rw [e0]; decide, _, by rw [e0]; rfl, by decide⟩) ?_
          refine ev_aload_n 0 dX6_info_84 rfl (x := 0) rfl ?_
          refine ev_getI dX6_info_85 flX6_23 rfl rfl ?_
          exact ev_iret dX6_info_88 rfl H
        by_cases e1 : x1 = 1
        · have H := H.2.1 e1
          refine ev_switch 89 dX6_info_27 (Or.inl ⟨by rw [e1]; decide, by rw [e1]; decide, _, by rw [e1]; rfl, by decide⟩) ?_
          refine ev_aload_n 0 dX6_info_89 rfl (x := 0) rfl ?_
          refine ev_getI dX6_info_90 flX6_27 rfl rfl ?_
          refine ev_if_eq 100 dX6_info_93 (by decide) ⟨fun c6 => ?_, fun c6 => ?_⟩
          · have H := H.1 c6
            refine ev_iconst 0 dX6_info_100 (by decide) ?_
            exact ev_iret dX6_info_101 rfl H
          · have H := H.2 c6
            refine ev_iconst 1 dX6_info_96 (by decide) ?_
            refine ev_goto 101 dX6_info_97 (by decide) ?_
            exact ev_iret dX6_info_101 rfl H
        by_cases e2 : x1 = 2
        · have H := H.2.2.1 e2
          refine ev_switch 102 dX6_info_27 (Or.inl ⟨by rw [e2]; decide, by rw [e2]; decide, _, by rw [e2]; rfl, by decide⟩) ?_
          refine ev_aload_n 0 dX6_info_102 rfl (x := 0) rfl ?_
          refine ev_getI dX6_info_103 flX6_31 rfl rfl ?_
          exact ev_iret dX6_info_106 rfl H
        by_cases e3 : x1 = 3
        · have H := H.2.2.2.1 e3
          refine ev_switch 107 dX6_info_27 (Or.inl ⟨by rw [e3]; decide, by rw [e3]; decide, _, by rw [e3]; rfl, by decide⟩) ?_
          refine ev_aload_n 0 dX6_info_107 rfl (x := 0) rfl ?_
          refine ev_getR dX6_info_108 flX6_46 rfl rfl ?_
          refine ev_callV (As := []) (rest := []) dX6_info_111 mlX6_168 rm_mX6_info_mX3_count rfl rfl rfl rfl (Nat.le_of_ble_eq_true rfl) H (fun v h7 H => ?_)
          obtain ⟨r8, rfl, H⟩ := H
          show Ev mX6_info 114 [(0, vR 0), (1, vI x1)] [vI r8] h7 Q
          exact ev_iret dX6_info_114 rfl H
        by_cases e4 : x1 = 4
        · have H := H.2.2.2.2.1 e4
          refine ev_switch 115 dX6_info_27 (Or.inl ⟨by rw [e4]; decide, by rw [e4]; decide, _, by rw [e4]; rfl, by decide⟩) ?_
          refine ev_aload_n 0 dX6_info_115 rfl (x := 0) rfl ?_
          refine ev_getR dX6_info_116 flX6_46 rfl rfl ?_
          refine ev_callV (As := []) (rest := []) dX6_info_119 mlX6_169 rm_mX6_info_mX3_pickedCount rfl rfl rfl rfl (Nat.le_of_ble_eq_true rfl) H (fun v h9 H => ?_)
          obtain ⟨r10, rfl, H⟩ := H
          show Ev mX6_info 122 [(0, vR 0), (1, vI x1)] [vI r10] h9 Q
          exact ev_iret dX6_info_122 rfl H
        by_cases e5 : x1 = 5
        · have H := H.2.2.2.2.2.1 e5
          refine ev_switch 123 dX6_info_27 (Or.inl ⟨by rw [e5]; decide, by rw [e5]; decide, _, by rw [e5]; rfl, by decide⟩) ?_
          refine ev_aload_n 0 dX6_info_123 rfl (x := 0) rfl ?_
          refine ev_getR dX6_info_124 flX6_60 rfl rfl ?_
          refine ev_callV (As := []) (rest := []) dX6_info_127 mlX6_172 rm_mX6_info_mX2_count rfl rfl rfl rfl (Nat.le_of_ble_eq_true rfl) H (fun v h11 H => ?_)
          obtain ⟨r12, rfl, H⟩ := H
          show Ev mX6_info 130 [(0, vR 0), (1, vI x1)] [vI r12] h11 Q
          exact ev_iret dX6_info_130 rfl H
        by_cases e6 : x1 = 6
        · have H := H.2.2.2.2.2.2.1 e6
          refine ev_switch 131 dX6_info_27 (Or.inl ⟨by rw [e6]; decide, by rw [e6]; decide, _, by rw [e6]; rfl, by decide⟩) ?_
          refine ev_aload_n 0 dX6_info_131 rfl (x := 0) rfl ?_
          refine ev_getR dX6_info_132 flX6_67 rfl rfl ?_
          refine ev_callV (As := []) (rest := []) dX6_info_135 mlX6_173 rm_mX6_info_mX5_nodeCount rfl rfl rfl rfl (Nat.le_of_ble_eq_true rfl) H (fun v h13 H => ?_)
          obtain ⟨r14, rfl, H⟩ := H
          show Ev mX6_info 138 [(0, vR 0), (1, vI x1)] [vI r14] h13 Q
          exact ev_iret dX6_info_138 rfl H
        by_cases e7 : x1 = 7
        · have H := H.2.2.2.2.2.2.2.1 e7
          refine ev_switch 139 dX6_info_27 (Or.inl ⟨by rw [e7]; decide, by rw [e7]; decide, _, by rw [e7]; rfl, by decide⟩) ?_
          refine ev_aload_n 0 dX6_info_139 rfl (x := 0) rfl ?_
          refine ev_callV (As := []) (rest := []) dX6_info_140 mlX6_176 rm_mX6_info_mX6_hasTree rfl rfl rfl rfl (Nat.le_of_ble_eq_true rfl) H (fun v h15 H => ?_)
          obtain ⟨r16, rfl, H⟩ := H
          show Ev mX6_info 143 [(0, vR 0), (1, vI x1)] [vI r16] h15 Q
          refine ev_if_eq 156 dX6_info_143 (by decide) ⟨fun c17 => ?_, fun c17 => ?_⟩
          · have H := H.1 c17
            refine ev_iconst 0 dX6_info_156 (by decide) ?_
            exact ev_iret dX6_info_157 rfl H
          · have H := H.2 c17
            refine ev_aload_n 0 dX6_info_146 rfl (x := 0) rfl ?_
            refine ev_getR dX6_info_147 flX6_67 rfl rfl ?_
            refine ev_callV (As := []) (rest := []) dX6_info_150 mlX6_179 rm_mX6_info_mX5_levels rfl rfl rfl rfl (Nat.le_of_ble_eq_true rfl) H (fun v h18 H => ?_)
            obtain ⟨r19, rfl, H⟩ := H
            show Ev mX6_info 153 [(0, vR 0), (1, vI x1)] [vI r19] h18 Q
            refine ev_goto 157 dX6_info_153 (by decide) ?_
            exact ev_iret dX6_info_157 rfl H
        by_cases e8 : x1 = 8
        · have H := H.2.2.2.2.2.2.2.2.1 e8
          refine ev_switch 158 dX6_info_27 (Or.inl ⟨by rw [e8]; decide, by rw [e8]; decide, _, by rw [e8]; rfl, by decide⟩) ?_
          refine ev_aload_n 0 dX6_info_158 rfl (x := 0) rfl ?_
          refine ev_callV (As := []) (rest := []) dX6_info_159 mlX6_176 rm_mX6_info_mX6_hasTree rfl rfl rfl rfl (Nat.le_of_ble_eq_true rfl) H (fun v h20 H => ?_)
          obtain ⟨r21, rfl, H⟩ := H
          show Ev mX6_info 162 [(0, vR 0), (1, vI x1)] [vI r21] h20 Q
          refine ev_if_eq 175 dX6_info_162 (by decide) ⟨fun c22 => ?_, fun c22 => ?_⟩
          · have H := H.1 c22
            refine ev_iconst 0 dX6_info_175 (by decide) ?_
            exact ev_iret dX6_info_176 rfl H
          · have H := H.2 c22
            refine ev_aload_n 0 dX6_info_165 rfl (x := 0) rfl ?_
            refine ev_getR dX6_info_166 flX6_67 rfl rfl ?_
            refine ev_callV (As := []) (rest := []) dX6_info_169 mlX6_182 rm_mX6_info_mX5_entryCount rfl rfl rfl rfl (Nat.le_of_ble_eq_true rfl) H (fun v h23 H => ?_)
            obtain ⟨r24, rfl, H⟩ := H
            show Ev mX6_info 172 [(0, vR 0), (1, vI x1)] [vI r24] h23 Q
            refine ev_goto 176 dX6_info_172 (by decide) ?_
            exact ev_iret dX6_info_176 rfl H
        by_cases e9 : x1 = 9
        · have H := H.2.2.2.2.2.2.2.2.2.1 e9
          refine ev_switch 177 dX6_info_27 (Or.inl ⟨by rw [e9]; decide, by rw [e9]; decide, _, by rw [e9]; rfl, by decide⟩) ?_
          refine ev_aload_n 0 dX6_info_177 rfl (x := 0) rfl ?_
          refine ev_getI dX6_info_178 flX6_34 rfl rfl ?_
          exact ev_iret dX6_info_181 rfl H
        by_cases e10 : x1 = 10
        · have H := H.2.2.2.2.2.2.2.2.2.2.1 e10
          refine ev_switch 182 dX6_info_27 (Or.inl ⟨by rw [e10]; decide, by rw [e10]; decide, _, by rw [e10]; rfl, by decide⟩) ?_
          refine ev_aload_n 0 dX6_info_182 rfl (x := 0) rfl ?_
          refine ev_getI dX6_info_183 flX6_37 rfl rfl ?_
          exact ev_iret dX6_info_186 rfl H
        have q0 := lv_neT e0 (a := 0) (by decide)
        have q1 := lv_neT e1 (a := 1) (by decide)
        have q2 := lv_neT e2 (a := 2) (by decide)
        have q3 := lv_neT e3 (a := 3) (by decide)
        have q4 := lv_neT e4 (a := 4) (by decide)
        have q5 := lv_neT e5 (a := 5) (by decide)
        have q6 := lv_neT e6 (a := 6) (by decide)
        have q7 := lv_neT e7 (a := 7) (by decide)
        have q8 := lv_neT e8 (a := 8) (by decide)
        have q9 := lv_neT e9 (a := 9) (by decide)
        have q10 := lv_neT e10 (a := 10) (by decide)
        have H := H.2.2.2.2.2.2.2.2.2.2.2 ⟨e0, e1, e2, e3, e4, e5, e6, e7, e8, e9, e10⟩
        refine ev_switch 187 dX6_info_27 (Or.inr ⟨by omega, by decide⟩) ?_
        refine ev_aload_n 0 dX6_info_187 rfl (x := 0) rfl ?_
        refine ev_getI dX6_info_188 flX6_40 rfl rfl ?_
        exact ev_iret dX6_info_191 rfl H
      · have H := H.2 c5
        refine ev_bipush (-102) dX6_info_23 (by decide) ?_
        exact ev_iret dX6_info_25 rfl H
  · have H := H.2 c3
    refine ev_bipush (-100) dX6_info_10 (by decide) ?_
    exact ev_iret dX6_info_12 rfl H
set_option maxRecDepth 20000 in
theorem sX6_leaf {h : Hp} {Q : Option AV → Hp → Prop} {x1 : Int32} (H : EvM mX0_isDown [vR 6] h (fun v h1 => ∃ r2 : Int32, v = some (vI r2) ∧ (((r2 = 0) → EvM mX6_isEntryOfTree [vR 0, vI x1] h1 (fun v h4 => ∃ r5 : Int32, v = some (vI r5) ∧ (((r5 = 0) → Q (some (vI (-101))) h4) ∧ ((¬ r5 = 0) → EvM mX5_sizeOfLeafAt [vR 16, vI x1] h4 (fun v h7 => ∃ r8 : Int32, v = some (vI r8) ∧ Q (some (vI r8)) h7))))) ∧ ((¬ r2 = 0) → Q (some (vI (-100))) h1)))) : EvM mX6_leaf [vR 0, vI x1] h Q := by
  refine evM_of (by decide) rfl (Nat.le_of_ble_eq_true rfl) ?_
  show Ev mX6_leaf 0 [(0, vR 0), (1, vI x1)] [] h Q
  refine ev_aload_n 0 dX6_leaf_0 rfl (x := 0) rfl ?_
  refine ev_getR dX6_leaf_1 flX6_19 rfl rfl ?_
  refine ev_callV (As := []) (rest := []) dX6_leaf_4 mlX6_81 rm_mX6_leaf_mX0_isDown rfl rfl rfl rfl (Nat.le_of_ble_eq_true rfl) H (fun v h1 H => ?_)
  obtain ⟨r2, rfl, H⟩ := H
  show Ev mX6_leaf 7 [(0, vR 0), (1, vI x1)] [vI r2] h1 Q
  refine ev_if_eq 13 dX6_leaf_7 (by decide) ⟨fun c3 => ?_, fun c3 => ?_⟩
  · have H := H.1 c3
    refine ev_aload_n 0 dX6_leaf_13 rfl (x := 0) rfl ?_
    refine ev_iload_n 1 dX6_leaf_14 rfl (x := x1) rfl ?_
    refine ev_callV (As := [vI x1]) (rest := []) dX6_leaf_15 mlX6_185 rm_mX6_leaf_mX6_isEntryOfTree rfl rfl rfl rfl (Nat.le_of_ble_eq_true rfl) H (fun v h4 H => ?_)
    obtain ⟨r5, rfl, H⟩ := H
    show Ev mX6_leaf 18 [(0, vR 0), (1, vI x1)] [vI r5] h4 Q
    refine ev_if_eq 32 dX6_leaf_18 (by decide) ⟨fun c6 => ?_, fun c6 => ?_⟩
    · have H := H.1 c6
      refine ev_bipush (-101) dX6_leaf_32 (by decide) ?_
      exact ev_iret dX6_leaf_34 rfl H
    · have H := H.2 c6
      refine ev_aload_n 0 dX6_leaf_21 rfl (x := 0) rfl ?_
      refine ev_getR dX6_leaf_22 flX6_67 rfl rfl ?_
      refine ev_iload_n 1 dX6_leaf_25 rfl (x := x1) rfl ?_
      refine ev_callV (As := [vI x1]) (rest := []) dX6_leaf_26 mlX6_201 rm_mX6_leaf_mX5_sizeOfLeafAt rfl rfl rfl rfl (Nat.le_of_ble_eq_true rfl) H (fun v h7 H => ?_)
      obtain ⟨r8, rfl, H⟩ := H
      show Ev mX6_leaf 29 [(0, vR 0), (1, vI x1)] [vI r8] h7 Q
      refine ev_goto 34 dX6_leaf_29 (by decide) ?_
      exact ev_iret dX6_leaf_34 rfl H
  · have H := H.2 c3
    refine ev_bipush (-100) dX6_leaf_10 (by decide) ?_
    exact ev_iret dX6_leaf_12 rfl H
set_option maxRecDepth 20000 in
theorem sX6_audit {h : Hp} {Q : Option AV → Hp → Prop} (H : EvM mX0_isDown [vR 6] h (fun v h1 => ∃ r2 : Int32, v = some (vI r2) ∧ (((r2 = 0) → (((¬ (h1.1 0 2) = 5) → Ev mX6_audit 40 [(0, vR 0), (1, vI 0)] [] h1 Q) ∧ (((h1.1 0 2) = 5) → EvM mX5_hasJustTheRowsOf [vR 16, vR 1] h1 (fun v h5 => ∃ r6 : Int32, v = some (vI r6) ∧ (((¬ r6 = 0) → Ev mX6_audit 40 [(0, vR 0), (1, vI 0)] [] h5 Q) ∧ ((r6 = 0) → Ev mX6_audit 40 [(0, vR 0), (1, vI (0 + 1))] [] h5 Q)))))) ∧ ((¬ r2 = 0) → Q (some (vI (-100))) h1)))) : EvM mX6_audit [vR 0] h Q := by
  refine evM_of (by decide) rfl (Nat.le_of_ble_eq_true rfl) ?_
  show Ev mX6_audit 0 [(0, vR 0)] [] h Q
  refine ev_aload_n 0 dX6_audit_0 rfl (x := 0) rfl ?_
  refine ev_getR dX6_audit_1 flX6_19 rfl rfl ?_
  refine ev_callV (As := []) (rest := []) dX6_audit_4 mlX6_81 rm_mX6_audit_mX0_isDown rfl rfl rfl rfl (Nat.le_of_ble_eq_true rfl) H (fun v h1 H => ?_)
  obtain ⟨r2, rfl, H⟩ := H
  show Ev mX6_audit 7 [(0, vR 0)] [vI r2] h1 Q
  refine ev_if_eq 13 dX6_audit_7 (by decide) ⟨fun c3 => ?_, fun c3 => ?_⟩
  · have H := H.1 c3
    refine ev_iconst 0 dX6_audit_13 (by decide) ?_
    refine ev_istore_n 1 dX6_audit_14 rfl (by decide) ?_
    refine ev_L (L' := [(1, vI 0), (0, vR 0)]) rfl ?_
    refine ev_aload_n 0 dX6_audit_15 rfl (x := 0) rfl ?_
    refine ev_getI dX6_audit_16 flX6_23 rfl rfl ?_
    refine ev_iconst 5 dX6_audit_19 (by decide) ?_
    refine ev_icmp_ne 40 dX6_audit_20 (by decide) ⟨fun c4 => ?_, fun c4 => ?_⟩
    · have H := H.1 c4
      exact ev_sub (L' := [(0, vR 0), (1, vI 0)]) ⟨rfl, rfl, trivial⟩ H
    · have H := H.2 c4
      refine ev_aload_n 0 dX6_audit_23 rfl (x := 0) rfl ?_
      refine ev_getR dX6_audit_24 flX6_67 rfl rfl ?_
      refine ev_aload_n 0 dX6_audit_27 rfl (x := 0) rfl ?_
      refine ev_getR dX6_audit_28 flX6_10 rfl rfl ?_
      refine ev_callV (As := [vR 1]) (rest := []) dX6_audit_31 mlX6_204 rm_mX6_audit_mX5_hasJustTheRowsOf rfl rfl rfl rfl (Nat.le_of_ble_eq_true rfl) H (fun v h5 H => ?_)
      obtain ⟨r6, rfl, H⟩ := H
      show Ev mX6_audit 34 [(1, vI 0), (0, vR 0)] [vI r6] h5 Q
      refine ev_if_ne 40 dX6_audit_34 (by decide) ⟨fun c7 => ?_, fun c7 => ?_⟩
      · have H := H.1 c7
        exact ev_sub (L' := [(0, vR 0), (1, vI 0)]) ⟨rfl, rfl, trivial⟩ H
      · have H := H.2 c7
        refine ev_iinc (x := 0) (v := 1) dX6_audit_37 rfl (by decide) (by decide) ?_
        refine ev_L (L' := [(1, vI (0 + 1)), (0, vR 0)]) rfl ?_
        exact ev_sub (L' := [(0, vR 0), (1, vI (0 + 1))]) ⟨rfl, rfl, trivial⟩ H
  · have H := H.2 c3
    refine ev_bipush (-100) dX6_audit_10 (by decide) ?_
    exact ev_iret dX6_audit_12 rfl H
set_option maxRecDepth 20000 in
theorem sX6_audit_40 {h : Hp} {Q : Option AV → Hp → Prop} {x1 : Int32} (H : EvM mX6_hasTree [vR 0] h (fun v h1 => ∃ r2 : Int32, v = some (vI r2) ∧ (((r2 = 0) → Ev mX6_audit 60 [(0, vR 0), (1, vI x1)] [] h1 Q) ∧ ((¬ r2 = 0) → EvM mX5_sizesAreRight [vR 16] h1 (fun v h4 => ∃ r5 : Int32, v = some (vI r5) ∧ (((¬ r5 = 0) → Ev mX6_audit 60 [(0, vR 0), (1, vI x1)] [] h4 Q) ∧ ((r5 = 0) → Ev mX6_audit 60 [(0, vR 0), (1, vI (x1 + 1))] [] h4 Q))))))) : Ev mX6_audit 40 [(0, vR 0), (1, vI x1)] [] h Q := by
  refine ev_aload_n 0 dX6_audit_40 rfl (x := 0) rfl ?_
  refine ev_callV (As := []) (rest := []) dX6_audit_41 mlX6_176 rm_mX6_audit_mX6_hasTree rfl rfl rfl rfl (Nat.le_of_ble_eq_true rfl) H (fun v h1 H => ?_)
  obtain ⟨r2, rfl, H⟩ := H
  show Ev mX6_audit 44 [(0, vR 0), (1, vI x1)] [vI r2] h1 Q
  refine ev_if_eq 60 dX6_audit_44 (by decide) ⟨fun c3 => ?_, fun c3 => ?_⟩
  · have H := H.1 c3
    exact ev_sub (L' := [(0, vR 0), (1, vI x1)]) ⟨rfl, rfl, trivial⟩ H
  · have H := H.2 c3
    refine ev_aload_n 0 dX6_audit_47 rfl (x := 0) rfl ?_
    refine ev_getR dX6_audit_48 flX6_67 rfl rfl ?_
    refine ev_callV (As := []) (rest := []) dX6_audit_51 mlX6_208 rm_mX6_audit_mX5_sizesAreRight rfl rfl rfl rfl (Nat.le_of_ble_eq_true rfl) H (fun v h4 H => ?_)
    obtain ⟨r5, rfl, H⟩ := H
    show Ev mX6_audit 54 [(0, vR 0), (1, vI x1)] [vI r5] h4 Q
    refine ev_if_ne 60 dX6_audit_54 (by decide) ⟨fun c6 => ?_, fun c6 => ?_⟩
    · have H := H.1 c6
      exact ev_sub (L' := [(0, vR 0), (1, vI x1)]) ⟨rfl, rfl, trivial⟩ H
    · have H := H.2 c6
      refine ev_iinc (x := x1) (v := 1) dX6_audit_57 rfl (by decide) (by decide) ?_
      refine ev_L (L' := [(1, vI (x1 + 1)), (0, vR 0)]) rfl ?_
      exact ev_sub (L' := [(0, vR 0), (1, vI (x1 + 1))]) ⟨rfl, rfl, trivial⟩ H
set_option maxRecDepth 20000 in
theorem sX6_audit_60 {h : Hp} {Q : Option AV → Hp → Prop} {x1 : Int32} (H : EvM mX6_hasTree [vR 0] h (fun v h1 => ∃ r2 : Int32, v = some (vI r2) ∧ (((r2 = 0) → Q (some (vI x1)) h1) ∧ ((¬ r2 = 0) → EvM mX5_leavesAreInOneRow [vR 16] h1 (fun v h4 => ∃ r5 : Int32, v = some (vI r5) ∧ (((¬ r5 = 0) → Q (some (vI x1)) h4) ∧ ((r5 = 0) → Q (some (vI (x1 + 1))) h4))))))) : Ev mX6_audit 60 [(0, vR 0), (1, vI x1)] [] h Q := by
  refine ev_aload_n 0 dX6_audit_60 rfl (x := 0) rfl ?_
  refine ev_callV (As := []) (rest := []) dX6_audit_61 mlX6_176 rm_mX6_audit_mX6_hasTree rfl rfl rfl rfl (Nat.le_of_ble_eq_true rfl) H (fun v h1 H => ?_)
  obtain ⟨r2, rfl, H⟩ := H
  show Ev mX6_audit 64 [(0, vR 0), (1, vI x1)] [vI r2] h1 Q
  refine ev_if_eq 80 dX6_audit_64 (by decide) ⟨fun c3 => ?_, fun c3 => ?_⟩
  · have H := H.1 c3
    refine ev_iload_n 1 dX6_audit_80 rfl (x := x1) rfl ?_
    exact ev_iret dX6_audit_81 rfl H
  · have H := H.2 c3
    refine ev_aload_n 0 dX6_audit_67 rfl (x := 0) rfl ?_
    refine ev_getR dX6_audit_68 flX6_67 rfl rfl ?_
    refine ev_callV (As := []) (rest := []) dX6_audit_71 mlX6_211 rm_mX6_audit_mX5_leavesAreInOneRow rfl rfl rfl rfl (Nat.le_of_ble_eq_true rfl) H (fun v h4 H => ?_)
    obtain ⟨r5, rfl, H⟩ := H
    show Ev mX6_audit 74 [(0, vR 0), (1, vI x1)] [vI r5] h4 Q
    refine ev_if_ne 80 dX6_audit_74 (by decide) ⟨fun c6 => ?_, fun c6 => ?_⟩
    · have H := H.1 c6
      refine ev_iload_n 1 dX6_audit_80 rfl (x := x1) rfl ?_
      exact ev_iret dX6_audit_81 rfl H
    · have H := H.2 c6
      refine ev_iinc (x := x1) (v := 1) dX6_audit_77 rfl (by decide) (by decide) ?_
      refine ev_L (L' := [(1, vI (x1 + 1)), (0, vR 0)]) rfl ?_
      refine ev_iload_n 1 dX6_audit_80 rfl (x := (x1 + 1)) rfl ?_
      exact ev_iret dX6_audit_81 rfl H
set_option maxRecDepth 20000 in
theorem sX6_ask {h : Hp} {Q : Option AV → Hp → Prop} {x1 : Int32} {x2 : Int32} (H : EvM mX0_isDown [vR 6] h (fun v h1 => ∃ r2 : Int32, v = some (vI r2) ∧ (((r2 = 0) → (((¬ (h1.1 0 2) = 5) → (∀ h5 : Hp, h5 = sI h1 0 (upd (h1.1 0) 14 20) → EvM mX4_tell [vR 1, vI x1, vI x2, vR 26] h5 (fun v h6 => ∃ r7 : Int32, v = some (vI r7) ∧ (∀ h8 : Hp, h8 = sI h6 0 (upd (h6.1 0) 13 r7) → Q (some (vI (h8.1 0 13))) h8)))) ∧ (((h1.1 0 2) = 5) → EvM mX5_costOf [vR 16, vI x1, vI x2] h1 (fun v h9 => ∃ r10 : Int32, v = some (vI r10) ∧ (∀ h11 : Hp, h11 = sI h9 0 (upd (h9.1 0) 14 r10) → EvM mX5_tell [vR 16, vI x1, vI x2, vR 26] h11 (fun v h12 => ∃ r13 : Int32, v = some (vI r13) ∧ (∀ h14 : Hp, h14 = sI h12 0 (upd (h12.1 0) 13 r13) → Q (some (vI (h14.1 0 13))) h14))))))) ∧ ((¬ r2 = 0) → Q (some (vI (-100))) h1)))) : EvM mX6_ask [vR 0, vI x1, vI x2] h Q := by
  refine evM_of (by decide) rfl (Nat.le_of_ble_eq_true rfl) ?_
  show Ev mX6_ask 0 [(0, vR 0), (1, vI x1), (2, vI x2)] [] h Q
  refine ev_aload_n 0 dX6_ask_0 rfl (x := 0) rfl ?_
  refine ev_getR dX6_ask_1 flX6_19 rfl rfl ?_
  refine ev_callV (As := []) (rest := []) dX6_ask_4 mlX6_81 rm_mX6_ask_mX0_isDown rfl rfl rfl rfl (Nat.le_of_ble_eq_true rfl) H (fun v h1 H => ?_)
  obtain ⟨r2, rfl, H⟩ := H
  show Ev mX6_ask 7 [(0, vR 0), (1, vI x1), (2, vI x2)] [vI r2] h1 Q
  refine ev_if_eq 13 dX6_ask_7 (by decide) ⟨fun c3 => ?_, fun c3 => ?_⟩
  · have H := H.1 c3
    refine ev_aload_n 0 dX6_ask_13 rfl (x := 0) rfl ?_
    refine ev_getI dX6_ask_14 flX6_23 rfl rfl ?_
    refine ev_iconst 5 dX6_ask_17 (by decide) ?_
    refine ev_icmp_ne 54 dX6_ask_18 (by decide) ⟨fun c4 => ?_, fun c4 => ?_⟩
    · have H := H.1 c4
      refine ev_aload_n 0 dX6_ask_54 rfl (x := 0) rfl ?_
      refine ev_bipush 20 dX6_ask_55 (by decide) ?_
      refine ev_putI dX6_ask_57 fpX6_78 rfl rfl   ?_
      obtain ⟨h5, eh5⟩ : ∃ z : Hp, z = sI h1 0 (upd (h1.1 0) 14 20) := ⟨_, rfl⟩
      rw [← eh5]
      have H := H h5 eh5
      refine ev_aload_n 0 dX6_ask_60 rfl (x := 0) rfl ?_
      refine ev_aload_n 0 dX6_ask_61 rfl (x := 0) rfl ?_
      refine ev_getR dX6_ask_62 flX6_10 rfl rfl ?_
      refine ev_iload_n 1 dX6_ask_65 rfl (x := x1) rfl ?_
      refine ev_iload_n 2 dX6_ask_66 rfl (x := x2) rfl ?_
      refine ev_aload_n 0 dX6_ask_67 rfl (x := 0) rfl ?_
      refine ev_getR dX6_ask_68 flX6_71 rfl rfl ?_
      refine ev_callV (As := [vI x1, vI x2, vR 26]) (rest := [vR 0]) dX6_ask_71 mlX6_222 rm_mX6_ask_mX4_tell rfl rfl rfl rfl (Nat.le_of_ble_eq_true rfl) H (fun v h6 H => ?_)
      obtain ⟨r7, rfl, H⟩ := H
      show Ev mX6_ask 74 [(0, vR 0), (1, vI x1), (2, vI x2)] [vI r7, vR 0] h6 Q
      refine ev_putI dX6_ask_74 fpX6_75 rfl rfl   ?_
      obtain ⟨h8, eh8⟩ : ∃ z : Hp, z = sI h6 0 (upd (h6.1 0) 13 r7) := ⟨_, rfl⟩
      rw [← eh8]
      have H := H h8 eh8
      refine ev_aload_n 0 dX6_ask_77 rfl (x := 0) rfl ?_
      refine ev_getI dX6_ask_78 flX6_75 rfl rfl ?_
      exact ev_iret dX6_ask_81 rfl H
    · have H := H.2 c4
      refine ev_aload_n 0 dX6_ask_21 rfl (x := 0) rfl ?_
      refine ev_aload_n 0 dX6_ask_22 rfl (x := 0) rfl ?_
      refine ev_getR dX6_ask_23 flX6_67 rfl rfl ?_
      refine ev_iload_n 1 dX6_ask_26 rfl (x := x1) rfl ?_
      refine ev_iload_n 2 dX6_ask_27 rfl (x := x2) rfl ?_
      refine ev_callV (As := [vI x1, vI x2]) (rest := [vR 0]) dX6_ask_28 mlX6_214 rm_mX6_ask_mX5_costOf rfl rfl rfl rfl (Nat.le_of_ble_eq_true rfl) H (fun v h9 H => ?_)
      obtain ⟨r10, rfl, H⟩ := H
      show Ev mX6_ask 31 [(0, vR 0), (1, vI x1), (2, vI x2)] [vI r10, vR 0] h9 Q
      refine ev_putI dX6_ask_31 fpX6_78 rfl rfl   ?_
      obtain ⟨h11, eh11⟩ : ∃ z : Hp, z = sI h9 0 (upd (h9.1 0) 14 r10) := ⟨_, rfl⟩
      rw [← eh11]
      have H := H h11 eh11
      refine ev_aload_n 0 dX6_ask_34 rfl (x := 0) rfl ?_
      refine ev_aload_n 0 dX6_ask_35 rfl (x := 0) rfl ?_
      refine ev_getR dX6_ask_36 flX6_67 rfl rfl ?_
      refine ev_iload_n 1 dX6_ask_39 rfl (x := x1) rfl ?_
      refine ev_iload_n 2 dX6_ask_40 rfl (x := x2) rfl ?_
      refine ev_aload_n 0 dX6_ask_41 rfl (x := 0) rfl ?_
      refine ev_getR dX6_ask_42 flX6_71 rfl rfl ?_
      refine ev_callV (As := [vI x1, vI x2, vR 26]) (rest := [vR 0]) dX6_ask_45 mlX6_218 rm_mX6_ask_mX5_tell rfl rfl rfl rfl (Nat.le_of_ble_eq_true rfl) H (fun v h12 H => ?_)
      obtain ⟨r13, rfl, H⟩ := H
      show Ev mX6_ask 48 [(0, vR 0), (1, vI x1), (2, vI x2)] [vI r13, vR 0] h12 Q
      refine ev_putI dX6_ask_48 fpX6_75 rfl rfl   ?_
      obtain ⟨h14, eh14⟩ : ∃ z : Hp, z = sI h12 0 (upd (h12.1 0) 13 r13) := ⟨_, rfl⟩
      rw [← eh14]
      have H := H h14 eh14
      refine ev_goto 77 dX6_ask_51 (by decide) ?_
      refine ev_aload_n 0 dX6_ask_77 rfl (x := 0) rfl ?_
      refine ev_getI dX6_ask_78 flX6_75 rfl rfl ?_
      exact ev_iret dX6_ask_81 rfl H
  · have H := H.2 c3
    refine ev_bipush (-100) dX6_ask_10 (by decide) ?_
    exact ev_iret dX6_ask_12 rfl H
set_option maxRecDepth 20000 in
theorem sX6_answer {h : Hp} {Q : Option AV → Hp → Prop} {x1 : Int32} (H : (((x1 < 0) → Q (some (vI (-1))) h) ∧ ((¬ x1 < 0) → ((((h.1 0 13) ≤ x1) → Q (some (vI (-1))) h) ∧ ((¬ (h.1 0 13) ≤ x1) → (((240 ≤ x1) → Q (some (vI (-1))) h) ∧ ((¬ 240 ≤ x1) → (vp_in x1 240 ∧ Q (some (vI (h.1 26 (Int32.toNatClampNeg x1)))) h)))))))) : EvM mX6_answer [vR 0, vI x1] h Q := by
  refine evM_of (by decide) rfl (Nat.le_of_ble_eq_true rfl) ?_
  show Ev mX6_answer 0 [(0, vR 0), (1, vI x1)] [] h Q
  refine ev_iload_n 1 dX6_answer_0 rfl (x := x1) rfl ?_
  refine ev_if_lt 30 dX6_answer_1 (by decide) ⟨fun c1 => ?_, fun c1 => ?_⟩
  · have H := H.1 c1
    refine ev_iconst (-1) dX6_answer_30 (by decide) ?_
    exact ev_iret dX6_answer_31 rfl H
  · have H := H.2 c1
    refine ev_iload_n 1 dX6_answer_4 rfl (x := x1) rfl ?_
    refine ev_aload_n 0 dX6_answer_5 rfl (x := 0) rfl ?_
    refine ev_getI dX6_answer_6 flX6_75 rfl rfl ?_
    refine ev_icmp_ge 30 dX6_answer_9 (by decide) ⟨fun c2 => ?_, fun c2 => ?_⟩
    · have H := H.1 c2
      refine ev_iconst (-1) dX6_answer_30 (by decide) ?_
      exact ev_iret dX6_answer_31 rfl H
    · have H := H.2 c2
      refine ev_iload_n 1 dX6_answer_12 rfl (x := x1) rfl ?_
      refine ev_aload_n 0 dX6_answer_13 rfl (x := 0) rfl ?_
      refine ev_getR dX6_answer_14 flX6_71 rfl rfl ?_
      refine ev_alen 240 dX6_answer_17 rfl (by decide) (by decide) (by decide) ?_
      refine ev_icmp_ge 30 dX6_answer_18 (by decide) ⟨fun c3 => ?_, fun c3 => ?_⟩
      · have H := H.1 c3
        refine ev_iconst (-1) dX6_answer_30 (by decide) ?_
        exact ev_iret dX6_answer_31 rfl H
      · have H := H.2 c3
        refine ev_aload_n 0 dX6_answer_21 rfl (x := 0) rfl ?_
        refine ev_getR dX6_answer_22 flX6_71 rfl rfl ?_
        refine ev_iload_n 1 dX6_answer_25 rfl (x := x1) rfl ?_
        obtain ⟨b4, H⟩ := H
        refine ev_iald dX6_answer_26 rfl b4 ?_
        refine ev_goto 31 dX6_answer_27 (by decide) ?_
        exact ev_iret dX6_answer_31 rfl H
set_option maxRecDepth 20000 in
theorem sX6_cost {h : Hp} {Q : Option AV → Hp → Prop} (H : Q (some (vI (h.1 0 14))) h) : EvM mX6_cost [vR 0] h Q := by
  refine evM_of (by decide) rfl (Nat.le_of_ble_eq_true rfl) ?_
  show Ev mX6_cost 0 [(0, vR 0)] [] h Q
  refine ev_aload_n 0 dX6_cost_0 rfl (x := 0) rfl ?_
  refine ev_getI dX6_cost_1 flX6_78 rfl rfl ?_
  exact ev_iret dX6_cost_4 rfl H
set_option maxRecDepth 20000 in
theorem sX6_entryOf {h : Hp} {Q : Option AV → Hp → Prop} {x0 : Int32} {x1 : Int32} (H : Q (some (vL (((Int32.toInt64 x0) <<< (Int32.toInt64 8 &&& 63)) ||| (Int32.toInt64 x1)))) h) : EvM mX6_entryOf [vI x0, vI x1] h Q := by
  refine evM_of (by decide) rfl (Nat.le_of_ble_eq_true rfl) ?_
  show Ev mX6_entryOf 0 [(0, vI x0), (1, vI x1)] [] h Q
  refine ev_iload_n 0 dX6_entryOf_0 rfl (x := x0) rfl ?_
  refine ev_i2l dX6_entryOf_1 ?_
  refine ev_bipush 8 dX6_entryOf_2 (by decide) ?_
  refine ev_lshl dX6_entryOf_4 ?_
  refine ev_iload_n 1 dX6_entryOf_5 rfl (x := x1) rfl ?_
  refine ev_i2l dX6_entryOf_6 ?_
  refine ev_lor dX6_entryOf_7 ?_
  exact ev_lret dX6_entryOf_8 rfl H
set_option maxRecDepth 20000 in
theorem sX6_keyOf {h : Hp} {Q : Option AV → Hp → Prop} {x0 : Int64} (H : Q (some (vI (Int64.toInt32 (x0 >>> (Int32.toInt64 8 &&& 63))))) h) : EvM mX6_keyOf [vL x0] h Q := by
  refine evM_of (by decide) rfl (Nat.le_of_ble_eq_true rfl) ?_
  show Ev mX6_keyOf 0 [(0, vL x0)] [] h Q
  refine ev_lload_n 0 dX6_keyOf_0 rfl (x := x0) rfl ?_
  refine ev_bipush 8 dX6_keyOf_1 (by decide) ?_
  refine ev_lshr dX6_keyOf_3 ?_
  refine ev_l2i dX6_keyOf_4 ?_
  exact ev_iret dX6_keyOf_5 rfl H
set_option maxRecDepth 20000 in
theorem sX6_placeOf {h : Hp} {Q : Option AV → Hp → Prop} {x0 : Int64} (H : Q (some (vI (Int64.toInt32 (x0 &&& 255)))) h) : EvM mX6_placeOf [vL x0] h Q := by
  refine evM_of (by decide) rfl (Nat.le_of_ble_eq_true rfl) ?_
  show Ev mX6_placeOf 0 [(0, vL x0)] [] h Q
  refine ev_lload_n 0 dX6_placeOf_0 rfl (x := x0) rfl ?_
  refine ev_ldc2 dX6_placeOf_1 lcX6_223 ?_
  refine ev_land dX6_placeOf_4 ?_
  refine ev_l2i dX6_placeOf_5 ?_
  exact ev_iret dX6_placeOf_6 rfl H
set_option maxRecDepth 20000 in
theorem sX6_wouldRepeat {h : Hp} {Q : Option AV → Hp → Prop} {x1 : Int32} {x2 : Int32} (H : (((¬ (h.1 0 2) = 5) → Q (some (vI 0)) h) ∧ (((h.1 0 2) = 5) → ((((h.1 0 3) = 0) → Q (some (vI 0)) h) ∧ ((¬ (h.1 0 3) = 0) → EvM mX4_hasKeyBeside [vR 1, vI x1, vI x2] h (fun v h3 => ∃ r4 : Int32, v = some (vI r4) ∧ (((r4 = 0) → Q (some (vI 0)) h3) ∧ ((¬ r4 = 0) → Q (some (vI 1)) h3)))))))) : EvM mX6_wouldRepeat [vR 0, vI x1, vI x2] h Q := by
  refine evM_of (by decide) rfl (Nat.le_of_ble_eq_true rfl) ?_
  show Ev mX6_wouldRepeat 0 [(0, vR 0), (1, vI x1), (2, vI x2)] [] h Q
  refine ev_aload_n 0 dX6_wouldRepeat_0 rfl (x := 0) rfl ?_
  refine ev_getI dX6_wouldRepeat_1 flX6_23 rfl rfl ?_
  refine ev_iconst 5 dX6_wouldRepeat_4 (by decide) ?_
  refine ev_icmp_ne 31 dX6_wouldRepeat_5 (by decide) ⟨fun c1 => ?_, fun c1 => ?_⟩
  · have H := H.1 c1
    refine ev_iconst 0 dX6_wouldRepeat_31 (by decide) ?_
    exact ev_zret dX6_wouldRepeat_32 rfl (by decide) H
  · have H := H.2 c1
    refine ev_aload_n 0 dX6_wouldRepeat_8 rfl (x := 0) rfl ?_
    refine ev_getI dX6_wouldRepeat_9 flX6_27 rfl rfl ?_
    refine ev_if_eq 31 dX6_wouldRepeat_12 (by decide) ⟨fun c2 => ?_, fun c2 => ?_⟩
    · have H := H.1 c2
      refine ev_iconst 0 dX6_wouldRepeat_31 (by decide) ?_
      exact ev_zret dX6_wouldRepeat_32 rfl (by decide) H
    · have H := H.2 c2
      refine ev_aload_n 0 dX6_wouldRepeat_15 rfl (x := 0) rfl ?_
      refine ev_getR dX6_wouldRepeat_16 flX6_10 rfl rfl ?_
      refine ev_iload_n 1 dX6_wouldRepeat_19 rfl (x := x1) rfl ?_
      refine ev_iload_n 2 dX6_wouldRepeat_20 rfl (x := x2) rfl ?_
      refine ev_callV (As := [vI x1, vI x2]) (rest := []) dX6_wouldRepeat_21 mlX6_225 rm_mX6_wouldRepeat_mX4_hasKeyBeside rfl rfl rfl rfl (Nat.le_of_ble_eq_true rfl) H (fun v h3 H => ?_)
      obtain ⟨r4, rfl, H⟩ := H
      show Ev mX6_wouldRepeat 24 [(0, vR 0), (1, vI x1), (2, vI x2)] [vI r4] h3 Q
      refine ev_if_eq 31 dX6_wouldRepeat_24 (by decide) ⟨fun c5 => ?_, fun c5 => ?_⟩
      · have H := H.1 c5
        refine ev_iconst 0 dX6_wouldRepeat_31 (by decide) ?_
        exact ev_zret dX6_wouldRepeat_32 rfl (by decide) H
      · have H := H.2 c5
        refine ev_iconst 1 dX6_wouldRepeat_27 (by decide) ?_
        refine ev_goto 32 dX6_wouldRepeat_28 (by decide) ?_
        exact ev_zret dX6_wouldRepeat_32 rfl (by decide) H
set_option maxRecDepth 20000 in
theorem sX6_writeDown {h : Hp} {Q : Option AV → Hp → Prop} (H : EvM mX0_writesSinceCheckpoint [vR 6] h (fun v h1 => ∃ r2 : Int32, v = some (vI r2) ∧ (((r2 < 30) → Ev mX6_writeDown 42 [(0, vR 0)] [] h1 Q) ∧ ((¬ r2 < 30) → (((¬ (h1.1 0 2) = 5) → Ev mX6_writeDown 31 [(0, vR 0)] [vI 0] h1 Q) ∧ (((h1.1 0 2) = 5) → EvM mX5_touchedCount [vR 16] h1 (fun v h5 => ∃ r6 : Int32, v = some (vI r6) ∧ Ev mX6_writeDown 31 [(0, vR 0)] [vI r6] h5 Q))))))) : EvM mX6_writeDown [vR 0] h Q := by
  refine evM_of (by decide) rfl (Nat.le_of_ble_eq_true rfl) ?_
  show Ev mX6_writeDown 0 [(0, vR 0)] [] h Q
  refine ev_aload_n 0 dX6_writeDown_0 rfl (x := 0) rfl ?_
  refine ev_getR dX6_writeDown_1 flX6_19 rfl rfl ?_
  refine ev_callV (As := []) (rest := []) dX6_writeDown_4 mlX6_228 rm_mX6_writeDown_mX0_writesSinceCheckpoint rfl rfl rfl rfl (Nat.le_of_ble_eq_true rfl) H (fun v h1 H => ?_)
  obtain ⟨r2, rfl, H⟩ := H
  show Ev mX6_writeDown 7 [(0, vR 0)] [vI r2] h1 Q
  refine ev_bipush 30 dX6_writeDown_7 (by decide) ?_
  refine ev_icmp_lt 42 dX6_writeDown_9 (by decide) ⟨fun c3 => ?_, fun c3 => ?_⟩
  · have H := H.1 c3
    exact ev_sub (L' := [(0, vR 0)]) ⟨rfl, trivial⟩ H
  · have H := H.2 c3
    refine ev_aload_n 0 dX6_writeDown_12 rfl (x := 0) rfl ?_
    refine ev_getI dX6_writeDown_13 flX6_23 rfl rfl ?_
    refine ev_iconst 5 dX6_writeDown_16 (by decide) ?_
    refine ev_icmp_ne 30 dX6_writeDown_17 (by decide) ⟨fun c4 => ?_, fun c4 => ?_⟩
    · have H := H.1 c4
      refine ev_iconst 0 dX6_writeDown_30 (by decide) ?_
      exact ev_sub (L' := [(0, vR 0)]) ⟨rfl, trivial⟩ H
    · have H := H.2 c4
      refine ev_aload_n 0 dX6_writeDown_20 rfl (x := 0) rfl ?_
      refine ev_getR dX6_writeDown_21 flX6_67 rfl rfl ?_
      refine ev_callV (As := []) (rest := []) dX6_writeDown_24 mlX6_231 rm_mX6_writeDown_mX5_touchedCount rfl rfl rfl rfl (Nat.le_of_ble_eq_true rfl) H (fun v h5 H => ?_)
      obtain ⟨r6, rfl, H⟩ := H
      show Ev mX6_writeDown 27 [(0, vR 0)] [vI r6] h5 Q
      refine ev_goto 31 dX6_writeDown_27 (by decide) ?_
      exact ev_sub (L' := [(0, vR 0)]) ⟨rfl, trivial⟩ H
set_option maxRecDepth 20000 in
theorem sX6_writeDown_42 {h : Hp} {Q : Option AV → Hp → Prop} (H : EvM mX6_putBlocks [vR 0, vI 1] h (fun v h1 => ∃ r2 : Int32, v = some (vI r2) ∧ (((¬ r2 = 0) → EvM mX0_noteWrite [vR 6] h1 (fun v h4 => v = none ∧ Q (some (vI 1)) h4)) ∧ ((r2 = 0) → Q (some (vI 0)) h1)))) : Ev mX6_writeDown 42 [(0, vR 0)] [] h Q := by
  refine ev_aload_n 0 dX6_writeDown_42 rfl (x := 0) rfl ?_
  refine ev_iconst 1 dX6_writeDown_43 (by decide) ?_
  refine ev_callV (As := [vI 1]) (rest := []) dX6_writeDown_44 mlX6_234 rm_mX6_writeDown_mX6_putBlocks rfl rfl rfl rfl (Nat.le_of_ble_eq_true rfl) H (fun v h1 H => ?_)
  obtain ⟨r2, rfl, H⟩ := H
  show Ev mX6_writeDown 47 [(0, vR 0)] [vI r2] h1 Q
  refine ev_if_ne 52 dX6_writeDown_47 (by decide) ⟨fun c3 => ?_, fun c3 => ?_⟩
  · have H := H.1 c3
    refine ev_aload_n 0 dX6_writeDown_52 rfl (x := 0) rfl ?_
    refine ev_getR dX6_writeDown_53 flX6_19 rfl rfl ?_
    refine ev_callV (As := []) (rest := []) dX6_writeDown_56 mlX6_237 rm_mX6_writeDown_mX0_noteWrite rfl rfl rfl rfl (Nat.le_of_ble_eq_true rfl) H (fun v h4 H => ?_)
    obtain ⟨rfl, H⟩ := H
    show Ev mX6_writeDown 59 [(0, vR 0)] [] h4 Q
    refine ev_iconst 1 dX6_writeDown_59 (by decide) ?_
    exact ev_zret dX6_writeDown_60 rfl (by decide) H
  · have H := H.2 c3
    refine ev_iconst 0 dX6_writeDown_50 (by decide) ?_
    exact ev_zret dX6_writeDown_51 rfl (by decide) H
set_option maxRecDepth 20000 in
theorem sX6_writeDown_31 {h : Hp} {Q : Option AV → Hp → Prop} {s0 : Int32} (H : EvM mX6_makeCheckpoint [vR 0, vI s0] h (fun v h1 => ∃ r2 : Int32, v = some (vI r2) ∧ (((¬ r2 = 0) → Ev mX6_writeDown 42 [(0, vR 0)] [] h1 Q) ∧ ((r2 = 0) → Q (some (vI 0)) h1)))) : Ev mX6_writeDown 31 [(0, vR 0)] [vI s0] h Q := by
  refine ev_istore_n 1 dX6_writeDown_31 rfl (by decide) ?_
  refine ev_L (L' := [(1, vI s0), (0, vR 0)]) rfl ?_
  refine ev_aload_n 0 dX6_writeDown_32 rfl (x := 0) rfl ?_
  refine ev_iload_n 1 dX6_writeDown_33 rfl (x := s0) rfl ?_
  refine ev_callV (As := [vI s0]) (rest := []) dX6_writeDown_34 mlX6_150 rm_mX6_writeDown_mX6_makeCheckpoint rfl rfl rfl rfl (Nat.le_of_ble_eq_true rfl) H (fun v h1 H => ?_)
  obtain ⟨r2, rfl, H⟩ := H
  show Ev mX6_writeDown 37 [(1, vI s0), (0, vR 0)] [vI r2] h1 Q
  refine ev_if_ne 42 dX6_writeDown_37 (by decide) ⟨fun c3 => ?_, fun c3 => ?_⟩
  · have H := H.1 c3
    exact ev_sub (L' := [(0, vR 0)]) ⟨rfl, trivial⟩ H
  · have H := H.2 c3
    refine ev_iconst 0 dX6_writeDown_40 (by decide) ?_
    exact ev_zret dX6_writeDown_41 rfl (by decide) H
set_option maxRecDepth 20000 in
theorem sX6_makeCheckpoint {h : Hp} {Q : Option AV → Hp → Prop} {x1 : Int32} (H : EvM mX4_touchedPages [vR 1] h (fun v h1 => ∃ r2 : Int32, v = some (vI r2) ∧ EvM mX6_putBlocks [vR 0, vI ((r2 + x1) + 1)] h1 (fun v h3 => ∃ r4 : Int32, v = some (vI r4) ∧ (((¬ r4 = 0) → EvM mX0_noteCheckpoint [vR 6, vI ((r2 + x1) + 1)] h3 (fun v h6 => v = none ∧ EvM mX4_untouch [vR 1] h6 (fun v h7 => v = none ∧ EvM mX5_untouch [vR 16] h7 (fun v h8 => v = none ∧ Q (some (vI 1)) h8)))) ∧ ((r4 = 0) → Q (some (vI 0)) h3))))) : EvM mX6_makeCheckpoint [vR 0, vI x1] h Q := by
  refine evM_of (by decide) rfl (Nat.le_of_ble_eq_true rfl) ?_
  show Ev mX6_makeCheckpoint 0 [(0, vR 0), (1, vI x1)] [] h Q
  refine ev_aload_n 0 dX6_makeCheckpoint_0 rfl (x := 0) rfl ?_
  refine ev_getR dX6_makeCheckpoint_1 flX6_10 rfl rfl ?_
  refine ev_callV (As := []) (rest := []) dX6_makeCheckpoint_4 mlX6_240 rm_mX6_makeCheckpoint_mX4_touchedPages rfl rfl rfl rfl (Nat.le_of_ble_eq_true rfl) H (fun v h1 H => ?_)
  obtain ⟨r2, rfl, H⟩ := H
  show Ev mX6_makeCheckpoint 7 [(0, vR 0), (1, vI x1)] [vI r2] h1 Q
  refine ev_iload_n 1 dX6_makeCheckpoint_7 rfl (x := x1) rfl ?_
  refine ev_iadd dX6_makeCheckpoint_8 ?_
  refine ev_iconst 1 dX6_makeCheckpoint_9 (by decide) ?_
  refine ev_iadd dX6_makeCheckpoint_10 ?_
  refine ev_istore_n 2 dX6_makeCheckpoint_11 rfl (by decide) ?_
  refine ev_L (L' := [(2, vI ((r2 + x1) + 1)), (0, vR 0), (1, vI x1)]) rfl ?_
  refine ev_aload_n 0 dX6_makeCheckpoint_12 rfl (x := 0) rfl ?_
  refine ev_iload_n 2 dX6_makeCheckpoint_13 rfl (x := ((r2 + x1) + 1)) rfl ?_
  refine ev_callV (As := [vI ((r2 + x1) + 1)]) (rest := []) dX6_makeCheckpoint_14 mlX6_234 rm_mX6_makeCheckpoint_mX6_putBlocks rfl rfl rfl rfl (Nat.le_of_ble_eq_true rfl) H (fun v h3 H => ?_)
  obtain ⟨r4, rfl, H⟩ := H
  show Ev mX6_makeCheckpoint 17 [(2, vI ((r2 + x1) + 1)), (0, vR 0), (1, vI x1)] [vI r4] h3 Q
  refine ev_if_ne 22 dX6_makeCheckpoint_17 (by decide) ⟨fun c5 => ?_, fun c5 => ?_⟩
  · have H := H.1 c5
    refine ev_aload_n 0 dX6_makeCheckpoint_22 rfl (x := 0) rfl ?_
    refine ev_getR dX6_makeCheckpoint_23 flX6_19 rfl rfl ?_
    refine ev_iload_n 2 dX6_makeCheckpoint_26 rfl (x := ((r2 + x1) + 1)) rfl ?_
    refine ev_callV (As := [vI ((r2 + x1) + 1)]) (rest := []) dX6_makeCheckpoint_27 mlX6_243 rm_mX6_makeCheckpoint_mX0_noteCheckpoint rfl rfl rfl rfl (Nat.le_of_ble_eq_true rfl) H (fun v h6 H => ?_)
    obtain ⟨rfl, H⟩ := H
    show Ev mX6_makeCheckpoint 30 [(2, vI ((r2 + x1) + 1)), (0, vR 0), (1, vI x1)] [] h6 Q
    refine ev_aload_n 0 dX6_makeCheckpoint_30 rfl (x := 0) rfl ?_
    refine ev_getR dX6_makeCheckpoint_31 flX6_10 rfl rfl ?_
    refine ev_callV (As := []) (rest := []) dX6_makeCheckpoint_34 mlX6_246 rm_mX6_makeCheckpoint_mX4_untouch rfl rfl rfl rfl (Nat.le_of_ble_eq_true rfl) H (fun v h7 H => ?_)
    obtain ⟨rfl, H⟩ := H
    show Ev mX6_makeCheckpoint 37 [(2, vI ((r2 + x1) + 1)), (0, vR 0), (1, vI x1)] [] h7 Q
    refine ev_aload_n 0 dX6_makeCheckpoint_37 rfl (x := 0) rfl ?_
    refine ev_getR dX6_makeCheckpoint_38 flX6_67 rfl rfl ?_
    refine ev_callV (As := []) (rest := []) dX6_makeCheckpoint_41 mlX6_249 rm_mX6_makeCheckpoint_mX5_untouch rfl rfl rfl rfl (Nat.le_of_ble_eq_true rfl) H (fun v h8 H => ?_)
    obtain ⟨rfl, H⟩ := H
    show Ev mX6_makeCheckpoint 44 [(2, vI ((r2 + x1) + 1)), (0, vR 0), (1, vI x1)] [] h8 Q
    refine ev_iconst 1 dX6_makeCheckpoint_44 (by decide) ?_
    exact ev_zret dX6_makeCheckpoint_45 rfl (by decide) H
  · have H := H.2 c5
    refine ev_iconst 0 dX6_makeCheckpoint_20 (by decide) ?_
    exact ev_zret dX6_makeCheckpoint_21 rfl (by decide) H
set_option maxRecDepth 20000 in
theorem sX6_putBlocks {h : Hp} {Q : Option AV → Hp → Prop} {x1 : Int32} (H : EvM mX0_put [vR 6, vI x1] h (fun v h1 => ∃ r2 : Int32, v = some (vI r2) ∧ (((r2 = 0) → ((((h1.1 0 2) = 5) → Q (some (vI 0)) h1) ∧ ((¬ (h1.1 0 2) = 5) → EvM mX6_forgetIndex [vR 0] h1 (fun v h5 => v = none ∧ Q (some (vI 0)) h5)))) ∧ ((¬ r2 = 0) → Q (some (vI 1)) h1)))) : EvM mX6_putBlocks [vR 0, vI x1] h Q := by
  refine evM_of (by decide) rfl (Nat.le_of_ble_eq_true rfl) ?_
  show Ev mX6_putBlocks 0 [(0, vR 0), (1, vI x1)] [] h Q
  refine ev_aload_n 0 dX6_putBlocks_0 rfl (x := 0) rfl ?_
  refine ev_getR dX6_putBlocks_1 flX6_19 rfl rfl ?_
  refine ev_iload_n 1 dX6_putBlocks_4 rfl (x := x1) rfl ?_
  refine ev_callV (As := [vI x1]) (rest := []) dX6_putBlocks_5 mlX6_250 rm_mX6_putBlocks_mX0_put rfl rfl rfl rfl (Nat.le_of_ble_eq_true rfl) H (fun v h1 H => ?_)
  obtain ⟨r2, rfl, H⟩ := H
  show Ev mX6_putBlocks 8 [(0, vR 0), (1, vI x1)] [vI r2] h1 Q
  refine ev_if_eq 13 dX6_putBlocks_8 (by decide) ⟨fun c3 => ?_, fun c3 => ?_⟩
  · have H := H.1 c3
    refine ev_aload_n 0 dX6_putBlocks_13 rfl (x := 0) rfl ?_
    refine ev_getI dX6_putBlocks_14 flX6_23 rfl rfl ?_
    refine ev_iconst 5 dX6_putBlocks_17 (by decide) ?_
    refine ev_icmp_eq 25 dX6_putBlocks_18 (by decide) ⟨fun c4 => ?_, fun c4 => ?_⟩
    · have H := H.1 c4
      refine ev_iconst 0 dX6_putBlocks_25 (by decide) ?_
      exact ev_zret dX6_putBlocks_26 rfl (by decide) H
    · have H := H.2 c4
      refine ev_aload_n 0 dX6_putBlocks_21 rfl (x := 0) rfl ?_
      refine ev_callV (As := []) (rest := []) dX6_putBlocks_22 mlX6_147 rm_mX6_putBlocks_mX6_forgetIndex rfl rfl rfl rfl (Nat.le_of_ble_eq_true rfl) H (fun v h5 H => ?_)
      obtain ⟨rfl, H⟩ := H
      show Ev mX6_putBlocks 25 [(0, vR 0), (1, vI x1)] [] h5 Q
      refine ev_iconst 0 dX6_putBlocks_25 (by decide) ?_
      exact ev_zret dX6_putBlocks_26 rfl (by decide) H
  · have H := H.2 c3
    refine ev_iconst 1 dX6_putBlocks_11 (by decide) ?_
    exact ev_zret dX6_putBlocks_12 rfl (by decide) H
set_option maxRecDepth 20000 in
theorem sX6_follow {h : Hp} {Q : Option AV → Hp → Prop} {x1 : Int64} {x3 : Int32} (H : (((¬ (h.1 0 2) = 5) → EvM mX6_isBuilding [vR 0] h (fun v h2 => ∃ r3 : Int32, v = some (vI r3) ∧ (((r3 = 0) → Q none h2) ∧ ((¬ r3 = 0) → EvM mX6_placeOf [vL x1] h2 (fun v h5 => ∃ r6 : Int32, v = some (vI r6) ∧ ((((h5.1 0 4) ≤ (r6 / 12)) → Q none h5) ∧ ((¬ (h5.1 0 4) ≤ (r6 / 12)) → EvM mX2_append [vR 13, vL x1, vI x3] h5 (fun v h8 => ∃ r9 : Int32, v = some (vI r9) ∧ (((¬ r9 = 0) → Q none h8) ∧ ((r9 = 0) → EvM mX6_stopBuilding [vR 0, vI 1] h8 (fun v h11 => v = none ∧ Q none h11))))))))))) ∧ (((h.1 0 2) = 5) → EvM mX6_bringToTree [vR 0, vL x1, vI x3] h (fun v h12 => v = none ∧ Q none h12)))) : EvM mX6_follow [vR 0, vL x1, vI x3] h Q := by
  refine evM_of (by decide) rfl (Nat.le_of_ble_eq_true rfl) ?_
  show Ev mX6_follow 0 [(0, vR 0), (1, vL x1), (3, vI x3)] [] h Q
  refine ev_aload_n 0 dX6_follow_0 rfl (x := 0) rfl ?_
  refine ev_getI dX6_follow_1 flX6_23 rfl rfl ?_
  refine ev_iconst 5 dX6_follow_4 (by decide) ?_
  refine ev_icmp_ne 17 dX6_follow_5 (by decide) ⟨fun c1 => ?_, fun c1 => ?_⟩
  · have H := H.1 c1
    refine ev_aload_n 0 dX6_follow_17 rfl (x := 0) rfl ?_
    refine ev_callV (As := []) (rest := []) dX6_follow_18 mlX6_153 rm_mX6_follow_mX6_isBuilding rfl rfl rfl rfl (Nat.le_of_ble_eq_true rfl) H (fun v h2 H => ?_)
    obtain ⟨r3, rfl, H⟩ := H
    show Ev mX6_follow 21 [(0, vR 0), (1, vL x1), (3, vI x3)] [vI r3] h2 Q
    refine ev_if_eq 55 dX6_follow_21 (by decide) ⟨fun c4 => ?_, fun c4 => ?_⟩
    · have H := H.1 c4
      exact ev_vret dX6_follow_55 rfl H
    · have H := H.2 c4
      refine ev_lload_n 1 dX6_follow_24 rfl (x := x1) rfl ?_
      refine ev_callS (As := [vL x1]) (rest := []) dX6_follow_25 mlX6_194 rm_mX6_follow_mX6_placeOf rfl rfl (Nat.le_of_ble_eq_true rfl) H (fun v h5 H => ?_)
      obtain ⟨r6, rfl, H⟩ := H
      show Ev mX6_follow 28 [(0, vR 0), (1, vL x1), (3, vI x3)] [vI r6] h5 Q
      refine ev_bipush 12 dX6_follow_28 (by decide) ?_
      refine ev_idiv dX6_follow_30 (by decide) ?_
      refine ev_aload_n 0 dX6_follow_31 rfl (x := 0) rfl ?_
      refine ev_getI dX6_follow_32 flX6_31 rfl rfl ?_
      refine ev_icmp_ge 55 dX6_follow_35 (by decide) ⟨fun c7 => ?_, fun c7 => ?_⟩
      · have H := H.1 c7
        exact ev_vret dX6_follow_55 rfl H
      · have H := H.2 c7
        refine ev_aload_n 0 dX6_follow_38 rfl (x := 0) rfl ?_
        refine ev_getR dX6_follow_39 flX6_60 rfl rfl ?_
        refine ev_lload_n 1 dX6_follow_42 rfl (x := x1) rfl ?_
        refine ev_iload_n 3 dX6_follow_43 rfl (x := x3) rfl ?_
        refine ev_callV (As := [vL x1, vI x3]) (rest := []) dX6_follow_44 mlX6_255 rm_mX6_follow_mX2_append rfl rfl rfl rfl (Nat.le_of_ble_eq_true rfl) H (fun v h8 H => ?_)
        obtain ⟨r9, rfl, H⟩ := H
        show Ev mX6_follow 47 [(0, vR 0), (1, vL x1), (3, vI x3)] [vI r9] h8 Q
        refine ev_if_ne 55 dX6_follow_47 (by decide) ⟨fun c10 => ?_, fun c10 => ?_⟩
        · have H := H.1 c10
          exact ev_vret dX6_follow_55 rfl H
        · have H := H.2 c10
          refine ev_aload_n 0 dX6_follow_50 rfl (x := 0) rfl ?_
          refine ev_iconst 1 dX6_follow_51 (by decide) ?_
          refine ev_callV (As := [vI 1]) (rest := []) dX6_follow_52 mlX6_259 rm_mX6_follow_mX6_stopBuilding rfl rfl rfl rfl (Nat.le_of_ble_eq_true rfl) H (fun v h11 H => ?_)
          obtain ⟨rfl, H⟩ := H
          show Ev mX6_follow 55 [(0, vR 0), (1, vL x1), (3, vI x3)] [] h11 Q
          exact ev_vret dX6_follow_55 rfl H
  · have H := H.2 c1
    refine ev_aload_n 0 dX6_follow_8 rfl (x := 0) rfl ?_
    refine ev_lload_n 1 dX6_follow_9 rfl (x := x1) rfl ?_
    refine ev_iload_n 3 dX6_follow_10 rfl (x := x3) rfl ?_
    refine ev_callV (As := [vL x1, vI x3]) (rest := []) dX6_follow_11 mlX6_252 rm_mX6_follow_mX6_bringToTree rfl rfl rfl rfl (Nat.le_of_ble_eq_true rfl) H (fun v h12 H => ?_)
    obtain ⟨rfl, H⟩ := H
    show Ev mX6_follow 14 [(0, vR 0), (1, vL x1), (3, vI x3)] [] h12 Q
    refine ev_goto 55 dX6_follow_14 (by decide) ?_
    exact ev_vret dX6_follow_55 rfl H
set_option maxRecDepth 20000 in
theorem sX6_bringToTree {h : Hp} {Q : Option AV → Hp → Prop} {x1 : Int64} {x3 : Int32} (H : (((¬ x3 = 0) → EvM mX5_letCome [vR 16, vL x1] h (fun v h2 => ∃ r3 : Int32, v = some (vI r3) ∧ (((¬ r3 = 0) → Q none h2) ∧ ((r3 = 0) → EvM mX6_stopBuilding [vR 0, vI 2] h2 (fun v h5 => v = none ∧ Q none h5))))) ∧ ((x3 = 0) → EvM mX5_letGo [vR 16, vL x1] h (fun v h6 => v = none ∧ Q none h6)))) : EvM mX6_bringToTree [vR 0, vL x1, vI x3] h Q := by
  refine evM_of (by decide) rfl (Nat.le_of_ble_eq_true rfl) ?_
  show Ev mX6_bringToTree 0 [(0, vR 0), (1, vL x1), (3, vI x3)] [] h Q
  refine ev_iload_n 3 dX6_bringToTree_0 rfl (x := x3) rfl ?_
  refine ev_if_ne 15 dX6_bringToTree_1 (by decide) ⟨fun c1 => ?_, fun c1 => ?_⟩
  · have H := H.1 c1
    refine ev_aload_n 0 dX6_bringToTree_15 rfl (x := 0) rfl ?_
    refine ev_getR dX6_bringToTree_16 flX6_67 rfl rfl ?_
    refine ev_lload_n 1 dX6_bringToTree_19 rfl (x := x1) rfl ?_
    refine ev_callV (As := [vL x1]) (rest := []) dX6_bringToTree_20 mlX6_266 rm_mX6_bringToTree_mX5_letCome rfl rfl rfl rfl (Nat.le_of_ble_eq_true rfl) H (fun v h2 H => ?_)
    obtain ⟨r3, rfl, H⟩ := H
    show Ev mX6_bringToTree 23 [(0, vR 0), (1, vL x1), (3, vI x3)] [vI r3] h2 Q
    refine ev_if_ne 31 dX6_bringToTree_23 (by decide) ⟨fun c4 => ?_, fun c4 => ?_⟩
    · have H := H.1 c4
      exact ev_vret dX6_bringToTree_31 rfl H
    · have H := H.2 c4
      refine ev_aload_n 0 dX6_bringToTree_26 rfl (x := 0) rfl ?_
      refine ev_iconst 2 dX6_bringToTree_27 (by decide) ?_
      refine ev_callV (As := [vI 2]) (rest := []) dX6_bringToTree_28 mlX6_259 rm_mX6_bringToTree_mX6_stopBuilding rfl rfl rfl rfl (Nat.le_of_ble_eq_true rfl) H (fun v h5 H => ?_)
      obtain ⟨rfl, H⟩ := H
      show Ev mX6_bringToTree 31 [(0, vR 0), (1, vL x1), (3, vI x3)] [] h5 Q
      exact ev_vret dX6_bringToTree_31 rfl H
  · have H := H.2 c1
    refine ev_aload_n 0 dX6_bringToTree_4 rfl (x := 0) rfl ?_
    refine ev_getR dX6_bringToTree_5 flX6_67 rfl rfl ?_
    refine ev_lload_n 1 dX6_bringToTree_8 rfl (x := x1) rfl ?_
    refine ev_callV (As := [vL x1]) (rest := []) dX6_bringToTree_9 mlX6_262 rm_mX6_bringToTree_mX5_letGo rfl rfl rfl rfl (Nat.le_of_ble_eq_true rfl) H (fun v h6 H => ?_)
    obtain ⟨rfl, H⟩ := H
    show Ev mX6_bringToTree 12 [(0, vR 0), (1, vL x1), (3, vI x3)] [] h6 Q
    refine ev_goto 31 dX6_bringToTree_12 (by decide) ?_
    exact ev_vret dX6_bringToTree_31 rfl H
set_option maxRecDepth 20000 in
theorem sX6_isBuilding {h : Hp} {Q : Option AV → Hp → Prop} (H : ((((h.1 0 2) < 1) → Q (some (vI 0)) h) ∧ ((¬ (h.1 0 2) < 1) → (((4 < (h.1 0 2)) → Q (some (vI 0)) h) ∧ ((¬ 4 < (h.1 0 2)) → Q (some (vI 1)) h))))) : EvM mX6_isBuilding [vR 0] h Q := by
  refine evM_of (by decide) rfl (Nat.le_of_ble_eq_true rfl) ?_
  show Ev mX6_isBuilding 0 [(0, vR 0)] [] h Q
  refine ev_aload_n 0 dX6_isBuilding_0 rfl (x := 0) rfl ?_
  refine ev_getI dX6_isBuilding_1 flX6_23 rfl rfl ?_
  refine ev_iconst 1 dX6_isBuilding_4 (by decide) ?_
  refine ev_icmp_lt 20 dX6_isBuilding_5 (by decide) ⟨fun c1 => ?_, fun c1 => ?_⟩
  · have H := H.1 c1
    refine ev_iconst 0 dX6_isBuilding_20 (by decide) ?_
    exact ev_zret dX6_isBuilding_21 rfl (by decide) H
  · have H := H.2 c1
    refine ev_aload_n 0 dX6_isBuilding_8 rfl (x := 0) rfl ?_
    refine ev_getI dX6_isBuilding_9 flX6_23 rfl rfl ?_
    refine ev_iconst 4 dX6_isBuilding_12 (by decide) ?_
    refine ev_icmp_gt 20 dX6_isBuilding_13 (by decide) ⟨fun c2 => ?_, fun c2 => ?_⟩
    · have H := H.1 c2
      refine ev_iconst 0 dX6_isBuilding_20 (by decide) ?_
      exact ev_zret dX6_isBuilding_21 rfl (by decide) H
    · have H := H.2 c2
      refine ev_iconst 1 dX6_isBuilding_16 (by decide) ?_
      refine ev_goto 21 dX6_isBuilding_17 (by decide) ?_
      exact ev_zret dX6_isBuilding_21 rfl (by decide) H
set_option maxRecDepth 20000 in
theorem sX6_hasTree {h : Hp} {Q : Option AV → Hp → Prop} (H : ((((h.1 0 2) = 4) → Q (some (vI 1)) h) ∧ ((¬ (h.1 0 2) = 4) → (((¬ (h.1 0 2) = 5) → Q (some (vI 0)) h) ∧ (((h.1 0 2) = 5) → Q (some (vI 1)) h))))) : EvM mX6_hasTree [vR 0] h Q := by
  refine evM_of (by decide) rfl (Nat.le_of_ble_eq_true rfl) ?_
  show Ev mX6_hasTree 0 [(0, vR 0)] [] h Q
  refine ev_aload_n 0 dX6_hasTree_0 rfl (x := 0) rfl ?_
  refine ev_getI dX6_hasTree_1 flX6_23 rfl rfl ?_
  refine ev_iconst 4 dX6_hasTree_4 (by decide) ?_
  refine ev_icmp_eq 16 dX6_hasTree_5 (by decide) ⟨fun c1 => ?_, fun c1 => ?_⟩
  · have H := H.1 c1
    refine ev_iconst 1 dX6_hasTree_16 (by decide) ?_
    refine ev_goto 21 dX6_hasTree_17 (by decide) ?_
    exact ev_zret dX6_hasTree_21 rfl (by decide) H
  · have H := H.2 c1
    refine ev_aload_n 0 dX6_hasTree_8 rfl (x := 0) rfl ?_
    refine ev_getI dX6_hasTree_9 flX6_23 rfl rfl ?_
    refine ev_iconst 5 dX6_hasTree_12 (by decide) ?_
    refine ev_icmp_ne 20 dX6_hasTree_13 (by decide) ⟨fun c2 => ?_, fun c2 => ?_⟩
    · have H := H.1 c2
      refine ev_iconst 0 dX6_hasTree_20 (by decide) ?_
      exact ev_zret dX6_hasTree_21 rfl (by decide) H
    · have H := H.2 c2
      refine ev_iconst 1 dX6_hasTree_16 (by decide) ?_
      refine ev_goto 21 dX6_hasTree_17 (by decide) ?_
      exact ev_zret dX6_hasTree_21 rfl (by decide) H
set_option maxRecDepth 20000 in
theorem sX6_isEntryOfTree {h : Hp} {Q : Option AV → Hp → Prop} {x1 : Int32} (H : EvM mX6_hasTree [vR 0] h (fun v h1 => ∃ r2 : Int32, v = some (vI r2) ∧ (((r2 = 0) → Q (some (vI 0)) h1) ∧ ((¬ r2 = 0) → (((x1 < 0) → Q (some (vI 0)) h1) ∧ ((¬ x1 < 0) → EvM mX5_entryCount [vR 16] h1 (fun v h5 => ∃ r6 : Int32, v = some (vI r6) ∧ (((r6 ≤ x1) → Q (some (vI 0)) h5) ∧ ((¬ r6 ≤ x1) → Q (some (vI 1)) h5))))))))) : EvM mX6_isEntryOfTree [vR 0, vI x1] h Q := by
  refine evM_of (by decide) rfl (Nat.le_of_ble_eq_true rfl) ?_
  show Ev mX6_isEntryOfTree 0 [(0, vR 0), (1, vI x1)] [] h Q
  refine ev_aload_n 0 dX6_isEntryOfTree_0 rfl (x := 0) rfl ?_
  refine ev_callV (As := []) (rest := []) dX6_isEntryOfTree_1 mlX6_176 rm_mX6_isEntryOfTree_mX6_hasTree rfl rfl rfl rfl (Nat.le_of_ble_eq_true rfl) H (fun v h1 H => ?_)
  obtain ⟨r2, rfl, H⟩ := H
  show Ev mX6_isEntryOfTree 4 [(0, vR 0), (1, vI x1)] [vI r2] h1 Q
  refine ev_if_eq 26 dX6_isEntryOfTree_4 (by decide) ⟨fun c3 => ?_, fun c3 => ?_⟩
  · have H := H.1 c3
    refine ev_iconst 0 dX6_isEntryOfTree_26 (by decide) ?_
    exact ev_zret dX6_isEntryOfTree_27 rfl (by decide) H
  · have H := H.2 c3
    refine ev_iload_n 1 dX6_isEntryOfTree_7 rfl (x := x1) rfl ?_
    refine ev_if_lt 26 dX6_isEntryOfTree_8 (by decide) ⟨fun c4 => ?_, fun c4 => ?_⟩
    · have H := H.1 c4
      refine ev_iconst 0 dX6_isEntryOfTree_26 (by decide) ?_
      exact ev_zret dX6_isEntryOfTree_27 rfl (by decide) H
    · have H := H.2 c4
      refine ev_iload_n 1 dX6_isEntryOfTree_11 rfl (x := x1) rfl ?_
      refine ev_aload_n 0 dX6_isEntryOfTree_12 rfl (x := 0) rfl ?_
      refine ev_getR dX6_isEntryOfTree_13 flX6_67 rfl rfl ?_
      refine ev_callV (As := []) (rest := [vI x1]) dX6_isEntryOfTree_16 mlX6_182 rm_mX6_isEntryOfTree_mX5_entryCount rfl rfl rfl rfl (Nat.le_of_ble_eq_true rfl) H (fun v h5 H => ?_)
      obtain ⟨r6, rfl, H⟩ := H
      show Ev mX6_isEntryOfTree 19 [(0, vR 0), (1, vI x1)] [vI r6, vI x1] h5 Q
      refine ev_icmp_ge 26 dX6_isEntryOfTree_19 (by decide) ⟨fun c7 => ?_, fun c7 => ?_⟩
      · have H := H.1 c7
        refine ev_iconst 0 dX6_isEntryOfTree_26 (by decide) ?_
        exact ev_zret dX6_isEntryOfTree_27 rfl (by decide) H
      · have H := H.2 c7
        refine ev_iconst 1 dX6_isEntryOfTree_22 (by decide) ?_
        refine ev_goto 27 dX6_isEntryOfTree_23 (by decide) ?_
        exact ev_zret dX6_isEntryOfTree_27 rfl (by decide) H
set_option maxRecDepth 20000 in
theorem sX6_forgetIndex {h : Hp} {Q : Option AV → Hp → Prop} (H : (∀ h1 : Hp, h1 = sI h 0 (upd (h.1 0) 2 0) → (∀ h2 : Hp, h2 = sI h1 0 (upd (h1.1 0) 3 0) → (∀ h3 : Hp, h3 = sI h2 0 (upd (h2.1 0) 5 0) → (∀ h4 : Hp, h4 = sI h3 0 (upd (h3.1 0) 6 (-1)) → (∀ h5 : Hp, h5 = sI h4 0 (upd (h4.1 0) 7 (-1)) → EvM mX6_forgetBuilding [vR 0] h5 (fun v h6 => v = none ∧ EvM mX5_clear [vR 16] h6 (fun v h7 => v = none ∧ Q none h7)))))))) : EvM mX6_forgetIndex [vR 0] h Q := by
  refine evM_of (by decide) rfl (Nat.le_of_ble_eq_true rfl) ?_
  show Ev mX6_forgetIndex 0 [(0, vR 0)] [] h Q
  refine ev_aload_n 0 dX6_forgetIndex_0 rfl (x := 0) rfl ?_
  refine ev_iconst 0 dX6_forgetIndex_1 (by decide) ?_
  refine ev_putI dX6_forgetIndex_2 fpX6_23 rfl rfl   ?_
  obtain ⟨h1, eh1⟩ : ∃ z : Hp, z = sI h 0 (upd (h.1 0) 2 0) := ⟨_, rfl⟩
  rw [← eh1]
  have H := H h1 eh1
  refine ev_aload_n 0 dX6_forgetIndex_5 rfl (x := 0) rfl ?_
  refine ev_iconst 0 dX6_forgetIndex_6 (by decide) ?_
  refine ev_putZ dX6_forgetIndex_7 fpX6_27 rfl rfl  (by decide) ?_
  obtain ⟨h2, eh2⟩ : ∃ z : Hp, z = sI h1 0 (upd (h1.1 0) 3 0) := ⟨_, rfl⟩
  rw [← eh2]
  have H := H h2 eh2
  refine ev_aload_n 0 dX6_forgetIndex_10 rfl (x := 0) rfl ?_
  refine ev_iconst 0 dX6_forgetIndex_11 (by decide) ?_
  refine ev_putI dX6_forgetIndex_12 fpX6_34 rfl rfl   ?_
  obtain ⟨h3, eh3⟩ : ∃ z : Hp, z = sI h2 0 (upd (h2.1 0) 5 0) := ⟨_, rfl⟩
  rw [← eh3]
  have H := H h3 eh3
  refine ev_aload_n 0 dX6_forgetIndex_15 rfl (x := 0) rfl ?_
  refine ev_iconst (-1) dX6_forgetIndex_16 (by decide) ?_
  refine ev_putI dX6_forgetIndex_17 fpX6_37 rfl rfl   ?_
  obtain ⟨h4, eh4⟩ : ∃ z : Hp, z = sI h3 0 (upd (h3.1 0) 6 (-1)) := ⟨_, rfl⟩
  rw [← eh4]
  have H := H h4 eh4
  refine ev_aload_n 0 dX6_forgetIndex_20 rfl (x := 0) rfl ?_
  refine ev_iconst (-1) dX6_forgetIndex_21 (by decide) ?_
  refine ev_putI dX6_forgetIndex_22 fpX6_40 rfl rfl   ?_
  obtain ⟨h5, eh5⟩ : ∃ z : Hp, z = sI h4 0 (upd (h4.1 0) 7 (-1)) := ⟨_, rfl⟩
  rw [← eh5]
  have H := H h5 eh5
  refine ev_aload_n 0 dX6_forgetIndex_25 rfl (x := 0) rfl ?_
  refine ev_callV (As := []) (rest := []) dX6_forgetIndex_26 mlX6_270 rm_mX6_forgetIndex_mX6_forgetBuilding rfl rfl rfl rfl (Nat.le_of_ble_eq_true rfl) H (fun v h6 H => ?_)
  obtain ⟨rfl, H⟩ := H
  show Ev mX6_forgetIndex 29 [(0, vR 0)] [] h6 Q
  refine ev_aload_n 0 dX6_forgetIndex_29 rfl (x := 0) rfl ?_
  refine ev_getR dX6_forgetIndex_30 flX6_67 rfl rfl ?_
  refine ev_callV (As := []) (rest := []) dX6_forgetIndex_33 mlX6_273 rm_mX6_forgetIndex_mX5_clear rfl rfl rfl rfl (Nat.le_of_ble_eq_true rfl) H (fun v h7 H => ?_)
  obtain ⟨rfl, H⟩ := H
  show Ev mX6_forgetIndex 36 [(0, vR 0)] [] h7 Q
  exact ev_vret dX6_forgetIndex_36 rfl H
set_option maxRecDepth 20000 in
theorem sX6_forgetBuilding {h : Hp} {Q : Option AV → Hp → Prop} (H : (∀ h1 : Hp, h1 = sI h 0 (upd (h.1 0) 4 0) → EvM mX3_clear [vR 7] h1 (fun v h2 => v = none ∧ EvM mX2_clear [vR 13] h2 (fun v h3 => v = none ∧ Q none h3)))) : EvM mX6_forgetBuilding [vR 0] h Q := by
  refine evM_of (by decide) rfl (Nat.le_of_ble_eq_true rfl) ?_
  show Ev mX6_forgetBuilding 0 [(0, vR 0)] [] h Q
  refine ev_aload_n 0 dX6_forgetBuilding_0 rfl (x := 0) rfl ?_
  refine ev_iconst 0 dX6_forgetBuilding_1 (by decide) ?_
  refine ev_putI dX6_forgetBuilding_2 fpX6_31 rfl rfl   ?_
  obtain ⟨h1, eh1⟩ : ∃ z : Hp, z = sI h 0 (upd (h.1 0) 4 0) := ⟨_, rfl⟩
  rw [← eh1]
  have H := H h1 eh1
  refine ev_aload_n 0 dX6_forgetBuilding_5 rfl (x := 0) rfl ?_
  refine ev_getR dX6_forgetBuilding_6 flX6_46 rfl rfl ?_
  refine ev_callV (As := []) (rest := []) dX6_forgetBuilding_9 mlX6_276 rm_mX6_forgetBuilding_mX3_clear rfl rfl rfl rfl (Nat.le_of_ble_eq_true rfl) H (fun v h2 H => ?_)
  obtain ⟨rfl, H⟩ := H
  show Ev mX6_forgetBuilding 12 [(0, vR 0)] [] h2 Q
  refine ev_aload_n 0 dX6_forgetBuilding_12 rfl (x := 0) rfl ?_
  refine ev_getR dX6_forgetBuilding_13 flX6_60 rfl rfl ?_
  refine ev_callV (As := []) (rest := []) dX6_forgetBuilding_16 mlX6_277 rm_mX6_forgetBuilding_mX2_clear rfl rfl rfl rfl (Nat.le_of_ble_eq_true rfl) H (fun v h3 H => ?_)
  obtain ⟨rfl, H⟩ := H
  show Ev mX6_forgetBuilding 19 [(0, vR 0)] [] h3 Q
  exact ev_vret dX6_forgetBuilding_19 rfl H
set_option maxRecDepth 20000 in
theorem sX6_stopBuilding {h : Hp} {Q : Option AV → Hp → Prop} {x1 : Int32} (H : (∀ h1 : Hp, h1 = sI h 0 (upd (h.1 0) 2 6) → (∀ h2 : Hp, h2 = sI h1 0 (upd (h1.1 0) 5 x1) → EvM mX6_forgetBuilding [vR 0] h2 (fun v h3 => v = none ∧ EvM mX5_clear [vR 16] h3 (fun v h4 => v = none ∧ Q none h4))))) : EvM mX6_stopBuilding [vR 0, vI x1] h Q := by
  refine evM_of (by decide) rfl (Nat.le_of_ble_eq_true rfl) ?_
  show Ev mX6_stopBuilding 0 [(0, vR 0), (1, vI x1)] [] h Q
  refine ev_aload_n 0 dX6_stopBuilding_0 rfl (x := 0) rfl ?_
  refine ev_bipush 6 dX6_stopBuilding_1 (by decide) ?_
  refine ev_putI dX6_stopBuilding_3 fpX6_23 rfl rfl   ?_
  obtain ⟨h1, eh1⟩ : ∃ z : Hp, z = sI h 0 (upd (h.1 0) 2 6) := ⟨_, rfl⟩
  rw [← eh1]
  have H := H h1 eh1
  refine ev_aload_n 0 dX6_stopBuilding_6 rfl (x := 0) rfl ?_
  refine ev_iload_n 1 dX6_stopBuilding_7 rfl (x := x1) rfl ?_
  refine ev_putI dX6_stopBuilding_8 fpX6_34 rfl rfl   ?_
  obtain ⟨h2, eh2⟩ : ∃ z : Hp, z = sI h1 0 (upd (h1.1 0) 5 x1) := ⟨_, rfl⟩
  rw [← eh2]
  have H := H h2 eh2
  refine ev_aload_n 0 dX6_stopBuilding_11 rfl (x := 0) rfl ?_
  refine ev_callV (As := []) (rest := []) dX6_stopBuilding_12 mlX6_270 rm_mX6_stopBuilding_mX6_forgetBuilding rfl rfl rfl rfl (Nat.le_of_ble_eq_true rfl) H (fun v h3 H => ?_)
  obtain ⟨rfl, H⟩ := H
  show Ev mX6_stopBuilding 15 [(0, vR 0), (1, vI x1)] [] h3 Q
  refine ev_aload_n 0 dX6_stopBuilding_15 rfl (x := 0) rfl ?_
  refine ev_getR dX6_stopBuilding_16 flX6_67 rfl rfl ?_
  refine ev_callV (As := []) (rest := []) dX6_stopBuilding_19 mlX6_273 rm_mX6_stopBuilding_mX5_clear rfl rfl rfl rfl (Nat.le_of_ble_eq_true rfl) H (fun v h4 H => ?_)
  obtain ⟨rfl, H⟩ := H
  show Ev mX6_stopBuilding 22 [(0, vR 0), (1, vI x1)] [] h4 Q
  exact ev_vret dX6_stopBuilding_22 rfl H
set_option maxRecDepth 20000 in
theorem sX6_scanPage {h : Hp} {Q : Option AV → Hp → Prop} (H : Ev mX6_scanPage 10 [(0, vR 0), (1, vI ((h.1 0 4) * 12)), (2, vI ((h.1 0 4) * 12))] [] h Q) : EvM mX6_scanPage [vR 0] h Q := by
  refine evM_of (by decide) rfl (Nat.le_of_ble_eq_true rfl) ?_
  show Ev mX6_scanPage 0 [(0, vR 0)] [] h Q
  refine ev_aload_n 0 dX6_scanPage_0 rfl (x := 0) rfl ?_
  refine ev_getI dX6_scanPage_1 flX6_31 rfl rfl ?_
  refine ev_bipush 12 dX6_scanPage_4 (by decide) ?_
  refine ev_imul dX6_scanPage_6 ?_
  refine ev_istore_n 1 dX6_scanPage_7 rfl (by decide) ?_
  refine ev_L (L' := [(1, vI ((h.1 0 4) * 12)), (0, vR 0)]) rfl ?_
  refine ev_iload_n 1 dX6_scanPage_8 rfl (x := ((h.1 0 4) * 12)) rfl ?_
  refine ev_istore_n 2 dX6_scanPage_9 rfl (by decide) ?_
  refine ev_L (L' := [(2, vI ((h.1 0 4) * 12)), (1, vI ((h.1 0 4) * 12)), (0, vR 0)]) rfl ?_
  exact ev_sub (L' := [(0, vR 0), (1, vI ((h.1 0 4) * 12)), (2, vI ((h.1 0 4) * 12))]) ⟨rfl, rfl, rfl, trivial⟩ H
set_option maxRecDepth 20000 in
theorem sX6_scanPage_10 {h : Hp} {Q : Option AV → Hp → Prop} {x1 : Int32} {x2 : Int32} (H : ((((x1 + 12) ≤ x2) → (∀ h2 : Hp, h2 = sI h 0 (upd (h.1 0) 4 ((h.1 0 4) + 1)) → ((((h2.1 0 4) < 20) → Ev mX6_scanPage 78 [(0, vR 0)] [vI 0] h2 Q) ∧ ((¬ (h2.1 0 4) < 20) → Ev mX6_scanPage 78 [(0, vR 0)] [vI 1] h2 Q)))) ∧ ((¬ (x1 + 12) ≤ x2) → EvM mX4_has [vR 1, vI x2] h (fun v h4 => ∃ r5 : Int32, v = some (vI r5) ∧ (((r5 = 0) → Ev mX6_scanPage 10 [(0, vR 0), (1, vI x1), (2, vI (x2 + 1))] [] h4 Q) ∧ ((¬ r5 = 0) → EvM mX4_keyAt [vR 1, vI x2] h4 (fun v h7 => ∃ r8 : Int32, v = some (vI r8) ∧ EvM mX6_entryOf [vI r8, vI x2] h7 (fun v h9 => ∃ r10 : Int64, v = some (vL r10) ∧ EvM mX3_pick [vR 7, vL r10] h9 (fun v h11 => v = none ∧ Ev mX6_scanPage 10 [(0, vR 0), (1, vI x1), (2, vI (x2 + 1))] [] h11 Q))))))))) : Ev mX6_scanPage 10 [(0, vR 0), (1, vI x1), (2, vI x2)] [] h Q := by
  refine ev_iload_n 2 dX6_scanPage_10 rfl (x := x2) rfl ?_
  refine ev_iload_n 1 dX6_scanPage_11 rfl (x := x1) rfl ?_
  refine ev_bipush 12 dX6_scanPage_12 (by decide) ?_
  refine ev_iadd dX6_scanPage_14 ?_
  refine ev_icmp_ge 54 dX6_scanPage_15 (by decide) ⟨fun c1 => ?_, fun c1 => ?_⟩
  · have H := H.1 c1
    refine ev_aload_n 0 dX6_scanPage_54 rfl (x := 0) rfl ?_
    refine ev_dup dX6_scanPage_55 rfl ?_
    refine ev_getI dX6_scanPage_56 flX6_31 rfl rfl ?_
    refine ev_iconst 1 dX6_scanPage_59 (by decide) ?_
    refine ev_iadd dX6_scanPage_60 ?_
    refine ev_putI dX6_scanPage_61 fpX6_31 rfl rfl   ?_
    obtain ⟨h2, eh2⟩ : ∃ z : Hp, z = sI h 0 (upd (h.1 0) 4 ((h.1 0 4) + 1)) := ⟨_, rfl⟩
    rw [← eh2]
    have H := H h2 eh2
    refine ev_aload_n 0 dX6_scanPage_64 rfl (x := 0) rfl ?_
    refine ev_getI dX6_scanPage_65 flX6_31 rfl rfl ?_
    refine ev_bipush 20 dX6_scanPage_68 (by decide) ?_
    refine ev_icmp_lt 77 dX6_scanPage_70 (by decide) ⟨fun c3 => ?_, fun c3 => ?_⟩
    · have H := H.1 c3
      refine ev_iconst 0 dX6_scanPage_77 (by decide) ?_
      exact ev_sub (L' := [(0, vR 0)]) ⟨rfl, trivial⟩ H
    · have H := H.2 c3
      refine ev_iconst 1 dX6_scanPage_73 (by decide) ?_
      refine ev_goto 78 dX6_scanPage_74 (by decide) ?_
      exact ev_sub (L' := [(0, vR 0)]) ⟨rfl, trivial⟩ H
  · have H := H.2 c1
    refine ev_aload_n 0 dX6_scanPage_18 rfl (x := 0) rfl ?_
    refine ev_getR dX6_scanPage_19 flX6_10 rfl rfl ?_
    refine ev_iload_n 2 dX6_scanPage_22 rfl (x := x2) rfl ?_
    refine ev_callV (As := [vI x2]) (rest := []) dX6_scanPage_23 mlX6_108 rm_mX6_scanPage_mX4_has rfl rfl rfl rfl (Nat.le_of_ble_eq_true rfl) H (fun v h4 H => ?_)
    obtain ⟨r5, rfl, H⟩ := H
    show Ev mX6_scanPage 26 [(0, vR 0), (1, vI x1), (2, vI x2)] [vI r5] h4 Q
    refine ev_if_eq 48 dX6_scanPage_26 (by decide) ⟨fun c6 => ?_, fun c6 => ?_⟩
    · have H := H.1 c6
      refine ev_iinc (x := x2) (v := 1) dX6_scanPage_48 rfl (by decide) (by decide) ?_
      refine ev_L (L' := [(2, vI (x2 + 1)), (0, vR 0), (1, vI x1)]) rfl ?_
      refine ev_goto 10 dX6_scanPage_51 (by decide) ?_
      exact ev_sub (L' := [(0, vR 0), (1, vI x1), (2, vI (x2 + 1))]) ⟨rfl, rfl, rfl, trivial⟩ H
    · have H := H.2 c6
      refine ev_aload_n 0 dX6_scanPage_29 rfl (x := 0) rfl ?_
      refine ev_getR dX6_scanPage_30 flX6_46 rfl rfl ?_
      refine ev_aload_n 0 dX6_scanPage_33 rfl (x := 0) rfl ?_
      refine ev_getR dX6_scanPage_34 flX6_10 rfl rfl ?_
      refine ev_iload_n 2 dX6_scanPage_37 rfl (x := x2) rfl ?_
      refine ev_callV (As := [vI x2]) (rest := [vR 7]) dX6_scanPage_38 mlX6_112 rm_mX6_scanPage_mX4_keyAt rfl rfl rfl rfl (Nat.le_of_ble_eq_true rfl) H (fun v h7 H => ?_)
      obtain ⟨r8, rfl, H⟩ := H
      show Ev mX6_scanPage 41 [(0, vR 0), (1, vI x1), (2, vI x2)] [vI r8, vR 7] h7 Q
      refine ev_iload_n 2 dX6_scanPage_41 rfl (x := x2) rfl ?_
      refine ev_callS (As := [vI r8, vI x2]) (rest := [vR 7]) dX6_scanPage_42 mlX6_100 rm_mX6_scanPage_mX6_entryOf rfl rfl (Nat.le_of_ble_eq_true rfl) H (fun v h9 H => ?_)
      obtain ⟨r10, rfl, H⟩ := H
      show Ev mX6_scanPage 45 [(0, vR 0), (1, vI x1), (2, vI x2)] [vL r10, vR 7] h9 Q
      refine ev_callV (As := [vL r10]) (rest := []) dX6_scanPage_45 mlX6_278 rm_mX6_scanPage_mX3_pick rfl rfl rfl rfl (Nat.le_of_ble_eq_true rfl) H (fun v h11 H => ?_)
      obtain ⟨rfl, H⟩ := H
      show Ev mX6_scanPage 48 [(0, vR 0), (1, vI x1), (2, vI x2)] [] h11 Q
      refine ev_iinc (x := x2) (v := 1) dX6_scanPage_48 rfl (by decide) (by decide) ?_
      refine ev_L (L' := [(2, vI (x2 + 1)), (0, vR 0), (1, vI x1)]) rfl ?_
      refine ev_goto 10 dX6_scanPage_51 (by decide) ?_
      exact ev_sub (L' := [(0, vR 0), (1, vI x1), (2, vI (x2 + 1))]) ⟨rfl, rfl, rfl, trivial⟩ H
set_option maxRecDepth 20000 in
theorem sX6_scanPage_78 {h : Hp} {Q : Option AV → Hp → Prop} {s0 : Int32} (H : (((s0 = 0) → Ev mX6_scanPage 88 [(0, vR 0), (2, vI s0)] [] h Q) ∧ ((¬ s0 = 0) → (∀ h2 : Hp, h2 = sI h 0 (upd (h.1 0) 2 2) → Ev mX6_scanPage 88 [(0, vR 0), (2, vI s0)] [] h2 Q)))) : Ev mX6_scanPage 78 [(0, vR 0)] [vI s0] h Q := by
  refine ev_istore_n 2 dX6_scanPage_78 rfl (by decide) ?_
  refine ev_L (L' := [(2, vI s0), (0, vR 0)]) rfl ?_
  refine ev_iload_n 2 dX6_scanPage_79 rfl (x := s0) rfl ?_
  refine ev_if_eq 88 dX6_scanPage_80 (by decide) ⟨fun c1 => ?_, fun c1 => ?_⟩
  · have H := H.1 c1
    exact ev_sub (L' := [(0, vR 0), (2, vI s0)]) ⟨rfl, rfl, trivial⟩ H
  · have H := H.2 c1
    refine ev_aload_n 0 dX6_scanPage_83 rfl (x := 0) rfl ?_
    refine ev_iconst 2 dX6_scanPage_84 (by decide) ?_
    refine ev_putI dX6_scanPage_85 fpX6_23 rfl rfl   ?_
    obtain ⟨h2, eh2⟩ : ∃ z : Hp, z = sI h 0 (upd (h.1 0) 2 2) := ⟨_, rfl⟩
    rw [← eh2]
    have H := H h2 eh2
    exact ev_sub (L' := [(0, vR 0), (2, vI s0)]) ⟨rfl, rfl, trivial⟩ H
set_option maxRecDepth 20000 in
theorem sX6_scanPage_88 {h : Hp} {Q : Option AV → Hp → Prop} {x2 : Int32} (H : EvM mX3_pickedCount [vR 7] h (fun v h1 => ∃ r2 : Int32, v = some (vI r2) ∧ (((24 ≤ r2) → Ev mX6_scanPage 110 [(0, vR 0), (3, vI r2)] [] h1 Q) ∧ ((¬ 24 ≤ r2) → (((x2 = 0) → Q (some (vI 1)) h1) ∧ ((¬ x2 = 0) → (((r2 ≤ 0) → Q (some (vI 1)) h1) ∧ ((¬ r2 ≤ 0) → Ev mX6_scanPage 110 [(0, vR 0), (3, vI r2)] [] h1 Q)))))))) : Ev mX6_scanPage 88 [(0, vR 0), (2, vI x2)] [] h Q := by
  refine ev_aload_n 0 dX6_scanPage_88 rfl (x := 0) rfl ?_
  refine ev_getR dX6_scanPage_89 flX6_46 rfl rfl ?_
  refine ev_callV (As := []) (rest := []) dX6_scanPage_92 mlX6_169 rm_mX6_scanPage_mX3_pickedCount rfl rfl rfl rfl (Nat.le_of_ble_eq_true rfl) H (fun v h1 H => ?_)
  obtain ⟨r2, rfl, H⟩ := H
  show Ev mX6_scanPage 95 [(0, vR 0), (2, vI x2)] [vI r2] h1 Q
  refine ev_istore_n 3 dX6_scanPage_95 rfl (by decide) ?_
  refine ev_L (L' := [(3, vI r2), (0, vR 0), (2, vI x2)]) rfl ?_
  refine ev_iload_n 3 dX6_scanPage_96 rfl (x := r2) rfl ?_
  refine ev_bipush 24 dX6_scanPage_97 (by decide) ?_
  refine ev_icmp_ge 110 dX6_scanPage_99 (by decide) ⟨fun c3 => ?_, fun c3 => ?_⟩
  · have H := H.1 c3
    exact ev_sub (L' := [(0, vR 0), (3, vI r2)]) ⟨rfl, rfl, trivial⟩ H
  · have H := H.2 c3
    refine ev_iload_n 2 dX6_scanPage_102 rfl (x := x2) rfl ?_
    refine ev_if_eq 126 dX6_scanPage_103 (by decide) ⟨fun c4 => ?_, fun c4 => ?_⟩
    · have H := H.1 c4
      refine ev_iconst 1 dX6_scanPage_126 (by decide) ?_
      exact ev_zret dX6_scanPage_127 rfl (by decide) H
    · have H := H.2 c4
      refine ev_iload_n 3 dX6_scanPage_106 rfl (x := r2) rfl ?_
      refine ev_if_le 126 dX6_scanPage_107 (by decide) ⟨fun c5 => ?_, fun c5 => ?_⟩
      · have H := H.1 c5
        refine ev_iconst 1 dX6_scanPage_126 (by decide) ?_
        exact ev_zret dX6_scanPage_127 rfl (by decide) H
      · have H := H.2 c5
        exact ev_sub (L' := [(0, vR 0), (3, vI r2)]) ⟨rfl, rfl, trivial⟩ H
set_option maxRecDepth 20000 in
theorem sX6_scanPage_110 {h : Hp} {Q : Option AV → Hp → Prop} {x3 : Int32} (H : EvM mX3_closeRun [vR 7] h (fun v h1 => v = none ∧ EvM mX6_blocksFor [vI x3] h1 (fun v h2 => ∃ r3 : Int32, v = some (vI r3) ∧ EvM mX6_putBlocks [vR 0, vI r3] h2 (fun v h4 => ∃ r5 : Int32, v = some (vI r5) ∧ ((r5 = 0 ∨ r5 = 1) ∧ Q (some (vI r5)) h4))))) : Ev mX6_scanPage 110 [(0, vR 0), (3, vI x3)] [] h Q := by
  refine ev_aload_n 0 dX6_scanPage_110 rfl (x := 0) rfl ?_
  refine ev_getR dX6_scanPage_111 flX6_46 rfl rfl ?_
  refine ev_callV (As := []) (rest := []) dX6_scanPage_114 mlX6_281 rm_mX6_scanPage_mX3_closeRun rfl rfl rfl rfl (Nat.le_of_ble_eq_true rfl) H (fun v h1 H => ?_)
  obtain ⟨rfl, H⟩ := H
  show Ev mX6_scanPage 117 [(0, vR 0), (3, vI x3)] [] h1 Q
  refine ev_aload_n 0 dX6_scanPage_117 rfl (x := 0) rfl ?_
  refine ev_iload_n 3 dX6_scanPage_118 rfl (x := x3) rfl ?_
  refine ev_callS (As := [vI x3]) (rest := [vR 0]) dX6_scanPage_119 mlX6_284 rm_mX6_scanPage_mX6_blocksFor rfl rfl (Nat.le_of_ble_eq_true rfl) H (fun v h2 H => ?_)
  obtain ⟨r3, rfl, H⟩ := H
  show Ev mX6_scanPage 122 [(0, vR 0), (3, vI x3)] [vI r3, vR 0] h2 Q
  refine ev_callV (As := [vI r3]) (rest := []) dX6_scanPage_122 mlX6_234 rm_mX6_scanPage_mX6_putBlocks rfl rfl rfl rfl (Nat.le_of_ble_eq_true rfl) H (fun v h4 H => ?_)
  obtain ⟨r5, rfl, H⟩ := H
  show Ev mX6_scanPage 125 [(0, vR 0), (3, vI x3)] [vI r5] h4 Q
  exact ev_zret dX6_scanPage_125 rfl H.1 H.2
set_option maxRecDepth 20000 in
theorem sX6_mergeRuns {h : Hp} {Q : Option AV → Hp → Prop} (H : EvM mX3_count [vR 7] h (fun v h1 => ∃ r2 : Int32, v = some (vI r2) ∧ (((r2 < 2) → (∀ h4 : Hp, h4 = sI h1 0 (upd (h1.1 0) 2 3) → EvM mX3_total [vR 7] h4 (fun v h5 => ∃ r6 : Int32, v = some (vI r6) ∧ EvM mX1_begin [vR 12, vI r6] h5 (fun v h7 => v = none ∧ Q (some (vI 1)) h7)))) ∧ ((¬ r2 < 2) → EvM mX3_mergeFirstTwo [vR 7] h1 (fun v h8 => ∃ r9 : Int32, v = some (vI r9) ∧ EvM mX6_blocksFor [vI r9] h8 (fun v h10 => ∃ r11 : Int32, v = some (vI r11) ∧ EvM mX6_putBlocks [vR 0, vI r11] h10 (fun v h12 => ∃ r13 : Int32, v = some (vI r13) ∧ ((r13 = 0 ∨ r13 = 1) ∧ Q (some (vI r13)) h12)))))))) : EvM mX6_mergeRuns [vR 0] h Q := by
  refine evM_of (by decide) rfl (Nat.le_of_ble_eq_true rfl) ?_
  show Ev mX6_mergeRuns 0 [(0, vR 0)] [] h Q
  refine ev_aload_n 0 dX6_mergeRuns_0 rfl (x := 0) rfl ?_
  refine ev_getR dX6_mergeRuns_1 flX6_46 rfl rfl ?_
  refine ev_callV (As := []) (rest := []) dX6_mergeRuns_4 mlX6_168 rm_mX6_mergeRuns_mX3_count rfl rfl rfl rfl (Nat.le_of_ble_eq_true rfl) H (fun v h1 H => ?_)
  obtain ⟨r2, rfl, H⟩ := H
  show Ev mX6_mergeRuns 7 [(0, vR 0)] [vI r2] h1 Q
  refine ev_iconst 2 dX6_mergeRuns_7 (by decide) ?_
  refine ev_icmp_lt 26 dX6_mergeRuns_8 (by decide) ⟨fun c3 => ?_, fun c3 => ?_⟩
  · have H := H.1 c3
    refine ev_aload_n 0 dX6_mergeRuns_26 rfl (x := 0) rfl ?_
    refine ev_iconst 3 dX6_mergeRuns_27 (by decide) ?_
    refine ev_putI dX6_mergeRuns_28 fpX6_23 rfl rfl   ?_
    obtain ⟨h4, eh4⟩ : ∃ z : Hp, z = sI h1 0 (upd (h1.1 0) 2 3) := ⟨_, rfl⟩
    rw [← eh4]
    have H := H h4 eh4
    refine ev_aload_n 0 dX6_mergeRuns_31 rfl (x := 0) rfl ?_
    refine ev_getR dX6_mergeRuns_32 flX6_53 rfl rfl ?_
    refine ev_aload_n 0 dX6_mergeRuns_35 rfl (x := 0) rfl ?_
    refine ev_getR dX6_mergeRuns_36 flX6_46 rfl rfl ?_
    refine ev_callV (As := []) (rest := [vR 12]) dX6_mergeRuns_39 mlX6_290 rm_mX6_mergeRuns_mX3_total rfl rfl rfl rfl (Nat.le_of_ble_eq_true rfl) H (fun v h5 H => ?_)
    obtain ⟨r6, rfl, H⟩ := H
    show Ev mX6_mergeRuns 42 [(0, vR 0)] [vI r6, vR 12] h5 Q
    refine ev_callV (As := [vI r6]) (rest := []) dX6_mergeRuns_42 mlX6_293 rm_mX6_mergeRuns_mX1_begin rfl rfl rfl rfl (Nat.le_of_ble_eq_true rfl) H (fun v h7 H => ?_)
    obtain ⟨rfl, H⟩ := H
    show Ev mX6_mergeRuns 45 [(0, vR 0)] [] h7 Q
    refine ev_iconst 1 dX6_mergeRuns_45 (by decide) ?_
    exact ev_zret dX6_mergeRuns_46 rfl (by decide) H
  · have H := H.2 c3
    refine ev_aload_n 0 dX6_mergeRuns_11 rfl (x := 0) rfl ?_
    refine ev_aload_n 0 dX6_mergeRuns_12 rfl (x := 0) rfl ?_
    refine ev_getR dX6_mergeRuns_13 flX6_46 rfl rfl ?_
    refine ev_callV (As := []) (rest := [vR 0]) dX6_mergeRuns_16 mlX6_287 rm_mX6_mergeRuns_mX3_mergeFirstTwo rfl rfl rfl rfl (Nat.le_of_ble_eq_true rfl) H (fun v h8 H => ?_)
    obtain ⟨r9, rfl, H⟩ := H
    show Ev mX6_mergeRuns 19 [(0, vR 0)] [vI r9, vR 0] h8 Q
    refine ev_callS (As := [vI r9]) (rest := [vR 0]) dX6_mergeRuns_19 mlX6_284 rm_mX6_mergeRuns_mX6_blocksFor rfl rfl (Nat.le_of_ble_eq_true rfl) H (fun v h10 H => ?_)
    obtain ⟨r11, rfl, H⟩ := H
    show Ev mX6_mergeRuns 22 [(0, vR 0)] [vI r11, vR 0] h10 Q
    refine ev_callV (As := [vI r11]) (rest := []) dX6_mergeRuns_22 mlX6_234 rm_mX6_mergeRuns_mX6_putBlocks rfl rfl rfl rfl (Nat.le_of_ble_eq_true rfl) H (fun v h12 H => ?_)
    obtain ⟨r13, rfl, H⟩ := H
    show Ev mX6_mergeRuns 25 [(0, vR 0)] [vI r13] h12 Q
    exact ev_zret dX6_mergeRuns_25 rfl H.1 H.2
set_option maxRecDepth 20000 in
theorem sX6_blocksFor {h : Hp} {Q : Option AV → Hp → Prop} {x0 : Int32} (H : Q (some (vI (((x0 + 8) - 1) / 8))) h) : EvM mX6_blocksFor [vI x0] h Q := by
  refine evM_of (by decide) rfl (Nat.le_of_ble_eq_true rfl) ?_
  show Ev mX6_blocksFor 0 [(0, vI x0)] [] h Q
  refine ev_iload_n 0 dX6_blocksFor_0 rfl (x := x0) rfl ?_
  refine ev_bipush 8 dX6_blocksFor_1 (by decide) ?_
  refine ev_iadd dX6_blocksFor_3 ?_
  refine ev_iconst 1 dX6_blocksFor_4 (by decide) ?_
  refine ev_isub dX6_blocksFor_5 ?_
  refine ev_bipush 8 dX6_blocksFor_6 (by decide) ?_
  refine ev_idiv dX6_blocksFor_8 (by decide) ?_
  exact ev_iret dX6_blocksFor_9 rfl H
set_option maxRecDepth 20000 in
theorem sX6_loadNode {h : Hp} {Q : Option AV → Hp → Prop} (H : EvM mX5_nodeCount [vR 16] h (fun v h1 => ∃ r2 : Int32, v = some (vI r2) ∧ (((r2 < 64) → EvM mX1_makeNode [vR 12, vR 16, vR 7] h1 (fun v h4 => ∃ r5 : Int32, v = some (vI r5) ∧ (((r5 = 0) → EvM mX6_putBlocks [vR 0, vI 1] h4 (fun v h7 => ∃ r8 : Int32, v = some (vI r8) ∧ ((r8 = 0 ∨ r8 = 1) ∧ Q (some (vI r8)) h7))) ∧ ((¬ r5 = 0) → (∀ h9 : Hp, h9 = sI h4 0 (upd (h4.1 0) 2 4) → EvM mX6_putBlocks [vR 0, vI 1] h9 (fun v h10 => ∃ r11 : Int32, v = some (vI r11) ∧ ((r11 = 0 ∨ r11 = 1) ∧ Q (some (vI r11)) h10))))))) ∧ ((¬ r2 < 64) → EvM mX6_stopBuilding [vR 0, vI 2] h1 (fun v h12 => v = none ∧ Q (some (vI 1)) h12))))) : EvM mX6_loadNode [vR 0] h Q := by
  refine evM_of (by decide) rfl (Nat.le_of_ble_eq_true rfl) ?_
  show Ev mX6_loadNode 0 [(0, vR 0)] [] h Q
  refine ev_aload_n 0 dX6_loadNode_0 rfl (x := 0) rfl ?_
  refine ev_getR dX6_loadNode_1 flX6_67 rfl rfl ?_
  refine ev_callV (As := []) (rest := []) dX6_loadNode_4 mlX6_173 rm_mX6_loadNode_mX5_nodeCount rfl rfl rfl rfl (Nat.le_of_ble_eq_true rfl) H (fun v h1 H => ?_)
  obtain ⟨r2, rfl, H⟩ := H
  show Ev mX6_loadNode 7 [(0, vR 0)] [vI r2] h1 Q
  refine ev_bipush 64 dX6_loadNode_7 (by decide) ?_
  refine ev_icmp_lt 19 dX6_loadNode_9 (by decide) ⟨fun c3 => ?_, fun c3 => ?_⟩
  · have H := H.1 c3
    refine ev_aload_n 0 dX6_loadNode_19 rfl (x := 0) rfl ?_
    refine ev_getR dX6_loadNode_20 flX6_53 rfl rfl ?_
    refine ev_aload_n 0 dX6_loadNode_23 rfl (x := 0) rfl ?_
    refine ev_getR dX6_loadNode_24 flX6_67 rfl rfl ?_
    refine ev_aload_n 0 dX6_loadNode_27 rfl (x := 0) rfl ?_
    refine ev_getR dX6_loadNode_28 flX6_46 rfl rfl ?_
    refine ev_callV (As := [vR 16, vR 7]) (rest := []) dX6_loadNode_31 mlX6_296 rm_mX6_loadNode_mX1_makeNode rfl rfl rfl rfl (Nat.le_of_ble_eq_true rfl) H (fun v h4 H => ?_)
    obtain ⟨r5, rfl, H⟩ := H
    show Ev mX6_loadNode 34 [(0, vR 0)] [vI r5] h4 Q
    refine ev_if_eq 42 dX6_loadNode_34 (by decide) ⟨fun c6 => ?_, fun c6 => ?_⟩
    · have H := H.1 c6
      refine ev_aload_n 0 dX6_loadNode_42 rfl (x := 0) rfl ?_
      refine ev_iconst 1 dX6_loadNode_43 (by decide) ?_
      refine ev_callV (As := [vI 1]) (rest := []) dX6_loadNode_44 mlX6_234 rm_mX6_loadNode_mX6_putBlocks rfl rfl rfl rfl (Nat.le_of_ble_eq_true rfl) H (fun v h7 H => ?_)
      obtain ⟨r8, rfl, H⟩ := H
      show Ev mX6_loadNode 47 [(0, vR 0)] [vI r8] h7 Q
      exact ev_zret dX6_loadNode_47 rfl H.1 H.2
    · have H := H.2 c6
      refine ev_aload_n 0 dX6_loadNode_37 rfl (x := 0) rfl ?_
      refine ev_iconst 4 dX6_loadNode_38 (by decide) ?_
      refine ev_putI dX6_loadNode_39 fpX6_23 rfl rfl   ?_
      obtain ⟨h9, eh9⟩ : ∃ z : Hp, z = sI h4 0 (upd (h4.1 0) 2 4) := ⟨_, rfl⟩
      rw [← eh9]
      have H := H h9 eh9
      refine ev_aload_n 0 dX6_loadNode_42 rfl (x := 0) rfl ?_
      refine ev_iconst 1 dX6_loadNode_43 (by decide) ?_
      refine ev_callV (As := [vI 1]) (rest := []) dX6_loadNode_44 mlX6_234 rm_mX6_loadNode_mX6_putBlocks rfl rfl rfl rfl (Nat.le_of_ble_eq_true rfl) H (fun v h10 H => ?_)
      obtain ⟨r11, rfl, H⟩ := H
      show Ev mX6_loadNode 47 [(0, vR 0)] [vI r11] h10 Q
      exact ev_zret dX6_loadNode_47 rfl H.1 H.2
  · have H := H.2 c3
    refine ev_aload_n 0 dX6_loadNode_12 rfl (x := 0) rfl ?_
    refine ev_iconst 2 dX6_loadNode_13 (by decide) ?_
    refine ev_callV (As := [vI 2]) (rest := []) dX6_loadNode_14 mlX6_259 rm_mX6_loadNode_mX6_stopBuilding rfl rfl rfl rfl (Nat.le_of_ble_eq_true rfl) H (fun v h12 H => ?_)
    obtain ⟨rfl, H⟩ := H
    show Ev mX6_loadNode 17 [(0, vR 0)] [] h12 Q
    refine ev_iconst 1 dX6_loadNode_17 (by decide) ?_
    exact ev_zret dX6_loadNode_18 rfl (by decide) H
set_option maxRecDepth 20000 in
theorem sX6_catchUp {h : Hp} {Q : Option AV → Hp → Prop} (H : EvM mX2_count [vR 13] h (fun v h1 => ∃ r2 : Int32, v = some (vI r2) ∧ (((r2 ≤ 0) → ((((h1.1 0 3) = 0) → Ev mX6_catchUp 59 [(0, vR 0)] [vI (-1)] h1 Q) ∧ ((¬ (h1.1 0 3) = 0) → EvM mX5_firstTwin [vR 16] h1 (fun v h5 => ∃ r6 : Int32, v = some (vI r6) ∧ Ev mX6_catchUp 59 [(0, vR 0)] [vI r6] h5 Q)))) ∧ ((¬ r2 ≤ 0) → EvM mX2_firstEntry [vR 13] h1 (fun v h7 => ∃ r8 : Int64, v = some (vL r8) ∧ EvM mX2_firstComes [vR 13] h7 (fun v h9 => ∃ r10 : Int32, v = some (vI r10) ∧ EvM mX2_takeFirst [vR 13] h9 (fun v h11 => v = none ∧ EvM mX6_bringToTree [vR 0, vL r8, vI r10] h11 (fun v h12 => v = none ∧ Q (some (vI 1)) h12)))))))) : EvM mX6_catchUp [vR 0] h Q := by
  refine evM_of (by decide) rfl (Nat.le_of_ble_eq_true rfl) ?_
  show Ev mX6_catchUp 0 [(0, vR 0)] [] h Q
  refine ev_aload_n 0 dX6_catchUp_0 rfl (x := 0) rfl ?_
  refine ev_getR dX6_catchUp_1 flX6_60 rfl rfl ?_
  refine ev_callV (As := []) (rest := []) dX6_catchUp_4 mlX6_172 rm_mX6_catchUp_mX2_count rfl rfl rfl rfl (Nat.le_of_ble_eq_true rfl) H (fun v h1 H => ?_)
  obtain ⟨r2, rfl, H⟩ := H
  show Ev mX6_catchUp 7 [(0, vR 0)] [vI r2] h1 Q
  refine ev_if_le 41 dX6_catchUp_7 (by decide) ⟨fun c3 => ?_, fun c3 => ?_⟩
  · have H := H.1 c3
    refine ev_aload_n 0 dX6_catchUp_41 rfl (x := 0) rfl ?_
    refine ev_getI dX6_catchUp_42 flX6_27 rfl rfl ?_
    refine ev_if_eq 58 dX6_catchUp_45 (by decide) ⟨fun c4 => ?_, fun c4 => ?_⟩
    · have H := H.1 c4
      refine ev_iconst (-1) dX6_catchUp_58 (by decide) ?_
      exact ev_sub (L' := [(0, vR 0)]) ⟨rfl, trivial⟩ H
    · have H := H.2 c4
      refine ev_aload_n 0 dX6_catchUp_48 rfl (x := 0) rfl ?_
      refine ev_getR dX6_catchUp_49 flX6_67 rfl rfl ?_
      refine ev_callV (As := []) (rest := []) dX6_catchUp_52 mlX6_310 rm_mX6_catchUp_mX5_firstTwin rfl rfl rfl rfl (Nat.le_of_ble_eq_true rfl) H (fun v h5 H => ?_)
      obtain ⟨r6, rfl, H⟩ := H
      show Ev mX6_catchUp 55 [(0, vR 0)] [vI r6] h5 Q
      refine ev_goto 59 dX6_catchUp_55 (by decide) ?_
      exact ev_sub (L' := [(0, vR 0)]) ⟨rfl, trivial⟩ H
  · have H := H.2 c3
    refine ev_aload_n 0 dX6_catchUp_10 rfl (x := 0) rfl ?_
    refine ev_getR dX6_catchUp_11 flX6_60 rfl rfl ?_
    refine ev_callV (As := []) (rest := []) dX6_catchUp_14 mlX6_300 rm_mX6_catchUp_mX2_firstEntry rfl rfl rfl rfl (Nat.le_of_ble_eq_true rfl) H (fun v h7 H => ?_)
    obtain ⟨r8, rfl, H⟩ := H
    show Ev mX6_catchUp 17 [(0, vR 0)] [vL r8] h7 Q
    refine ev_lstore_n 1 dX6_catchUp_17 rfl (by decide) ?_
    refine ev_L (L' := [(1, vL r8), (0, vR 0)]) rfl ?_
    refine ev_aload_n 0 dX6_catchUp_18 rfl (x := 0) rfl ?_
    refine ev_getR dX6_catchUp_19 flX6_60 rfl rfl ?_
    refine ev_callV (As := []) (rest := []) dX6_catchUp_22 mlX6_304 rm_mX6_catchUp_mX2_firstComes rfl rfl rfl rfl (Nat.le_of_ble_eq_true rfl) H (fun v h9 H => ?_)
    obtain ⟨r10, rfl, H⟩ := H
    show Ev mX6_catchUp 25 [(1, vL r8), (0, vR 0)] [vI r10] h9 Q
    refine ev_istore_n 3 dX6_catchUp_25 rfl (by decide) ?_
    refine ev_L (L' := [(3, vI r10), (1, vL r8), (0, vR 0)]) rfl ?_
    refine ev_aload_n 0 dX6_catchUp_26 rfl (x := 0) rfl ?_
    refine ev_getR dX6_catchUp_27 flX6_60 rfl rfl ?_
    refine ev_callV (As := []) (rest := []) dX6_catchUp_30 mlX6_307 rm_mX6_catchUp_mX2_takeFirst rfl rfl rfl rfl (Nat.le_of_ble_eq_true rfl) H (fun v h11 H => ?_)
    obtain ⟨rfl, H⟩ := H
    show Ev mX6_catchUp 33 [(3, vI r10), (1, vL r8), (0, vR 0)] [] h11 Q
    refine ev_aload_n 0 dX6_catchUp_33 rfl (x := 0) rfl ?_
    refine ev_lload_n 1 dX6_catchUp_34 rfl (x := r8) rfl ?_
    refine ev_iload_n 3 dX6_catchUp_35 rfl (x := r10) rfl ?_
    refine ev_callV (As := [vL r8, vI r10]) (rest := []) dX6_catchUp_36 mlX6_252 rm_mX6_catchUp_mX6_bringToTree rfl rfl rfl rfl (Nat.le_of_ble_eq_true rfl) H (fun v h12 H => ?_)
    obtain ⟨rfl, H⟩ := H
    show Ev mX6_catchUp 39 [(3, vI r10), (1, vL r8), (0, vR 0)] [] h12 Q
    refine ev_iconst 1 dX6_catchUp_39 (by decide) ?_
    exact ev_zret dX6_catchUp_40 rfl (by decide) H
set_option maxRecDepth 20000 in
theorem sX6_catchUp_59 {h : Hp} {Q : Option AV → Hp → Prop} {s0 : Int32} (H : (((s0 = (-1)) → EvM mX5_nodeCount [vR 16] h (fun v h2 => ∃ r3 : Int32, v = some (vI r3) ∧ EvM mX6_makeCheckpoint [vR 0, vI r3] h2 (fun v h4 => ∃ r5 : Int32, v = some (vI r5) ∧ (((¬ r5 = 0) → (∀ h7 : Hp, h7 = sI h4 0 (upd (h4.1 0) 2 5) → EvM mX6_forgetBuilding [vR 0] h7 (fun v h8 => v = none ∧ Q (some (vI 1)) h8))) ∧ ((r5 = 0) → Q (some (vI 0)) h4))))) ∧ ((¬ s0 = (-1)) → EvM mX5_entryAt [vR 16, vI s0] h (fun v h9 => ∃ r10 : Int64, v = some (vL r10) ∧ EvM mX6_placeOf [vL r10] h9 (fun v h11 => ∃ r12 : Int32, v = some (vI r12) ∧ (∀ h13 : Hp, h13 = sI h11 0 (upd (h11.1 0) 6 r12) → EvM mX5_entryAt [vR 16, vI (s0 + 1)] h13 (fun v h14 => ∃ r15 : Int64, v = some (vL r15) ∧ EvM mX6_placeOf [vL r15] h14 (fun v h16 => ∃ r17 : Int32, v = some (vI r17) ∧ (∀ h18 : Hp, h18 = sI h16 0 (upd (h16.1 0) 7 r17) → EvM mX6_stopBuilding [vR 0, vI 3] h18 (fun v h19 => v = none ∧ Q (some (vI 1)) h19)))))))))) : Ev mX6_catchUp 59 [(0, vR 0)] [vI s0] h Q := by
  refine ev_istore_n 1 dX6_catchUp_59 rfl (by decide) ?_
  refine ev_L (L' := [(1, vI s0), (0, vR 0)]) rfl ?_
  refine ev_iload_n 1 dX6_catchUp_60 rfl (x := s0) rfl ?_
  refine ev_iconst (-1) dX6_catchUp_61 (by decide) ?_
  refine ev_icmp_eq 104 dX6_catchUp_62 (by decide) ⟨fun c1 => ?_, fun c1 => ?_⟩
  · have H := H.1 c1
    refine ev_aload_n 0 dX6_catchUp_104 rfl (x := 0) rfl ?_
    refine ev_aload_n 0 dX6_catchUp_105 rfl (x := 0) rfl ?_
    refine ev_getR dX6_catchUp_106 flX6_67 rfl rfl ?_
    refine ev_callV (As := []) (rest := [vR 0]) dX6_catchUp_109 mlX6_173 rm_mX6_catchUp_mX5_nodeCount rfl rfl rfl rfl (Nat.le_of_ble_eq_true rfl) H (fun v h2 H => ?_)
    obtain ⟨r3, rfl, H⟩ := H
    show Ev mX6_catchUp 112 [(1, vI s0), (0, vR 0)] [vI r3, vR 0] h2 Q
    refine ev_callV (As := [vI r3]) (rest := []) dX6_catchUp_112 mlX6_150 rm_mX6_catchUp_mX6_makeCheckpoint rfl rfl rfl rfl (Nat.le_of_ble_eq_true rfl) H (fun v h4 H => ?_)
    obtain ⟨r5, rfl, H⟩ := H
    show Ev mX6_catchUp 115 [(1, vI s0), (0, vR 0)] [vI r5] h4 Q
    refine ev_if_ne 120 dX6_catchUp_115 (by decide) ⟨fun c6 => ?_, fun c6 => ?_⟩
    · have H := H.1 c6
      refine ev_aload_n 0 dX6_catchUp_120 rfl (x := 0) rfl ?_
      refine ev_iconst 5 dX6_catchUp_121 (by decide) ?_
      refine ev_putI dX6_catchUp_122 fpX6_23 rfl rfl   ?_
      obtain ⟨h7, eh7⟩ : ∃ z : Hp, z = sI h4 0 (upd (h4.1 0) 2 5) := ⟨_, rfl⟩
      rw [← eh7]
      have H := H h7 eh7
      refine ev_aload_n 0 dX6_catchUp_125 rfl (x := 0) rfl ?_
      refine ev_callV (As := []) (rest := []) dX6_catchUp_126 mlX6_270 rm_mX6_catchUp_mX6_forgetBuilding rfl rfl rfl rfl (Nat.le_of_ble_eq_true rfl) H (fun v h8 H => ?_)
      obtain ⟨rfl, H⟩ := H
      show Ev mX6_catchUp 129 [(1, vI s0), (0, vR 0)] [] h8 Q
      refine ev_iconst 1 dX6_catchUp_129 (by decide) ?_
      exact ev_zret dX6_catchUp_130 rfl (by decide) H
    · have H := H.2 c6
      refine ev_iconst 0 dX6_catchUp_118 (by decide) ?_
      exact ev_zret dX6_catchUp_119 rfl (by decide) H
  · have H := H.2 c1
    refine ev_aload_n 0 dX6_catchUp_65 rfl (x := 0) rfl ?_
    refine ev_aload_n 0 dX6_catchUp_66 rfl (x := 0) rfl ?_
    refine ev_getR dX6_catchUp_67 flX6_67 rfl rfl ?_
    refine ev_iload_n 1 dX6_catchUp_70 rfl (x := s0) rfl ?_
    refine ev_callV (As := [vI s0]) (rest := [vR 0]) dX6_catchUp_71 mlX6_190 rm_mX6_catchUp_mX5_entryAt rfl rfl rfl rfl (Nat.le_of_ble_eq_true rfl) H (fun v h9 H => ?_)
    obtain ⟨r10, rfl, H⟩ := H
    show Ev mX6_catchUp 74 [(1, vI s0), (0, vR 0)] [vL r10, vR 0] h9 Q
    refine ev_callS (As := [vL r10]) (rest := [vR 0]) dX6_catchUp_74 mlX6_194 rm_mX6_catchUp_mX6_placeOf rfl rfl (Nat.le_of_ble_eq_true rfl) H (fun v h11 H => ?_)
    obtain ⟨r12, rfl, H⟩ := H
    show Ev mX6_catchUp 77 [(1, vI s0), (0, vR 0)] [vI r12, vR 0] h11 Q
    refine ev_putI dX6_catchUp_77 fpX6_37 rfl rfl   ?_
    obtain ⟨h13, eh13⟩ : ∃ z : Hp, z = sI h11 0 (upd (h11.1 0) 6 r12) := ⟨_, rfl⟩
    rw [← eh13]
    have H := H h13 eh13
    refine ev_aload_n 0 dX6_catchUp_80 rfl (x := 0) rfl ?_
    refine ev_aload_n 0 dX6_catchUp_81 rfl (x := 0) rfl ?_
    refine ev_getR dX6_catchUp_82 flX6_67 rfl rfl ?_
    refine ev_iload_n 1 dX6_catchUp_85 rfl (x := s0) rfl ?_
    refine ev_iconst 1 dX6_catchUp_86 (by decide) ?_
    refine ev_iadd dX6_catchUp_87 ?_
    refine ev_callV (As := [vI (s0 + 1)]) (rest := [vR 0]) dX6_catchUp_88 mlX6_190 rm_mX6_catchUp_mX5_entryAt rfl rfl rfl rfl (Nat.le_of_ble_eq_true rfl) H (fun v h14 H => ?_)
    obtain ⟨r15, rfl, H⟩ := H
    show Ev mX6_catchUp 91 [(1, vI s0), (0, vR 0)] [vL r15, vR 0] h14 Q
    refine ev_callS (As := [vL r15]) (rest := [vR 0]) dX6_catchUp_91 mlX6_194 rm_mX6_catchUp_mX6_placeOf rfl rfl (Nat.le_of_ble_eq_true rfl) H (fun v h16 H => ?_)
    obtain ⟨r17, rfl, H⟩ := H
    show Ev mX6_catchUp 94 [(1, vI s0), (0, vR 0)] [vI r17, vR 0] h16 Q
    refine ev_putI dX6_catchUp_94 fpX6_40 rfl rfl   ?_
    obtain ⟨h18, eh18⟩ : ∃ z : Hp, z = sI h16 0 (upd (h16.1 0) 7 r17) := ⟨_, rfl⟩
    rw [← eh18]
    have H := H h18 eh18
    refine ev_aload_n 0 dX6_catchUp_97 rfl (x := 0) rfl ?_
    refine ev_iconst 3 dX6_catchUp_98 (by decide) ?_
    refine ev_callV (As := [vI 3]) (rest := []) dX6_catchUp_99 mlX6_259 rm_mX6_catchUp_mX6_stopBuilding rfl rfl rfl rfl (Nat.le_of_ble_eq_true rfl) H (fun v h19 H => ?_)
    obtain ⟨rfl, H⟩ := H
    show Ev mX6_catchUp 102 [(1, vI s0), (0, vR 0)] [] h19 Q
    refine ev_iconst 1 dX6_catchUp_102 (by decide) ?_
    exact ev_zret dX6_catchUp_103 rfl (by decide) H
