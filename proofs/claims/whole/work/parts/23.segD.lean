set_option maxRecDepth 20000 in
theorem sX7_thrown {h : Hp} {Q : Option AV → Hp → Prop} (H : Q (some (vI (h.1 27 0))) h) : EvM mX7_thrown [vR 27] h Q := by
  refine evM_of (by decide) rfl (Nat.le_of_ble_eq_true rfl) ?_
  show Ev mX7_thrown 0 [(0, vR 27)] [] h Q
  refine ev_aload_n 0 dX7_thrown_0 rfl (x := 27) rfl ?_
  refine ev_getI dX7_thrown_1 flX7_96 rfl rfl ?_
  exact ev_iret dX7_thrown_4 rfl H
set_option maxRecDepth 20000 in
theorem sX7_in {h : Hp} {Q : Option AV → Hp → Prop} {x0 : Int32} {x1 : Int32} {x2 : Int32} (H : (((x0 < x1) → Q (some (vI 0)) h) ∧ ((¬ x0 < x1) → (((x2 < x0) → Q (some (vI 0)) h) ∧ ((¬ x2 < x0) → Q (some (vI 1)) h))))) : EvM mX7_in [vI x0, vI x1, vI x2] h Q := by
  refine evM_of (by decide) rfl (Nat.le_of_ble_eq_true rfl) ?_
  show Ev mX7_in 0 [(0, vI x0), (1, vI x1), (2, vI x2)] [] h Q
  refine ev_iload_n 0 dX7_in_0 rfl (x := x0) rfl ?_
  refine ev_iload_n 1 dX7_in_1 rfl (x := x1) rfl ?_
  refine ev_icmp_lt 14 dX7_in_2 (by decide) ⟨fun c1 => ?_, fun c1 => ?_⟩
  · have H := H.1 c1
    refine ev_iconst 0 dX7_in_14 (by decide) ?_
    exact ev_zret dX7_in_15 rfl (by decide) H
  · have H := H.2 c1
    refine ev_iload_n 0 dX7_in_5 rfl (x := x0) rfl ?_
    refine ev_iload_n 2 dX7_in_6 rfl (x := x2) rfl ?_
    refine ev_icmp_gt 14 dX7_in_7 (by decide) ⟨fun c2 => ?_, fun c2 => ?_⟩
    · have H := H.1 c2
      refine ev_iconst 0 dX7_in_14 (by decide) ?_
      exact ev_zret dX7_in_15 rfl (by decide) H
    · have H := H.2 c2
      refine ev_iconst 1 dX7_in_10 (by decide) ?_
      refine ev_goto 15 dX7_in_11 (by decide) ?_
      exact ev_zret dX7_in_15 rfl (by decide) H
set_option maxRecDepth 20000 in
theorem sX7_block {h : Hp} {Q : Option AV → Hp → Prop} (H : (∀ h1 : Hp, h1 = sI h 27 (upd (h.1 27) 6 ((h.1 27 6) + 1)) → (((¬ (h1.1 27 5) = 0) → ((((h1.1 27 5) ≤ 0) → (∀ h4 : Hp, h4 = sI h1 27 (upd (h1.1 27) 5 (h1.1 27 5)) → Q (some (vI 1)) h4)) ∧ ((¬ (h1.1 27 5) ≤ 0) → (∀ h5 : Hp, h5 = sI h1 27 (upd (h1.1 27) 5 ((h1.1 27 5) - 1)) → Q (some (vI 1)) h5)))) ∧ (((h1.1 27 5) = 0) → (∀ h6 : Hp, h6 = sI h1 27 (upd (h1.1 27) 5 (-1)) → (∀ h7 : Hp, h7 = sI h6 27 (upd (h6.1 27) 4 1) → ((((h7.1 27 11) = 5) → Q (some (vI 0)) h7) ∧ ((¬ (h7.1 27 11) = 5) → EvM mX7_forget [vR 27] h7 (fun v h9 => v = none ∧ Q (some (vI 0)) h9))))))))) : EvM mX7_block [vR 27] h Q := by
  refine evM_of (by decide) rfl (Nat.le_of_ble_eq_true rfl) ?_
  show Ev mX7_block 0 [(0, vR 27)] [] h Q
  refine ev_aload_n 0 dX7_block_0 rfl (x := 27) rfl ?_
  refine ev_dup dX7_block_1 rfl ?_
  refine ev_getI dX7_block_2 flX7_99 rfl rfl ?_
  refine ev_iconst 1 dX7_block_5 (by decide) ?_
  refine ev_iadd dX7_block_6 ?_
  refine ev_putI dX7_block_7 fpX7_99 rfl rfl   ?_
  obtain ⟨h1, eh1⟩ : ∃ z : Hp, z = sI h 27 (upd (h.1 27) 6 ((h.1 27 6) + 1)) := ⟨_, rfl⟩
  rw [← eh1]
  have H := H h1 eh1
  refine ev_aload_n 0 dX7_block_10 rfl (x := 27) rfl ?_
  refine ev_getI dX7_block_11 flX7_20 rfl rfl ?_
  refine ev_if_ne 41 dX7_block_14 (by decide) ⟨fun c2 => ?_, fun c2 => ?_⟩
  · have H := H.1 c2
    refine ev_aload_n 0 dX7_block_41 rfl (x := 27) rfl ?_
    refine ev_aload_n 0 dX7_block_42 rfl (x := 27) rfl ?_
    refine ev_getI dX7_block_43 flX7_20 rfl rfl ?_
    refine ev_if_le 58 dX7_block_46 (by decide) ⟨fun c3 => ?_, fun c3 => ?_⟩
    · have H := H.1 c3
      refine ev_aload_n 0 dX7_block_58 rfl (x := 27) rfl ?_
      refine ev_getI dX7_block_59 flX7_20 rfl rfl ?_
      refine ev_putI dX7_block_62 fpX7_20 rfl rfl   ?_
      obtain ⟨h4, eh4⟩ : ∃ z : Hp, z = sI h1 27 (upd (h1.1 27) 5 (h1.1 27 5)) := ⟨_, rfl⟩
      rw [← eh4]
      have H := H h4 eh4
      refine ev_iconst 1 dX7_block_65 (by decide) ?_
      exact ev_zret dX7_block_66 rfl (by decide) H
    · have H := H.2 c3
      refine ev_aload_n 0 dX7_block_49 rfl (x := 27) rfl ?_
      refine ev_getI dX7_block_50 flX7_20 rfl rfl ?_
      refine ev_iconst 1 dX7_block_53 (by decide) ?_
      refine ev_isub dX7_block_54 ?_
      refine ev_goto 62 dX7_block_55 (by decide) ?_
      refine ev_putI dX7_block_62 fpX7_20 rfl rfl   ?_
      obtain ⟨h5, eh5⟩ : ∃ z : Hp, z = sI h1 27 (upd (h1.1 27) 5 ((h1.1 27 5) - 1)) := ⟨_, rfl⟩
      rw [← eh5]
      have H := H h5 eh5
      refine ev_iconst 1 dX7_block_65 (by decide) ?_
      exact ev_zret dX7_block_66 rfl (by decide) H
  · have H := H.2 c2
    refine ev_aload_n 0 dX7_block_17 rfl (x := 27) rfl ?_
    refine ev_iconst (-1) dX7_block_18 (by decide) ?_
    refine ev_putI dX7_block_19 fpX7_20 rfl rfl   ?_
    obtain ⟨h6, eh6⟩ : ∃ z : Hp, z = sI h1 27 (upd (h1.1 27) 5 (-1)) := ⟨_, rfl⟩
    rw [← eh6]
    have H := H h6 eh6
    refine ev_aload_n 0 dX7_block_22 rfl (x := 27) rfl ?_
    refine ev_iconst 1 dX7_block_23 (by decide) ?_
    refine ev_putZ dX7_block_24 fpX7_102 rfl rfl  (by decide) ?_
    obtain ⟨h7, eh7⟩ : ∃ z : Hp, z = sI h6 27 (upd (h6.1 27) 4 1) := ⟨_, rfl⟩
    rw [← eh7]
    have H := H h7 eh7
    refine ev_aload_n 0 dX7_block_27 rfl (x := 27) rfl ?_
    refine ev_getI dX7_block_28 flX7_106 rfl rfl ?_
    refine ev_iconst 5 dX7_block_31 (by decide) ?_
    refine ev_icmp_eq 39 dX7_block_32 (by decide) ⟨fun c8 => ?_, fun c8 => ?_⟩
    · have H := H.1 c8
      refine ev_iconst 0 dX7_block_39 (by decide) ?_
      exact ev_zret dX7_block_40 rfl (by decide) H
    · have H := H.2 c8
      refine ev_aload_n 0 dX7_block_35 rfl (x := 27) rfl ?_
      refine ev_callV (As := []) (rest := []) dX7_block_36 mlX7_109 rm_mX7_block_mX7_forget rfl rfl rfl rfl (Nat.le_of_ble_eq_true rfl) H (fun v h9 H => ?_)
      obtain ⟨rfl, H⟩ := H
      show Ev mX7_block 39 [(0, vR 27)] [] h9 Q
      refine ev_iconst 0 dX7_block_39 (by decide) ?_
      exact ev_zret dX7_block_40 rfl (by decide) H
set_option maxRecDepth 20000 in
theorem sX7_writeBlocks {h : Hp} {Q : Option AV → Hp → Prop} {x1 : Int32} (H : Ev mX7_writeBlocks 4 [(0, vR 27), (1, vI x1), (2, vI 1), (3, vI 0)] [] h Q) : EvM mX7_writeBlocks [vR 27, vI x1] h Q := by
  refine evM_of (by decide) rfl (Nat.le_of_ble_eq_true rfl) ?_
  show Ev mX7_writeBlocks 0 [(0, vR 27), (1, vI x1)] [] h Q
  refine ev_iconst 1 dX7_writeBlocks_0 (by decide) ?_
  refine ev_istore_n 2 dX7_writeBlocks_1 rfl (by decide) ?_
  refine ev_L (L' := [(2, vI 1), (0, vR 27), (1, vI x1)]) rfl ?_
  refine ev_iconst 0 dX7_writeBlocks_2 (by decide) ?_
  refine ev_istore_n 3 dX7_writeBlocks_3 rfl (by decide) ?_
  refine ev_L (L' := [(3, vI 0), (2, vI 1), (0, vR 27), (1, vI x1)]) rfl ?_
  exact ev_sub (L' := [(0, vR 27), (1, vI x1), (2, vI 1), (3, vI 0)]) ⟨rfl, rfl, rfl, rfl, trivial⟩ H
set_option maxRecDepth 20000 in
theorem sX7_writeBlocks_4 {h : Hp} {Q : Option AV → Hp → Prop} {x1 : Int32} {x2 : Int32} {x3 : Int32} (H : (((x1 ≤ x3) → ((x2 = 0 ∨ x2 = 1) ∧ Q (some (vI x2)) h)) ∧ ((¬ x1 ≤ x3) → (((x2 = 0) → ((x2 = 0 ∨ x2 = 1) ∧ Q (some (vI x2)) h)) ∧ ((¬ x2 = 0) → EvM mX7_block [vR 27] h (fun v h3 => ∃ r4 : Int32, v = some (vI r4) ∧ Ev mX7_writeBlocks 4 [(0, vR 27), (1, vI x1), (2, vI r4), (3, vI (x3 + 1))] [] h3 Q)))))) : Ev mX7_writeBlocks 4 [(0, vR 27), (1, vI x1), (2, vI x2), (3, vI x3)] [] h Q := by
  refine ev_iload_n 3 dX7_writeBlocks_4 rfl (x := x3) rfl ?_
  refine ev_iload_n 1 dX7_writeBlocks_5 rfl (x := x1) rfl ?_
  refine ev_icmp_ge 24 dX7_writeBlocks_6 (by decide) ⟨fun c1 => ?_, fun c1 => ?_⟩
  · have H := H.1 c1
    refine ev_iload_n 2 dX7_writeBlocks_24 rfl (x := x2) rfl ?_
    exact ev_zret dX7_writeBlocks_25 rfl H.1 H.2
  · have H := H.2 c1
    refine ev_iload_n 2 dX7_writeBlocks_9 rfl (x := x2) rfl ?_
    refine ev_if_eq 24 dX7_writeBlocks_10 (by decide) ⟨fun c2 => ?_, fun c2 => ?_⟩
    · have H := H.1 c2
      refine ev_iload_n 2 dX7_writeBlocks_24 rfl (x := x2) rfl ?_
      exact ev_zret dX7_writeBlocks_25 rfl H.1 H.2
    · have H := H.2 c2
      refine ev_aload_n 0 dX7_writeBlocks_13 rfl (x := 27) rfl ?_
      refine ev_callV (As := []) (rest := []) dX7_writeBlocks_14 mlX7_112 rm_mX7_writeBlocks_mX7_block rfl rfl rfl rfl (Nat.le_of_ble_eq_true rfl) H (fun v h3 H => ?_)
      obtain ⟨r4, rfl, H⟩ := H
      show Ev mX7_writeBlocks 17 [(0, vR 27), (1, vI x1), (2, vI x2), (3, vI x3)] [vI r4] h3 Q
      refine ev_istore_n 2 dX7_writeBlocks_17 rfl (by decide) ?_
      refine ev_L (L' := [(2, vI r4), (0, vR 27), (1, vI x1), (3, vI x3)]) rfl ?_
      refine ev_iinc (x := x3) (v := 1) dX7_writeBlocks_18 rfl (by decide) (by decide) ?_
      refine ev_L (L' := [(3, vI (x3 + 1)), (2, vI r4), (0, vR 27), (1, vI x1)]) rfl ?_
      refine ev_goto 4 dX7_writeBlocks_21 (by decide) ?_
      exact ev_sub (L' := [(0, vR 27), (1, vI x1), (2, vI r4), (3, vI (x3 + 1))]) ⟨rfl, rfl, rfl, rfl, trivial⟩ H
set_option maxRecDepth 20000 in
theorem sX7_checkpoint {h : Hp} {Q : Option AV → Hp → Prop} {x1 : Int32} (H : Ev mX7_checkpoint 6 [(0, vR 27), (2, vI (1 + x1)), (3, vI 0)] [] h Q) : EvM mX7_checkpoint [vR 27, vI x1] h Q := by
  refine evM_of (by decide) rfl (Nat.le_of_ble_eq_true rfl) ?_
  show Ev mX7_checkpoint 0 [(0, vR 27), (1, vI x1)] [] h Q
  refine ev_iconst 1 dX7_checkpoint_0 (by decide) ?_
  refine ev_iload_n 1 dX7_checkpoint_1 rfl (x := x1) rfl ?_
  refine ev_iadd dX7_checkpoint_2 ?_
  refine ev_istore_n 2 dX7_checkpoint_3 rfl (by decide) ?_
  refine ev_L (L' := [(2, vI (1 + x1)), (0, vR 27), (1, vI x1)]) rfl ?_
  refine ev_iconst 0 dX7_checkpoint_4 (by decide) ?_
  refine ev_istore_n 3 dX7_checkpoint_5 rfl (by decide) ?_
  refine ev_L (L' := [(3, vI 0), (2, vI (1 + x1)), (0, vR 27), (1, vI x1)]) rfl ?_
  exact ev_sub (L' := [(0, vR 27), (2, vI (1 + x1)), (3, vI 0)]) ⟨rfl, rfl, rfl, trivial⟩ H
set_option maxRecDepth 20000 in
theorem sX7_checkpoint_6 {h : Hp} {Q : Option AV → Hp → Prop} {x2 : Int32} {x3 : Int32} (H : (((20 ≤ x3) → EvM mX7_writeBlocks [vR 27, vI x2] h (fun v h2 => ∃ r3 : Int32, v = some (vI r3) ∧ (((¬ r3 = 0) → (∀ h5 : Hp, h5 = sI h2 27 (upd (h2.1 27) 7 ((h2.1 27 7) + x2)) → (∀ h6 : Hp, h6 = sI h5 27 (upd (h5.1 27) 8 ((h5.1 27 8) + 1)) → (∀ h7 : Hp, h7 = sI h6 27 (upd (h6.1 27) 9 0) → Ev mX7_checkpoint 72 [(0, vR 27), (3, vI 0)] [] h7 Q)))) ∧ ((r3 = 0) → Q (some (vI 0)) h2)))) ∧ ((¬ 20 ≤ x3) → (vp_in x3 20 ∧ ((((h.1 31 (Int32.toNatClampNeg x3)) = 0) → Ev mX7_checkpoint 6 [(0, vR 27), (2, vI x2), (3, vI (x3 + 1))] [] h Q) ∧ ((¬ (h.1 31 (Int32.toNatClampNeg x3)) = 0) → Ev mX7_checkpoint 6 [(0, vR 27), (2, vI (x2 + 1)), (3, vI (x3 + 1))] [] h Q)))))) : Ev mX7_checkpoint 6 [(0, vR 27), (2, vI x2), (3, vI x3)] [] h Q := by
  refine ev_iload_n 3 dX7_checkpoint_6 rfl (x := x3) rfl ?_
  refine ev_bipush 20 dX7_checkpoint_7 (by decide) ?_
  refine ev_icmp_ge 35 dX7_checkpoint_9 (by decide) ⟨fun c1 => ?_, fun c1 => ?_⟩
  · have H := H.1 c1
    refine ev_aload_n 0 dX7_checkpoint_35 rfl (x := 27) rfl ?_
    refine ev_iload_n 2 dX7_checkpoint_36 rfl (x := x2) rfl ?_
    refine ev_callV (As := [vI x2]) (rest := []) dX7_checkpoint_37 mlX7_116 rm_mX7_checkpoint_mX7_writeBlocks rfl rfl rfl rfl (Nat.le_of_ble_eq_true rfl) H (fun v h2 H => ?_)
    obtain ⟨r3, rfl, H⟩ := H
    show Ev mX7_checkpoint 40 [(0, vR 27), (2, vI x2), (3, vI x3)] [vI r3] h2 Q
    refine ev_if_ne 45 dX7_checkpoint_40 (by decide) ⟨fun c4 => ?_, fun c4 => ?_⟩
    · have H := H.1 c4
      refine ev_aload_n 0 dX7_checkpoint_45 rfl (x := 27) rfl ?_
      refine ev_aload_n 0 dX7_checkpoint_46 rfl (x := 27) rfl ?_
      refine ev_getI dX7_checkpoint_47 flX7_120 rfl rfl ?_
      refine ev_iload_n 2 dX7_checkpoint_50 rfl (x := x2) rfl ?_
      refine ev_iadd dX7_checkpoint_51 ?_
      refine ev_putI dX7_checkpoint_52 fpX7_120 rfl rfl   ?_
      obtain ⟨h5, eh5⟩ : ∃ z : Hp, z = sI h2 27 (upd (h2.1 27) 7 ((h2.1 27 7) + x2)) := ⟨_, rfl⟩
      rw [← eh5]
      have H := H h5 eh5
      refine ev_aload_n 0 dX7_checkpoint_55 rfl (x := 27) rfl ?_
      refine ev_dup dX7_checkpoint_56 rfl ?_
      refine ev_getI dX7_checkpoint_57 flX7_123 rfl rfl ?_
      refine ev_iconst 1 dX7_checkpoint_60 (by decide) ?_
      refine ev_iadd dX7_checkpoint_61 ?_
      refine ev_putI dX7_checkpoint_62 fpX7_123 rfl rfl   ?_
      obtain ⟨h6, eh6⟩ : ∃ z : Hp, z = sI h5 27 (upd (h5.1 27) 8 ((h5.1 27 8) + 1)) := ⟨_, rfl⟩
      rw [← eh6]
      have H := H h6 eh6
      refine ev_aload_n 0 dX7_checkpoint_65 rfl (x := 27) rfl ?_
      refine ev_iconst 0 dX7_checkpoint_66 (by decide) ?_
      refine ev_putI dX7_checkpoint_67 fpX7_126 rfl rfl   ?_
      obtain ⟨h7, eh7⟩ : ∃ z : Hp, z = sI h6 27 (upd (h6.1 27) 9 0) := ⟨_, rfl⟩
      rw [← eh7]
      have H := H h7 eh7
      refine ev_iconst 0 dX7_checkpoint_70 (by decide) ?_
      refine ev_istore_n 3 dX7_checkpoint_71 rfl (by decide) ?_
      refine ev_L (L' := [(3, vI 0), (0, vR 27), (2, vI x2)]) rfl ?_
      exact ev_sub (L' := [(0, vR 27), (3, vI 0)]) ⟨rfl, rfl, trivial⟩ H
    · have H := H.2 c4
      refine ev_iconst 0 dX7_checkpoint_43 (by decide) ?_
      exact ev_zret dX7_checkpoint_44 rfl (by decide) H
  · have H := H.2 c1
    refine ev_aload_n 0 dX7_checkpoint_12 rfl (x := 27) rfl ?_
    refine ev_getR dX7_checkpoint_13 flX7_24 rfl rfl ?_
    refine ev_iload_n 3 dX7_checkpoint_16 rfl (x := x3) rfl ?_
    obtain ⟨b8, H⟩ := H
    refine ev_zald dX7_checkpoint_17 rfl b8 ?_
    refine ev_if_eq 27 dX7_checkpoint_18 (by decide) ⟨fun c9 => ?_, fun c9 => ?_⟩
    · have H := H.1 c9
      refine ev_iload_n 2 dX7_checkpoint_27 rfl (x := x2) rfl ?_
      refine ev_istore_n 2 dX7_checkpoint_28 rfl (by decide) ?_
      refine ev_L (L' := [(2, vI x2), (0, vR 27), (3, vI x3)]) rfl ?_
      refine ev_iinc (x := x3) (v := 1) dX7_checkpoint_29 rfl (by decide) (by decide) ?_
      refine ev_L (L' := [(3, vI (x3 + 1)), (2, vI x2), (0, vR 27)]) rfl ?_
      refine ev_goto 6 dX7_checkpoint_32 (by decide) ?_
      exact ev_sub (L' := [(0, vR 27), (2, vI x2), (3, vI (x3 + 1))]) ⟨rfl, rfl, rfl, trivial⟩ H
    · have H := H.2 c9
      refine ev_iload_n 2 dX7_checkpoint_21 rfl (x := x2) rfl ?_
      refine ev_iconst 1 dX7_checkpoint_22 (by decide) ?_
      refine ev_iadd dX7_checkpoint_23 ?_
      refine ev_goto 28 dX7_checkpoint_24 (by decide) ?_
      refine ev_istore_n 2 dX7_checkpoint_28 rfl (by decide) ?_
      refine ev_L (L' := [(2, vI (x2 + 1)), (0, vR 27), (3, vI x3)]) rfl ?_
      refine ev_iinc (x := x3) (v := 1) dX7_checkpoint_29 rfl (by decide) (by decide) ?_
      refine ev_L (L' := [(3, vI (x3 + 1)), (2, vI (x2 + 1)), (0, vR 27)]) rfl ?_
      refine ev_goto 6 dX7_checkpoint_32 (by decide) ?_
      exact ev_sub (L' := [(0, vR 27), (2, vI (x2 + 1)), (3, vI (x3 + 1))]) ⟨rfl, rfl, rfl, trivial⟩ H
set_option maxRecDepth 20000 in
theorem sX7_checkpoint_72 {h : Hp} {Q : Option AV → Hp → Prop} {x3 : Int32} (H : (((20 ≤ x3) → Ev mX7_checkpoint 93 [(0, vR 27), (3, vI 0)] [] h Q) ∧ ((¬ 20 ≤ x3) → (vp_in x3 20 ∧ (∀ h3 : Hp, h3 = sI h 31 (upd (h.1 31) (Int32.toNatClampNeg x3) 0) → Ev mX7_checkpoint 72 [(0, vR 27), (3, vI (x3 + 1))] [] h3 Q))))) : Ev mX7_checkpoint 72 [(0, vR 27), (3, vI x3)] [] h Q := by
  refine ev_iload_n 3 dX7_checkpoint_72 rfl (x := x3) rfl ?_
  refine ev_bipush 20 dX7_checkpoint_73 (by decide) ?_
  refine ev_icmp_ge 91 dX7_checkpoint_75 (by decide) ⟨fun c1 => ?_, fun c1 => ?_⟩
  · have H := H.1 c1
    refine ev_iconst 0 dX7_checkpoint_91 (by decide) ?_
    refine ev_istore_n 3 dX7_checkpoint_92 rfl (by decide) ?_
    refine ev_L (L' := [(3, vI 0), (0, vR 27)]) rfl ?_
    exact ev_sub (L' := [(0, vR 27), (3, vI 0)]) ⟨rfl, rfl, trivial⟩ H
  · have H := H.2 c1
    refine ev_aload_n 0 dX7_checkpoint_78 rfl (x := 27) rfl ?_
    refine ev_getR dX7_checkpoint_79 flX7_24 rfl rfl ?_
    refine ev_iload_n 3 dX7_checkpoint_82 rfl (x := x3) rfl ?_
    refine ev_iconst 0 dX7_checkpoint_83 (by decide) ?_
    obtain ⟨b2, H⟩ := H
    refine ev_zast dX7_checkpoint_84 rfl b2 (by decide) ?_
    obtain ⟨h3, eh3⟩ : ∃ z : Hp, z = sI h 31 (upd (h.1 31) (Int32.toNatClampNeg x3) 0) := ⟨_, rfl⟩
    rw [← eh3]
    have H := H h3 eh3
    refine ev_iinc (x := x3) (v := 1) dX7_checkpoint_85 rfl (by decide) (by decide) ?_
    refine ev_L (L' := [(3, vI (x3 + 1)), (0, vR 27)]) rfl ?_
    refine ev_goto 72 dX7_checkpoint_88 (by decide) ?_
    exact ev_sub (L' := [(0, vR 27), (3, vI (x3 + 1))]) ⟨rfl, rfl, trivial⟩ H
set_option maxRecDepth 20000 in
theorem sX7_checkpoint_93 {h : Hp} {Q : Option AV → Hp → Prop} {x3 : Int32} (H : (((80 ≤ x3) → Q (some (vI 1)) h) ∧ ((¬ 80 ≤ x3) → (vp_in x3 80 ∧ (∀ h3 : Hp, h3 = sI h 42 (upd (h.1 42) (Int32.toNatClampNeg x3) 0) → Ev mX7_checkpoint 93 [(0, vR 27), (3, vI (x3 + 1))] [] h3 Q))))) : Ev mX7_checkpoint 93 [(0, vR 27), (3, vI x3)] [] h Q := by
  refine ev_iload_n 3 dX7_checkpoint_93 rfl (x := x3) rfl ?_
  refine ev_bipush 80 dX7_checkpoint_94 (by decide) ?_
  refine ev_icmp_ge 112 dX7_checkpoint_96 (by decide) ⟨fun c1 => ?_, fun c1 => ?_⟩
  · have H := H.1 c1
    refine ev_iconst 1 dX7_checkpoint_112 (by decide) ?_
    exact ev_zret dX7_checkpoint_113 rfl (by decide) H
  · have H := H.2 c1
    refine ev_aload_n 0 dX7_checkpoint_99 rfl (x := 27) rfl ?_
    refine ev_getR dX7_checkpoint_100 flX7_63 rfl rfl ?_
    refine ev_iload_n 3 dX7_checkpoint_103 rfl (x := x3) rfl ?_
    refine ev_iconst 0 dX7_checkpoint_104 (by decide) ?_
    obtain ⟨b2, H⟩ := H
    refine ev_zast dX7_checkpoint_105 rfl b2 (by decide) ?_
    obtain ⟨h3, eh3⟩ : ∃ z : Hp, z = sI h 42 (upd (h.1 42) (Int32.toNatClampNeg x3) 0) := ⟨_, rfl⟩
    rw [← eh3]
    have H := H h3 eh3
    refine ev_iinc (x := x3) (v := 1) dX7_checkpoint_106 rfl (by decide) (by decide) ?_
    refine ev_L (L' := [(3, vI (x3 + 1)), (0, vR 27)]) rfl ?_
    refine ev_goto 93 dX7_checkpoint_109 (by decide) ?_
    exact ev_sub (L' := [(0, vR 27), (3, vI (x3 + 1))]) ⟨rfl, rfl, trivial⟩ H
set_option maxRecDepth 20000 in
theorem sX7_dirtyNodes {h : Hp} {Q : Option AV → Hp → Prop} (H : Ev mX7_dirtyNodes 4 [(0, vR 27), (1, vI 0), (2, vI 0)] [] h Q) : EvM mX7_dirtyNodes [vR 27] h Q := by
  refine evM_of (by decide) rfl (Nat.le_of_ble_eq_true rfl) ?_
  show Ev mX7_dirtyNodes 0 [(0, vR 27)] [] h Q
  refine ev_iconst 0 dX7_dirtyNodes_0 (by decide) ?_
  refine ev_istore_n 1 dX7_dirtyNodes_1 rfl (by decide) ?_
  refine ev_L (L' := [(1, vI 0), (0, vR 27)]) rfl ?_
  refine ev_iconst 0 dX7_dirtyNodes_2 (by decide) ?_
  refine ev_istore_n 2 dX7_dirtyNodes_3 rfl (by decide) ?_
  refine ev_L (L' := [(2, vI 0), (1, vI 0), (0, vR 27)]) rfl ?_
  exact ev_sub (L' := [(0, vR 27), (1, vI 0), (2, vI 0)]) ⟨rfl, rfl, rfl, trivial⟩ H
set_option maxRecDepth 20000 in
theorem sX7_dirtyNodes_4 {h : Hp} {Q : Option AV → Hp → Prop} {x1 : Int32} {x2 : Int32} (H : (((80 ≤ x2) → Q (some (vI x1)) h) ∧ ((¬ 80 ≤ x2) → (((¬ (h.1 27 11) = 5) → Ev mX7_dirtyNodes 4 [(0, vR 27), (1, vI x1), (2, vI (x2 + 1))] [] h Q) ∧ (((h.1 27 11) = 5) → (vp_in x2 80 ∧ ((((h.1 40 (Int32.toNatClampNeg x2)) = 0) → Ev mX7_dirtyNodes 4 [(0, vR 27), (1, vI x1), (2, vI (x2 + 1))] [] h Q) ∧ ((¬ (h.1 40 (Int32.toNatClampNeg x2)) = 0) → (vp_in x2 80 ∧ ((((h.1 42 (Int32.toNatClampNeg x2)) = 0) → Ev mX7_dirtyNodes 4 [(0, vR 27), (1, vI x1), (2, vI (x2 + 1))] [] h Q) ∧ ((¬ (h.1 42 (Int32.toNatClampNeg x2)) = 0) → Ev mX7_dirtyNodes 4 [(0, vR 27), (1, vI (x1 + 1)), (2, vI (x2 + 1))] [] h Q))))))))))) : Ev mX7_dirtyNodes 4 [(0, vR 27), (1, vI x1), (2, vI x2)] [] h Q := by
  refine ev_iload_n 2 dX7_dirtyNodes_4 rfl (x := x2) rfl ?_
  refine ev_bipush 80 dX7_dirtyNodes_5 (by decide) ?_
  refine ev_icmp_ge 50 dX7_dirtyNodes_7 (by decide) ⟨fun c1 => ?_, fun c1 => ?_⟩
  · have H := H.1 c1
    refine ev_iload_n 1 dX7_dirtyNodes_50 rfl (x := x1) rfl ?_
    exact ev_iret dX7_dirtyNodes_51 rfl H
  · have H := H.2 c1
    refine ev_aload_n 0 dX7_dirtyNodes_10 rfl (x := 27) rfl ?_
    refine ev_getI dX7_dirtyNodes_11 flX7_106 rfl rfl ?_
    refine ev_iconst 5 dX7_dirtyNodes_14 (by decide) ?_
    refine ev_icmp_ne 42 dX7_dirtyNodes_15 (by decide) ⟨fun c2 => ?_, fun c2 => ?_⟩
    · have H := H.1 c2
      refine ev_iload_n 1 dX7_dirtyNodes_42 rfl (x := x1) rfl ?_
      refine ev_istore_n 1 dX7_dirtyNodes_43 rfl (by decide) ?_
      refine ev_L (L' := [(1, vI x1), (0, vR 27), (2, vI x2)]) rfl ?_
      refine ev_iinc (x := x2) (v := 1) dX7_dirtyNodes_44 rfl (by decide) (by decide) ?_
      refine ev_L (L' := [(2, vI (x2 + 1)), (1, vI x1), (0, vR 27)]) rfl ?_
      refine ev_goto 4 dX7_dirtyNodes_47 (by decide) ?_
      exact ev_sub (L' := [(0, vR 27), (1, vI x1), (2, vI (x2 + 1))]) ⟨rfl, rfl, rfl, trivial⟩ H
    · have H := H.2 c2
      refine ev_aload_n 0 dX7_dirtyNodes_18 rfl (x := 27) rfl ?_
      refine ev_getR dX7_dirtyNodes_19 flX7_57 rfl rfl ?_
      refine ev_iload_n 2 dX7_dirtyNodes_22 rfl (x := x2) rfl ?_
      obtain ⟨b3, H⟩ := H
      refine ev_zald dX7_dirtyNodes_23 rfl b3 ?_
      refine ev_if_eq 42 dX7_dirtyNodes_24 (by decide) ⟨fun c4 => ?_, fun c4 => ?_⟩
      · have H := H.1 c4
        refine ev_iload_n 1 dX7_dirtyNodes_42 rfl (x := x1) rfl ?_
        refine ev_istore_n 1 dX7_dirtyNodes_43 rfl (by decide) ?_
        refine ev_L (L' := [(1, vI x1), (0, vR 27), (2, vI x2)]) rfl ?_
        refine ev_iinc (x := x2) (v := 1) dX7_dirtyNodes_44 rfl (by decide) (by decide) ?_
        refine ev_L (L' := [(2, vI (x2 + 1)), (1, vI x1), (0, vR 27)]) rfl ?_
        refine ev_goto 4 dX7_dirtyNodes_47 (by decide) ?_
        exact ev_sub (L' := [(0, vR 27), (1, vI x1), (2, vI (x2 + 1))]) ⟨rfl, rfl, rfl, trivial⟩ H
      · have H := H.2 c4
        refine ev_aload_n 0 dX7_dirtyNodes_27 rfl (x := 27) rfl ?_
        refine ev_getR dX7_dirtyNodes_28 flX7_63 rfl rfl ?_
        refine ev_iload_n 2 dX7_dirtyNodes_31 rfl (x := x2) rfl ?_
        obtain ⟨b5, H⟩ := H
        refine ev_zald dX7_dirtyNodes_32 rfl b5 ?_
        refine ev_if_eq 42 dX7_dirtyNodes_33 (by decide) ⟨fun c6 => ?_, fun c6 => ?_⟩
        · have H := H.1 c6
          refine ev_iload_n 1 dX7_dirtyNodes_42 rfl (x := x1) rfl ?_
          refine ev_istore_n 1 dX7_dirtyNodes_43 rfl (by decide) ?_
          refine ev_L (L' := [(1, vI x1), (0, vR 27), (2, vI x2)]) rfl ?_
          refine ev_iinc (x := x2) (v := 1) dX7_dirtyNodes_44 rfl (by decide) (by decide) ?_
          refine ev_L (L' := [(2, vI (x2 + 1)), (1, vI x1), (0, vR 27)]) rfl ?_
          refine ev_goto 4 dX7_dirtyNodes_47 (by decide) ?_
          exact ev_sub (L' := [(0, vR 27), (1, vI x1), (2, vI (x2 + 1))]) ⟨rfl, rfl, rfl, trivial⟩ H
        · have H := H.2 c6
          refine ev_iload_n 1 dX7_dirtyNodes_36 rfl (x := x1) rfl ?_
          refine ev_iconst 1 dX7_dirtyNodes_37 (by decide) ?_
          refine ev_iadd dX7_dirtyNodes_38 ?_
          refine ev_goto 43 dX7_dirtyNodes_39 (by decide) ?_
          refine ev_istore_n 1 dX7_dirtyNodes_43 rfl (by decide) ?_
          refine ev_L (L' := [(1, vI (x1 + 1)), (0, vR 27), (2, vI x2)]) rfl ?_
          refine ev_iinc (x := x2) (v := 1) dX7_dirtyNodes_44 rfl (by decide) (by decide) ?_
          refine ev_L (L' := [(2, vI (x2 + 1)), (1, vI (x1 + 1)), (0, vR 27)]) rfl ?_
          refine ev_goto 4 dX7_dirtyNodes_47 (by decide) ?_
          exact ev_sub (L' := [(0, vR 27), (1, vI (x1 + 1)), (2, vI (x2 + 1))]) ⟨rfl, rfl, rfl, trivial⟩ H
set_option maxRecDepth 20000 in
theorem sX7_writeDown {h : Hp} {Q : Option AV → Hp → Prop} (H : (((¬ (h.1 27 9) = 30) → Ev mX7_writeDown 22 [(0, vR 27)] [] h Q) ∧ (((h.1 27 9) = 30) → EvM mX7_dirtyNodes [vR 27] h (fun v h2 => ∃ r3 : Int32, v = some (vI r3) ∧ EvM mX7_checkpoint [vR 27, vI r3] h2 (fun v h4 => ∃ r5 : Int32, v = some (vI r5) ∧ (((¬ r5 = 0) → Ev mX7_writeDown 22 [(0, vR 27)] [] h4 Q) ∧ ((r5 = 0) → Q (some (vI 0)) h4))))))) : EvM mX7_writeDown [vR 27] h Q := by
  refine evM_of (by decide) rfl (Nat.le_of_ble_eq_true rfl) ?_
  show Ev mX7_writeDown 0 [(0, vR 27)] [] h Q
  refine ev_aload_n 0 dX7_writeDown_0 rfl (x := 27) rfl ?_
  refine ev_getI dX7_writeDown_1 flX7_126 rfl rfl ?_
  refine ev_bipush 30 dX7_writeDown_4 (by decide) ?_
  refine ev_icmp_ne 22 dX7_writeDown_6 (by decide) ⟨fun c1 => ?_, fun c1 => ?_⟩
  · have H := H.1 c1
    exact ev_sub (L' := [(0, vR 27)]) ⟨rfl, trivial⟩ H
  · have H := H.2 c1
    refine ev_aload_n 0 dX7_writeDown_9 rfl (x := 27) rfl ?_
    refine ev_aload_n 0 dX7_writeDown_10 rfl (x := 27) rfl ?_
    refine ev_callV (As := []) (rest := [vR 27]) dX7_writeDown_11 mlX7_129 rm_mX7_writeDown_mX7_dirtyNodes rfl rfl rfl rfl (Nat.le_of_ble_eq_true rfl) H (fun v h2 H => ?_)
    obtain ⟨r3, rfl, H⟩ := H
    show Ev mX7_writeDown 14 [(0, vR 27)] [vI r3, vR 27] h2 Q
    refine ev_callV (As := [vI r3]) (rest := []) dX7_writeDown_14 mlX7_133 rm_mX7_writeDown_mX7_checkpoint rfl rfl rfl rfl (Nat.le_of_ble_eq_true rfl) H (fun v h4 H => ?_)
    obtain ⟨r5, rfl, H⟩ := H
    show Ev mX7_writeDown 17 [(0, vR 27)] [vI r5] h4 Q
    refine ev_if_ne 22 dX7_writeDown_17 (by decide) ⟨fun c6 => ?_, fun c6 => ?_⟩
    · have H := H.1 c6
      exact ev_sub (L' := [(0, vR 27)]) ⟨rfl, trivial⟩ H
    · have H := H.2 c6
      refine ev_iconst 0 dX7_writeDown_20 (by decide) ?_
      exact ev_zret dX7_writeDown_21 rfl (by decide) H
set_option maxRecDepth 20000 in
theorem sX7_writeDown_22 {h : Hp} {Q : Option AV → Hp → Prop} (H : EvM mX7_block [vR 27] h (fun v h1 => ∃ r2 : Int32, v = some (vI r2) ∧ (((¬ r2 = 0) → (∀ h4 : Hp, h4 = sI h1 27 (upd (h1.1 27) 9 ((h1.1 27 9) + 1)) → Q (some (vI 1)) h4)) ∧ ((r2 = 0) → Q (some (vI 0)) h1)))) : Ev mX7_writeDown 22 [(0, vR 27)] [] h Q := by
  refine ev_aload_n 0 dX7_writeDown_22 rfl (x := 27) rfl ?_
  refine ev_callV (As := []) (rest := []) dX7_writeDown_23 mlX7_112 rm_mX7_writeDown_mX7_block rfl rfl rfl rfl (Nat.le_of_ble_eq_true rfl) H (fun v h1 H => ?_)
  obtain ⟨r2, rfl, H⟩ := H
  show Ev mX7_writeDown 26 [(0, vR 27)] [vI r2] h1 Q
  refine ev_if_ne 31 dX7_writeDown_26 (by decide) ⟨fun c3 => ?_, fun c3 => ?_⟩
  · have H := H.1 c3
    refine ev_aload_n 0 dX7_writeDown_31 rfl (x := 27) rfl ?_
    refine ev_dup dX7_writeDown_32 rfl ?_
    refine ev_getI dX7_writeDown_33 flX7_126 rfl rfl ?_
    refine ev_iconst 1 dX7_writeDown_36 (by decide) ?_
    refine ev_iadd dX7_writeDown_37 ?_
    refine ev_putI dX7_writeDown_38 fpX7_126 rfl rfl   ?_
    obtain ⟨h4, eh4⟩ : ∃ z : Hp, z = sI h1 27 (upd (h1.1 27) 9 ((h1.1 27 9) + 1)) := ⟨_, rfl⟩
    rw [← eh4]
    have H := H h4 eh4
    refine ev_iconst 1 dX7_writeDown_41 (by decide) ?_
    exact ev_zret dX7_writeDown_42 rfl (by decide) H
  · have H := H.2 c3
    refine ev_iconst 0 dX7_writeDown_29 (by decide) ?_
    exact ev_zret dX7_writeDown_30 rfl (by decide) H
set_option maxRecDepth 20000 in
theorem sX7_forget {h : Hp} {Q : Option AV → Hp → Prop} (H : (∀ h1 : Hp, h1 = sI h 27 (upd (h.1 27) 11 0) → (∀ h2 : Hp, h2 = sI h1 27 (upd (h1.1 27) 13 0) → (∀ h3 : Hp, h3 = sI h2 27 (upd (h2.1 27) 14 (-1)) → (∀ h4 : Hp, h4 = sI h3 27 (upd (h3.1 27) 15 (-1)) → (∀ h5 : Hp, h5 = sI h4 27 (upd (h4.1 27) 16 0) → (∀ h6 : Hp, h6 = sI h5 27 (upd (h5.1 27) 17 0) → (∀ h7 : Hp, h7 = sI h6 27 (upd (h6.1 27) 20 0) → (∀ h8 : Hp, h8 = sI h7 27 (upd (h7.1 27) 22 0) → (∀ h9 : Hp, h9 = sI h8 27 (upd (h8.1 27) 33 0) → Ev mX7_forget 47 [(0, vR 27), (1, vI 0)] [] h9 Q)))))))))) : EvM mX7_forget [vR 27] h Q := by
  refine evM_of (by decide) rfl (Nat.le_of_ble_eq_true rfl) ?_
  show Ev mX7_forget 0 [(0, vR 27)] [] h Q
  refine ev_aload_n 0 dX7_forget_0 rfl (x := 27) rfl ?_
  refine ev_iconst 0 dX7_forget_1 (by decide) ?_
  refine ev_putI dX7_forget_2 fpX7_106 rfl rfl   ?_
  obtain ⟨h1, eh1⟩ : ∃ z : Hp, z = sI h 27 (upd (h.1 27) 11 0) := ⟨_, rfl⟩
  rw [← eh1]
  have H := H h1 eh1
  refine ev_aload_n 0 dX7_forget_5 rfl (x := 27) rfl ?_
  refine ev_iconst 0 dX7_forget_6 (by decide) ?_
  refine ev_putI dX7_forget_7 fpX7_136 rfl rfl   ?_
  obtain ⟨h2, eh2⟩ : ∃ z : Hp, z = sI h1 27 (upd (h1.1 27) 13 0) := ⟨_, rfl⟩
  rw [← eh2]
  have H := H h2 eh2
  refine ev_aload_n 0 dX7_forget_10 rfl (x := 27) rfl ?_
  refine ev_iconst (-1) dX7_forget_11 (by decide) ?_
  refine ev_putI dX7_forget_12 fpX7_27 rfl rfl   ?_
  obtain ⟨h3, eh3⟩ : ∃ z : Hp, z = sI h2 27 (upd (h2.1 27) 14 (-1)) := ⟨_, rfl⟩
  rw [← eh3]
  have H := H h3 eh3
  refine ev_aload_n 0 dX7_forget_15 rfl (x := 27) rfl ?_
  refine ev_iconst (-1) dX7_forget_16 (by decide) ?_
  refine ev_putI dX7_forget_17 fpX7_30 rfl rfl   ?_
  obtain ⟨h4, eh4⟩ : ∃ z : Hp, z = sI h3 27 (upd (h3.1 27) 15 (-1)) := ⟨_, rfl⟩
  rw [← eh4]
  have H := H h4 eh4
  refine ev_aload_n 0 dX7_forget_20 rfl (x := 27) rfl ?_
  refine ev_iconst 0 dX7_forget_21 (by decide) ?_
  refine ev_putI dX7_forget_22 fpX7_139 rfl rfl   ?_
  obtain ⟨h5, eh5⟩ : ∃ z : Hp, z = sI h4 27 (upd (h4.1 27) 16 0) := ⟨_, rfl⟩
  rw [← eh5]
  have H := H h5 eh5
  refine ev_aload_n 0 dX7_forget_25 rfl (x := 27) rfl ?_
  refine ev_iconst 0 dX7_forget_26 (by decide) ?_
  refine ev_putI dX7_forget_27 fpX7_142 rfl rfl   ?_
  obtain ⟨h6, eh6⟩ : ∃ z : Hp, z = sI h5 27 (upd (h5.1 27) 17 0) := ⟨_, rfl⟩
  rw [← eh6]
  have H := H h6 eh6
  refine ev_aload_n 0 dX7_forget_30 rfl (x := 27) rfl ?_
  refine ev_iconst 0 dX7_forget_31 (by decide) ?_
  refine ev_putI dX7_forget_32 fpX7_145 rfl rfl   ?_
  obtain ⟨h7, eh7⟩ : ∃ z : Hp, z = sI h6 27 (upd (h6.1 27) 20 0) := ⟨_, rfl⟩
  rw [← eh7]
  have H := H h7 eh7
  refine ev_aload_n 0 dX7_forget_35 rfl (x := 27) rfl ?_
  refine ev_iconst 0 dX7_forget_36 (by decide) ?_
  refine ev_putI dX7_forget_37 fpX7_148 rfl rfl   ?_
  obtain ⟨h8, eh8⟩ : ∃ z : Hp, z = sI h7 27 (upd (h7.1 27) 22 0) := ⟨_, rfl⟩
  rw [← eh8]
  have H := H h8 eh8
  refine ev_aload_n 0 dX7_forget_40 rfl (x := 27) rfl ?_
  refine ev_iconst 0 dX7_forget_41 (by decide) ?_
  refine ev_putI dX7_forget_42 fpX7_151 rfl rfl   ?_
  obtain ⟨h9, eh9⟩ : ∃ z : Hp, z = sI h8 27 (upd (h8.1 27) 33 0) := ⟨_, rfl⟩
  rw [← eh9]
  have H := H h9 eh9
  refine ev_iconst 0 dX7_forget_45 (by decide) ?_
  refine ev_istore_n 1 dX7_forget_46 rfl (by decide) ?_
  refine ev_L (L' := [(1, vI 0), (0, vR 27)]) rfl ?_
  exact ev_sub (L' := [(0, vR 27), (1, vI 0)]) ⟨rfl, rfl, trivial⟩ H
set_option maxRecDepth 20000 in
theorem sX7_forget_47 {h : Hp} {Q : Option AV → Hp → Prop} {x1 : Int32} (H : (((80 ≤ x1) → Q none h) ∧ ((¬ 80 ≤ x1) → (vp_in x1 80 ∧ (∀ h3 : Hp, h3 = sI h 40 (upd (h.1 40) (Int32.toNatClampNeg x1) 0) → (vp_in x1 80 ∧ (∀ h5 : Hp, h5 = sI h3 42 (upd (h3.1 42) (Int32.toNatClampNeg x1) 0) → Ev mX7_forget 47 [(0, vR 27), (1, vI (x1 + 1))] [] h5 Q))))))) : Ev mX7_forget 47 [(0, vR 27), (1, vI x1)] [] h Q := by
  refine ev_iload_n 1 dX7_forget_47 rfl (x := x1) rfl ?_
  refine ev_bipush 80 dX7_forget_48 (by decide) ?_
  refine ev_icmp_ge 73 dX7_forget_50 (by decide) ⟨fun c1 => ?_, fun c1 => ?_⟩
  · have H := H.1 c1
    exact ev_vret dX7_forget_73 rfl H
  · have H := H.2 c1
    refine ev_aload_n 0 dX7_forget_53 rfl (x := 27) rfl ?_
    refine ev_getR dX7_forget_54 flX7_57 rfl rfl ?_
    refine ev_iload_n 1 dX7_forget_57 rfl (x := x1) rfl ?_
    refine ev_iconst 0 dX7_forget_58 (by decide) ?_
    obtain ⟨b2, H⟩ := H
    refine ev_zast dX7_forget_59 rfl b2 (by decide) ?_
    obtain ⟨h3, eh3⟩ : ∃ z : Hp, z = sI h 40 (upd (h.1 40) (Int32.toNatClampNeg x1) 0) := ⟨_, rfl⟩
    rw [← eh3]
    have H := H h3 eh3
    refine ev_aload_n 0 dX7_forget_60 rfl (x := 27) rfl ?_
    refine ev_getR dX7_forget_61 flX7_63 rfl rfl ?_
    refine ev_iload_n 1 dX7_forget_64 rfl (x := x1) rfl ?_
    refine ev_iconst 0 dX7_forget_65 (by decide) ?_
    obtain ⟨b4, H⟩ := H
    refine ev_zast dX7_forget_66 rfl b4 (by decide) ?_
    obtain ⟨h5, eh5⟩ : ∃ z : Hp, z = sI h3 42 (upd (h3.1 42) (Int32.toNatClampNeg x1) 0) := ⟨_, rfl⟩
    rw [← eh5]
    have H := H h5 eh5
    refine ev_iinc (x := x1) (v := 1) dX7_forget_67 rfl (by decide) (by decide) ?_
    refine ev_L (L' := [(1, vI (x1 + 1)), (0, vR 27)]) rfl ?_
    refine ev_goto 47 dX7_forget_70 (by decide) ?_
    exact ev_sub (L' := [(0, vR 27), (1, vI (x1 + 1))]) ⟨rfl, rfl, trivial⟩ H
set_option maxRecDepth 20000 in
theorem sX7_stop {h : Hp} {Q : Option AV → Hp → Prop} {x1 : Int32} (H : EvM mX7_forget [vR 27] h (fun v h1 => v = none ∧ (((h.1 27 12) = 0 ∨ (h.1 27 12) = 1) ∧ (∀ h3 : Hp, h3 = sI h1 27 (upd (h1.1 27) 12 (h.1 27 12)) → (∀ h4 : Hp, h4 = sI h3 27 (upd (h3.1 27) 11 6) → (∀ h5 : Hp, h5 = sI h4 27 (upd (h4.1 27) 13 x1) → Q none h5)))))) : EvM mX7_stop [vR 27, vI x1] h Q := by
  refine evM_of (by decide) rfl (Nat.le_of_ble_eq_true rfl) ?_
  show Ev mX7_stop 0 [(0, vR 27), (1, vI x1)] [] h Q
  refine ev_aload_n 0 dX7_stop_0 rfl (x := 27) rfl ?_
  refine ev_getI dX7_stop_1 flX7_154 rfl rfl ?_
  refine ev_istore_n 2 dX7_stop_4 rfl (by decide) ?_
  refine ev_L (L' := [(2, vI (h.1 27 12)), (0, vR 27), (1, vI x1)]) rfl ?_
  refine ev_aload_n 0 dX7_stop_5 rfl (x := 27) rfl ?_
  refine ev_callV (As := []) (rest := []) dX7_stop_6 mlX7_109 rm_mX7_stop_mX7_forget rfl rfl rfl rfl (Nat.le_of_ble_eq_true rfl) H (fun v h1 H => ?_)
  obtain ⟨rfl, H⟩ := H
  show Ev mX7_stop 9 [(2, vI (h.1 27 12)), (0, vR 27), (1, vI x1)] [] h1 Q
  refine ev_aload_n 0 dX7_stop_9 rfl (x := 27) rfl ?_
  refine ev_iload_n 2 dX7_stop_10 rfl (x := (h.1 27 12)) rfl ?_
  obtain ⟨z2, H⟩ := H
  refine ev_putZ dX7_stop_11 fpX7_154 rfl rfl  z2 ?_
  obtain ⟨h3, eh3⟩ : ∃ z : Hp, z = sI h1 27 (upd (h1.1 27) 12 (h.1 27 12)) := ⟨_, rfl⟩
  rw [← eh3]
  have H := H h3 eh3
  refine ev_aload_n 0 dX7_stop_14 rfl (x := 27) rfl ?_
  refine ev_bipush 6 dX7_stop_15 (by decide) ?_
  refine ev_putI dX7_stop_17 fpX7_106 rfl rfl   ?_
  obtain ⟨h4, eh4⟩ : ∃ z : Hp, z = sI h3 27 (upd (h3.1 27) 11 6) := ⟨_, rfl⟩
  rw [← eh4]
  have H := H h4 eh4
  refine ev_aload_n 0 dX7_stop_20 rfl (x := 27) rfl ?_
  refine ev_iload_n 1 dX7_stop_21 rfl (x := x1) rfl ?_
  refine ev_putI dX7_stop_22 fpX7_136 rfl rfl   ?_
  obtain ⟨h5, eh5⟩ : ∃ z : Hp, z = sI h4 27 (upd (h4.1 27) 13 x1) := ⟨_, rfl⟩
  rw [← eh5]
  have H := H h5 eh5
  exact ev_vret dX7_stop_25 rfl H
set_option maxRecDepth 20000 in
theorem sX7_newNode {h : Hp} {Q : Option AV → Hp → Prop} {x1 : Int32} (H : Ev mX7_newNode 2 [(0, vR 27), (1, vI x1), (2, vI 0)] [] h Q) : EvM mX7_newNode [vR 27, vI x1] h Q := by
  refine evM_of (by decide) rfl (Nat.le_of_ble_eq_true rfl) ?_
  show Ev mX7_newNode 0 [(0, vR 27), (1, vI x1)] [] h Q
  refine ev_iconst 0 dX7_newNode_0 (by decide) ?_
  refine ev_istore_n 2 dX7_newNode_1 rfl (by decide) ?_
  refine ev_L (L' := [(2, vI 0), (0, vR 27), (1, vI x1)]) rfl ?_
  exact ev_sub (L' := [(0, vR 27), (1, vI x1), (2, vI 0)]) ⟨rfl, rfl, rfl, trivial⟩ H
set_option maxRecDepth 20000 in
theorem sX7_newNode_2 {h : Hp} {Q : Option AV → Hp → Prop} {x1 : Int32} {x2 : Int32} (H : (vp_in x2 80 ∧ ((((h.1 40 (Int32.toNatClampNeg x2)) = 0) → (vp_in x2 80 ∧ (∀ h4 : Hp, h4 = sI h 40 (upd (h.1 40) (Int32.toNatClampNeg x2) 1) → (vp_in x2 80 ∧ ((x1 = 0 ∨ x1 = 1) ∧ (∀ h7 : Hp, h7 = sI h4 41 (upd (h4.1 41) (Int32.toNatClampNeg x2) x1) → (vp_in x2 80 ∧ (∀ h9 : Hp, h9 = sI h7 42 (upd (h7.1 42) (Int32.toNatClampNeg x2) 1) → (vp_in x2 80 ∧ (∀ h11 : Hp, h11 = sI h9 43 (upd (h9.1 43) (Int32.toNatClampNeg x2) 0) → (∀ h12 : Hp, h12 = sI h11 27 (upd (h11.1 27) 33 ((h11.1 27 33) + 1)) → Q (some (vI x2)) h12))))))))))) ∧ ((¬ (h.1 40 (Int32.toNatClampNeg x2)) = 0) → Ev mX7_newNode 2 [(0, vR 27), (1, vI x1), (2, vI (x2 + 1))] [] h Q)))) : Ev mX7_newNode 2 [(0, vR 27), (1, vI x1), (2, vI x2)] [] h Q := by
  refine ev_aload_n 0 dX7_newNode_2 rfl (x := 27) rfl ?_
  refine ev_getR dX7_newNode_3 flX7_57 rfl rfl ?_
  refine ev_iload_n 2 dX7_newNode_6 rfl (x := x2) rfl ?_
  obtain ⟨b1, H⟩ := H
  refine ev_zald dX7_newNode_7 rfl b1 ?_
  refine ev_if_eq 17 dX7_newNode_8 (by decide) ⟨fun c2 => ?_, fun c2 => ?_⟩
  · have H := H.1 c2
    refine ev_aload_n 0 dX7_newNode_17 rfl (x := 27) rfl ?_
    refine ev_getR dX7_newNode_18 flX7_57 rfl rfl ?_
    refine ev_iload_n 2 dX7_newNode_21 rfl (x := x2) rfl ?_
    refine ev_iconst 1 dX7_newNode_22 (by decide) ?_
    obtain ⟨b3, H⟩ := H
    refine ev_zast dX7_newNode_23 rfl b3 (by decide) ?_
    obtain ⟨h4, eh4⟩ : ∃ z : Hp, z = sI h 40 (upd (h.1 40) (Int32.toNatClampNeg x2) 1) := ⟨_, rfl⟩
    rw [← eh4]
    have H := H h4 eh4
    refine ev_aload_n 0 dX7_newNode_24 rfl (x := 27) rfl ?_
    refine ev_getR dX7_newNode_25 flX7_60 rfl rfl ?_
    refine ev_iload_n 2 dX7_newNode_28 rfl (x := x2) rfl ?_
    refine ev_iload_n 1 dX7_newNode_29 rfl (x := x1) rfl ?_
    obtain ⟨b5, H⟩ := H
    obtain ⟨z6, H⟩ := H
    refine ev_zast dX7_newNode_30 rfl b5 z6 ?_
    obtain ⟨h7, eh7⟩ : ∃ z : Hp, z = sI h4 41 (upd (h4.1 41) (Int32.toNatClampNeg x2) x1) := ⟨_, rfl⟩
    rw [← eh7]
    have H := H h7 eh7
    refine ev_aload_n 0 dX7_newNode_31 rfl (x := 27) rfl ?_
    refine ev_getR dX7_newNode_32 flX7_63 rfl rfl ?_
    refine ev_iload_n 2 dX7_newNode_35 rfl (x := x2) rfl ?_
    refine ev_iconst 1 dX7_newNode_36 (by decide) ?_
    obtain ⟨b8, H⟩ := H
    refine ev_zast dX7_newNode_37 rfl b8 (by decide) ?_
    obtain ⟨h9, eh9⟩ : ∃ z : Hp, z = sI h7 42 (upd (h7.1 42) (Int32.toNatClampNeg x2) 1) := ⟨_, rfl⟩
    rw [← eh9]
    have H := H h9 eh9
    refine ev_aload_n 0 dX7_newNode_38 rfl (x := 27) rfl ?_
    refine ev_getR dX7_newNode_39 flX7_66 rfl rfl ?_
    refine ev_iload_n 2 dX7_newNode_42 rfl (x := x2) rfl ?_
    refine ev_iconst 0 dX7_newNode_43 (by decide) ?_
    obtain ⟨b10, H⟩ := H
    refine ev_iast dX7_newNode_44 rfl b10  ?_
    obtain ⟨h11, eh11⟩ : ∃ z : Hp, z = sI h9 43 (upd (h9.1 43) (Int32.toNatClampNeg x2) 0) := ⟨_, rfl⟩
    rw [← eh11]
    have H := H h11 eh11
    refine ev_aload_n 0 dX7_newNode_45 rfl (x := 27) rfl ?_
    refine ev_dup dX7_newNode_46 rfl ?_
    refine ev_getI dX7_newNode_47 flX7_151 rfl rfl ?_
    refine ev_iconst 1 dX7_newNode_50 (by decide) ?_
    refine ev_iadd dX7_newNode_51 ?_
    refine ev_putI dX7_newNode_52 fpX7_151 rfl rfl   ?_
    obtain ⟨h12, eh12⟩ : ∃ z : Hp, z = sI h11 27 (upd (h11.1 27) 33 ((h11.1 27 33) + 1)) := ⟨_, rfl⟩
    rw [← eh12]
    have H := H h12 eh12
    refine ev_iload_n 2 dX7_newNode_55 rfl (x := x2) rfl ?_
    exact ev_iret dX7_newNode_56 rfl H
  · have H := H.2 c2
    refine ev_iinc (x := x2) (v := 1) dX7_newNode_11 rfl (by decide) (by decide) ?_
    refine ev_L (L' := [(2, vI (x2 + 1)), (0, vR 27), (1, vI x1)]) rfl ?_
    refine ev_goto 2 dX7_newNode_14 (by decide) ?_
    exact ev_sub (L' := [(0, vR 27), (1, vI x1), (2, vI (x2 + 1))]) ⟨rfl, rfl, rfl, trivial⟩ H
set_option maxRecDepth 20000 in
theorem sX7_giveBack {h : Hp} {Q : Option AV → Hp → Prop} {x1 : Int32} (H : (vp_in x1 80 ∧ (∀ h2 : Hp, h2 = sI h 40 (upd (h.1 40) (Int32.toNatClampNeg x1) 0) → (vp_in x1 80 ∧ (∀ h4 : Hp, h4 = sI h2 42 (upd (h2.1 42) (Int32.toNatClampNeg x1) 0) → (∀ h5 : Hp, h5 = sI h4 27 (upd (h4.1 27) 33 ((h4.1 27 33) - 1)) → Q none h5)))))) : EvM mX7_giveBack [vR 27, vI x1] h Q := by
  refine evM_of (by decide) rfl (Nat.le_of_ble_eq_true rfl) ?_
  show Ev mX7_giveBack 0 [(0, vR 27), (1, vI x1)] [] h Q
  refine ev_aload_n 0 dX7_giveBack_0 rfl (x := 27) rfl ?_
  refine ev_getR dX7_giveBack_1 flX7_57 rfl rfl ?_
  refine ev_iload_n 1 dX7_giveBack_4 rfl (x := x1) rfl ?_
  refine ev_iconst 0 dX7_giveBack_5 (by decide) ?_
  obtain ⟨b1, H⟩ := H
  refine ev_zast dX7_giveBack_6 rfl b1 (by decide) ?_
  obtain ⟨h2, eh2⟩ : ∃ z : Hp, z = sI h 40 (upd (h.1 40) (Int32.toNatClampNeg x1) 0) := ⟨_, rfl⟩
  rw [← eh2]
  have H := H h2 eh2
  refine ev_aload_n 0 dX7_giveBack_7 rfl (x := 27) rfl ?_
  refine ev_getR dX7_giveBack_8 flX7_63 rfl rfl ?_
  refine ev_iload_n 1 dX7_giveBack_11 rfl (x := x1) rfl ?_
  refine ev_iconst 0 dX7_giveBack_12 (by decide) ?_
  obtain ⟨b3, H⟩ := H
  refine ev_zast dX7_giveBack_13 rfl b3 (by decide) ?_
  obtain ⟨h4, eh4⟩ : ∃ z : Hp, z = sI h2 42 (upd (h2.1 42) (Int32.toNatClampNeg x1) 0) := ⟨_, rfl⟩
  rw [← eh4]
  have H := H h4 eh4
  refine ev_aload_n 0 dX7_giveBack_14 rfl (x := 27) rfl ?_
  refine ev_dup dX7_giveBack_15 rfl ?_
  refine ev_getI dX7_giveBack_16 flX7_151 rfl rfl ?_
  refine ev_iconst 1 dX7_giveBack_19 (by decide) ?_
  refine ev_isub dX7_giveBack_20 ?_
  refine ev_putI dX7_giveBack_21 fpX7_151 rfl rfl   ?_
  obtain ⟨h5, eh5⟩ : ∃ z : Hp, z = sI h4 27 (upd (h4.1 27) 33 ((h4.1 27 33) - 1)) := ⟨_, rfl⟩
  rw [← eh5]
  have H := H h5 eh5
  exact ev_vret dX7_giveBack_24 rfl H
set_option maxRecDepth 20000 in
theorem sX7_isBefore {h : Hp} {Q : Option AV → Hp → Prop} {x0 : Int32} {x1 : Int32} {x2 : Int32} {x3 : Int32} (H : (((x0 < x2) → Q (some (vI 1)) h) ∧ ((¬ x0 < x2) → (((¬ x0 = x2) → Q (some (vI 0)) h) ∧ ((x0 = x2) → (((x3 ≤ x1) → Q (some (vI 0)) h) ∧ ((¬ x3 ≤ x1) → Q (some (vI 1)) h))))))) : EvM mX7_isBefore [vI x0, vI x1, vI x2, vI x3] h Q := by
  refine evM_of (by decide) rfl (Nat.le_of_ble_eq_true rfl) ?_
  show Ev mX7_isBefore 0 [(0, vI x0), (1, vI x1), (2, vI x2), (3, vI x3)] [] h Q
  refine ev_iload_n 0 dX7_isBefore_0 rfl (x := x0) rfl ?_
  refine ev_iload_n 2 dX7_isBefore_1 rfl (x := x2) rfl ?_
  refine ev_icmp_lt 15 dX7_isBefore_2 (by decide) ⟨fun c1 => ?_, fun c1 => ?_⟩
  · have H := H.1 c1
    refine ev_iconst 1 dX7_isBefore_15 (by decide) ?_
    refine ev_goto 20 dX7_isBefore_16 (by decide) ?_
    exact ev_zret dX7_isBefore_20 rfl (by decide) H
  · have H := H.2 c1
    refine ev_iload_n 0 dX7_isBefore_5 rfl (x := x0) rfl ?_
    refine ev_iload_n 2 dX7_isBefore_6 rfl (x := x2) rfl ?_
    refine ev_icmp_ne 19 dX7_isBefore_7 (by decide) ⟨fun c2 => ?_, fun c2 => ?_⟩
    · have H := H.1 c2
      refine ev_iconst 0 dX7_isBefore_19 (by decide) ?_
      exact ev_zret dX7_isBefore_20 rfl (by decide) H
    · have H := H.2 c2
      refine ev_iload_n 1 dX7_isBefore_10 rfl (x := x1) rfl ?_
      refine ev_iload_n 3 dX7_isBefore_11 rfl (x := x3) rfl ?_
      refine ev_icmp_ge 19 dX7_isBefore_12 (by decide) ⟨fun c3 => ?_, fun c3 => ?_⟩
      · have H := H.1 c3
        refine ev_iconst 0 dX7_isBefore_19 (by decide) ?_
        exact ev_zret dX7_isBefore_20 rfl (by decide) H
      · have H := H.2 c3
        refine ev_iconst 1 dX7_isBefore_15 (by decide) ?_
        refine ev_goto 20 dX7_isBefore_16 (by decide) ?_
        exact ev_zret dX7_isBefore_20 rfl (by decide) H
set_option maxRecDepth 20000 in
theorem sX7_firstLeaf {h : Hp} {Q : Option AV → Hp → Prop} {x1 : Int32} (H : Ev mX7_firstLeaf 2 [(0, vR 27), (2, vI x1)] [] h Q) : EvM mX7_firstLeaf [vR 27, vI x1] h Q := by
  refine evM_of (by decide) rfl (Nat.le_of_ble_eq_true rfl) ?_
  show Ev mX7_firstLeaf 0 [(0, vR 27), (1, vI x1)] [] h Q
  refine ev_iload_n 1 dX7_firstLeaf_0 rfl (x := x1) rfl ?_
  refine ev_istore_n 2 dX7_firstLeaf_1 rfl (by decide) ?_
  refine ev_L (L' := [(2, vI x1), (0, vR 27), (1, vI x1)]) rfl ?_
  exact ev_sub (L' := [(0, vR 27), (2, vI x1)]) ⟨rfl, rfl, trivial⟩ H
set_option maxRecDepth 20000 in
theorem sX7_firstLeaf_2 {h : Hp} {Q : Option AV → Hp → Prop} {x2 : Int32} (H : (vp_in x2 80 ∧ (((¬ (h.1 41 (Int32.toNatClampNeg x2)) = 0) → Q (some (vI x2)) h) ∧ (((h.1 41 (Int32.toNatClampNeg x2)) = 0) → (vp_in (9 * x2) 720 ∧ Ev mX7_firstLeaf 2 [(0, vR 27), (2, vI (h.1 46 (Int32.toNatClampNeg (9 * x2))))] [] h Q))))) : Ev mX7_firstLeaf 2 [(0, vR 27), (2, vI x2)] [] h Q := by
  refine ev_aload_n 0 dX7_firstLeaf_2 rfl (x := 27) rfl ?_
  refine ev_getR dX7_firstLeaf_3 flX7_60 rfl rfl ?_
  refine ev_iload_n 2 dX7_firstLeaf_6 rfl (x := x2) rfl ?_
  obtain ⟨b1, H⟩ := H
  refine ev_zald dX7_firstLeaf_7 rfl b1 ?_
  refine ev_if_ne 24 dX7_firstLeaf_8 (by decide) ⟨fun c2 => ?_, fun c2 => ?_⟩
  · have H := H.1 c2
    refine ev_iload_n 2 dX7_firstLeaf_24 rfl (x := x2) rfl ?_
    exact ev_iret dX7_firstLeaf_25 rfl H
  · have H := H.2 c2
    refine ev_aload_n 0 dX7_firstLeaf_11 rfl (x := 27) rfl ?_
    refine ev_getR dX7_firstLeaf_12 flX7_75 rfl rfl ?_
    refine ev_bipush 9 dX7_firstLeaf_15 (by decide) ?_
    refine ev_iload_n 2 dX7_firstLeaf_17 rfl (x := x2) rfl ?_
    refine ev_imul dX7_firstLeaf_18 ?_
    obtain ⟨b3, H⟩ := H
    refine ev_iald dX7_firstLeaf_19 rfl b3 ?_
    refine ev_istore_n 2 dX7_firstLeaf_20 rfl (by decide) ?_
    refine ev_L (L' := [(2, vI (h.1 46 (Int32.toNatClampNeg (9 * x2)))), (0, vR 27)]) rfl ?_
    refine ev_goto 2 dX7_firstLeaf_21 (by decide) ?_
    exact ev_sub (L' := [(0, vR 27), (2, vI (h.1 46 (Int32.toNatClampNeg (9 * x2))))]) ⟨rfl, rfl, trivial⟩ H
set_option maxRecDepth 20000 in
theorem sX7_descend {h : Hp} {Q : Option AV → Hp → Prop} {x1 : Int32} {x2 : Int32} (H : (∀ h1 : Hp, h1 = sI h 27 (upd (h.1 27) 45 0) → Ev mX7_descend 10 [(0, vR 27), (1, vI x1), (2, vI x2), (3, vI (h1.1 27 34))] [] h1 Q)) : EvM mX7_descend [vR 27, vI x1, vI x2] h Q := by
  refine evM_of (by decide) rfl (Nat.le_of_ble_eq_true rfl) ?_
  show Ev mX7_descend 0 [(0, vR 27), (1, vI x1), (2, vI x2)] [] h Q
  refine ev_aload_n 0 dX7_descend_0 rfl (x := 27) rfl ?_
  refine ev_iconst 0 dX7_descend_1 (by decide) ?_
  refine ev_putI dX7_descend_2 fpX7_157 rfl rfl   ?_
  obtain ⟨h1, eh1⟩ : ∃ z : Hp, z = sI h 27 (upd (h.1 27) 45 0) := ⟨_, rfl⟩
  rw [← eh1]
  have H := H h1 eh1
  refine ev_aload_n 0 dX7_descend_5 rfl (x := 27) rfl ?_
  refine ev_getI dX7_descend_6 flX7_160 rfl rfl ?_
  refine ev_istore_n 3 dX7_descend_9 rfl (by decide) ?_
  refine ev_L (L' := [(3, vI (h1.1 27 34)), (0, vR 27), (1, vI x1), (2, vI x2)]) rfl ?_
  exact ev_sub (L' := [(0, vR 27), (1, vI x1), (2, vI x2), (3, vI (h1.1 27 34))]) ⟨rfl, rfl, rfl, rfl, trivial⟩ H
set_option maxRecDepth 20000 in
theorem sX7_descend_10 {h : Hp} {Q : Option AV → Hp → Prop} {x1 : Int32} {x2 : Int32} {x3 : Int32} (H : (vp_in x3 80 ∧ (((¬ (h.1 41 (Int32.toNatClampNeg x3)) = 0) → (vp_in (h.1 27 45) 16 ∧ (∀ h4 : Hp, h4 = sI h 48 (upd (h.1 48) (Int32.toNatClampNeg (h.1 27 45)) x3) → (vp_in (h4.1 27 45) 16 ∧ (∀ h6 : Hp, h6 = sI h4 49 (upd (h4.1 49) (Int32.toNatClampNeg (h4.1 27 45)) 0) → Q none h6))))) ∧ (((h.1 41 (Int32.toNatClampNeg x3)) = 0) → Ev mX7_descend 25 [(0, vR 27), (1, vI x1), (2, vI x2), (3, vI x3), (4, vI 0), (5, vI 1)] [] h Q)))) : Ev mX7_descend 10 [(0, vR 27), (1, vI x1), (2, vI x2), (3, vI x3)] [] h Q := by
  refine ev_aload_n 0 dX7_descend_10 rfl (x := 27) rfl ?_
  refine ev_getR dX7_descend_11 flX7_60 rfl rfl ?_
  refine ev_iload_n 3 dX7_descend_14 rfl (x := x3) rfl ?_
  obtain ⟨b1, H⟩ := H
  refine ev_zald dX7_descend_15 rfl b1 ?_
  refine ev_if_ne 144 dX7_descend_16 (by decide) ⟨fun c2 => ?_, fun c2 => ?_⟩
  · have H := H.1 c2
    refine ev_aload_n 0 dX7_descend_144 rfl (x := 27) rfl ?_
    refine ev_getR dX7_descend_145 flX7_81 rfl rfl ?_
    refine ev_aload_n 0 dX7_descend_148 rfl (x := 27) rfl ?_
    refine ev_getI dX7_descend_149 flX7_157 rfl rfl ?_
    refine ev_iload_n 3 dX7_descend_152 rfl (x := x3) rfl ?_
    obtain ⟨b3, H⟩ := H
    refine ev_iast dX7_descend_153 rfl b3  ?_
    obtain ⟨h4, eh4⟩ : ∃ z : Hp, z = sI h 48 (upd (h.1 48) (Int32.toNatClampNeg (h.1 27 45)) x3) := ⟨_, rfl⟩
    rw [← eh4]
    have H := H h4 eh4
    refine ev_aload_n 0 dX7_descend_154 rfl (x := 27) rfl ?_
    refine ev_getR dX7_descend_155 flX7_84 rfl rfl ?_
    refine ev_aload_n 0 dX7_descend_158 rfl (x := 27) rfl ?_
    refine ev_getI dX7_descend_159 flX7_157 rfl rfl ?_
    refine ev_iconst 0 dX7_descend_162 (by decide) ?_
    obtain ⟨b5, H⟩ := H
    refine ev_iast dX7_descend_163 rfl b5  ?_
    obtain ⟨h6, eh6⟩ : ∃ z : Hp, z = sI h4 49 (upd (h4.1 49) (Int32.toNatClampNeg (h4.1 27 45)) 0) := ⟨_, rfl⟩
    rw [← eh6]
    have H := H h6 eh6
    exact ev_vret dX7_descend_164 rfl H
  · have H := H.2 c2
    refine ev_iconst 0 dX7_descend_19 (by decide) ?_
    refine ev_istore dX7_descend_20 (by decide) ?_
    refine ev_L (L' := [(4, vI 0), (0, vR 27), (1, vI x1), (2, vI x2), (3, vI x3)]) rfl ?_
    refine ev_iconst 1 dX7_descend_22 (by decide) ?_
    refine ev_istore dX7_descend_23 (by decide) ?_
    refine ev_L (L' := [(5, vI 1), (4, vI 0), (0, vR 27), (1, vI x1), (2, vI x2), (3, vI x3)]) rfl ?_
    exact ev_sub (L' := [(0, vR 27), (1, vI x1), (2, vI x2), (3, vI x3), (4, vI 0), (5, vI 1)]) ⟨rfl, rfl, rfl, rfl, rfl, rfl, trivial⟩ H
set_option maxRecDepth 20000 in
theorem sX7_descend_25 {h : Hp} {Q : Option AV → Hp → Prop} {x1 : Int32} {x2 : Int32} {x3 : Int32} {x4 : Int32} {x5 : Int32} (H : (vp_in x3 80 ∧ ((((h.1 43 (Int32.toNatClampNeg x3)) ≤ x5) → (vp_in (h.1 27 45) 16 ∧ (∀ h4 : Hp, h4 = sI h 48 (upd (h.1 48) (Int32.toNatClampNeg (h.1 27 45)) x3) → (vp_in (h4.1 27 45) 16 ∧ (∀ h6 : Hp, h6 = sI h4 49 (upd (h4.1 49) (Int32.toNatClampNeg (h4.1 27 45)) x4) → (∀ h7 : Hp, h7 = sI h6 27 (upd (h6.1 27) 45 ((h6.1 27 45) + 1)) → (vp_in ((9 * x3) + x4) 720 ∧ Ev mX7_descend 10 [(0, vR 27), (1, vI x1), (2, vI x2), (3, vI (h7.1 46 (Int32.toNatClampNeg ((9 * x3) + x4))))] [] h7 Q))))))) ∧ ((¬ (h.1 43 (Int32.toNatClampNeg x3)) ≤ x5) → (vp_in ((9 * x3) + x5) 720 ∧ EvM mX7_firstLeaf [vR 27, vI (h.1 46 (Int32.toNatClampNeg ((9 * x3) + x5)))] h (fun v h10 => ∃ r11 : Int32, v = some (vI r11) ∧ (vp_in (9 * r11) 720 ∧ (vp_in (9 * r11) 720 ∧ EvM mX7_isBefore [vI x1, vI x2, vI (h10.1 44 (Int32.toNatClampNeg (9 * r11))), vI (h10.1 45 (Int32.toNatClampNeg (9 * r11)))] h10 (fun v h14 => ∃ r15 : Int32, v = some (vI r15) ∧ (((r15 = 0) → Ev mX7_descend 25 [(0, vR 27), (1, vI x1), (2, vI x2), (3, vI x3), (4, vI x5), (5, vI (x5 + 1))] [] h14 Q) ∧ ((¬ r15 = 0) → Ev mX7_descend 25 [(0, vR 27), (1, vI x1), (2, vI x2), (3, vI x3), (4, vI x4), (5, vI (x5 + 1))] [] h14 Q))))))))))) : Ev mX7_descend 25 [(0, vR 27), (1, vI x1), (2, vI x2), (3, vI x3), (4, vI x4), (5, vI x5)] [] h Q := by
  refine ev_iload dX7_descend_25 (x := x5) rfl ?_
  refine ev_aload_n 0 dX7_descend_27 rfl (x := 27) rfl ?_
  refine ev_getR dX7_descend_28 flX7_66 rfl rfl ?_
  refine ev_iload_n 3 dX7_descend_31 rfl (x := x3) rfl ?_
  obtain ⟨b1, H⟩ := H
  refine ev_iald dX7_descend_32 rfl b1 ?_
  refine ev_icmp_ge 97 dX7_descend_33 (by decide) ⟨fun c2 => ?_, fun c2 => ?_⟩
  · have H := H.1 c2
    refine ev_aload_n 0 dX7_descend_97 rfl (x := 27) rfl ?_
    refine ev_getR dX7_descend_98 flX7_81 rfl rfl ?_
    refine ev_aload_n 0 dX7_descend_101 rfl (x := 27) rfl ?_
    refine ev_getI dX7_descend_102 flX7_157 rfl rfl ?_
    refine ev_iload_n 3 dX7_descend_105 rfl (x := x3) rfl ?_
    obtain ⟨b3, H⟩ := H
    refine ev_iast dX7_descend_106 rfl b3  ?_
    obtain ⟨h4, eh4⟩ : ∃ z : Hp, z = sI h 48 (upd (h.1 48) (Int32.toNatClampNeg (h.1 27 45)) x3) := ⟨_, rfl⟩
    rw [← eh4]
    have H := H h4 eh4
    refine ev_aload_n 0 dX7_descend_107 rfl (x := 27) rfl ?_
    refine ev_getR dX7_descend_108 flX7_84 rfl rfl ?_
    refine ev_aload_n 0 dX7_descend_111 rfl (x := 27) rfl ?_
    refine ev_getI dX7_descend_112 flX7_157 rfl rfl ?_
    refine ev_iload dX7_descend_115 (x := x4) rfl ?_
    obtain ⟨b5, H⟩ := H
    refine ev_iast dX7_descend_117 rfl b5  ?_
    obtain ⟨h6, eh6⟩ : ∃ z : Hp, z = sI h4 49 (upd (h4.1 49) (Int32.toNatClampNeg (h4.1 27 45)) x4) := ⟨_, rfl⟩
    rw [← eh6]
    have H := H h6 eh6
    refine ev_aload_n 0 dX7_descend_118 rfl (x := 27) rfl ?_
    refine ev_dup dX7_descend_119 rfl ?_
    refine ev_getI dX7_descend_120 flX7_157 rfl rfl ?_
    refine ev_iconst 1 dX7_descend_123 (by decide) ?_
    refine ev_iadd dX7_descend_124 ?_
    refine ev_putI dX7_descend_125 fpX7_157 rfl rfl   ?_
    obtain ⟨h7, eh7⟩ : ∃ z : Hp, z = sI h6 27 (upd (h6.1 27) 45 ((h6.1 27 45) + 1)) := ⟨_, rfl⟩
    rw [← eh7]
    have H := H h7 eh7
    refine ev_aload_n 0 dX7_descend_128 rfl (x := 27) rfl ?_
    refine ev_getR dX7_descend_129 flX7_75 rfl rfl ?_
    refine ev_bipush 9 dX7_descend_132 (by decide) ?_
    refine ev_iload_n 3 dX7_descend_134 rfl (x := x3) rfl ?_
    refine ev_imul dX7_descend_135 ?_
    refine ev_iload dX7_descend_136 (x := x4) rfl ?_
    refine ev_iadd dX7_descend_138 ?_
    obtain ⟨b8, H⟩ := H
    refine ev_iald dX7_descend_139 rfl b8 ?_
    refine ev_istore_n 3 dX7_descend_140 rfl (by decide) ?_
    refine ev_L (L' := [(3, vI (h7.1 46 (Int32.toNatClampNeg ((9 * x3) + x4)))), (0, vR 27), (1, vI x1), (2, vI x2), (4, vI x4), (5, vI x5)]) rfl ?_
    refine ev_goto 10 dX7_descend_141 (by decide) ?_
    exact ev_sub (L' := [(0, vR 27), (1, vI x1), (2, vI x2), (3, vI (h7.1 46 (Int32.toNatClampNeg ((9 * x3) + x4))))]) ⟨rfl, rfl, rfl, rfl, trivial⟩ H
  · have H := H.2 c2
    refine ev_aload_n 0 dX7_descend_36 rfl (x := 27) rfl ?_
    refine ev_aload_n 0 dX7_descend_37 rfl (x := 27) rfl ?_
    refine ev_getR dX7_descend_38 flX7_75 rfl rfl ?_
    refine ev_bipush 9 dX7_descend_41 (by decide) ?_
    refine ev_iload_n 3 dX7_descend_43 rfl (x := x3) rfl ?_
    refine ev_imul dX7_descend_44 ?_
    refine ev_iload dX7_descend_45 (x := x5) rfl ?_
    refine ev_iadd dX7_descend_47 ?_
    obtain ⟨b9, H⟩ := H
    refine ev_iald dX7_descend_48 rfl b9 ?_
    refine ev_callV (As := [vI (h.1 46 (Int32.toNatClampNeg ((9 * x3) + x5)))]) (rest := []) dX7_descend_49 mlX7_163 rm_mX7_descend_mX7_firstLeaf rfl rfl rfl rfl (Nat.le_of_ble_eq_true rfl) H (fun v h10 H => ?_)
    obtain ⟨r11, rfl, H⟩ := H
    show Ev mX7_descend 52 [(0, vR 27), (1, vI x1), (2, vI x2), (3, vI x3), (4, vI x4), (5, vI x5)] [vI r11] h10 Q
    refine ev_istore dX7_descend_52 (by decide) ?_
    refine ev_L (L' := [(6, vI r11), (0, vR 27), (1, vI x1), (2, vI x2), (3, vI x3), (4, vI x4), (5, vI x5)]) rfl ?_
    refine ev_iload_n 1 dX7_descend_54 rfl (x := x1) rfl ?_
    refine ev_iload_n 2 dX7_descend_55 rfl (x := x2) rfl ?_
    refine ev_aload_n 0 dX7_descend_56 rfl (x := 27) rfl ?_
    refine ev_getR dX7_descend_57 flX7_69 rfl rfl ?_
    refine ev_bipush 9 dX7_descend_60 (by decide) ?_
    refine ev_iload dX7_descend_62 (x := r11) rfl ?_
    refine ev_imul dX7_descend_64 ?_
    obtain ⟨b12, H⟩ := H
    refine ev_iald dX7_descend_65 rfl b12 ?_
    refine ev_aload_n 0 dX7_descend_66 rfl (x := 27) rfl ?_
    refine ev_getR dX7_descend_67 flX7_72 rfl rfl ?_
    refine ev_bipush 9 dX7_descend_70 (by decide) ?_
    refine ev_iload dX7_descend_72 (x := r11) rfl ?_
    refine ev_imul dX7_descend_74 ?_
    obtain ⟨b13, H⟩ := H
    refine ev_iald dX7_descend_75 rfl b13 ?_
    refine ev_callS (As := [vI x1, vI x2, vI (h10.1 44 (Int32.toNatClampNeg (9 * r11))), vI (h10.1 45 (Int32.toNatClampNeg (9 * r11)))]) (rest := []) dX7_descend_76 mlX7_167 rm_mX7_descend_mX7_isBefore rfl rfl (Nat.le_of_ble_eq_true rfl) H (fun v h14 H => ?_)
    obtain ⟨r15, rfl, H⟩ := H
    show Ev mX7_descend 79 [(6, vI r11), (0, vR 27), (1, vI x1), (2, vI x2), (3, vI x3), (4, vI x4), (5, vI x5)] [vI r15] h14 Q
    refine ev_if_eq 87 dX7_descend_79 (by decide) ⟨fun c16 => ?_, fun c16 => ?_⟩
    · have H := H.1 c16
      refine ev_iload dX7_descend_87 (x := x5) rfl ?_
      refine ev_istore dX7_descend_89 (by decide) ?_
      refine ev_L (L' := [(4, vI x5), (6, vI r11), (0, vR 27), (1, vI x1), (2, vI x2), (3, vI x3), (5, vI x5)]) rfl ?_
      refine ev_iinc (x := x5) (v := 1) dX7_descend_91 rfl (by decide) (by decide) ?_
      refine ev_L (L' := [(5, vI (x5 + 1)), (4, vI x5), (6, vI r11), (0, vR 27), (1, vI x1), (2, vI x2), (3, vI x3)]) rfl ?_
      refine ev_goto 25 dX7_descend_94 (by decide) ?_
      exact ev_sub (L' := [(0, vR 27), (1, vI x1), (2, vI x2), (3, vI x3), (4, vI x5), (5, vI (x5 + 1))]) ⟨rfl, rfl, rfl, rfl, rfl, rfl, trivial⟩ H
    · have H := H.2 c16
      refine ev_iload dX7_descend_82 (x := x4) rfl ?_
      refine ev_goto 89 dX7_descend_84 (by decide) ?_
      refine ev_istore dX7_descend_89 (by decide) ?_
      refine ev_L (L' := [(4, vI x4), (6, vI r11), (0, vR 27), (1, vI x1), (2, vI x2), (3, vI x3), (5, vI x5)]) rfl ?_
      refine ev_iinc (x := x5) (v := 1) dX7_descend_91 rfl (by decide) (by decide) ?_
      refine ev_L (L' := [(5, vI (x5 + 1)), (4, vI x4), (6, vI r11), (0, vR 27), (1, vI x1), (2, vI x2), (3, vI x3)]) rfl ?_
      refine ev_goto 25 dX7_descend_94 (by decide) ?_
      exact ev_sub (L' := [(0, vR 27), (1, vI x1), (2, vI x2), (3, vI x3), (4, vI x4), (5, vI (x5 + 1))]) ⟨rfl, rfl, rfl, rfl, rfl, rfl, trivial⟩ H
set_option maxRecDepth 20000 in
theorem sX7_copySlot {h : Hp} {Q : Option AV → Hp → Prop} {x1 : Int32} {x2 : Int32} (H : (vp_in x1 720 ∧ (vp_in x2 720 ∧ (∀ h3 : Hp, h3 = sI h 44 (upd (h.1 44) (Int32.toNatClampNeg x2) (h.1 44 (Int32.toNatClampNeg x1))) → (vp_in x1 720 ∧ (vp_in x2 720 ∧ (∀ h6 : Hp, h6 = sI h3 45 (upd (h3.1 45) (Int32.toNatClampNeg x2) (h3.1 45 (Int32.toNatClampNeg x1))) → (vp_in x1 720 ∧ (vp_in x2 720 ∧ (∀ h9 : Hp, h9 = sI h6 46 (upd (h6.1 46) (Int32.toNatClampNeg x2) (h6.1 46 (Int32.toNatClampNeg x1))) → Q none h9)))))))))) : EvM mX7_copySlot [vR 27, vI x1, vI x2] h Q := by
  refine evM_of (by decide) rfl (Nat.le_of_ble_eq_true rfl) ?_
  show Ev mX7_copySlot 0 [(0, vR 27), (1, vI x1), (2, vI x2)] [] h Q
  refine ev_aload_n 0 dX7_copySlot_0 rfl (x := 27) rfl ?_
  refine ev_getR dX7_copySlot_1 flX7_69 rfl rfl ?_
  refine ev_iload_n 2 dX7_copySlot_4 rfl (x := x2) rfl ?_
  refine ev_aload_n 0 dX7_copySlot_5 rfl (x := 27) rfl ?_
  refine ev_getR dX7_copySlot_6 flX7_69 rfl rfl ?_
  refine ev_iload_n 1 dX7_copySlot_9 rfl (x := x1) rfl ?_
  obtain ⟨b1, H⟩ := H
  refine ev_iald dX7_copySlot_10 rfl b1 ?_
  obtain ⟨b2, H⟩ := H
  refine ev_iast dX7_copySlot_11 rfl b2  ?_
  obtain ⟨h3, eh3⟩ : ∃ z : Hp, z = sI h 44 (upd (h.1 44) (Int32.toNatClampNeg x2) (h.1 44 (Int32.toNatClampNeg x1))) := ⟨_, rfl⟩
  rw [← eh3]
  have H := H h3 eh3
  refine ev_aload_n 0 dX7_copySlot_12 rfl (x := 27) rfl ?_
  refine ev_getR dX7_copySlot_13 flX7_72 rfl rfl ?_
  refine ev_iload_n 2 dX7_copySlot_16 rfl (x := x2) rfl ?_
  refine ev_aload_n 0 dX7_copySlot_17 rfl (x := 27) rfl ?_
  refine ev_getR dX7_copySlot_18 flX7_72 rfl rfl ?_
  refine ev_iload_n 1 dX7_copySlot_21 rfl (x := x1) rfl ?_
  obtain ⟨b4, H⟩ := H
  refine ev_iald dX7_copySlot_22 rfl b4 ?_
  obtain ⟨b5, H⟩ := H
  refine ev_iast dX7_copySlot_23 rfl b5  ?_
  obtain ⟨h6, eh6⟩ : ∃ z : Hp, z = sI h3 45 (upd (h3.1 45) (Int32.toNatClampNeg x2) (h3.1 45 (Int32.toNatClampNeg x1))) := ⟨_, rfl⟩
  rw [← eh6]
  have H := H h6 eh6
  refine ev_aload_n 0 dX7_copySlot_24 rfl (x := 27) rfl ?_
  refine ev_getR dX7_copySlot_25 flX7_75 rfl rfl ?_
  refine ev_iload_n 2 dX7_copySlot_28 rfl (x := x2) rfl ?_
  refine ev_aload_n 0 dX7_copySlot_29 rfl (x := 27) rfl ?_
  refine ev_getR dX7_copySlot_30 flX7_75 rfl rfl ?_
  refine ev_iload_n 1 dX7_copySlot_33 rfl (x := x1) rfl ?_
  obtain ⟨b7, H⟩ := H
  refine ev_iald dX7_copySlot_34 rfl b7 ?_
  obtain ⟨b8, H⟩ := H
  refine ev_iast dX7_copySlot_35 rfl b8  ?_
  obtain ⟨h9, eh9⟩ : ∃ z : Hp, z = sI h6 46 (upd (h6.1 46) (Int32.toNatClampNeg x2) (h6.1 46 (Int32.toNatClampNeg x1))) := ⟨_, rfl⟩
  rw [← eh9]
  have H := H h9 eh9
  exact ev_vret dX7_copySlot_36 rfl H
set_option maxRecDepth 20000 in
theorem sX7_openSlot {h : Hp} {Q : Option AV → Hp → Prop} {x1 : Int32} {x2 : Int32} (H : (vp_in x1 80 ∧ Ev mX7_openSlot 7 [(0, vR 27), (1, vI x1), (2, vI x2), (3, vI (h.1 43 (Int32.toNatClampNeg x1)))] [] h Q)) : EvM mX7_openSlot [vR 27, vI x1, vI x2] h Q := by
  refine evM_of (by decide) rfl (Nat.le_of_ble_eq_true rfl) ?_
  show Ev mX7_openSlot 0 [(0, vR 27), (1, vI x1), (2, vI x2)] [] h Q
  refine ev_aload_n 0 dX7_openSlot_0 rfl (x := 27) rfl ?_
  refine ev_getR dX7_openSlot_1 flX7_66 rfl rfl ?_
  refine ev_iload_n 1 dX7_openSlot_4 rfl (x := x1) rfl ?_
  obtain ⟨b1, H⟩ := H
  refine ev_iald dX7_openSlot_5 rfl b1 ?_
  refine ev_istore_n 3 dX7_openSlot_6 rfl (by decide) ?_
  refine ev_L (L' := [(3, vI (h.1 43 (Int32.toNatClampNeg x1))), (0, vR 27), (1, vI x1), (2, vI x2)]) rfl ?_
  exact ev_sub (L' := [(0, vR 27), (1, vI x1), (2, vI x2), (3, vI (h.1 43 (Int32.toNatClampNeg x1)))]) ⟨rfl, rfl, rfl, rfl, trivial⟩ H
set_option maxRecDepth 20000 in
theorem sX7_openSlot_7 {h : Hp} {Q : Option AV → Hp → Prop} {x1 : Int32} {x2 : Int32} {x3 : Int32} (H : (((x3 ≤ x2) → (vp_in x1 80 ∧ (vp_in x1 80 ∧ (∀ h4 : Hp, h4 = sI h 43 (upd (h.1 43) (Int32.toNatClampNeg x1) ((h.1 43 (Int32.toNatClampNeg x1)) + 1)) → (vp_in x1 80 ∧ (∀ h6 : Hp, h6 = sI h4 42 (upd (h4.1 42) (Int32.toNatClampNeg x1) 1) → Q none h6)))))) ∧ ((¬ x3 ≤ x2) → EvM mX7_copySlot [vR 27, vI (((9 * x1) + x3) - 1), vI ((9 * x1) + x3)] h (fun v h7 => v = none ∧ Ev mX7_openSlot 7 [(0, vR 27), (1, vI x1), (2, vI x2), (3, vI (x3 + (-1)))] [] h7 Q)))) : Ev mX7_openSlot 7 [(0, vR 27), (1, vI x1), (2, vI x2), (3, vI x3)] [] h Q := by
  refine ev_iload_n 3 dX7_openSlot_7 rfl (x := x3) rfl ?_
  refine ev_iload_n 2 dX7_openSlot_8 rfl (x := x2) rfl ?_
  refine ev_icmp_le 36 dX7_openSlot_9 (by decide) ⟨fun c1 => ?_, fun c1 => ?_⟩
  · have H := H.1 c1
    refine ev_aload_n 0 dX7_openSlot_36 rfl (x := 27) rfl ?_
    refine ev_getR dX7_openSlot_37 flX7_66 rfl rfl ?_
    refine ev_iload_n 1 dX7_openSlot_40 rfl (x := x1) rfl ?_
    refine ev_dup2 dX7_openSlot_41 rfl rfl ?_
    obtain ⟨b2, H⟩ := H
    refine ev_iald dX7_openSlot_42 rfl b2 ?_
    refine ev_iconst 1 dX7_openSlot_43 (by decide) ?_
    refine ev_iadd dX7_openSlot_44 ?_
    obtain ⟨b3, H⟩ := H
    refine ev_iast dX7_openSlot_45 rfl b3  ?_
    obtain ⟨h4, eh4⟩ : ∃ z : Hp, z = sI h 43 (upd (h.1 43) (Int32.toNatClampNeg x1) ((h.1 43 (Int32.toNatClampNeg x1)) + 1)) := ⟨_, rfl⟩
    rw [← eh4]
    have H := H h4 eh4
    refine ev_aload_n 0 dX7_openSlot_46 rfl (x := 27) rfl ?_
    refine ev_getR dX7_openSlot_47 flX7_63 rfl rfl ?_
    refine ev_iload_n 1 dX7_openSlot_50 rfl (x := x1) rfl ?_
    refine ev_iconst 1 dX7_openSlot_51 (by decide) ?_
    obtain ⟨b5, H⟩ := H
    refine ev_zast dX7_openSlot_52 rfl b5 (by decide) ?_
    obtain ⟨h6, eh6⟩ : ∃ z : Hp, z = sI h4 42 (upd (h4.1 42) (Int32.toNatClampNeg x1) 1) := ⟨_, rfl⟩
    rw [← eh6]
    have H := H h6 eh6
    exact ev_vret dX7_openSlot_53 rfl H
  · have H := H.2 c1
    refine ev_aload_n 0 dX7_openSlot_12 rfl (x := 27) rfl ?_
    refine ev_bipush 9 dX7_openSlot_13 (by decide) ?_
    refine ev_iload_n 1 dX7_openSlot_15 rfl (x := x1) rfl ?_
    refine ev_imul dX7_openSlot_16 ?_
    refine ev_iload_n 3 dX7_openSlot_17 rfl (x := x3) rfl ?_
    refine ev_iadd dX7_openSlot_18 ?_
    refine ev_iconst 1 dX7_openSlot_19 (by decide) ?_
    refine ev_isub dX7_openSlot_20 ?_
    refine ev_bipush 9 dX7_openSlot_21 (by decide) ?_
    refine ev_iload_n 1 dX7_openSlot_23 rfl (x := x1) rfl ?_
    refine ev_imul dX7_openSlot_24 ?_
    refine ev_iload_n 3 dX7_openSlot_25 rfl (x := x3) rfl ?_
    refine ev_iadd dX7_openSlot_26 ?_
    refine ev_callV (As := [vI (((9 * x1) + x3) - 1), vI ((9 * x1) + x3)]) (rest := []) dX7_openSlot_27 mlX7_171 rm_mX7_openSlot_mX7_copySlot rfl rfl rfl rfl (Nat.le_of_ble_eq_true rfl) H (fun v h7 H => ?_)
    obtain ⟨rfl, H⟩ := H
    show Ev mX7_openSlot 30 [(0, vR 27), (1, vI x1), (2, vI x2), (3, vI x3)] [] h7 Q
    refine ev_iinc (x := x3) (v := (-1)) dX7_openSlot_30 rfl (by decide) (by decide) ?_
    refine ev_L (L' := [(3, vI (x3 + (-1))), (0, vR 27), (1, vI x1), (2, vI x2)]) rfl ?_
    refine ev_goto 7 dX7_openSlot_33 (by decide) ?_
    exact ev_sub (L' := [(0, vR 27), (1, vI x1), (2, vI x2), (3, vI (x3 + (-1)))]) ⟨rfl, rfl, rfl, rfl, trivial⟩ H
set_option maxRecDepth 20000 in
theorem sX7_closeSlot {h : Hp} {Q : Option AV → Hp → Prop} {x1 : Int32} {x2 : Int32} (H : (vp_in x1 80 ∧ (vp_in x1 80 ∧ (∀ h3 : Hp, h3 = sI h 43 (upd (h.1 43) (Int32.toNatClampNeg x1) ((h.1 43 (Int32.toNatClampNeg x1)) - 1)) → Ev mX7_closeSlot 12 [(0, vR 27), (1, vI x1), (3, vI x2)] [] h3 Q)))) : EvM mX7_closeSlot [vR 27, vI x1, vI x2] h Q := by
  refine evM_of (by decide) rfl (Nat.le_of_ble_eq_true rfl) ?_
  show Ev mX7_closeSlot 0 [(0, vR 27), (1, vI x1), (2, vI x2)] [] h Q
  refine ev_aload_n 0 dX7_closeSlot_0 rfl (x := 27) rfl ?_
  refine ev_getR dX7_closeSlot_1 flX7_66 rfl rfl ?_
  refine ev_iload_n 1 dX7_closeSlot_4 rfl (x := x1) rfl ?_
  refine ev_dup2 dX7_closeSlot_5 rfl rfl ?_
  obtain ⟨b1, H⟩ := H
  refine ev_iald dX7_closeSlot_6 rfl b1 ?_
  refine ev_iconst 1 dX7_closeSlot_7 (by decide) ?_
  refine ev_isub dX7_closeSlot_8 ?_
  obtain ⟨b2, H⟩ := H
  refine ev_iast dX7_closeSlot_9 rfl b2  ?_
  obtain ⟨h3, eh3⟩ : ∃ z : Hp, z = sI h 43 (upd (h.1 43) (Int32.toNatClampNeg x1) ((h.1 43 (Int32.toNatClampNeg x1)) - 1)) := ⟨_, rfl⟩
  rw [← eh3]
  have H := H h3 eh3
  refine ev_iload_n 2 dX7_closeSlot_10 rfl (x := x2) rfl ?_
  refine ev_istore_n 3 dX7_closeSlot_11 rfl (by decide) ?_
  refine ev_L (L' := [(3, vI x2), (0, vR 27), (1, vI x1), (2, vI x2)]) rfl ?_
  exact ev_sub (L' := [(0, vR 27), (1, vI x1), (3, vI x2)]) ⟨rfl, rfl, rfl, trivial⟩ H
set_option maxRecDepth 20000 in
theorem sX7_closeSlot_12 {h : Hp} {Q : Option AV → Hp → Prop} {x1 : Int32} {x3 : Int32} (H : (vp_in x1 80 ∧ ((((h.1 43 (Int32.toNatClampNeg x1)) ≤ x3) → (vp_in x1 80 ∧ (∀ h4 : Hp, h4 = sI h 42 (upd (h.1 42) (Int32.toNatClampNeg x1) 1) → Q none h4))) ∧ ((¬ (h.1 43 (Int32.toNatClampNeg x1)) ≤ x3) → EvM mX7_copySlot [vR 27, vI (((9 * x1) + x3) + 1), vI ((9 * x1) + x3)] h (fun v h5 => v = none ∧ Ev mX7_closeSlot 12 [(0, vR 27), (1, vI x1), (3, vI (x3 + 1))] [] h5 Q))))) : Ev mX7_closeSlot 12 [(0, vR 27), (1, vI x1), (3, vI x3)] [] h Q := by
  refine ev_iload_n 3 dX7_closeSlot_12 rfl (x := x3) rfl ?_
  refine ev_aload_n 0 dX7_closeSlot_13 rfl (x := 27) rfl ?_
  refine ev_getR dX7_closeSlot_14 flX7_66 rfl rfl ?_
  refine ev_iload_n 1 dX7_closeSlot_17 rfl (x := x1) rfl ?_
  obtain ⟨b1, H⟩ := H
  refine ev_iald dX7_closeSlot_18 rfl b1 ?_
  refine ev_icmp_ge 46 dX7_closeSlot_19 (by decide) ⟨fun c2 => ?_, fun c2 => ?_⟩
  · have H := H.1 c2
    refine ev_aload_n 0 dX7_closeSlot_46 rfl (x := 27) rfl ?_
    refine ev_getR dX7_closeSlot_47 flX7_63 rfl rfl ?_
    refine ev_iload_n 1 dX7_closeSlot_50 rfl (x := x1) rfl ?_
    refine ev_iconst 1 dX7_closeSlot_51 (by decide) ?_
    obtain ⟨b3, H⟩ := H
    refine ev_zast dX7_closeSlot_52 rfl b3 (by decide) ?_
    obtain ⟨h4, eh4⟩ : ∃ z : Hp, z = sI h 42 (upd (h.1 42) (Int32.toNatClampNeg x1) 1) := ⟨_, rfl⟩
    rw [← eh4]
    have H := H h4 eh4
    exact ev_vret dX7_closeSlot_53 rfl H
  · have H := H.2 c2
    refine ev_aload_n 0 dX7_closeSlot_22 rfl (x := 27) rfl ?_
    refine ev_bipush 9 dX7_closeSlot_23 (by decide) ?_
    refine ev_iload_n 1 dX7_closeSlot_25 rfl (x := x1) rfl ?_
    refine ev_imul dX7_closeSlot_26 ?_
    refine ev_iload_n 3 dX7_closeSlot_27 rfl (x := x3) rfl ?_
    refine ev_iadd dX7_closeSlot_28 ?_
    refine ev_iconst 1 dX7_closeSlot_29 (by decide) ?_
    refine ev_iadd dX7_closeSlot_30 ?_
    refine ev_bipush 9 dX7_closeSlot_31 (by decide) ?_
    refine ev_iload_n 1 dX7_closeSlot_33 rfl (x := x1) rfl ?_
    refine ev_imul dX7_closeSlot_34 ?_
    refine ev_iload_n 3 dX7_closeSlot_35 rfl (x := x3) rfl ?_
    refine ev_iadd dX7_closeSlot_36 ?_
    refine ev_callV (As := [vI (((9 * x1) + x3) + 1), vI ((9 * x1) + x3)]) (rest := []) dX7_closeSlot_37 mlX7_171 rm_mX7_closeSlot_mX7_copySlot rfl rfl rfl rfl (Nat.le_of_ble_eq_true rfl) H (fun v h5 H => ?_)
    obtain ⟨rfl, H⟩ := H
    show Ev mX7_closeSlot 40 [(0, vR 27), (1, vI x1), (3, vI x3)] [] h5 Q
    refine ev_iinc (x := x3) (v := 1) dX7_closeSlot_40 rfl (by decide) (by decide) ?_
    refine ev_L (L' := [(3, vI (x3 + 1)), (0, vR 27), (1, vI x1)]) rfl ?_
    refine ev_goto 12 dX7_closeSlot_43 (by decide) ?_
    exact ev_sub (L' := [(0, vR 27), (1, vI x1), (3, vI (x3 + 1))]) ⟨rfl, rfl, rfl, trivial⟩ H
set_option maxRecDepth 20000 in
theorem sX7_comes {h : Hp} {Q : Option AV → Hp → Prop} {x1 : Int32} {x2 : Int32} (H : EvM mX7_descend [vR 27, vI x1, vI x2] h (fun v h1 => v = none ∧ (vp_in (h1.1 27 45) 16 ∧ Ev mX7_comes 19 [(0, vR 27), (1, vI x1), (2, vI x2), (3, vI (h1.1 48 (Int32.toNatClampNeg (h1.1 27 45)))), (4, vI 0)] [] h1 Q))) : EvM mX7_comes [vR 27, vI x1, vI x2] h Q := by
  refine evM_of (by decide) rfl (Nat.le_of_ble_eq_true rfl) ?_
  show Ev mX7_comes 0 [(0, vR 27), (1, vI x1), (2, vI x2)] [] h Q
  refine ev_aload_n 0 dX7_comes_0 rfl (x := 27) rfl ?_
  refine ev_iload_n 1 dX7_comes_1 rfl (x := x1) rfl ?_
  refine ev_iload_n 2 dX7_comes_2 rfl (x := x2) rfl ?_
  refine ev_callV (As := [vI x1, vI x2]) (rest := []) dX7_comes_3 mlX7_175 rm_mX7_comes_mX7_descend rfl rfl rfl rfl (Nat.le_of_ble_eq_true rfl) H (fun v h1 H => ?_)
  obtain ⟨rfl, H⟩ := H
  show Ev mX7_comes 6 [(0, vR 27), (1, vI x1), (2, vI x2)] [] h1 Q
  refine ev_aload_n 0 dX7_comes_6 rfl (x := 27) rfl ?_
  refine ev_getR dX7_comes_7 flX7_81 rfl rfl ?_
  refine ev_aload_n 0 dX7_comes_10 rfl (x := 27) rfl ?_
  refine ev_getI dX7_comes_11 flX7_157 rfl rfl ?_
  obtain ⟨b2, H⟩ := H
  refine ev_iald dX7_comes_14 rfl b2 ?_
  refine ev_istore_n 3 dX7_comes_15 rfl (by decide) ?_
  refine ev_L (L' := [(3, vI (h1.1 48 (Int32.toNatClampNeg (h1.1 27 45)))), (0, vR 27), (1, vI x1), (2, vI x2)]) rfl ?_
  refine ev_iconst 0 dX7_comes_16 (by decide) ?_
  refine ev_istore dX7_comes_17 (by decide) ?_
  refine ev_L (L' := [(4, vI 0), (3, vI (h1.1 48 (Int32.toNatClampNeg (h1.1 27 45)))), (0, vR 27), (1, vI x1), (2, vI x2)]) rfl ?_
  exact ev_sub (L' := [(0, vR 27), (1, vI x1), (2, vI x2), (3, vI (h1.1 48 (Int32.toNatClampNeg (h1.1 27 45)))), (4, vI 0)]) ⟨rfl, rfl, rfl, rfl, rfl, trivial⟩ H
set_option maxRecDepth 20000 in
theorem sX7_comes_19 {h : Hp} {Q : Option AV → Hp → Prop} {x1 : Int32} {x2 : Int32} {x3 : Int32} {x4 : Int32} (H : (vp_in x3 80 ∧ ((((h.1 43 (Int32.toNatClampNeg x3)) ≤ x4) → Ev mX7_comes 68 [(0, vR 27), (1, vI x1), (2, vI x2), (3, vI x3), (4, vI x4)] [] h Q) ∧ ((¬ (h.1 43 (Int32.toNatClampNeg x3)) ≤ x4) → (vp_in ((9 * x3) + x4) 720 ∧ (vp_in ((9 * x3) + x4) 720 ∧ EvM mX7_isBefore [vI (h.1 44 (Int32.toNatClampNeg ((9 * x3) + x4))), vI (h.1 45 (Int32.toNatClampNeg ((9 * x3) + x4))), vI x1, vI x2] h (fun v h5 => ∃ r6 : Int32, v = some (vI r6) ∧ (((r6 = 0) → Ev mX7_comes 68 [(0, vR 27), (1, vI x1), (2, vI x2), (3, vI x3), (4, vI x4)] [] h5 Q) ∧ ((¬ r6 = 0) → Ev mX7_comes 19 [(0, vR 27), (1, vI x1), (2, vI x2), (3, vI x3), (4, vI (x4 + 1))] [] h5 Q))))))))) : Ev mX7_comes 19 [(0, vR 27), (1, vI x1), (2, vI x2), (3, vI x3), (4, vI x4)] [] h Q := by
  refine ev_iload dX7_comes_19 (x := x4) rfl ?_
  refine ev_aload_n 0 dX7_comes_21 rfl (x := 27) rfl ?_
  refine ev_getR dX7_comes_22 flX7_66 rfl rfl ?_
  refine ev_iload_n 3 dX7_comes_25 rfl (x := x3) rfl ?_
  obtain ⟨b1, H⟩ := H
  refine ev_iald dX7_comes_26 rfl b1 ?_
  refine ev_icmp_ge 68 dX7_comes_27 (by decide) ⟨fun c2 => ?_, fun c2 => ?_⟩
  · have H := H.1 c2
    exact ev_sub (L' := [(0, vR 27), (1, vI x1), (2, vI x2), (3, vI x3), (4, vI x4)]) ⟨rfl, rfl, rfl, rfl, rfl, trivial⟩ H
  · have H := H.2 c2
    refine ev_aload_n 0 dX7_comes_30 rfl (x := 27) rfl ?_
    refine ev_getR dX7_comes_31 flX7_69 rfl rfl ?_
    refine ev_bipush 9 dX7_comes_34 (by decide) ?_
    refine ev_iload_n 3 dX7_comes_36 rfl (x := x3) rfl ?_
    refine ev_imul dX7_comes_37 ?_
    refine ev_iload dX7_comes_38 (x := x4) rfl ?_
    refine ev_iadd dX7_comes_40 ?_
    obtain ⟨b3, H⟩ := H
    refine ev_iald dX7_comes_41 rfl b3 ?_
    refine ev_aload_n 0 dX7_comes_42 rfl (x := 27) rfl ?_
    refine ev_getR dX7_comes_43 flX7_72 rfl rfl ?_
    refine ev_bipush 9 dX7_comes_46 (by decide) ?_
    refine ev_iload_n 3 dX7_comes_48 rfl (x := x3) rfl ?_
    refine ev_imul dX7_comes_49 ?_
    refine ev_iload dX7_comes_50 (x := x4) rfl ?_
    refine ev_iadd dX7_comes_52 ?_
    obtain ⟨b4, H⟩ := H
    refine ev_iald dX7_comes_53 rfl b4 ?_
    refine ev_iload_n 1 dX7_comes_54 rfl (x := x1) rfl ?_
    refine ev_iload_n 2 dX7_comes_55 rfl (x := x2) rfl ?_
    refine ev_callS (As := [vI (h.1 44 (Int32.toNatClampNeg ((9 * x3) + x4))), vI (h.1 45 (Int32.toNatClampNeg ((9 * x3) + x4))), vI x1, vI x2]) (rest := []) dX7_comes_56 mlX7_167 rm_mX7_comes_mX7_isBefore rfl rfl (Nat.le_of_ble_eq_true rfl) H (fun v h5 H => ?_)
    obtain ⟨r6, rfl, H⟩ := H
    show Ev mX7_comes 59 [(0, vR 27), (1, vI x1), (2, vI x2), (3, vI x3), (4, vI x4)] [vI r6] h5 Q
    refine ev_if_eq 68 dX7_comes_59 (by decide) ⟨fun c7 => ?_, fun c7 => ?_⟩
    · have H := H.1 c7
      exact ev_sub (L' := [(0, vR 27), (1, vI x1), (2, vI x2), (3, vI x3), (4, vI x4)]) ⟨rfl, rfl, rfl, rfl, rfl, trivial⟩ H
    · have H := H.2 c7
      refine ev_iinc (x := x4) (v := 1) dX7_comes_62 rfl (by decide) (by decide) ?_
      refine ev_L (L' := [(4, vI (x4 + 1)), (0, vR 27), (1, vI x1), (2, vI x2), (3, vI x3)]) rfl ?_
      refine ev_goto 19 dX7_comes_65 (by decide) ?_
      exact ev_sub (L' := [(0, vR 27), (1, vI x1), (2, vI x2), (3, vI x3), (4, vI (x4 + 1))]) ⟨rfl, rfl, rfl, rfl, rfl, trivial⟩ H
set_option maxRecDepth 20000 in
theorem sX7_comes_68 {h : Hp} {Q : Option AV → Hp → Prop} {x1 : Int32} {x2 : Int32} {x3 : Int32} {x4 : Int32} (H : EvM mX7_openSlot [vR 27, vI x3, vI x4] h (fun v h1 => v = none ∧ (vp_in ((9 * x3) + x4) 720 ∧ (∀ h3 : Hp, h3 = sI h1 44 (upd (h1.1 44) (Int32.toNatClampNeg ((9 * x3) + x4)) x1) → (vp_in ((9 * x3) + x4) 720 ∧ (∀ h5 : Hp, h5 = sI h3 45 (upd (h3.1 45) (Int32.toNatClampNeg ((9 * x3) + x4)) x2) → Ev mX7_comes 101 [(0, vR 27), (3, vI x3)] [] h5 Q)))))) : Ev mX7_comes 68 [(0, vR 27), (1, vI x1), (2, vI x2), (3, vI x3), (4, vI x4)] [] h Q := by
  refine ev_aload_n 0 dX7_comes_68 rfl (x := 27) rfl ?_
  refine ev_iload_n 3 dX7_comes_69 rfl (x := x3) rfl ?_
  refine ev_iload dX7_comes_70 (x := x4) rfl ?_
  refine ev_callV (As := [vI x3, vI x4]) (rest := []) dX7_comes_72 mlX7_178 rm_mX7_comes_mX7_openSlot rfl rfl rfl rfl (Nat.le_of_ble_eq_true rfl) H (fun v h1 H => ?_)
  obtain ⟨rfl, H⟩ := H
  show Ev mX7_comes 75 [(0, vR 27), (1, vI x1), (2, vI x2), (3, vI x3), (4, vI x4)] [] h1 Q
  refine ev_aload_n 0 dX7_comes_75 rfl (x := 27) rfl ?_
  refine ev_getR dX7_comes_76 flX7_69 rfl rfl ?_
  refine ev_bipush 9 dX7_comes_79 (by decide) ?_
  refine ev_iload_n 3 dX7_comes_81 rfl (x := x3) rfl ?_
  refine ev_imul dX7_comes_82 ?_
  refine ev_iload dX7_comes_83 (x := x4) rfl ?_
  refine ev_iadd dX7_comes_85 ?_
  refine ev_iload_n 1 dX7_comes_86 rfl (x := x1) rfl ?_
  obtain ⟨b2, H⟩ := H
  refine ev_iast dX7_comes_87 rfl b2  ?_
  obtain ⟨h3, eh3⟩ : ∃ z : Hp, z = sI h1 44 (upd (h1.1 44) (Int32.toNatClampNeg ((9 * x3) + x4)) x1) := ⟨_, rfl⟩
  rw [← eh3]
  have H := H h3 eh3
  refine ev_aload_n 0 dX7_comes_88 rfl (x := 27) rfl ?_
  refine ev_getR dX7_comes_89 flX7_72 rfl rfl ?_
  refine ev_bipush 9 dX7_comes_92 (by decide) ?_
  refine ev_iload_n 3 dX7_comes_94 rfl (x := x3) rfl ?_
  refine ev_imul dX7_comes_95 ?_
  refine ev_iload dX7_comes_96 (x := x4) rfl ?_
  refine ev_iadd dX7_comes_98 ?_
  refine ev_iload_n 2 dX7_comes_99 rfl (x := x2) rfl ?_
  obtain ⟨b4, H⟩ := H
  refine ev_iast dX7_comes_100 rfl b4  ?_
  obtain ⟨h5, eh5⟩ : ∃ z : Hp, z = sI h3 45 (upd (h3.1 45) (Int32.toNatClampNeg ((9 * x3) + x4)) x2) := ⟨_, rfl⟩
  rw [← eh5]
  have H := H h5 eh5
  exact ev_sub (L' := [(0, vR 27), (3, vI x3)]) ⟨rfl, rfl, trivial⟩ H
set_option maxRecDepth 20000 in
theorem sX7_comes_101 {h : Hp} {Q : Option AV → Hp → Prop} {x3 : Int32} (H : (vp_in x3 80 ∧ ((((h.1 43 (Int32.toNatClampNeg x3)) ≤ 8) → Q none h) ∧ ((¬ (h.1 43 (Int32.toNatClampNeg x3)) ≤ 8) → (vp_in x3 80 ∧ EvM mX7_newNode [vR 27, vI (h.1 41 (Int32.toNatClampNeg x3))] h (fun v h4 => ∃ r5 : Int32, v = some (vI r5) ∧ Ev mX7_comes 127 [(0, vR 27), (3, vI x3), (5, vI r5), (6, vI 4)] [] h4 Q)))))) : Ev mX7_comes 101 [(0, vR 27), (3, vI x3)] [] h Q := by
  refine ev_aload_n 0 dX7_comes_101 rfl (x := 27) rfl ?_
  refine ev_getR dX7_comes_102 flX7_66 rfl rfl ?_
  refine ev_iload_n 3 dX7_comes_105 rfl (x := x3) rfl ?_
  obtain ⟨b1, H⟩ := H
  refine ev_iald dX7_comes_106 rfl b1 ?_
  refine ev_bipush 8 dX7_comes_107 (by decide) ?_
  refine ev_icmp_le 299 dX7_comes_109 (by decide) ⟨fun c2 => ?_, fun c2 => ?_⟩
  · have H := H.1 c2
    exact ev_vret dX7_comes_299 rfl H
  · have H := H.2 c2
    refine ev_aload_n 0 dX7_comes_112 rfl (x := 27) rfl ?_
    refine ev_aload_n 0 dX7_comes_113 rfl (x := 27) rfl ?_
    refine ev_getR dX7_comes_114 flX7_60 rfl rfl ?_
    refine ev_iload_n 3 dX7_comes_117 rfl (x := x3) rfl ?_
    obtain ⟨b3, H⟩ := H
    refine ev_zald dX7_comes_118 rfl b3 ?_
    refine ev_callV (As := [vI (h.1 41 (Int32.toNatClampNeg x3))]) (rest := []) dX7_comes_119 mlX7_181 rm_mX7_comes_mX7_newNode rfl rfl rfl rfl (Nat.le_of_ble_eq_true rfl) H (fun v h4 H => ?_)
    obtain ⟨r5, rfl, H⟩ := H
    show Ev mX7_comes 122 [(0, vR 27), (3, vI x3)] [vI r5] h4 Q
    refine ev_istore dX7_comes_122 (by decide) ?_
    refine ev_L (L' := [(5, vI r5), (0, vR 27), (3, vI x3)]) rfl ?_
    refine ev_iconst 4 dX7_comes_124 (by decide) ?_
    refine ev_istore dX7_comes_125 (by decide) ?_
    refine ev_L (L' := [(6, vI 4), (5, vI r5), (0, vR 27), (3, vI x3)]) rfl ?_
    exact ev_sub (L' := [(0, vR 27), (3, vI x3), (5, vI r5), (6, vI 4)]) ⟨rfl, rfl, rfl, rfl, trivial⟩ H
set_option maxRecDepth 20000 in
theorem sX7_comes_127 {h : Hp} {Q : Option AV → Hp → Prop} {x3 : Int32} {x5 : Int32} {x6 : Int32} (H : (((9 ≤ x6) → (vp_in x5 80 ∧ (∀ h3 : Hp, h3 = sI h 43 (upd (h.1 43) (Int32.toNatClampNeg x5) 5) → (vp_in x3 80 ∧ (∀ h5 : Hp, h5 = sI h3 43 (upd (h3.1 43) (Int32.toNatClampNeg x3) 4) → (vp_in x3 80 ∧ (∀ h7 : Hp, h7 = sI h5 42 (upd (h5.1 42) (Int32.toNatClampNeg x3) 1) → (((¬ (h7.1 27 45) = 0) → (∀ h9 : Hp, h9 = sI h7 27 (upd (h7.1 27) 45 ((h7.1 27 45) - 1)) → (vp_in (h9.1 27 45) 16 ∧ (vp_in (h9.1 27 45) 16 ∧ EvM mX7_openSlot [vR 27, vI (h9.1 48 (Int32.toNatClampNeg (h9.1 27 45))), vI ((h9.1 49 (Int32.toNatClampNeg (h9.1 27 45))) + 1)] h9 (fun v h12 => v = none ∧ (vp_in (h12.1 27 45) 16 ∧ (vp_in (((9 * (h9.1 48 (Int32.toNatClampNeg (h9.1 27 45)))) + (h12.1 49 (Int32.toNatClampNeg (h12.1 27 45)))) + 1) 720 ∧ (∀ h15 : Hp, h15 = sI h12 46 (upd (h12.1 46) (Int32.toNatClampNeg (((9 * (h9.1 48 (Int32.toNatClampNeg (h9.1 27 45)))) + (h12.1 49 (Int32.toNatClampNeg (h12.1 27 45)))) + 1)) x5) → Ev mX7_comes 101 [(0, vR 27), (3, vI (h9.1 48 (Int32.toNatClampNeg (h9.1 27 45))))] [] h15 Q)))))))) ∧ (((h7.1 27 45) = 0) → EvM mX7_newNode [vR 27, vI 0] h7 (fun v h16 => ∃ r17 : Int32, v = some (vI r17) ∧ (vp_in r17 80 ∧ (∀ h19 : Hp, h19 = sI h16 43 (upd (h16.1 43) (Int32.toNatClampNeg r17) 2) → (vp_in (9 * r17) 720 ∧ (∀ h21 : Hp, h21 = sI h19 46 (upd (h19.1 46) (Int32.toNatClampNeg (9 * r17)) x3) → (vp_in ((9 * r17) + 1) 720 ∧ (∀ h23 : Hp, h23 = sI h21 46 (upd (h21.1 46) (Int32.toNatClampNeg ((9 * r17) + 1)) x5) → (∀ h24 : Hp, h24 = sI h23 27 (upd (h23.1 27) 34 r17) → Q none h24))))))))))))))))) ∧ ((¬ 9 ≤ x6) → EvM mX7_copySlot [vR 27, vI ((9 * x3) + x6), vI (((9 * x5) + x6) - 4)] h (fun v h25 => v = none ∧ Ev mX7_comes 127 [(0, vR 27), (3, vI x3), (5, vI x5), (6, vI (x6 + 1))] [] h25 Q)))) : Ev mX7_comes 127 [(0, vR 27), (3, vI x3), (5, vI x5), (6, vI x6)] [] h Q := by
  refine ev_iload dX7_comes_127 (x := x6) rfl ?_
  refine ev_bipush 9 dX7_comes_129 (by decide) ?_
  refine ev_icmp_ge 161 dX7_comes_131 (by decide) ⟨fun c1 => ?_, fun c1 => ?_⟩
  · have H := H.1 c1
    refine ev_aload_n 0 dX7_comes_161 rfl (x := 27) rfl ?_
    refine ev_getR dX7_comes_162 flX7_66 rfl rfl ?_
    refine ev_iload dX7_comes_165 (x := x5) rfl ?_
    refine ev_iconst 5 dX7_comes_167 (by decide) ?_
    obtain ⟨b2, H⟩ := H
    refine ev_iast dX7_comes_168 rfl b2  ?_
    obtain ⟨h3, eh3⟩ : ∃ z : Hp, z = sI h 43 (upd (h.1 43) (Int32.toNatClampNeg x5) 5) := ⟨_, rfl⟩
    rw [← eh3]
    have H := H h3 eh3
    refine ev_aload_n 0 dX7_comes_169 rfl (x := 27) rfl ?_
    refine ev_getR dX7_comes_170 flX7_66 rfl rfl ?_
    refine ev_iload_n 3 dX7_comes_173 rfl (x := x3) rfl ?_
    refine ev_iconst 4 dX7_comes_174 (by decide) ?_
    obtain ⟨b4, H⟩ := H
    refine ev_iast dX7_comes_175 rfl b4  ?_
    obtain ⟨h5, eh5⟩ : ∃ z : Hp, z = sI h3 43 (upd (h3.1 43) (Int32.toNatClampNeg x3) 4) := ⟨_, rfl⟩
    rw [← eh5]
    have H := H h5 eh5
    refine ev_aload_n 0 dX7_comes_176 rfl (x := 27) rfl ?_
    refine ev_getR dX7_comes_177 flX7_63 rfl rfl ?_
    refine ev_iload_n 3 dX7_comes_180 rfl (x := x3) rfl ?_
    refine ev_iconst 1 dX7_comes_181 (by decide) ?_
    obtain ⟨b6, H⟩ := H
    refine ev_zast dX7_comes_182 rfl b6 (by decide) ?_
    obtain ⟨h7, eh7⟩ : ∃ z : Hp, z = sI h5 42 (upd (h5.1 42) (Int32.toNatClampNeg x3) 1) := ⟨_, rfl⟩
    rw [← eh7]
    have H := H h7 eh7
    refine ev_aload_n 0 dX7_comes_183 rfl (x := 27) rfl ?_
    refine ev_getI dX7_comes_184 flX7_157 rfl rfl ?_
    refine ev_if_ne 237 dX7_comes_187 (by decide) ⟨fun c8 => ?_, fun c8 => ?_⟩
    · have H := H.1 c8
      refine ev_aload_n 0 dX7_comes_237 rfl (x := 27) rfl ?_
      refine ev_dup dX7_comes_238 rfl ?_
      refine ev_getI dX7_comes_239 flX7_157 rfl rfl ?_
      refine ev_iconst 1 dX7_comes_242 (by decide) ?_
      refine ev_isub dX7_comes_243 ?_
      refine ev_putI dX7_comes_244 fpX7_157 rfl rfl   ?_
      obtain ⟨h9, eh9⟩ : ∃ z : Hp, z = sI h7 27 (upd (h7.1 27) 45 ((h7.1 27 45) - 1)) := ⟨_, rfl⟩
      rw [← eh9]
      have H := H h9 eh9
      refine ev_aload_n 0 dX7_comes_247 rfl (x := 27) rfl ?_
      refine ev_getR dX7_comes_248 flX7_81 rfl rfl ?_
      refine ev_aload_n 0 dX7_comes_251 rfl (x := 27) rfl ?_
      refine ev_getI dX7_comes_252 flX7_157 rfl rfl ?_
      obtain ⟨b10, H⟩ := H
      refine ev_iald dX7_comes_255 rfl b10 ?_
      refine ev_istore_n 3 dX7_comes_256 rfl (by decide) ?_
      refine ev_L (L' := [(3, vI (h9.1 48 (Int32.toNatClampNeg (h9.1 27 45)))), (0, vR 27), (5, vI x5), (6, vI x6)]) rfl ?_
      refine ev_aload_n 0 dX7_comes_257 rfl (x := 27) rfl ?_
      refine ev_iload_n 3 dX7_comes_258 rfl (x := (h9.1 48 (Int32.toNatClampNeg (h9.1 27 45)))) rfl ?_
      refine ev_aload_n 0 dX7_comes_259 rfl (x := 27) rfl ?_
      refine ev_getR dX7_comes_260 flX7_84 rfl rfl ?_
      refine ev_aload_n 0 dX7_comes_263 rfl (x := 27) rfl ?_
      refine ev_getI dX7_comes_264 flX7_157 rfl rfl ?_
      obtain ⟨b11, H⟩ := H
      refine ev_iald dX7_comes_267 rfl b11 ?_
      refine ev_iconst 1 dX7_comes_268 (by decide) ?_
      refine ev_iadd dX7_comes_269 ?_
      refine ev_callV (As := [vI (h9.1 48 (Int32.toNatClampNeg (h9.1 27 45))), vI ((h9.1 49 (Int32.toNatClampNeg (h9.1 27 45))) + 1)]) (rest := []) dX7_comes_270 mlX7_178 rm_mX7_comes_mX7_openSlot rfl rfl rfl rfl (Nat.le_of_ble_eq_true rfl) H (fun v h12 H => ?_)
      obtain ⟨rfl, H⟩ := H
      show Ev mX7_comes 273 [(3, vI (h9.1 48 (Int32.toNatClampNeg (h9.1 27 45)))), (0, vR 27), (5, vI x5), (6, vI x6)] [] h12 Q
      refine ev_aload_n 0 dX7_comes_273 rfl (x := 27) rfl ?_
      refine ev_getR dX7_comes_274 flX7_75 rfl rfl ?_
      refine ev_bipush 9 dX7_comes_277 (by decide) ?_
      refine ev_iload_n 3 dX7_comes_279 rfl (x := (h9.1 48 (Int32.toNatClampNeg (h9.1 27 45)))) rfl ?_
      refine ev_imul dX7_comes_280 ?_
      refine ev_aload_n 0 dX7_comes_281 rfl (x := 27) rfl ?_
      refine ev_getR dX7_comes_282 flX7_84 rfl rfl ?_
      refine ev_aload_n 0 dX7_comes_285 rfl (x := 27) rfl ?_
      refine ev_getI dX7_comes_286 flX7_157 rfl rfl ?_
      obtain ⟨b13, H⟩ := H
      refine ev_iald dX7_comes_289 rfl b13 ?_
      refine ev_iadd dX7_comes_290 ?_
      refine ev_iconst 1 dX7_comes_291 (by decide) ?_
      refine ev_iadd dX7_comes_292 ?_
      refine ev_iload dX7_comes_293 (x := x5) rfl ?_
      obtain ⟨b14, H⟩ := H
      refine ev_iast dX7_comes_295 rfl b14  ?_
      obtain ⟨h15, eh15⟩ : ∃ z : Hp, z = sI h12 46 (upd (h12.1 46) (Int32.toNatClampNeg (((9 * (h9.1 48 (Int32.toNatClampNeg (h9.1 27 45)))) + (h12.1 49 (Int32.toNatClampNeg (h12.1 27 45)))) + 1)) x5) := ⟨_, rfl⟩
      rw [← eh15]
      have H := H h15 eh15
      refine ev_goto 101 dX7_comes_296 (by decide) ?_
      exact ev_sub (L' := [(0, vR 27), (3, vI (h9.1 48 (Int32.toNatClampNeg (h9.1 27 45))))]) ⟨rfl, rfl, trivial⟩ H
    · have H := H.2 c8
      refine ev_aload_n 0 dX7_comes_190 rfl (x := 27) rfl ?_
      refine ev_iconst 0 dX7_comes_191 (by decide) ?_
      refine ev_callV (As := [vI 0]) (rest := []) dX7_comes_192 mlX7_181 rm_mX7_comes_mX7_newNode rfl rfl rfl rfl (Nat.le_of_ble_eq_true rfl) H (fun v h16 H => ?_)
      obtain ⟨r17, rfl, H⟩ := H
      show Ev mX7_comes 195 [(0, vR 27), (3, vI x3), (5, vI x5), (6, vI x6)] [vI r17] h16 Q
      refine ev_istore dX7_comes_195 (by decide) ?_
      refine ev_L (L' := [(6, vI r17), (0, vR 27), (3, vI x3), (5, vI x5)]) rfl ?_
      refine ev_aload_n 0 dX7_comes_197 rfl (x := 27) rfl ?_
      refine ev_getR dX7_comes_198 flX7_66 rfl rfl ?_
      refine ev_iload dX7_comes_201 (x := r17) rfl ?_
      refine ev_iconst 2 dX7_comes_203 (by decide) ?_
      obtain ⟨b18, H⟩ := H
      refine ev_iast dX7_comes_204 rfl b18  ?_
      obtain ⟨h19, eh19⟩ : ∃ z : Hp, z = sI h16 43 (upd (h16.1 43) (Int32.toNatClampNeg r17) 2) := ⟨_, rfl⟩
      rw [← eh19]
      have H := H h19 eh19
      refine ev_aload_n 0 dX7_comes_205 rfl (x := 27) rfl ?_
      refine ev_getR dX7_comes_206 flX7_75 rfl rfl ?_
      refine ev_bipush 9 dX7_comes_209 (by decide) ?_
      refine ev_iload dX7_comes_211 (x := r17) rfl ?_
      refine ev_imul dX7_comes_213 ?_
      refine ev_iload_n 3 dX7_comes_214 rfl (x := x3) rfl ?_
      obtain ⟨b20, H⟩ := H
      refine ev_iast dX7_comes_215 rfl b20  ?_
      obtain ⟨h21, eh21⟩ : ∃ z : Hp, z = sI h19 46 (upd (h19.1 46) (Int32.toNatClampNeg (9 * r17)) x3) := ⟨_, rfl⟩
      rw [← eh21]
      have H := H h21 eh21
      refine ev_aload_n 0 dX7_comes_216 rfl (x := 27) rfl ?_
      refine ev_getR dX7_comes_217 flX7_75 rfl rfl ?_
      refine ev_bipush 9 dX7_comes_220 (by decide) ?_
      refine ev_iload dX7_comes_222 (x := r17) rfl ?_
      refine ev_imul dX7_comes_224 ?_
      refine ev_iconst 1 dX7_comes_225 (by decide) ?_
      refine ev_iadd dX7_comes_226 ?_
      refine ev_iload dX7_comes_227 (x := x5) rfl ?_
      obtain ⟨b22, H⟩ := H
      refine ev_iast dX7_comes_229 rfl b22  ?_
      obtain ⟨h23, eh23⟩ : ∃ z : Hp, z = sI h21 46 (upd (h21.1 46) (Int32.toNatClampNeg ((9 * r17) + 1)) x5) := ⟨_, rfl⟩
      rw [← eh23]
      have H := H h23 eh23
      refine ev_aload_n 0 dX7_comes_230 rfl (x := 27) rfl ?_
      refine ev_iload dX7_comes_231 (x := r17) rfl ?_
      refine ev_putI dX7_comes_233 fpX7_160 rfl rfl   ?_
      obtain ⟨h24, eh24⟩ : ∃ z : Hp, z = sI h23 27 (upd (h23.1 27) 34 r17) := ⟨_, rfl⟩
      rw [← eh24]
      have H := H h24 eh24
      exact ev_vret dX7_comes_236 rfl H
  · have H := H.2 c1
    refine ev_aload_n 0 dX7_comes_134 rfl (x := 27) rfl ?_
    refine ev_bipush 9 dX7_comes_135 (by decide) ?_
    refine ev_iload_n 3 dX7_comes_137 rfl (x := x3) rfl ?_
    refine ev_imul dX7_comes_138 ?_
    refine ev_iload dX7_comes_139 (x := x6) rfl ?_
    refine ev_iadd dX7_comes_141 ?_
    refine ev_bipush 9 dX7_comes_142 (by decide) ?_
    refine ev_iload dX7_comes_144 (x := x5) rfl ?_
    refine ev_imul dX7_comes_146 ?_
    refine ev_iload dX7_comes_147 (x := x6) rfl ?_
    refine ev_iadd dX7_comes_149 ?_
    refine ev_iconst 4 dX7_comes_150 (by decide) ?_
    refine ev_isub dX7_comes_151 ?_
    refine ev_callV (As := [vI ((9 * x3) + x6), vI (((9 * x5) + x6) - 4)]) (rest := []) dX7_comes_152 mlX7_171 rm_mX7_comes_mX7_copySlot rfl rfl rfl rfl (Nat.le_of_ble_eq_true rfl) H (fun v h25 H => ?_)
    obtain ⟨rfl, H⟩ := H
    show Ev mX7_comes 155 [(0, vR 27), (3, vI x3), (5, vI x5), (6, vI x6)] [] h25 Q
    refine ev_iinc (x := x6) (v := 1) dX7_comes_155 rfl (by decide) (by decide) ?_
    refine ev_L (L' := [(6, vI (x6 + 1)), (0, vR 27), (3, vI x3), (5, vI x5)]) rfl ?_
    refine ev_goto 127 dX7_comes_158 (by decide) ?_
    exact ev_sub (L' := [(0, vR 27), (3, vI x3), (5, vI x5), (6, vI (x6 + 1))]) ⟨rfl, rfl, rfl, rfl, trivial⟩ H
set_option maxRecDepth 20000 in
theorem sX7_goes {h : Hp} {Q : Option AV → Hp → Prop} {x1 : Int32} {x2 : Int32} (H : EvM mX7_descend [vR 27, vI x1, vI x2] h (fun v h1 => v = none ∧ (vp_in (h1.1 27 45) 16 ∧ Ev mX7_goes 19 [(0, vR 27), (1, vI x1), (2, vI x2), (3, vI (h1.1 48 (Int32.toNatClampNeg (h1.1 27 45)))), (4, vI 0)] [] h1 Q))) : EvM mX7_goes [vR 27, vI x1, vI x2] h Q := by
  refine evM_of (by decide) rfl (Nat.le_of_ble_eq_true rfl) ?_
  show Ev mX7_goes 0 [(0, vR 27), (1, vI x1), (2, vI x2)] [] h Q
  refine ev_aload_n 0 dX7_goes_0 rfl (x := 27) rfl ?_
  refine ev_iload_n 1 dX7_goes_1 rfl (x := x1) rfl ?_
  refine ev_iload_n 2 dX7_goes_2 rfl (x := x2) rfl ?_
  refine ev_callV (As := [vI x1, vI x2]) (rest := []) dX7_goes_3 mlX7_175 rm_mX7_goes_mX7_descend rfl rfl rfl rfl (Nat.le_of_ble_eq_true rfl) H (fun v h1 H => ?_)
  obtain ⟨rfl, H⟩ := H
  show Ev mX7_goes 6 [(0, vR 27), (1, vI x1), (2, vI x2)] [] h1 Q
  refine ev_aload_n 0 dX7_goes_6 rfl (x := 27) rfl ?_
  refine ev_getR dX7_goes_7 flX7_81 rfl rfl ?_
  refine ev_aload_n 0 dX7_goes_10 rfl (x := 27) rfl ?_
  refine ev_getI dX7_goes_11 flX7_157 rfl rfl ?_
  obtain ⟨b2, H⟩ := H
  refine ev_iald dX7_goes_14 rfl b2 ?_
  refine ev_istore_n 3 dX7_goes_15 rfl (by decide) ?_
  refine ev_L (L' := [(3, vI (h1.1 48 (Int32.toNatClampNeg (h1.1 27 45)))), (0, vR 27), (1, vI x1), (2, vI x2)]) rfl ?_
  refine ev_iconst 0 dX7_goes_16 (by decide) ?_
  refine ev_istore dX7_goes_17 (by decide) ?_
  refine ev_L (L' := [(4, vI 0), (3, vI (h1.1 48 (Int32.toNatClampNeg (h1.1 27 45)))), (0, vR 27), (1, vI x1), (2, vI x2)]) rfl ?_
  exact ev_sub (L' := [(0, vR 27), (1, vI x1), (2, vI x2), (3, vI (h1.1 48 (Int32.toNatClampNeg (h1.1 27 45)))), (4, vI 0)]) ⟨rfl, rfl, rfl, rfl, rfl, trivial⟩ H
set_option maxRecDepth 20000 in
theorem sX7_goes_19 {h : Hp} {Q : Option AV → Hp → Prop} {x1 : Int32} {x2 : Int32} {x3 : Int32} {x4 : Int32} (H : (vp_in x3 80 ∧ ((((h.1 43 (Int32.toNatClampNeg x3)) ≤ x4) → Ev mX7_goes 68 [(0, vR 27), (3, vI x3), (4, vI x4)] [] h Q) ∧ ((¬ (h.1 43 (Int32.toNatClampNeg x3)) ≤ x4) → (vp_in ((9 * x3) + x4) 720 ∧ (((¬ (h.1 44 (Int32.toNatClampNeg ((9 * x3) + x4))) = x1) → Ev mX7_goes 19 [(0, vR 27), (1, vI x1), (2, vI x2), (3, vI x3), (4, vI (x4 + 1))] [] h Q) ∧ (((h.1 44 (Int32.toNatClampNeg ((9 * x3) + x4))) = x1) → (vp_in ((9 * x3) + x4) 720 ∧ ((((h.1 45 (Int32.toNatClampNeg ((9 * x3) + x4))) = x2) → Ev mX7_goes 68 [(0, vR 27), (3, vI x3), (4, vI x4)] [] h Q) ∧ ((¬ (h.1 45 (Int32.toNatClampNeg ((9 * x3) + x4))) = x2) → Ev mX7_goes 19 [(0, vR 27), (1, vI x1), (2, vI x2), (3, vI x3), (4, vI (x4 + 1))] [] h Q)))))))))) : Ev mX7_goes 19 [(0, vR 27), (1, vI x1), (2, vI x2), (3, vI x3), (4, vI x4)] [] h Q := by
  refine ev_iload dX7_goes_19 (x := x4) rfl ?_
  refine ev_aload_n 0 dX7_goes_21 rfl (x := 27) rfl ?_
  refine ev_getR dX7_goes_22 flX7_66 rfl rfl ?_
  refine ev_iload_n 3 dX7_goes_25 rfl (x := x3) rfl ?_
  obtain ⟨b1, H⟩ := H
  refine ev_iald dX7_goes_26 rfl b1 ?_
  refine ev_icmp_ge 68 dX7_goes_27 (by decide) ⟨fun c2 => ?_, fun c2 => ?_⟩
  · have H := H.1 c2
    exact ev_sub (L' := [(0, vR 27), (3, vI x3), (4, vI x4)]) ⟨rfl, rfl, rfl, trivial⟩ H
  · have H := H.2 c2
    refine ev_aload_n 0 dX7_goes_30 rfl (x := 27) rfl ?_
    refine ev_getR dX7_goes_31 flX7_69 rfl rfl ?_
    refine ev_bipush 9 dX7_goes_34 (by decide) ?_
    refine ev_iload_n 3 dX7_goes_36 rfl (x := x3) rfl ?_
    refine ev_imul dX7_goes_37 ?_
    refine ev_iload dX7_goes_38 (x := x4) rfl ?_
    refine ev_iadd dX7_goes_40 ?_
    obtain ⟨b3, H⟩ := H
    refine ev_iald dX7_goes_41 rfl b3 ?_
    refine ev_iload_n 1 dX7_goes_42 rfl (x := x1) rfl ?_
    refine ev_icmp_ne 62 dX7_goes_43 (by decide) ⟨fun c4 => ?_, fun c4 => ?_⟩
    · have H := H.1 c4
      refine ev_iinc (x := x4) (v := 1) dX7_goes_62 rfl (by decide) (by decide) ?_
      refine ev_L (L' := [(4, vI (x4 + 1)), (0, vR 27), (1, vI x1), (2, vI x2), (3, vI x3)]) rfl ?_
      refine ev_goto 19 dX7_goes_65 (by decide) ?_
      exact ev_sub (L' := [(0, vR 27), (1, vI x1), (2, vI x2), (3, vI x3), (4, vI (x4 + 1))]) ⟨rfl, rfl, rfl, rfl, rfl, trivial⟩ H
    · have H := H.2 c4
      refine ev_aload_n 0 dX7_goes_46 rfl (x := 27) rfl ?_
      refine ev_getR dX7_goes_47 flX7_72 rfl rfl ?_
      refine ev_bipush 9 dX7_goes_50 (by decide) ?_
      refine ev_iload_n 3 dX7_goes_52 rfl (x := x3) rfl ?_
      refine ev_imul dX7_goes_53 ?_
      refine ev_iload dX7_goes_54 (x := x4) rfl ?_
      refine ev_iadd dX7_goes_56 ?_
      obtain ⟨b5, H⟩ := H
      refine ev_iald dX7_goes_57 rfl b5 ?_
      refine ev_iload_n 2 dX7_goes_58 rfl (x := x2) rfl ?_
      refine ev_icmp_eq 68 dX7_goes_59 (by decide) ⟨fun c6 => ?_, fun c6 => ?_⟩
      · have H := H.1 c6
        exact ev_sub (L' := [(0, vR 27), (3, vI x3), (4, vI x4)]) ⟨rfl, rfl, rfl, trivial⟩ H
      · have H := H.2 c6
        refine ev_iinc (x := x4) (v := 1) dX7_goes_62 rfl (by decide) (by decide) ?_
        refine ev_L (L' := [(4, vI (x4 + 1)), (0, vR 27), (1, vI x1), (2, vI x2), (3, vI x3)]) rfl ?_
        refine ev_goto 19 dX7_goes_65 (by decide) ?_
        exact ev_sub (L' := [(0, vR 27), (1, vI x1), (2, vI x2), (3, vI x3), (4, vI (x4 + 1))]) ⟨rfl, rfl, rfl, rfl, rfl, trivial⟩ H
set_option maxRecDepth 20000 in
theorem sX7_goes_68 {h : Hp} {Q : Option AV → Hp → Prop} {x3 : Int32} {x4 : Int32} (H : (vp_in x3 80 ∧ (((¬ x4 = (h.1 43 (Int32.toNatClampNeg x3))) → EvM mX7_closeSlot [vR 27, vI x3, vI x4] h (fun v h3 => v = none ∧ Ev mX7_goes 87 [(0, vR 27), (3, vI x3)] [] h3 Q)) ∧ ((x4 = (h.1 43 (Int32.toNatClampNeg x3))) → Q none h)))) : Ev mX7_goes 68 [(0, vR 27), (3, vI x3), (4, vI x4)] [] h Q := by
  refine ev_iload dX7_goes_68 (x := x4) rfl ?_
  refine ev_aload_n 0 dX7_goes_70 rfl (x := 27) rfl ?_
  refine ev_getR dX7_goes_71 flX7_66 rfl rfl ?_
  refine ev_iload_n 3 dX7_goes_74 rfl (x := x3) rfl ?_
  obtain ⟨b1, H⟩ := H
  refine ev_iald dX7_goes_75 rfl b1 ?_
  refine ev_icmp_ne 80 dX7_goes_76 (by decide) ⟨fun c2 => ?_, fun c2 => ?_⟩
  · have H := H.1 c2
    refine ev_aload_n 0 dX7_goes_80 rfl (x := 27) rfl ?_
    refine ev_iload_n 3 dX7_goes_81 rfl (x := x3) rfl ?_
    refine ev_iload dX7_goes_82 (x := x4) rfl ?_
    refine ev_callV (As := [vI x3, vI x4]) (rest := []) dX7_goes_84 mlX7_185 rm_mX7_goes_mX7_closeSlot rfl rfl rfl rfl (Nat.le_of_ble_eq_true rfl) H (fun v h3 H => ?_)
    obtain ⟨rfl, H⟩ := H
    show Ev mX7_goes 87 [(0, vR 27), (3, vI x3), (4, vI x4)] [] h3 Q
    exact ev_sub (L' := [(0, vR 27), (3, vI x3)]) ⟨rfl, rfl, trivial⟩ H
  · have H := H.2 c2
    exact ev_vret dX7_goes_79 rfl H
set_option maxRecDepth 20000 in
theorem sX7_goes_87 {h : Hp} {Q : Option AV → Hp → Prop} {x3 : Int32} (H : (vp_in x3 80 ∧ (((¬ (h.1 43 (Int32.toNatClampNeg x3)) = 0) → Ev mX7_goes 145 [(0, vR 27)] [] h Q) ∧ (((h.1 43 (Int32.toNatClampNeg x3)) = 0) → ((((h.1 27 45) ≤ 0) → Ev mX7_goes 145 [(0, vR 27)] [] h Q) ∧ ((¬ (h.1 27 45) ≤ 0) → EvM mX7_giveBack [vR 27, vI x3] h (fun v h4 => v = none ∧ (∀ h5 : Hp, h5 = sI h4 27 (upd (h4.1 27) 45 ((h4.1 27 45) - 1)) → (vp_in (h5.1 27 45) 16 ∧ (vp_in (h5.1 27 45) 16 ∧ EvM mX7_closeSlot [vR 27, vI (h5.1 48 (Int32.toNatClampNeg (h5.1 27 45))), vI (h5.1 49 (Int32.toNatClampNeg (h5.1 27 45)))] h5 (fun v h8 => v = none ∧ Ev mX7_goes 87 [(0, vR 27), (3, vI (h5.1 48 (Int32.toNatClampNeg (h5.1 27 45))))] [] h8 Q))))))))))) : Ev mX7_goes 87 [(0, vR 27), (3, vI x3)] [] h Q := by
  refine ev_aload_n 0 dX7_goes_87 rfl (x := 27) rfl ?_
  refine ev_getR dX7_goes_88 flX7_66 rfl rfl ?_
  refine ev_iload_n 3 dX7_goes_91 rfl (x := x3) rfl ?_
  obtain ⟨b1, H⟩ := H
  refine ev_iald dX7_goes_92 rfl b1 ?_
  refine ev_if_ne 145 dX7_goes_93 (by decide) ⟨fun c2 => ?_, fun c2 => ?_⟩
  · have H := H.1 c2
    exact ev_sub (L' := [(0, vR 27)]) ⟨rfl, trivial⟩ H
  · have H := H.2 c2
    refine ev_aload_n 0 dX7_goes_96 rfl (x := 27) rfl ?_
    refine ev_getI dX7_goes_97 flX7_157 rfl rfl ?_
    refine ev_if_le 145 dX7_goes_100 (by decide) ⟨fun c3 => ?_, fun c3 => ?_⟩
    · have H := H.1 c3
      exact ev_sub (L' := [(0, vR 27)]) ⟨rfl, trivial⟩ H
    · have H := H.2 c3
      refine ev_aload_n 0 dX7_goes_103 rfl (x := 27) rfl ?_
      refine ev_iload_n 3 dX7_goes_104 rfl (x := x3) rfl ?_
      refine ev_callV (As := [vI x3]) (rest := []) dX7_goes_105 mlX7_188 rm_mX7_goes_mX7_giveBack rfl rfl rfl rfl (Nat.le_of_ble_eq_true rfl) H (fun v h4 H => ?_)
      obtain ⟨rfl, H⟩ := H
      show Ev mX7_goes 108 [(0, vR 27), (3, vI x3)] [] h4 Q
      refine ev_aload_n 0 dX7_goes_108 rfl (x := 27) rfl ?_
      refine ev_dup dX7_goes_109 rfl ?_
      refine ev_getI dX7_goes_110 flX7_157 rfl rfl ?_
      refine ev_iconst 1 dX7_goes_113 (by decide) ?_
      refine ev_isub dX7_goes_114 ?_
      refine ev_putI dX7_goes_115 fpX7_157 rfl rfl   ?_
      obtain ⟨h5, eh5⟩ : ∃ z : Hp, z = sI h4 27 (upd (h4.1 27) 45 ((h4.1 27 45) - 1)) := ⟨_, rfl⟩
      rw [← eh5]
      have H := H h5 eh5
      refine ev_aload_n 0 dX7_goes_118 rfl (x := 27) rfl ?_
      refine ev_getR dX7_goes_119 flX7_81 rfl rfl ?_
      refine ev_aload_n 0 dX7_goes_122 rfl (x := 27) rfl ?_
      refine ev_getI dX7_goes_123 flX7_157 rfl rfl ?_
      obtain ⟨b6, H⟩ := H
      refine ev_iald dX7_goes_126 rfl b6 ?_
      refine ev_istore_n 3 dX7_goes_127 rfl (by decide) ?_
      refine ev_L (L' := [(3, vI (h5.1 48 (Int32.toNatClampNeg (h5.1 27 45)))), (0, vR 27)]) rfl ?_
      refine ev_aload_n 0 dX7_goes_128 rfl (x := 27) rfl ?_
      refine ev_iload_n 3 dX7_goes_129 rfl (x := (h5.1 48 (Int32.toNatClampNeg (h5.1 27 45)))) rfl ?_
      refine ev_aload_n 0 dX7_goes_130 rfl (x := 27) rfl ?_
      refine ev_getR dX7_goes_131 flX7_84 rfl rfl ?_
      refine ev_aload_n 0 dX7_goes_134 rfl (x := 27) rfl ?_
      refine ev_getI dX7_goes_135 flX7_157 rfl rfl ?_
      obtain ⟨b7, H⟩ := H
      refine ev_iald dX7_goes_138 rfl b7 ?_
      refine ev_callV (As := [vI (h5.1 48 (Int32.toNatClampNeg (h5.1 27 45))), vI (h5.1 49 (Int32.toNatClampNeg (h5.1 27 45)))]) (rest := []) dX7_goes_139 mlX7_185 rm_mX7_goes_mX7_closeSlot rfl rfl rfl rfl (Nat.le_of_ble_eq_true rfl) H (fun v h8 H => ?_)
      obtain ⟨rfl, H⟩ := H
      show Ev mX7_goes 142 [(3, vI (h5.1 48 (Int32.toNatClampNeg (h5.1 27 45)))), (0, vR 27)] [] h8 Q
      refine ev_goto 87 dX7_goes_142 (by decide) ?_
      exact ev_sub (L' := [(0, vR 27), (3, vI (h5.1 48 (Int32.toNatClampNeg (h5.1 27 45))))]) ⟨rfl, rfl, trivial⟩ H
set_option maxRecDepth 20000 in
theorem sX7_goes_145 {h : Hp} {Q : Option AV → Hp → Prop} (H : (vp_in (h.1 27 34) 80 ∧ (((¬ (h.1 41 (Int32.toNatClampNeg (h.1 27 34))) = 0) → Q none h) ∧ (((h.1 41 (Int32.toNatClampNeg (h.1 27 34))) = 0) → (vp_in (h.1 27 34) 80 ∧ (((¬ (h.1 43 (Int32.toNatClampNeg (h.1 27 34))) = 1) → Q none h) ∧ (((h.1 43 (Int32.toNatClampNeg (h.1 27 34))) = 1) → (vp_in (9 * (h.1 27 34)) 720 ∧ EvM mX7_giveBack [vR 27, vI (h.1 27 34)] h (fun v h6 => v = none ∧ (∀ h7 : Hp, h7 = sI h6 27 (upd (h6.1 27) 34 (h.1 46 (Int32.toNatClampNeg (9 * (h.1 27 34))))) → Ev mX7_goes 145 [(0, vR 27)] [] h7 Q)))))))))) : Ev mX7_goes 145 [(0, vR 27)] [] h Q := by
  refine ev_aload_n 0 dX7_goes_145 rfl (x := 27) rfl ?_
  refine ev_getR dX7_goes_146 flX7_60 rfl rfl ?_
  refine ev_aload_n 0 dX7_goes_149 rfl (x := 27) rfl ?_
  refine ev_getI dX7_goes_150 flX7_160 rfl rfl ?_
  obtain ⟨b1, H⟩ := H
  refine ev_zald dX7_goes_153 rfl b1 ?_
  refine ev_if_ne 201 dX7_goes_154 (by decide) ⟨fun c2 => ?_, fun c2 => ?_⟩
  · have H := H.1 c2
    exact ev_vret dX7_goes_201 rfl H
  · have H := H.2 c2
    refine ev_aload_n 0 dX7_goes_157 rfl (x := 27) rfl ?_
    refine ev_getR dX7_goes_158 flX7_66 rfl rfl ?_
    refine ev_aload_n 0 dX7_goes_161 rfl (x := 27) rfl ?_
    refine ev_getI dX7_goes_162 flX7_160 rfl rfl ?_
    obtain ⟨b3, H⟩ := H
    refine ev_iald dX7_goes_165 rfl b3 ?_
    refine ev_iconst 1 dX7_goes_166 (by decide) ?_
    refine ev_icmp_ne 201 dX7_goes_167 (by decide) ⟨fun c4 => ?_, fun c4 => ?_⟩
    · have H := H.1 c4
      exact ev_vret dX7_goes_201 rfl H
    · have H := H.2 c4
      refine ev_aload_n 0 dX7_goes_170 rfl (x := 27) rfl ?_
      refine ev_getR dX7_goes_171 flX7_75 rfl rfl ?_
      refine ev_bipush 9 dX7_goes_174 (by decide) ?_
      refine ev_aload_n 0 dX7_goes_176 rfl (x := 27) rfl ?_
      refine ev_getI dX7_goes_177 flX7_160 rfl rfl ?_
      refine ev_imul dX7_goes_180 ?_
      obtain ⟨b5, H⟩ := H
      refine ev_iald dX7_goes_181 rfl b5 ?_
      refine ev_istore dX7_goes_182 (by decide) ?_
      refine ev_L (L' := [(5, vI (h.1 46 (Int32.toNatClampNeg (9 * (h.1 27 34))))), (0, vR 27)]) rfl ?_
      refine ev_aload_n 0 dX7_goes_184 rfl (x := 27) rfl ?_
      refine ev_aload_n 0 dX7_goes_185 rfl (x := 27) rfl ?_
      refine ev_getI dX7_goes_186 flX7_160 rfl rfl ?_
      refine ev_callV (As := [vI (h.1 27 34)]) (rest := []) dX7_goes_189 mlX7_188 rm_mX7_goes_mX7_giveBack rfl rfl rfl rfl (Nat.le_of_ble_eq_true rfl) H (fun v h6 H => ?_)
      obtain ⟨rfl, H⟩ := H
      show Ev mX7_goes 192 [(5, vI (h.1 46 (Int32.toNatClampNeg (9 * (h.1 27 34))))), (0, vR 27)] [] h6 Q
      refine ev_aload_n 0 dX7_goes_192 rfl (x := 27) rfl ?_
      refine ev_iload dX7_goes_193 (x := (h.1 46 (Int32.toNatClampNeg (9 * (h.1 27 34))))) rfl ?_
      refine ev_putI dX7_goes_195 fpX7_160 rfl rfl   ?_
      obtain ⟨h7, eh7⟩ : ∃ z : Hp, z = sI h6 27 (upd (h6.1 27) 34 (h.1 46 (Int32.toNatClampNeg (9 * (h.1 27 34))))) := ⟨_, rfl⟩
      rw [← eh7]
      have H := H h7 eh7
      refine ev_goto 145 dX7_goes_198 (by decide) ?_
      exact ev_sub (L' := [(0, vR 27)]) ⟨rfl, trivial⟩ H
set_option maxRecDepth 20000 in
theorem sX7_note {h : Hp} {Q : Option AV → Hp → Prop} {x1 : Int32} {x2 : Int32} {x3 : Int32} (H : (((¬ (h.1 27 11) = 5) → EvM mX7_in [vI (h.1 27 11), vI 1, vI 4] h (fun v h2 => ∃ r3 : Int32, v = some (vI r3) ∧ (((r3 = 0) → Q none h2) ∧ ((¬ r3 = 0) → ((((h2.1 27 16) ≤ (x3 / 12)) → Q none h2) ∧ ((¬ (h2.1 27 16) ≤ (x3 / 12)) → (((¬ (h2.1 27 22) = 40) → (vp_in (h2.1 27 22) 40 ∧ ((x1 = 0 ∨ x1 = 1) ∧ (∀ h9 : Hp, h9 = sI h2 35 (upd (h2.1 35) (Int32.toNatClampNeg (h2.1 27 22)) x1) → (vp_in (h9.1 27 22) 40 ∧ (∀ h11 : Hp, h11 = sI h9 36 (upd (h9.1 36) (Int32.toNatClampNeg (h9.1 27 22)) x2) → (vp_in (h11.1 27 22) 40 ∧ (∀ h13 : Hp, h13 = sI h11 37 (upd (h11.1 37) (Int32.toNatClampNeg (h11.1 27 22)) x3) → (∀ h14 : Hp, h14 = sI h13 27 (upd (h13.1 27) 22 ((h13.1 27 22) + 1)) → Q none h14))))))))) ∧ (((h2.1 27 22) = 40) → EvM mX7_stop [vR 27, vI 1] h2 (fun v h15 => v = none ∧ Q none h15))))))))) ∧ (((h.1 27 11) = 5) → (((x1 = 0) → EvM mX7_goes [vR 27, vI x2, vI x3] h (fun v h17 => v = none ∧ Ev mX7_note 27 [(0, vR 27)] [] h17 Q)) ∧ ((¬ x1 = 0) → EvM mX7_comes [vR 27, vI x2, vI x3] h (fun v h18 => v = none ∧ Ev mX7_note 27 [(0, vR 27)] [] h18 Q)))))) : EvM mX7_note [vR 27, vI x1, vI x2, vI x3] h Q := by
  refine evM_of (by decide) rfl (Nat.le_of_ble_eq_true rfl) ?_
  show Ev mX7_note 0 [(0, vR 27), (1, vI x1), (2, vI x2), (3, vI x3)] [] h Q
  refine ev_aload_n 0 dX7_note_0 rfl (x := 27) rfl ?_
  refine ev_getI dX7_note_1 flX7_106 rfl rfl ?_
  refine ev_iconst 5 dX7_note_4 (by decide) ?_
  refine ev_icmp_ne 44 dX7_note_5 (by decide) ⟨fun c1 => ?_, fun c1 => ?_⟩
  · have H := H.1 c1
    refine ev_aload_n 0 dX7_note_44 rfl (x := 27) rfl ?_
    refine ev_getI dX7_note_45 flX7_106 rfl rfl ?_
    refine ev_iconst 1 dX7_note_48 (by decide) ?_
    refine ev_iconst 4 dX7_note_49 (by decide) ?_
    refine ev_callS (As := [vI (h.1 27 11), vI 1, vI 4]) (rest := []) dX7_note_50 mlX7_201 rm_mX7_note_mX7_in rfl rfl (Nat.le_of_ble_eq_true rfl) H (fun v h2 H => ?_)
    obtain ⟨r3, rfl, H⟩ := H
    show Ev mX7_note 53 [(0, vR 27), (1, vI x1), (2, vI x2), (3, vI x3)] [vI r3] h2 Q
    refine ev_if_eq 122 dX7_note_53 (by decide) ⟨fun c4 => ?_, fun c4 => ?_⟩
    · have H := H.1 c4
      exact ev_vret dX7_note_122 rfl H
    · have H := H.2 c4
      refine ev_iload_n 3 dX7_note_56 rfl (x := x3) rfl ?_
      refine ev_bipush 12 dX7_note_57 (by decide) ?_
      refine ev_idiv dX7_note_59 (by decide) ?_
      refine ev_aload_n 0 dX7_note_60 rfl (x := 27) rfl ?_
      refine ev_getI dX7_note_61 flX7_139 rfl rfl ?_
      refine ev_icmp_ge 122 dX7_note_64 (by decide) ⟨fun c5 => ?_, fun c5 => ?_⟩
      · have H := H.1 c5
        exact ev_vret dX7_note_122 rfl H
      · have H := H.2 c5
        refine ev_aload_n 0 dX7_note_67 rfl (x := 27) rfl ?_
        refine ev_getI dX7_note_68 flX7_148 rfl rfl ?_
        refine ev_bipush 40 dX7_note_71 (by decide) ?_
        refine ev_icmp_ne 82 dX7_note_73 (by decide) ⟨fun c6 => ?_, fun c6 => ?_⟩
        · have H := H.1 c6
          refine ev_aload_n 0 dX7_note_82 rfl (x := 27) rfl ?_
          refine ev_getR dX7_note_83 flX7_42 rfl rfl ?_
          refine ev_aload_n 0 dX7_note_86 rfl (x := 27) rfl ?_
          refine ev_getI dX7_note_87 flX7_148 rfl rfl ?_
          refine ev_iload_n 1 dX7_note_90 rfl (x := x1) rfl ?_
          obtain ⟨b7, H⟩ := H
          obtain ⟨z8, H⟩ := H
          refine ev_zast dX7_note_91 rfl b7 z8 ?_
          obtain ⟨h9, eh9⟩ : ∃ z : Hp, z = sI h2 35 (upd (h2.1 35) (Int32.toNatClampNeg (h2.1 27 22)) x1) := ⟨_, rfl⟩
          rw [← eh9]
          have H := H h9 eh9
          refine ev_aload_n 0 dX7_note_92 rfl (x := 27) rfl ?_
          refine ev_getR dX7_note_93 flX7_45 rfl rfl ?_
          refine ev_aload_n 0 dX7_note_96 rfl (x := 27) rfl ?_
          refine ev_getI dX7_note_97 flX7_148 rfl rfl ?_
          refine ev_iload_n 2 dX7_note_100 rfl (x := x2) rfl ?_
          obtain ⟨b10, H⟩ := H
          refine ev_iast dX7_note_101 rfl b10  ?_
          obtain ⟨h11, eh11⟩ : ∃ z : Hp, z = sI h9 36 (upd (h9.1 36) (Int32.toNatClampNeg (h9.1 27 22)) x2) := ⟨_, rfl⟩
          rw [← eh11]
          have H := H h11 eh11
          refine ev_aload_n 0 dX7_note_102 rfl (x := 27) rfl ?_
          refine ev_getR dX7_note_103 flX7_48 rfl rfl ?_
          refine ev_aload_n 0 dX7_note_106 rfl (x := 27) rfl ?_
          refine ev_getI dX7_note_107 flX7_148 rfl rfl ?_
          refine ev_iload_n 3 dX7_note_110 rfl (x := x3) rfl ?_
          obtain ⟨b12, H⟩ := H
          refine ev_iast dX7_note_111 rfl b12  ?_
          obtain ⟨h13, eh13⟩ : ∃ z : Hp, z = sI h11 37 (upd (h11.1 37) (Int32.toNatClampNeg (h11.1 27 22)) x3) := ⟨_, rfl⟩
          rw [← eh13]
          have H := H h13 eh13
          refine ev_aload_n 0 dX7_note_112 rfl (x := 27) rfl ?_
          refine ev_dup dX7_note_113 rfl ?_
          refine ev_getI dX7_note_114 flX7_148 rfl rfl ?_
          refine ev_iconst 1 dX7_note_117 (by decide) ?_
          refine ev_iadd dX7_note_118 ?_
          refine ev_putI dX7_note_119 fpX7_148 rfl rfl   ?_
          obtain ⟨h14, eh14⟩ : ∃ z : Hp, z = sI h13 27 (upd (h13.1 27) 22 ((h13.1 27 22) + 1)) := ⟨_, rfl⟩
          rw [← eh14]
          have H := H h14 eh14
          exact ev_vret dX7_note_122 rfl H
        · have H := H.2 c6
          refine ev_aload_n 0 dX7_note_76 rfl (x := 27) rfl ?_
          refine ev_iconst 1 dX7_note_77 (by decide) ?_
          refine ev_callV (As := [vI 1]) (rest := []) dX7_note_78 mlX7_198 rm_mX7_note_mX7_stop rfl rfl rfl rfl (Nat.le_of_ble_eq_true rfl) H (fun v h15 H => ?_)
          obtain ⟨rfl, H⟩ := H
          show Ev mX7_note 81 [(0, vR 27), (1, vI x1), (2, vI x2), (3, vI x3)] [] h15 Q
          exact ev_vret dX7_note_81 rfl H
  · have H := H.2 c1
    refine ev_iload_n 1 dX7_note_8 rfl (x := x1) rfl ?_
    refine ev_if_eq 21 dX7_note_9 (by decide) ⟨fun c16 => ?_, fun c16 => ?_⟩
    · have H := H.1 c16
      refine ev_aload_n 0 dX7_note_21 rfl (x := 27) rfl ?_
      refine ev_iload_n 2 dX7_note_22 rfl (x := x2) rfl ?_
      refine ev_iload_n 3 dX7_note_23 rfl (x := x3) rfl ?_
      refine ev_callV (As := [vI x2, vI x3]) (rest := []) dX7_note_24 mlX7_195 rm_mX7_note_mX7_goes rfl rfl rfl rfl (Nat.le_of_ble_eq_true rfl) H (fun v h17 H => ?_)
      obtain ⟨rfl, H⟩ := H
      show Ev mX7_note 27 [(0, vR 27), (1, vI x1), (2, vI x2), (3, vI x3)] [] h17 Q
      exact ev_sub (L' := [(0, vR 27)]) ⟨rfl, trivial⟩ H
    · have H := H.2 c16
      refine ev_aload_n 0 dX7_note_12 rfl (x := 27) rfl ?_
      refine ev_iload_n 2 dX7_note_13 rfl (x := x2) rfl ?_
      refine ev_iload_n 3 dX7_note_14 rfl (x := x3) rfl ?_
      refine ev_callV (As := [vI x2, vI x3]) (rest := []) dX7_note_15 mlX7_192 rm_mX7_note_mX7_comes rfl rfl rfl rfl (Nat.le_of_ble_eq_true rfl) H (fun v h18 H => ?_)
      obtain ⟨rfl, H⟩ := H
      show Ev mX7_note 18 [(0, vR 27), (1, vI x1), (2, vI x2), (3, vI x3)] [] h18 Q
      refine ev_goto 27 dX7_note_18 (by decide) ?_
      exact ev_sub (L' := [(0, vR 27)]) ⟨rfl, trivial⟩ H
set_option maxRecDepth 20000 in
theorem sX7_note_27 {h : Hp} {Q : Option AV → Hp → Prop} (H : ((((h.1 27 33) ≤ 64) → Q none h) ∧ ((¬ (h.1 27 33) ≤ 64) → EvM mX7_stop [vR 27, vI 2] h (fun v h2 => v = none ∧ Q none h2)))) : Ev mX7_note 27 [(0, vR 27)] [] h Q := by
  refine ev_aload_n 0 dX7_note_27 rfl (x := 27) rfl ?_
  refine ev_getI dX7_note_28 flX7_151 rfl rfl ?_
  refine ev_bipush 64 dX7_note_31 (by decide) ?_
  refine ev_icmp_le 122 dX7_note_33 (by decide) ⟨fun c1 => ?_, fun c1 => ?_⟩
  · have H := H.1 c1
    exact ev_vret dX7_note_122 rfl H
  · have H := H.2 c1
    refine ev_aload_n 0 dX7_note_36 rfl (x := 27) rfl ?_
    refine ev_iconst 2 dX7_note_37 (by decide) ?_
    refine ev_callV (As := [vI 2]) (rest := []) dX7_note_38 mlX7_198 rm_mX7_note_mX7_stop rfl rfl rfl rfl (Nat.le_of_ble_eq_true rfl) H (fun v h2 H => ?_)
    obtain ⟨rfl, H⟩ := H
    show Ev mX7_note 41 [(0, vR 27)] [] h2 Q
    refine ev_goto 122 dX7_note_41 (by decide) ?_
    exact ev_vret dX7_note_122 rfl H
set_option maxRecDepth 20000 in
theorem sX7_clashes {h : Hp} {Q : Option AV → Hp → Prop} {x1 : Int32} {x2 : Int32} (H : Ev mX7_clashes 5 [(0, vR 27), (1, vI x1), (2, vI x2), (3, vI 0), (4, vI 0)] [] h Q) : EvM mX7_clashes [vR 27, vI x1, vI x2] h Q := by
  refine evM_of (by decide) rfl (Nat.le_of_ble_eq_true rfl) ?_
  show Ev mX7_clashes 0 [(0, vR 27), (1, vI x1), (2, vI x2)] [] h Q
  refine ev_iconst 0 dX7_clashes_0 (by decide) ?_
  refine ev_istore_n 3 dX7_clashes_1 rfl (by decide) ?_
  refine ev_L (L' := [(3, vI 0), (0, vR 27), (1, vI x1), (2, vI x2)]) rfl ?_
  refine ev_iconst 0 dX7_clashes_2 (by decide) ?_
  refine ev_istore dX7_clashes_3 (by decide) ?_
  refine ev_L (L' := [(4, vI 0), (3, vI 0), (0, vR 27), (1, vI x1), (2, vI x2)]) rfl ?_
  exact ev_sub (L' := [(0, vR 27), (1, vI x1), (2, vI x2), (3, vI 0), (4, vI 0)]) ⟨rfl, rfl, rfl, rfl, rfl, trivial⟩ H
set_option maxRecDepth 20000 in
theorem sX7_clashes_5 {h : Hp} {Q : Option AV → Hp → Prop} {x1 : Int32} {x2 : Int32} {x3 : Int32} {x4 : Int32} (H : (((240 ≤ x4) → ((x3 = 0 ∨ x3 = 1) ∧ Q (some (vI x3)) h)) ∧ ((¬ 240 ≤ x4) → (((¬ (h.1 27 11) = 5) → ((x3 = 0 ∨ x3 = 1) ∧ Q (some (vI x3)) h)) ∧ (((h.1 27 11) = 5) → ((((h.1 27 12) = 0) → ((x3 = 0 ∨ x3 = 1) ∧ Q (some (vI x3)) h)) ∧ ((¬ (h.1 27 12) = 0) → (((¬ x3 = 0) → Ev mX7_clashes 5 [(0, vR 27), (1, vI x1), (2, vI x2), (3, vI 1), (4, vI (x4 + 1))] [] h Q) ∧ ((x3 = 0) → (((x4 = x2) → Ev mX7_clashes 5 [(0, vR 27), (1, vI x1), (2, vI x2), (3, vI 0), (4, vI (x4 + 1))] [] h Q) ∧ ((¬ x4 = x2) → (vp_in x4 240 ∧ ((((h.1 28 (Int32.toNatClampNeg x4)) = 0) → Ev mX7_clashes 5 [(0, vR 27), (1, vI x1), (2, vI x2), (3, vI 0), (4, vI (x4 + 1))] [] h Q) ∧ ((¬ (h.1 28 (Int32.toNatClampNeg x4)) = 0) → (vp_in x4 240 ∧ (((¬ (h.1 29 (Int32.toNatClampNeg x4)) = x1) → Ev mX7_clashes 5 [(0, vR 27), (1, vI x1), (2, vI x2), (3, vI 0), (4, vI (x4 + 1))] [] h Q) ∧ (((h.1 29 (Int32.toNatClampNeg x4)) = x1) → Ev mX7_clashes 5 [(0, vR 27), (1, vI x1), (2, vI x2), (3, vI 1), (4, vI (x4 + 1))] [] h Q))))))))))))))))) : Ev mX7_clashes 5 [(0, vR 27), (1, vI x1), (2, vI x2), (3, vI x3), (4, vI x4)] [] h Q := by
  refine ev_iload dX7_clashes_5 (x := x4) rfl ?_
  refine ev_sipush 240 dX7_clashes_7 (by decide) ?_
  refine ev_icmp_ge 71 dX7_clashes_10 (by decide) ⟨fun c1 => ?_, fun c1 => ?_⟩
  · have H := H.1 c1
    refine ev_iload_n 3 dX7_clashes_71 rfl (x := x3) rfl ?_
    exact ev_zret dX7_clashes_72 rfl H.1 H.2
  · have H := H.2 c1
    refine ev_aload_n 0 dX7_clashes_13 rfl (x := 27) rfl ?_
    refine ev_getI dX7_clashes_14 flX7_106 rfl rfl ?_
    refine ev_iconst 5 dX7_clashes_17 (by decide) ?_
    refine ev_icmp_ne 71 dX7_clashes_18 (by decide) ⟨fun c2 => ?_, fun c2 => ?_⟩
    · have H := H.1 c2
      refine ev_iload_n 3 dX7_clashes_71 rfl (x := x3) rfl ?_
      exact ev_zret dX7_clashes_72 rfl H.1 H.2
    · have H := H.2 c2
      refine ev_aload_n 0 dX7_clashes_21 rfl (x := 27) rfl ?_
      refine ev_getI dX7_clashes_22 flX7_154 rfl rfl ?_
      refine ev_if_eq 71 dX7_clashes_25 (by decide) ⟨fun c3 => ?_, fun c3 => ?_⟩
      · have H := H.1 c3
        refine ev_iload_n 3 dX7_clashes_71 rfl (x := x3) rfl ?_
        exact ev_zret dX7_clashes_72 rfl H.1 H.2
      · have H := H.2 c3
        refine ev_iload_n 3 dX7_clashes_28 rfl (x := x3) rfl ?_
        refine ev_if_ne 59 dX7_clashes_29 (by decide) ⟨fun c4 => ?_, fun c4 => ?_⟩
        · have H := H.1 c4
          refine ev_iconst 1 dX7_clashes_59 (by decide) ?_
          refine ev_goto 64 dX7_clashes_60 (by decide) ?_
          refine ev_istore_n 3 dX7_clashes_64 rfl (by decide) ?_
          refine ev_L (L' := [(3, vI 1), (0, vR 27), (1, vI x1), (2, vI x2), (4, vI x4)]) rfl ?_
          refine ev_iinc (x := x4) (v := 1) dX7_clashes_65 rfl (by decide) (by decide) ?_
          refine ev_L (L' := [(4, vI (x4 + 1)), (3, vI 1), (0, vR 27), (1, vI x1), (2, vI x2)]) rfl ?_
          refine ev_goto 5 dX7_clashes_68 (by decide) ?_
          exact ev_sub (L' := [(0, vR 27), (1, vI x1), (2, vI x2), (3, vI 1), (4, vI (x4 + 1))]) ⟨rfl, rfl, rfl, rfl, rfl, trivial⟩ H
        · have H := H.2 c4
          refine ev_iload dX7_clashes_32 (x := x4) rfl ?_
          refine ev_iload_n 2 dX7_clashes_34 rfl (x := x2) rfl ?_
          refine ev_icmp_eq 63 dX7_clashes_35 (by decide) ⟨fun c5 => ?_, fun c5 => ?_⟩
          · have H := H.1 c5
            refine ev_iconst 0 dX7_clashes_63 (by decide) ?_
            refine ev_istore_n 3 dX7_clashes_64 rfl (by decide) ?_
            refine ev_L (L' := [(3, vI 0), (0, vR 27), (1, vI x1), (2, vI x2), (4, vI x4)]) rfl ?_
            refine ev_iinc (x := x4) (v := 1) dX7_clashes_65 rfl (by decide) (by decide) ?_
            refine ev_L (L' := [(4, vI (x4 + 1)), (3, vI 0), (0, vR 27), (1, vI x1), (2, vI x2)]) rfl ?_
            refine ev_goto 5 dX7_clashes_68 (by decide) ?_
            exact ev_sub (L' := [(0, vR 27), (1, vI x1), (2, vI x2), (3, vI 0), (4, vI (x4 + 1))]) ⟨rfl, rfl, rfl, rfl, rfl, trivial⟩ H
          · have H := H.2 c5
            refine ev_aload_n 0 dX7_clashes_38 rfl (x := 27) rfl ?_
            refine ev_getR dX7_clashes_39 flX7_7 rfl rfl ?_
            refine ev_iload dX7_clashes_42 (x := x4) rfl ?_
            obtain ⟨b6, H⟩ := H
            refine ev_zald dX7_clashes_44 rfl b6 ?_
            refine ev_if_eq 63 dX7_clashes_45 (by decide) ⟨fun c7 => ?_, fun c7 => ?_⟩
            · have H := H.1 c7
              refine ev_iconst 0 dX7_clashes_63 (by decide) ?_
              refine ev_istore_n 3 dX7_clashes_64 rfl (by decide) ?_
              refine ev_L (L' := [(3, vI 0), (0, vR 27), (1, vI x1), (2, vI x2), (4, vI x4)]) rfl ?_
              refine ev_iinc (x := x4) (v := 1) dX7_clashes_65 rfl (by decide) (by decide) ?_
              refine ev_L (L' := [(4, vI (x4 + 1)), (3, vI 0), (0, vR 27), (1, vI x1), (2, vI x2)]) rfl ?_
              refine ev_goto 5 dX7_clashes_68 (by decide) ?_
              exact ev_sub (L' := [(0, vR 27), (1, vI x1), (2, vI x2), (3, vI 0), (4, vI (x4 + 1))]) ⟨rfl, rfl, rfl, rfl, rfl, trivial⟩ H
            · have H := H.2 c7
              refine ev_aload_n 0 dX7_clashes_48 rfl (x := 27) rfl ?_
              refine ev_getR dX7_clashes_49 flX7_13 rfl rfl ?_
              refine ev_iload dX7_clashes_52 (x := x4) rfl ?_
              obtain ⟨b8, H⟩ := H
              refine ev_iald dX7_clashes_54 rfl b8 ?_
              refine ev_iload_n 1 dX7_clashes_55 rfl (x := x1) rfl ?_
              refine ev_icmp_ne 63 dX7_clashes_56 (by decide) ⟨fun c9 => ?_, fun c9 => ?_⟩
              · have H := H.1 c9
                refine ev_iconst 0 dX7_clashes_63 (by decide) ?_
                refine ev_istore_n 3 dX7_clashes_64 rfl (by decide) ?_
                refine ev_L (L' := [(3, vI 0), (0, vR 27), (1, vI x1), (2, vI x2), (4, vI x4)]) rfl ?_
                refine ev_iinc (x := x4) (v := 1) dX7_clashes_65 rfl (by decide) (by decide) ?_
                refine ev_L (L' := [(4, vI (x4 + 1)), (3, vI 0), (0, vR 27), (1, vI x1), (2, vI x2)]) rfl ?_
                refine ev_goto 5 dX7_clashes_68 (by decide) ?_
                exact ev_sub (L' := [(0, vR 27), (1, vI x1), (2, vI x2), (3, vI 0), (4, vI (x4 + 1))]) ⟨rfl, rfl, rfl, rfl, rfl, trivial⟩ H
              · have H := H.2 c9
                refine ev_iconst 1 dX7_clashes_59 (by decide) ?_
                refine ev_goto 64 dX7_clashes_60 (by decide) ?_
                refine ev_istore_n 3 dX7_clashes_64 rfl (by decide) ?_
                refine ev_L (L' := [(3, vI 1), (0, vR 27), (1, vI x1), (2, vI x2), (4, vI x4)]) rfl ?_
                refine ev_iinc (x := x4) (v := 1) dX7_clashes_65 rfl (by decide) (by decide) ?_
                refine ev_L (L' := [(4, vI (x4 + 1)), (3, vI 1), (0, vR 27), (1, vI x1), (2, vI x2)]) rfl ?_
                refine ev_goto 5 dX7_clashes_68 (by decide) ?_
                exact ev_sub (L' := [(0, vR 27), (1, vI x1), (2, vI x2), (3, vI 1), (4, vI (x4 + 1))]) ⟨rfl, rfl, rfl, rfl, rfl, trivial⟩ H
set_option maxRecDepth 20000 in
theorem sX7_add {h : Hp} {Q : Option AV → Hp → Prop} {x1 : Int32} {x2 : Int32} (H : (∀ h1 : Hp, h1 = sI h 27 (upd (h.1 27) 0 0) → ((((h1.1 27 4) = 0) → Ev mX7_add 17 [(0, vR 27), (1, vI x1), (2, vI x2), (3, vI 0)] [] h1 Q) ∧ ((¬ (h1.1 27 4) = 0) → Q (some (vI (-100))) h1)))) : EvM mX7_add [vR 27, vI x1, vI x2] h Q := by
  refine evM_of (by decide) rfl (Nat.le_of_ble_eq_true rfl) ?_
  show Ev mX7_add 0 [(0, vR 27), (1, vI x1), (2, vI x2)] [] h Q
  refine ev_aload_n 0 dX7_add_0 rfl (x := 27) rfl ?_
  refine ev_iconst 0 dX7_add_1 (by decide) ?_
  refine ev_putI dX7_add_2 fpX7_96 rfl rfl   ?_
  obtain ⟨h1, eh1⟩ : ∃ z : Hp, z = sI h 27 (upd (h.1 27) 0 0) := ⟨_, rfl⟩
  rw [← eh1]
  have H := H h1 eh1
  refine ev_aload_n 0 dX7_add_5 rfl (x := 27) rfl ?_
  refine ev_getI dX7_add_6 flX7_102 rfl rfl ?_
  refine ev_if_eq 15 dX7_add_9 (by decide) ⟨fun c2 => ?_, fun c2 => ?_⟩
  · have H := H.1 c2
    refine ev_iconst 0 dX7_add_15 (by decide) ?_
    refine ev_istore_n 3 dX7_add_16 rfl (by decide) ?_
    refine ev_L (L' := [(3, vI 0), (0, vR 27), (1, vI x1), (2, vI x2)]) rfl ?_
    exact ev_sub (L' := [(0, vR 27), (1, vI x1), (2, vI x2), (3, vI 0)]) ⟨rfl, rfl, rfl, rfl, trivial⟩ H
  · have H := H.2 c2
    refine ev_bipush (-100) dX7_add_12 (by decide) ?_
    exact ev_iret dX7_add_14 rfl H
set_option maxRecDepth 20000 in
theorem sX7_add_17 {h : Hp} {Q : Option AV → Hp → Prop} {x1 : Int32} {x2 : Int32} {x3 : Int32} (H : (((240 ≤ x3) → Ev mX7_add 39 [(0, vR 27), (1, vI x1), (2, vI x2), (3, vI x3)] [] h Q) ∧ ((¬ 240 ≤ x3) → (vp_in x3 240 ∧ ((((h.1 28 (Int32.toNatClampNeg x3)) = 0) → Ev mX7_add 39 [(0, vR 27), (1, vI x1), (2, vI x2), (3, vI x3)] [] h Q) ∧ ((¬ (h.1 28 (Int32.toNatClampNeg x3)) = 0) → Ev mX7_add 17 [(0, vR 27), (1, vI x1), (2, vI x2), (3, vI (x3 + 1))] [] h Q)))))) : Ev mX7_add 17 [(0, vR 27), (1, vI x1), (2, vI x2), (3, vI x3)] [] h Q := by
  refine ev_iload_n 3 dX7_add_17 rfl (x := x3) rfl ?_
  refine ev_sipush 240 dX7_add_18 (by decide) ?_
  refine ev_icmp_ge 39 dX7_add_21 (by decide) ⟨fun c1 => ?_, fun c1 => ?_⟩
  · have H := H.1 c1
    exact ev_sub (L' := [(0, vR 27), (1, vI x1), (2, vI x2), (3, vI x3)]) ⟨rfl, rfl, rfl, rfl, trivial⟩ H
  · have H := H.2 c1
    refine ev_aload_n 0 dX7_add_24 rfl (x := 27) rfl ?_
    refine ev_getR dX7_add_25 flX7_7 rfl rfl ?_
    refine ev_iload_n 3 dX7_add_28 rfl (x := x3) rfl ?_
    obtain ⟨b2, H⟩ := H
    refine ev_zald dX7_add_29 rfl b2 ?_
    refine ev_if_eq 39 dX7_add_30 (by decide) ⟨fun c3 => ?_, fun c3 => ?_⟩
    · have H := H.1 c3
      exact ev_sub (L' := [(0, vR 27), (1, vI x1), (2, vI x2), (3, vI x3)]) ⟨rfl, rfl, rfl, rfl, trivial⟩ H
    · have H := H.2 c3
      refine ev_iinc (x := x3) (v := 1) dX7_add_33 rfl (by decide) (by decide) ?_
      refine ev_L (L' := [(3, vI (x3 + 1)), (0, vR 27), (1, vI x1), (2, vI x2)]) rfl ?_
      refine ev_goto 17 dX7_add_36 (by decide) ?_
      exact ev_sub (L' := [(0, vR 27), (1, vI x1), (2, vI x2), (3, vI (x3 + 1))]) ⟨rfl, rfl, rfl, rfl, trivial⟩ H
set_option maxRecDepth 20000 in
theorem sX7_add_39 {h : Hp} {Q : Option AV → Hp → Prop} {x1 : Int32} {x2 : Int32} {x3 : Int32} (H : (((¬ x3 = 240) → EvM mX7_clashes [vR 27, vI x1, vI (-1)] h (fun v h2 => ∃ r3 : Int32, v = some (vI r3) ∧ (((r3 = 0) → EvM mX7_writeDown [vR 27] h2 (fun v h5 => ∃ r6 : Int32, v = some (vI r6) ∧ (((¬ r6 = 0) → (vp_in x3 240 ∧ (∀ h9 : Hp, h9 = sI h5 28 (upd (h5.1 28) (Int32.toNatClampNeg x3) 1) → (vp_in x3 240 ∧ (∀ h11 : Hp, h11 = sI h9 29 (upd (h9.1 29) (Int32.toNatClampNeg x3) x1) → (vp_in x3 240 ∧ (∀ h13 : Hp, h13 = sI h11 30 (upd (h11.1 30) (Int32.toNatClampNeg x3) x2) → (vp_in (x3 / 12) 20 ∧ (∀ h15 : Hp, h15 = sI h13 31 (upd (h13.1 31) (Int32.toNatClampNeg (x3 / 12)) 1) → EvM mX7_note [vR 27, vI 1, vI x1, vI x3] h15 (fun v h16 => v = none ∧ Q (some (vI x3)) h16)))))))))) ∧ ((r6 = 0) → Q (some (vI (-106))) h5)))) ∧ ((¬ r3 = 0) → Q (some (vI (-105))) h2)))) ∧ ((x3 = 240) → Q (some (vI (-104))) h))) : Ev mX7_add 39 [(0, vR 27), (1, vI x1), (2, vI x2), (3, vI x3)] [] h Q := by
  refine ev_iload_n 3 dX7_add_39 rfl (x := x3) rfl ?_
  refine ev_sipush 240 dX7_add_40 (by decide) ?_
  refine ev_icmp_ne 49 dX7_add_43 (by decide) ⟨fun c1 => ?_, fun c1 => ?_⟩
  · have H := H.1 c1
    refine ev_aload_n 0 dX7_add_49 rfl (x := 27) rfl ?_
    refine ev_iload_n 1 dX7_add_50 rfl (x := x1) rfl ?_
    refine ev_iconst (-1) dX7_add_51 (by decide) ?_
    refine ev_callV (As := [vI x1, vI (-1)]) (rest := []) dX7_add_52 mlX7_205 rm_mX7_add_mX7_clashes rfl rfl rfl rfl (Nat.le_of_ble_eq_true rfl) H (fun v h2 H => ?_)
    obtain ⟨r3, rfl, H⟩ := H
    show Ev mX7_add 55 [(0, vR 27), (1, vI x1), (2, vI x2), (3, vI x3)] [vI r3] h2 Q
    refine ev_if_eq 61 dX7_add_55 (by decide) ⟨fun c4 => ?_, fun c4 => ?_⟩
    · have H := H.1 c4
      refine ev_aload_n 0 dX7_add_61 rfl (x := 27) rfl ?_
      refine ev_callV (As := []) (rest := []) dX7_add_62 mlX7_209 rm_mX7_add_mX7_writeDown rfl rfl rfl rfl (Nat.le_of_ble_eq_true rfl) H (fun v h5 H => ?_)
      obtain ⟨r6, rfl, H⟩ := H
      show Ev mX7_add 65 [(0, vR 27), (1, vI x1), (2, vI x2), (3, vI x3)] [vI r6] h5 Q
      refine ev_if_ne 71 dX7_add_65 (by decide) ⟨fun c7 => ?_, fun c7 => ?_⟩
      · have H := H.1 c7
        refine ev_aload_n 0 dX7_add_71 rfl (x := 27) rfl ?_
        refine ev_getR dX7_add_72 flX7_7 rfl rfl ?_
        refine ev_iload_n 3 dX7_add_75 rfl (x := x3) rfl ?_
        refine ev_iconst 1 dX7_add_76 (by decide) ?_
        obtain ⟨b8, H⟩ := H
        refine ev_zast dX7_add_77 rfl b8 (by decide) ?_
        obtain ⟨h9, eh9⟩ : ∃ z : Hp, z = sI h5 28 (upd (h5.1 28) (Int32.toNatClampNeg x3) 1) := ⟨_, rfl⟩
        rw [← eh9]
        have H := H h9 eh9
        refine ev_aload_n 0 dX7_add_78 rfl (x := 27) rfl ?_
        refine ev_getR dX7_add_79 flX7_13 rfl rfl ?_
        refine ev_iload_n 3 dX7_add_82 rfl (x := x3) rfl ?_
        refine ev_iload_n 1 dX7_add_83 rfl (x := x1) rfl ?_
        obtain ⟨b10, H⟩ := H
        refine ev_iast dX7_add_84 rfl b10  ?_
        obtain ⟨h11, eh11⟩ : ∃ z : Hp, z = sI h9 29 (upd (h9.1 29) (Int32.toNatClampNeg x3) x1) := ⟨_, rfl⟩
        rw [← eh11]
        have H := H h11 eh11
        refine ev_aload_n 0 dX7_add_85 rfl (x := 27) rfl ?_
        refine ev_getR dX7_add_86 flX7_17 rfl rfl ?_
        refine ev_iload_n 3 dX7_add_89 rfl (x := x3) rfl ?_
        refine ev_iload_n 2 dX7_add_90 rfl (x := x2) rfl ?_
        obtain ⟨b12, H⟩ := H
        refine ev_iast dX7_add_91 rfl b12  ?_
        obtain ⟨h13, eh13⟩ : ∃ z : Hp, z = sI h11 30 (upd (h11.1 30) (Int32.toNatClampNeg x3) x2) := ⟨_, rfl⟩
        rw [← eh13]
        have H := H h13 eh13
        refine ev_aload_n 0 dX7_add_92 rfl (x := 27) rfl ?_
        refine ev_getR dX7_add_93 flX7_24 rfl rfl ?_
        refine ev_iload_n 3 dX7_add_96 rfl (x := x3) rfl ?_
        refine ev_bipush 12 dX7_add_97 (by decide) ?_
        refine ev_idiv dX7_add_99 (by decide) ?_
        refine ev_iconst 1 dX7_add_100 (by decide) ?_
        obtain ⟨b14, H⟩ := H
        refine ev_zast dX7_add_101 rfl b14 (by decide) ?_
        obtain ⟨h15, eh15⟩ : ∃ z : Hp, z = sI h13 31 (upd (h13.1 31) (Int32.toNatClampNeg (x3 / 12)) 1) := ⟨_, rfl⟩
        rw [← eh15]
        have H := H h15 eh15
        refine ev_aload_n 0 dX7_add_102 rfl (x := 27) rfl ?_
        refine ev_iconst 1 dX7_add_103 (by decide) ?_
        refine ev_iload_n 1 dX7_add_104 rfl (x := x1) rfl ?_
        refine ev_iload_n 3 dX7_add_105 rfl (x := x3) rfl ?_
        refine ev_callV (As := [vI 1, vI x1, vI x3]) (rest := []) dX7_add_106 mlX7_212 rm_mX7_add_mX7_note rfl rfl rfl rfl (Nat.le_of_ble_eq_true rfl) H (fun v h16 H => ?_)
        obtain ⟨rfl, H⟩ := H
        show Ev mX7_add 109 [(0, vR 27), (1, vI x1), (2, vI x2), (3, vI x3)] [] h16 Q
        refine ev_iload_n 3 dX7_add_109 rfl (x := x3) rfl ?_
        exact ev_iret dX7_add_110 rfl H
      · have H := H.2 c7
        refine ev_bipush (-106) dX7_add_68 (by decide) ?_
        exact ev_iret dX7_add_70 rfl H
    · have H := H.2 c4
      refine ev_bipush (-105) dX7_add_58 (by decide) ?_
      exact ev_iret dX7_add_60 rfl H
  · have H := H.2 c1
    refine ev_bipush (-104) dX7_add_46 (by decide) ?_
    exact ev_iret dX7_add_48 rfl H
set_option maxRecDepth 20000 in
theorem sX7_isRow {h : Hp} {Q : Option AV → Hp → Prop} {x1 : Int32} (H : EvM mX7_in [vI x1, vI 0, vI 239] h (fun v h1 => ∃ r2 : Int32, v = some (vI r2) ∧ (((r2 = 0) → Q (some (vI 0)) h1) ∧ ((¬ r2 = 0) → (vp_in x1 240 ∧ ((((h1.1 28 (Int32.toNatClampNeg x1)) = 0) → Q (some (vI 0)) h1) ∧ ((¬ (h1.1 28 (Int32.toNatClampNeg x1)) = 0) → Q (some (vI 1)) h1))))))) : EvM mX7_isRow [vR 27, vI x1] h Q := by
  refine evM_of (by decide) rfl (Nat.le_of_ble_eq_true rfl) ?_
  show Ev mX7_isRow 0 [(0, vR 27), (1, vI x1)] [] h Q
  refine ev_iload_n 1 dX7_isRow_0 rfl (x := x1) rfl ?_
  refine ev_iconst 0 dX7_isRow_1 (by decide) ?_
  refine ev_sipush 239 dX7_isRow_2 (by decide) ?_
  refine ev_callS (As := [vI x1, vI 0, vI 239]) (rest := []) dX7_isRow_5 mlX7_201 rm_mX7_isRow_mX7_in rfl rfl (Nat.le_of_ble_eq_true rfl) H (fun v h1 H => ?_)
  obtain ⟨r2, rfl, H⟩ := H
  show Ev mX7_isRow 8 [(0, vR 27), (1, vI x1)] [vI r2] h1 Q
  refine ev_if_eq 24 dX7_isRow_8 (by decide) ⟨fun c3 => ?_, fun c3 => ?_⟩
  · have H := H.1 c3
    refine ev_iconst 0 dX7_isRow_24 (by decide) ?_
    exact ev_zret dX7_isRow_25 rfl (by decide) H
  · have H := H.2 c3
    refine ev_aload_n 0 dX7_isRow_11 rfl (x := 27) rfl ?_
    refine ev_getR dX7_isRow_12 flX7_7 rfl rfl ?_
    refine ev_iload_n 1 dX7_isRow_15 rfl (x := x1) rfl ?_
    obtain ⟨b4, H⟩ := H
    refine ev_zald dX7_isRow_16 rfl b4 ?_
    refine ev_if_eq 24 dX7_isRow_17 (by decide) ⟨fun c5 => ?_, fun c5 => ?_⟩
    · have H := H.1 c5
      refine ev_iconst 0 dX7_isRow_24 (by decide) ?_
      exact ev_zret dX7_isRow_25 rfl (by decide) H
    · have H := H.2 c5
      refine ev_iconst 1 dX7_isRow_20 (by decide) ?_
      refine ev_goto 25 dX7_isRow_21 (by decide) ?_
      exact ev_zret dX7_isRow_25 rfl (by decide) H
set_option maxRecDepth 20000 in
theorem sX7_change {h : Hp} {Q : Option AV → Hp → Prop} {x1 : Int32} {x2 : Int32} {x3 : Int32} (H : (∀ h1 : Hp, h1 = sI h 27 (upd (h.1 27) 0 0) → ((((h1.1 27 4) = 0) → EvM mX7_isRow [vR 27, vI x1] h1 (fun v h3 => ∃ r4 : Int32, v = some (vI r4) ∧ (((¬ r4 = 0) → EvM mX7_clashes [vR 27, vI x2, vI x1] h3 (fun v h6 => ∃ r7 : Int32, v = some (vI r7) ∧ (((r7 = 0) → EvM mX7_writeDown [vR 27] h6 (fun v h9 => ∃ r10 : Int32, v = some (vI r10) ∧ (((¬ r10 = 0) → (vp_in x1 240 ∧ (vp_in x1 240 ∧ (∀ h14 : Hp, h14 = sI h9 29 (upd (h9.1 29) (Int32.toNatClampNeg x1) x2) → (vp_in x1 240 ∧ (∀ h16 : Hp, h16 = sI h14 30 (upd (h14.1 30) (Int32.toNatClampNeg x1) x3) → (vp_in (x1 / 12) 20 ∧ (∀ h18 : Hp, h18 = sI h16 31 (upd (h16.1 31) (Int32.toNatClampNeg (x1 / 12)) 1) → ((((h9.1 29 (Int32.toNatClampNeg x1)) = x2) → Q (some (vI 1)) h18) ∧ ((¬ (h9.1 29 (Int32.toNatClampNeg x1)) = x2) → EvM mX7_note [vR 27, vI 0, vI (h9.1 29 (Int32.toNatClampNeg x1)), vI x1] h18 (fun v h20 => v = none ∧ EvM mX7_note [vR 27, vI 1, vI x2, vI x1] h20 (fun v h21 => v = none ∧ Q (some (vI 1)) h21)))))))))))) ∧ ((r10 = 0) → Q (some (vI (-106))) h9)))) ∧ ((¬ r7 = 0) → Q (some (vI (-105))) h6)))) ∧ ((r4 = 0) → Q (some (vI (-101))) h3)))) ∧ ((¬ (h1.1 27 4) = 0) → Q (some (vI (-100))) h1)))) : EvM mX7_change [vR 27, vI x1, vI x2, vI x3] h Q := by
  refine evM_of (by decide) rfl (Nat.le_of_ble_eq_true rfl) ?_
  show Ev mX7_change 0 [(0, vR 27), (1, vI x1), (2, vI x2), (3, vI x3)] [] h Q
  refine ev_aload_n 0 dX7_change_0 rfl (x := 27) rfl ?_
  refine ev_iconst 0 dX7_change_1 (by decide) ?_
  refine ev_putI dX7_change_2 fpX7_96 rfl rfl   ?_
  obtain ⟨h1, eh1⟩ : ∃ z : Hp, z = sI h 27 (upd (h.1 27) 0 0) := ⟨_, rfl⟩
  rw [← eh1]
  have H := H h1 eh1
  refine ev_aload_n 0 dX7_change_5 rfl (x := 27) rfl ?_
  refine ev_getI dX7_change_6 flX7_102 rfl rfl ?_
  refine ev_if_eq 15 dX7_change_9 (by decide) ⟨fun c2 => ?_, fun c2 => ?_⟩
  · have H := H.1 c2
    refine ev_aload_n 0 dX7_change_15 rfl (x := 27) rfl ?_
    refine ev_iload_n 1 dX7_change_16 rfl (x := x1) rfl ?_
    refine ev_callV (As := [vI x1]) (rest := []) dX7_change_17 mlX7_216 rm_mX7_change_mX7_isRow rfl rfl rfl rfl (Nat.le_of_ble_eq_true rfl) H (fun v h3 H => ?_)
    obtain ⟨r4, rfl, H⟩ := H
    show Ev mX7_change 20 [(0, vR 27), (1, vI x1), (2, vI x2), (3, vI x3)] [vI r4] h3 Q
    refine ev_if_ne 26 dX7_change_20 (by decide) ⟨fun c5 => ?_, fun c5 => ?_⟩
    · have H := H.1 c5
      refine ev_aload_n 0 dX7_change_26 rfl (x := 27) rfl ?_
      refine ev_iload_n 2 dX7_change_27 rfl (x := x2) rfl ?_
      refine ev_iload_n 1 dX7_change_28 rfl (x := x1) rfl ?_
      refine ev_callV (As := [vI x2, vI x1]) (rest := []) dX7_change_29 mlX7_205 rm_mX7_change_mX7_clashes rfl rfl rfl rfl (Nat.le_of_ble_eq_true rfl) H (fun v h6 H => ?_)
      obtain ⟨r7, rfl, H⟩ := H
      show Ev mX7_change 32 [(0, vR 27), (1, vI x1), (2, vI x2), (3, vI x3)] [vI r7] h6 Q
      refine ev_if_eq 38 dX7_change_32 (by decide) ⟨fun c8 => ?_, fun c8 => ?_⟩
      · have H := H.1 c8
        refine ev_aload_n 0 dX7_change_38 rfl (x := 27) rfl ?_
        refine ev_callV (As := []) (rest := []) dX7_change_39 mlX7_209 rm_mX7_change_mX7_writeDown rfl rfl rfl rfl (Nat.le_of_ble_eq_true rfl) H (fun v h9 H => ?_)
        obtain ⟨r10, rfl, H⟩ := H
        show Ev mX7_change 42 [(0, vR 27), (1, vI x1), (2, vI x2), (3, vI x3)] [vI r10] h9 Q
        refine ev_if_ne 48 dX7_change_42 (by decide) ⟨fun c11 => ?_, fun c11 => ?_⟩
        · have H := H.1 c11
          refine ev_aload_n 0 dX7_change_48 rfl (x := 27) rfl ?_
          refine ev_getR dX7_change_49 flX7_13 rfl rfl ?_
          refine ev_iload_n 1 dX7_change_52 rfl (x := x1) rfl ?_
          obtain ⟨b12, H⟩ := H
          refine ev_iald dX7_change_53 rfl b12 ?_
          refine ev_istore dX7_change_54 (by decide) ?_
          refine ev_L (L' := [(4, vI (h9.1 29 (Int32.toNatClampNeg x1))), (0, vR 27), (1, vI x1), (2, vI x2), (3, vI x3)]) rfl ?_
          refine ev_aload_n 0 dX7_change_56 rfl (x := 27) rfl ?_
          refine ev_getR dX7_change_57 flX7_13 rfl rfl ?_
          refine ev_iload_n 1 dX7_change_60 rfl (x := x1) rfl ?_
          refine ev_iload_n 2 dX7_change_61 rfl (x := x2) rfl ?_
          obtain ⟨b13, H⟩ := H
          refine ev_iast dX7_change_62 rfl b13  ?_
          obtain ⟨h14, eh14⟩ : ∃ z : Hp, z = sI h9 29 (upd (h9.1 29) (Int32.toNatClampNeg x1) x2) := ⟨_, rfl⟩
          rw [← eh14]
          have H := H h14 eh14
          refine ev_aload_n 0 dX7_change_63 rfl (x := 27) rfl ?_
          refine ev_getR dX7_change_64 flX7_17 rfl rfl ?_
          refine ev_iload_n 1 dX7_change_67 rfl (x := x1) rfl ?_
          refine ev_iload_n 3 dX7_change_68 rfl (x := x3) rfl ?_
          obtain ⟨b15, H⟩ := H
          refine ev_iast dX7_change_69 rfl b15  ?_
          obtain ⟨h16, eh16⟩ : ∃ z : Hp, z = sI h14 30 (upd (h14.1 30) (Int32.toNatClampNeg x1) x3) := ⟨_, rfl⟩
          rw [← eh16]
          have H := H h16 eh16
          refine ev_aload_n 0 dX7_change_70 rfl (x := 27) rfl ?_
          refine ev_getR dX7_change_71 flX7_24 rfl rfl ?_
          refine ev_iload_n 1 dX7_change_74 rfl (x := x1) rfl ?_
          refine ev_bipush 12 dX7_change_75 (by decide) ?_
          refine ev_idiv dX7_change_77 (by decide) ?_
          refine ev_iconst 1 dX7_change_78 (by decide) ?_
          obtain ⟨b17, H⟩ := H
          refine ev_zast dX7_change_79 rfl b17 (by decide) ?_
          obtain ⟨h18, eh18⟩ : ∃ z : Hp, z = sI h16 31 (upd (h16.1 31) (Int32.toNatClampNeg (x1 / 12)) 1) := ⟨_, rfl⟩
          rw [← eh18]
          have H := H h18 eh18
          refine ev_iload dX7_change_80 (x := (h9.1 29 (Int32.toNatClampNeg x1))) rfl ?_
          refine ev_iload_n 2 dX7_change_82 rfl (x := x2) rfl ?_
          refine ev_icmp_eq 101 dX7_change_83 (by decide) ⟨fun c19 => ?_, fun c19 => ?_⟩
          · have H := H.1 c19
            refine ev_iconst 1 dX7_change_101 (by decide) ?_
            exact ev_iret dX7_change_102 rfl H
          · have H := H.2 c19
            refine ev_aload_n 0 dX7_change_86 rfl (x := 27) rfl ?_
            refine ev_iconst 0 dX7_change_87 (by decide) ?_
            refine ev_iload dX7_change_88 (x := (h9.1 29 (Int32.toNatClampNeg x1))) rfl ?_
            refine ev_iload_n 1 dX7_change_90 rfl (x := x1) rfl ?_
            refine ev_callV (As := [vI 0, vI (h9.1 29 (Int32.toNatClampNeg x1)), vI x1]) (rest := []) dX7_change_91 mlX7_212 rm_mX7_change_mX7_note rfl rfl rfl rfl (Nat.le_of_ble_eq_true rfl) H (fun v h20 H => ?_)
            obtain ⟨rfl, H⟩ := H
            show Ev mX7_change 94 [(4, vI (h9.1 29 (Int32.toNatClampNeg x1))), (0, vR 27), (1, vI x1), (2, vI x2), (3, vI x3)] [] h20 Q
            refine ev_aload_n 0 dX7_change_94 rfl (x := 27) rfl ?_
            refine ev_iconst 1 dX7_change_95 (by decide) ?_
            refine ev_iload_n 2 dX7_change_96 rfl (x := x2) rfl ?_
            refine ev_iload_n 1 dX7_change_97 rfl (x := x1) rfl ?_
            refine ev_callV (As := [vI 1, vI x2, vI x1]) (rest := []) dX7_change_98 mlX7_212 rm_mX7_change_mX7_note rfl rfl rfl rfl (Nat.le_of_ble_eq_true rfl) H (fun v h21 H => ?_)
            obtain ⟨rfl, H⟩ := H
            show Ev mX7_change 101 [(4, vI (h9.1 29 (Int32.toNatClampNeg x1))), (0, vR 27), (1, vI x1), (2, vI x2), (3, vI x3)] [] h21 Q
            refine ev_iconst 1 dX7_change_101 (by decide) ?_
            exact ev_iret dX7_change_102 rfl H
        · have H := H.2 c11
          refine ev_bipush (-106) dX7_change_45 (by decide) ?_
          exact ev_iret dX7_change_47 rfl H
      · have H := H.2 c8
        refine ev_bipush (-105) dX7_change_35 (by decide) ?_
        exact ev_iret dX7_change_37 rfl H
    · have H := H.2 c5
      refine ev_bipush (-101) dX7_change_23 (by decide) ?_
      exact ev_iret dX7_change_25 rfl H
  · have H := H.2 c2
    refine ev_bipush (-100) dX7_change_12 (by decide) ?_
    exact ev_iret dX7_change_14 rfl H
set_option maxRecDepth 20000 in
theorem sX7_remove {h : Hp} {Q : Option AV → Hp → Prop} {x1 : Int32} (H : (∀ h1 : Hp, h1 = sI h 27 (upd (h.1 27) 0 0) → ((((h1.1 27 4) = 0) → EvM mX7_isRow [vR 27, vI x1] h1 (fun v h3 => ∃ r4 : Int32, v = some (vI r4) ∧ (((¬ r4 = 0) → EvM mX7_writeDown [vR 27] h3 (fun v h6 => ∃ r7 : Int32, v = some (vI r7) ∧ (((¬ r7 = 0) → (vp_in x1 240 ∧ (∀ h10 : Hp, h10 = sI h6 28 (upd (h6.1 28) (Int32.toNatClampNeg x1) 0) → (vp_in (x1 / 12) 20 ∧ (∀ h12 : Hp, h12 = sI h10 31 (upd (h10.1 31) (Int32.toNatClampNeg (x1 / 12)) 1) → (vp_in x1 240 ∧ EvM mX7_note [vR 27, vI 0, vI (h12.1 29 (Int32.toNatClampNeg x1)), vI x1] h12 (fun v h14 => v = none ∧ Q (some (vI 1)) h14))))))) ∧ ((r7 = 0) → Q (some (vI (-106))) h6)))) ∧ ((r4 = 0) → Q (some (vI (-101))) h3)))) ∧ ((¬ (h1.1 27 4) = 0) → Q (some (vI (-100))) h1)))) : EvM mX7_remove [vR 27, vI x1] h Q := by
  refine evM_of (by decide) rfl (Nat.le_of_ble_eq_true rfl) ?_
  show Ev mX7_remove 0 [(0, vR 27), (1, vI x1)] [] h Q
  refine ev_aload_n 0 dX7_remove_0 rfl (x := 27) rfl ?_
  refine ev_iconst 0 dX7_remove_1 (by decide) ?_
  refine ev_putI dX7_remove_2 fpX7_96 rfl rfl   ?_
  obtain ⟨h1, eh1⟩ : ∃ z : Hp, z = sI h 27 (upd (h.1 27) 0 0) := ⟨_, rfl⟩
  rw [← eh1]
  have H := H h1 eh1
  refine ev_aload_n 0 dX7_remove_5 rfl (x := 27) rfl ?_
  refine ev_getI dX7_remove_6 flX7_102 rfl rfl ?_
  refine ev_if_eq 15 dX7_remove_9 (by decide) ⟨fun c2 => ?_, fun c2 => ?_⟩
  · have H := H.1 c2
    refine ev_aload_n 0 dX7_remove_15 rfl (x := 27) rfl ?_
    refine ev_iload_n 1 dX7_remove_16 rfl (x := x1) rfl ?_
    refine ev_callV (As := [vI x1]) (rest := []) dX7_remove_17 mlX7_216 rm_mX7_remove_mX7_isRow rfl rfl rfl rfl (Nat.le_of_ble_eq_true rfl) H (fun v h3 H => ?_)
    obtain ⟨r4, rfl, H⟩ := H
    show Ev mX7_remove 20 [(0, vR 27), (1, vI x1)] [vI r4] h3 Q
    refine ev_if_ne 26 dX7_remove_20 (by decide) ⟨fun c5 => ?_, fun c5 => ?_⟩
    · have H := H.1 c5
      refine ev_aload_n 0 dX7_remove_26 rfl (x := 27) rfl ?_
      refine ev_callV (As := []) (rest := []) dX7_remove_27 mlX7_209 rm_mX7_remove_mX7_writeDown rfl rfl rfl rfl (Nat.le_of_ble_eq_true rfl) H (fun v h6 H => ?_)
      obtain ⟨r7, rfl, H⟩ := H
      show Ev mX7_remove 30 [(0, vR 27), (1, vI x1)] [vI r7] h6 Q
      refine ev_if_ne 36 dX7_remove_30 (by decide) ⟨fun c8 => ?_, fun c8 => ?_⟩
      · have H := H.1 c8
        refine ev_aload_n 0 dX7_remove_36 rfl (x := 27) rfl ?_
        refine ev_getR dX7_remove_37 flX7_7 rfl rfl ?_
        refine ev_iload_n 1 dX7_remove_40 rfl (x := x1) rfl ?_
        refine ev_iconst 0 dX7_remove_41 (by decide) ?_
        obtain ⟨b9, H⟩ := H
        refine ev_zast dX7_remove_42 rfl b9 (by decide) ?_
        obtain ⟨h10, eh10⟩ : ∃ z : Hp, z = sI h6 28 (upd (h6.1 28) (Int32.toNatClampNeg x1) 0) := ⟨_, rfl⟩
        rw [← eh10]
        have H := H h10 eh10
        refine ev_aload_n 0 dX7_remove_43 rfl (x := 27) rfl ?_
        refine ev_getR dX7_remove_44 flX7_24 rfl rfl ?_
        refine ev_iload_n 1 dX7_remove_47 rfl (x := x1) rfl ?_
        refine ev_bipush 12 dX7_remove_48 (by decide) ?_
        refine ev_idiv dX7_remove_50 (by decide) ?_
        refine ev_iconst 1 dX7_remove_51 (by decide) ?_
        obtain ⟨b11, H⟩ := H
        refine ev_zast dX7_remove_52 rfl b11 (by decide) ?_
        obtain ⟨h12, eh12⟩ : ∃ z : Hp, z = sI h10 31 (upd (h10.1 31) (Int32.toNatClampNeg (x1 / 12)) 1) := ⟨_, rfl⟩
        rw [← eh12]
        have H := H h12 eh12
        refine ev_aload_n 0 dX7_remove_53 rfl (x := 27) rfl ?_
        refine ev_iconst 0 dX7_remove_54 (by decide) ?_
        refine ev_aload_n 0 dX7_remove_55 rfl (x := 27) rfl ?_
        refine ev_getR dX7_remove_56 flX7_13 rfl rfl ?_
        refine ev_iload_n 1 dX7_remove_59 rfl (x := x1) rfl ?_
        obtain ⟨b13, H⟩ := H
        refine ev_iald dX7_remove_60 rfl b13 ?_
        refine ev_iload_n 1 dX7_remove_61 rfl (x := x1) rfl ?_
        refine ev_callV (As := [vI 0, vI (h12.1 29 (Int32.toNatClampNeg x1)), vI x1]) (rest := []) dX7_remove_62 mlX7_212 rm_mX7_remove_mX7_note rfl rfl rfl rfl (Nat.le_of_ble_eq_true rfl) H (fun v h14 H => ?_)
        obtain ⟨rfl, H⟩ := H
        show Ev mX7_remove 65 [(0, vR 27), (1, vI x1)] [] h14 Q
        refine ev_iconst 1 dX7_remove_65 (by decide) ?_
        exact ev_iret dX7_remove_66 rfl H
      · have H := H.2 c8
        refine ev_bipush (-106) dX7_remove_33 (by decide) ?_
        exact ev_iret dX7_remove_35 rfl H
    · have H := H.2 c5
      refine ev_bipush (-101) dX7_remove_23 (by decide) ?_
      exact ev_iret dX7_remove_25 rfl H
  · have H := H.2 c2
    refine ev_bipush (-100) dX7_remove_12 (by decide) ?_
    exact ev_iret dX7_remove_14 rfl H
set_option maxRecDepth 20000 in
theorem sX7_row {h : Hp} {Q : Option AV → Hp → Prop} {x1 : Int32} {x2 : Int32} (H : ((((h.1 27 4) = 0) → EvM mX7_isRow [vR 27, vI x1] h (fun v h2 => ∃ r3 : Int32, v = some (vI r3) ∧ (((¬ r3 = 0) → Ev mX7_row 25 [(0, vR 27), (1, vI x1), (2, vI x2)] [vI 0, vR 27] h2 Q) ∧ ((r3 = 0) → Ev mX7_row 25 [(0, vR 27), (1, vI x1), (2, vI x2)] [vI 2, vR 27] h2 Q)))) ∧ ((¬ (h.1 27 4) = 0) → Ev mX7_row 25 [(0, vR 27), (1, vI x1), (2, vI x2)] [vI 1, vR 27] h Q))) : EvM mX7_row [vR 27, vI x1, vI x2] h Q := by
  refine evM_of (by decide) rfl (Nat.le_of_ble_eq_true rfl) ?_
  show Ev mX7_row 0 [(0, vR 27), (1, vI x1), (2, vI x2)] [] h Q
  refine ev_aload_n 0 dX7_row_0 rfl (x := 27) rfl ?_
  refine ev_aload_n 0 dX7_row_1 rfl (x := 27) rfl ?_
  refine ev_getI dX7_row_2 flX7_102 rfl rfl ?_
  refine ev_if_eq 12 dX7_row_5 (by decide) ⟨fun c1 => ?_, fun c1 => ?_⟩
  · have H := H.1 c1
    refine ev_aload_n 0 dX7_row_12 rfl (x := 27) rfl ?_
    refine ev_iload_n 1 dX7_row_13 rfl (x := x1) rfl ?_
    refine ev_callV (As := [vI x1]) (rest := [vR 27]) dX7_row_14 mlX7_216 rm_mX7_row_mX7_isRow rfl rfl rfl rfl (Nat.le_of_ble_eq_true rfl) H (fun v h2 H => ?_)
    obtain ⟨r3, rfl, H⟩ := H
    show Ev mX7_row 17 [(0, vR 27), (1, vI x1), (2, vI x2)] [vI r3, vR 27] h2 Q
    refine ev_if_ne 24 dX7_row_17 (by decide) ⟨fun c4 => ?_, fun c4 => ?_⟩
    · have H := H.1 c4
      refine ev_iconst 0 dX7_row_24 (by decide) ?_
      exact ev_sub (L' := [(0, vR 27), (1, vI x1), (2, vI x2)]) ⟨rfl, rfl, rfl, trivial⟩ H
    · have H := H.2 c4
      refine ev_iconst 2 dX7_row_20 (by decide) ?_
      refine ev_goto 25 dX7_row_21 (by decide) ?_
      exact ev_sub (L' := [(0, vR 27), (1, vI x1), (2, vI x2)]) ⟨rfl, rfl, rfl, trivial⟩ H
  · have H := H.2 c1
    refine ev_iconst 1 dX7_row_8 (by decide) ?_
    refine ev_goto 25 dX7_row_9 (by decide) ?_
    exact ev_sub (L' := [(0, vR 27), (1, vI x1), (2, vI x2)]) ⟨rfl, rfl, rfl, trivial⟩ H
set_option maxRecDepth 20000 in
theorem sX7_row_25 {h : Hp} {Q : Option AV → Hp → Prop} {x1 : Int32} {x2 : Int32} {s0 : Int32} (H : (∀ h1 : Hp, h1 = sI h 27 (upd (h.1 27) 0 s0) → ((((h1.1 27 0) ≤ 0) → (((x2 = 0) → (vp_in x1 240 ∧ Q (some (vI (h1.1 29 (Int32.toNatClampNeg x1)))) h1)) ∧ ((¬ x2 = 0) → (vp_in x1 240 ∧ Q (some (vI (h1.1 30 (Int32.toNatClampNeg x1)))) h1)))) ∧ ((¬ (h1.1 27 0) ≤ 0) → Q (some (vI 0)) h1)))) : Ev mX7_row 25 [(0, vR 27), (1, vI x1), (2, vI x2)] [vI s0, vR 27] h Q := by
  refine ev_putI dX7_row_25 fpX7_96 rfl rfl   ?_
  obtain ⟨h1, eh1⟩ : ∃ z : Hp, z = sI h 27 (upd (h.1 27) 0 s0) := ⟨_, rfl⟩
  rw [← eh1]
  have H := H h1 eh1
  refine ev_aload_n 0 dX7_row_28 rfl (x := 27) rfl ?_
  refine ev_getI dX7_row_29 flX7_96 rfl rfl ?_
  refine ev_if_le 39 dX7_row_32 (by decide) ⟨fun c2 => ?_, fun c2 => ?_⟩
  · have H := H.1 c2
    refine ev_iload_n 2 dX7_row_39 rfl (x := x2) rfl ?_
    refine ev_if_eq 52 dX7_row_40 (by decide) ⟨fun c3 => ?_, fun c3 => ?_⟩
    · have H := H.1 c3
      refine ev_aload_n 0 dX7_row_52 rfl (x := 27) rfl ?_
      refine ev_getR dX7_row_53 flX7_13 rfl rfl ?_
      refine ev_iload_n 1 dX7_row_56 rfl (x := x1) rfl ?_
      obtain ⟨b4, H⟩ := H
      refine ev_iald dX7_row_57 rfl b4 ?_
      exact ev_iret dX7_row_58 rfl H
    · have H := H.2 c3
      refine ev_aload_n 0 dX7_row_43 rfl (x := 27) rfl ?_
      refine ev_getR dX7_row_44 flX7_17 rfl rfl ?_
      refine ev_iload_n 1 dX7_row_47 rfl (x := x1) rfl ?_
      obtain ⟨b5, H⟩ := H
      refine ev_iald dX7_row_48 rfl b5 ?_
      refine ev_goto 58 dX7_row_49 (by decide) ?_
      exact ev_iret dX7_row_58 rfl H
  · have H := H.2 c2
    refine ev_iconst 0 dX7_row_35 (by decide) ?_
    refine ev_goto 58 dX7_row_36 (by decide) ?_
    exact ev_iret dX7_row_58 rfl H
set_option maxRecDepth 20000 in
theorem sX7_cut {h : Hp} {Q : Option AV → Hp → Prop} {x1 : Int32} {x2 : Int32} (H : (∀ h1 : Hp, h1 = sI h 27 (upd (h.1 27) 0 0) → ((((h1.1 27 4) = 0) → EvM mX7_in [vI x1, vI (-1), vI 1000] h1 (fun v h3 => ∃ r4 : Int32, v = some (vI r4) ∧ (((r4 = 0) → Q (some (vI (-102))) h3) ∧ ((¬ r4 = 0) → EvM mX7_in [vI x2, vI 0, vI 63] h3 (fun v h6 => ∃ r7 : Int32, v = some (vI r7) ∧ (((¬ r7 = 0) → (∀ h9 : Hp, h9 = sI h6 27 (upd (h6.1 27) 5 x1) → Q (some (vI 1)) h9)) ∧ ((r7 = 0) → Q (some (vI (-102))) h6))))))) ∧ ((¬ (h1.1 27 4) = 0) → Q (some (vI (-100))) h1)))) : EvM mX7_cut [vR 27, vI x1, vI x2] h Q := by
  refine evM_of (by decide) rfl (Nat.le_of_ble_eq_true rfl) ?_
  show Ev mX7_cut 0 [(0, vR 27), (1, vI x1), (2, vI x2)] [] h Q
  refine ev_aload_n 0 dX7_cut_0 rfl (x := 27) rfl ?_
  refine ev_iconst 0 dX7_cut_1 (by decide) ?_
  refine ev_putI dX7_cut_2 fpX7_96 rfl rfl   ?_
  obtain ⟨h1, eh1⟩ : ∃ z : Hp, z = sI h 27 (upd (h.1 27) 0 0) := ⟨_, rfl⟩
  rw [← eh1]
  have H := H h1 eh1
  refine ev_aload_n 0 dX7_cut_5 rfl (x := 27) rfl ?_
  refine ev_getI dX7_cut_6 flX7_102 rfl rfl ?_
  refine ev_if_eq 15 dX7_cut_9 (by decide) ⟨fun c2 => ?_, fun c2 => ?_⟩
  · have H := H.1 c2
    refine ev_iload_n 1 dX7_cut_15 rfl (x := x1) rfl ?_
    refine ev_iconst (-1) dX7_cut_16 (by decide) ?_
    refine ev_sipush 1000 dX7_cut_17 (by decide) ?_
    refine ev_callS (As := [vI x1, vI (-1), vI 1000]) (rest := []) dX7_cut_20 mlX7_201 rm_mX7_cut_mX7_in rfl rfl (Nat.le_of_ble_eq_true rfl) H (fun v h3 H => ?_)
    obtain ⟨r4, rfl, H⟩ := H
    show Ev mX7_cut 23 [(0, vR 27), (1, vI x1), (2, vI x2)] [vI r4] h3 Q
    refine ev_if_eq 36 dX7_cut_23 (by decide) ⟨fun c5 => ?_, fun c5 => ?_⟩
    · have H := H.1 c5
      refine ev_bipush (-102) dX7_cut_36 (by decide) ?_
      exact ev_iret dX7_cut_38 rfl H
    · have H := H.2 c5
      refine ev_iload_n 2 dX7_cut_26 rfl (x := x2) rfl ?_
      refine ev_iconst 0 dX7_cut_27 (by decide) ?_
      refine ev_bipush 63 dX7_cut_28 (by decide) ?_
      refine ev_callS (As := [vI x2, vI 0, vI 63]) (rest := []) dX7_cut_30 mlX7_201 rm_mX7_cut_mX7_in rfl rfl (Nat.le_of_ble_eq_true rfl) H (fun v h6 H => ?_)
      obtain ⟨r7, rfl, H⟩ := H
      show Ev mX7_cut 33 [(0, vR 27), (1, vI x1), (2, vI x2)] [vI r7] h6 Q
      refine ev_if_ne 39 dX7_cut_33 (by decide) ⟨fun c8 => ?_, fun c8 => ?_⟩
      · have H := H.1 c8
        refine ev_aload_n 0 dX7_cut_39 rfl (x := 27) rfl ?_
        refine ev_iload_n 1 dX7_cut_40 rfl (x := x1) rfl ?_
        refine ev_putI dX7_cut_41 fpX7_20 rfl rfl   ?_
        obtain ⟨h9, eh9⟩ : ∃ z : Hp, z = sI h6 27 (upd (h6.1 27) 5 x1) := ⟨_, rfl⟩
        rw [← eh9]
        have H := H h9 eh9
        refine ev_iconst 1 dX7_cut_44 (by decide) ?_
        exact ev_iret dX7_cut_45 rfl H
      · have H := H.2 c8
        refine ev_bipush (-102) dX7_cut_36 (by decide) ?_
        exact ev_iret dX7_cut_38 rfl H
  · have H := H.2 c2
    refine ev_bipush (-100) dX7_cut_12 (by decide) ?_
    exact ev_iret dX7_cut_14 rfl H
set_option maxRecDepth 20000 in
theorem sX7_start {h : Hp} {Q : Option AV → Hp → Prop} (H : (∀ h1 : Hp, h1 = sI h 27 (upd (h.1 27) 0 0) → (((¬ (h1.1 27 4) = 0) → (∀ h3 : Hp, h3 = sI h1 27 (upd (h1.1 27) 4 0) → (∀ h4 : Hp, h4 = sI h3 27 (upd (h3.1 27) 5 (-1)) → EvM mX7_rowCount [vR 27] h4 (fun v h5 => ∃ r6 : Int32, v = some (vI r6) ∧ Q (some (vI r6)) h5)))) ∧ (((h1.1 27 4) = 0) → Q (some (vI (-103))) h1)))) : EvM mX7_start [vR 27] h Q := by
  refine evM_of (by decide) rfl (Nat.le_of_ble_eq_true rfl) ?_
  show Ev mX7_start 0 [(0, vR 27)] [] h Q
  refine ev_aload_n 0 dX7_start_0 rfl (x := 27) rfl ?_
  refine ev_iconst 0 dX7_start_1 (by decide) ?_
  refine ev_putI dX7_start_2 fpX7_96 rfl rfl   ?_
  obtain ⟨h1, eh1⟩ : ∃ z : Hp, z = sI h 27 (upd (h.1 27) 0 0) := ⟨_, rfl⟩
  rw [← eh1]
  have H := H h1 eh1
  refine ev_aload_n 0 dX7_start_5 rfl (x := 27) rfl ?_
  refine ev_getI dX7_start_6 flX7_102 rfl rfl ?_
  refine ev_if_ne 15 dX7_start_9 (by decide) ⟨fun c2 => ?_, fun c2 => ?_⟩
  · have H := H.1 c2
    refine ev_aload_n 0 dX7_start_15 rfl (x := 27) rfl ?_
    refine ev_iconst 0 dX7_start_16 (by decide) ?_
    refine ev_putZ dX7_start_17 fpX7_102 rfl rfl  (by decide) ?_
    obtain ⟨h3, eh3⟩ : ∃ z : Hp, z = sI h1 27 (upd (h1.1 27) 4 0) := ⟨_, rfl⟩
    rw [← eh3]
    have H := H h3 eh3
    refine ev_aload_n 0 dX7_start_20 rfl (x := 27) rfl ?_
    refine ev_iconst (-1) dX7_start_21 (by decide) ?_
    refine ev_putI dX7_start_22 fpX7_20 rfl rfl   ?_
    obtain ⟨h4, eh4⟩ : ∃ z : Hp, z = sI h3 27 (upd (h3.1 27) 5 (-1)) := ⟨_, rfl⟩
    rw [← eh4]
    have H := H h4 eh4
    refine ev_aload_n 0 dX7_start_25 rfl (x := 27) rfl ?_
    refine ev_callV (As := []) (rest := []) dX7_start_26 mlX7_219 rm_mX7_start_mX7_rowCount rfl rfl rfl rfl (Nat.le_of_ble_eq_true rfl) H (fun v h5 H => ?_)
    obtain ⟨r6, rfl, H⟩ := H
    show Ev mX7_start 29 [(0, vR 27)] [vI r6] h5 Q
    exact ev_iret dX7_start_29 rfl H
  · have H := H.2 c2
    refine ev_bipush (-103) dX7_start_12 (by decide) ?_
    exact ev_iret dX7_start_14 rfl H
set_option maxRecDepth 20000 in
theorem sX7_rowCount {h : Hp} {Q : Option AV → Hp → Prop} (H : Ev mX7_rowCount 4 [(0, vR 27), (1, vI 0), (2, vI 0)] [] h Q) : EvM mX7_rowCount [vR 27] h Q := by
  refine evM_of (by decide) rfl (Nat.le_of_ble_eq_true rfl) ?_
  show Ev mX7_rowCount 0 [(0, vR 27)] [] h Q
  refine ev_iconst 0 dX7_rowCount_0 (by decide) ?_
  refine ev_istore_n 1 dX7_rowCount_1 rfl (by decide) ?_
  refine ev_L (L' := [(1, vI 0), (0, vR 27)]) rfl ?_
  refine ev_iconst 0 dX7_rowCount_2 (by decide) ?_
  refine ev_istore_n 2 dX7_rowCount_3 rfl (by decide) ?_
  refine ev_L (L' := [(2, vI 0), (1, vI 0), (0, vR 27)]) rfl ?_
  exact ev_sub (L' := [(0, vR 27), (1, vI 0), (2, vI 0)]) ⟨rfl, rfl, rfl, trivial⟩ H
set_option maxRecDepth 20000 in
theorem sX7_rowCount_4 {h : Hp} {Q : Option AV → Hp → Prop} {x1 : Int32} {x2 : Int32} (H : (((240 ≤ x2) → Q (some (vI x1)) h) ∧ ((¬ 240 ≤ x2) → (vp_in x2 240 ∧ ((((h.1 28 (Int32.toNatClampNeg x2)) = 0) → Ev mX7_rowCount 4 [(0, vR 27), (1, vI x1), (2, vI (x2 + 1))] [] h Q) ∧ ((¬ (h.1 28 (Int32.toNatClampNeg x2)) = 0) → Ev mX7_rowCount 4 [(0, vR 27), (1, vI (x1 + 1)), (2, vI (x2 + 1))] [] h Q)))))) : Ev mX7_rowCount 4 [(0, vR 27), (1, vI x1), (2, vI x2)] [] h Q := by
  refine ev_iload_n 2 dX7_rowCount_4 rfl (x := x2) rfl ?_
  refine ev_sipush 240 dX7_rowCount_5 (by decide) ?_
  refine ev_icmp_ge 34 dX7_rowCount_8 (by decide) ⟨fun c1 => ?_, fun c1 => ?_⟩
  · have H := H.1 c1
    refine ev_iload_n 1 dX7_rowCount_34 rfl (x := x1) rfl ?_
    exact ev_iret dX7_rowCount_35 rfl H
  · have H := H.2 c1
    refine ev_aload_n 0 dX7_rowCount_11 rfl (x := 27) rfl ?_
    refine ev_getR dX7_rowCount_12 flX7_7 rfl rfl ?_
    refine ev_iload_n 2 dX7_rowCount_15 rfl (x := x2) rfl ?_
    obtain ⟨b2, H⟩ := H
    refine ev_zald dX7_rowCount_16 rfl b2 ?_
    refine ev_if_eq 26 dX7_rowCount_17 (by decide) ⟨fun c3 => ?_, fun c3 => ?_⟩
    · have H := H.1 c3
      refine ev_iload_n 1 dX7_rowCount_26 rfl (x := x1) rfl ?_
      refine ev_istore_n 1 dX7_rowCount_27 rfl (by decide) ?_
      refine ev_L (L' := [(1, vI x1), (0, vR 27), (2, vI x2)]) rfl ?_
      refine ev_iinc (x := x2) (v := 1) dX7_rowCount_28 rfl (by decide) (by decide) ?_
      refine ev_L (L' := [(2, vI (x2 + 1)), (1, vI x1), (0, vR 27)]) rfl ?_
      refine ev_goto 4 dX7_rowCount_31 (by decide) ?_
      exact ev_sub (L' := [(0, vR 27), (1, vI x1), (2, vI (x2 + 1))]) ⟨rfl, rfl, rfl, trivial⟩ H
    · have H := H.2 c3
      refine ev_iload_n 1 dX7_rowCount_20 rfl (x := x1) rfl ?_
      refine ev_iconst 1 dX7_rowCount_21 (by decide) ?_
      refine ev_iadd dX7_rowCount_22 ?_
      refine ev_goto 27 dX7_rowCount_23 (by decide) ?_
      refine ev_istore_n 1 dX7_rowCount_27 rfl (by decide) ?_
      refine ev_L (L' := [(1, vI (x1 + 1)), (0, vR 27), (2, vI x2)]) rfl ?_
      refine ev_iinc (x := x2) (v := 1) dX7_rowCount_28 rfl (by decide) (by decide) ?_
      refine ev_L (L' := [(2, vI (x2 + 1)), (1, vI (x1 + 1)), (0, vR 27)]) rfl ?_
      refine ev_goto 4 dX7_rowCount_31 (by decide) ?_
      exact ev_sub (L' := [(0, vR 27), (1, vI (x1 + 1)), (2, vI (x2 + 1))]) ⟨rfl, rfl, rfl, trivial⟩ H
set_option maxRecDepth 20000 in
theorem sX7_build {h : Hp} {Q : Option AV → Hp → Prop} {x1 : Int32} (H : (∀ h1 : Hp, h1 = sI h 27 (upd (h.1 27) 0 0) → ((((h1.1 27 4) = 0) → EvM mX7_in [vI (h1.1 27 11), vI 1, vI 5] h1 (fun v h3 => ∃ r4 : Int32, v = some (vI r4) ∧ (((r4 = 0) → EvM mX7_forget [vR 27] h3 (fun v h6 => v = none ∧ ((x1 = 0 ∨ x1 = 1) ∧ (∀ h8 : Hp, h8 = sI h6 27 (upd (h6.1 27) 12 x1) → (∀ h9 : Hp, h9 = sI h8 27 (upd (h8.1 27) 11 1) → (∀ h10 : Hp, h10 = sI h9 27 (upd (h9.1 27) 26 0) → (∀ h11 : Hp, h11 = sI h10 27 (upd (h10.1 27) 27 0) → (∀ h12 : Hp, h12 = sI h11 27 (upd (h11.1 27) 31 0) → (∀ h13 : Hp, h13 = sI h12 27 (upd (h12.1 27) 28 0) → (∀ h14 : Hp, h14 = sI h13 27 (upd (h13.1 27) 30 0) → Q (some (vI 1)) h14)))))))))) ∧ ((¬ r4 = 0) → Q (some (vI (-103))) h3)))) ∧ ((¬ (h1.1 27 4) = 0) → Q (some (vI (-100))) h1)))) : EvM mX7_build [vR 27, vI x1] h Q := by
  refine evM_of (by decide) rfl (Nat.le_of_ble_eq_true rfl) ?_
  show Ev mX7_build 0 [(0, vR 27), (1, vI x1)] [] h Q
  refine ev_aload_n 0 dX7_build_0 rfl (x := 27) rfl ?_
  refine ev_iconst 0 dX7_build_1 (by decide) ?_
  refine ev_putI dX7_build_2 fpX7_96 rfl rfl   ?_
  obtain ⟨h1, eh1⟩ : ∃ z : Hp, z = sI h 27 (upd (h.1 27) 0 0) := ⟨_, rfl⟩
  rw [← eh1]
  have H := H h1 eh1
  refine ev_aload_n 0 dX7_build_5 rfl (x := 27) rfl ?_
  refine ev_getI dX7_build_6 flX7_102 rfl rfl ?_
  refine ev_if_eq 15 dX7_build_9 (by decide) ⟨fun c2 => ?_, fun c2 => ?_⟩
  · have H := H.1 c2
    refine ev_aload_n 0 dX7_build_15 rfl (x := 27) rfl ?_
    refine ev_getI dX7_build_16 flX7_106 rfl rfl ?_
    refine ev_iconst 1 dX7_build_19 (by decide) ?_
    refine ev_iconst 5 dX7_build_20 (by decide) ?_
    refine ev_callS (As := [vI (h1.1 27 11), vI 1, vI 5]) (rest := []) dX7_build_21 mlX7_201 rm_mX7_build_mX7_in rfl rfl (Nat.le_of_ble_eq_true rfl) H (fun v h3 H => ?_)
    obtain ⟨r4, rfl, H⟩ := H
    show Ev mX7_build 24 [(0, vR 27), (1, vI x1)] [vI r4] h3 Q
    refine ev_if_eq 30 dX7_build_24 (by decide) ⟨fun c5 => ?_, fun c5 => ?_⟩
    · have H := H.1 c5
      refine ev_aload_n 0 dX7_build_30 rfl (x := 27) rfl ?_
      refine ev_callV (As := []) (rest := []) dX7_build_31 mlX7_109 rm_mX7_build_mX7_forget rfl rfl rfl rfl (Nat.le_of_ble_eq_true rfl) H (fun v h6 H => ?_)
      obtain ⟨rfl, H⟩ := H
      show Ev mX7_build 34 [(0, vR 27), (1, vI x1)] [] h6 Q
      refine ev_aload_n 0 dX7_build_34 rfl (x := 27) rfl ?_
      refine ev_iload_n 1 dX7_build_35 rfl (x := x1) rfl ?_
      obtain ⟨z7, H⟩ := H
      refine ev_putZ dX7_build_36 fpX7_154 rfl rfl  z7 ?_
      obtain ⟨h8, eh8⟩ : ∃ z : Hp, z = sI h6 27 (upd (h6.1 27) 12 x1) := ⟨_, rfl⟩
      rw [← eh8]
      have H := H h8 eh8
      refine ev_aload_n 0 dX7_build_39 rfl (x := 27) rfl ?_
      refine ev_iconst 1 dX7_build_40 (by decide) ?_
      refine ev_putI dX7_build_41 fpX7_106 rfl rfl   ?_
      obtain ⟨h9, eh9⟩ : ∃ z : Hp, z = sI h8 27 (upd (h8.1 27) 11 1) := ⟨_, rfl⟩
      rw [← eh9]
      have H := H h9 eh9
      refine ev_aload_n 0 dX7_build_44 rfl (x := 27) rfl ?_
      refine ev_iconst 0 dX7_build_45 (by decide) ?_
      refine ev_putI dX7_build_46 fpX7_222 rfl rfl   ?_
      obtain ⟨h10, eh10⟩ : ∃ z : Hp, z = sI h9 27 (upd (h9.1 27) 26 0) := ⟨_, rfl⟩
      rw [← eh10]
      have H := H h10 eh10
      refine ev_aload_n 0 dX7_build_49 rfl (x := 27) rfl ?_
      refine ev_iconst 0 dX7_build_50 (by decide) ?_
      refine ev_putZ dX7_build_51 fpX7_225 rfl rfl  (by decide) ?_
      obtain ⟨h11, eh11⟩ : ∃ z : Hp, z = sI h10 27 (upd (h10.1 27) 27 0) := ⟨_, rfl⟩
      rw [← eh11]
      have H := H h11 eh11
      refine ev_aload_n 0 dX7_build_54 rfl (x := 27) rfl ?_
      refine ev_iconst 0 dX7_build_55 (by decide) ?_
      refine ev_putI dX7_build_56 fpX7_228 rfl rfl   ?_
      obtain ⟨h12, eh12⟩ : ∃ z : Hp, z = sI h11 27 (upd (h11.1 27) 31 0) := ⟨_, rfl⟩
      rw [← eh12]
      have H := H h12 eh12
      refine ev_aload_n 0 dX7_build_59 rfl (x := 27) rfl ?_
      refine ev_iconst 0 dX7_build_60 (by decide) ?_
      refine ev_putI dX7_build_61 fpX7_231 rfl rfl   ?_
      obtain ⟨h13, eh13⟩ : ∃ z : Hp, z = sI h12 27 (upd (h12.1 27) 28 0) := ⟨_, rfl⟩
      rw [← eh13]
      have H := H h13 eh13
      refine ev_aload_n 0 dX7_build_64 rfl (x := 27) rfl ?_
      refine ev_iconst 0 dX7_build_65 (by decide) ?_
      refine ev_putI dX7_build_66 fpX7_234 rfl rfl   ?_
      obtain ⟨h14, eh14⟩ : ∃ z : Hp, z = sI h13 27 (upd (h13.1 27) 30 0) := ⟨_, rfl⟩
      rw [← eh14]
      have H := H h14 eh14
      refine ev_iconst 1 dX7_build_69 (by decide) ?_
      exact ev_iret dX7_build_70 rfl H
    · have H := H.2 c5
      refine ev_bipush (-103) dX7_build_27 (by decide) ?_
      exact ev_iret dX7_build_29 rfl H
  · have H := H.2 c2
    refine ev_bipush (-100) dX7_build_12 (by decide) ?_
    exact ev_iret dX7_build_14 rfl H
set_option maxRecDepth 20000 in
theorem sX7_drop {h : Hp} {Q : Option AV → Hp → Prop} (H : (∀ h1 : Hp, h1 = sI h 27 (upd (h.1 27) 0 0) → ((((h1.1 27 4) = 0) → (((¬ (h1.1 27 11) = 5) → EvM mX7_forget [vR 27] h1 (fun v h4 => v = none ∧ Q (some (vI (h1.1 27 11))) h4)) ∧ (((h1.1 27 11) = 5) → EvM mX7_checkpoint [vR 27, vI 0] h1 (fun v h5 => ∃ r6 : Int32, v = some (vI r6) ∧ (((¬ r6 = 0) → EvM mX7_forget [vR 27] h5 (fun v h8 => v = none ∧ Q (some (vI (h1.1 27 11))) h8)) ∧ ((r6 = 0) → Q (some (vI (-106))) h5)))))) ∧ ((¬ (h1.1 27 4) = 0) → Q (some (vI (-100))) h1)))) : EvM mX7_drop [vR 27] h Q := by
  refine evM_of (by decide) rfl (Nat.le_of_ble_eq_true rfl) ?_
  show Ev mX7_drop 0 [(0, vR 27)] [] h Q
  refine ev_aload_n 0 dX7_drop_0 rfl (x := 27) rfl ?_
  refine ev_iconst 0 dX7_drop_1 (by decide) ?_
  refine ev_putI dX7_drop_2 fpX7_96 rfl rfl   ?_
  obtain ⟨h1, eh1⟩ : ∃ z : Hp, z = sI h 27 (upd (h.1 27) 0 0) := ⟨_, rfl⟩
  rw [← eh1]
  have H := H h1 eh1
  refine ev_aload_n 0 dX7_drop_5 rfl (x := 27) rfl ?_
  refine ev_getI dX7_drop_6 flX7_102 rfl rfl ?_
  refine ev_if_eq 15 dX7_drop_9 (by decide) ⟨fun c2 => ?_, fun c2 => ?_⟩
  · have H := H.1 c2
    refine ev_aload_n 0 dX7_drop_15 rfl (x := 27) rfl ?_
    refine ev_getI dX7_drop_16 flX7_106 rfl rfl ?_
    refine ev_istore_n 1 dX7_drop_19 rfl (by decide) ?_
    refine ev_L (L' := [(1, vI (h1.1 27 11)), (0, vR 27)]) rfl ?_
    refine ev_iload_n 1 dX7_drop_20 rfl (x := (h1.1 27 11)) rfl ?_
    refine ev_iconst 5 dX7_drop_21 (by decide) ?_
    refine ev_icmp_ne 36 dX7_drop_22 (by decide) ⟨fun c3 => ?_, fun c3 => ?_⟩
    · have H := H.1 c3
      refine ev_aload_n 0 dX7_drop_36 rfl (x := 27) rfl ?_
      refine ev_callV (As := []) (rest := []) dX7_drop_37 mlX7_109 rm_mX7_drop_mX7_forget rfl rfl rfl rfl (Nat.le_of_ble_eq_true rfl) H (fun v h4 H => ?_)
      obtain ⟨rfl, H⟩ := H
      show Ev mX7_drop 40 [(1, vI (h1.1 27 11)), (0, vR 27)] [] h4 Q
      refine ev_iload_n 1 dX7_drop_40 rfl (x := (h1.1 27 11)) rfl ?_
      exact ev_iret dX7_drop_41 rfl H
    · have H := H.2 c3
      refine ev_aload_n 0 dX7_drop_25 rfl (x := 27) rfl ?_
      refine ev_iconst 0 dX7_drop_26 (by decide) ?_
      refine ev_callV (As := [vI 0]) (rest := []) dX7_drop_27 mlX7_133 rm_mX7_drop_mX7_checkpoint rfl rfl rfl rfl (Nat.le_of_ble_eq_true rfl) H (fun v h5 H => ?_)
      obtain ⟨r6, rfl, H⟩ := H
      show Ev mX7_drop 30 [(1, vI (h1.1 27 11)), (0, vR 27)] [vI r6] h5 Q
      refine ev_if_ne 36 dX7_drop_30 (by decide) ⟨fun c7 => ?_, fun c7 => ?_⟩
      · have H := H.1 c7
        refine ev_aload_n 0 dX7_drop_36 rfl (x := 27) rfl ?_
        refine ev_callV (As := []) (rest := []) dX7_drop_37 mlX7_109 rm_mX7_drop_mX7_forget rfl rfl rfl rfl (Nat.le_of_ble_eq_true rfl) H (fun v h8 H => ?_)
        obtain ⟨rfl, H⟩ := H
        show Ev mX7_drop 40 [(1, vI (h1.1 27 11)), (0, vR 27)] [] h8 Q
        refine ev_iload_n 1 dX7_drop_40 rfl (x := (h1.1 27 11)) rfl ?_
        exact ev_iret dX7_drop_41 rfl H
      · have H := H.2 c7
        refine ev_bipush (-106) dX7_drop_33 (by decide) ?_
        exact ev_iret dX7_drop_35 rfl H
  · have H := H.2 c2
    refine ev_bipush (-100) dX7_drop_12 (by decide) ?_
    exact ev_iret dX7_drop_14 rfl H
set_option maxRecDepth 20000 in
theorem sX7_runFrom {h : Hp} {Q : Option AV → Hp → Prop} {x1 : Int32} (H : (((¬ x1 = 0) → (vp_in (x1 - 1) 40 ∧ Q (some (vI (h.1 34 (Int32.toNatClampNeg (x1 - 1))))) h)) ∧ ((x1 = 0) → Q (some (vI 0)) h))) : EvM mX7_runFrom [vR 27, vI x1] h Q := by
  refine evM_of (by decide) rfl (Nat.le_of_ble_eq_true rfl) ?_
  show Ev mX7_runFrom 0 [(0, vR 27), (1, vI x1)] [] h Q
  refine ev_iload_n 1 dX7_runFrom_0 rfl (x := x1) rfl ?_
  refine ev_if_ne 8 dX7_runFrom_1 (by decide) ⟨fun c1 => ?_, fun c1 => ?_⟩
  · have H := H.1 c1
    refine ev_aload_n 0 dX7_runFrom_8 rfl (x := 27) rfl ?_
    refine ev_getR dX7_runFrom_9 flX7_39 rfl rfl ?_
    refine ev_iload_n 1 dX7_runFrom_12 rfl (x := x1) rfl ?_
    refine ev_iconst 1 dX7_runFrom_13 (by decide) ?_
    refine ev_isub dX7_runFrom_14 ?_
    obtain ⟨b2, H⟩ := H
    refine ev_iald dX7_runFrom_15 rfl b2 ?_
    exact ev_iret dX7_runFrom_16 rfl H
  · have H := H.2 c1
    refine ev_iconst 0 dX7_runFrom_4 (by decide) ?_
    refine ev_goto 16 dX7_runFrom_5 (by decide) ?_
    exact ev_iret dX7_runFrom_16 rfl H
set_option maxRecDepth 20000 in
theorem sX7_sort {h : Hp} {Q : Option AV → Hp → Prop} {x1 : Int32} {x2 : Int32} (H : Ev mX7_sort 4 [(0, vR 27), (1, vI x1), (2, vI x2), (3, vI (x1 + 1))] [] h Q) : EvM mX7_sort [vR 27, vI x1, vI x2] h Q := by
  refine evM_of (by decide) rfl (Nat.le_of_ble_eq_true rfl) ?_
  show Ev mX7_sort 0 [(0, vR 27), (1, vI x1), (2, vI x2)] [] h Q
  refine ev_iload_n 1 dX7_sort_0 rfl (x := x1) rfl ?_
  refine ev_iconst 1 dX7_sort_1 (by decide) ?_
  refine ev_iadd dX7_sort_2 ?_
  refine ev_istore_n 3 dX7_sort_3 rfl (by decide) ?_
  refine ev_L (L' := [(3, vI (x1 + 1)), (0, vR 27), (1, vI x1), (2, vI x2)]) rfl ?_
  exact ev_sub (L' := [(0, vR 27), (1, vI x1), (2, vI x2), (3, vI (x1 + 1))]) ⟨rfl, rfl, rfl, rfl, trivial⟩ H
set_option maxRecDepth 20000 in
theorem sX7_sort_4 {h : Hp} {Q : Option AV → Hp → Prop} {x1 : Int32} {x2 : Int32} {x3 : Int32} (H : (((x2 ≤ x3) → Q none h) ∧ ((¬ x2 ≤ x3) → (vp_in x3 240 ∧ (vp_in x3 240 ∧ Ev mX7_sort 28 [(0, vR 27), (1, vI x1), (2, vI x2), (3, vI x3), (4, vI (h.1 32 (Int32.toNatClampNeg x3))), (5, vI (h.1 33 (Int32.toNatClampNeg x3))), (6, vI x3)] [] h Q))))) : Ev mX7_sort 4 [(0, vR 27), (1, vI x1), (2, vI x2), (3, vI x3)] [] h Q := by
  refine ev_iload_n 3 dX7_sort_4 rfl (x := x3) rfl ?_
  refine ev_iload_n 2 dX7_sort_5 rfl (x := x2) rfl ?_
  refine ev_icmp_ge 124 dX7_sort_6 (by decide) ⟨fun c1 => ?_, fun c1 => ?_⟩
  · have H := H.1 c1
    exact ev_vret dX7_sort_124 rfl H
  · have H := H.2 c1
    refine ev_aload_n 0 dX7_sort_9 rfl (x := 27) rfl ?_
    refine ev_getR dX7_sort_10 flX7_33 rfl rfl ?_
    refine ev_iload_n 3 dX7_sort_13 rfl (x := x3) rfl ?_
    obtain ⟨b2, H⟩ := H
    refine ev_iald dX7_sort_14 rfl b2 ?_
    refine ev_istore dX7_sort_15 (by decide) ?_
    refine ev_L (L' := [(4, vI (h.1 32 (Int32.toNatClampNeg x3))), (0, vR 27), (1, vI x1), (2, vI x2), (3, vI x3)]) rfl ?_
    refine ev_aload_n 0 dX7_sort_17 rfl (x := 27) rfl ?_
    refine ev_getR dX7_sort_18 flX7_36 rfl rfl ?_
    refine ev_iload_n 3 dX7_sort_21 rfl (x := x3) rfl ?_
    obtain ⟨b3, H⟩ := H
    refine ev_iald dX7_sort_22 rfl b3 ?_
    refine ev_istore dX7_sort_23 (by decide) ?_
    refine ev_L (L' := [(5, vI (h.1 33 (Int32.toNatClampNeg x3))), (4, vI (h.1 32 (Int32.toNatClampNeg x3))), (0, vR 27), (1, vI x1), (2, vI x2), (3, vI x3)]) rfl ?_
    refine ev_iload_n 3 dX7_sort_25 rfl (x := x3) rfl ?_
    refine ev_istore dX7_sort_26 (by decide) ?_
    refine ev_L (L' := [(6, vI x3), (5, vI (h.1 33 (Int32.toNatClampNeg x3))), (4, vI (h.1 32 (Int32.toNatClampNeg x3))), (0, vR 27), (1, vI x1), (2, vI x2), (3, vI x3)]) rfl ?_
    exact ev_sub (L' := [(0, vR 27), (1, vI x1), (2, vI x2), (3, vI x3), (4, vI (h.1 32 (Int32.toNatClampNeg x3))), (5, vI (h.1 33 (Int32.toNatClampNeg x3))), (6, vI x3)]) ⟨rfl, rfl, rfl, rfl, rfl, rfl, rfl, trivial⟩ H
set_option maxRecDepth 20000 in
theorem sX7_sort_28 {h : Hp} {Q : Option AV → Hp → Prop} {x1 : Int32} {x2 : Int32} {x3 : Int32} {x4 : Int32} {x5 : Int32} {x6 : Int32} (H : (((x6 ≤ x1) → Ev mX7_sort 100 [(0, vR 27), (1, vI x1), (2, vI x2), (3, vI x3), (4, vI x4), (5, vI x5), (6, vI x6)] [] h Q) ∧ ((¬ x6 ≤ x1) → (vp_in (x6 - 1) 240 ∧ (vp_in (x6 - 1) 240 ∧ EvM mX7_isBefore [vI x4, vI x5, vI (h.1 32 (Int32.toNatClampNeg (x6 - 1))), vI (h.1 33 (Int32.toNatClampNeg (x6 - 1)))] h (fun v h4 => ∃ r5 : Int32, v = some (vI r5) ∧ (((r5 = 0) → Ev mX7_sort 100 [(0, vR 27), (1, vI x1), (2, vI x2), (3, vI x3), (4, vI x4), (5, vI x5), (6, vI x6)] [] h4 Q) ∧ ((¬ r5 = 0) → (vp_in (x6 - 1) 240 ∧ (vp_in x6 240 ∧ (∀ h9 : Hp, h9 = sI h4 32 (upd (h4.1 32) (Int32.toNatClampNeg x6) (h4.1 32 (Int32.toNatClampNeg (x6 - 1)))) → (vp_in (x6 - 1) 240 ∧ (vp_in x6 240 ∧ (∀ h12 : Hp, h12 = sI h9 33 (upd (h9.1 33) (Int32.toNatClampNeg x6) (h9.1 33 (Int32.toNatClampNeg (x6 - 1)))) → Ev mX7_sort 28 [(0, vR 27), (1, vI x1), (2, vI x2), (3, vI x3), (4, vI x4), (5, vI x5), (6, vI (x6 + (-1)))] [] h12 Q)))))))))))))) : Ev mX7_sort 28 [(0, vR 27), (1, vI x1), (2, vI x2), (3, vI x3), (4, vI x4), (5, vI x5), (6, vI x6)] [] h Q := by
  refine ev_iload dX7_sort_28 (x := x6) rfl ?_
  refine ev_iload_n 1 dX7_sort_30 rfl (x := x1) rfl ?_
  refine ev_icmp_le 100 dX7_sort_31 (by decide) ⟨fun c1 => ?_, fun c1 => ?_⟩
  · have H := H.1 c1
    exact ev_sub (L' := [(0, vR 27), (1, vI x1), (2, vI x2), (3, vI x3), (4, vI x4), (5, vI x5), (6, vI x6)]) ⟨rfl, rfl, rfl, rfl, rfl, rfl, rfl, trivial⟩ H
  · have H := H.2 c1
    refine ev_iload dX7_sort_34 (x := x4) rfl ?_
    refine ev_iload dX7_sort_36 (x := x5) rfl ?_
    refine ev_aload_n 0 dX7_sort_38 rfl (x := 27) rfl ?_
    refine ev_getR dX7_sort_39 flX7_33 rfl rfl ?_
    refine ev_iload dX7_sort_42 (x := x6) rfl ?_
    refine ev_iconst 1 dX7_sort_44 (by decide) ?_
    refine ev_isub dX7_sort_45 ?_
    obtain ⟨b2, H⟩ := H
    refine ev_iald dX7_sort_46 rfl b2 ?_
    refine ev_aload_n 0 dX7_sort_47 rfl (x := 27) rfl ?_
    refine ev_getR dX7_sort_48 flX7_36 rfl rfl ?_
    refine ev_iload dX7_sort_51 (x := x6) rfl ?_
    refine ev_iconst 1 dX7_sort_53 (by decide) ?_
    refine ev_isub dX7_sort_54 ?_
    obtain ⟨b3, H⟩ := H
    refine ev_iald dX7_sort_55 rfl b3 ?_
    refine ev_callS (As := [vI x4, vI x5, vI (h.1 32 (Int32.toNatClampNeg (x6 - 1))), vI (h.1 33 (Int32.toNatClampNeg (x6 - 1)))]) (rest := []) dX7_sort_56 mlX7_167 rm_mX7_sort_mX7_isBefore rfl rfl (Nat.le_of_ble_eq_true rfl) H (fun v h4 H => ?_)
    obtain ⟨r5, rfl, H⟩ := H
    show Ev mX7_sort 59 [(0, vR 27), (1, vI x1), (2, vI x2), (3, vI x3), (4, vI x4), (5, vI x5), (6, vI x6)] [vI r5] h4 Q
    refine ev_if_eq 100 dX7_sort_59 (by decide) ⟨fun c6 => ?_, fun c6 => ?_⟩
    · have H := H.1 c6
      exact ev_sub (L' := [(0, vR 27), (1, vI x1), (2, vI x2), (3, vI x3), (4, vI x4), (5, vI x5), (6, vI x6)]) ⟨rfl, rfl, rfl, rfl, rfl, rfl, rfl, trivial⟩ H
    · have H := H.2 c6
      refine ev_aload_n 0 dX7_sort_62 rfl (x := 27) rfl ?_
      refine ev_getR dX7_sort_63 flX7_33 rfl rfl ?_
      refine ev_iload dX7_sort_66 (x := x6) rfl ?_
      refine ev_aload_n 0 dX7_sort_68 rfl (x := 27) rfl ?_
      refine ev_getR dX7_sort_69 flX7_33 rfl rfl ?_
      refine ev_iload dX7_sort_72 (x := x6) rfl ?_
      refine ev_iconst 1 dX7_sort_74 (by decide) ?_
      refine ev_isub dX7_sort_75 ?_
      obtain ⟨b7, H⟩ := H
      refine ev_iald dX7_sort_76 rfl b7 ?_
      obtain ⟨b8, H⟩ := H
      refine ev_iast dX7_sort_77 rfl b8  ?_
      obtain ⟨h9, eh9⟩ : ∃ z : Hp, z = sI h4 32 (upd (h4.1 32) (Int32.toNatClampNeg x6) (h4.1 32 (Int32.toNatClampNeg (x6 - 1)))) := ⟨_, rfl⟩
      rw [← eh9]
      have H := H h9 eh9
      refine ev_aload_n 0 dX7_sort_78 rfl (x := 27) rfl ?_
      refine ev_getR dX7_sort_79 flX7_36 rfl rfl ?_
      refine ev_iload dX7_sort_82 (x := x6) rfl ?_
      refine ev_aload_n 0 dX7_sort_84 rfl (x := 27) rfl ?_
      refine ev_getR dX7_sort_85 flX7_36 rfl rfl ?_
      refine ev_iload dX7_sort_88 (x := x6) rfl ?_
      refine ev_iconst 1 dX7_sort_90 (by decide) ?_
      refine ev_isub dX7_sort_91 ?_
      obtain ⟨b10, H⟩ := H
      refine ev_iald dX7_sort_92 rfl b10 ?_
      obtain ⟨b11, H⟩ := H
      refine ev_iast dX7_sort_93 rfl b11  ?_
      obtain ⟨h12, eh12⟩ : ∃ z : Hp, z = sI h9 33 (upd (h9.1 33) (Int32.toNatClampNeg x6) (h9.1 33 (Int32.toNatClampNeg (x6 - 1)))) := ⟨_, rfl⟩
      rw [← eh12]
      have H := H h12 eh12
      refine ev_iinc (x := x6) (v := (-1)) dX7_sort_94 rfl (by decide) (by decide) ?_
      refine ev_L (L' := [(6, vI (x6 + (-1))), (0, vR 27), (1, vI x1), (2, vI x2), (3, vI x3), (4, vI x4), (5, vI x5)]) rfl ?_
      refine ev_goto 28 dX7_sort_97 (by decide) ?_
      exact ev_sub (L' := [(0, vR 27), (1, vI x1), (2, vI x2), (3, vI x3), (4, vI x4), (5, vI x5), (6, vI (x6 + (-1)))]) ⟨rfl, rfl, rfl, rfl, rfl, rfl, rfl, trivial⟩ H
set_option maxRecDepth 20000 in
theorem sX7_sort_100 {h : Hp} {Q : Option AV → Hp → Prop} {x1 : Int32} {x2 : Int32} {x3 : Int32} {x4 : Int32} {x5 : Int32} {x6 : Int32} (H : (vp_in x6 240 ∧ (∀ h2 : Hp, h2 = sI h 32 (upd (h.1 32) (Int32.toNatClampNeg x6) x4) → (vp_in x6 240 ∧ (∀ h4 : Hp, h4 = sI h2 33 (upd (h2.1 33) (Int32.toNatClampNeg x6) x5) → Ev mX7_sort 4 [(0, vR 27), (1, vI x1), (2, vI x2), (3, vI (x3 + 1))] [] h4 Q))))) : Ev mX7_sort 100 [(0, vR 27), (1, vI x1), (2, vI x2), (3, vI x3), (4, vI x4), (5, vI x5), (6, vI x6)] [] h Q := by
  refine ev_aload_n 0 dX7_sort_100 rfl (x := 27) rfl ?_
  refine ev_getR dX7_sort_101 flX7_33 rfl rfl ?_
  refine ev_iload dX7_sort_104 (x := x6) rfl ?_
  refine ev_iload dX7_sort_106 (x := x4) rfl ?_
  obtain ⟨b1, H⟩ := H
  refine ev_iast dX7_sort_108 rfl b1  ?_
  obtain ⟨h2, eh2⟩ : ∃ z : Hp, z = sI h 32 (upd (h.1 32) (Int32.toNatClampNeg x6) x4) := ⟨_, rfl⟩
  rw [← eh2]
  have H := H h2 eh2
  refine ev_aload_n 0 dX7_sort_109 rfl (x := 27) rfl ?_
  refine ev_getR dX7_sort_110 flX7_36 rfl rfl ?_
  refine ev_iload dX7_sort_113 (x := x6) rfl ?_
  refine ev_iload dX7_sort_115 (x := x5) rfl ?_
  obtain ⟨b3, H⟩ := H
  refine ev_iast dX7_sort_117 rfl b3  ?_
  obtain ⟨h4, eh4⟩ : ∃ z : Hp, z = sI h2 33 (upd (h2.1 33) (Int32.toNatClampNeg x6) x5) := ⟨_, rfl⟩
  rw [← eh4]
  have H := H h4 eh4
  refine ev_iinc (x := x3) (v := 1) dX7_sort_118 rfl (by decide) (by decide) ?_
  refine ev_L (L' := [(3, vI (x3 + 1)), (0, vR 27), (1, vI x1), (2, vI x2), (4, vI x4), (5, vI x5), (6, vI x6)]) rfl ?_
  refine ev_goto 4 dX7_sort_121 (by decide) ?_
  exact ev_sub (L' := [(0, vR 27), (1, vI x1), (2, vI x2), (3, vI (x3 + 1))]) ⟨rfl, rfl, rfl, rfl, trivial⟩ H
set_option maxRecDepth 20000 in
theorem sX7_scanStep {h : Hp} {Q : Option AV → Hp → Prop} (H : Ev mX7_scanStep 8 [(0, vR 27), (1, vI (12 * (h.1 27 16)))] [] h Q) : EvM mX7_scanStep [vR 27] h Q := by
  refine evM_of (by decide) rfl (Nat.le_of_ble_eq_true rfl) ?_
  show Ev mX7_scanStep 0 [(0, vR 27)] [] h Q
  refine ev_bipush 12 dX7_scanStep_0 (by decide) ?_
  refine ev_aload_n 0 dX7_scanStep_2 rfl (x := 27) rfl ?_
  refine ev_getI dX7_scanStep_3 flX7_139 rfl rfl ?_
  refine ev_imul dX7_scanStep_6 ?_
  refine ev_istore_n 1 dX7_scanStep_7 rfl (by decide) ?_
  refine ev_L (L' := [(1, vI (12 * (h.1 27 16))), (0, vR 27)]) rfl ?_
  exact ev_sub (L' := [(0, vR 27), (1, vI (12 * (h.1 27 16)))]) ⟨rfl, rfl, trivial⟩ H
set_option maxRecDepth 20000 in
theorem sX7_scanStep_8 {h : Hp} {Q : Option AV → Hp → Prop} {x1 : Int32} (H : (((((12 * (h.1 27 16)) + 12) ≤ x1) → (∀ h2 : Hp, h2 = sI h 27 (upd (h.1 27) 16 ((h.1 27 16) + 1)) → EvM mX7_runFrom [vR 27, vI (h2.1 27 20)] h2 (fun v h3 => ∃ r4 : Int32, v = some (vI r4) ∧ (((24 ≤ ((h2.1 27 17) - r4)) → Ev mX7_scanStep 115 [(0, vR 27), (1, vI ((h2.1 27 17) - r4))] [] h3 Q) ∧ ((¬ 24 ≤ ((h2.1 27 17) - r4)) → (((¬ (h3.1 27 16) = 20) → Ev mX7_scanStep 170 [(0, vR 27)] [] h3 Q) ∧ (((h3.1 27 16) = 20) → (((((h2.1 27 17) - r4) ≤ 0) → Ev mX7_scanStep 170 [(0, vR 27)] [] h3 Q) ∧ ((¬ ((h2.1 27 17) - r4) ≤ 0) → Ev mX7_scanStep 115 [(0, vR 27), (1, vI ((h2.1 27 17) - r4))] [] h3 Q))))))))) ∧ ((¬ ((12 * (h.1 27 16)) + 12) ≤ x1) → (vp_in x1 240 ∧ ((((h.1 28 (Int32.toNatClampNeg x1)) = 0) → Ev mX7_scanStep 8 [(0, vR 27), (1, vI (x1 + 1))] [] h Q) ∧ ((¬ (h.1 28 (Int32.toNatClampNeg x1)) = 0) → (vp_in x1 240 ∧ (vp_in (h.1 27 17) 240 ∧ (∀ h12 : Hp, h12 = sI h 32 (upd (h.1 32) (Int32.toNatClampNeg (h.1 27 17)) (h.1 29 (Int32.toNatClampNeg x1))) → (vp_in (h12.1 27 17) 240 ∧ (∀ h14 : Hp, h14 = sI h12 33 (upd (h12.1 33) (Int32.toNatClampNeg (h12.1 27 17)) x1) → (∀ h15 : Hp, h15 = sI h14 27 (upd (h14.1 27) 17 ((h14.1 27 17) + 1)) → Ev mX7_scanStep 8 [(0, vR 27), (1, vI (x1 + 1))] [] h15 Q)))))))))))) : Ev mX7_scanStep 8 [(0, vR 27), (1, vI x1)] [] h Q := by
  refine ev_iload_n 1 dX7_scanStep_8 rfl (x := x1) rfl ?_
  refine ev_bipush 12 dX7_scanStep_9 (by decide) ?_
  refine ev_aload_n 0 dX7_scanStep_11 rfl (x := 27) rfl ?_
  refine ev_getI dX7_scanStep_12 flX7_139 rfl rfl ?_
  refine ev_imul dX7_scanStep_15 ?_
  refine ev_bipush 12 dX7_scanStep_16 (by decide) ?_
  refine ev_iadd dX7_scanStep_18 ?_
  refine ev_icmp_ge 72 dX7_scanStep_19 (by decide) ⟨fun c1 => ?_, fun c1 => ?_⟩
  · have H := H.1 c1
    refine ev_aload_n 0 dX7_scanStep_72 rfl (x := 27) rfl ?_
    refine ev_dup dX7_scanStep_73 rfl ?_
    refine ev_getI dX7_scanStep_74 flX7_139 rfl rfl ?_
    refine ev_iconst 1 dX7_scanStep_77 (by decide) ?_
    refine ev_iadd dX7_scanStep_78 ?_
    refine ev_putI dX7_scanStep_79 fpX7_139 rfl rfl   ?_
    obtain ⟨h2, eh2⟩ : ∃ z : Hp, z = sI h 27 (upd (h.1 27) 16 ((h.1 27 16) + 1)) := ⟨_, rfl⟩
    rw [← eh2]
    have H := H h2 eh2
    refine ev_aload_n 0 dX7_scanStep_82 rfl (x := 27) rfl ?_
    refine ev_getI dX7_scanStep_83 flX7_142 rfl rfl ?_
    refine ev_aload_n 0 dX7_scanStep_86 rfl (x := 27) rfl ?_
    refine ev_aload_n 0 dX7_scanStep_87 rfl (x := 27) rfl ?_
    refine ev_getI dX7_scanStep_88 flX7_145 rfl rfl ?_
    refine ev_callV (As := [vI (h2.1 27 20)]) (rest := [vI (h2.1 27 17)]) dX7_scanStep_91 mlX7_237 rm_mX7_scanStep_mX7_runFrom rfl rfl rfl rfl (Nat.le_of_ble_eq_true rfl) H (fun v h3 H => ?_)
    obtain ⟨r4, rfl, H⟩ := H
    show Ev mX7_scanStep 94 [(0, vR 27), (1, vI x1)] [vI r4, vI (h2.1 27 17)] h3 Q
    refine ev_isub dX7_scanStep_94 ?_
    refine ev_istore_n 1 dX7_scanStep_95 rfl (by decide) ?_
    refine ev_L (L' := [(1, vI ((h2.1 27 17) - r4)), (0, vR 27)]) rfl ?_
    refine ev_iload_n 1 dX7_scanStep_96 rfl (x := ((h2.1 27 17) - r4)) rfl ?_
    refine ev_bipush 24 dX7_scanStep_97 (by decide) ?_
    refine ev_icmp_ge 115 dX7_scanStep_99 (by decide) ⟨fun c5 => ?_, fun c5 => ?_⟩
    · have H := H.1 c5
      exact ev_sub (L' := [(0, vR 27), (1, vI ((h2.1 27 17) - r4))]) ⟨rfl, rfl, trivial⟩ H
    · have H := H.2 c5
      refine ev_aload_n 0 dX7_scanStep_102 rfl (x := 27) rfl ?_
      refine ev_getI dX7_scanStep_103 flX7_139 rfl rfl ?_
      refine ev_bipush 20 dX7_scanStep_106 (by decide) ?_
      refine ev_icmp_ne 170 dX7_scanStep_108 (by decide) ⟨fun c6 => ?_, fun c6 => ?_⟩
      · have H := H.1 c6
        exact ev_sub (L' := [(0, vR 27)]) ⟨rfl, trivial⟩ H
      · have H := H.2 c6
        refine ev_iload_n 1 dX7_scanStep_111 rfl (x := ((h2.1 27 17) - r4)) rfl ?_
        refine ev_if_le 170 dX7_scanStep_112 (by decide) ⟨fun c7 => ?_, fun c7 => ?_⟩
        · have H := H.1 c7
          exact ev_sub (L' := [(0, vR 27)]) ⟨rfl, trivial⟩ H
        · have H := H.2 c7
          exact ev_sub (L' := [(0, vR 27), (1, vI ((h2.1 27 17) - r4))]) ⟨rfl, rfl, trivial⟩ H
  · have H := H.2 c1
    refine ev_aload_n 0 dX7_scanStep_22 rfl (x := 27) rfl ?_
    refine ev_getR dX7_scanStep_23 flX7_7 rfl rfl ?_
    refine ev_iload_n 1 dX7_scanStep_26 rfl (x := x1) rfl ?_
    obtain ⟨b8, H⟩ := H
    refine ev_zald dX7_scanStep_27 rfl b8 ?_
    refine ev_if_eq 66 dX7_scanStep_28 (by decide) ⟨fun c9 => ?_, fun c9 => ?_⟩
    · have H := H.1 c9
      refine ev_iinc (x := x1) (v := 1) dX7_scanStep_66 rfl (by decide) (by decide) ?_
      refine ev_L (L' := [(1, vI (x1 + 1)), (0, vR 27)]) rfl ?_
      refine ev_goto 8 dX7_scanStep_69 (by decide) ?_
      exact ev_sub (L' := [(0, vR 27), (1, vI (x1 + 1))]) ⟨rfl, rfl, trivial⟩ H
    · have H := H.2 c9
      refine ev_aload_n 0 dX7_scanStep_31 rfl (x := 27) rfl ?_
      refine ev_getR dX7_scanStep_32 flX7_33 rfl rfl ?_
      refine ev_aload_n 0 dX7_scanStep_35 rfl (x := 27) rfl ?_
      refine ev_getI dX7_scanStep_36 flX7_142 rfl rfl ?_
      refine ev_aload_n 0 dX7_scanStep_39 rfl (x := 27) rfl ?_
      refine ev_getR dX7_scanStep_40 flX7_13 rfl rfl ?_
      refine ev_iload_n 1 dX7_scanStep_43 rfl (x := x1) rfl ?_
      obtain ⟨b10, H⟩ := H
      refine ev_iald dX7_scanStep_44 rfl b10 ?_
      obtain ⟨b11, H⟩ := H
      refine ev_iast dX7_scanStep_45 rfl b11  ?_
      obtain ⟨h12, eh12⟩ : ∃ z : Hp, z = sI h 32 (upd (h.1 32) (Int32.toNatClampNeg (h.1 27 17)) (h.1 29 (Int32.toNatClampNeg x1))) := ⟨_, rfl⟩
      rw [← eh12]
      have H := H h12 eh12
      refine ev_aload_n 0 dX7_scanStep_46 rfl (x := 27) rfl ?_
      refine ev_getR dX7_scanStep_47 flX7_36 rfl rfl ?_
      refine ev_aload_n 0 dX7_scanStep_50 rfl (x := 27) rfl ?_
      refine ev_getI dX7_scanStep_51 flX7_142 rfl rfl ?_
      refine ev_iload_n 1 dX7_scanStep_54 rfl (x := x1) rfl ?_
      obtain ⟨b13, H⟩ := H
      refine ev_iast dX7_scanStep_55 rfl b13  ?_
      obtain ⟨h14, eh14⟩ : ∃ z : Hp, z = sI h12 33 (upd (h12.1 33) (Int32.toNatClampNeg (h12.1 27 17)) x1) := ⟨_, rfl⟩
      rw [← eh14]
      have H := H h14 eh14
      refine ev_aload_n 0 dX7_scanStep_56 rfl (x := 27) rfl ?_
      refine ev_dup dX7_scanStep_57 rfl ?_
      refine ev_getI dX7_scanStep_58 flX7_142 rfl rfl ?_
      refine ev_iconst 1 dX7_scanStep_61 (by decide) ?_
      refine ev_iadd dX7_scanStep_62 ?_
      refine ev_putI dX7_scanStep_63 fpX7_142 rfl rfl   ?_
      obtain ⟨h15, eh15⟩ : ∃ z : Hp, z = sI h14 27 (upd (h14.1 27) 17 ((h14.1 27 17) + 1)) := ⟨_, rfl⟩
      rw [← eh15]
      have H := H h15 eh15
      refine ev_iinc (x := x1) (v := 1) dX7_scanStep_66 rfl (by decide) (by decide) ?_
      refine ev_L (L' := [(1, vI (x1 + 1)), (0, vR 27)]) rfl ?_
      refine ev_goto 8 dX7_scanStep_69 (by decide) ?_
      exact ev_sub (L' := [(0, vR 27), (1, vI (x1 + 1))]) ⟨rfl, rfl, trivial⟩ H
set_option maxRecDepth 20000 in
theorem sX7_scanStep_115 {h : Hp} {Q : Option AV → Hp → Prop} {x1 : Int32} (H : EvM mX7_runFrom [vR 27, vI (h.1 27 20)] h (fun v h1 => ∃ r2 : Int32, v = some (vI r2) ∧ EvM mX7_sort [vR 27, vI r2, vI (h1.1 27 17)] h1 (fun v h3 => v = none ∧ (vp_in (h3.1 27 20) 40 ∧ (∀ h5 : Hp, h5 = sI h3 34 (upd (h3.1 34) (Int32.toNatClampNeg (h3.1 27 20)) (h3.1 27 17)) → (∀ h6 : Hp, h6 = sI h5 27 (upd (h5.1 27) 20 ((h5.1 27 20) + 1)) → EvM mX7_writeBlocks [vR 27, vI ((x1 + 7) / 8)] h6 (fun v h7 => ∃ r8 : Int32, v = some (vI r8) ∧ (((¬ r8 = 0) → Ev mX7_scanStep 170 [(0, vR 27)] [] h7 Q) ∧ ((r8 = 0) → Q (some (vI 0)) h7))))))))) : Ev mX7_scanStep 115 [(0, vR 27), (1, vI x1)] [] h Q := by
  refine ev_aload_n 0 dX7_scanStep_115 rfl (x := 27) rfl ?_
  refine ev_aload_n 0 dX7_scanStep_116 rfl (x := 27) rfl ?_
  refine ev_aload_n 0 dX7_scanStep_117 rfl (x := 27) rfl ?_
  refine ev_getI dX7_scanStep_118 flX7_145 rfl rfl ?_
  refine ev_callV (As := [vI (h.1 27 20)]) (rest := [vR 27]) dX7_scanStep_121 mlX7_237 rm_mX7_scanStep_mX7_runFrom rfl rfl rfl rfl (Nat.le_of_ble_eq_true rfl) H (fun v h1 H => ?_)
  obtain ⟨r2, rfl, H⟩ := H
  show Ev mX7_scanStep 124 [(0, vR 27), (1, vI x1)] [vI r2, vR 27] h1 Q
  refine ev_aload_n 0 dX7_scanStep_124 rfl (x := 27) rfl ?_
  refine ev_getI dX7_scanStep_125 flX7_142 rfl rfl ?_
  refine ev_callV (As := [vI r2, vI (h1.1 27 17)]) (rest := []) dX7_scanStep_128 mlX7_240 rm_mX7_scanStep_mX7_sort rfl rfl rfl rfl (Nat.le_of_ble_eq_true rfl) H (fun v h3 H => ?_)
  obtain ⟨rfl, H⟩ := H
  show Ev mX7_scanStep 131 [(0, vR 27), (1, vI x1)] [] h3 Q
  refine ev_aload_n 0 dX7_scanStep_131 rfl (x := 27) rfl ?_
  refine ev_getR dX7_scanStep_132 flX7_39 rfl rfl ?_
  refine ev_aload_n 0 dX7_scanStep_135 rfl (x := 27) rfl ?_
  refine ev_getI dX7_scanStep_136 flX7_145 rfl rfl ?_
  refine ev_aload_n 0 dX7_scanStep_139 rfl (x := 27) rfl ?_
  refine ev_getI dX7_scanStep_140 flX7_142 rfl rfl ?_
  obtain ⟨b4, H⟩ := H
  refine ev_iast dX7_scanStep_143 rfl b4  ?_
  obtain ⟨h5, eh5⟩ : ∃ z : Hp, z = sI h3 34 (upd (h3.1 34) (Int32.toNatClampNeg (h3.1 27 20)) (h3.1 27 17)) := ⟨_, rfl⟩
  rw [← eh5]
  have H := H h5 eh5
  refine ev_aload_n 0 dX7_scanStep_144 rfl (x := 27) rfl ?_
  refine ev_dup dX7_scanStep_145 rfl ?_
  refine ev_getI dX7_scanStep_146 flX7_145 rfl rfl ?_
  refine ev_iconst 1 dX7_scanStep_149 (by decide) ?_
  refine ev_iadd dX7_scanStep_150 ?_
  refine ev_putI dX7_scanStep_151 fpX7_145 rfl rfl   ?_
  obtain ⟨h6, eh6⟩ : ∃ z : Hp, z = sI h5 27 (upd (h5.1 27) 20 ((h5.1 27 20) + 1)) := ⟨_, rfl⟩
  rw [← eh6]
  have H := H h6 eh6
  refine ev_aload_n 0 dX7_scanStep_154 rfl (x := 27) rfl ?_
  refine ev_iload_n 1 dX7_scanStep_155 rfl (x := x1) rfl ?_
  refine ev_bipush 7 dX7_scanStep_156 (by decide) ?_
  refine ev_iadd dX7_scanStep_158 ?_
  refine ev_bipush 8 dX7_scanStep_159 (by decide) ?_
  refine ev_idiv dX7_scanStep_161 (by decide) ?_
  refine ev_callV (As := [vI ((x1 + 7) / 8)]) (rest := []) dX7_scanStep_162 mlX7_116 rm_mX7_scanStep_mX7_writeBlocks rfl rfl rfl rfl (Nat.le_of_ble_eq_true rfl) H (fun v h7 H => ?_)
  obtain ⟨r8, rfl, H⟩ := H
  show Ev mX7_scanStep 165 [(0, vR 27), (1, vI x1)] [vI r8] h7 Q
  refine ev_if_ne 170 dX7_scanStep_165 (by decide) ⟨fun c9 => ?_, fun c9 => ?_⟩
  · have H := H.1 c9
    exact ev_sub (L' := [(0, vR 27)]) ⟨rfl, trivial⟩ H
  · have H := H.2 c9
    refine ev_iconst 0 dX7_scanStep_168 (by decide) ?_
    exact ev_zret dX7_scanStep_169 rfl (by decide) H
set_option maxRecDepth 20000 in
theorem sX7_scanStep_170 {h : Hp} {Q : Option AV → Hp → Prop} (H : (((¬ (h.1 27 16) = 20) → (∀ h2 : Hp, h2 = sI h 27 (upd (h.1 27) 11 1) → Q (some (vI 1)) h2)) ∧ (((h.1 27 16) = 20) → (∀ h3 : Hp, h3 = sI h 27 (upd (h.1 27) 11 2) → Q (some (vI 1)) h3)))) : Ev mX7_scanStep 170 [(0, vR 27)] [] h Q := by
  refine ev_aload_n 0 dX7_scanStep_170 rfl (x := 27) rfl ?_
  refine ev_aload_n 0 dX7_scanStep_171 rfl (x := 27) rfl ?_
  refine ev_getI dX7_scanStep_172 flX7_139 rfl rfl ?_
  refine ev_bipush 20 dX7_scanStep_175 (by decide) ?_
  refine ev_icmp_ne 184 dX7_scanStep_177 (by decide) ⟨fun c1 => ?_, fun c1 => ?_⟩
  · have H := H.1 c1
    refine ev_iconst 1 dX7_scanStep_184 (by decide) ?_
    refine ev_putI dX7_scanStep_185 fpX7_106 rfl rfl   ?_
    obtain ⟨h2, eh2⟩ : ∃ z : Hp, z = sI h 27 (upd (h.1 27) 11 1) := ⟨_, rfl⟩
    rw [← eh2]
    have H := H h2 eh2
    refine ev_iconst 1 dX7_scanStep_188 (by decide) ?_
    exact ev_zret dX7_scanStep_189 rfl (by decide) H
  · have H := H.2 c1
    refine ev_iconst 2 dX7_scanStep_180 (by decide) ?_
    refine ev_goto 185 dX7_scanStep_181 (by decide) ?_
    refine ev_putI dX7_scanStep_185 fpX7_106 rfl rfl   ?_
    obtain ⟨h3, eh3⟩ : ∃ z : Hp, z = sI h 27 (upd (h.1 27) 11 2) := ⟨_, rfl⟩
    rw [← eh3]
    have H := H h3 eh3
    refine ev_iconst 1 dX7_scanStep_188 (by decide) ?_
    exact ev_zret dX7_scanStep_189 rfl (by decide) H
set_option maxRecDepth 20000 in
theorem sX7_mergeStep {h : Hp} {Q : Option AV → Hp → Prop} (H : (((2 ≤ (h.1 27 20)) → EvM mX7_sort [vR 27, vI 0, vI (h.1 34 (Int32.toNatClampNeg 1))] h (fun v h2 => v = none ∧ Ev mX7_mergeStep 30 [(0, vR 27), (1, vI (h.1 34 (Int32.toNatClampNeg 1))), (2, vI 0)] [] h2 Q)) ∧ ((¬ 2 ≤ (h.1 27 20)) → (∀ h3 : Hp, h3 = sI h 27 (upd (h.1 27) 11 3) → Q (some (vI 1)) h3)))) : EvM mX7_mergeStep [vR 27] h Q := by
  refine evM_of (by decide) rfl (Nat.le_of_ble_eq_true rfl) ?_
  show Ev mX7_mergeStep 0 [(0, vR 27)] [] h Q
  refine ev_aload_n 0 dX7_mergeStep_0 rfl (x := 27) rfl ?_
  refine ev_getI dX7_mergeStep_1 flX7_145 rfl rfl ?_
  refine ev_iconst 2 dX7_mergeStep_4 (by decide) ?_
  refine ev_icmp_ge 15 dX7_mergeStep_5 (by decide) ⟨fun c1 => ?_, fun c1 => ?_⟩
  · have H := H.1 c1
    refine ev_aload_n 0 dX7_mergeStep_15 rfl (x := 27) rfl ?_
    refine ev_getR dX7_mergeStep_16 flX7_39 rfl rfl ?_
    refine ev_iconst 1 dX7_mergeStep_19 (by decide) ?_
    refine ev_iald dX7_mergeStep_20 rfl (by unfold vp_in; decide) ?_
    refine ev_istore_n 1 dX7_mergeStep_21 rfl (by decide) ?_
    refine ev_L (L' := [(1, vI (h.1 34 (Int32.toNatClampNeg 1))), (0, vR 27)]) rfl ?_
    refine ev_aload_n 0 dX7_mergeStep_22 rfl (x := 27) rfl ?_
    refine ev_iconst 0 dX7_mergeStep_23 (by decide) ?_
    refine ev_iload_n 1 dX7_mergeStep_24 rfl (x := (h.1 34 (Int32.toNatClampNeg 1))) rfl ?_
    refine ev_callV (As := [vI 0, vI (h.1 34 (Int32.toNatClampNeg 1))]) (rest := []) dX7_mergeStep_25 mlX7_240 rm_mX7_mergeStep_mX7_sort rfl rfl rfl rfl (Nat.le_of_ble_eq_true rfl) H (fun v h2 H => ?_)
    obtain ⟨rfl, H⟩ := H
    show Ev mX7_mergeStep 28 [(1, vI (h.1 34 (Int32.toNatClampNeg 1))), (0, vR 27)] [] h2 Q
    refine ev_iconst 0 dX7_mergeStep_28 (by decide) ?_
    refine ev_istore_n 2 dX7_mergeStep_29 rfl (by decide) ?_
    refine ev_L (L' := [(2, vI 0), (1, vI (h.1 34 (Int32.toNatClampNeg 1))), (0, vR 27)]) rfl ?_
    exact ev_sub (L' := [(0, vR 27), (1, vI (h.1 34 (Int32.toNatClampNeg 1))), (2, vI 0)]) ⟨rfl, rfl, rfl, trivial⟩ H
  · have H := H.2 c1
    refine ev_aload_n 0 dX7_mergeStep_8 rfl (x := 27) rfl ?_
    refine ev_iconst 3 dX7_mergeStep_9 (by decide) ?_
    refine ev_putI dX7_mergeStep_10 fpX7_106 rfl rfl   ?_
    obtain ⟨h3, eh3⟩ : ∃ z : Hp, z = sI h 27 (upd (h.1 27) 11 3) := ⟨_, rfl⟩
    rw [← eh3]
    have H := H h3 eh3
    refine ev_iconst 1 dX7_mergeStep_13 (by decide) ?_
    exact ev_zret dX7_mergeStep_14 rfl (by decide) H
set_option maxRecDepth 20000 in
theorem sX7_mergeStep_30 {h : Hp} {Q : Option AV → Hp → Prop} {x1 : Int32} {x2 : Int32} (H : ((((h.1 27 17) ≤ x2) → Ev mX7_mergeStep 90 [(0, vR 27), (1, vI x1), (2, vI 0)] [] h Q) ∧ ((¬ (h.1 27 17) ≤ x2) → (((x1 ≤ x2) → Ev mX7_mergeStep 57 [(0, vR 27), (1, vI x1), (2, vI x2)] [vI (x2 - x1)] h Q) ∧ ((¬ x1 ≤ x2) → Ev mX7_mergeStep 57 [(0, vR 27), (1, vI x1), (2, vI x2)] [vI (((h.1 27 17) - x1) + x2)] h Q))))) : Ev mX7_mergeStep 30 [(0, vR 27), (1, vI x1), (2, vI x2)] [] h Q := by
  refine ev_iload_n 2 dX7_mergeStep_30 rfl (x := x2) rfl ?_
  refine ev_aload_n 0 dX7_mergeStep_31 rfl (x := 27) rfl ?_
  refine ev_getI dX7_mergeStep_32 flX7_142 rfl rfl ?_
  refine ev_icmp_ge 88 dX7_mergeStep_35 (by decide) ⟨fun c1 => ?_, fun c1 => ?_⟩
  · have H := H.1 c1
    refine ev_iconst 0 dX7_mergeStep_88 (by decide) ?_
    refine ev_istore_n 2 dX7_mergeStep_89 rfl (by decide) ?_
    refine ev_L (L' := [(2, vI 0), (0, vR 27), (1, vI x1)]) rfl ?_
    exact ev_sub (L' := [(0, vR 27), (1, vI x1), (2, vI 0)]) ⟨rfl, rfl, rfl, trivial⟩ H
  · have H := H.2 c1
    refine ev_iload_n 2 dX7_mergeStep_38 rfl (x := x2) rfl ?_
    refine ev_iload_n 1 dX7_mergeStep_39 rfl (x := x1) rfl ?_
    refine ev_icmp_ge 54 dX7_mergeStep_40 (by decide) ⟨fun c2 => ?_, fun c2 => ?_⟩
    · have H := H.1 c2
      refine ev_iload_n 2 dX7_mergeStep_54 rfl (x := x2) rfl ?_
      refine ev_iload_n 1 dX7_mergeStep_55 rfl (x := x1) rfl ?_
      refine ev_isub dX7_mergeStep_56 ?_
      exact ev_sub (L' := [(0, vR 27), (1, vI x1), (2, vI x2)]) ⟨rfl, rfl, rfl, trivial⟩ H
    · have H := H.2 c2
      refine ev_aload_n 0 dX7_mergeStep_43 rfl (x := 27) rfl ?_
      refine ev_getI dX7_mergeStep_44 flX7_142 rfl rfl ?_
      refine ev_iload_n 1 dX7_mergeStep_47 rfl (x := x1) rfl ?_
      refine ev_isub dX7_mergeStep_48 ?_
      refine ev_iload_n 2 dX7_mergeStep_49 rfl (x := x2) rfl ?_
      refine ev_iadd dX7_mergeStep_50 ?_
      refine ev_goto 57 dX7_mergeStep_51 (by decide) ?_
      exact ev_sub (L' := [(0, vR 27), (1, vI x1), (2, vI x2)]) ⟨rfl, rfl, rfl, trivial⟩ H
set_option maxRecDepth 20000 in
theorem sX7_mergeStep_90 {h : Hp} {Q : Option AV → Hp → Prop} {x1 : Int32} {x2 : Int32} (H : ((((h.1 27 17) ≤ x2) → (∀ h2 : Hp, h2 = sI h 27 (upd (h.1 27) 20 ((h.1 27 20) - 1)) → Ev mX7_mergeStep 140 [(0, vR 27), (1, vI x1), (2, vI 0)] [] h2 Q)) ∧ ((¬ (h.1 27 17) ≤ x2) → (vp_in x2 240 ∧ (vp_in x2 240 ∧ (∀ h5 : Hp, h5 = sI h 32 (upd (h.1 32) (Int32.toNatClampNeg x2) (h.1 50 (Int32.toNatClampNeg x2))) → (vp_in x2 240 ∧ (vp_in x2 240 ∧ (∀ h8 : Hp, h8 = sI h5 33 (upd (h5.1 33) (Int32.toNatClampNeg x2) (h5.1 51 (Int32.toNatClampNeg x2))) → Ev mX7_mergeStep 90 [(0, vR 27), (1, vI x1), (2, vI (x2 + 1))] [] h8 Q))))))))) : Ev mX7_mergeStep 90 [(0, vR 27), (1, vI x1), (2, vI x2)] [] h Q := by
  refine ev_iload_n 2 dX7_mergeStep_90 rfl (x := x2) rfl ?_
  refine ev_aload_n 0 dX7_mergeStep_91 rfl (x := 27) rfl ?_
  refine ev_getI dX7_mergeStep_92 flX7_142 rfl rfl ?_
  refine ev_icmp_ge 128 dX7_mergeStep_95 (by decide) ⟨fun c1 => ?_, fun c1 => ?_⟩
  · have H := H.1 c1
    refine ev_aload_n 0 dX7_mergeStep_128 rfl (x := 27) rfl ?_
    refine ev_dup dX7_mergeStep_129 rfl ?_
    refine ev_getI dX7_mergeStep_130 flX7_145 rfl rfl ?_
    refine ev_iconst 1 dX7_mergeStep_133 (by decide) ?_
    refine ev_isub dX7_mergeStep_134 ?_
    refine ev_putI dX7_mergeStep_135 fpX7_145 rfl rfl   ?_
    obtain ⟨h2, eh2⟩ : ∃ z : Hp, z = sI h 27 (upd (h.1 27) 20 ((h.1 27 20) - 1)) := ⟨_, rfl⟩
    rw [← eh2]
    have H := H h2 eh2
    refine ev_iconst 0 dX7_mergeStep_138 (by decide) ?_
    refine ev_istore_n 2 dX7_mergeStep_139 rfl (by decide) ?_
    refine ev_L (L' := [(2, vI 0), (0, vR 27), (1, vI x1)]) rfl ?_
    exact ev_sub (L' := [(0, vR 27), (1, vI x1), (2, vI 0)]) ⟨rfl, rfl, rfl, trivial⟩ H
  · have H := H.2 c1
    refine ev_aload_n 0 dX7_mergeStep_98 rfl (x := 27) rfl ?_
    refine ev_getR dX7_mergeStep_99 flX7_33 rfl rfl ?_
    refine ev_iload_n 2 dX7_mergeStep_102 rfl (x := x2) rfl ?_
    refine ev_aload_n 0 dX7_mergeStep_103 rfl (x := 27) rfl ?_
    refine ev_getR dX7_mergeStep_104 flX7_87 rfl rfl ?_
    refine ev_iload_n 2 dX7_mergeStep_107 rfl (x := x2) rfl ?_
    obtain ⟨b3, H⟩ := H
    refine ev_iald dX7_mergeStep_108 rfl b3 ?_
    obtain ⟨b4, H⟩ := H
    refine ev_iast dX7_mergeStep_109 rfl b4  ?_
    obtain ⟨h5, eh5⟩ : ∃ z : Hp, z = sI h 32 (upd (h.1 32) (Int32.toNatClampNeg x2) (h.1 50 (Int32.toNatClampNeg x2))) := ⟨_, rfl⟩
    rw [← eh5]
    have H := H h5 eh5
    refine ev_aload_n 0 dX7_mergeStep_110 rfl (x := 27) rfl ?_
    refine ev_getR dX7_mergeStep_111 flX7_36 rfl rfl ?_
    refine ev_iload_n 2 dX7_mergeStep_114 rfl (x := x2) rfl ?_
    refine ev_aload_n 0 dX7_mergeStep_115 rfl (x := 27) rfl ?_
    refine ev_getR dX7_mergeStep_116 flX7_90 rfl rfl ?_
    refine ev_iload_n 2 dX7_mergeStep_119 rfl (x := x2) rfl ?_
    obtain ⟨b6, H⟩ := H
    refine ev_iald dX7_mergeStep_120 rfl b6 ?_
    obtain ⟨b7, H⟩ := H
    refine ev_iast dX7_mergeStep_121 rfl b7  ?_
    obtain ⟨h8, eh8⟩ : ∃ z : Hp, z = sI h5 33 (upd (h5.1 33) (Int32.toNatClampNeg x2) (h5.1 51 (Int32.toNatClampNeg x2))) := ⟨_, rfl⟩
    rw [← eh8]
    have H := H h8 eh8
    refine ev_iinc (x := x2) (v := 1) dX7_mergeStep_122 rfl (by decide) (by decide) ?_
    refine ev_L (L' := [(2, vI (x2 + 1)), (0, vR 27), (1, vI x1)]) rfl ?_
    refine ev_goto 90 dX7_mergeStep_125 (by decide) ?_
    exact ev_sub (L' := [(0, vR 27), (1, vI x1), (2, vI (x2 + 1))]) ⟨rfl, rfl, rfl, trivial⟩ H
set_option maxRecDepth 20000 in
theorem sX7_mergeStep_57 {h : Hp} {Q : Option AV → Hp → Prop} {x1 : Int32} {x2 : Int32} {s0 : Int32} (H : (vp_in x2 240 ∧ (vp_in s0 240 ∧ (∀ h3 : Hp, h3 = sI h 50 (upd (h.1 50) (Int32.toNatClampNeg s0) (h.1 32 (Int32.toNatClampNeg x2))) → (vp_in x2 240 ∧ (vp_in s0 240 ∧ (∀ h6 : Hp, h6 = sI h3 51 (upd (h3.1 51) (Int32.toNatClampNeg s0) (h3.1 33 (Int32.toNatClampNeg x2))) → Ev mX7_mergeStep 30 [(0, vR 27), (1, vI x1), (2, vI (x2 + 1))] [] h6 Q))))))) : Ev mX7_mergeStep 57 [(0, vR 27), (1, vI x1), (2, vI x2)] [vI s0] h Q := by
  refine ev_istore_n 3 dX7_mergeStep_57 rfl (by decide) ?_
  refine ev_L (L' := [(3, vI s0), (0, vR 27), (1, vI x1), (2, vI x2)]) rfl ?_
  refine ev_aload_n 0 dX7_mergeStep_58 rfl (x := 27) rfl ?_
  refine ev_getR dX7_mergeStep_59 flX7_87 rfl rfl ?_
  refine ev_iload_n 3 dX7_mergeStep_62 rfl (x := s0) rfl ?_
  refine ev_aload_n 0 dX7_mergeStep_63 rfl (x := 27) rfl ?_
  refine ev_getR dX7_mergeStep_64 flX7_33 rfl rfl ?_
  refine ev_iload_n 2 dX7_mergeStep_67 rfl (x := x2) rfl ?_
  obtain ⟨b1, H⟩ := H
  refine ev_iald dX7_mergeStep_68 rfl b1 ?_
  obtain ⟨b2, H⟩ := H
  refine ev_iast dX7_mergeStep_69 rfl b2  ?_
  obtain ⟨h3, eh3⟩ : ∃ z : Hp, z = sI h 50 (upd (h.1 50) (Int32.toNatClampNeg s0) (h.1 32 (Int32.toNatClampNeg x2))) := ⟨_, rfl⟩
  rw [← eh3]
  have H := H h3 eh3
  refine ev_aload_n 0 dX7_mergeStep_70 rfl (x := 27) rfl ?_
  refine ev_getR dX7_mergeStep_71 flX7_90 rfl rfl ?_
  refine ev_iload_n 3 dX7_mergeStep_74 rfl (x := s0) rfl ?_
  refine ev_aload_n 0 dX7_mergeStep_75 rfl (x := 27) rfl ?_
  refine ev_getR dX7_mergeStep_76 flX7_36 rfl rfl ?_
  refine ev_iload_n 2 dX7_mergeStep_79 rfl (x := x2) rfl ?_
  obtain ⟨b4, H⟩ := H
  refine ev_iald dX7_mergeStep_80 rfl b4 ?_
  obtain ⟨b5, H⟩ := H
  refine ev_iast dX7_mergeStep_81 rfl b5  ?_
  obtain ⟨h6, eh6⟩ : ∃ z : Hp, z = sI h3 51 (upd (h3.1 51) (Int32.toNatClampNeg s0) (h3.1 33 (Int32.toNatClampNeg x2))) := ⟨_, rfl⟩
  rw [← eh6]
  have H := H h6 eh6
  refine ev_iinc (x := x2) (v := 1) dX7_mergeStep_82 rfl (by decide) (by decide) ?_
  refine ev_L (L' := [(2, vI (x2 + 1)), (3, vI s0), (0, vR 27), (1, vI x1)]) rfl ?_
  refine ev_goto 30 dX7_mergeStep_85 (by decide) ?_
  exact ev_sub (L' := [(0, vR 27), (1, vI x1), (2, vI (x2 + 1))]) ⟨rfl, rfl, rfl, trivial⟩ H
set_option maxRecDepth 20000 in
theorem sX7_mergeStep_140 {h : Hp} {Q : Option AV → Hp → Prop} {x1 : Int32} {x2 : Int32} (H : (((((h.1 27 20) - 1) ≤ x2) → (vp_in ((h.1 27 20) - 1) 40 ∧ (∀ h3 : Hp, h3 = sI h 34 (upd (h.1 34) (Int32.toNatClampNeg ((h.1 27 20) - 1)) (h.1 27 17)) → EvM mX7_writeBlocks [vR 27, vI ((x1 + 7) / 8)] h3 (fun v h4 => ∃ r5 : Int32, v = some (vI r5) ∧ ((r5 = 0 ∨ r5 = 1) ∧ Q (some (vI r5)) h4))))) ∧ ((¬ ((h.1 27 20) - 1) ≤ x2) → (vp_in (x2 + 2) 40 ∧ (vp_in x2 40 ∧ (∀ h8 : Hp, h8 = sI h 34 (upd (h.1 34) (Int32.toNatClampNeg x2) ((h.1 34 (Int32.toNatClampNeg (x2 + 2))) - x1)) → Ev mX7_mergeStep 140 [(0, vR 27), (1, vI x1), (2, vI (x2 + 1))] [] h8 Q)))))) : Ev mX7_mergeStep 140 [(0, vR 27), (1, vI x1), (2, vI x2)] [] h Q := by
  refine ev_iload_n 2 dX7_mergeStep_140 rfl (x := x2) rfl ?_
  refine ev_aload_n 0 dX7_mergeStep_141 rfl (x := 27) rfl ?_
  refine ev_getI dX7_mergeStep_142 flX7_145 rfl rfl ?_
  refine ev_iconst 1 dX7_mergeStep_145 (by decide) ?_
  refine ev_isub dX7_mergeStep_146 ?_
  refine ev_icmp_ge 172 dX7_mergeStep_147 (by decide) ⟨fun c1 => ?_, fun c1 => ?_⟩
  · have H := H.1 c1
    refine ev_aload_n 0 dX7_mergeStep_172 rfl (x := 27) rfl ?_
    refine ev_getR dX7_mergeStep_173 flX7_39 rfl rfl ?_
    refine ev_aload_n 0 dX7_mergeStep_176 rfl (x := 27) rfl ?_
    refine ev_getI dX7_mergeStep_177 flX7_145 rfl rfl ?_
    refine ev_iconst 1 dX7_mergeStep_180 (by decide) ?_
    refine ev_isub dX7_mergeStep_181 ?_
    refine ev_aload_n 0 dX7_mergeStep_182 rfl (x := 27) rfl ?_
    refine ev_getI dX7_mergeStep_183 flX7_142 rfl rfl ?_
    obtain ⟨b2, H⟩ := H
    refine ev_iast dX7_mergeStep_186 rfl b2  ?_
    obtain ⟨h3, eh3⟩ : ∃ z : Hp, z = sI h 34 (upd (h.1 34) (Int32.toNatClampNeg ((h.1 27 20) - 1)) (h.1 27 17)) := ⟨_, rfl⟩
    rw [← eh3]
    have H := H h3 eh3
    refine ev_aload_n 0 dX7_mergeStep_187 rfl (x := 27) rfl ?_
    refine ev_iload_n 1 dX7_mergeStep_188 rfl (x := x1) rfl ?_
    refine ev_bipush 7 dX7_mergeStep_189 (by decide) ?_
    refine ev_iadd dX7_mergeStep_191 ?_
    refine ev_bipush 8 dX7_mergeStep_192 (by decide) ?_
    refine ev_idiv dX7_mergeStep_194 (by decide) ?_
    refine ev_callV (As := [vI ((x1 + 7) / 8)]) (rest := []) dX7_mergeStep_195 mlX7_116 rm_mX7_mergeStep_mX7_writeBlocks rfl rfl rfl rfl (Nat.le_of_ble_eq_true rfl) H (fun v h4 H => ?_)
    obtain ⟨r5, rfl, H⟩ := H
    show Ev mX7_mergeStep 198 [(0, vR 27), (1, vI x1), (2, vI x2)] [vI r5] h4 Q
    exact ev_zret dX7_mergeStep_198 rfl H.1 H.2
  · have H := H.2 c1
    refine ev_aload_n 0 dX7_mergeStep_150 rfl (x := 27) rfl ?_
    refine ev_getR dX7_mergeStep_151 flX7_39 rfl rfl ?_
    refine ev_iload_n 2 dX7_mergeStep_154 rfl (x := x2) rfl ?_
    refine ev_aload_n 0 dX7_mergeStep_155 rfl (x := 27) rfl ?_
    refine ev_getR dX7_mergeStep_156 flX7_39 rfl rfl ?_
    refine ev_iload_n 2 dX7_mergeStep_159 rfl (x := x2) rfl ?_
    refine ev_iconst 2 dX7_mergeStep_160 (by decide) ?_
    refine ev_iadd dX7_mergeStep_161 ?_
    obtain ⟨b6, H⟩ := H
    refine ev_iald dX7_mergeStep_162 rfl b6 ?_
    refine ev_iload_n 1 dX7_mergeStep_163 rfl (x := x1) rfl ?_
    refine ev_isub dX7_mergeStep_164 ?_
    obtain ⟨b7, H⟩ := H
    refine ev_iast dX7_mergeStep_165 rfl b7  ?_
    obtain ⟨h8, eh8⟩ : ∃ z : Hp, z = sI h 34 (upd (h.1 34) (Int32.toNatClampNeg x2) ((h.1 34 (Int32.toNatClampNeg (x2 + 2))) - x1)) := ⟨_, rfl⟩
    rw [← eh8]
    have H := H h8 eh8
    refine ev_iinc (x := x2) (v := 1) dX7_mergeStep_166 rfl (by decide) (by decide) ?_
    refine ev_L (L' := [(2, vI (x2 + 1)), (0, vR 27), (1, vI x1)]) rfl ?_
    refine ev_goto 140 dX7_mergeStep_169 (by decide) ?_
    exact ev_sub (L' := [(0, vR 27), (1, vI x1), (2, vI (x2 + 1))]) ⟨rfl, rfl, rfl, trivial⟩ H
set_option maxRecDepth 20000 in
theorem sX7_loadStep {h : Hp} {Q : Option AV → Hp → Prop} (H : (((¬ (h.1 27 27) = 0) → Ev mX7_loadStep 13 [(0, vR 27)] [vI 0, vR 27] h Q) ∧ (((h.1 27 27) = 0) → Ev mX7_loadStep 13 [(0, vR 27)] [vI 1, vR 27] h Q))) : EvM mX7_loadStep [vR 27] h Q := by
  refine evM_of (by decide) rfl (Nat.le_of_ble_eq_true rfl) ?_
  show Ev mX7_loadStep 0 [(0, vR 27)] [] h Q
  refine ev_aload_n 0 dX7_loadStep_0 rfl (x := 27) rfl ?_
  refine ev_aload_n 0 dX7_loadStep_1 rfl (x := 27) rfl ?_
  refine ev_getI dX7_loadStep_2 flX7_225 rfl rfl ?_
  refine ev_if_ne 12 dX7_loadStep_5 (by decide) ⟨fun c1 => ?_, fun c1 => ?_⟩
  · have H := H.1 c1
    refine ev_iconst 0 dX7_loadStep_12 (by decide) ?_
    exact ev_sub (L' := [(0, vR 27)]) ⟨rfl, trivial⟩ H
  · have H := H.2 c1
    refine ev_iconst 1 dX7_loadStep_8 (by decide) ?_
    refine ev_goto 13 dX7_loadStep_9 (by decide) ?_
    exact ev_sub (L' := [(0, vR 27)]) ⟨rfl, trivial⟩ H
set_option maxRecDepth 20000 in
theorem sX7_loadStep_13 {h : Hp} {Q : Option AV → Hp → Prop} {s0 : Int32} (H : EvM mX7_newNode [vR 27, vI s0] h (fun v h1 => ∃ r2 : Int32, v = some (vI r2) ∧ (((¬ (h1.1 27 27) = 0) → Ev mX7_loadStep 119 [(0, vR 27), (1, vI r2)] [] h1 Q) ∧ (((h1.1 27 27) = 0) → Ev mX7_loadStep 24 [(0, vR 27), (1, vI r2)] [] h1 Q)))) : Ev mX7_loadStep 13 [(0, vR 27)] [vI s0, vR 27] h Q := by
  refine ev_callV (As := [vI s0]) (rest := []) dX7_loadStep_13 mlX7_181 rm_mX7_loadStep_mX7_newNode rfl rfl rfl rfl (Nat.le_of_ble_eq_true rfl) H (fun v h1 H => ?_)
  obtain ⟨r2, rfl, H⟩ := H
  show Ev mX7_loadStep 16 [(0, vR 27)] [vI r2] h1 Q
  refine ev_istore_n 1 dX7_loadStep_16 rfl (by decide) ?_
  refine ev_L (L' := [(1, vI r2), (0, vR 27)]) rfl ?_
  refine ev_aload_n 0 dX7_loadStep_17 rfl (x := 27) rfl ?_
  refine ev_getI dX7_loadStep_18 flX7_225 rfl rfl ?_
  refine ev_if_ne 119 dX7_loadStep_21 (by decide) ⟨fun c3 => ?_, fun c3 => ?_⟩
  · have H := H.1 c3
    exact ev_sub (L' := [(0, vR 27), (1, vI r2)]) ⟨rfl, rfl, trivial⟩ H
  · have H := H.2 c3
    exact ev_sub (L' := [(0, vR 27), (1, vI r2)]) ⟨rfl, rfl, trivial⟩ H
set_option maxRecDepth 20000 in
theorem sX7_loadStep_119 {h : Hp} {Q : Option AV → Hp → Prop} {x1 : Int32} (H : (vp_in x1 80 ∧ (((6 ≤ (h.1 43 (Int32.toNatClampNeg x1))) → Ev mX7_loadStep 189 [(0, vR 27), (1, vI x1)] [] h Q) ∧ ((¬ 6 ≤ (h.1 43 (Int32.toNatClampNeg x1))) → ((((h.1 27 28) ≤ (h.1 27 30)) → Ev mX7_loadStep 189 [(0, vR 27), (1, vI x1)] [] h Q) ∧ ((¬ (h.1 27 28) ≤ (h.1 27 30)) → (vp_in x1 80 ∧ (vp_in (h.1 27 30) 80 ∧ (vp_in ((9 * x1) + (h.1 43 (Int32.toNatClampNeg x1))) 720 ∧ (∀ h7 : Hp, h7 = sI h 46 (upd (h.1 46) (Int32.toNatClampNeg ((9 * x1) + (h.1 43 (Int32.toNatClampNeg x1)))) (h.1 38 (Int32.toNatClampNeg (h.1 27 30)))) → (vp_in x1 80 ∧ (vp_in x1 80 ∧ (∀ h10 : Hp, h10 = sI h7 43 (upd (h7.1 43) (Int32.toNatClampNeg x1) ((h7.1 43 (Int32.toNatClampNeg x1)) + 1)) → (∀ h11 : Hp, h11 = sI h10 27 (upd (h10.1 27) 30 ((h10.1 27 30) + 1)) → Ev mX7_loadStep 119 [(0, vR 27), (1, vI x1)] [] h11 Q)))))))))))))) : Ev mX7_loadStep 119 [(0, vR 27), (1, vI x1)] [] h Q := by
  refine ev_aload_n 0 dX7_loadStep_119 rfl (x := 27) rfl ?_
  refine ev_getR dX7_loadStep_120 flX7_66 rfl rfl ?_
  refine ev_iload_n 1 dX7_loadStep_123 rfl (x := x1) rfl ?_
  obtain ⟨b1, H⟩ := H
  refine ev_iald dX7_loadStep_124 rfl b1 ?_
  refine ev_bipush 6 dX7_loadStep_125 (by decide) ?_
  refine ev_icmp_ge 189 dX7_loadStep_127 (by decide) ⟨fun c2 => ?_, fun c2 => ?_⟩
  · have H := H.1 c2
    exact ev_sub (L' := [(0, vR 27), (1, vI x1)]) ⟨rfl, rfl, trivial⟩ H
  · have H := H.2 c2
    refine ev_aload_n 0 dX7_loadStep_130 rfl (x := 27) rfl ?_
    refine ev_getI dX7_loadStep_131 flX7_234 rfl rfl ?_
    refine ev_aload_n 0 dX7_loadStep_134 rfl (x := 27) rfl ?_
    refine ev_getI dX7_loadStep_135 flX7_231 rfl rfl ?_
    refine ev_icmp_ge 189 dX7_loadStep_138 (by decide) ⟨fun c3 => ?_, fun c3 => ?_⟩
    · have H := H.1 c3
      exact ev_sub (L' := [(0, vR 27), (1, vI x1)]) ⟨rfl, rfl, trivial⟩ H
    · have H := H.2 c3
      refine ev_aload_n 0 dX7_loadStep_141 rfl (x := 27) rfl ?_
      refine ev_getR dX7_loadStep_142 flX7_75 rfl rfl ?_
      refine ev_bipush 9 dX7_loadStep_145 (by decide) ?_
      refine ev_iload_n 1 dX7_loadStep_147 rfl (x := x1) rfl ?_
      refine ev_imul dX7_loadStep_148 ?_
      refine ev_aload_n 0 dX7_loadStep_149 rfl (x := 27) rfl ?_
      refine ev_getR dX7_loadStep_150 flX7_66 rfl rfl ?_
      refine ev_iload_n 1 dX7_loadStep_153 rfl (x := x1) rfl ?_
      obtain ⟨b4, H⟩ := H
      refine ev_iald dX7_loadStep_154 rfl b4 ?_
      refine ev_iadd dX7_loadStep_155 ?_
      refine ev_aload_n 0 dX7_loadStep_156 rfl (x := 27) rfl ?_
      refine ev_getR dX7_loadStep_157 flX7_51 rfl rfl ?_
      refine ev_aload_n 0 dX7_loadStep_160 rfl (x := 27) rfl ?_
      refine ev_getI dX7_loadStep_161 flX7_234 rfl rfl ?_
      obtain ⟨b5, H⟩ := H
      refine ev_iald dX7_loadStep_164 rfl b5 ?_
      obtain ⟨b6, H⟩ := H
      refine ev_iast dX7_loadStep_165 rfl b6  ?_
      obtain ⟨h7, eh7⟩ : ∃ z : Hp, z = sI h 46 (upd (h.1 46) (Int32.toNatClampNeg ((9 * x1) + (h.1 43 (Int32.toNatClampNeg x1)))) (h.1 38 (Int32.toNatClampNeg (h.1 27 30)))) := ⟨_, rfl⟩
      rw [← eh7]
      have H := H h7 eh7
      refine ev_aload_n 0 dX7_loadStep_166 rfl (x := 27) rfl ?_
      refine ev_getR dX7_loadStep_167 flX7_66 rfl rfl ?_
      refine ev_iload_n 1 dX7_loadStep_170 rfl (x := x1) rfl ?_
      refine ev_dup2 dX7_loadStep_171 rfl rfl ?_
      obtain ⟨b8, H⟩ := H
      refine ev_iald dX7_loadStep_172 rfl b8 ?_
      refine ev_iconst 1 dX7_loadStep_173 (by decide) ?_
      refine ev_iadd dX7_loadStep_174 ?_
      obtain ⟨b9, H⟩ := H
      refine ev_iast dX7_loadStep_175 rfl b9  ?_
      obtain ⟨h10, eh10⟩ : ∃ z : Hp, z = sI h7 43 (upd (h7.1 43) (Int32.toNatClampNeg x1) ((h7.1 43 (Int32.toNatClampNeg x1)) + 1)) := ⟨_, rfl⟩
      rw [← eh10]
      have H := H h10 eh10
      refine ev_aload_n 0 dX7_loadStep_176 rfl (x := 27) rfl ?_
      refine ev_dup dX7_loadStep_177 rfl ?_
      refine ev_getI dX7_loadStep_178 flX7_234 rfl rfl ?_
      refine ev_iconst 1 dX7_loadStep_181 (by decide) ?_
      refine ev_iadd dX7_loadStep_182 ?_
      refine ev_putI dX7_loadStep_183 fpX7_234 rfl rfl   ?_
      obtain ⟨h11, eh11⟩ : ∃ z : Hp, z = sI h10 27 (upd (h10.1 27) 30 ((h10.1 27 30) + 1)) := ⟨_, rfl⟩
      rw [← eh11]
      have H := H h11 eh11
      refine ev_goto 119 dX7_loadStep_186 (by decide) ?_
      exact ev_sub (L' := [(0, vR 27), (1, vI x1)]) ⟨rfl, rfl, trivial⟩ H
set_option maxRecDepth 20000 in
theorem sX7_loadStep_24 {h : Hp} {Q : Option AV → Hp → Prop} {x1 : Int32} (H : (vp_in x1 80 ∧ (((6 ≤ (h.1 43 (Int32.toNatClampNeg x1))) → Ev mX7_loadStep 189 [(0, vR 27), (1, vI x1)] [] h Q) ∧ ((¬ 6 ≤ (h.1 43 (Int32.toNatClampNeg x1))) → ((((h.1 27 17) ≤ (h.1 27 26)) → Ev mX7_loadStep 189 [(0, vR 27), (1, vI x1)] [] h Q) ∧ ((¬ (h.1 27 17) ≤ (h.1 27 26)) → (vp_in x1 80 ∧ (vp_in (h.1 27 26) 240 ∧ (vp_in ((9 * x1) + (h.1 43 (Int32.toNatClampNeg x1))) 720 ∧ (∀ h7 : Hp, h7 = sI h 44 (upd (h.1 44) (Int32.toNatClampNeg ((9 * x1) + (h.1 43 (Int32.toNatClampNeg x1)))) (h.1 32 (Int32.toNatClampNeg (h.1 27 26)))) → (vp_in x1 80 ∧ (vp_in (h7.1 27 26) 240 ∧ (vp_in ((9 * x1) + (h7.1 43 (Int32.toNatClampNeg x1))) 720 ∧ (∀ h11 : Hp, h11 = sI h7 45 (upd (h7.1 45) (Int32.toNatClampNeg ((9 * x1) + (h7.1 43 (Int32.toNatClampNeg x1)))) (h7.1 33 (Int32.toNatClampNeg (h7.1 27 26)))) → (vp_in x1 80 ∧ (vp_in x1 80 ∧ (∀ h14 : Hp, h14 = sI h11 43 (upd (h11.1 43) (Int32.toNatClampNeg x1) ((h11.1 43 (Int32.toNatClampNeg x1)) + 1)) → (∀ h15 : Hp, h15 = sI h14 27 (upd (h14.1 27) 26 ((h14.1 27 26) + 1)) → Ev mX7_loadStep 24 [(0, vR 27), (1, vI x1)] [] h15 Q)))))))))))))))))) : Ev mX7_loadStep 24 [(0, vR 27), (1, vI x1)] [] h Q := by
  refine ev_aload_n 0 dX7_loadStep_24 rfl (x := 27) rfl ?_
  refine ev_getR dX7_loadStep_25 flX7_66 rfl rfl ?_
  refine ev_iload_n 1 dX7_loadStep_28 rfl (x := x1) rfl ?_
  obtain ⟨b1, H⟩ := H
  refine ev_iald dX7_loadStep_29 rfl b1 ?_
  refine ev_bipush 6 dX7_loadStep_30 (by decide) ?_
  refine ev_icmp_ge 189 dX7_loadStep_32 (by decide) ⟨fun c2 => ?_, fun c2 => ?_⟩
  · have H := H.1 c2
    exact ev_sub (L' := [(0, vR 27), (1, vI x1)]) ⟨rfl, rfl, trivial⟩ H
  · have H := H.2 c2
    refine ev_aload_n 0 dX7_loadStep_35 rfl (x := 27) rfl ?_
    refine ev_getI dX7_loadStep_36 flX7_222 rfl rfl ?_
    refine ev_aload_n 0 dX7_loadStep_39 rfl (x := 27) rfl ?_
    refine ev_getI dX7_loadStep_40 flX7_142 rfl rfl ?_
    refine ev_icmp_ge 189 dX7_loadStep_43 (by decide) ⟨fun c3 => ?_, fun c3 => ?_⟩
    · have H := H.1 c3
      exact ev_sub (L' := [(0, vR 27), (1, vI x1)]) ⟨rfl, rfl, trivial⟩ H
    · have H := H.2 c3
      refine ev_aload_n 0 dX7_loadStep_46 rfl (x := 27) rfl ?_
      refine ev_getR dX7_loadStep_47 flX7_69 rfl rfl ?_
      refine ev_bipush 9 dX7_loadStep_50 (by decide) ?_
      refine ev_iload_n 1 dX7_loadStep_52 rfl (x := x1) rfl ?_
      refine ev_imul dX7_loadStep_53 ?_
      refine ev_aload_n 0 dX7_loadStep_54 rfl (x := 27) rfl ?_
      refine ev_getR dX7_loadStep_55 flX7_66 rfl rfl ?_
      refine ev_iload_n 1 dX7_loadStep_58 rfl (x := x1) rfl ?_
      obtain ⟨b4, H⟩ := H
      refine ev_iald dX7_loadStep_59 rfl b4 ?_
      refine ev_iadd dX7_loadStep_60 ?_
      refine ev_aload_n 0 dX7_loadStep_61 rfl (x := 27) rfl ?_
      refine ev_getR dX7_loadStep_62 flX7_33 rfl rfl ?_
      refine ev_aload_n 0 dX7_loadStep_65 rfl (x := 27) rfl ?_
      refine ev_getI dX7_loadStep_66 flX7_222 rfl rfl ?_
      obtain ⟨b5, H⟩ := H
      refine ev_iald dX7_loadStep_69 rfl b5 ?_
      obtain ⟨b6, H⟩ := H
      refine ev_iast dX7_loadStep_70 rfl b6  ?_
      obtain ⟨h7, eh7⟩ : ∃ z : Hp, z = sI h 44 (upd (h.1 44) (Int32.toNatClampNeg ((9 * x1) + (h.1 43 (Int32.toNatClampNeg x1)))) (h.1 32 (Int32.toNatClampNeg (h.1 27 26)))) := ⟨_, rfl⟩
      rw [← eh7]
      have H := H h7 eh7
      refine ev_aload_n 0 dX7_loadStep_71 rfl (x := 27) rfl ?_
      refine ev_getR dX7_loadStep_72 flX7_72 rfl rfl ?_
      refine ev_bipush 9 dX7_loadStep_75 (by decide) ?_
      refine ev_iload_n 1 dX7_loadStep_77 rfl (x := x1) rfl ?_
      refine ev_imul dX7_loadStep_78 ?_
      refine ev_aload_n 0 dX7_loadStep_79 rfl (x := 27) rfl ?_
      refine ev_getR dX7_loadStep_80 flX7_66 rfl rfl ?_
      refine ev_iload_n 1 dX7_loadStep_83 rfl (x := x1) rfl ?_
      obtain ⟨b8, H⟩ := H
      refine ev_iald dX7_loadStep_84 rfl b8 ?_
      refine ev_iadd dX7_loadStep_85 ?_
      refine ev_aload_n 0 dX7_loadStep_86 rfl (x := 27) rfl ?_
      refine ev_getR dX7_loadStep_87 flX7_36 rfl rfl ?_
      refine ev_aload_n 0 dX7_loadStep_90 rfl (x := 27) rfl ?_
      refine ev_getI dX7_loadStep_91 flX7_222 rfl rfl ?_
      obtain ⟨b9, H⟩ := H
      refine ev_iald dX7_loadStep_94 rfl b9 ?_
      obtain ⟨b10, H⟩ := H
      refine ev_iast dX7_loadStep_95 rfl b10  ?_
      obtain ⟨h11, eh11⟩ : ∃ z : Hp, z = sI h7 45 (upd (h7.1 45) (Int32.toNatClampNeg ((9 * x1) + (h7.1 43 (Int32.toNatClampNeg x1)))) (h7.1 33 (Int32.toNatClampNeg (h7.1 27 26)))) := ⟨_, rfl⟩
      rw [← eh11]
      have H := H h11 eh11
      refine ev_aload_n 0 dX7_loadStep_96 rfl (x := 27) rfl ?_
      refine ev_getR dX7_loadStep_97 flX7_66 rfl rfl ?_
      refine ev_iload_n 1 dX7_loadStep_100 rfl (x := x1) rfl ?_
      refine ev_dup2 dX7_loadStep_101 rfl rfl ?_
      obtain ⟨b12, H⟩ := H
      refine ev_iald dX7_loadStep_102 rfl b12 ?_
      refine ev_iconst 1 dX7_loadStep_103 (by decide) ?_
      refine ev_iadd dX7_loadStep_104 ?_
      obtain ⟨b13, H⟩ := H
      refine ev_iast dX7_loadStep_105 rfl b13  ?_
      obtain ⟨h14, eh14⟩ : ∃ z : Hp, z = sI h11 43 (upd (h11.1 43) (Int32.toNatClampNeg x1) ((h11.1 43 (Int32.toNatClampNeg x1)) + 1)) := ⟨_, rfl⟩
      rw [← eh14]
      have H := H h14 eh14
      refine ev_aload_n 0 dX7_loadStep_106 rfl (x := 27) rfl ?_
      refine ev_dup dX7_loadStep_107 rfl ?_
      refine ev_getI dX7_loadStep_108 flX7_222 rfl rfl ?_
      refine ev_iconst 1 dX7_loadStep_111 (by decide) ?_
      refine ev_iadd dX7_loadStep_112 ?_
      refine ev_putI dX7_loadStep_113 fpX7_222 rfl rfl   ?_
      obtain ⟨h15, eh15⟩ : ∃ z : Hp, z = sI h14 27 (upd (h14.1 27) 26 ((h14.1 27 26) + 1)) := ⟨_, rfl⟩
      rw [← eh15]
      have H := H h15 eh15
      refine ev_goto 24 dX7_loadStep_116 (by decide) ?_
      exact ev_sub (L' := [(0, vR 27), (1, vI x1)]) ⟨rfl, rfl, trivial⟩ H
set_option maxRecDepth 20000 in
theorem sX7_loadStep_189 {h : Hp} {Q : Option AV → Hp → Prop} {x1 : Int32} (H : ((((h.1 27 33) ≤ 64) → EvM mX7_block [vR 27] h (fun v h2 => ∃ r3 : Int32, v = some (vI r3) ∧ (((¬ r3 = 0) → (vp_in (h2.1 27 31) 80 ∧ (∀ h6 : Hp, h6 = sI h2 39 (upd (h2.1 39) (Int32.toNatClampNeg (h2.1 27 31)) x1) → (∀ h7 : Hp, h7 = sI h6 27 (upd (h6.1 27) 31 ((h6.1 27 31) + 1)) → ((((h7.1 27 27) = 0) → (((¬ (h7.1 27 26) = (h7.1 27 17)) → Ev mX7_loadStep 276 [(0, vR 27), (1, vI x1)] [vI 0] h7 Q) ∧ (((h7.1 27 26) = (h7.1 27 17)) → Ev mX7_loadStep 276 [(0, vR 27), (1, vI x1)] [vI 1] h7 Q))) ∧ ((¬ (h7.1 27 27) = 0) → (((¬ (h7.1 27 30) = (h7.1 27 28)) → Ev mX7_loadStep 276 [(0, vR 27), (1, vI x1)] [vI 0] h7 Q) ∧ (((h7.1 27 30) = (h7.1 27 28)) → Ev mX7_loadStep 276 [(0, vR 27), (1, vI x1)] [vI 1] h7 Q)))))))) ∧ ((r3 = 0) → Q (some (vI 0)) h2)))) ∧ ((¬ (h.1 27 33) ≤ 64) → EvM mX7_stop [vR 27, vI 2] h (fun v h11 => v = none ∧ Q (some (vI 1)) h11)))) : Ev mX7_loadStep 189 [(0, vR 27), (1, vI x1)] [] h Q := by
  refine ev_aload_n 0 dX7_loadStep_189 rfl (x := 27) rfl ?_
  refine ev_getI dX7_loadStep_190 flX7_151 rfl rfl ?_
  refine ev_bipush 64 dX7_loadStep_193 (by decide) ?_
  refine ev_icmp_le 205 dX7_loadStep_195 (by decide) ⟨fun c1 => ?_, fun c1 => ?_⟩
  · have H := H.1 c1
    refine ev_aload_n 0 dX7_loadStep_205 rfl (x := 27) rfl ?_
    refine ev_callV (As := []) (rest := []) dX7_loadStep_206 mlX7_112 rm_mX7_loadStep_mX7_block rfl rfl rfl rfl (Nat.le_of_ble_eq_true rfl) H (fun v h2 H => ?_)
    obtain ⟨r3, rfl, H⟩ := H
    show Ev mX7_loadStep 209 [(0, vR 27), (1, vI x1)] [vI r3] h2 Q
    refine ev_if_ne 214 dX7_loadStep_209 (by decide) ⟨fun c4 => ?_, fun c4 => ?_⟩
    · have H := H.1 c4
      refine ev_aload_n 0 dX7_loadStep_214 rfl (x := 27) rfl ?_
      refine ev_getR dX7_loadStep_215 flX7_54 rfl rfl ?_
      refine ev_aload_n 0 dX7_loadStep_218 rfl (x := 27) rfl ?_
      refine ev_getI dX7_loadStep_219 flX7_228 rfl rfl ?_
      refine ev_iload_n 1 dX7_loadStep_222 rfl (x := x1) rfl ?_
      obtain ⟨b5, H⟩ := H
      refine ev_iast dX7_loadStep_223 rfl b5  ?_
      obtain ⟨h6, eh6⟩ : ∃ z : Hp, z = sI h2 39 (upd (h2.1 39) (Int32.toNatClampNeg (h2.1 27 31)) x1) := ⟨_, rfl⟩
      rw [← eh6]
      have H := H h6 eh6
      refine ev_aload_n 0 dX7_loadStep_224 rfl (x := 27) rfl ?_
      refine ev_dup dX7_loadStep_225 rfl ?_
      refine ev_getI dX7_loadStep_226 flX7_228 rfl rfl ?_
      refine ev_iconst 1 dX7_loadStep_229 (by decide) ?_
      refine ev_iadd dX7_loadStep_230 ?_
      refine ev_putI dX7_loadStep_231 fpX7_228 rfl rfl   ?_
      obtain ⟨h7, eh7⟩ : ∃ z : Hp, z = sI h6 27 (upd (h6.1 27) 31 ((h6.1 27 31) + 1)) := ⟨_, rfl⟩
      rw [← eh7]
      have H := H h7 eh7
      refine ev_aload_n 0 dX7_loadStep_234 rfl (x := 27) rfl ?_
      refine ev_getI dX7_loadStep_235 flX7_225 rfl rfl ?_
      refine ev_if_eq 260 dX7_loadStep_238 (by decide) ⟨fun c8 => ?_, fun c8 => ?_⟩
      · have H := H.1 c8
        refine ev_aload_n 0 dX7_loadStep_260 rfl (x := 27) rfl ?_
        refine ev_getI dX7_loadStep_261 flX7_222 rfl rfl ?_
        refine ev_aload_n 0 dX7_loadStep_264 rfl (x := 27) rfl ?_
        refine ev_getI dX7_loadStep_265 flX7_142 rfl rfl ?_
        refine ev_icmp_ne 275 dX7_loadStep_268 (by decide) ⟨fun c9 => ?_, fun c9 => ?_⟩
        · have H := H.1 c9
          refine ev_iconst 0 dX7_loadStep_275 (by decide) ?_
          exact ev_sub (L' := [(0, vR 27), (1, vI x1)]) ⟨rfl, rfl, trivial⟩ H
        · have H := H.2 c9
          refine ev_iconst 1 dX7_loadStep_271 (by decide) ?_
          refine ev_goto 276 dX7_loadStep_272 (by decide) ?_
          exact ev_sub (L' := [(0, vR 27), (1, vI x1)]) ⟨rfl, rfl, trivial⟩ H
      · have H := H.2 c8
        refine ev_aload_n 0 dX7_loadStep_241 rfl (x := 27) rfl ?_
        refine ev_getI dX7_loadStep_242 flX7_234 rfl rfl ?_
        refine ev_aload_n 0 dX7_loadStep_245 rfl (x := 27) rfl ?_
        refine ev_getI dX7_loadStep_246 flX7_231 rfl rfl ?_
        refine ev_icmp_ne 256 dX7_loadStep_249 (by decide) ⟨fun c10 => ?_, fun c10 => ?_⟩
        · have H := H.1 c10
          refine ev_iconst 0 dX7_loadStep_256 (by decide) ?_
          refine ev_goto 276 dX7_loadStep_257 (by decide) ?_
          exact ev_sub (L' := [(0, vR 27), (1, vI x1)]) ⟨rfl, rfl, trivial⟩ H
        · have H := H.2 c10
          refine ev_iconst 1 dX7_loadStep_252 (by decide) ?_
          refine ev_goto 276 dX7_loadStep_253 (by decide) ?_
          exact ev_sub (L' := [(0, vR 27), (1, vI x1)]) ⟨rfl, rfl, trivial⟩ H
    · have H := H.2 c4
      refine ev_iconst 0 dX7_loadStep_212 (by decide) ?_
      exact ev_zret dX7_loadStep_213 rfl (by decide) H
  · have H := H.2 c1
    refine ev_aload_n 0 dX7_loadStep_198 rfl (x := 27) rfl ?_
    refine ev_iconst 2 dX7_loadStep_199 (by decide) ?_
    refine ev_callV (As := [vI 2]) (rest := []) dX7_loadStep_200 mlX7_198 rm_mX7_loadStep_mX7_stop rfl rfl rfl rfl (Nat.le_of_ble_eq_true rfl) H (fun v h11 H => ?_)
    obtain ⟨rfl, H⟩ := H
    show Ev mX7_loadStep 203 [(0, vR 27), (1, vI x1)] [] h11 Q
    refine ev_iconst 1 dX7_loadStep_203 (by decide) ?_
    exact ev_zret dX7_loadStep_204 rfl (by decide) H
set_option maxRecDepth 20000 in
theorem sX7_loadStep_276 {h : Hp} {Q : Option AV → Hp → Prop} {x1 : Int32} {s0 : Int32} (H : (((s0 = 0) → Q (some (vI 1)) h) ∧ ((¬ s0 = 0) → (((¬ (h.1 27 31) = 1) → Ev mX7_loadStep 299 [(0, vR 27)] [] h Q) ∧ (((h.1 27 31) = 1) → (∀ h3 : Hp, h3 = sI h 27 (upd (h.1 27) 34 x1) → (∀ h4 : Hp, h4 = sI h3 27 (upd (h3.1 27) 11 4) → Ev mX7_loadStep 299 [(0, vR 27)] [] h4 Q))))))) : Ev mX7_loadStep 276 [(0, vR 27), (1, vI x1)] [vI s0] h Q := by
  refine ev_istore_n 2 dX7_loadStep_276 rfl (by decide) ?_
  refine ev_L (L' := [(2, vI s0), (0, vR 27), (1, vI x1)]) rfl ?_
  refine ev_iload_n 2 dX7_loadStep_277 rfl (x := s0) rfl ?_
  refine ev_if_eq 350 dX7_loadStep_278 (by decide) ⟨fun c1 => ?_, fun c1 => ?_⟩
  · have H := H.1 c1
    refine ev_iconst 1 dX7_loadStep_350 (by decide) ?_
    exact ev_zret dX7_loadStep_351 rfl (by decide) H
  · have H := H.2 c1
    refine ev_aload_n 0 dX7_loadStep_281 rfl (x := 27) rfl ?_
    refine ev_getI dX7_loadStep_282 flX7_228 rfl rfl ?_
    refine ev_iconst 1 dX7_loadStep_285 (by decide) ?_
    refine ev_icmp_ne 299 dX7_loadStep_286 (by decide) ⟨fun c2 => ?_, fun c2 => ?_⟩
    · have H := H.1 c2
      exact ev_sub (L' := [(0, vR 27)]) ⟨rfl, trivial⟩ H
    · have H := H.2 c2
      refine ev_aload_n 0 dX7_loadStep_289 rfl (x := 27) rfl ?_
      refine ev_iload_n 1 dX7_loadStep_290 rfl (x := x1) rfl ?_
      refine ev_putI dX7_loadStep_291 fpX7_160 rfl rfl   ?_
      obtain ⟨h3, eh3⟩ : ∃ z : Hp, z = sI h 27 (upd (h.1 27) 34 x1) := ⟨_, rfl⟩
      rw [← eh3]
      have H := H h3 eh3
      refine ev_aload_n 0 dX7_loadStep_294 rfl (x := 27) rfl ?_
      refine ev_iconst 4 dX7_loadStep_295 (by decide) ?_
      refine ev_putI dX7_loadStep_296 fpX7_106 rfl rfl   ?_
      obtain ⟨h4, eh4⟩ : ∃ z : Hp, z = sI h3 27 (upd (h3.1 27) 11 4) := ⟨_, rfl⟩
      rw [← eh4]
      have H := H h4 eh4
      exact ev_sub (L' := [(0, vR 27)]) ⟨rfl, trivial⟩ H
set_option maxRecDepth 20000 in
theorem sX7_loadStep_299 {h : Hp} {Q : Option AV → Hp → Prop} (H : (∀ h1 : Hp, h1 = sI h 27 (upd (h.1 27) 27 1) → (∀ h2 : Hp, h2 = sI h1 27 (upd (h1.1 27) 28 (h1.1 27 31)) → Ev mX7_loadStep 314 [(0, vR 27), (3, vI 0)] [] h2 Q))) : Ev mX7_loadStep 299 [(0, vR 27)] [] h Q := by
  refine ev_aload_n 0 dX7_loadStep_299 rfl (x := 27) rfl ?_
  refine ev_iconst 1 dX7_loadStep_300 (by decide) ?_
  refine ev_putZ dX7_loadStep_301 fpX7_225 rfl rfl  (by decide) ?_
  obtain ⟨h1, eh1⟩ : ∃ z : Hp, z = sI h 27 (upd (h.1 27) 27 1) := ⟨_, rfl⟩
  rw [← eh1]
  have H := H h1 eh1
  refine ev_aload_n 0 dX7_loadStep_304 rfl (x := 27) rfl ?_
  refine ev_aload_n 0 dX7_loadStep_305 rfl (x := 27) rfl ?_
  refine ev_getI dX7_loadStep_306 flX7_228 rfl rfl ?_
  refine ev_putI dX7_loadStep_309 fpX7_231 rfl rfl   ?_
  obtain ⟨h2, eh2⟩ : ∃ z : Hp, z = sI h1 27 (upd (h1.1 27) 28 (h1.1 27 31)) := ⟨_, rfl⟩
  rw [← eh2]
  have H := H h2 eh2
  refine ev_iconst 0 dX7_loadStep_312 (by decide) ?_
  refine ev_istore_n 3 dX7_loadStep_313 rfl (by decide) ?_
  refine ev_L (L' := [(3, vI 0), (0, vR 27)]) rfl ?_
  exact ev_sub (L' := [(0, vR 27), (3, vI 0)]) ⟨rfl, rfl, trivial⟩ H
set_option maxRecDepth 20000 in
theorem sX7_loadStep_314 {h : Hp} {Q : Option AV → Hp → Prop} {x3 : Int32} (H : ((((h.1 27 31) ≤ x3) → (∀ h2 : Hp, h2 = sI h 27 (upd (h.1 27) 30 0) → (∀ h3 : Hp, h3 = sI h2 27 (upd (h2.1 27) 31 0) → Q (some (vI 1)) h3))) ∧ ((¬ (h.1 27 31) ≤ x3) → (vp_in x3 80 ∧ (vp_in x3 80 ∧ (∀ h6 : Hp, h6 = sI h 38 (upd (h.1 38) (Int32.toNatClampNeg x3) (h.1 39 (Int32.toNatClampNeg x3))) → Ev mX7_loadStep 314 [(0, vR 27), (3, vI (x3 + 1))] [] h6 Q)))))) : Ev mX7_loadStep 314 [(0, vR 27), (3, vI x3)] [] h Q := by
  refine ev_iload_n 3 dX7_loadStep_314 rfl (x := x3) rfl ?_
  refine ev_aload_n 0 dX7_loadStep_315 rfl (x := 27) rfl ?_
  refine ev_getI dX7_loadStep_316 flX7_228 rfl rfl ?_
  refine ev_icmp_ge 340 dX7_loadStep_319 (by decide) ⟨fun c1 => ?_, fun c1 => ?_⟩
  · have H := H.1 c1
    refine ev_aload_n 0 dX7_loadStep_340 rfl (x := 27) rfl ?_
    refine ev_iconst 0 dX7_loadStep_341 (by decide) ?_
    refine ev_putI dX7_loadStep_342 fpX7_234 rfl rfl   ?_
    obtain ⟨h2, eh2⟩ : ∃ z : Hp, z = sI h 27 (upd (h.1 27) 30 0) := ⟨_, rfl⟩
    rw [← eh2]
    have H := H h2 eh2
    refine ev_aload_n 0 dX7_loadStep_345 rfl (x := 27) rfl ?_
    refine ev_iconst 0 dX7_loadStep_346 (by decide) ?_
    refine ev_putI dX7_loadStep_347 fpX7_228 rfl rfl   ?_
    obtain ⟨h3, eh3⟩ : ∃ z : Hp, z = sI h2 27 (upd (h2.1 27) 31 0) := ⟨_, rfl⟩
    rw [← eh3]
    have H := H h3 eh3
    refine ev_iconst 1 dX7_loadStep_350 (by decide) ?_
    exact ev_zret dX7_loadStep_351 rfl (by decide) H
  · have H := H.2 c1
    refine ev_aload_n 0 dX7_loadStep_322 rfl (x := 27) rfl ?_
    refine ev_getR dX7_loadStep_323 flX7_51 rfl rfl ?_
    refine ev_iload_n 3 dX7_loadStep_326 rfl (x := x3) rfl ?_
    refine ev_aload_n 0 dX7_loadStep_327 rfl (x := 27) rfl ?_
    refine ev_getR dX7_loadStep_328 flX7_54 rfl rfl ?_
    refine ev_iload_n 3 dX7_loadStep_331 rfl (x := x3) rfl ?_
    obtain ⟨b4, H⟩ := H
    refine ev_iald dX7_loadStep_332 rfl b4 ?_
    obtain ⟨b5, H⟩ := H
    refine ev_iast dX7_loadStep_333 rfl b5  ?_
    obtain ⟨h6, eh6⟩ : ∃ z : Hp, z = sI h 38 (upd (h.1 38) (Int32.toNatClampNeg x3) (h.1 39 (Int32.toNatClampNeg x3))) := ⟨_, rfl⟩
    rw [← eh6]
    have H := H h6 eh6
    refine ev_iinc (x := x3) (v := 1) dX7_loadStep_334 rfl (by decide) (by decide) ?_
    refine ev_L (L' := [(3, vI (x3 + 1)), (0, vR 27)]) rfl ?_
    refine ev_goto 314 dX7_loadStep_337 (by decide) ?_
    exact ev_sub (L' := [(0, vR 27), (3, vI (x3 + 1))]) ⟨rfl, rfl, trivial⟩ H
set_option maxRecDepth 20000 in
theorem sX7_catchStep {h : Hp} {Q : Option AV → Hp → Prop} (H : ((((h.1 27 22) ≤ 0) → ((((h.1 27 12) = 0) → Ev mX7_catchStep 155 [(0, vR 27)] [] h Q) ∧ ((¬ (h.1 27 12) = 0) → EvM mX7_findClash [vR 27] h (fun v h3 => ∃ r4 : Int32, v = some (vI r4) ∧ (((r4 = 0) → Ev mX7_catchStep 155 [(0, vR 27)] [] h3 Q) ∧ ((¬ r4 = 0) → Q (some (vI 1)) h3)))))) ∧ ((¬ (h.1 27 22) ≤ 0) → (∀ h6 : Hp, h6 = sI h 27 (upd (h.1 27) 22 ((h.1 27 22) - 1)) → Ev mX7_catchStep 41 [(0, vR 27), (1, vI (h.1 35 (Int32.toNatClampNeg 0))), (2, vI (h.1 36 (Int32.toNatClampNeg 0))), (3, vI (h.1 37 (Int32.toNatClampNeg 0))), (4, vI 0)] [] h6 Q)))) : EvM mX7_catchStep [vR 27] h Q := by
  refine evM_of (by decide) rfl (Nat.le_of_ble_eq_true rfl) ?_
  show Ev mX7_catchStep 0 [(0, vR 27)] [] h Q
  refine ev_aload_n 0 dX7_catchStep_0 rfl (x := 27) rfl ?_
  refine ev_getI dX7_catchStep_1 flX7_148 rfl rfl ?_
  refine ev_if_le 139 dX7_catchStep_4 (by decide) ⟨fun c1 => ?_, fun c1 => ?_⟩
  · have H := H.1 c1
    refine ev_aload_n 0 dX7_catchStep_139 rfl (x := 27) rfl ?_
    refine ev_getI dX7_catchStep_140 flX7_154 rfl rfl ?_
    refine ev_if_eq 155 dX7_catchStep_143 (by decide) ⟨fun c2 => ?_, fun c2 => ?_⟩
    · have H := H.1 c2
      exact ev_sub (L' := [(0, vR 27)]) ⟨rfl, trivial⟩ H
    · have H := H.2 c2
      refine ev_aload_n 0 dX7_catchStep_146 rfl (x := 27) rfl ?_
      refine ev_callV (As := []) (rest := []) dX7_catchStep_147 mlX7_243 rm_mX7_catchStep_mX7_findClash rfl rfl rfl rfl (Nat.le_of_ble_eq_true rfl) H (fun v h3 H => ?_)
      obtain ⟨r4, rfl, H⟩ := H
      show Ev mX7_catchStep 150 [(0, vR 27)] [vI r4] h3 Q
      refine ev_if_eq 155 dX7_catchStep_150 (by decide) ⟨fun c5 => ?_, fun c5 => ?_⟩
      · have H := H.1 c5
        exact ev_sub (L' := [(0, vR 27)]) ⟨rfl, trivial⟩ H
      · have H := H.2 c5
        refine ev_iconst 1 dX7_catchStep_153 (by decide) ?_
        exact ev_zret dX7_catchStep_154 rfl (by decide) H
  · have H := H.2 c1
    refine ev_aload_n 0 dX7_catchStep_7 rfl (x := 27) rfl ?_
    refine ev_getR dX7_catchStep_8 flX7_42 rfl rfl ?_
    refine ev_iconst 0 dX7_catchStep_11 (by decide) ?_
    refine ev_zald dX7_catchStep_12 rfl (by unfold vp_in; decide) ?_
    refine ev_istore_n 1 dX7_catchStep_13 rfl (by decide) ?_
    refine ev_L (L' := [(1, vI (h.1 35 (Int32.toNatClampNeg 0))), (0, vR 27)]) rfl ?_
    refine ev_aload_n 0 dX7_catchStep_14 rfl (x := 27) rfl ?_
    refine ev_getR dX7_catchStep_15 flX7_45 rfl rfl ?_
    refine ev_iconst 0 dX7_catchStep_18 (by decide) ?_
    refine ev_iald dX7_catchStep_19 rfl (by unfold vp_in; decide) ?_
    refine ev_istore_n 2 dX7_catchStep_20 rfl (by decide) ?_
    refine ev_L (L' := [(2, vI (h.1 36 (Int32.toNatClampNeg 0))), (1, vI (h.1 35 (Int32.toNatClampNeg 0))), (0, vR 27)]) rfl ?_
    refine ev_aload_n 0 dX7_catchStep_21 rfl (x := 27) rfl ?_
    refine ev_getR dX7_catchStep_22 flX7_48 rfl rfl ?_
    refine ev_iconst 0 dX7_catchStep_25 (by decide) ?_
    refine ev_iald dX7_catchStep_26 rfl (by unfold vp_in; decide) ?_
    refine ev_istore_n 3 dX7_catchStep_27 rfl (by decide) ?_
    refine ev_L (L' := [(3, vI (h.1 37 (Int32.toNatClampNeg 0))), (2, vI (h.1 36 (Int32.toNatClampNeg 0))), (1, vI (h.1 35 (Int32.toNatClampNeg 0))), (0, vR 27)]) rfl ?_
    refine ev_aload_n 0 dX7_catchStep_28 rfl (x := 27) rfl ?_
    refine ev_dup dX7_catchStep_29 rfl ?_
    refine ev_getI dX7_catchStep_30 flX7_148 rfl rfl ?_
    refine ev_iconst 1 dX7_catchStep_33 (by decide) ?_
    refine ev_isub dX7_catchStep_34 ?_
    refine ev_putI dX7_catchStep_35 fpX7_148 rfl rfl   ?_
    obtain ⟨h6, eh6⟩ : ∃ z : Hp, z = sI h 27 (upd (h.1 27) 22 ((h.1 27 22) - 1)) := ⟨_, rfl⟩
    rw [← eh6]
    have H := H h6 eh6
    refine ev_iconst 0 dX7_catchStep_38 (by decide) ?_
    refine ev_istore dX7_catchStep_39 (by decide) ?_
    refine ev_L (L' := [(4, vI 0), (3, vI (h.1 37 (Int32.toNatClampNeg 0))), (2, vI (h.1 36 (Int32.toNatClampNeg 0))), (1, vI (h.1 35 (Int32.toNatClampNeg 0))), (0, vR 27)]) rfl ?_
    exact ev_sub (L' := [(0, vR 27), (1, vI (h.1 35 (Int32.toNatClampNeg 0))), (2, vI (h.1 36 (Int32.toNatClampNeg 0))), (3, vI (h.1 37 (Int32.toNatClampNeg 0))), (4, vI 0)]) ⟨rfl, rfl, rfl, rfl, rfl, trivial⟩ H
set_option maxRecDepth 20000 in
theorem sX7_catchStep_155 {h : Hp} {Q : Option AV → Hp → Prop} (H : EvM mX7_checkpoint [vR 27, vI (h.1 27 33)] h (fun v h1 => ∃ r2 : Int32, v = some (vI r2) ∧ (((¬ r2 = 0) → (∀ h4 : Hp, h4 = sI h1 27 (upd (h1.1 27) 11 5) → Q (some (vI 1)) h4)) ∧ ((r2 = 0) → Q (some (vI 0)) h1)))) : Ev mX7_catchStep 155 [(0, vR 27)] [] h Q := by
  refine ev_aload_n 0 dX7_catchStep_155 rfl (x := 27) rfl ?_
  refine ev_aload_n 0 dX7_catchStep_156 rfl (x := 27) rfl ?_
  refine ev_getI dX7_catchStep_157 flX7_151 rfl rfl ?_
  refine ev_callV (As := [vI (h.1 27 33)]) (rest := []) dX7_catchStep_160 mlX7_133 rm_mX7_catchStep_mX7_checkpoint rfl rfl rfl rfl (Nat.le_of_ble_eq_true rfl) H (fun v h1 H => ?_)
  obtain ⟨r2, rfl, H⟩ := H
  show Ev mX7_catchStep 163 [(0, vR 27)] [vI r2] h1 Q
  refine ev_if_ne 168 dX7_catchStep_163 (by decide) ⟨fun c3 => ?_, fun c3 => ?_⟩
  · have H := H.1 c3
    refine ev_aload_n 0 dX7_catchStep_168 rfl (x := 27) rfl ?_
    refine ev_iconst 5 dX7_catchStep_169 (by decide) ?_
    refine ev_putI dX7_catchStep_170 fpX7_106 rfl rfl   ?_
    obtain ⟨h4, eh4⟩ : ∃ z : Hp, z = sI h1 27 (upd (h1.1 27) 11 5) := ⟨_, rfl⟩
    rw [← eh4]
    have H := H h4 eh4
    refine ev_iconst 1 dX7_catchStep_173 (by decide) ?_
    exact ev_zret dX7_catchStep_174 rfl (by decide) H
  · have H := H.2 c3
    refine ev_iconst 0 dX7_catchStep_166 (by decide) ?_
    exact ev_zret dX7_catchStep_167 rfl (by decide) H
set_option maxRecDepth 20000 in
theorem sX7_catchStep_41 {h : Hp} {Q : Option AV → Hp → Prop} {x1 : Int32} {x2 : Int32} {x3 : Int32} {x4 : Int32} (H : ((((h.1 27 22) ≤ x4) → (((x1 = 0) → EvM mX7_goes [vR 27, vI x2, vI x3] h (fun v h3 => v = none ∧ Ev mX7_catchStep 123 [(0, vR 27)] [] h3 Q)) ∧ ((¬ x1 = 0) → EvM mX7_comes [vR 27, vI x2, vI x3] h (fun v h4 => v = none ∧ Ev mX7_catchStep 123 [(0, vR 27)] [] h4 Q)))) ∧ ((¬ (h.1 27 22) ≤ x4) → (vp_in (x4 + 1) 40 ∧ (vp_in x4 40 ∧ (((h.1 35 (Int32.toNatClampNeg (x4 + 1))) = 0 ∨ (h.1 35 (Int32.toNatClampNeg (x4 + 1))) = 1) ∧ (∀ h8 : Hp, h8 = sI h 35 (upd (h.1 35) (Int32.toNatClampNeg x4) (h.1 35 (Int32.toNatClampNeg (x4 + 1)))) → (vp_in (x4 + 1) 40 ∧ (vp_in x4 40 ∧ (∀ h11 : Hp, h11 = sI h8 36 (upd (h8.1 36) (Int32.toNatClampNeg x4) (h8.1 36 (Int32.toNatClampNeg (x4 + 1)))) → (vp_in (x4 + 1) 40 ∧ (vp_in x4 40 ∧ (∀ h14 : Hp, h14 = sI h11 37 (upd (h11.1 37) (Int32.toNatClampNeg x4) (h11.1 37 (Int32.toNatClampNeg (x4 + 1)))) → Ev mX7_catchStep 41 [(0, vR 27), (1, vI x1), (2, vI x2), (3, vI x3), (4, vI (x4 + 1))] [] h14 Q))))))))))))) : Ev mX7_catchStep 41 [(0, vR 27), (1, vI x1), (2, vI x2), (3, vI x3), (4, vI x4)] [] h Q := by
  refine ev_iload dX7_catchStep_41 (x := x4) rfl ?_
  refine ev_aload_n 0 dX7_catchStep_43 rfl (x := 27) rfl ?_
  refine ev_getI dX7_catchStep_44 flX7_148 rfl rfl ?_
  refine ev_icmp_ge 104 dX7_catchStep_47 (by decide) ⟨fun c1 => ?_, fun c1 => ?_⟩
  · have H := H.1 c1
    refine ev_iload_n 1 dX7_catchStep_104 rfl (x := x1) rfl ?_
    refine ev_if_eq 117 dX7_catchStep_105 (by decide) ⟨fun c2 => ?_, fun c2 => ?_⟩
    · have H := H.1 c2
      refine ev_aload_n 0 dX7_catchStep_117 rfl (x := 27) rfl ?_
      refine ev_iload_n 2 dX7_catchStep_118 rfl (x := x2) rfl ?_
      refine ev_iload_n 3 dX7_catchStep_119 rfl (x := x3) rfl ?_
      refine ev_callV (As := [vI x2, vI x3]) (rest := []) dX7_catchStep_120 mlX7_195 rm_mX7_catchStep_mX7_goes rfl rfl rfl rfl (Nat.le_of_ble_eq_true rfl) H (fun v h3 H => ?_)
      obtain ⟨rfl, H⟩ := H
      show Ev mX7_catchStep 123 [(0, vR 27), (1, vI x1), (2, vI x2), (3, vI x3), (4, vI x4)] [] h3 Q
      exact ev_sub (L' := [(0, vR 27)]) ⟨rfl, trivial⟩ H
    · have H := H.2 c2
      refine ev_aload_n 0 dX7_catchStep_108 rfl (x := 27) rfl ?_
      refine ev_iload_n 2 dX7_catchStep_109 rfl (x := x2) rfl ?_
      refine ev_iload_n 3 dX7_catchStep_110 rfl (x := x3) rfl ?_
      refine ev_callV (As := [vI x2, vI x3]) (rest := []) dX7_catchStep_111 mlX7_192 rm_mX7_catchStep_mX7_comes rfl rfl rfl rfl (Nat.le_of_ble_eq_true rfl) H (fun v h4 H => ?_)
      obtain ⟨rfl, H⟩ := H
      show Ev mX7_catchStep 114 [(0, vR 27), (1, vI x1), (2, vI x2), (3, vI x3), (4, vI x4)] [] h4 Q
      refine ev_goto 123 dX7_catchStep_114 (by decide) ?_
      exact ev_sub (L' := [(0, vR 27)]) ⟨rfl, trivial⟩ H
  · have H := H.2 c1
    refine ev_aload_n 0 dX7_catchStep_50 rfl (x := 27) rfl ?_
    refine ev_getR dX7_catchStep_51 flX7_42 rfl rfl ?_
    refine ev_iload dX7_catchStep_54 (x := x4) rfl ?_
    refine ev_aload_n 0 dX7_catchStep_56 rfl (x := 27) rfl ?_
    refine ev_getR dX7_catchStep_57 flX7_42 rfl rfl ?_
    refine ev_iload dX7_catchStep_60 (x := x4) rfl ?_
    refine ev_iconst 1 dX7_catchStep_62 (by decide) ?_
    refine ev_iadd dX7_catchStep_63 ?_
    obtain ⟨b5, H⟩ := H
    refine ev_zald dX7_catchStep_64 rfl b5 ?_
    obtain ⟨b6, H⟩ := H
    obtain ⟨z7, H⟩ := H
    refine ev_zast dX7_catchStep_65 rfl b6 z7 ?_
    obtain ⟨h8, eh8⟩ : ∃ z : Hp, z = sI h 35 (upd (h.1 35) (Int32.toNatClampNeg x4) (h.1 35 (Int32.toNatClampNeg (x4 + 1)))) := ⟨_, rfl⟩
    rw [← eh8]
    have H := H h8 eh8
    refine ev_aload_n 0 dX7_catchStep_66 rfl (x := 27) rfl ?_
    refine ev_getR dX7_catchStep_67 flX7_45 rfl rfl ?_
    refine ev_iload dX7_catchStep_70 (x := x4) rfl ?_
    refine ev_aload_n 0 dX7_catchStep_72 rfl (x := 27) rfl ?_
    refine ev_getR dX7_catchStep_73 flX7_45 rfl rfl ?_
    refine ev_iload dX7_catchStep_76 (x := x4) rfl ?_
    refine ev_iconst 1 dX7_catchStep_78 (by decide) ?_
    refine ev_iadd dX7_catchStep_79 ?_
    obtain ⟨b9, H⟩ := H
    refine ev_iald dX7_catchStep_80 rfl b9 ?_
    obtain ⟨b10, H⟩ := H
    refine ev_iast dX7_catchStep_81 rfl b10  ?_
    obtain ⟨h11, eh11⟩ : ∃ z : Hp, z = sI h8 36 (upd (h8.1 36) (Int32.toNatClampNeg x4) (h8.1 36 (Int32.toNatClampNeg (x4 + 1)))) := ⟨_, rfl⟩
    rw [← eh11]
    have H := H h11 eh11
    refine ev_aload_n 0 dX7_catchStep_82 rfl (x := 27) rfl ?_
    refine ev_getR dX7_catchStep_83 flX7_48 rfl rfl ?_
    refine ev_iload dX7_catchStep_86 (x := x4) rfl ?_
    refine ev_aload_n 0 dX7_catchStep_88 rfl (x := 27) rfl ?_
    refine ev_getR dX7_catchStep_89 flX7_48 rfl rfl ?_
    refine ev_iload dX7_catchStep_92 (x := x4) rfl ?_
    refine ev_iconst 1 dX7_catchStep_94 (by decide) ?_
    refine ev_iadd dX7_catchStep_95 ?_
    obtain ⟨b12, H⟩ := H
    refine ev_iald dX7_catchStep_96 rfl b12 ?_
    obtain ⟨b13, H⟩ := H
    refine ev_iast dX7_catchStep_97 rfl b13  ?_
    obtain ⟨h14, eh14⟩ : ∃ z : Hp, z = sI h11 37 (upd (h11.1 37) (Int32.toNatClampNeg x4) (h11.1 37 (Int32.toNatClampNeg (x4 + 1)))) := ⟨_, rfl⟩
    rw [← eh14]
    have H := H h14 eh14
    refine ev_iinc (x := x4) (v := 1) dX7_catchStep_98 rfl (by decide) (by decide) ?_
    refine ev_L (L' := [(4, vI (x4 + 1)), (0, vR 27), (1, vI x1), (2, vI x2), (3, vI x3)]) rfl ?_
    refine ev_goto 41 dX7_catchStep_101 (by decide) ?_
    exact ev_sub (L' := [(0, vR 27), (1, vI x1), (2, vI x2), (3, vI x3), (4, vI (x4 + 1))]) ⟨rfl, rfl, rfl, rfl, rfl, trivial⟩ H
set_option maxRecDepth 20000 in
theorem sX7_catchStep_123 {h : Hp} {Q : Option AV → Hp → Prop} (H : ((((h.1 27 33) ≤ 64) → Q (some (vI 1)) h) ∧ ((¬ (h.1 27 33) ≤ 64) → EvM mX7_stop [vR 27, vI 2] h (fun v h2 => v = none ∧ Q (some (vI 1)) h2)))) : Ev mX7_catchStep 123 [(0, vR 27)] [] h Q := by
  refine ev_aload_n 0 dX7_catchStep_123 rfl (x := 27) rfl ?_
  refine ev_getI dX7_catchStep_124 flX7_151 rfl rfl ?_
  refine ev_bipush 64 dX7_catchStep_127 (by decide) ?_
  refine ev_icmp_le 137 dX7_catchStep_129 (by decide) ⟨fun c1 => ?_, fun c1 => ?_⟩
  · have H := H.1 c1
    refine ev_iconst 1 dX7_catchStep_137 (by decide) ?_
    exact ev_zret dX7_catchStep_138 rfl (by decide) H
  · have H := H.2 c1
    refine ev_aload_n 0 dX7_catchStep_132 rfl (x := 27) rfl ?_
    refine ev_iconst 2 dX7_catchStep_133 (by decide) ?_
    refine ev_callV (As := [vI 2]) (rest := []) dX7_catchStep_134 mlX7_198 rm_mX7_catchStep_mX7_stop rfl rfl rfl rfl (Nat.le_of_ble_eq_true rfl) H (fun v h2 H => ?_)
    obtain ⟨rfl, H⟩ := H
    show Ev mX7_catchStep 137 [(0, vR 27)] [] h2 Q
    refine ev_iconst 1 dX7_catchStep_137 (by decide) ?_
    exact ev_zret dX7_catchStep_138 rfl (by decide) H
set_option maxRecDepth 20000 in
theorem sX7_findClash {h : Hp} {Q : Option AV → Hp → Prop} (H : Ev mX7_findClash 6 [(0, vR 27), (1, vI (-1)), (2, vI (-1)), (3, vI 0)] [] h Q) : EvM mX7_findClash [vR 27] h Q := by
  refine evM_of (by decide) rfl (Nat.le_of_ble_eq_true rfl) ?_
  show Ev mX7_findClash 0 [(0, vR 27)] [] h Q
  refine ev_iconst (-1) dX7_findClash_0 (by decide) ?_
  refine ev_istore_n 1 dX7_findClash_1 rfl (by decide) ?_
  refine ev_L (L' := [(1, vI (-1)), (0, vR 27)]) rfl ?_
  refine ev_iconst (-1) dX7_findClash_2 (by decide) ?_
  refine ev_istore_n 2 dX7_findClash_3 rfl (by decide) ?_
  refine ev_L (L' := [(2, vI (-1)), (1, vI (-1)), (0, vR 27)]) rfl ?_
  refine ev_iconst 0 dX7_findClash_4 (by decide) ?_
  refine ev_istore_n 3 dX7_findClash_5 rfl (by decide) ?_
  refine ev_L (L' := [(3, vI 0), (2, vI (-1)), (1, vI (-1)), (0, vR 27)]) rfl ?_
  exact ev_sub (L' := [(0, vR 27), (1, vI (-1)), (2, vI (-1)), (3, vI 0)]) ⟨rfl, rfl, rfl, rfl, trivial⟩ H
set_option maxRecDepth 20000 in
theorem sX7_findClash_6 {h : Hp} {Q : Option AV → Hp → Prop} {x1 : Int32} {x2 : Int32} {x3 : Int32} (H : (((240 ≤ x3) → (((¬ x1 = (-1)) → EvM mX7_stop [vR 27, vI 3] h (fun v h3 => v = none ∧ (∀ h4 : Hp, h4 = sI h3 27 (upd (h3.1 27) 14 x1) → (∀ h5 : Hp, h5 = sI h4 27 (upd (h4.1 27) 15 x2) → Q (some (vI 1)) h5)))) ∧ ((x1 = (-1)) → Q (some (vI 0)) h))) ∧ ((¬ 240 ≤ x3) → Ev mX7_findClash 18 [(0, vR 27), (1, vI x1), (2, vI x2), (3, vI x3), (4, vI (x3 + 1))] [] h Q))) : Ev mX7_findClash 6 [(0, vR 27), (1, vI x1), (2, vI x2), (3, vI x3)] [] h Q := by
  refine ev_iload_n 3 dX7_findClash_6 rfl (x := x3) rfl ?_
  refine ev_sipush 240 dX7_findClash_7 (by decide) ?_
  refine ev_icmp_ge 98 dX7_findClash_10 (by decide) ⟨fun c1 => ?_, fun c1 => ?_⟩
  · have H := H.1 c1
    refine ev_iload_n 1 dX7_findClash_98 rfl (x := x1) rfl ?_
    refine ev_iconst (-1) dX7_findClash_99 (by decide) ?_
    refine ev_icmp_ne 105 dX7_findClash_100 (by decide) ⟨fun c2 => ?_, fun c2 => ?_⟩
    · have H := H.1 c2
      refine ev_aload_n 0 dX7_findClash_105 rfl (x := 27) rfl ?_
      refine ev_iconst 3 dX7_findClash_106 (by decide) ?_
      refine ev_callV (As := [vI 3]) (rest := []) dX7_findClash_107 mlX7_198 rm_mX7_findClash_mX7_stop rfl rfl rfl rfl (Nat.le_of_ble_eq_true rfl) H (fun v h3 H => ?_)
      obtain ⟨rfl, H⟩ := H
      show Ev mX7_findClash 110 [(0, vR 27), (1, vI x1), (2, vI x2), (3, vI x3)] [] h3 Q
      refine ev_aload_n 0 dX7_findClash_110 rfl (x := 27) rfl ?_
      refine ev_iload_n 1 dX7_findClash_111 rfl (x := x1) rfl ?_
      refine ev_putI dX7_findClash_112 fpX7_27 rfl rfl   ?_
      obtain ⟨h4, eh4⟩ : ∃ z : Hp, z = sI h3 27 (upd (h3.1 27) 14 x1) := ⟨_, rfl⟩
      rw [← eh4]
      have H := H h4 eh4
      refine ev_aload_n 0 dX7_findClash_115 rfl (x := 27) rfl ?_
      refine ev_iload_n 2 dX7_findClash_116 rfl (x := x2) rfl ?_
      refine ev_putI dX7_findClash_117 fpX7_30 rfl rfl   ?_
      obtain ⟨h5, eh5⟩ : ∃ z : Hp, z = sI h4 27 (upd (h4.1 27) 15 x2) := ⟨_, rfl⟩
      rw [← eh5]
      have H := H h5 eh5
      refine ev_iconst 1 dX7_findClash_120 (by decide) ?_
      exact ev_zret dX7_findClash_121 rfl (by decide) H
    · have H := H.2 c2
      refine ev_iconst 0 dX7_findClash_103 (by decide) ?_
      exact ev_zret dX7_findClash_104 rfl (by decide) H
  · have H := H.2 c1
    refine ev_iload_n 3 dX7_findClash_13 rfl (x := x3) rfl ?_
    refine ev_iconst 1 dX7_findClash_14 (by decide) ?_
    refine ev_iadd dX7_findClash_15 ?_
    refine ev_istore dX7_findClash_16 (by decide) ?_
    refine ev_L (L' := [(4, vI (x3 + 1)), (0, vR 27), (1, vI x1), (2, vI x2), (3, vI x3)]) rfl ?_
    exact ev_sub (L' := [(0, vR 27), (1, vI x1), (2, vI x2), (3, vI x3), (4, vI (x3 + 1))]) ⟨rfl, rfl, rfl, rfl, rfl, trivial⟩ H
set_option maxRecDepth 20000 in
theorem sX7_findClash_18 {h : Hp} {Q : Option AV → Hp → Prop} {x1 : Int32} {x2 : Int32} {x3 : Int32} {x4 : Int32} (H : (((240 ≤ x4) → Ev mX7_findClash 6 [(0, vR 27), (1, vI x1), (2, vI x2), (3, vI (x3 + 1))] [] h Q) ∧ ((¬ 240 ≤ x4) → (vp_in x3 240 ∧ ((((h.1 28 (Int32.toNatClampNeg x3)) = 0) → Ev mX7_findClash 6 [(0, vR 27), (1, vI x1), (2, vI x2), (3, vI (x3 + 1))] [] h Q) ∧ ((¬ (h.1 28 (Int32.toNatClampNeg x3)) = 0) → (vp_in x4 240 ∧ ((((h.1 28 (Int32.toNatClampNeg x4)) = 0) → Ev mX7_findClash 18 [(0, vR 27), (1, vI x1), (2, vI x2), (3, vI x3), (4, vI (x4 + 1))] [] h Q) ∧ ((¬ (h.1 28 (Int32.toNatClampNeg x4)) = 0) → (vp_in x3 240 ∧ (vp_in x4 240 ∧ (((¬ (h.1 29 (Int32.toNatClampNeg x3)) = (h.1 29 (Int32.toNatClampNeg x4))) → Ev mX7_findClash 18 [(0, vR 27), (1, vI x1), (2, vI x2), (3, vI x3), (4, vI (x4 + 1))] [] h Q) ∧ (((h.1 29 (Int32.toNatClampNeg x3)) = (h.1 29 (Int32.toNatClampNeg x4))) → (((x1 = (-1)) → Ev mX7_findClash 81 [(0, vR 27), (3, vI x3), (4, vI x4)] [] h Q) ∧ ((¬ x1 = (-1)) → (vp_in x3 240 ∧ (vp_in x1 240 ∧ ((((h.1 29 (Int32.toNatClampNeg x1)) ≤ (h.1 29 (Int32.toNatClampNeg x3))) → Ev mX7_findClash 18 [(0, vR 27), (1, vI x1), (2, vI x2), (3, vI x3), (4, vI (x4 + 1))] [] h Q) ∧ ((¬ (h.1 29 (Int32.toNatClampNeg x1)) ≤ (h.1 29 (Int32.toNatClampNeg x3))) → Ev mX7_findClash 81 [(0, vR 27), (3, vI x3), (4, vI x4)] [] h Q))))))))))))))))))) : Ev mX7_findClash 18 [(0, vR 27), (1, vI x1), (2, vI x2), (3, vI x3), (4, vI x4)] [] h Q := by
  refine ev_iload dX7_findClash_18 (x := x4) rfl ?_
  refine ev_sipush 240 dX7_findClash_20 (by decide) ?_
  refine ev_icmp_ge 92 dX7_findClash_23 (by decide) ⟨fun c1 => ?_, fun c1 => ?_⟩
  · have H := H.1 c1
    refine ev_iinc (x := x3) (v := 1) dX7_findClash_92 rfl (by decide) (by decide) ?_
    refine ev_L (L' := [(3, vI (x3 + 1)), (0, vR 27), (1, vI x1), (2, vI x2), (4, vI x4)]) rfl ?_
    refine ev_goto 6 dX7_findClash_95 (by decide) ?_
    exact ev_sub (L' := [(0, vR 27), (1, vI x1), (2, vI x2), (3, vI (x3 + 1))]) ⟨rfl, rfl, rfl, rfl, trivial⟩ H
  · have H := H.2 c1
    refine ev_aload_n 0 dX7_findClash_26 rfl (x := 27) rfl ?_
    refine ev_getR dX7_findClash_27 flX7_7 rfl rfl ?_
    refine ev_iload_n 3 dX7_findClash_30 rfl (x := x3) rfl ?_
    obtain ⟨b2, H⟩ := H
    refine ev_zald dX7_findClash_31 rfl b2 ?_
    refine ev_if_eq 92 dX7_findClash_32 (by decide) ⟨fun c3 => ?_, fun c3 => ?_⟩
    · have H := H.1 c3
      refine ev_iinc (x := x3) (v := 1) dX7_findClash_92 rfl (by decide) (by decide) ?_
      refine ev_L (L' := [(3, vI (x3 + 1)), (0, vR 27), (1, vI x1), (2, vI x2), (4, vI x4)]) rfl ?_
      refine ev_goto 6 dX7_findClash_95 (by decide) ?_
      exact ev_sub (L' := [(0, vR 27), (1, vI x1), (2, vI x2), (3, vI (x3 + 1))]) ⟨rfl, rfl, rfl, rfl, trivial⟩ H
    · have H := H.2 c3
      refine ev_aload_n 0 dX7_findClash_35 rfl (x := 27) rfl ?_
      refine ev_getR dX7_findClash_36 flX7_7 rfl rfl ?_
      refine ev_iload dX7_findClash_39 (x := x4) rfl ?_
      obtain ⟨b4, H⟩ := H
      refine ev_zald dX7_findClash_41 rfl b4 ?_
      refine ev_if_eq 86 dX7_findClash_42 (by decide) ⟨fun c5 => ?_, fun c5 => ?_⟩
      · have H := H.1 c5
        refine ev_iinc (x := x4) (v := 1) dX7_findClash_86 rfl (by decide) (by decide) ?_
        refine ev_L (L' := [(4, vI (x4 + 1)), (0, vR 27), (1, vI x1), (2, vI x2), (3, vI x3)]) rfl ?_
        refine ev_goto 18 dX7_findClash_89 (by decide) ?_
        exact ev_sub (L' := [(0, vR 27), (1, vI x1), (2, vI x2), (3, vI x3), (4, vI (x4 + 1))]) ⟨rfl, rfl, rfl, rfl, rfl, trivial⟩ H
      · have H := H.2 c5
        refine ev_aload_n 0 dX7_findClash_45 rfl (x := 27) rfl ?_
        refine ev_getR dX7_findClash_46 flX7_13 rfl rfl ?_
        refine ev_iload_n 3 dX7_findClash_49 rfl (x := x3) rfl ?_
        obtain ⟨b6, H⟩ := H
        refine ev_iald dX7_findClash_50 rfl b6 ?_
        refine ev_aload_n 0 dX7_findClash_51 rfl (x := 27) rfl ?_
        refine ev_getR dX7_findClash_52 flX7_13 rfl rfl ?_
        refine ev_iload dX7_findClash_55 (x := x4) rfl ?_
        obtain ⟨b7, H⟩ := H
        refine ev_iald dX7_findClash_57 rfl b7 ?_
        refine ev_icmp_ne 86 dX7_findClash_58 (by decide) ⟨fun c8 => ?_, fun c8 => ?_⟩
        · have H := H.1 c8
          refine ev_iinc (x := x4) (v := 1) dX7_findClash_86 rfl (by decide) (by decide) ?_
          refine ev_L (L' := [(4, vI (x4 + 1)), (0, vR 27), (1, vI x1), (2, vI x2), (3, vI x3)]) rfl ?_
          refine ev_goto 18 dX7_findClash_89 (by decide) ?_
          exact ev_sub (L' := [(0, vR 27), (1, vI x1), (2, vI x2), (3, vI x3), (4, vI (x4 + 1))]) ⟨rfl, rfl, rfl, rfl, rfl, trivial⟩ H
        · have H := H.2 c8
          refine ev_iload_n 1 dX7_findClash_61 rfl (x := x1) rfl ?_
          refine ev_iconst (-1) dX7_findClash_62 (by decide) ?_
          refine ev_icmp_eq 81 dX7_findClash_63 (by decide) ⟨fun c9 => ?_, fun c9 => ?_⟩
          · have H := H.1 c9
            exact ev_sub (L' := [(0, vR 27), (3, vI x3), (4, vI x4)]) ⟨rfl, rfl, rfl, trivial⟩ H
          · have H := H.2 c9
            refine ev_aload_n 0 dX7_findClash_66 rfl (x := 27) rfl ?_
            refine ev_getR dX7_findClash_67 flX7_13 rfl rfl ?_
            refine ev_iload_n 3 dX7_findClash_70 rfl (x := x3) rfl ?_
            obtain ⟨b10, H⟩ := H
            refine ev_iald dX7_findClash_71 rfl b10 ?_
            refine ev_aload_n 0 dX7_findClash_72 rfl (x := 27) rfl ?_
            refine ev_getR dX7_findClash_73 flX7_13 rfl rfl ?_
            refine ev_iload_n 1 dX7_findClash_76 rfl (x := x1) rfl ?_
            obtain ⟨b11, H⟩ := H
            refine ev_iald dX7_findClash_77 rfl b11 ?_
            refine ev_icmp_ge 86 dX7_findClash_78 (by decide) ⟨fun c12 => ?_, fun c12 => ?_⟩
            · have H := H.1 c12
              refine ev_iinc (x := x4) (v := 1) dX7_findClash_86 rfl (by decide) (by decide) ?_
              refine ev_L (L' := [(4, vI (x4 + 1)), (0, vR 27), (1, vI x1), (2, vI x2), (3, vI x3)]) rfl ?_
              refine ev_goto 18 dX7_findClash_89 (by decide) ?_
              exact ev_sub (L' := [(0, vR 27), (1, vI x1), (2, vI x2), (3, vI x3), (4, vI (x4 + 1))]) ⟨rfl, rfl, rfl, rfl, rfl, trivial⟩ H
            · have H := H.2 c12
              exact ev_sub (L' := [(0, vR 27), (3, vI x3), (4, vI x4)]) ⟨rfl, rfl, rfl, trivial⟩ H
set_option maxRecDepth 20000 in
theorem sX7_findClash_81 {h : Hp} {Q : Option AV → Hp → Prop} {x3 : Int32} {x4 : Int32} (H : Ev mX7_findClash 18 [(0, vR 27), (1, vI x3), (2, vI x4), (3, vI x3), (4, vI (x4 + 1))] [] h Q) : Ev mX7_findClash 81 [(0, vR 27), (3, vI x3), (4, vI x4)] [] h Q := by
  refine ev_iload_n 3 dX7_findClash_81 rfl (x := x3) rfl ?_
  refine ev_istore_n 1 dX7_findClash_82 rfl (by decide) ?_
  refine ev_L (L' := [(1, vI x3), (0, vR 27), (3, vI x3), (4, vI x4)]) rfl ?_
  refine ev_iload dX7_findClash_83 (x := x4) rfl ?_
  refine ev_istore_n 2 dX7_findClash_85 rfl (by decide) ?_
  refine ev_L (L' := [(2, vI x4), (1, vI x3), (0, vR 27), (3, vI x3), (4, vI x4)]) rfl ?_
  refine ev_iinc (x := x4) (v := 1) dX7_findClash_86 rfl (by decide) (by decide) ?_
  refine ev_L (L' := [(4, vI (x4 + 1)), (2, vI x4), (1, vI x3), (0, vR 27), (3, vI x3)]) rfl ?_
  refine ev_goto 18 dX7_findClash_89 (by decide) ?_
  exact ev_sub (L' := [(0, vR 27), (1, vI x3), (2, vI x4), (3, vI x3), (4, vI (x4 + 1))]) ⟨rfl, rfl, rfl, rfl, rfl, trivial⟩ H
set_option maxRecDepth 20000 in
theorem sX7_step {h : Hp} {Q : Option AV → Hp → Prop} {x1 : Int32} (H : (∀ h1 : Hp, h1 = sI h 27 (upd (h.1 27) 0 0) → ((((h1.1 27 4) = 0) → EvM mX7_in [vI x1, vI 1, vI 1000] h1 (fun v h3 => ∃ r4 : Int32, v = some (vI r4) ∧ (((¬ r4 = 0) → Ev mX7_step 31 [(0, vR 27), (1, vI x1), (2, vI 0)] [] h3 Q) ∧ ((r4 = 0) → Q (some (vI (-102))) h3)))) ∧ ((¬ (h1.1 27 4) = 0) → Q (some (vI (-100))) h1)))) : EvM mX7_step [vR 27, vI x1] h Q := by
  refine evM_of (by decide) rfl (Nat.le_of_ble_eq_true rfl) ?_
  show Ev mX7_step 0 [(0, vR 27), (1, vI x1)] [] h Q
  refine ev_aload_n 0 dX7_step_0 rfl (x := 27) rfl ?_
  refine ev_iconst 0 dX7_step_1 (by decide) ?_
  refine ev_putI dX7_step_2 fpX7_96 rfl rfl   ?_
  obtain ⟨h1, eh1⟩ : ∃ z : Hp, z = sI h 27 (upd (h.1 27) 0 0) := ⟨_, rfl⟩
  rw [← eh1]
  have H := H h1 eh1
  refine ev_aload_n 0 dX7_step_5 rfl (x := 27) rfl ?_
  refine ev_getI dX7_step_6 flX7_102 rfl rfl ?_
  refine ev_if_eq 15 dX7_step_9 (by decide) ⟨fun c2 => ?_, fun c2 => ?_⟩
  · have H := H.1 c2
    refine ev_iload_n 1 dX7_step_15 rfl (x := x1) rfl ?_
    refine ev_iconst 1 dX7_step_16 (by decide) ?_
    refine ev_sipush 1000 dX7_step_17 (by decide) ?_
    refine ev_callS (As := [vI x1, vI 1, vI 1000]) (rest := []) dX7_step_20 mlX7_201 rm_mX7_step_mX7_in rfl rfl (Nat.le_of_ble_eq_true rfl) H (fun v h3 H => ?_)
    obtain ⟨r4, rfl, H⟩ := H
    show Ev mX7_step 23 [(0, vR 27), (1, vI x1)] [vI r4] h3 Q
    refine ev_if_ne 29 dX7_step_23 (by decide) ⟨fun c5 => ?_, fun c5 => ?_⟩
    · have H := H.1 c5
      refine ev_iconst 0 dX7_step_29 (by decide) ?_
      refine ev_istore_n 2 dX7_step_30 rfl (by decide) ?_
      refine ev_L (L' := [(2, vI 0), (0, vR 27), (1, vI x1)]) rfl ?_
      exact ev_sub (L' := [(0, vR 27), (1, vI x1), (2, vI 0)]) ⟨rfl, rfl, rfl, trivial⟩ H
    · have H := H.2 c5
      refine ev_bipush (-102) dX7_step_26 (by decide) ?_
      exact ev_iret dX7_step_28 rfl H
  · have H := H.2 c2
    refine ev_bipush (-100) dX7_step_12 (by decide) ?_
    exact ev_iret dX7_step_14 rfl H
set_option maxRecDepth 20000 in
theorem sX7_step_31 {h : Hp} {Q : Option AV → Hp → Prop} {x1 : Int32} {x2 : Int32} (H : (((x1 ≤ x2) → Q (some (vI (h.1 27 11))) h) ∧ ((¬ x1 ≤ x2) → EvM mX7_in [vI (h.1 27 11), vI 1, vI 4] h (fun v h2 => ∃ r3 : Int32, v = some (vI r3) ∧ (((r3 = 0) → Q (some (vI (h2.1 27 11))) h2) ∧ ((¬ r3 = 0) → (((¬ (h2.1 27 11) = 1) → (((¬ (h2.1 27 11) = 2) → (((¬ (h2.1 27 11) = 3) → EvM mX7_catchStep [vR 27] h2 (fun v h8 => ∃ r9 : Int32, v = some (vI r9) ∧ Ev mX7_step 97 [(0, vR 27), (1, vI x1), (2, vI x2)] [vI r9] h8 Q)) ∧ (((h2.1 27 11) = 3) → EvM mX7_loadStep [vR 27] h2 (fun v h10 => ∃ r11 : Int32, v = some (vI r11) ∧ Ev mX7_step 97 [(0, vR 27), (1, vI x1), (2, vI x2)] [vI r11] h10 Q)))) ∧ (((h2.1 27 11) = 2) → EvM mX7_mergeStep [vR 27] h2 (fun v h12 => ∃ r13 : Int32, v = some (vI r13) ∧ Ev mX7_step 97 [(0, vR 27), (1, vI x1), (2, vI x2)] [vI r13] h12 Q)))) ∧ (((h2.1 27 11) = 1) → EvM mX7_scanStep [vR 27] h2 (fun v h14 => ∃ r15 : Int32, v = some (vI r15) ∧ Ev mX7_step 97 [(0, vR 27), (1, vI x1), (2, vI x2)] [vI r15] h14 Q))))))))) : Ev mX7_step 31 [(0, vR 27), (1, vI x1), (2, vI x2)] [] h Q := by
  refine ev_iload_n 2 dX7_step_31 rfl (x := x2) rfl ?_
  refine ev_iload_n 1 dX7_step_32 rfl (x := x1) rfl ?_
  refine ev_icmp_ge 111 dX7_step_33 (by decide) ⟨fun c1 => ?_, fun c1 => ?_⟩
  · have H := H.1 c1
    refine ev_aload_n 0 dX7_step_111 rfl (x := 27) rfl ?_
    refine ev_getI dX7_step_112 flX7_106 rfl rfl ?_
    exact ev_iret dX7_step_115 rfl H
  · have H := H.2 c1
    refine ev_aload_n 0 dX7_step_36 rfl (x := 27) rfl ?_
    refine ev_getI dX7_step_37 flX7_106 rfl rfl ?_
    refine ev_iconst 1 dX7_step_40 (by decide) ?_
    refine ev_iconst 4 dX7_step_41 (by decide) ?_
    refine ev_callS (As := [vI (h.1 27 11), vI 1, vI 4]) (rest := []) dX7_step_42 mlX7_201 rm_mX7_step_mX7_in rfl rfl (Nat.le_of_ble_eq_true rfl) H (fun v h2 H => ?_)
    obtain ⟨r3, rfl, H⟩ := H
    show Ev mX7_step 45 [(0, vR 27), (1, vI x1), (2, vI x2)] [vI r3] h2 Q
    refine ev_if_eq 111 dX7_step_45 (by decide) ⟨fun c4 => ?_, fun c4 => ?_⟩
    · have H := H.1 c4
      refine ev_aload_n 0 dX7_step_111 rfl (x := 27) rfl ?_
      refine ev_getI dX7_step_112 flX7_106 rfl rfl ?_
      exact ev_iret dX7_step_115 rfl H
    · have H := H.2 c4
      refine ev_aload_n 0 dX7_step_48 rfl (x := 27) rfl ?_
      refine ev_getI dX7_step_49 flX7_106 rfl rfl ?_
      refine ev_iconst 1 dX7_step_52 (by decide) ?_
      refine ev_icmp_ne 63 dX7_step_53 (by decide) ⟨fun c5 => ?_, fun c5 => ?_⟩
      · have H := H.1 c5
        refine ev_aload_n 0 dX7_step_63 rfl (x := 27) rfl ?_
        refine ev_getI dX7_step_64 flX7_106 rfl rfl ?_
        refine ev_iconst 2 dX7_step_67 (by decide) ?_
        refine ev_icmp_ne 78 dX7_step_68 (by decide) ⟨fun c6 => ?_, fun c6 => ?_⟩
        · have H := H.1 c6
          refine ev_aload_n 0 dX7_step_78 rfl (x := 27) rfl ?_
          refine ev_getI dX7_step_79 flX7_106 rfl rfl ?_
          refine ev_iconst 3 dX7_step_82 (by decide) ?_
          refine ev_icmp_ne 93 dX7_step_83 (by decide) ⟨fun c7 => ?_, fun c7 => ?_⟩
          · have H := H.1 c7
            refine ev_aload_n 0 dX7_step_93 rfl (x := 27) rfl ?_
            refine ev_callV (As := []) (rest := []) dX7_step_94 mlX7_255 rm_mX7_step_mX7_catchStep rfl rfl rfl rfl (Nat.le_of_ble_eq_true rfl) H (fun v h8 H => ?_)
            obtain ⟨r9, rfl, H⟩ := H
            show Ev mX7_step 97 [(0, vR 27), (1, vI x1), (2, vI x2)] [vI r9] h8 Q
            exact ev_sub (L' := [(0, vR 27), (1, vI x1), (2, vI x2)]) ⟨rfl, rfl, rfl, trivial⟩ H
          · have H := H.2 c7
            refine ev_aload_n 0 dX7_step_86 rfl (x := 27) rfl ?_
            refine ev_callV (As := []) (rest := []) dX7_step_87 mlX7_252 rm_mX7_step_mX7_loadStep rfl rfl rfl rfl (Nat.le_of_ble_eq_true rfl) H (fun v h10 H => ?_)
            obtain ⟨r11, rfl, H⟩ := H
            show Ev mX7_step 90 [(0, vR 27), (1, vI x1), (2, vI x2)] [vI r11] h10 Q
            refine ev_goto 97 dX7_step_90 (by decide) ?_
            exact ev_sub (L' := [(0, vR 27), (1, vI x1), (2, vI x2)]) ⟨rfl, rfl, rfl, trivial⟩ H
        · have H := H.2 c6
          refine ev_aload_n 0 dX7_step_71 rfl (x := 27) rfl ?_
          refine ev_callV (As := []) (rest := []) dX7_step_72 mlX7_249 rm_mX7_step_mX7_mergeStep rfl rfl rfl rfl (Nat.le_of_ble_eq_true rfl) H (fun v h12 H => ?_)
          obtain ⟨r13, rfl, H⟩ := H
          show Ev mX7_step 75 [(0, vR 27), (1, vI x1), (2, vI x2)] [vI r13] h12 Q
          refine ev_goto 97 dX7_step_75 (by decide) ?_
          exact ev_sub (L' := [(0, vR 27), (1, vI x1), (2, vI x2)]) ⟨rfl, rfl, rfl, trivial⟩ H
      · have H := H.2 c5
        refine ev_aload_n 0 dX7_step_56 rfl (x := 27) rfl ?_
        refine ev_callV (As := []) (rest := []) dX7_step_57 mlX7_246 rm_mX7_step_mX7_scanStep rfl rfl rfl rfl (Nat.le_of_ble_eq_true rfl) H (fun v h14 H => ?_)
        obtain ⟨r15, rfl, H⟩ := H
        show Ev mX7_step 60 [(0, vR 27), (1, vI x1), (2, vI x2)] [vI r15] h14 Q
        refine ev_goto 97 dX7_step_60 (by decide) ?_
        exact ev_sub (L' := [(0, vR 27), (1, vI x1), (2, vI x2)]) ⟨rfl, rfl, rfl, trivial⟩ H
set_option maxRecDepth 20000 in
theorem sX7_step_97 {h : Hp} {Q : Option AV → Hp → Prop} {x1 : Int32} {x2 : Int32} {s0 : Int32} (H : (((¬ s0 = 0) → Ev mX7_step 31 [(0, vR 27), (1, vI x1), (2, vI (x2 + 1))] [] h Q) ∧ ((s0 = 0) → Q (some (vI (-106))) h))) : Ev mX7_step 97 [(0, vR 27), (1, vI x1), (2, vI x2)] [vI s0] h Q := by
  refine ev_istore_n 3 dX7_step_97 rfl (by decide) ?_
  refine ev_L (L' := [(3, vI s0), (0, vR 27), (1, vI x1), (2, vI x2)]) rfl ?_
  refine ev_iload_n 3 dX7_step_98 rfl (x := s0) rfl ?_
  refine ev_if_ne 105 dX7_step_99 (by decide) ⟨fun c1 => ?_, fun c1 => ?_⟩
  · have H := H.1 c1
    refine ev_iinc (x := x2) (v := 1) dX7_step_105 rfl (by decide) (by decide) ?_
    refine ev_L (L' := [(2, vI (x2 + 1)), (3, vI s0), (0, vR 27), (1, vI x1)]) rfl ?_
    refine ev_goto 31 dX7_step_108 (by decide) ?_
    exact ev_sub (L' := [(0, vR 27), (1, vI x1), (2, vI (x2 + 1))]) ⟨rfl, rfl, rfl, trivial⟩ H
  · have H := H.2 c1
    refine ev_bipush (-106) dX7_step_102 (by decide) ?_
    exact ev_iret dX7_step_104 rfl H
set_option maxRecDepth 20000 in
theorem sX7_height {h : Hp} {Q : Option AV → Hp → Prop} (H : Ev mX7_height 7 [(0, vR 27), (1, vI 1), (2, vI (h.1 27 34))] [] h Q) : EvM mX7_height [vR 27] h Q := by
  refine evM_of (by decide) rfl (Nat.le_of_ble_eq_true rfl) ?_
  show Ev mX7_height 0 [(0, vR 27)] [] h Q
  refine ev_iconst 1 dX7_height_0 (by decide) ?_
  refine ev_istore_n 1 dX7_height_1 rfl (by decide) ?_
  refine ev_L (L' := [(1, vI 1), (0, vR 27)]) rfl ?_
  refine ev_aload_n 0 dX7_height_2 rfl (x := 27) rfl ?_
  refine ev_getI dX7_height_3 flX7_160 rfl rfl ?_
  refine ev_istore_n 2 dX7_height_6 rfl (by decide) ?_
  refine ev_L (L' := [(2, vI (h.1 27 34)), (1, vI 1), (0, vR 27)]) rfl ?_
  exact ev_sub (L' := [(0, vR 27), (1, vI 1), (2, vI (h.1 27 34))]) ⟨rfl, rfl, rfl, trivial⟩ H
set_option maxRecDepth 20000 in
theorem sX7_height_7 {h : Hp} {Q : Option AV → Hp → Prop} {x1 : Int32} {x2 : Int32} (H : (vp_in x2 80 ∧ (((¬ (h.1 41 (Int32.toNatClampNeg x2)) = 0) → Q (some (vI x1)) h) ∧ (((h.1 41 (Int32.toNatClampNeg x2)) = 0) → (vp_in (9 * x2) 720 ∧ Ev mX7_height 7 [(0, vR 27), (1, vI (x1 + 1)), (2, vI (h.1 46 (Int32.toNatClampNeg (9 * x2))))] [] h Q))))) : Ev mX7_height 7 [(0, vR 27), (1, vI x1), (2, vI x2)] [] h Q := by
  refine ev_aload_n 0 dX7_height_7 rfl (x := 27) rfl ?_
  refine ev_getR dX7_height_8 flX7_60 rfl rfl ?_
  refine ev_iload_n 2 dX7_height_11 rfl (x := x2) rfl ?_
  obtain ⟨b1, H⟩ := H
  refine ev_zald dX7_height_12 rfl b1 ?_
  refine ev_if_ne 32 dX7_height_13 (by decide) ⟨fun c2 => ?_, fun c2 => ?_⟩
  · have H := H.1 c2
    refine ev_iload_n 1 dX7_height_32 rfl (x := x1) rfl ?_
    exact ev_iret dX7_height_33 rfl H
  · have H := H.2 c2
    refine ev_aload_n 0 dX7_height_16 rfl (x := 27) rfl ?_
    refine ev_getR dX7_height_17 flX7_75 rfl rfl ?_
    refine ev_bipush 9 dX7_height_20 (by decide) ?_
    refine ev_iload_n 2 dX7_height_22 rfl (x := x2) rfl ?_
    refine ev_imul dX7_height_23 ?_
    obtain ⟨b3, H⟩ := H
    refine ev_iald dX7_height_24 rfl b3 ?_
    refine ev_istore_n 2 dX7_height_25 rfl (by decide) ?_
    refine ev_L (L' := [(2, vI (h.1 46 (Int32.toNatClampNeg (9 * x2)))), (0, vR 27), (1, vI x1)]) rfl ?_
    refine ev_iinc (x := x1) (v := 1) dX7_height_26 rfl (by decide) (by decide) ?_
    refine ev_L (L' := [(1, vI (x1 + 1)), (2, vI (h.1 46 (Int32.toNatClampNeg (9 * x2)))), (0, vR 27)]) rfl ?_
    refine ev_goto 7 dX7_height_29 (by decide) ?_
    exact ev_sub (L' := [(0, vR 27), (1, vI (x1 + 1)), (2, vI (h.1 46 (Int32.toNatClampNeg (9 * x2))))]) ⟨rfl, rfl, rfl, trivial⟩ H
set_option maxRecDepth 20000 in
theorem sX7_goThrough {h : Hp} {Q : Option AV → Hp → Prop} (H : (∀ h1 : Hp, h1 = sI h 27 (upd (h.1 27) 50 0) → ((((h1.1 27 11) = 4) → Ev mX7_goThrough 22 [(0, vR 27)] [] h1 Q) ∧ ((¬ (h1.1 27 11) = 4) → ((((h1.1 27 11) = 5) → Ev mX7_goThrough 22 [(0, vR 27)] [] h1 Q) ∧ ((¬ (h1.1 27 11) = 5) → Q none h1)))))) : EvM mX7_goThrough [vR 27] h Q := by
  refine evM_of (by decide) rfl (Nat.le_of_ble_eq_true rfl) ?_
  show Ev mX7_goThrough 0 [(0, vR 27)] [] h Q
  refine ev_aload_n 0 dX7_goThrough_0 rfl (x := 27) rfl ?_
  refine ev_iconst 0 dX7_goThrough_1 (by decide) ?_
  refine ev_putI dX7_goThrough_2 fpX7_258 rfl rfl   ?_
  obtain ⟨h1, eh1⟩ : ∃ z : Hp, z = sI h 27 (upd (h.1 27) 50 0) := ⟨_, rfl⟩
  rw [← eh1]
  have H := H h1 eh1
  refine ev_aload_n 0 dX7_goThrough_5 rfl (x := 27) rfl ?_
  refine ev_getI dX7_goThrough_6 flX7_106 rfl rfl ?_
  refine ev_iconst 4 dX7_goThrough_9 (by decide) ?_
  refine ev_icmp_eq 22 dX7_goThrough_10 (by decide) ⟨fun c2 => ?_, fun c2 => ?_⟩
  · have H := H.1 c2
    exact ev_sub (L' := [(0, vR 27)]) ⟨rfl, trivial⟩ H
  · have H := H.2 c2
    refine ev_aload_n 0 dX7_goThrough_13 rfl (x := 27) rfl ?_
    refine ev_getI dX7_goThrough_14 flX7_106 rfl rfl ?_
    refine ev_iconst 5 dX7_goThrough_17 (by decide) ?_
    refine ev_icmp_eq 22 dX7_goThrough_18 (by decide) ⟨fun c3 => ?_, fun c3 => ?_⟩
    · have H := H.1 c3
      exact ev_sub (L' := [(0, vR 27)]) ⟨rfl, trivial⟩ H
    · have H := H.2 c3
      exact ev_vret dX7_goThrough_21 rfl H
set_option maxRecDepth 20000 in
theorem sX7_goThrough_22 {h : Hp} {Q : Option AV → Hp → Prop} (H : (∀ h1 : Hp, h1 = sI h 27 (upd (h.1 27) 45 0) → (∀ h2 : Hp, h2 = sI h1 48 (upd (h1.1 48) (Int32.toNatClampNeg 0) (h1.1 27 34)) → (∀ h3 : Hp, h3 = sI h2 49 (upd (h2.1 49) (Int32.toNatClampNeg 0) 0) → Ev mX7_goThrough 44 [(0, vR 27)] [] h3 Q)))) : Ev mX7_goThrough 22 [(0, vR 27)] [] h Q := by
  refine ev_aload_n 0 dX7_goThrough_22 rfl (x := 27) rfl ?_
  refine ev_iconst 0 dX7_goThrough_23 (by decide) ?_
  refine ev_putI dX7_goThrough_24 fpX7_157 rfl rfl   ?_
  obtain ⟨h1, eh1⟩ : ∃ z : Hp, z = sI h 27 (upd (h.1 27) 45 0) := ⟨_, rfl⟩
  rw [← eh1]
  have H := H h1 eh1
  refine ev_aload_n 0 dX7_goThrough_27 rfl (x := 27) rfl ?_
  refine ev_getR dX7_goThrough_28 flX7_81 rfl rfl ?_
  refine ev_iconst 0 dX7_goThrough_31 (by decide) ?_
  refine ev_aload_n 0 dX7_goThrough_32 rfl (x := 27) rfl ?_
  refine ev_getI dX7_goThrough_33 flX7_160 rfl rfl ?_
  refine ev_iast dX7_goThrough_36 rfl (by unfold vp_in; decide)  ?_
  obtain ⟨h2, eh2⟩ : ∃ z : Hp, z = sI h1 48 (upd (h1.1 48) (Int32.toNatClampNeg 0) (h1.1 27 34)) := ⟨_, rfl⟩
  rw [← eh2]
  have H := H h2 eh2
  refine ev_aload_n 0 dX7_goThrough_37 rfl (x := 27) rfl ?_
  refine ev_getR dX7_goThrough_38 flX7_84 rfl rfl ?_
  refine ev_iconst 0 dX7_goThrough_41 (by decide) ?_
  refine ev_iconst 0 dX7_goThrough_42 (by decide) ?_
  refine ev_iast dX7_goThrough_43 rfl (by unfold vp_in; decide)  ?_
  obtain ⟨h3, eh3⟩ : ∃ z : Hp, z = sI h2 49 (upd (h2.1 49) (Int32.toNatClampNeg 0) 0) := ⟨_, rfl⟩
  rw [← eh3]
  have H := H h3 eh3
  exact ev_sub (L' := [(0, vR 27)]) ⟨rfl, trivial⟩ H
set_option maxRecDepth 20000 in
theorem sX7_goThrough_44 {h : Hp} {Q : Option AV → Hp → Prop} (H : ((((h.1 27 45) < 0) → Q none h) ∧ ((¬ (h.1 27 45) < 0) → (vp_in (h.1 27 45) 16 ∧ (vp_in (h.1 48 (Int32.toNatClampNeg (h.1 27 45))) 80 ∧ ((((h.1 41 (Int32.toNatClampNeg (h.1 48 (Int32.toNatClampNeg (h.1 27 45))))) = 0) → (vp_in (h.1 27 45) 16 ∧ (vp_in (h.1 48 (Int32.toNatClampNeg (h.1 27 45))) 80 ∧ ((((h.1 43 (Int32.toNatClampNeg (h.1 48 (Int32.toNatClampNeg (h.1 27 45))))) ≤ (h.1 49 (Int32.toNatClampNeg (h.1 27 45)))) → (∀ h8 : Hp, h8 = sI h 27 (upd (h.1 27) 45 ((h.1 27 45) - 1)) → Ev mX7_goThrough 44 [(0, vR 27)] [] h8 Q)) ∧ ((¬ (h.1 43 (Int32.toNatClampNeg (h.1 48 (Int32.toNatClampNeg (h.1 27 45))))) ≤ (h.1 49 (Int32.toNatClampNeg (h.1 27 45)))) → (vp_in (h.1 27 45) 16 ∧ (vp_in ((9 * (h.1 48 (Int32.toNatClampNeg (h.1 27 45)))) + (h.1 49 (Int32.toNatClampNeg (h.1 27 45)))) 720 ∧ (vp_in (h.1 27 45) 16 ∧ (vp_in (h.1 27 45) 16 ∧ (∀ h13 : Hp, h13 = sI h 49 (upd (h.1 49) (Int32.toNatClampNeg (h.1 27 45)) ((h.1 49 (Int32.toNatClampNeg (h.1 27 45))) + 1)) → (∀ h14 : Hp, h14 = sI h13 27 (upd (h13.1 27) 45 ((h13.1 27 45) + 1)) → (vp_in (h14.1 27 45) 16 ∧ (∀ h16 : Hp, h16 = sI h14 48 (upd (h14.1 48) (Int32.toNatClampNeg (h14.1 27 45)) (h.1 46 (Int32.toNatClampNeg ((9 * (h.1 48 (Int32.toNatClampNeg (h.1 27 45)))) + (h.1 49 (Int32.toNatClampNeg (h.1 27 45))))))) → (vp_in (h16.1 27 45) 16 ∧ (∀ h18 : Hp, h18 = sI h16 49 (upd (h16.1 49) (Int32.toNatClampNeg (h16.1 27 45)) 0) → Ev mX7_goThrough 44 [(0, vR 27)] [] h18 Q))))))))))))))) ∧ ((¬ (h.1 41 (Int32.toNatClampNeg (h.1 48 (Int32.toNatClampNeg (h.1 27 45))))) = 0) → (vp_in (h.1 27 50) 80 ∧ (∀ h20 : Hp, h20 = sI h 52 (upd (h.1 52) (Int32.toNatClampNeg (h.1 27 50)) (h.1 48 (Int32.toNatClampNeg (h.1 27 45)))) → (∀ h21 : Hp, h21 = sI h20 27 (upd (h20.1 27) 50 ((h20.1 27 50) + 1)) → (∀ h22 : Hp, h22 = sI h21 27 (upd (h21.1 27) 45 ((h21.1 27 45) - 1)) → Ev mX7_goThrough 44 [(0, vR 27)] [] h22 Q))))))))))) : Ev mX7_goThrough 44 [(0, vR 27)] [] h Q := by
  refine ev_aload_n 0 dX7_goThrough_44 rfl (x := 27) rfl ?_
  refine ev_getI dX7_goThrough_45 flX7_157 rfl rfl ?_
  refine ev_if_lt 200 dX7_goThrough_48 (by decide) ⟨fun c1 => ?_, fun c1 => ?_⟩
  · have H := H.1 c1
    exact ev_vret dX7_goThrough_200 rfl H
  · have H := H.2 c1
    refine ev_aload_n 0 dX7_goThrough_51 rfl (x := 27) rfl ?_
    refine ev_getR dX7_goThrough_52 flX7_81 rfl rfl ?_
    refine ev_aload_n 0 dX7_goThrough_55 rfl (x := 27) rfl ?_
    refine ev_getI dX7_goThrough_56 flX7_157 rfl rfl ?_
    obtain ⟨b2, H⟩ := H
    refine ev_iald dX7_goThrough_59 rfl b2 ?_
    refine ev_istore_n 1 dX7_goThrough_60 rfl (by decide) ?_
    refine ev_L (L' := [(1, vI (h.1 48 (Int32.toNatClampNeg (h.1 27 45)))), (0, vR 27)]) rfl ?_
    refine ev_aload_n 0 dX7_goThrough_61 rfl (x := 27) rfl ?_
    refine ev_getR dX7_goThrough_62 flX7_60 rfl rfl ?_
    refine ev_iload_n 1 dX7_goThrough_65 rfl (x := (h.1 48 (Int32.toNatClampNeg (h.1 27 45)))) rfl ?_
    obtain ⟨b3, H⟩ := H
    refine ev_zald dX7_goThrough_66 rfl b3 ?_
    refine ev_if_eq 103 dX7_goThrough_67 (by decide) ⟨fun c4 => ?_, fun c4 => ?_⟩
    · have H := H.1 c4
      refine ev_aload_n 0 dX7_goThrough_103 rfl (x := 27) rfl ?_
      refine ev_getR dX7_goThrough_104 flX7_84 rfl rfl ?_
      refine ev_aload_n 0 dX7_goThrough_107 rfl (x := 27) rfl ?_
      refine ev_getI dX7_goThrough_108 flX7_157 rfl rfl ?_
      obtain ⟨b5, H⟩ := H
      refine ev_iald dX7_goThrough_111 rfl b5 ?_
      refine ev_aload_n 0 dX7_goThrough_112 rfl (x := 27) rfl ?_
      refine ev_getR dX7_goThrough_113 flX7_66 rfl rfl ?_
      refine ev_iload_n 1 dX7_goThrough_116 rfl (x := (h.1 48 (Int32.toNatClampNeg (h.1 27 45)))) rfl ?_
      obtain ⟨b6, H⟩ := H
      refine ev_iald dX7_goThrough_117 rfl b6 ?_
      refine ev_icmp_ge 187 dX7_goThrough_118 (by decide) ⟨fun c7 => ?_, fun c7 => ?_⟩
      · have H := H.1 c7
        refine ev_aload_n 0 dX7_goThrough_187 rfl (x := 27) rfl ?_
        refine ev_dup dX7_goThrough_188 rfl ?_
        refine ev_getI dX7_goThrough_189 flX7_157 rfl rfl ?_
        refine ev_iconst 1 dX7_goThrough_192 (by decide) ?_
        refine ev_isub dX7_goThrough_193 ?_
        refine ev_putI dX7_goThrough_194 fpX7_157 rfl rfl   ?_
        obtain ⟨h8, eh8⟩ : ∃ z : Hp, z = sI h 27 (upd (h.1 27) 45 ((h.1 27 45) - 1)) := ⟨_, rfl⟩
        rw [← eh8]
        have H := H h8 eh8
        refine ev_goto 44 dX7_goThrough_197 (by decide) ?_
        exact ev_sub (L' := [(0, vR 27)]) ⟨rfl, trivial⟩ H
      · have H := H.2 c7
        refine ev_aload_n 0 dX7_goThrough_121 rfl (x := 27) rfl ?_
        refine ev_getR dX7_goThrough_122 flX7_75 rfl rfl ?_
        refine ev_bipush 9 dX7_goThrough_125 (by decide) ?_
        refine ev_iload_n 1 dX7_goThrough_127 rfl (x := (h.1 48 (Int32.toNatClampNeg (h.1 27 45)))) rfl ?_
        refine ev_imul dX7_goThrough_128 ?_
        refine ev_aload_n 0 dX7_goThrough_129 rfl (x := 27) rfl ?_
        refine ev_getR dX7_goThrough_130 flX7_84 rfl rfl ?_
        refine ev_aload_n 0 dX7_goThrough_133 rfl (x := 27) rfl ?_
        refine ev_getI dX7_goThrough_134 flX7_157 rfl rfl ?_
        obtain ⟨b9, H⟩ := H
        refine ev_iald dX7_goThrough_137 rfl b9 ?_
        refine ev_iadd dX7_goThrough_138 ?_
        obtain ⟨b10, H⟩ := H
        refine ev_iald dX7_goThrough_139 rfl b10 ?_
        refine ev_istore_n 2 dX7_goThrough_140 rfl (by decide) ?_
        refine ev_L (L' := [(2, vI (h.1 46 (Int32.toNatClampNeg ((9 * (h.1 48 (Int32.toNatClampNeg (h.1 27 45)))) + (h.1 49 (Int32.toNatClampNeg (h.1 27 45))))))), (1, vI (h.1 48 (Int32.toNatClampNeg (h.1 27 45)))), (0, vR 27)]) rfl ?_
        refine ev_aload_n 0 dX7_goThrough_141 rfl (x := 27) rfl ?_
        refine ev_getR dX7_goThrough_142 flX7_84 rfl rfl ?_
        refine ev_aload_n 0 dX7_goThrough_145 rfl (x := 27) rfl ?_
        refine ev_getI dX7_goThrough_146 flX7_157 rfl rfl ?_
        refine ev_dup2 dX7_goThrough_149 rfl rfl ?_
        obtain ⟨b11, H⟩ := H
        refine ev_iald dX7_goThrough_150 rfl b11 ?_
        refine ev_iconst 1 dX7_goThrough_151 (by decide) ?_
        refine ev_iadd dX7_goThrough_152 ?_
        obtain ⟨b12, H⟩ := H
        refine ev_iast dX7_goThrough_153 rfl b12  ?_
        obtain ⟨h13, eh13⟩ : ∃ z : Hp, z = sI h 49 (upd (h.1 49) (Int32.toNatClampNeg (h.1 27 45)) ((h.1 49 (Int32.toNatClampNeg (h.1 27 45))) + 1)) := ⟨_, rfl⟩
        rw [← eh13]
        have H := H h13 eh13
        refine ev_aload_n 0 dX7_goThrough_154 rfl (x := 27) rfl ?_
        refine ev_dup dX7_goThrough_155 rfl ?_
        refine ev_getI dX7_goThrough_156 flX7_157 rfl rfl ?_
        refine ev_iconst 1 dX7_goThrough_159 (by decide) ?_
        refine ev_iadd dX7_goThrough_160 ?_
        refine ev_putI dX7_goThrough_161 fpX7_157 rfl rfl   ?_
        obtain ⟨h14, eh14⟩ : ∃ z : Hp, z = sI h13 27 (upd (h13.1 27) 45 ((h13.1 27 45) + 1)) := ⟨_, rfl⟩
        rw [← eh14]
        have H := H h14 eh14
        refine ev_aload_n 0 dX7_goThrough_164 rfl (x := 27) rfl ?_
        refine ev_getR dX7_goThrough_165 flX7_81 rfl rfl ?_
        refine ev_aload_n 0 dX7_goThrough_168 rfl (x := 27) rfl ?_
        refine ev_getI dX7_goThrough_169 flX7_157 rfl rfl ?_
        refine ev_iload_n 2 dX7_goThrough_172 rfl (x := (h.1 46 (Int32.toNatClampNeg ((9 * (h.1 48 (Int32.toNatClampNeg (h.1 27 45)))) + (h.1 49 (Int32.toNatClampNeg (h.1 27 45))))))) rfl ?_
        obtain ⟨b15, H⟩ := H
        refine ev_iast dX7_goThrough_173 rfl b15  ?_
        obtain ⟨h16, eh16⟩ : ∃ z : Hp, z = sI h14 48 (upd (h14.1 48) (Int32.toNatClampNeg (h14.1 27 45)) (h.1 46 (Int32.toNatClampNeg ((9 * (h.1 48 (Int32.toNatClampNeg (h.1 27 45)))) + (h.1 49 (Int32.toNatClampNeg (h.1 27 45))))))) := ⟨_, rfl⟩
        rw [← eh16]
        have H := H h16 eh16
        refine ev_aload_n 0 dX7_goThrough_174 rfl (x := 27) rfl ?_
        refine ev_getR dX7_goThrough_175 flX7_84 rfl rfl ?_
        refine ev_aload_n 0 dX7_goThrough_178 rfl (x := 27) rfl ?_
        refine ev_getI dX7_goThrough_179 flX7_157 rfl rfl ?_
        refine ev_iconst 0 dX7_goThrough_182 (by decide) ?_
        obtain ⟨b17, H⟩ := H
        refine ev_iast dX7_goThrough_183 rfl b17  ?_
        obtain ⟨h18, eh18⟩ : ∃ z : Hp, z = sI h16 49 (upd (h16.1 49) (Int32.toNatClampNeg (h16.1 27 45)) 0) := ⟨_, rfl⟩
        rw [← eh18]
        have H := H h18 eh18
        refine ev_goto 197 dX7_goThrough_184 (by decide) ?_
        refine ev_goto 44 dX7_goThrough_197 (by decide) ?_
        exact ev_sub (L' := [(0, vR 27)]) ⟨rfl, trivial⟩ H
    · have H := H.2 c4
      refine ev_aload_n 0 dX7_goThrough_70 rfl (x := 27) rfl ?_
      refine ev_getR dX7_goThrough_71 flX7_93 rfl rfl ?_
      refine ev_aload_n 0 dX7_goThrough_74 rfl (x := 27) rfl ?_
      refine ev_getI dX7_goThrough_75 flX7_258 rfl rfl ?_
      refine ev_iload_n 1 dX7_goThrough_78 rfl (x := (h.1 48 (Int32.toNatClampNeg (h.1 27 45)))) rfl ?_
      obtain ⟨b19, H⟩ := H
      refine ev_iast dX7_goThrough_79 rfl b19  ?_
      obtain ⟨h20, eh20⟩ : ∃ z : Hp, z = sI h 52 (upd (h.1 52) (Int32.toNatClampNeg (h.1 27 50)) (h.1 48 (Int32.toNatClampNeg (h.1 27 45)))) := ⟨_, rfl⟩
      rw [← eh20]
      have H := H h20 eh20
      refine ev_aload_n 0 dX7_goThrough_80 rfl (x := 27) rfl ?_
      refine ev_dup dX7_goThrough_81 rfl ?_
      refine ev_getI dX7_goThrough_82 flX7_258 rfl rfl ?_
      refine ev_iconst 1 dX7_goThrough_85 (by decide) ?_
      refine ev_iadd dX7_goThrough_86 ?_
      refine ev_putI dX7_goThrough_87 fpX7_258 rfl rfl   ?_
      obtain ⟨h21, eh21⟩ : ∃ z : Hp, z = sI h20 27 (upd (h20.1 27) 50 ((h20.1 27 50) + 1)) := ⟨_, rfl⟩
      rw [← eh21]
      have H := H h21 eh21
      refine ev_aload_n 0 dX7_goThrough_90 rfl (x := 27) rfl ?_
      refine ev_dup dX7_goThrough_91 rfl ?_
      refine ev_getI dX7_goThrough_92 flX7_157 rfl rfl ?_
      refine ev_iconst 1 dX7_goThrough_95 (by decide) ?_
      refine ev_isub dX7_goThrough_96 ?_
      refine ev_putI dX7_goThrough_97 fpX7_157 rfl rfl   ?_
      obtain ⟨h22, eh22⟩ : ∃ z : Hp, z = sI h21 27 (upd (h21.1 27) 45 ((h21.1 27 45) - 1)) := ⟨_, rfl⟩
      rw [← eh22]
      have H := H h22 eh22
      refine ev_goto 197 dX7_goThrough_100 (by decide) ?_
      refine ev_goto 44 dX7_goThrough_197 (by decide) ?_
      exact ev_sub (L' := [(0, vR 27)]) ⟨rfl, trivial⟩ H
set_option maxRecDepth 20000 in
theorem sX7_entries {h : Hp} {Q : Option AV → Hp → Prop} (H : EvM mX7_goThrough [vR 27] h (fun v h1 => v = none ∧ Ev mX7_entries 8 [(0, vR 27), (1, vI 0), (2, vI 0)] [] h1 Q)) : EvM mX7_entries [vR 27] h Q := by
  refine evM_of (by decide) rfl (Nat.le_of_ble_eq_true rfl) ?_
  show Ev mX7_entries 0 [(0, vR 27)] [] h Q
  refine ev_aload_n 0 dX7_entries_0 rfl (x := 27) rfl ?_
  refine ev_callV (As := []) (rest := []) dX7_entries_1 mlX7_261 rm_mX7_entries_mX7_goThrough rfl rfl rfl rfl (Nat.le_of_ble_eq_true rfl) H (fun v h1 H => ?_)
  obtain ⟨rfl, H⟩ := H
  show Ev mX7_entries 4 [(0, vR 27)] [] h1 Q
  refine ev_iconst 0 dX7_entries_4 (by decide) ?_
  refine ev_istore_n 1 dX7_entries_5 rfl (by decide) ?_
  refine ev_L (L' := [(1, vI 0), (0, vR 27)]) rfl ?_
  refine ev_iconst 0 dX7_entries_6 (by decide) ?_
  refine ev_istore_n 2 dX7_entries_7 rfl (by decide) ?_
  refine ev_L (L' := [(2, vI 0), (1, vI 0), (0, vR 27)]) rfl ?_
  exact ev_sub (L' := [(0, vR 27), (1, vI 0), (2, vI 0)]) ⟨rfl, rfl, rfl, trivial⟩ H
set_option maxRecDepth 20000 in
theorem sX7_entries_8 {h : Hp} {Q : Option AV → Hp → Prop} {x1 : Int32} {x2 : Int32} (H : ((((h.1 27 50) ≤ x2) → Q (some (vI x1)) h) ∧ ((¬ (h.1 27 50) ≤ x2) → (vp_in x2 80 ∧ (vp_in (h.1 52 (Int32.toNatClampNeg x2)) 80 ∧ Ev mX7_entries 8 [(0, vR 27), (1, vI (x1 + (h.1 43 (Int32.toNatClampNeg (h.1 52 (Int32.toNatClampNeg x2)))))), (2, vI (x2 + 1))] [] h Q))))) : Ev mX7_entries 8 [(0, vR 27), (1, vI x1), (2, vI x2)] [] h Q := by
  refine ev_iload_n 2 dX7_entries_8 rfl (x := x2) rfl ?_
  refine ev_aload_n 0 dX7_entries_9 rfl (x := 27) rfl ?_
  refine ev_getI dX7_entries_10 flX7_258 rfl rfl ?_
  refine ev_icmp_ge 36 dX7_entries_13 (by decide) ⟨fun c1 => ?_, fun c1 => ?_⟩
  · have H := H.1 c1
    refine ev_iload_n 1 dX7_entries_36 rfl (x := x1) rfl ?_
    exact ev_iret dX7_entries_37 rfl H
  · have H := H.2 c1
    refine ev_iload_n 1 dX7_entries_16 rfl (x := x1) rfl ?_
    refine ev_aload_n 0 dX7_entries_17 rfl (x := 27) rfl ?_
    refine ev_getR dX7_entries_18 flX7_66 rfl rfl ?_
    refine ev_aload_n 0 dX7_entries_21 rfl (x := 27) rfl ?_
    refine ev_getR dX7_entries_22 flX7_93 rfl rfl ?_
    refine ev_iload_n 2 dX7_entries_25 rfl (x := x2) rfl ?_
    obtain ⟨b2, H⟩ := H
    refine ev_iald dX7_entries_26 rfl b2 ?_
    obtain ⟨b3, H⟩ := H
    refine ev_iald dX7_entries_27 rfl b3 ?_
    refine ev_iadd dX7_entries_28 ?_
    refine ev_istore_n 1 dX7_entries_29 rfl (by decide) ?_
    refine ev_L (L' := [(1, vI (x1 + (h.1 43 (Int32.toNatClampNeg (h.1 52 (Int32.toNatClampNeg x2)))))), (0, vR 27), (2, vI x2)]) rfl ?_
    refine ev_iinc (x := x2) (v := 1) dX7_entries_30 rfl (by decide) (by decide) ?_
    refine ev_L (L' := [(2, vI (x2 + 1)), (1, vI (x1 + (h.1 43 (Int32.toNatClampNeg (h.1 52 (Int32.toNatClampNeg x2)))))), (0, vR 27)]) rfl ?_
    refine ev_goto 8 dX7_entries_33 (by decide) ?_
    exact ev_sub (L' := [(0, vR 27), (1, vI (x1 + (h.1 43 (Int32.toNatClampNeg (h.1 52 (Int32.toNatClampNeg x2)))))), (2, vI (x2 + 1))]) ⟨rfl, rfl, rfl, trivial⟩ H
set_option maxRecDepth 20000 in
theorem sX7_info {h : Hp} {Q : Option AV → Hp → Prop} {x1 : Int32} (H : (∀ h1 : Hp, h1 = sI h 27 (upd (h.1 27) 0 0) → ((((h1.1 27 4) = 0) → EvM mX7_in [vI (h1.1 27 11), vI 1, vI 4] h1 (fun v h3 => ∃ r4 : Int32, v = some (vI r4) ∧ ((((h3.1 27 11) = 4) → Ev mX7_info 41 [(0, vR 27), (1, vI x1), (2, vI r4)] [] h3 Q) ∧ ((¬ (h3.1 27 11) = 4) → (((¬ (h3.1 27 11) = 5) → Ev mX7_info 46 [(0, vR 27), (1, vI x1), (2, vI r4)] [vI 0] h3 Q) ∧ (((h3.1 27 11) = 5) → Ev mX7_info 41 [(0, vR 27), (1, vI x1), (2, vI r4)] [] h3 Q)))))) ∧ ((¬ (h1.1 27 4) = 0) → Q (some (vI (-100))) h1)))) : EvM mX7_info [vR 27, vI x1] h Q := by
  refine evM_of (by decide) rfl (Nat.le_of_ble_eq_true rfl) ?_
  show Ev mX7_info 0 [(0, vR 27), (1, vI x1)] [] h Q
  refine ev_aload_n 0 dX7_info_0 rfl (x := 27) rfl ?_
  refine ev_iconst 0 dX7_info_1 (by decide) ?_
  refine ev_putI dX7_info_2 fpX7_96 rfl rfl   ?_
  obtain ⟨h1, eh1⟩ : ∃ z : Hp, z = sI h 27 (upd (h.1 27) 0 0) := ⟨_, rfl⟩
  rw [← eh1]
  have H := H h1 eh1
  refine ev_aload_n 0 dX7_info_5 rfl (x := 27) rfl ?_
  refine ev_getI dX7_info_6 flX7_102 rfl rfl ?_
  refine ev_if_eq 15 dX7_info_9 (by decide) ⟨fun c2 => ?_, fun c2 => ?_⟩
  · have H := H.1 c2
    refine ev_aload_n 0 dX7_info_15 rfl (x := 27) rfl ?_
    refine ev_getI dX7_info_16 flX7_106 rfl rfl ?_
    refine ev_iconst 1 dX7_info_19 (by decide) ?_
    refine ev_iconst 4 dX7_info_20 (by decide) ?_
    refine ev_callS (As := [vI (h1.1 27 11), vI 1, vI 4]) (rest := []) dX7_info_21 mlX7_201 rm_mX7_info_mX7_in rfl rfl (Nat.le_of_ble_eq_true rfl) H (fun v h3 H => ?_)
    obtain ⟨r4, rfl, H⟩ := H
    show Ev mX7_info 24 [(0, vR 27), (1, vI x1)] [vI r4] h3 Q
    refine ev_istore_n 2 dX7_info_24 rfl (by decide) ?_
    refine ev_L (L' := [(2, vI r4), (0, vR 27), (1, vI x1)]) rfl ?_
    refine ev_aload_n 0 dX7_info_25 rfl (x := 27) rfl ?_
    refine ev_getI dX7_info_26 flX7_106 rfl rfl ?_
    refine ev_iconst 4 dX7_info_29 (by decide) ?_
    refine ev_icmp_eq 41 dX7_info_30 (by decide) ⟨fun c5 => ?_, fun c5 => ?_⟩
    · have H := H.1 c5
      exact ev_sub (L' := [(0, vR 27), (1, vI x1), (2, vI r4)]) ⟨rfl, rfl, rfl, trivial⟩ H
    · have H := H.2 c5
      refine ev_aload_n 0 dX7_info_33 rfl (x := 27) rfl ?_
      refine ev_getI dX7_info_34 flX7_106 rfl rfl ?_
      refine ev_iconst 5 dX7_info_37 (by decide) ?_
      refine ev_icmp_ne 45 dX7_info_38 (by decide) ⟨fun c6 => ?_, fun c6 => ?_⟩
      · have H := H.1 c6
        refine ev_iconst 0 dX7_info_45 (by decide) ?_
        exact ev_sub (L' := [(0, vR 27), (1, vI x1), (2, vI r4)]) ⟨rfl, rfl, rfl, trivial⟩ H
      · have H := H.2 c6
        exact ev_sub (L' := [(0, vR 27), (1, vI x1), (2, vI r4)]) ⟨rfl, rfl, rfl, trivial⟩ H
  · have H := H.2 c2
    refine ev_bipush (-100) dX7_info_12 (by decide) ?_
    exact ev_iret dX7_info_14 rfl H
set_option maxRecDepth 20000 in
theorem sX7_info_41 {h : Hp} {Q : Option AV → Hp → Prop} {x1 : Int32} {x2 : Int32} (H : Ev mX7_info 46 [(0, vR 27), (1, vI x1), (2, vI x2)] [vI 1] h Q) : Ev mX7_info 41 [(0, vR 27), (1, vI x1), (2, vI x2)] [] h Q := by
  refine ev_iconst 1 dX7_info_41 (by decide) ?_
  refine ev_goto 46 dX7_info_42 (by decide) ?_
  exact ev_sub (L' := [(0, vR 27), (1, vI x1), (2, vI x2)]) ⟨rfl, rfl, rfl, trivial⟩ H
set_option maxRecDepth 20000 in
theorem sX7_info_46 {h : Hp} {Q : Option AV → Hp → Prop} {x1 : Int32} {x2 : Int32} {s0 : Int32} (H : (((x1 = 0) → Q (some (vI (h.1 27 11))) h) ∧ ((x1 = 1) → ((((h.1 27 11) = 0) → Q (some (vI 0)) h) ∧ ((¬ (h.1 27 11) = 0) → ((((h.1 27 12) = 0) → Q (some (vI 0)) h) ∧ ((¬ (h.1 27 12) = 0) → Q (some (vI 1)) h))))) ∧ ((x1 = 2) → (((x2 = 0) → Q (some (vI 0)) h) ∧ ((¬ x2 = 0) → Q (some (vI (h.1 27 16))) h))) ∧ ((x1 = 3) → (((x2 = 0) → Q (some (vI 0)) h) ∧ ((¬ x2 = 0) → Q (some (vI (h.1 27 20))) h))) ∧ ((x1 = 4) → (((x2 = 0) → Q (some (vI 0)) h) ∧ ((¬ x2 = 0) → EvM mX7_runFrom [vR 27, vI (h.1 27 20)] h (fun v h6 => ∃ r7 : Int32, v = some (vI r7) ∧ Q (some (vI ((h.1 27 17) - r7))) h6)))) ∧ ((x1 = 5) → (((x2 = 0) → Q (some (vI 0)) h) ∧ ((¬ x2 = 0) → Q (some (vI (h.1 27 22))) h))) ∧ ((x1 = 6) → (((¬ s0 = 0) → Q (some (vI (h.1 27 33))) h) ∧ ((s0 = 0) → (((¬ (h.1 27 11) = 3) → Q (some (vI 0)) h) ∧ (((h.1 27 11) = 3) → Q (some (vI (h.1 27 33))) h))))) ∧ ((x1 = 7) → (((s0 = 0) → Q (some (vI 0)) h) ∧ ((¬ s0 = 0) → EvM mX7_height [vR 27] h (fun v h12 => ∃ r13 : Int32, v = some (vI r13) ∧ Q (some (vI r13)) h12)))) ∧ ((x1 = 8) → EvM mX7_entries [vR 27] h (fun v h14 => ∃ r15 : Int32, v = some (vI r15) ∧ Q (some (vI r15)) h14)) ∧ ((x1 = 9) → Q (some (vI (h.1 27 13))) h) ∧ ((x1 = 10) → Q (some (vI (h.1 27 14))) h) ∧ ((x1 = 11) → Q (some (vI (h.1 27 15))) h) ∧ ((¬ x1 = 0 ∧ ¬ x1 = 1 ∧ ¬ x1 = 2 ∧ ¬ x1 = 3 ∧ ¬ x1 = 4 ∧ ¬ x1 = 5 ∧ ¬ x1 = 6 ∧ ¬ x1 = 7 ∧ ¬ x1 = 8 ∧ ¬ x1 = 9 ∧ ¬ x1 = 10 ∧ ¬ x1 = 11) → Q (some (vI (-102))) h))) : Ev mX7_info 46 [(0, vR 27), (1, vI x1), (2, vI x2)] [vI s0] h Q := by
  refine ev_istore_n 3 dX7_info_46 rfl (by decide) ?_
  refine ev_L (L' := [(3, vI s0), (0, vR 27), (1, vI x1), (2, vI x2)]) rfl ?_
  refine ev_iload_n 1 dX7_info_47 rfl (x := x1) rfl ?_
  by_cases e0 : x1 = 0
  · have H := H.1 e0
    refine ev_switch 112 dX7_info_48 (Or.inl ⟨by rw [e0]; decide, by rw [e0]; decide, _, by rw [e0]; rfl, by decide⟩) ?_
    refine ev_aload_n 0 dX7_info_112 rfl (x := 27) rfl ?_
    refine ev_getI dX7_info_113 flX7_106 rfl rfl ?_
    exact ev_iret dX7_info_116 rfl H
  by_cases e1 : x1 = 1
  · have H := H.2.1 e1
    refine ev_switch 117 dX7_info_48 (Or.inl ⟨by rw [e1]; decide, by rw [e1]; decide, _, by rw [e1]; rfl, by decide⟩) ?_
    refine ev_aload_n 0 dX7_info_117 rfl (x := 27) rfl ?_
    refine ev_getI dX7_info_118 flX7_106 rfl rfl ?_
    refine ev_if_eq 135 dX7_info_121 (by decide) ⟨fun c1 => ?_, fun c1 => ?_⟩
    · have H := H.1 c1
      refine ev_iconst 0 dX7_info_135 (by decide) ?_
      exact ev_iret dX7_info_136 rfl H
    · have H := H.2 c1
      refine ev_aload_n 0 dX7_info_124 rfl (x := 27) rfl ?_
      refine ev_getI dX7_info_125 flX7_154 rfl rfl ?_
      refine ev_if_eq 135 dX7_info_128 (by decide) ⟨fun c2 => ?_, fun c2 => ?_⟩
      · have H := H.1 c2
        refine ev_iconst 0 dX7_info_135 (by decide) ?_
        exact ev_iret dX7_info_136 rfl H
      · have H := H.2 c2
        refine ev_iconst 1 dX7_info_131 (by decide) ?_
        refine ev_goto 136 dX7_info_132 (by decide) ?_
        exact ev_iret dX7_info_136 rfl H
  by_cases e2 : x1 = 2
  · have H := H.2.2.1 e2
    refine ev_switch 137 dX7_info_48 (Or.inl ⟨by rw [e2]; decide, by rw [e2]; decide, _, by rw [e2]; rfl, by decide⟩) ?_
    refine ev_iload_n 2 dX7_info_137 rfl (x := x2) rfl ?_
    refine ev_if_eq 148 dX7_info_138 (by decide) ⟨fun c3 => ?_, fun c3 => ?_⟩
    · have H := H.1 c3
      refine ev_iconst 0 dX7_info_148 (by decide) ?_
      exact ev_iret dX7_info_149 rfl H
    · have H := H.2 c3
      refine ev_aload_n 0 dX7_info_141 rfl (x := 27) rfl ?_
      refine ev_getI dX7_info_142 flX7_139 rfl rfl ?_
      refine ev_goto 149 dX7_info_145 (by decide) ?_
      exact ev_iret dX7_info_149 rfl H
  by_cases e3 : x1 = 3
  · have H := H.2.2.2.1 e3
    refine ev_switch 150 dX7_info_48 (Or.inl ⟨by rw [e3]; decide, by rw [e3]; decide, _, by rw [e3]; rfl, by decide⟩) ?_
    refine ev_iload_n 2 dX7_info_150 rfl (x := x2) rfl ?_
    refine ev_if_eq 161 dX7_info_151 (by decide) ⟨fun c4 => ?_, fun c4 => ?_⟩
    · have H := H.1 c4
      refine ev_iconst 0 dX7_info_161 (by decide) ?_
      exact ev_iret dX7_info_162 rfl H
    · have H := H.2 c4
      refine ev_aload_n 0 dX7_info_154 rfl (x := 27) rfl ?_
      refine ev_getI dX7_info_155 flX7_145 rfl rfl ?_
      refine ev_goto 162 dX7_info_158 (by decide) ?_
      exact ev_iret dX7_info_162 rfl H
  by_cases e4 : x1 = 4
  · have H := H.2.2.2.2.1 e4
    refine ev_switch 163 dX7_info_48 (Or.inl ⟨by rw [e4]; decide, by rw [e4]; decide, _, by rw [e4]; rfl, by decide⟩) ?_
    refine ev_iload_n 2 dX7_info_163 rfl (x := x2) rfl ?_
    refine ev_if_eq 183 dX7_info_164 (by decide) ⟨fun c5 => ?_, fun c5 => ?_⟩
    · have H := H.1 c5
      refine ev_iconst 0 dX7_info_183 (by decide) ?_
      exact ev_iret dX7_info_184 rfl H
    · have H := H.2 c5
      refine ev_aload_n 0 dX7_info_167 rfl (x := 27) rfl ?_
      refine ev_getI dX7_info_168 flX7_142 rfl rfl ?_
      refine ev_aload_n 0 dX7_info_171 rfl (x := 27) rfl ?_
      refine ev_aload_n 0 dX7_info_172 rfl (x := 27) rfl ?_
      refine ev_getI dX7_info_173 flX7_145 rfl rfl ?_
      refine ev_callV (As := [vI (h.1 27 20)]) (rest := [vI (h.1 27 17)]) dX7_info_176 mlX7_237 rm_mX7_info_mX7_runFrom rfl rfl rfl rfl (Nat.le_of_ble_eq_true rfl) H (fun v h6 H => ?_)
      obtain ⟨r7, rfl, H⟩ := H
      show Ev mX7_info 179 [(3, vI s0), (0, vR 27), (1, vI x1), (2, vI x2)] [vI r7, vI (h.1 27 17)] h6 Q
      refine ev_isub dX7_info_179 ?_
      refine ev_goto 184 dX7_info_180 (by decide) ?_
      exact ev_iret dX7_info_184 rfl H
  by_cases e5 : x1 = 5
  · have H := H.2.2.2.2.2.1 e5
    refine ev_switch 185 dX7_info_48 (Or.inl ⟨by rw [e5]; decide, by rw [e5]; decide, _, by rw [e5]; rfl, by decide⟩) ?_
    refine ev_iload_n 2 dX7_info_185 rfl (x := x2) rfl ?_
    refine ev_if_eq 196 dX7_info_186 (by decide) ⟨fun c8 => ?_, fun c8 => ?_⟩
    · have H := H.1 c8
      refine ev_iconst 0 dX7_info_196 (by decide) ?_
      exact ev_iret dX7_info_197 rfl H
    · have H := H.2 c8
      refine ev_aload_n 0 dX7_info_189 rfl (x := 27) rfl ?_
      refine ev_getI dX7_info_190 flX7_148 rfl rfl ?_
      refine ev_goto 197 dX7_info_193 (by decide) ?_
      exact ev_iret dX7_info_197 rfl H
  by_cases e6 : x1 = 6
  · have H := H.2.2.2.2.2.2.1 e6
    refine ev_switch 198 dX7_info_48 (Or.inl ⟨by rw [e6]; decide, by rw [e6]; decide, _, by rw [e6]; rfl, by decide⟩) ?_
    refine ev_iload_n 3 dX7_info_198 rfl (x := s0) rfl ?_
    refine ev_if_ne 210 dX7_info_199 (by decide) ⟨fun c9 => ?_, fun c9 => ?_⟩
    · have H := H.1 c9
      refine ev_aload_n 0 dX7_info_210 rfl (x := 27) rfl ?_
      refine ev_getI dX7_info_211 flX7_151 rfl rfl ?_
      refine ev_goto 218 dX7_info_214 (by decide) ?_
      exact ev_iret dX7_info_218 rfl H
    · have H := H.2 c9
      refine ev_aload_n 0 dX7_info_202 rfl (x := 27) rfl ?_
      refine ev_getI dX7_info_203 flX7_106 rfl rfl ?_
      refine ev_iconst 3 dX7_info_206 (by decide) ?_
      refine ev_icmp_ne 217 dX7_info_207 (by decide) ⟨fun c10 => ?_, fun c10 => ?_⟩
      · have H := H.1 c10
        refine ev_iconst 0 dX7_info_217 (by decide) ?_
        exact ev_iret dX7_info_218 rfl H
      · have H := H.2 c10
        refine ev_aload_n 0 dX7_info_210 rfl (x := 27) rfl ?_
        refine ev_getI dX7_info_211 flX7_151 rfl rfl ?_
        refine ev_goto 218 dX7_info_214 (by decide) ?_
        exact ev_iret dX7_info_218 rfl H
  by_cases e7 : x1 = 7
  · have H := H.2.2.2.2.2.2.2.1 e7
    refine ev_switch 219 dX7_info_48 (Or.inl ⟨by rw [e7]; decide, by rw [e7]; decide, _, by rw [e7]; rfl, by decide⟩) ?_
    refine ev_iload_n 3 dX7_info_219 rfl (x := s0) rfl ?_
    refine ev_if_eq 230 dX7_info_220 (by decide) ⟨fun c11 => ?_, fun c11 => ?_⟩
    · have H := H.1 c11
      refine ev_iconst 0 dX7_info_230 (by decide) ?_
      exact ev_iret dX7_info_231 rfl H
    · have H := H.2 c11
      refine ev_aload_n 0 dX7_info_223 rfl (x := 27) rfl ?_
      refine ev_callV (As := []) (rest := []) dX7_info_224 mlX7_264 rm_mX7_info_mX7_height rfl rfl rfl rfl (Nat.le_of_ble_eq_true rfl) H (fun v h12 H => ?_)
      obtain ⟨r13, rfl, H⟩ := H
      show Ev mX7_info 227 [(3, vI s0), (0, vR 27), (1, vI x1), (2, vI x2)] [vI r13] h12 Q
      refine ev_goto 231 dX7_info_227 (by decide) ?_
      exact ev_iret dX7_info_231 rfl H
  by_cases e8 : x1 = 8
  · have H := H.2.2.2.2.2.2.2.2.1 e8
    refine ev_switch 232 dX7_info_48 (Or.inl ⟨by rw [e8]; decide, by rw [e8]; decide, _, by rw [e8]; rfl, by decide⟩) ?_
    refine ev_aload_n 0 dX7_info_232 rfl (x := 27) rfl ?_
    refine ev_callV (As := []) (rest := []) dX7_info_233 mlX7_267 rm_mX7_info_mX7_entries rfl rfl rfl rfl (Nat.le_of_ble_eq_true rfl) H (fun v h14 H => ?_)
    obtain ⟨r15, rfl, H⟩ := H
    show Ev mX7_info 236 [(3, vI s0), (0, vR 27), (1, vI x1), (2, vI x2)] [vI r15] h14 Q
    exact ev_iret dX7_info_236 rfl H
  by_cases e9 : x1 = 9
  · have H := H.2.2.2.2.2.2.2.2.2.1 e9
    refine ev_switch 237 dX7_info_48 (Or.inl ⟨by rw [e9]; decide, by rw [e9]; decide, _, by rw [e9]; rfl, by decide⟩) ?_
    refine ev_aload_n 0 dX7_info_237 rfl (x := 27) rfl ?_
    refine ev_getI dX7_info_238 flX7_136 rfl rfl ?_
    exact ev_iret dX7_info_241 rfl H
  by_cases e10 : x1 = 10
  · have H := H.2.2.2.2.2.2.2.2.2.2.1 e10
    refine ev_switch 242 dX7_info_48 (Or.inl ⟨by rw [e10]; decide, by rw [e10]; decide, _, by rw [e10]; rfl, by decide⟩) ?_
    refine ev_aload_n 0 dX7_info_242 rfl (x := 27) rfl ?_
    refine ev_getI dX7_info_243 flX7_27 rfl rfl ?_
    exact ev_iret dX7_info_246 rfl H
  by_cases e11 : x1 = 11
  · have H := H.2.2.2.2.2.2.2.2.2.2.2.1 e11
    refine ev_switch 247 dX7_info_48 (Or.inl ⟨by rw [e11]; decide, by rw [e11]; decide, _, by rw [e11]; rfl, by decide⟩) ?_
    refine ev_aload_n 0 dX7_info_247 rfl (x := 27) rfl ?_
    refine ev_getI dX7_info_248 flX7_30 rfl rfl ?_
    exact ev_iret dX7_info_251 rfl H
  have q0 := lv_neT e0 (a := 0) (by decide)
  have q1 := lv_neT e1 (a := 1) (by decide)
  have q2 := lv_neT e2 (a := 2) (by decide)
  have q3 := lv_neT e3 (a := 3) (by decide)
  have q4 := lv_neT e4 (a := 4) (by decide)
  have q5 := lv_neT e5 (a := 5) (by decide)
  have q6 := lv_neT e6 (a := 6) (by decide)
  have q7 := lv_neT e7 (a := 7) (by decide)
  have q8 := lv_neT e8 (a := 8) (by decide)
  have q9 := lv_neT e9 (a := 9) (by decide)
  have q10 := lv_neT e10 (a := 10) (by decide)
  have q11 := lv_neT e11 (a := 11) (by decide)
  have H := H.2.2.2.2.2.2.2.2.2.2.2.2 ⟨e0, e1, e2, e3, e4, e5, e6, e7, e8, e9, e10, e11⟩
  refine ev_switch 252 dX7_info_48 (Or.inr ⟨by omega, by decide⟩) ?_
  refine ev_bipush (-102) dX7_info_252 (by decide) ?_
  exact ev_iret dX7_info_254 rfl H
set_option maxRecDepth 20000 in
theorem sX7_slotOf {h : Hp} {Q : Option AV → Hp → Prop} {x1 : Int32} (H : EvM mX7_goThrough [vR 27] h (fun v h1 => v = none ∧ Ev mX7_slotOf 8 [(0, vR 27), (1, vI x1), (2, vI x1), (3, vI 0)] [] h1 Q)) : EvM mX7_slotOf [vR 27, vI x1] h Q := by
  refine evM_of (by decide) rfl (Nat.le_of_ble_eq_true rfl) ?_
  show Ev mX7_slotOf 0 [(0, vR 27), (1, vI x1)] [] h Q
  refine ev_aload_n 0 dX7_slotOf_0 rfl (x := 27) rfl ?_
  refine ev_callV (As := []) (rest := []) dX7_slotOf_1 mlX7_261 rm_mX7_slotOf_mX7_goThrough rfl rfl rfl rfl (Nat.le_of_ble_eq_true rfl) H (fun v h1 H => ?_)
  obtain ⟨rfl, H⟩ := H
  show Ev mX7_slotOf 4 [(0, vR 27), (1, vI x1)] [] h1 Q
  refine ev_iload_n 1 dX7_slotOf_4 rfl (x := x1) rfl ?_
  refine ev_istore_n 2 dX7_slotOf_5 rfl (by decide) ?_
  refine ev_L (L' := [(2, vI x1), (0, vR 27), (1, vI x1)]) rfl ?_
  refine ev_iconst 0 dX7_slotOf_6 (by decide) ?_
  refine ev_istore_n 3 dX7_slotOf_7 rfl (by decide) ?_
  refine ev_L (L' := [(3, vI 0), (2, vI x1), (0, vR 27), (1, vI x1)]) rfl ?_
  exact ev_sub (L' := [(0, vR 27), (1, vI x1), (2, vI x1), (3, vI 0)]) ⟨rfl, rfl, rfl, rfl, trivial⟩ H
set_option maxRecDepth 20000 in
theorem sX7_slotOf_8 {h : Hp} {Q : Option AV → Hp → Prop} {x1 : Int32} {x2 : Int32} {x3 : Int32} (H : ((((h.1 27 50) ≤ x3) → Q (some (vI (-1))) h) ∧ ((¬ (h.1 27 50) ≤ x3) → (((x1 < 0) → Q (some (vI (-1))) h) ∧ ((¬ x1 < 0) → (vp_in x3 80 ∧ (vp_in (h.1 52 (Int32.toNatClampNeg x3)) 80 ∧ ((((h.1 43 (Int32.toNatClampNeg (h.1 52 (Int32.toNatClampNeg x3)))) ≤ x2) → (vp_in (h.1 52 (Int32.toNatClampNeg x3)) 80 ∧ Ev mX7_slotOf 8 [(0, vR 27), (1, vI x1), (2, vI (x2 - (h.1 43 (Int32.toNatClampNeg (h.1 52 (Int32.toNatClampNeg x3)))))), (3, vI (x3 + 1))] [] h Q)) ∧ ((¬ (h.1 43 (Int32.toNatClampNeg (h.1 52 (Int32.toNatClampNeg x3)))) ≤ x2) → Q (some (vI ((9 * (h.1 52 (Int32.toNatClampNeg x3))) + x2))) h))))))))) : Ev mX7_slotOf 8 [(0, vR 27), (1, vI x1), (2, vI x2), (3, vI x3)] [] h Q := by
  refine ev_iload_n 3 dX7_slotOf_8 rfl (x := x3) rfl ?_
  refine ev_aload_n 0 dX7_slotOf_9 rfl (x := 27) rfl ?_
  refine ev_getI dX7_slotOf_10 flX7_258 rfl rfl ?_
  refine ev_icmp_ge 63 dX7_slotOf_13 (by decide) ⟨fun c1 => ?_, fun c1 => ?_⟩
  · have H := H.1 c1
    refine ev_iconst (-1) dX7_slotOf_63 (by decide) ?_
    exact ev_iret dX7_slotOf_64 rfl H
  · have H := H.2 c1
    refine ev_iload_n 1 dX7_slotOf_16 rfl (x := x1) rfl ?_
    refine ev_if_lt 63 dX7_slotOf_17 (by decide) ⟨fun c2 => ?_, fun c2 => ?_⟩
    · have H := H.1 c2
      refine ev_iconst (-1) dX7_slotOf_63 (by decide) ?_
      exact ev_iret dX7_slotOf_64 rfl H
    · have H := H.2 c2
      refine ev_aload_n 0 dX7_slotOf_20 rfl (x := 27) rfl ?_
      refine ev_getR dX7_slotOf_21 flX7_93 rfl rfl ?_
      refine ev_iload_n 3 dX7_slotOf_24 rfl (x := x3) rfl ?_
      obtain ⟨b3, H⟩ := H
      refine ev_iald dX7_slotOf_25 rfl b3 ?_
      refine ev_istore dX7_slotOf_26 (by decide) ?_
      refine ev_L (L' := [(4, vI (h.1 52 (Int32.toNatClampNeg x3))), (0, vR 27), (1, vI x1), (2, vI x2), (3, vI x3)]) rfl ?_
      refine ev_iload_n 2 dX7_slotOf_28 rfl (x := x2) rfl ?_
      refine ev_aload_n 0 dX7_slotOf_29 rfl (x := 27) rfl ?_
      refine ev_getR dX7_slotOf_30 flX7_66 rfl rfl ?_
      refine ev_iload dX7_slotOf_33 (x := (h.1 52 (Int32.toNatClampNeg x3))) rfl ?_
      obtain ⟨b4, H⟩ := H
      refine ev_iald dX7_slotOf_35 rfl b4 ?_
      refine ev_icmp_ge 47 dX7_slotOf_36 (by decide) ⟨fun c5 => ?_, fun c5 => ?_⟩
      · have H := H.1 c5
        refine ev_iload_n 2 dX7_slotOf_47 rfl (x := x2) rfl ?_
        refine ev_aload_n 0 dX7_slotOf_48 rfl (x := 27) rfl ?_
        refine ev_getR dX7_slotOf_49 flX7_66 rfl rfl ?_
        refine ev_iload dX7_slotOf_52 (x := (h.1 52 (Int32.toNatClampNeg x3))) rfl ?_
        obtain ⟨b6, H⟩ := H
        refine ev_iald dX7_slotOf_54 rfl b6 ?_
        refine ev_isub dX7_slotOf_55 ?_
        refine ev_istore_n 2 dX7_slotOf_56 rfl (by decide) ?_
        refine ev_L (L' := [(2, vI (x2 - (h.1 43 (Int32.toNatClampNeg (h.1 52 (Int32.toNatClampNeg x3)))))), (4, vI (h.1 52 (Int32.toNatClampNeg x3))), (0, vR 27), (1, vI x1), (3, vI x3)]) rfl ?_
        refine ev_iinc (x := x3) (v := 1) dX7_slotOf_57 rfl (by decide) (by decide) ?_
        refine ev_L (L' := [(3, vI (x3 + 1)), (2, vI (x2 - (h.1 43 (Int32.toNatClampNeg (h.1 52 (Int32.toNatClampNeg x3)))))), (4, vI (h.1 52 (Int32.toNatClampNeg x3))), (0, vR 27), (1, vI x1)]) rfl ?_
        refine ev_goto 8 dX7_slotOf_60 (by decide) ?_
        exact ev_sub (L' := [(0, vR 27), (1, vI x1), (2, vI (x2 - (h.1 43 (Int32.toNatClampNeg (h.1 52 (Int32.toNatClampNeg x3)))))), (3, vI (x3 + 1))]) ⟨rfl, rfl, rfl, rfl, trivial⟩ H
      · have H := H.2 c5
        refine ev_bipush 9 dX7_slotOf_39 (by decide) ?_
        refine ev_iload dX7_slotOf_41 (x := (h.1 52 (Int32.toNatClampNeg x3))) rfl ?_
        refine ev_imul dX7_slotOf_43 ?_
        refine ev_iload_n 2 dX7_slotOf_44 rfl (x := x2) rfl ?_
        refine ev_iadd dX7_slotOf_45 ?_
        exact ev_iret dX7_slotOf_46 rfl H
set_option maxRecDepth 20000 in
theorem sX7_entry {h : Hp} {Q : Option AV → Hp → Prop} {x1 : Int32} {x2 : Int32} (H : ((((h.1 27 4) = 0) → EvM mX7_slotOf [vR 27, vI x1] h (fun v h2 => ∃ r3 : Int32, v = some (vI r3) ∧ Ev mX7_entry 16 [(0, vR 27), (2, vI x2)] [vI r3] h2 Q)) ∧ ((¬ (h.1 27 4) = 0) → Ev mX7_entry 16 [(0, vR 27), (2, vI x2)] [vI (-1)] h Q))) : EvM mX7_entry [vR 27, vI x1, vI x2] h Q := by
  refine evM_of (by decide) rfl (Nat.le_of_ble_eq_true rfl) ?_
  show Ev mX7_entry 0 [(0, vR 27), (1, vI x1), (2, vI x2)] [] h Q
  refine ev_aload_n 0 dX7_entry_0 rfl (x := 27) rfl ?_
  refine ev_getI dX7_entry_1 flX7_102 rfl rfl ?_
  refine ev_if_eq 11 dX7_entry_4 (by decide) ⟨fun c1 => ?_, fun c1 => ?_⟩
  · have H := H.1 c1
    refine ev_aload_n 0 dX7_entry_11 rfl (x := 27) rfl ?_
    refine ev_iload_n 1 dX7_entry_12 rfl (x := x1) rfl ?_
    refine ev_callV (As := [vI x1]) (rest := []) dX7_entry_13 mlX7_270 rm_mX7_entry_mX7_slotOf rfl rfl rfl rfl (Nat.le_of_ble_eq_true rfl) H (fun v h2 H => ?_)
    obtain ⟨r3, rfl, H⟩ := H
    show Ev mX7_entry 16 [(0, vR 27), (1, vI x1), (2, vI x2)] [vI r3] h2 Q
    exact ev_sub (L' := [(0, vR 27), (2, vI x2)]) ⟨rfl, rfl, trivial⟩ H
  · have H := H.2 c1
    refine ev_iconst (-1) dX7_entry_7 (by decide) ?_
    refine ev_goto 16 dX7_entry_8 (by decide) ?_
    exact ev_sub (L' := [(0, vR 27), (2, vI x2)]) ⟨rfl, rfl, trivial⟩ H
set_option maxRecDepth 20000 in
theorem sX7_entry_16 {h : Hp} {Q : Option AV → Hp → Prop} {x2 : Int32} {s0 : Int32} (H : ((((h.1 27 4) = 0) → (((¬ s0 = (-1)) → Ev mX7_entry 39 [(0, vR 27), (2, vI x2), (3, vI s0)] [vI 0, vR 27] h Q) ∧ ((s0 = (-1)) → Ev mX7_entry 39 [(0, vR 27), (2, vI x2), (3, vI s0)] [vI 2, vR 27] h Q))) ∧ ((¬ (h.1 27 4) = 0) → Ev mX7_entry 39 [(0, vR 27), (2, vI x2), (3, vI s0)] [vI 1, vR 27] h Q))) : Ev mX7_entry 16 [(0, vR 27), (2, vI x2)] [vI s0] h Q := by
  refine ev_istore_n 3 dX7_entry_16 rfl (by decide) ?_
  refine ev_L (L' := [(3, vI s0), (0, vR 27), (2, vI x2)]) rfl ?_
  refine ev_aload_n 0 dX7_entry_17 rfl (x := 27) rfl ?_
  refine ev_aload_n 0 dX7_entry_18 rfl (x := 27) rfl ?_
  refine ev_getI dX7_entry_19 flX7_102 rfl rfl ?_
  refine ev_if_eq 29 dX7_entry_22 (by decide) ⟨fun c1 => ?_, fun c1 => ?_⟩
  · have H := H.1 c1
    refine ev_iload_n 3 dX7_entry_29 rfl (x := s0) rfl ?_
    refine ev_iconst (-1) dX7_entry_30 (by decide) ?_
    refine ev_icmp_ne 38 dX7_entry_31 (by decide) ⟨fun c2 => ?_, fun c2 => ?_⟩
    · have H := H.1 c2
      refine ev_iconst 0 dX7_entry_38 (by decide) ?_
      exact ev_sub (L' := [(0, vR 27), (2, vI x2), (3, vI s0)]) ⟨rfl, rfl, rfl, trivial⟩ H
    · have H := H.2 c2
      refine ev_iconst 2 dX7_entry_34 (by decide) ?_
      refine ev_goto 39 dX7_entry_35 (by decide) ?_
      exact ev_sub (L' := [(0, vR 27), (2, vI x2), (3, vI s0)]) ⟨rfl, rfl, rfl, trivial⟩ H
  · have H := H.2 c1
    refine ev_iconst 1 dX7_entry_25 (by decide) ?_
    refine ev_goto 39 dX7_entry_26 (by decide) ?_
    exact ev_sub (L' := [(0, vR 27), (2, vI x2), (3, vI s0)]) ⟨rfl, rfl, rfl, trivial⟩ H
set_option maxRecDepth 20000 in
theorem sX7_entry_39 {h : Hp} {Q : Option AV → Hp → Prop} {x2 : Int32} {x3 : Int32} {s0 : Int32} (H : (∀ h1 : Hp, h1 = sI h 27 (upd (h.1 27) 0 s0) → ((((h1.1 27 0) ≤ 0) → (((x2 = 0) → (vp_in x3 720 ∧ Q (some (vI (h1.1 44 (Int32.toNatClampNeg x3)))) h1)) ∧ ((¬ x2 = 0) → (vp_in x3 720 ∧ Q (some (vI (h1.1 45 (Int32.toNatClampNeg x3)))) h1)))) ∧ ((¬ (h1.1 27 0) ≤ 0) → Q (some (vI 0)) h1)))) : Ev mX7_entry 39 [(0, vR 27), (2, vI x2), (3, vI x3)] [vI s0, vR 27] h Q := by
  refine ev_putI dX7_entry_39 fpX7_96 rfl rfl   ?_
  obtain ⟨h1, eh1⟩ : ∃ z : Hp, z = sI h 27 (upd (h.1 27) 0 s0) := ⟨_, rfl⟩
  rw [← eh1]
  have H := H h1 eh1
  refine ev_aload_n 0 dX7_entry_42 rfl (x := 27) rfl ?_
  refine ev_getI dX7_entry_43 flX7_96 rfl rfl ?_
  refine ev_if_le 53 dX7_entry_46 (by decide) ⟨fun c2 => ?_, fun c2 => ?_⟩
  · have H := H.1 c2
    refine ev_iload_n 2 dX7_entry_53 rfl (x := x2) rfl ?_
    refine ev_if_eq 66 dX7_entry_54 (by decide) ⟨fun c3 => ?_, fun c3 => ?_⟩
    · have H := H.1 c3
      refine ev_aload_n 0 dX7_entry_66 rfl (x := 27) rfl ?_
      refine ev_getR dX7_entry_67 flX7_69 rfl rfl ?_
      refine ev_iload_n 3 dX7_entry_70 rfl (x := x3) rfl ?_
      obtain ⟨b4, H⟩ := H
      refine ev_iald dX7_entry_71 rfl b4 ?_
      exact ev_iret dX7_entry_72 rfl H
    · have H := H.2 c3
      refine ev_aload_n 0 dX7_entry_57 rfl (x := 27) rfl ?_
      refine ev_getR dX7_entry_58 flX7_72 rfl rfl ?_
      refine ev_iload_n 3 dX7_entry_61 rfl (x := x3) rfl ?_
      obtain ⟨b5, H⟩ := H
      refine ev_iald dX7_entry_62 rfl b5 ?_
      refine ev_goto 72 dX7_entry_63 (by decide) ?_
      exact ev_iret dX7_entry_72 rfl H
  · have H := H.2 c2
    refine ev_iconst 0 dX7_entry_49 (by decide) ?_
    refine ev_goto 72 dX7_entry_50 (by decide) ?_
    exact ev_iret dX7_entry_72 rfl H
set_option maxRecDepth 20000 in
theorem sX7_leaf {h : Hp} {Q : Option AV → Hp → Prop} {x1 : Int32} (H : (∀ h1 : Hp, h1 = sI h 27 (upd (h.1 27) 0 0) → ((((h1.1 27 4) = 0) → EvM mX7_slotOf [vR 27, vI x1] h1 (fun v h3 => ∃ r4 : Int32, v = some (vI r4) ∧ (((¬ r4 = (-1)) → (vp_in (r4 / 9) 80 ∧ Q (some (vI (h3.1 43 (Int32.toNatClampNeg (r4 / 9))))) h3)) ∧ ((r4 = (-1)) → Q (some (vI (-101))) h3)))) ∧ ((¬ (h1.1 27 4) = 0) → Q (some (vI (-100))) h1)))) : EvM mX7_leaf [vR 27, vI x1] h Q := by
  refine evM_of (by decide) rfl (Nat.le_of_ble_eq_true rfl) ?_
  show Ev mX7_leaf 0 [(0, vR 27), (1, vI x1)] [] h Q
  refine ev_aload_n 0 dX7_leaf_0 rfl (x := 27) rfl ?_
  refine ev_iconst 0 dX7_leaf_1 (by decide) ?_
  refine ev_putI dX7_leaf_2 fpX7_96 rfl rfl   ?_
  obtain ⟨h1, eh1⟩ : ∃ z : Hp, z = sI h 27 (upd (h.1 27) 0 0) := ⟨_, rfl⟩
  rw [← eh1]
  have H := H h1 eh1
  refine ev_aload_n 0 dX7_leaf_5 rfl (x := 27) rfl ?_
  refine ev_getI dX7_leaf_6 flX7_102 rfl rfl ?_
  refine ev_if_eq 15 dX7_leaf_9 (by decide) ⟨fun c2 => ?_, fun c2 => ?_⟩
  · have H := H.1 c2
    refine ev_aload_n 0 dX7_leaf_15 rfl (x := 27) rfl ?_
    refine ev_iload_n 1 dX7_leaf_16 rfl (x := x1) rfl ?_
    refine ev_callV (As := [vI x1]) (rest := []) dX7_leaf_17 mlX7_270 rm_mX7_leaf_mX7_slotOf rfl rfl rfl rfl (Nat.le_of_ble_eq_true rfl) H (fun v h3 H => ?_)
    obtain ⟨r4, rfl, H⟩ := H
    show Ev mX7_leaf 20 [(0, vR 27), (1, vI x1)] [vI r4] h3 Q
    refine ev_istore_n 2 dX7_leaf_20 rfl (by decide) ?_
    refine ev_L (L' := [(2, vI r4), (0, vR 27), (1, vI x1)]) rfl ?_
    refine ev_iload_n 2 dX7_leaf_21 rfl (x := r4) rfl ?_
    refine ev_iconst (-1) dX7_leaf_22 (by decide) ?_
    refine ev_icmp_ne 31 dX7_leaf_23 (by decide) ⟨fun c5 => ?_, fun c5 => ?_⟩
    · have H := H.1 c5
      refine ev_aload_n 0 dX7_leaf_31 rfl (x := 27) rfl ?_
      refine ev_getR dX7_leaf_32 flX7_66 rfl rfl ?_
      refine ev_iload_n 2 dX7_leaf_35 rfl (x := r4) rfl ?_
      refine ev_bipush 9 dX7_leaf_36 (by decide) ?_
      refine ev_idiv dX7_leaf_38 (by decide) ?_
      obtain ⟨b6, H⟩ := H
      refine ev_iald dX7_leaf_39 rfl b6 ?_
      exact ev_iret dX7_leaf_40 rfl H
    · have H := H.2 c5
      refine ev_bipush (-101) dX7_leaf_26 (by decide) ?_
      refine ev_goto 40 dX7_leaf_28 (by decide) ?_
      exact ev_iret dX7_leaf_40 rfl H
  · have H := H.2 c2
    refine ev_bipush (-100) dX7_leaf_12 (by decide) ?_
    exact ev_iret dX7_leaf_14 rfl H
set_option maxRecDepth 20000 in
theorem sX7_ask {h : Hp} {Q : Option AV → Hp → Prop} {x1 : Int32} {x2 : Int32} (H : (∀ h1 : Hp, h1 = sI h 27 (upd (h.1 27) 0 0) → ((((h1.1 27 4) = 0) → (∀ h3 : Hp, h3 = sI h1 27 (upd (h1.1 27) 42 0) → ((((h3.1 27 11) = 5) → EvM mX7_descend [vR 27, vI x1, vI 0] h3 (fun v h5 => v = none ∧ (∀ h6 : Hp, h6 = sI h5 27 (upd (h5.1 27) 44 ((h5.1 27 45) + 1)) → (vp_in (h6.1 27 45) 16 ∧ EvM mX7_goThrough [vR 27] h6 (fun v h8 => v = none ∧ Ev mX7_ask 133 [(0, vR 27), (1, vI x1), (2, vI x2), (3, vI (h6.1 48 (Int32.toNatClampNeg (h6.1 27 45)))), (4, vI 0), (5, vI 0)] [] h8 Q))))) ∧ ((¬ (h3.1 27 11) = 5) → (∀ h9 : Hp, h9 = sI h3 27 (upd (h3.1 27) 44 20) → Ev mX7_ask 36 [(0, vR 27), (1, vI x1), (2, vI x2), (3, vI 0)] [] h9 Q))))) ∧ ((¬ (h1.1 27 4) = 0) → Q (some (vI (-100))) h1)))) : EvM mX7_ask [vR 27, vI x1, vI x2] h Q := by
  refine evM_of (by decide) rfl (Nat.le_of_ble_eq_true rfl) ?_
  show Ev mX7_ask 0 [(0, vR 27), (1, vI x1), (2, vI x2)] [] h Q
  refine ev_aload_n 0 dX7_ask_0 rfl (x := 27) rfl ?_
  refine ev_iconst 0 dX7_ask_1 (by decide) ?_
  refine ev_putI dX7_ask_2 fpX7_96 rfl rfl   ?_
  obtain ⟨h1, eh1⟩ : ∃ z : Hp, z = sI h 27 (upd (h.1 27) 0 0) := ⟨_, rfl⟩
  rw [← eh1]
  have H := H h1 eh1
  refine ev_aload_n 0 dX7_ask_5 rfl (x := 27) rfl ?_
  refine ev_getI dX7_ask_6 flX7_102 rfl rfl ?_
  refine ev_if_eq 15 dX7_ask_9 (by decide) ⟨fun c2 => ?_, fun c2 => ?_⟩
  · have H := H.1 c2
    refine ev_aload_n 0 dX7_ask_15 rfl (x := 27) rfl ?_
    refine ev_iconst 0 dX7_ask_16 (by decide) ?_
    refine ev_putI dX7_ask_17 fpX7_273 rfl rfl   ?_
    obtain ⟨h3, eh3⟩ : ∃ z : Hp, z = sI h1 27 (upd (h1.1 27) 42 0) := ⟨_, rfl⟩
    rw [← eh3]
    have H := H h3 eh3
    refine ev_aload_n 0 dX7_ask_20 rfl (x := 27) rfl ?_
    refine ev_getI dX7_ask_21 flX7_106 rfl rfl ?_
    refine ev_iconst 5 dX7_ask_24 (by decide) ?_
    refine ev_icmp_eq 97 dX7_ask_25 (by decide) ⟨fun c4 => ?_, fun c4 => ?_⟩
    · have H := H.1 c4
      refine ev_aload_n 0 dX7_ask_97 rfl (x := 27) rfl ?_
      refine ev_iload_n 1 dX7_ask_98 rfl (x := x1) rfl ?_
      refine ev_iconst 0 dX7_ask_99 (by decide) ?_
      refine ev_callV (As := [vI x1, vI 0]) (rest := []) dX7_ask_100 mlX7_175 rm_mX7_ask_mX7_descend rfl rfl rfl rfl (Nat.le_of_ble_eq_true rfl) H (fun v h5 H => ?_)
      obtain ⟨rfl, H⟩ := H
      show Ev mX7_ask 103 [(0, vR 27), (1, vI x1), (2, vI x2)] [] h5 Q
      refine ev_aload_n 0 dX7_ask_103 rfl (x := 27) rfl ?_
      refine ev_aload_n 0 dX7_ask_104 rfl (x := 27) rfl ?_
      refine ev_getI dX7_ask_105 flX7_157 rfl rfl ?_
      refine ev_iconst 1 dX7_ask_108 (by decide) ?_
      refine ev_iadd dX7_ask_109 ?_
      refine ev_putI dX7_ask_110 fpX7_276 rfl rfl   ?_
      obtain ⟨h6, eh6⟩ : ∃ z : Hp, z = sI h5 27 (upd (h5.1 27) 44 ((h5.1 27 45) + 1)) := ⟨_, rfl⟩
      rw [← eh6]
      have H := H h6 eh6
      refine ev_aload_n 0 dX7_ask_113 rfl (x := 27) rfl ?_
      refine ev_getR dX7_ask_114 flX7_81 rfl rfl ?_
      refine ev_aload_n 0 dX7_ask_117 rfl (x := 27) rfl ?_
      refine ev_getI dX7_ask_118 flX7_157 rfl rfl ?_
      obtain ⟨b7, H⟩ := H
      refine ev_iald dX7_ask_121 rfl b7 ?_
      refine ev_istore_n 3 dX7_ask_122 rfl (by decide) ?_
      refine ev_L (L' := [(3, vI (h6.1 48 (Int32.toNatClampNeg (h6.1 27 45)))), (0, vR 27), (1, vI x1), (2, vI x2)]) rfl ?_
      refine ev_iconst 0 dX7_ask_123 (by decide) ?_
      refine ev_istore dX7_ask_124 (by decide) ?_
      refine ev_L (L' := [(4, vI 0), (3, vI (h6.1 48 (Int32.toNatClampNeg (h6.1 27 45)))), (0, vR 27), (1, vI x1), (2, vI x2)]) rfl ?_
      refine ev_aload_n 0 dX7_ask_126 rfl (x := 27) rfl ?_
      refine ev_callV (As := []) (rest := []) dX7_ask_127 mlX7_261 rm_mX7_ask_mX7_goThrough rfl rfl rfl rfl (Nat.le_of_ble_eq_true rfl) H (fun v h8 H => ?_)
      obtain ⟨rfl, H⟩ := H
      show Ev mX7_ask 130 [(4, vI 0), (3, vI (h6.1 48 (Int32.toNatClampNeg (h6.1 27 45)))), (0, vR 27), (1, vI x1), (2, vI x2)] [] h8 Q
      refine ev_iconst 0 dX7_ask_130 (by decide) ?_
      refine ev_istore dX7_ask_131 (by decide) ?_
      refine ev_L (L' := [(5, vI 0), (4, vI 0), (3, vI (h6.1 48 (Int32.toNatClampNeg (h6.1 27 45)))), (0, vR 27), (1, vI x1), (2, vI x2)]) rfl ?_
      exact ev_sub (L' := [(0, vR 27), (1, vI x1), (2, vI x2), (3, vI (h6.1 48 (Int32.toNatClampNeg (h6.1 27 45)))), (4, vI 0), (5, vI 0)]) ⟨rfl, rfl, rfl, rfl, rfl, rfl, trivial⟩ H
    · have H := H.2 c4
      refine ev_aload_n 0 dX7_ask_28 rfl (x := 27) rfl ?_
      refine ev_bipush 20 dX7_ask_29 (by decide) ?_
      refine ev_putI dX7_ask_31 fpX7_276 rfl rfl   ?_
      obtain ⟨h9, eh9⟩ : ∃ z : Hp, z = sI h3 27 (upd (h3.1 27) 44 20) := ⟨_, rfl⟩
      rw [← eh9]
      have H := H h9 eh9
      refine ev_iconst 0 dX7_ask_34 (by decide) ?_
      refine ev_istore_n 3 dX7_ask_35 rfl (by decide) ?_
      refine ev_L (L' := [(3, vI 0), (0, vR 27), (1, vI x1), (2, vI x2)]) rfl ?_
      exact ev_sub (L' := [(0, vR 27), (1, vI x1), (2, vI x2), (3, vI 0)]) ⟨rfl, rfl, rfl, rfl, trivial⟩ H
  · have H := H.2 c2
    refine ev_bipush (-100) dX7_ask_12 (by decide) ?_
    exact ev_iret dX7_ask_14 rfl H
set_option maxRecDepth 20000 in
theorem sX7_ask_133 {h : Hp} {Q : Option AV → Hp → Prop} {x1 : Int32} {x2 : Int32} {x3 : Int32} {x4 : Int32} {x5 : Int32} (H : ((((h.1 27 50) ≤ x5) → Q (some (vI (h.1 27 42))) h) ∧ ((¬ (h.1 27 50) ≤ x5) → (vp_in x5 80 ∧ (((x4 = 0) → Ev mX7_ask 190 [(0, vR 27), (1, vI x1), (2, vI x2), (3, vI x3), (4, vI x4), (5, vI x5), (6, vI (h.1 52 (Int32.toNatClampNeg x5)))] [vR 27] h Q) ∧ ((¬ x4 = 0) → (vp_in (h.1 52 (Int32.toNatClampNeg x5)) 80 ∧ ((((h.1 43 (Int32.toNatClampNeg (h.1 52 (Int32.toNatClampNeg x5)))) ≤ 0) → Ev mX7_ask 190 [(0, vR 27), (1, vI x1), (2, vI x2), (3, vI x3), (4, vI x4), (5, vI x5), (6, vI (h.1 52 (Int32.toNatClampNeg x5)))] [vR 27] h Q) ∧ ((¬ (h.1 43 (Int32.toNatClampNeg (h.1 52 (Int32.toNatClampNeg x5)))) ≤ 0) → (vp_in (9 * (h.1 52 (Int32.toNatClampNeg x5))) 720 ∧ (((x2 < (h.1 44 (Int32.toNatClampNeg (9 * (h.1 52 (Int32.toNatClampNeg x5)))))) → Ev mX7_ask 190 [(0, vR 27), (1, vI x1), (2, vI x2), (3, vI x3), (4, vI x4), (5, vI x5), (6, vI (h.1 52 (Int32.toNatClampNeg x5)))] [vR 27] h Q) ∧ ((¬ x2 < (h.1 44 (Int32.toNatClampNeg (9 * (h.1 52 (Int32.toNatClampNeg x5)))))) → Ev mX7_ask 194 [(0, vR 27), (1, vI x1), (2, vI x2), (3, vI x3), (4, vI x4), (5, vI x5), (6, vI (h.1 52 (Int32.toNatClampNeg x5)))] [vI ((h.1 27 44) + 1), vR 27] h Q)))))))))))) : Ev mX7_ask 133 [(0, vR 27), (1, vI x1), (2, vI x2), (3, vI x3), (4, vI x4), (5, vI x5)] [] h Q := by
  refine ev_iload dX7_ask_133 (x := x5) rfl ?_
  refine ev_aload_n 0 dX7_ask_135 rfl (x := 27) rfl ?_
  refine ev_getI dX7_ask_136 flX7_258 rfl rfl ?_
  refine ev_icmp_ge 293 dX7_ask_139 (by decide) ⟨fun c1 => ?_, fun c1 => ?_⟩
  · have H := H.1 c1
    refine ev_aload_n 0 dX7_ask_293 rfl (x := 27) rfl ?_
    refine ev_getI dX7_ask_294 flX7_273 rfl rfl ?_
    exact ev_iret dX7_ask_297 rfl H
  · have H := H.2 c1
    refine ev_aload_n 0 dX7_ask_142 rfl (x := 27) rfl ?_
    refine ev_getR dX7_ask_143 flX7_93 rfl rfl ?_
    refine ev_iload dX7_ask_146 (x := x5) rfl ?_
    obtain ⟨b2, H⟩ := H
    refine ev_iald dX7_ask_148 rfl b2 ?_
    refine ev_istore dX7_ask_149 (by decide) ?_
    refine ev_L (L' := [(6, vI (h.1 52 (Int32.toNatClampNeg x5))), (0, vR 27), (1, vI x1), (2, vI x2), (3, vI x3), (4, vI x4), (5, vI x5)]) rfl ?_
    refine ev_aload_n 0 dX7_ask_151 rfl (x := 27) rfl ?_
    refine ev_iload dX7_ask_152 (x := x4) rfl ?_
    refine ev_if_eq 190 dX7_ask_154 (by decide) ⟨fun c3 => ?_, fun c3 => ?_⟩
    · have H := H.1 c3
      exact ev_sub (L' := [(0, vR 27), (1, vI x1), (2, vI x2), (3, vI x3), (4, vI x4), (5, vI x5), (6, vI (h.1 52 (Int32.toNatClampNeg x5)))]) ⟨rfl, rfl, rfl, rfl, rfl, rfl, rfl, trivial⟩ H
    · have H := H.2 c3
      refine ev_aload_n 0 dX7_ask_157 rfl (x := 27) rfl ?_
      refine ev_getR dX7_ask_158 flX7_66 rfl rfl ?_
      refine ev_iload dX7_ask_161 (x := (h.1 52 (Int32.toNatClampNeg x5))) rfl ?_
      obtain ⟨b4, H⟩ := H
      refine ev_iald dX7_ask_163 rfl b4 ?_
      refine ev_if_le 190 dX7_ask_164 (by decide) ⟨fun c5 => ?_, fun c5 => ?_⟩
      · have H := H.1 c5
        exact ev_sub (L' := [(0, vR 27), (1, vI x1), (2, vI x2), (3, vI x3), (4, vI x4), (5, vI x5), (6, vI (h.1 52 (Int32.toNatClampNeg x5)))]) ⟨rfl, rfl, rfl, rfl, rfl, rfl, rfl, trivial⟩ H
      · have H := H.2 c5
        refine ev_aload_n 0 dX7_ask_167 rfl (x := 27) rfl ?_
        refine ev_getR dX7_ask_168 flX7_69 rfl rfl ?_
        refine ev_bipush 9 dX7_ask_171 (by decide) ?_
        refine ev_iload dX7_ask_173 (x := (h.1 52 (Int32.toNatClampNeg x5))) rfl ?_
        refine ev_imul dX7_ask_175 ?_
        obtain ⟨b6, H⟩ := H
        refine ev_iald dX7_ask_176 rfl b6 ?_
        refine ev_iload_n 2 dX7_ask_177 rfl (x := x2) rfl ?_
        refine ev_icmp_gt 190 dX7_ask_178 (by decide) ⟨fun c7 => ?_, fun c7 => ?_⟩
        · have H := H.1 c7
          exact ev_sub (L' := [(0, vR 27), (1, vI x1), (2, vI x2), (3, vI x3), (4, vI x4), (5, vI x5), (6, vI (h.1 52 (Int32.toNatClampNeg x5)))]) ⟨rfl, rfl, rfl, rfl, rfl, rfl, rfl, trivial⟩ H
        · have H := H.2 c7
          refine ev_aload_n 0 dX7_ask_181 rfl (x := 27) rfl ?_
          refine ev_getI dX7_ask_182 flX7_276 rfl rfl ?_
          refine ev_iconst 1 dX7_ask_185 (by decide) ?_
          refine ev_iadd dX7_ask_186 ?_
          refine ev_goto 194 dX7_ask_187 (by decide) ?_
          exact ev_sub (L' := [(0, vR 27), (1, vI x1), (2, vI x2), (3, vI x3), (4, vI x4), (5, vI x5), (6, vI (h.1 52 (Int32.toNatClampNeg x5)))]) ⟨rfl, rfl, rfl, rfl, rfl, rfl, rfl, trivial⟩ H
set_option maxRecDepth 20000 in
theorem sX7_ask_36 {h : Hp} {Q : Option AV → Hp → Prop} {x1 : Int32} {x2 : Int32} {x3 : Int32} (H : (((240 ≤ x3) → Q (some (vI (h.1 27 42))) h) ∧ ((¬ 240 ≤ x3) → (vp_in x3 240 ∧ ((((h.1 28 (Int32.toNatClampNeg x3)) = 0) → Ev mX7_ask 36 [(0, vR 27), (1, vI x1), (2, vI x2), (3, vI (x3 + 1))] [] h Q) ∧ ((¬ (h.1 28 (Int32.toNatClampNeg x3)) = 0) → (vp_in x3 240 ∧ EvM mX7_in [vI (h.1 29 (Int32.toNatClampNeg x3)), vI x1, vI x2] h (fun v h5 => ∃ r6 : Int32, v = some (vI r6) ∧ (((r6 = 0) → Ev mX7_ask 36 [(0, vR 27), (1, vI x1), (2, vI x2), (3, vI (x3 + 1))] [] h5 Q) ∧ ((¬ r6 = 0) → (vp_in (h5.1 27 42) 240 ∧ (∀ h9 : Hp, h9 = sI h5 47 (upd (h5.1 47) (Int32.toNatClampNeg (h5.1 27 42)) x3) → (∀ h10 : Hp, h10 = sI h9 27 (upd (h9.1 27) 42 ((h9.1 27 42) + 1)) → Ev mX7_ask 36 [(0, vR 27), (1, vI x1), (2, vI x2), (3, vI (x3 + 1))] [] h10 Q))))))))))))) : Ev mX7_ask 36 [(0, vR 27), (1, vI x1), (2, vI x2), (3, vI x3)] [] h Q := by
  refine ev_iload_n 3 dX7_ask_36 rfl (x := x3) rfl ?_
  refine ev_sipush 240 dX7_ask_37 (by decide) ?_
  refine ev_icmp_ge 92 dX7_ask_40 (by decide) ⟨fun c1 => ?_, fun c1 => ?_⟩
  · have H := H.1 c1
    refine ev_aload_n 0 dX7_ask_92 rfl (x := 27) rfl ?_
    refine ev_getI dX7_ask_93 flX7_273 rfl rfl ?_
    exact ev_iret dX7_ask_96 rfl H
  · have H := H.2 c1
    refine ev_aload_n 0 dX7_ask_43 rfl (x := 27) rfl ?_
    refine ev_getR dX7_ask_44 flX7_7 rfl rfl ?_
    refine ev_iload_n 3 dX7_ask_47 rfl (x := x3) rfl ?_
    obtain ⟨b2, H⟩ := H
    refine ev_zald dX7_ask_48 rfl b2 ?_
    refine ev_if_eq 86 dX7_ask_49 (by decide) ⟨fun c3 => ?_, fun c3 => ?_⟩
    · have H := H.1 c3
      refine ev_iinc (x := x3) (v := 1) dX7_ask_86 rfl (by decide) (by decide) ?_
      refine ev_L (L' := [(3, vI (x3 + 1)), (0, vR 27), (1, vI x1), (2, vI x2)]) rfl ?_
      refine ev_goto 36 dX7_ask_89 (by decide) ?_
      exact ev_sub (L' := [(0, vR 27), (1, vI x1), (2, vI x2), (3, vI (x3 + 1))]) ⟨rfl, rfl, rfl, rfl, trivial⟩ H
    · have H := H.2 c3
      refine ev_aload_n 0 dX7_ask_52 rfl (x := 27) rfl ?_
      refine ev_getR dX7_ask_53 flX7_13 rfl rfl ?_
      refine ev_iload_n 3 dX7_ask_56 rfl (x := x3) rfl ?_
      obtain ⟨b4, H⟩ := H
      refine ev_iald dX7_ask_57 rfl b4 ?_
      refine ev_iload_n 1 dX7_ask_58 rfl (x := x1) rfl ?_
      refine ev_iload_n 2 dX7_ask_59 rfl (x := x2) rfl ?_
      refine ev_callS (As := [vI (h.1 29 (Int32.toNatClampNeg x3)), vI x1, vI x2]) (rest := []) dX7_ask_60 mlX7_201 rm_mX7_ask_mX7_in rfl rfl (Nat.le_of_ble_eq_true rfl) H (fun v h5 H => ?_)
      obtain ⟨r6, rfl, H⟩ := H
      show Ev mX7_ask 63 [(0, vR 27), (1, vI x1), (2, vI x2), (3, vI x3)] [vI r6] h5 Q
      refine ev_if_eq 86 dX7_ask_63 (by decide) ⟨fun c7 => ?_, fun c7 => ?_⟩
      · have H := H.1 c7
        refine ev_iinc (x := x3) (v := 1) dX7_ask_86 rfl (by decide) (by decide) ?_
        refine ev_L (L' := [(3, vI (x3 + 1)), (0, vR 27), (1, vI x1), (2, vI x2)]) rfl ?_
        refine ev_goto 36 dX7_ask_89 (by decide) ?_
        exact ev_sub (L' := [(0, vR 27), (1, vI x1), (2, vI x2), (3, vI (x3 + 1))]) ⟨rfl, rfl, rfl, rfl, trivial⟩ H
      · have H := H.2 c7
        refine ev_aload_n 0 dX7_ask_66 rfl (x := 27) rfl ?_
        refine ev_getR dX7_ask_67 flX7_78 rfl rfl ?_
        refine ev_aload_n 0 dX7_ask_70 rfl (x := 27) rfl ?_
        refine ev_getI dX7_ask_71 flX7_273 rfl rfl ?_
        refine ev_iload_n 3 dX7_ask_74 rfl (x := x3) rfl ?_
        obtain ⟨b8, H⟩ := H
        refine ev_iast dX7_ask_75 rfl b8  ?_
        obtain ⟨h9, eh9⟩ : ∃ z : Hp, z = sI h5 47 (upd (h5.1 47) (Int32.toNatClampNeg (h5.1 27 42)) x3) := ⟨_, rfl⟩
        rw [← eh9]
        have H := H h9 eh9
        refine ev_aload_n 0 dX7_ask_76 rfl (x := 27) rfl ?_
        refine ev_dup dX7_ask_77 rfl ?_
        refine ev_getI dX7_ask_78 flX7_273 rfl rfl ?_
        refine ev_iconst 1 dX7_ask_81 (by decide) ?_
        refine ev_iadd dX7_ask_82 ?_
        refine ev_putI dX7_ask_83 fpX7_273 rfl rfl   ?_
        obtain ⟨h10, eh10⟩ : ∃ z : Hp, z = sI h9 27 (upd (h9.1 27) 42 ((h9.1 27 42) + 1)) := ⟨_, rfl⟩
        rw [← eh10]
        have H := H h10 eh10
        refine ev_iinc (x := x3) (v := 1) dX7_ask_86 rfl (by decide) (by decide) ?_
        refine ev_L (L' := [(3, vI (x3 + 1)), (0, vR 27), (1, vI x1), (2, vI x2)]) rfl ?_
        refine ev_goto 36 dX7_ask_89 (by decide) ?_
        exact ev_sub (L' := [(0, vR 27), (1, vI x1), (2, vI x2), (3, vI (x3 + 1))]) ⟨rfl, rfl, rfl, rfl, trivial⟩ H
set_option maxRecDepth 20000 in
theorem sX7_ask_190 {h : Hp} {Q : Option AV → Hp → Prop} {x1 : Int32} {x2 : Int32} {x3 : Int32} {x4 : Int32} {x5 : Int32} {x6 : Int32} (H : Ev mX7_ask 194 [(0, vR 27), (1, vI x1), (2, vI x2), (3, vI x3), (4, vI x4), (5, vI x5), (6, vI x6)] [vI (h.1 27 44), vR 27] h Q) : Ev mX7_ask 190 [(0, vR 27), (1, vI x1), (2, vI x2), (3, vI x3), (4, vI x4), (5, vI x5), (6, vI x6)] [vR 27] h Q := by
  refine ev_aload_n 0 dX7_ask_190 rfl (x := 27) rfl ?_
  refine ev_getI dX7_ask_191 flX7_276 rfl rfl ?_
  exact ev_sub (L' := [(0, vR 27), (1, vI x1), (2, vI x2), (3, vI x3), (4, vI x4), (5, vI x5), (6, vI x6)]) ⟨rfl, rfl, rfl, rfl, rfl, rfl, rfl, trivial⟩ H
set_option maxRecDepth 20000 in
theorem sX7_ask_194 {h : Hp} {Q : Option AV → Hp → Prop} {x1 : Int32} {x2 : Int32} {x3 : Int32} {x4 : Int32} {x5 : Int32} {x6 : Int32} {s0 : Int32} (H : (∀ h1 : Hp, h1 = sI h 27 (upd (h.1 27) 44 s0) → (((¬ x4 = 0) → Ev mX7_ask 208 [(0, vR 27), (1, vI x1), (2, vI x2), (3, vI x3), (5, vI x5), (6, vI x6)] [] h1 Q) ∧ ((x4 = 0) → (((¬ x6 = x3) → Ev mX7_ask 222 [(0, vR 27), (1, vI x1), (2, vI x2), (3, vI x3), (4, vI 0), (5, vI x5), (6, vI x6), (7, vI (9 * x6))] [] h1 Q) ∧ ((x6 = x3) → Ev mX7_ask 208 [(0, vR 27), (1, vI x1), (2, vI x2), (3, vI x3), (5, vI x5), (6, vI x6)] [] h1 Q)))))) : Ev mX7_ask 194 [(0, vR 27), (1, vI x1), (2, vI x2), (3, vI x3), (4, vI x4), (5, vI x5), (6, vI x6)] [vI s0, vR 27] h Q := by
  refine ev_putI dX7_ask_194 fpX7_276 rfl rfl   ?_
  obtain ⟨h1, eh1⟩ : ∃ z : Hp, z = sI h 27 (upd (h.1 27) 44 s0) := ⟨_, rfl⟩
  rw [← eh1]
  have H := H h1 eh1
  refine ev_iload dX7_ask_197 (x := x4) rfl ?_
  refine ev_if_ne 208 dX7_ask_199 (by decide) ⟨fun c2 => ?_, fun c2 => ?_⟩
  · have H := H.1 c2
    exact ev_sub (L' := [(0, vR 27), (1, vI x1), (2, vI x2), (3, vI x3), (5, vI x5), (6, vI x6)]) ⟨rfl, rfl, rfl, rfl, rfl, rfl, trivial⟩ H
  · have H := H.2 c2
    refine ev_iload dX7_ask_202 (x := x6) rfl ?_
    refine ev_iload_n 3 dX7_ask_204 rfl (x := x3) rfl ?_
    refine ev_icmp_ne 212 dX7_ask_205 (by decide) ⟨fun c3 => ?_, fun c3 => ?_⟩
    · have H := H.1 c3
      refine ev_iconst 0 dX7_ask_212 (by decide) ?_
      refine ev_istore dX7_ask_213 (by decide) ?_
      refine ev_L (L' := [(4, vI 0), (0, vR 27), (1, vI x1), (2, vI x2), (3, vI x3), (5, vI x5), (6, vI x6)]) rfl ?_
      refine ev_bipush 9 dX7_ask_215 (by decide) ?_
      refine ev_iload dX7_ask_217 (x := x6) rfl ?_
      refine ev_imul dX7_ask_219 ?_
      refine ev_istore dX7_ask_220 (by decide) ?_
      refine ev_L (L' := [(7, vI (9 * x6)), (4, vI 0), (0, vR 27), (1, vI x1), (2, vI x2), (3, vI x3), (5, vI x5), (6, vI x6)]) rfl ?_
      exact ev_sub (L' := [(0, vR 27), (1, vI x1), (2, vI x2), (3, vI x3), (4, vI 0), (5, vI x5), (6, vI x6), (7, vI (9 * x6))]) ⟨rfl, rfl, rfl, rfl, rfl, rfl, rfl, rfl, trivial⟩ H
    · have H := H.2 c3
      exact ev_sub (L' := [(0, vR 27), (1, vI x1), (2, vI x2), (3, vI x3), (5, vI x5), (6, vI x6)]) ⟨rfl, rfl, rfl, rfl, rfl, rfl, trivial⟩ H
set_option maxRecDepth 20000 in
theorem sX7_ask_208 {h : Hp} {Q : Option AV → Hp → Prop} {x1 : Int32} {x2 : Int32} {x3 : Int32} {x5 : Int32} {x6 : Int32} (H : Ev mX7_ask 222 [(0, vR 27), (1, vI x1), (2, vI x2), (3, vI x3), (4, vI 1), (5, vI x5), (6, vI x6), (7, vI (9 * x6))] [] h Q) : Ev mX7_ask 208 [(0, vR 27), (1, vI x1), (2, vI x2), (3, vI x3), (5, vI x5), (6, vI x6)] [] h Q := by
  refine ev_iconst 1 dX7_ask_208 (by decide) ?_
  refine ev_goto 213 dX7_ask_209 (by decide) ?_
  refine ev_istore dX7_ask_213 (by decide) ?_
  refine ev_L (L' := [(4, vI 1), (0, vR 27), (1, vI x1), (2, vI x2), (3, vI x3), (5, vI x5), (6, vI x6)]) rfl ?_
  refine ev_bipush 9 dX7_ask_215 (by decide) ?_
  refine ev_iload dX7_ask_217 (x := x6) rfl ?_
  refine ev_imul dX7_ask_219 ?_
  refine ev_istore dX7_ask_220 (by decide) ?_
  refine ev_L (L' := [(7, vI (9 * x6)), (4, vI 1), (0, vR 27), (1, vI x1), (2, vI x2), (3, vI x3), (5, vI x5), (6, vI x6)]) rfl ?_
  exact ev_sub (L' := [(0, vR 27), (1, vI x1), (2, vI x2), (3, vI x3), (4, vI 1), (5, vI x5), (6, vI x6), (7, vI (9 * x6))]) ⟨rfl, rfl, rfl, rfl, rfl, rfl, rfl, rfl, trivial⟩ H
set_option maxRecDepth 20000 in
theorem sX7_ask_222 {h : Hp} {Q : Option AV → Hp → Prop} {x1 : Int32} {x2 : Int32} {x3 : Int32} {x4 : Int32} {x5 : Int32} {x6 : Int32} {x7 : Int32} (H : (vp_in x6 80 ∧ (((((9 * x6) + (h.1 43 (Int32.toNatClampNeg x6))) ≤ x7) → Ev mX7_ask 133 [(0, vR 27), (1, vI x1), (2, vI x2), (3, vI x3), (4, vI x4), (5, vI (x5 + 1))] [] h Q) ∧ ((¬ ((9 * x6) + (h.1 43 (Int32.toNatClampNeg x6))) ≤ x7) → (vp_in x7 720 ∧ EvM mX7_in [vI (h.1 44 (Int32.toNatClampNeg x7)), vI x1, vI x2] h (fun v h4 => ∃ r5 : Int32, v = some (vI r5) ∧ (((r5 = 0) → Ev mX7_ask 222 [(0, vR 27), (1, vI x1), (2, vI x2), (3, vI x3), (4, vI x4), (5, vI x5), (6, vI x6), (7, vI (x7 + 1))] [] h4 Q) ∧ ((¬ r5 = 0) → (vp_in x7 720 ∧ (vp_in (h4.1 27 42) 240 ∧ (∀ h9 : Hp, h9 = sI h4 47 (upd (h4.1 47) (Int32.toNatClampNeg (h4.1 27 42)) (h4.1 45 (Int32.toNatClampNeg x7))) → (∀ h10 : Hp, h10 = sI h9 27 (upd (h9.1 27) 42 ((h9.1 27 42) + 1)) → Ev mX7_ask 222 [(0, vR 27), (1, vI x1), (2, vI x2), (3, vI x3), (4, vI x4), (5, vI x5), (6, vI x6), (7, vI (x7 + 1))] [] h10 Q)))))))))))) : Ev mX7_ask 222 [(0, vR 27), (1, vI x1), (2, vI x2), (3, vI x3), (4, vI x4), (5, vI x5), (6, vI x6), (7, vI x7)] [] h Q := by
  refine ev_iload dX7_ask_222 (x := x7) rfl ?_
  refine ev_bipush 9 dX7_ask_224 (by decide) ?_
  refine ev_iload dX7_ask_226 (x := x6) rfl ?_
  refine ev_imul dX7_ask_228 ?_
  refine ev_aload_n 0 dX7_ask_229 rfl (x := 27) rfl ?_
  refine ev_getR dX7_ask_230 flX7_66 rfl rfl ?_
  refine ev_iload dX7_ask_233 (x := x6) rfl ?_
  obtain ⟨b1, H⟩ := H
  refine ev_iald dX7_ask_235 rfl b1 ?_
  refine ev_iadd dX7_ask_236 ?_
  refine ev_icmp_ge 287 dX7_ask_237 (by decide) ⟨fun c2 => ?_, fun c2 => ?_⟩
  · have H := H.1 c2
    refine ev_iinc (x := x5) (v := 1) dX7_ask_287 rfl (by decide) (by decide) ?_
    refine ev_L (L' := [(5, vI (x5 + 1)), (0, vR 27), (1, vI x1), (2, vI x2), (3, vI x3), (4, vI x4), (6, vI x6), (7, vI x7)]) rfl ?_
    refine ev_goto 133 dX7_ask_290 (by decide) ?_
    exact ev_sub (L' := [(0, vR 27), (1, vI x1), (2, vI x2), (3, vI x3), (4, vI x4), (5, vI (x5 + 1))]) ⟨rfl, rfl, rfl, rfl, rfl, rfl, trivial⟩ H
  · have H := H.2 c2
    refine ev_aload_n 0 dX7_ask_240 rfl (x := 27) rfl ?_
    refine ev_getR dX7_ask_241 flX7_69 rfl rfl ?_
    refine ev_iload dX7_ask_244 (x := x7) rfl ?_
    obtain ⟨b3, H⟩ := H
    refine ev_iald dX7_ask_246 rfl b3 ?_
    refine ev_iload_n 1 dX7_ask_247 rfl (x := x1) rfl ?_
    refine ev_iload_n 2 dX7_ask_248 rfl (x := x2) rfl ?_
    refine ev_callS (As := [vI (h.1 44 (Int32.toNatClampNeg x7)), vI x1, vI x2]) (rest := []) dX7_ask_249 mlX7_201 rm_mX7_ask_mX7_in rfl rfl (Nat.le_of_ble_eq_true rfl) H (fun v h4 H => ?_)
    obtain ⟨r5, rfl, H⟩ := H
    show Ev mX7_ask 252 [(0, vR 27), (1, vI x1), (2, vI x2), (3, vI x3), (4, vI x4), (5, vI x5), (6, vI x6), (7, vI x7)] [vI r5] h4 Q
    refine ev_if_eq 281 dX7_ask_252 (by decide) ⟨fun c6 => ?_, fun c6 => ?_⟩
    · have H := H.1 c6
      refine ev_iinc (x := x7) (v := 1) dX7_ask_281 rfl (by decide) (by decide) ?_
      refine ev_L (L' := [(7, vI (x7 + 1)), (0, vR 27), (1, vI x1), (2, vI x2), (3, vI x3), (4, vI x4), (5, vI x5), (6, vI x6)]) rfl ?_
      refine ev_goto 222 dX7_ask_284 (by decide) ?_
      exact ev_sub (L' := [(0, vR 27), (1, vI x1), (2, vI x2), (3, vI x3), (4, vI x4), (5, vI x5), (6, vI x6), (7, vI (x7 + 1))]) ⟨rfl, rfl, rfl, rfl, rfl, rfl, rfl, rfl, trivial⟩ H
    · have H := H.2 c6
      refine ev_aload_n 0 dX7_ask_255 rfl (x := 27) rfl ?_
      refine ev_getR dX7_ask_256 flX7_78 rfl rfl ?_
      refine ev_aload_n 0 dX7_ask_259 rfl (x := 27) rfl ?_
      refine ev_getI dX7_ask_260 flX7_273 rfl rfl ?_
      refine ev_aload_n 0 dX7_ask_263 rfl (x := 27) rfl ?_
      refine ev_getR dX7_ask_264 flX7_72 rfl rfl ?_
      refine ev_iload dX7_ask_267 (x := x7) rfl ?_
      obtain ⟨b7, H⟩ := H
      refine ev_iald dX7_ask_269 rfl b7 ?_
      obtain ⟨b8, H⟩ := H
      refine ev_iast dX7_ask_270 rfl b8  ?_
      obtain ⟨h9, eh9⟩ : ∃ z : Hp, z = sI h4 47 (upd (h4.1 47) (Int32.toNatClampNeg (h4.1 27 42)) (h4.1 45 (Int32.toNatClampNeg x7))) := ⟨_, rfl⟩
      rw [← eh9]
      have H := H h9 eh9
      refine ev_aload_n 0 dX7_ask_271 rfl (x := 27) rfl ?_
      refine ev_dup dX7_ask_272 rfl ?_
      refine ev_getI dX7_ask_273 flX7_273 rfl rfl ?_
      refine ev_iconst 1 dX7_ask_276 (by decide) ?_
      refine ev_iadd dX7_ask_277 ?_
      refine ev_putI dX7_ask_278 fpX7_273 rfl rfl   ?_
      obtain ⟨h10, eh10⟩ : ∃ z : Hp, z = sI h9 27 (upd (h9.1 27) 42 ((h9.1 27 42) + 1)) := ⟨_, rfl⟩
      rw [← eh10]
      have H := H h10 eh10
      refine ev_iinc (x := x7) (v := 1) dX7_ask_281 rfl (by decide) (by decide) ?_
      refine ev_L (L' := [(7, vI (x7 + 1)), (0, vR 27), (1, vI x1), (2, vI x2), (3, vI x3), (4, vI x4), (5, vI x5), (6, vI x6)]) rfl ?_
      refine ev_goto 222 dX7_ask_284 (by decide) ?_
      exact ev_sub (L' := [(0, vR 27), (1, vI x1), (2, vI x2), (3, vI x3), (4, vI x4), (5, vI x5), (6, vI x6), (7, vI (x7 + 1))]) ⟨rfl, rfl, rfl, rfl, rfl, rfl, rfl, rfl, trivial⟩ H
set_option maxRecDepth 20000 in
theorem sX7_answer {h : Hp} {Q : Option AV → Hp → Prop} {x1 : Int32} (H : (∀ h1 : Hp, h1 = sI h 27 (upd (h.1 27) 0 0) → EvM mX7_in [vI x1, vI 0, vI ((h1.1 27 42) - 1)] h1 (fun v h2 => ∃ r3 : Int32, v = some (vI r3) ∧ (((r3 = 0) → Q (some (vI (-1))) h2) ∧ ((¬ r3 = 0) → (vp_in x1 240 ∧ Q (some (vI (h2.1 47 (Int32.toNatClampNeg x1)))) h2)))))) : EvM mX7_answer [vR 27, vI x1] h Q := by
  refine evM_of (by decide) rfl (Nat.le_of_ble_eq_true rfl) ?_
  show Ev mX7_answer 0 [(0, vR 27), (1, vI x1)] [] h Q
  refine ev_aload_n 0 dX7_answer_0 rfl (x := 27) rfl ?_
  refine ev_iconst 0 dX7_answer_1 (by decide) ?_
  refine ev_putI dX7_answer_2 fpX7_96 rfl rfl   ?_
  obtain ⟨h1, eh1⟩ : ∃ z : Hp, z = sI h 27 (upd (h.1 27) 0 0) := ⟨_, rfl⟩
  rw [← eh1]
  have H := H h1 eh1
  refine ev_iload_n 1 dX7_answer_5 rfl (x := x1) rfl ?_
  refine ev_iconst 0 dX7_answer_6 (by decide) ?_
  refine ev_aload_n 0 dX7_answer_7 rfl (x := 27) rfl ?_
  refine ev_getI dX7_answer_8 flX7_273 rfl rfl ?_
  refine ev_iconst 1 dX7_answer_11 (by decide) ?_
  refine ev_isub dX7_answer_12 ?_
  refine ev_callS (As := [vI x1, vI 0, vI ((h1.1 27 42) - 1)]) (rest := []) dX7_answer_13 mlX7_201 rm_mX7_answer_mX7_in rfl rfl (Nat.le_of_ble_eq_true rfl) H (fun v h2 H => ?_)
  obtain ⟨r3, rfl, H⟩ := H
  show Ev mX7_answer 16 [(0, vR 27), (1, vI x1)] [vI r3] h2 Q
  refine ev_if_eq 28 dX7_answer_16 (by decide) ⟨fun c4 => ?_, fun c4 => ?_⟩
  · have H := H.1 c4
    refine ev_iconst (-1) dX7_answer_28 (by decide) ?_
    exact ev_iret dX7_answer_29 rfl H
  · have H := H.2 c4
    refine ev_aload_n 0 dX7_answer_19 rfl (x := 27) rfl ?_
    refine ev_getR dX7_answer_20 flX7_78 rfl rfl ?_
    refine ev_iload_n 1 dX7_answer_23 rfl (x := x1) rfl ?_
    obtain ⟨b5, H⟩ := H
    refine ev_iald dX7_answer_24 rfl b5 ?_
    refine ev_goto 29 dX7_answer_25 (by decide) ?_
    exact ev_iret dX7_answer_29 rfl H
set_option maxRecDepth 20000 in
theorem sX7_cost {h : Hp} {Q : Option AV → Hp → Prop} (H : (∀ h1 : Hp, h1 = sI h 27 (upd (h.1 27) 0 0) → Q (some (vI (h1.1 27 44))) h1)) : EvM mX7_cost [vR 27] h Q := by
  refine evM_of (by decide) rfl (Nat.le_of_ble_eq_true rfl) ?_
  show Ev mX7_cost 0 [(0, vR 27)] [] h Q
  refine ev_aload_n 0 dX7_cost_0 rfl (x := 27) rfl ?_
  refine ev_iconst 0 dX7_cost_1 (by decide) ?_
  refine ev_putI dX7_cost_2 fpX7_96 rfl rfl   ?_
  obtain ⟨h1, eh1⟩ : ∃ z : Hp, z = sI h 27 (upd (h.1 27) 0 0) := ⟨_, rfl⟩
  rw [← eh1]
  have H := H h1 eh1
  refine ev_aload_n 0 dX7_cost_5 rfl (x := 27) rfl ?_
  refine ev_getI dX7_cost_6 flX7_276 rfl rfl ?_
  exact ev_iret dX7_cost_9 rfl H
set_option maxRecDepth 20000 in
theorem sX7_blocks {h : Hp} {Q : Option AV → Hp → Prop} {x1 : Int32} (H : (∀ h1 : Hp, h1 = sI h 27 (upd (h.1 27) 0 0) → (((¬ x1 = 0) → (((¬ x1 = 1) → (((¬ x1 = 2) → (((¬ x1 = 3) → Q (some (vI (-102))) h1) ∧ ((x1 = 3) → Q (some (vI (h1.1 27 9))) h1))) ∧ ((x1 = 2) → Q (some (vI (h1.1 27 8))) h1))) ∧ ((x1 = 1) → Q (some (vI (h1.1 27 7))) h1))) ∧ ((x1 = 0) → Q (some (vI (h1.1 27 6))) h1)))) : EvM mX7_blocks [vR 27, vI x1] h Q := by
  refine evM_of (by decide) rfl (Nat.le_of_ble_eq_true rfl) ?_
  show Ev mX7_blocks 0 [(0, vR 27), (1, vI x1)] [] h Q
  refine ev_aload_n 0 dX7_blocks_0 rfl (x := 27) rfl ?_
  refine ev_iconst 0 dX7_blocks_1 (by decide) ?_
  refine ev_putI dX7_blocks_2 fpX7_96 rfl rfl   ?_
  obtain ⟨h1, eh1⟩ : ∃ z : Hp, z = sI h 27 (upd (h.1 27) 0 0) := ⟨_, rfl⟩
  rw [← eh1]
  have H := H h1 eh1
  refine ev_iload_n 1 dX7_blocks_5 rfl (x := x1) rfl ?_
  refine ev_if_ne 16 dX7_blocks_6 (by decide) ⟨fun c2 => ?_, fun c2 => ?_⟩
  · have H := H.1 c2
    refine ev_iload_n 1 dX7_blocks_16 rfl (x := x1) rfl ?_
    refine ev_iconst 1 dX7_blocks_17 (by decide) ?_
    refine ev_icmp_ne 28 dX7_blocks_18 (by decide) ⟨fun c3 => ?_, fun c3 => ?_⟩
    · have H := H.1 c3
      refine ev_iload_n 1 dX7_blocks_28 rfl (x := x1) rfl ?_
      refine ev_iconst 2 dX7_blocks_29 (by decide) ?_
      refine ev_icmp_ne 40 dX7_blocks_30 (by decide) ⟨fun c4 => ?_, fun c4 => ?_⟩
      · have H := H.1 c4
        refine ev_iload_n 1 dX7_blocks_40 rfl (x := x1) rfl ?_
        refine ev_iconst 3 dX7_blocks_41 (by decide) ?_
        refine ev_icmp_ne 52 dX7_blocks_42 (by decide) ⟨fun c5 => ?_, fun c5 => ?_⟩
        · have H := H.1 c5
          refine ev_bipush (-102) dX7_blocks_52 (by decide) ?_
          exact ev_iret dX7_blocks_54 rfl H
        · have H := H.2 c5
          refine ev_aload_n 0 dX7_blocks_45 rfl (x := 27) rfl ?_
          refine ev_getI dX7_blocks_46 flX7_126 rfl rfl ?_
          refine ev_goto 54 dX7_blocks_49 (by decide) ?_
          exact ev_iret dX7_blocks_54 rfl H
      · have H := H.2 c4
        refine ev_aload_n 0 dX7_blocks_33 rfl (x := 27) rfl ?_
        refine ev_getI dX7_blocks_34 flX7_123 rfl rfl ?_
        refine ev_goto 54 dX7_blocks_37 (by decide) ?_
        exact ev_iret dX7_blocks_54 rfl H
    · have H := H.2 c3
      refine ev_aload_n 0 dX7_blocks_21 rfl (x := 27) rfl ?_
      refine ev_getI dX7_blocks_22 flX7_120 rfl rfl ?_
      refine ev_goto 54 dX7_blocks_25 (by decide) ?_
      exact ev_iret dX7_blocks_54 rfl H
  · have H := H.2 c2
    refine ev_aload_n 0 dX7_blocks_9 rfl (x := 27) rfl ?_
    refine ev_getI dX7_blocks_10 flX7_99 rfl rfl ?_
    refine ev_goto 54 dX7_blocks_13 (by decide) ?_
    exact ev_iret dX7_blocks_54 rfl H
set_option maxRecDepth 20000 in
theorem sX7_rows {h : Hp} {Q : Option AV → Hp → Prop} (H : (∀ h1 : Hp, h1 = sI h 27 (upd (h.1 27) 0 0) → ((((h1.1 27 4) = 0) → EvM mX7_rowCount [vR 27] h1 (fun v h3 => ∃ r4 : Int32, v = some (vI r4) ∧ Q (some (vI r4)) h3)) ∧ ((¬ (h1.1 27 4) = 0) → Q (some (vI (-100))) h1)))) : EvM mX7_rows [vR 27] h Q := by
  refine evM_of (by decide) rfl (Nat.le_of_ble_eq_true rfl) ?_
  show Ev mX7_rows 0 [(0, vR 27)] [] h Q
  refine ev_aload_n 0 dX7_rows_0 rfl (x := 27) rfl ?_
  refine ev_iconst 0 dX7_rows_1 (by decide) ?_
  refine ev_putI dX7_rows_2 fpX7_96 rfl rfl   ?_
  obtain ⟨h1, eh1⟩ : ∃ z : Hp, z = sI h 27 (upd (h.1 27) 0 0) := ⟨_, rfl⟩
  rw [← eh1]
  have H := H h1 eh1
  refine ev_aload_n 0 dX7_rows_5 rfl (x := 27) rfl ?_
  refine ev_getI dX7_rows_6 flX7_102 rfl rfl ?_
  refine ev_if_eq 17 dX7_rows_9 (by decide) ⟨fun c2 => ?_, fun c2 => ?_⟩
  · have H := H.1 c2
    refine ev_aload_n 0 dX7_rows_17 rfl (x := 27) rfl ?_
    refine ev_callV (As := []) (rest := []) dX7_rows_18 mlX7_219 rm_mX7_rows_mX7_rowCount rfl rfl rfl rfl (Nat.le_of_ble_eq_true rfl) H (fun v h3 H => ?_)
    obtain ⟨r4, rfl, H⟩ := H
    show Ev mX7_rows 21 [(0, vR 27)] [vI r4] h3 Q
    exact ev_iret dX7_rows_21 rfl H
  · have H := H.2 c2
    refine ev_bipush (-100) dX7_rows_12 (by decide) ?_
    refine ev_goto 21 dX7_rows_14 (by decide) ?_
    exact ev_iret dX7_rows_21 rfl H
set_option maxRecDepth 20000 in
theorem sX7_audit {h : Hp} {Q : Option AV → Hp → Prop} (H : (∀ h1 : Hp, h1 = sI h 27 (upd (h.1 27) 0 0) → ((((h1.1 27 4) = 0) → (((¬ (h1.1 27 11) = 5) → Q (some (vI 0)) h1) ∧ (((h1.1 27 11) = 5) → EvM mX7_entries [vR 27] h1 (fun v h4 => ∃ r5 : Int32, v = some (vI r5) ∧ EvM mX7_rowCount [vR 27] h4 (fun v h6 => ∃ r7 : Int32, v = some (vI r7) ∧ (((r5 = r7) → Q (some (vI 0)) h6) ∧ ((¬ r5 = r7) → Q (some (vI 1)) h6))))))) ∧ ((¬ (h1.1 27 4) = 0) → Q (some (vI (-100))) h1)))) : EvM mX7_audit [vR 27] h Q := by
  refine evM_of (by decide) rfl (Nat.le_of_ble_eq_true rfl) ?_
  show Ev mX7_audit 0 [(0, vR 27)] [] h Q
  refine ev_aload_n 0 dX7_audit_0 rfl (x := 27) rfl ?_
  refine ev_iconst 0 dX7_audit_1 (by decide) ?_
  refine ev_putI dX7_audit_2 fpX7_96 rfl rfl   ?_
  obtain ⟨h1, eh1⟩ : ∃ z : Hp, z = sI h 27 (upd (h.1 27) 0 0) := ⟨_, rfl⟩
  rw [← eh1]
  have H := H h1 eh1
  refine ev_aload_n 0 dX7_audit_5 rfl (x := 27) rfl ?_
  refine ev_getI dX7_audit_6 flX7_102 rfl rfl ?_
  refine ev_if_eq 15 dX7_audit_9 (by decide) ⟨fun c2 => ?_, fun c2 => ?_⟩
  · have H := H.1 c2
    refine ev_aload_n 0 dX7_audit_15 rfl (x := 27) rfl ?_
    refine ev_getI dX7_audit_16 flX7_106 rfl rfl ?_
    refine ev_iconst 5 dX7_audit_19 (by decide) ?_
    refine ev_icmp_ne 38 dX7_audit_20 (by decide) ⟨fun c3 => ?_, fun c3 => ?_⟩
    · have H := H.1 c3
      refine ev_iconst 0 dX7_audit_38 (by decide) ?_
      exact ev_iret dX7_audit_39 rfl H
    · have H := H.2 c3
      refine ev_aload_n 0 dX7_audit_23 rfl (x := 27) rfl ?_
      refine ev_callV (As := []) (rest := []) dX7_audit_24 mlX7_267 rm_mX7_audit_mX7_entries rfl rfl rfl rfl (Nat.le_of_ble_eq_true rfl) H (fun v h4 H => ?_)
      obtain ⟨r5, rfl, H⟩ := H
      show Ev mX7_audit 27 [(0, vR 27)] [vI r5] h4 Q
      refine ev_aload_n 0 dX7_audit_27 rfl (x := 27) rfl ?_
      refine ev_callV (As := []) (rest := [vI r5]) dX7_audit_28 mlX7_219 rm_mX7_audit_mX7_rowCount rfl rfl rfl rfl (Nat.le_of_ble_eq_true rfl) H (fun v h6 H => ?_)
      obtain ⟨r7, rfl, H⟩ := H
      show Ev mX7_audit 31 [(0, vR 27)] [vI r7, vI r5] h6 Q
      refine ev_icmp_eq 38 dX7_audit_31 (by decide) ⟨fun c8 => ?_, fun c8 => ?_⟩
      · have H := H.1 c8
        refine ev_iconst 0 dX7_audit_38 (by decide) ?_
        exact ev_iret dX7_audit_39 rfl H
      · have H := H.2 c8
        refine ev_iconst 1 dX7_audit_34 (by decide) ?_
        refine ev_goto 39 dX7_audit_35 (by decide) ?_
        exact ev_iret dX7_audit_39 rfl H
  · have H := H.2 c2
    refine ev_bipush (-100) dX7_audit_12 (by decide) ?_
    exact ev_iret dX7_audit_14 rfl H
