set_option maxRecDepth 20000 in
theorem sX0_isDown {h : Hp} {Q : Option AV → Hp → Prop} (H : (((h.1 6 0) = 0 ∨ (h.1 6 0) = 1) ∧ Q (some (vI (h.1 6 0))) h)) : EvM mX0_isDown [vR 6] h Q := by
  refine evM_of (by decide) rfl (Nat.le_of_ble_eq_true rfl) ?_
  show Ev mX0_isDown 0 [(0, vR 6)] [] h Q
  refine ev_aload_n 0 dX0_isDown_0 rfl (x := 6) rfl ?_
  refine ev_getI dX0_isDown_1 flX0_9 rfl rfl ?_
  exact ev_zret dX0_isDown_4 rfl H.1 H.2
set_option maxRecDepth 20000 in
theorem sX0_setLoss {h : Hp} {Q : Option AV → Hp → Prop} {x1 : Int32} (H : (∀ h1 : Hp, h1 = sI h 6 (upd (h.1 6) 1 x1) → Q none h1)) : EvM mX0_setLoss [vR 6, vI x1] h Q := by
  refine evM_of (by decide) rfl (Nat.le_of_ble_eq_true rfl) ?_
  show Ev mX0_setLoss 0 [(0, vR 6), (1, vI x1)] [] h Q
  refine ev_aload_n 0 dX0_setLoss_0 rfl (x := 6) rfl ?_
  refine ev_iload_n 1 dX0_setLoss_1 rfl (x := x1) rfl ?_
  refine ev_putI dX0_setLoss_2 fpX0_15 rfl rfl   ?_
  obtain ⟨h1, eh1⟩ : ∃ z : Hp, z = sI h 6 (upd (h.1 6) 1 x1) := ⟨_, rfl⟩
  rw [← eh1]
  have H := H h1 eh1
  exact ev_vret dX0_setLoss_5 rfl H
set_option maxRecDepth 20000 in
theorem sX0_powerUp {h : Hp} {Q : Option AV → Hp → Prop} (H : (∀ h1 : Hp, h1 = sI h 6 (upd (h.1 6) 0 0) → (∀ h2 : Hp, h2 = sI h1 6 (upd (h1.1 6) 1 (-1)) → Q none h2))) : EvM mX0_powerUp [vR 6] h Q := by
  refine evM_of (by decide) rfl (Nat.le_of_ble_eq_true rfl) ?_
  show Ev mX0_powerUp 0 [(0, vR 6)] [] h Q
  refine ev_aload_n 0 dX0_powerUp_0 rfl (x := 6) rfl ?_
  refine ev_iconst 0 dX0_powerUp_1 (by decide) ?_
  refine ev_putZ dX0_powerUp_2 fpX0_9 rfl rfl  (by decide) ?_
  obtain ⟨h1, eh1⟩ : ∃ z : Hp, z = sI h 6 (upd (h.1 6) 0 0) := ⟨_, rfl⟩
  rw [← eh1]
  have H := H h1 eh1
  refine ev_aload_n 0 dX0_powerUp_5 rfl (x := 6) rfl ?_
  refine ev_iconst (-1) dX0_powerUp_6 (by decide) ?_
  refine ev_putI dX0_powerUp_7 fpX0_15 rfl rfl   ?_
  obtain ⟨h2, eh2⟩ : ∃ z : Hp, z = sI h1 6 (upd (h1.1 6) 1 (-1)) := ⟨_, rfl⟩
  rw [← eh2]
  have H := H h2 eh2
  exact ev_vret dX0_powerUp_10 rfl H
set_option maxRecDepth 20000 in
theorem sX0_put {h : Hp} {Q : Option AV → Hp → Prop} {x1 : Int32} (H : Ev mX0_put 2 [(0, vR 6), (1, vI x1), (2, vI 0)] [] h Q) : EvM mX0_put [vR 6, vI x1] h Q := by
  refine evM_of (by decide) rfl (Nat.le_of_ble_eq_true rfl) ?_
  show Ev mX0_put 0 [(0, vR 6), (1, vI x1)] [] h Q
  refine ev_iconst 0 dX0_put_0 (by decide) ?_
  refine ev_istore_n 2 dX0_put_1 rfl (by decide) ?_
  refine ev_L (L' := [(2, vI 0), (0, vR 6), (1, vI x1)]) rfl ?_
  exact ev_sub (L' := [(0, vR 6), (1, vI x1), (2, vI 0)]) ⟨rfl, rfl, rfl, trivial⟩ H
set_option maxRecDepth 20000 in
theorem sX0_put_2 {h : Hp} {Q : Option AV → Hp → Prop} {x1 : Int32} {x2 : Int32} (H : (((x1 ≤ x2) → Q (some (vI 1)) h) ∧ ((¬ x1 ≤ x2) → (∀ h2 : Hp, h2 = sI h 6 (upd (h.1 6) 2 ((h.1 6 2) + 1)) → (((¬ (h2.1 6 1) = 0) → ((((h2.1 6 1) ≤ 0) → Ev mX0_put 2 [(0, vR 6), (1, vI x1), (2, vI (x2 + 1))] [] h2 Q) ∧ ((¬ (h2.1 6 1) ≤ 0) → (∀ h5 : Hp, h5 = sI h2 6 (upd (h2.1 6) 1 ((h2.1 6 1) - 1)) → Ev mX0_put 2 [(0, vR 6), (1, vI x1), (2, vI (x2 + 1))] [] h5 Q)))) ∧ (((h2.1 6 1) = 0) → (∀ h6 : Hp, h6 = sI h2 6 (upd (h2.1 6) 0 1) → Q (some (vI 0)) h6))))))) : Ev mX0_put 2 [(0, vR 6), (1, vI x1), (2, vI x2)] [] h Q := by
  refine ev_iload_n 2 dX0_put_2 rfl (x := x2) rfl ?_
  refine ev_iload_n 1 dX0_put_3 rfl (x := x1) rfl ?_
  refine ev_icmp_ge 54 dX0_put_4 (by decide) ⟨fun c1 => ?_, fun c1 => ?_⟩
  · have H := H.1 c1
    refine ev_iconst 1 dX0_put_54 (by decide) ?_
    exact ev_zret dX0_put_55 rfl (by decide) H
  · have H := H.2 c1
    refine ev_aload_n 0 dX0_put_7 rfl (x := 6) rfl ?_
    refine ev_dup dX0_put_8 rfl ?_
    refine ev_getI dX0_put_9 flX0_19 rfl rfl ?_
    refine ev_iconst 1 dX0_put_12 (by decide) ?_
    refine ev_iadd dX0_put_13 ?_
    refine ev_putI dX0_put_14 fpX0_19 rfl rfl   ?_
    obtain ⟨h2, eh2⟩ : ∃ z : Hp, z = sI h 6 (upd (h.1 6) 2 ((h.1 6 2) + 1)) := ⟨_, rfl⟩
    rw [← eh2]
    have H := H h2 eh2
    refine ev_aload_n 0 dX0_put_17 rfl (x := 6) rfl ?_
    refine ev_getI dX0_put_18 flX0_15 rfl rfl ?_
    refine ev_if_ne 31 dX0_put_21 (by decide) ⟨fun c3 => ?_, fun c3 => ?_⟩
    · have H := H.1 c3
      refine ev_aload_n 0 dX0_put_31 rfl (x := 6) rfl ?_
      refine ev_getI dX0_put_32 flX0_15 rfl rfl ?_
      refine ev_if_le 48 dX0_put_35 (by decide) ⟨fun c4 => ?_, fun c4 => ?_⟩
      · have H := H.1 c4
        refine ev_iinc (x := x2) (v := 1) dX0_put_48 rfl (by decide) (by decide) ?_
        refine ev_L (L' := [(2, vI (x2 + 1)), (0, vR 6), (1, vI x1)]) rfl ?_
        refine ev_goto 2 dX0_put_51 (by decide) ?_
        exact ev_sub (L' := [(0, vR 6), (1, vI x1), (2, vI (x2 + 1))]) ⟨rfl, rfl, rfl, trivial⟩ H
      · have H := H.2 c4
        refine ev_aload_n 0 dX0_put_38 rfl (x := 6) rfl ?_
        refine ev_dup dX0_put_39 rfl ?_
        refine ev_getI dX0_put_40 flX0_15 rfl rfl ?_
        refine ev_iconst 1 dX0_put_43 (by decide) ?_
        refine ev_isub dX0_put_44 ?_
        refine ev_putI dX0_put_45 fpX0_15 rfl rfl   ?_
        obtain ⟨h5, eh5⟩ : ∃ z : Hp, z = sI h2 6 (upd (h2.1 6) 1 ((h2.1 6 1) - 1)) := ⟨_, rfl⟩
        rw [← eh5]
        have H := H h5 eh5
        refine ev_iinc (x := x2) (v := 1) dX0_put_48 rfl (by decide) (by decide) ?_
        refine ev_L (L' := [(2, vI (x2 + 1)), (0, vR 6), (1, vI x1)]) rfl ?_
        refine ev_goto 2 dX0_put_51 (by decide) ?_
        exact ev_sub (L' := [(0, vR 6), (1, vI x1), (2, vI (x2 + 1))]) ⟨rfl, rfl, rfl, trivial⟩ H
    · have H := H.2 c3
      refine ev_aload_n 0 dX0_put_24 rfl (x := 6) rfl ?_
      refine ev_iconst 1 dX0_put_25 (by decide) ?_
      refine ev_putZ dX0_put_26 fpX0_9 rfl rfl  (by decide) ?_
      obtain ⟨h6, eh6⟩ : ∃ z : Hp, z = sI h2 6 (upd (h2.1 6) 0 1) := ⟨_, rfl⟩
      rw [← eh6]
      have H := H h6 eh6
      refine ev_iconst 0 dX0_put_29 (by decide) ?_
      exact ev_zret dX0_put_30 rfl (by decide) H
set_option maxRecDepth 20000 in
theorem sX0_noteWrite {h : Hp} {Q : Option AV → Hp → Prop} (H : (∀ h1 : Hp, h1 = sI h 6 (upd (h.1 6) 5 ((h.1 6 5) + 1)) → Q none h1)) : EvM mX0_noteWrite [vR 6] h Q := by
  refine evM_of (by decide) rfl (Nat.le_of_ble_eq_true rfl) ?_
  show Ev mX0_noteWrite 0 [(0, vR 6)] [] h Q
  refine ev_aload_n 0 dX0_noteWrite_0 rfl (x := 6) rfl ?_
  refine ev_dup dX0_noteWrite_1 rfl ?_
  refine ev_getI dX0_noteWrite_2 flX0_28 rfl rfl ?_
  refine ev_iconst 1 dX0_noteWrite_5 (by decide) ?_
  refine ev_iadd dX0_noteWrite_6 ?_
  refine ev_putI dX0_noteWrite_7 fpX0_28 rfl rfl   ?_
  obtain ⟨h1, eh1⟩ : ∃ z : Hp, z = sI h 6 (upd (h.1 6) 5 ((h.1 6 5) + 1)) := ⟨_, rfl⟩
  rw [← eh1]
  have H := H h1 eh1
  exact ev_vret dX0_noteWrite_10 rfl H
set_option maxRecDepth 20000 in
theorem sX0_noteCheckpoint {h : Hp} {Q : Option AV → Hp → Prop} {x1 : Int32} (H : (∀ h1 : Hp, h1 = sI h 6 (upd (h.1 6) 3 ((h.1 6 3) + x1)) → (∀ h2 : Hp, h2 = sI h1 6 (upd (h1.1 6) 4 ((h1.1 6 4) + 1)) → (∀ h3 : Hp, h3 = sI h2 6 (upd (h2.1 6) 5 0) → Q none h3)))) : EvM mX0_noteCheckpoint [vR 6, vI x1] h Q := by
  refine evM_of (by decide) rfl (Nat.le_of_ble_eq_true rfl) ?_
  show Ev mX0_noteCheckpoint 0 [(0, vR 6), (1, vI x1)] [] h Q
  refine ev_aload_n 0 dX0_noteCheckpoint_0 rfl (x := 6) rfl ?_
  refine ev_dup dX0_noteCheckpoint_1 rfl ?_
  refine ev_getI dX0_noteCheckpoint_2 flX0_22 rfl rfl ?_
  refine ev_iload_n 1 dX0_noteCheckpoint_5 rfl (x := x1) rfl ?_
  refine ev_iadd dX0_noteCheckpoint_6 ?_
  refine ev_putI dX0_noteCheckpoint_7 fpX0_22 rfl rfl   ?_
  obtain ⟨h1, eh1⟩ : ∃ z : Hp, z = sI h 6 (upd (h.1 6) 3 ((h.1 6 3) + x1)) := ⟨_, rfl⟩
  rw [← eh1]
  have H := H h1 eh1
  refine ev_aload_n 0 dX0_noteCheckpoint_10 rfl (x := 6) rfl ?_
  refine ev_dup dX0_noteCheckpoint_11 rfl ?_
  refine ev_getI dX0_noteCheckpoint_12 flX0_25 rfl rfl ?_
  refine ev_iconst 1 dX0_noteCheckpoint_15 (by decide) ?_
  refine ev_iadd dX0_noteCheckpoint_16 ?_
  refine ev_putI dX0_noteCheckpoint_17 fpX0_25 rfl rfl   ?_
  obtain ⟨h2, eh2⟩ : ∃ z : Hp, z = sI h1 6 (upd (h1.1 6) 4 ((h1.1 6 4) + 1)) := ⟨_, rfl⟩
  rw [← eh2]
  have H := H h2 eh2
  refine ev_aload_n 0 dX0_noteCheckpoint_20 rfl (x := 6) rfl ?_
  refine ev_iconst 0 dX0_noteCheckpoint_21 (by decide) ?_
  refine ev_putI dX0_noteCheckpoint_22 fpX0_28 rfl rfl   ?_
  obtain ⟨h3, eh3⟩ : ∃ z : Hp, z = sI h2 6 (upd (h2.1 6) 5 0) := ⟨_, rfl⟩
  rw [← eh3]
  have H := H h3 eh3
  exact ev_vret dX0_noteCheckpoint_25 rfl H
set_option maxRecDepth 20000 in
theorem sX0_writesSinceCheckpoint {h : Hp} {Q : Option AV → Hp → Prop} (H : Q (some (vI (h.1 6 5))) h) : EvM mX0_writesSinceCheckpoint [vR 6] h Q := by
  refine evM_of (by decide) rfl (Nat.le_of_ble_eq_true rfl) ?_
  show Ev mX0_writesSinceCheckpoint 0 [(0, vR 6)] [] h Q
  refine ev_aload_n 0 dX0_writesSinceCheckpoint_0 rfl (x := 6) rfl ?_
  refine ev_getI dX0_writesSinceCheckpoint_1 flX0_28 rfl rfl ?_
  exact ev_iret dX0_writesSinceCheckpoint_4 rfl H
set_option maxRecDepth 20000 in
theorem sX0_countOf {h : Hp} {Q : Option AV → Hp → Prop} {x1 : Int32} (H : (((x1 = 0) → Q (some (vI (h.1 6 2))) h) ∧ ((x1 = 1) → Q (some (vI (h.1 6 3))) h) ∧ ((x1 = 2) → Q (some (vI (h.1 6 4))) h) ∧ ((¬ x1 = 0 ∧ ¬ x1 = 1 ∧ ¬ x1 = 2) → Q (some (vI (h.1 6 5))) h))) : EvM mX0_countOf [vR 6, vI x1] h Q := by
  refine evM_of (by decide) rfl (Nat.le_of_ble_eq_true rfl) ?_
  show Ev mX0_countOf 0 [(0, vR 6), (1, vI x1)] [] h Q
  refine ev_iload_n 1 dX0_countOf_0 rfl (x := x1) rfl ?_
  by_cases e0 : x1 = 0
  · have H := H.1 e0
    refine ev_switch 28 dX0_countOf_1 (Or.inl ⟨by rw [e0]; decide, by rw [e0]; decide, _, by rw [e0]; rfl, by decide⟩) ?_
    refine ev_aload_n 0 dX0_countOf_28 rfl (x := 6) rfl ?_
    refine ev_getI dX0_countOf_29 flX0_19 rfl rfl ?_
    exact ev_iret dX0_countOf_32 rfl H
  by_cases e1 : x1 = 1
  · have H := H.2.1 e1
    refine ev_switch 33 dX0_countOf_1 (Or.inl ⟨by rw [e1]; decide, by rw [e1]; decide, _, by rw [e1]; rfl, by decide⟩) ?_
    refine ev_aload_n 0 dX0_countOf_33 rfl (x := 6) rfl ?_
    refine ev_getI dX0_countOf_34 flX0_22 rfl rfl ?_
    exact ev_iret dX0_countOf_37 rfl H
  by_cases e2 : x1 = 2
  · have H := H.2.2.1 e2
    refine ev_switch 38 dX0_countOf_1 (Or.inl ⟨by rw [e2]; decide, by rw [e2]; decide, _, by rw [e2]; rfl, by decide⟩) ?_
    refine ev_aload_n 0 dX0_countOf_38 rfl (x := 6) rfl ?_
    refine ev_getI dX0_countOf_39 flX0_25 rfl rfl ?_
    exact ev_iret dX0_countOf_42 rfl H
  have q0 := lv_neT e0 (a := 0) (by decide)
  have q1 := lv_neT e1 (a := 1) (by decide)
  have q2 := lv_neT e2 (a := 2) (by decide)
  have H := H.2.2.2 ⟨e0, e1, e2⟩
  refine ev_switch 43 dX0_countOf_1 (Or.inr ⟨by omega, by decide⟩) ?_
  refine ev_aload_n 0 dX0_countOf_43 rfl (x := 6) rfl ?_
  refine ev_getI dX0_countOf_44 flX0_28 rfl rfl ?_
  exact ev_iret dX0_countOf_47 rfl H
set_option maxRecDepth 20000 in
theorem sX1_begin {h : Hp} {Q : Option AV → Hp → Prop} {x1 : Int32} (H : (∀ h1 : Hp, h1 = sI h 12 (upd (h.1 12) 0 1) → (∀ h2 : Hp, h2 = sI h1 12 (upd (h1.1 12) 1 0) → (∀ h3 : Hp, h3 = sI h2 12 (upd (h2.1 12) 2 x1) → (∀ h4 : Hp, h4 = sI h3 12 (upd (h3.1 12) 3 0) → Q none h4))))) : EvM mX1_begin [vR 12, vI x1] h Q := by
  refine evM_of (by decide) rfl (Nat.le_of_ble_eq_true rfl) ?_
  show Ev mX1_begin 0 [(0, vR 12), (1, vI x1)] [] h Q
  refine ev_aload_n 0 dX1_begin_0 rfl (x := 12) rfl ?_
  refine ev_iconst 1 dX1_begin_1 (by decide) ?_
  refine ev_putZ dX1_begin_2 fpX1_9 rfl rfl  (by decide) ?_
  obtain ⟨h1, eh1⟩ : ∃ z : Hp, z = sI h 12 (upd (h.1 12) 0 1) := ⟨_, rfl⟩
  rw [← eh1]
  have H := H h1 eh1
  refine ev_aload_n 0 dX1_begin_5 rfl (x := 12) rfl ?_
  refine ev_iconst 0 dX1_begin_6 (by decide) ?_
  refine ev_putI dX1_begin_7 fpX1_15 rfl rfl   ?_
  obtain ⟨h2, eh2⟩ : ∃ z : Hp, z = sI h1 12 (upd (h1.1 12) 1 0) := ⟨_, rfl⟩
  rw [← eh2]
  have H := H h2 eh2
  refine ev_aload_n 0 dX1_begin_10 rfl (x := 12) rfl ?_
  refine ev_iload_n 1 dX1_begin_11 rfl (x := x1) rfl ?_
  refine ev_putI dX1_begin_12 fpX1_19 rfl rfl   ?_
  obtain ⟨h3, eh3⟩ : ∃ z : Hp, z = sI h2 12 (upd (h2.1 12) 2 x1) := ⟨_, rfl⟩
  rw [← eh3]
  have H := H h3 eh3
  refine ev_aload_n 0 dX1_begin_15 rfl (x := 12) rfl ?_
  refine ev_iconst 0 dX1_begin_16 (by decide) ?_
  refine ev_putI dX1_begin_17 fpX1_22 rfl rfl   ?_
  obtain ⟨h4, eh4⟩ : ∃ z : Hp, z = sI h3 12 (upd (h3.1 12) 3 0) := ⟨_, rfl⟩
  rw [← eh4]
  have H := H h4 eh4
  exact ev_vret dX1_begin_20 rfl H
set_option maxRecDepth 20000 in
theorem sX1_makeNode {h : Hp} {Q : Option AV → Hp → Prop} (H : (((¬ (h.1 12 0) = 0) → Ev mX1_makeNode 13 [(0, vR 12), (1, vR 16), (2, vR 7)] [vI 0, vR 16] h Q) ∧ (((h.1 12 0) = 0) → Ev mX1_makeNode 13 [(0, vR 12), (1, vR 16), (2, vR 7)] [vI 1, vR 16] h Q))) : EvM mX1_makeNode [vR 12, vR 16, vR 7] h Q := by
  refine evM_of (by decide) rfl (Nat.le_of_ble_eq_true rfl) ?_
  show Ev mX1_makeNode 0 [(0, vR 12), (1, vR 16), (2, vR 7)] [] h Q
  refine ev_aload_n 1 dX1_makeNode_0 rfl (x := 16) rfl ?_
  refine ev_aload_n 0 dX1_makeNode_1 rfl (x := 12) rfl ?_
  refine ev_getI dX1_makeNode_2 flX1_9 rfl rfl ?_
  refine ev_if_ne 12 dX1_makeNode_5 (by decide) ⟨fun c1 => ?_, fun c1 => ?_⟩
  · have H := H.1 c1
    refine ev_iconst 0 dX1_makeNode_12 (by decide) ?_
    exact ev_sub (L' := [(0, vR 12), (1, vR 16), (2, vR 7)]) ⟨rfl, rfl, rfl, trivial⟩ H
  · have H := H.2 c1
    refine ev_iconst 1 dX1_makeNode_8 (by decide) ?_
    refine ev_goto 13 dX1_makeNode_9 (by decide) ?_
    exact ev_sub (L' := [(0, vR 12), (1, vR 16), (2, vR 7)]) ⟨rfl, rfl, rfl, trivial⟩ H
set_option maxRecDepth 20000 in
theorem sX1_makeNode_13 {h : Hp} {Q : Option AV → Hp → Prop} {s0 : Int32} (H : EvM mX5_newNode [vR 16, vI s0] h (fun v h1 => ∃ r2 : Int32, v = some (vI r2) ∧ (((¬ r2 = (-1)) → Ev mX1_makeNode 27 [(0, vR 12), (1, vR 16), (2, vR 7), (3, vI r2), (4, vI 0)] [] h1 Q) ∧ ((r2 = (-1)) → Q (some (vI 0)) h1)))) : Ev mX1_makeNode 13 [(0, vR 12), (1, vR 16), (2, vR 7)] [vI s0, vR 16] h Q := by
  refine ev_callV (As := [vI s0]) (rest := []) dX1_makeNode_13 mlX1_25 rm_mX1_makeNode_mX5_newNode rfl rfl rfl rfl (Nat.le_of_ble_eq_true rfl) H (fun v h1 H => ?_)
  obtain ⟨r2, rfl, H⟩ := H
  show Ev mX1_makeNode 16 [(0, vR 12), (1, vR 16), (2, vR 7)] [vI r2] h1 Q
  refine ev_istore_n 3 dX1_makeNode_16 rfl (by decide) ?_
  refine ev_L (L' := [(3, vI r2), (0, vR 12), (1, vR 16), (2, vR 7)]) rfl ?_
  refine ev_iload_n 3 dX1_makeNode_17 rfl (x := r2) rfl ?_
  refine ev_iconst (-1) dX1_makeNode_18 (by decide) ?_
  refine ev_icmp_ne 24 dX1_makeNode_19 (by decide) ⟨fun c3 => ?_, fun c3 => ?_⟩
  · have H := H.1 c3
    refine ev_iconst 0 dX1_makeNode_24 (by decide) ?_
    refine ev_istore dX1_makeNode_25 (by decide) ?_
    refine ev_L (L' := [(4, vI 0), (3, vI r2), (0, vR 12), (1, vR 16), (2, vR 7)]) rfl ?_
    exact ev_sub (L' := [(0, vR 12), (1, vR 16), (2, vR 7), (3, vI r2), (4, vI 0)]) ⟨rfl, rfl, rfl, rfl, rfl, trivial⟩ H
  · have H := H.2 c3
    refine ev_iconst 0 dX1_makeNode_22 (by decide) ?_
    exact ev_zret dX1_makeNode_23 rfl (by decide) H
set_option maxRecDepth 20000 in
theorem sX1_makeNode_27 {h : Hp} {Q : Option AV → Hp → Prop} {x3 : Int32} {x4 : Int32} (H : (((6 ≤ x4) → Ev mX1_makeNode 89 [(0, vR 12), (1, vR 16), (2, vR 7), (3, vI x3)] [] h Q) ∧ ((¬ 6 ≤ x4) → ((((h.1 12 2) ≤ (h.1 12 1)) → Ev mX1_makeNode 89 [(0, vR 12), (1, vR 16), (2, vR 7), (3, vI x3)] [] h Q) ∧ ((¬ (h.1 12 2) ≤ (h.1 12 1)) → ((((h.1 12 0) = 0) → Ev mX1_makeNode 70 [(0, vR 12), (1, vR 16), (2, vR 7), (3, vI x3), (4, vI x4)] [vL (Int32.toInt64 (h.1 12 1)), vI x3, vR 16] h Q) ∧ ((¬ (h.1 12 0) = 0) → EvM mX3_entryAt [vR 7, vI (h.1 12 1)] h (fun v h4 => ∃ r5 : Int64, v = some (vL r5) ∧ Ev mX1_makeNode 70 [(0, vR 12), (1, vR 16), (2, vR 7), (3, vI x3), (4, vI x4)] [vL r5, vI x3, vR 16] h4 Q)))))))) : Ev mX1_makeNode 27 [(0, vR 12), (1, vR 16), (2, vR 7), (3, vI x3), (4, vI x4)] [] h Q := by
  refine ev_iload dX1_makeNode_27 (x := x4) rfl ?_
  refine ev_bipush 6 dX1_makeNode_29 (by decide) ?_
  refine ev_icmp_ge 89 dX1_makeNode_31 (by decide) ⟨fun c1 => ?_, fun c1 => ?_⟩
  · have H := H.1 c1
    exact ev_sub (L' := [(0, vR 12), (1, vR 16), (2, vR 7), (3, vI x3)]) ⟨rfl, rfl, rfl, rfl, trivial⟩ H
  · have H := H.2 c1
    refine ev_aload_n 0 dX1_makeNode_34 rfl (x := 12) rfl ?_
    refine ev_getI dX1_makeNode_35 flX1_15 rfl rfl ?_
    refine ev_aload_n 0 dX1_makeNode_38 rfl (x := 12) rfl ?_
    refine ev_getI dX1_makeNode_39 flX1_19 rfl rfl ?_
    refine ev_icmp_ge 89 dX1_makeNode_42 (by decide) ⟨fun c2 => ?_, fun c2 => ?_⟩
    · have H := H.1 c2
      exact ev_sub (L' := [(0, vR 12), (1, vR 16), (2, vR 7), (3, vI x3)]) ⟨rfl, rfl, rfl, rfl, trivial⟩ H
    · have H := H.2 c2
      refine ev_aload_n 1 dX1_makeNode_45 rfl (x := 16) rfl ?_
      refine ev_iload_n 3 dX1_makeNode_46 rfl (x := x3) rfl ?_
      refine ev_aload_n 0 dX1_makeNode_47 rfl (x := 12) rfl ?_
      refine ev_getI dX1_makeNode_48 flX1_9 rfl rfl ?_
      refine ev_if_eq 65 dX1_makeNode_51 (by decide) ⟨fun c3 => ?_, fun c3 => ?_⟩
      · have H := H.1 c3
        refine ev_aload_n 0 dX1_makeNode_65 rfl (x := 12) rfl ?_
        refine ev_getI dX1_makeNode_66 flX1_15 rfl rfl ?_
        refine ev_i2l dX1_makeNode_69 ?_
        exact ev_sub (L' := [(0, vR 12), (1, vR 16), (2, vR 7), (3, vI x3), (4, vI x4)]) ⟨rfl, rfl, rfl, rfl, rfl, trivial⟩ H
      · have H := H.2 c3
        refine ev_aload_n 2 dX1_makeNode_54 rfl (x := 7) rfl ?_
        refine ev_aload_n 0 dX1_makeNode_55 rfl (x := 12) rfl ?_
        refine ev_getI dX1_makeNode_56 flX1_15 rfl rfl ?_
        refine ev_callV (As := [vI (h.1 12 1)]) (rest := [vI x3, vR 16]) dX1_makeNode_59 mlX1_31 rm_mX1_makeNode_mX3_entryAt rfl rfl rfl rfl (Nat.le_of_ble_eq_true rfl) H (fun v h4 H => ?_)
        obtain ⟨r5, rfl, H⟩ := H
        show Ev mX1_makeNode 62 [(0, vR 12), (1, vR 16), (2, vR 7), (3, vI x3), (4, vI x4)] [vL r5, vI x3, vR 16] h4 Q
        refine ev_goto 70 dX1_makeNode_62 (by decide) ?_
        exact ev_sub (L' := [(0, vR 12), (1, vR 16), (2, vR 7), (3, vI x3), (4, vI x4)]) ⟨rfl, rfl, rfl, rfl, rfl, trivial⟩ H
set_option maxRecDepth 20000 in
theorem sX1_makeNode_89 {h : Hp} {Q : Option AV → Hp → Prop} {x3 : Int32} (H : ((((h.1 12 2) ≤ (h.1 12 1)) → (((¬ x3 = (h.1 12 3)) → (∀ h3 : Hp, h3 = sI h 12 (upd (h.1 12) 0 0) → (∀ h4 : Hp, h4 = sI h3 12 (upd (h3.1 12) 1 (h3.1 12 3)) → (∀ h5 : Hp, h5 = sI h4 12 (upd (h4.1 12) 2 (x3 + 1)) → (∀ h6 : Hp, h6 = sI h5 12 (upd (h5.1 12) 3 (h5.1 12 2)) → Q (some (vI 0)) h6))))) ∧ ((x3 = (h.1 12 3)) → EvM mX3_total [vR 7] h (fun v h7 => ∃ r8 : Int32, v = some (vI r8) ∧ EvM mX5_finishLoad [vR 16, vI x3, vI r8] h7 (fun v h9 => v = none ∧ Q (some (vI 1)) h9))))) ∧ ((¬ (h.1 12 2) ≤ (h.1 12 1)) → Q (some (vI 0)) h))) : Ev mX1_makeNode 89 [(0, vR 12), (1, vR 16), (2, vR 7), (3, vI x3)] [] h Q := by
  refine ev_aload_n 0 dX1_makeNode_89 rfl (x := 12) rfl ?_
  refine ev_getI dX1_makeNode_90 flX1_15 rfl rfl ?_
  refine ev_aload_n 0 dX1_makeNode_93 rfl (x := 12) rfl ?_
  refine ev_getI dX1_makeNode_94 flX1_19 rfl rfl ?_
  refine ev_icmp_ge 102 dX1_makeNode_97 (by decide) ⟨fun c1 => ?_, fun c1 => ?_⟩
  · have H := H.1 c1
    refine ev_iload_n 3 dX1_makeNode_102 rfl (x := x3) rfl ?_
    refine ev_aload_n 0 dX1_makeNode_103 rfl (x := 12) rfl ?_
    refine ev_getI dX1_makeNode_104 flX1_22 rfl rfl ?_
    refine ev_icmp_ne 121 dX1_makeNode_107 (by decide) ⟨fun c2 => ?_, fun c2 => ?_⟩
    · have H := H.1 c2
      refine ev_aload_n 0 dX1_makeNode_121 rfl (x := 12) rfl ?_
      refine ev_iconst 0 dX1_makeNode_122 (by decide) ?_
      refine ev_putZ dX1_makeNode_123 fpX1_9 rfl rfl  (by decide) ?_
      obtain ⟨h3, eh3⟩ : ∃ z : Hp, z = sI h 12 (upd (h.1 12) 0 0) := ⟨_, rfl⟩
      rw [← eh3]
      have H := H h3 eh3
      refine ev_aload_n 0 dX1_makeNode_126 rfl (x := 12) rfl ?_
      refine ev_aload_n 0 dX1_makeNode_127 rfl (x := 12) rfl ?_
      refine ev_getI dX1_makeNode_128 flX1_22 rfl rfl ?_
      refine ev_putI dX1_makeNode_131 fpX1_15 rfl rfl   ?_
      obtain ⟨h4, eh4⟩ : ∃ z : Hp, z = sI h3 12 (upd (h3.1 12) 1 (h3.1 12 3)) := ⟨_, rfl⟩
      rw [← eh4]
      have H := H h4 eh4
      refine ev_aload_n 0 dX1_makeNode_134 rfl (x := 12) rfl ?_
      refine ev_iload_n 3 dX1_makeNode_135 rfl (x := x3) rfl ?_
      refine ev_iconst 1 dX1_makeNode_136 (by decide) ?_
      refine ev_iadd dX1_makeNode_137 ?_
      refine ev_putI dX1_makeNode_138 fpX1_19 rfl rfl   ?_
      obtain ⟨h5, eh5⟩ : ∃ z : Hp, z = sI h4 12 (upd (h4.1 12) 2 (x3 + 1)) := ⟨_, rfl⟩
      rw [← eh5]
      have H := H h5 eh5
      refine ev_aload_n 0 dX1_makeNode_141 rfl (x := 12) rfl ?_
      refine ev_aload_n 0 dX1_makeNode_142 rfl (x := 12) rfl ?_
      refine ev_getI dX1_makeNode_143 flX1_19 rfl rfl ?_
      refine ev_putI dX1_makeNode_146 fpX1_22 rfl rfl   ?_
      obtain ⟨h6, eh6⟩ : ∃ z : Hp, z = sI h5 12 (upd (h5.1 12) 3 (h5.1 12 2)) := ⟨_, rfl⟩
      rw [← eh6]
      have H := H h6 eh6
      refine ev_iconst 0 dX1_makeNode_149 (by decide) ?_
      exact ev_zret dX1_makeNode_150 rfl (by decide) H
    · have H := H.2 c2
      refine ev_aload_n 1 dX1_makeNode_110 rfl (x := 16) rfl ?_
      refine ev_iload_n 3 dX1_makeNode_111 rfl (x := x3) rfl ?_
      refine ev_aload_n 2 dX1_makeNode_112 rfl (x := 7) rfl ?_
      refine ev_callV (As := []) (rest := [vI x3, vR 16]) dX1_makeNode_113 mlX1_41 rm_mX1_makeNode_mX3_total rfl rfl rfl rfl (Nat.le_of_ble_eq_true rfl) H (fun v h7 H => ?_)
      obtain ⟨r8, rfl, H⟩ := H
      show Ev mX1_makeNode 116 [(0, vR 12), (1, vR 16), (2, vR 7), (3, vI x3)] [vI r8, vI x3, vR 16] h7 Q
      refine ev_callV (As := [vI x3, vI r8]) (rest := []) dX1_makeNode_116 mlX1_45 rm_mX1_makeNode_mX5_finishLoad rfl rfl rfl rfl (Nat.le_of_ble_eq_true rfl) H (fun v h9 H => ?_)
      obtain ⟨rfl, H⟩ := H
      show Ev mX1_makeNode 119 [(0, vR 12), (1, vR 16), (2, vR 7), (3, vI x3)] [] h9 Q
      refine ev_iconst 1 dX1_makeNode_119 (by decide) ?_
      exact ev_zret dX1_makeNode_120 rfl (by decide) H
  · have H := H.2 c1
    refine ev_iconst 0 dX1_makeNode_100 (by decide) ?_
    exact ev_zret dX1_makeNode_101 rfl (by decide) H
set_option maxRecDepth 20000 in
theorem sX1_makeNode_70 {h : Hp} {Q : Option AV → Hp → Prop} {x3 : Int32} {x4 : Int32} {s0 : Int64} {s1 : Int32} (H : EvM mX5_append [vR 16, vI s1, vL s0] h (fun v h1 => v = none ∧ (∀ h2 : Hp, h2 = sI h1 12 (upd (h1.1 12) 1 ((h1.1 12 1) + 1)) → Ev mX1_makeNode 27 [(0, vR 12), (1, vR 16), (2, vR 7), (3, vI x3), (4, vI (x4 + 1))] [] h2 Q))) : Ev mX1_makeNode 70 [(0, vR 12), (1, vR 16), (2, vR 7), (3, vI x3), (4, vI x4)] [vL s0, vI s1, vR 16] h Q := by
  refine ev_callV (As := [vI s1, vL s0]) (rest := []) dX1_makeNode_70 mlX1_37 rm_mX1_makeNode_mX5_append rfl rfl rfl rfl (Nat.le_of_ble_eq_true rfl) H (fun v h1 H => ?_)
  obtain ⟨rfl, H⟩ := H
  show Ev mX1_makeNode 73 [(0, vR 12), (1, vR 16), (2, vR 7), (3, vI x3), (4, vI x4)] [] h1 Q
  refine ev_aload_n 0 dX1_makeNode_73 rfl (x := 12) rfl ?_
  refine ev_dup dX1_makeNode_74 rfl ?_
  refine ev_getI dX1_makeNode_75 flX1_15 rfl rfl ?_
  refine ev_iconst 1 dX1_makeNode_78 (by decide) ?_
  refine ev_iadd dX1_makeNode_79 ?_
  refine ev_putI dX1_makeNode_80 fpX1_15 rfl rfl   ?_
  obtain ⟨h2, eh2⟩ : ∃ z : Hp, z = sI h1 12 (upd (h1.1 12) 1 ((h1.1 12 1) + 1)) := ⟨_, rfl⟩
  rw [← eh2]
  have H := H h2 eh2
  refine ev_iinc (x := x4) (v := 1) dX1_makeNode_83 rfl (by decide) (by decide) ?_
  refine ev_L (L' := [(4, vI (x4 + 1)), (0, vR 12), (1, vR 16), (2, vR 7), (3, vI x3)]) rfl ?_
  refine ev_goto 27 dX1_makeNode_86 (by decide) ?_
  exact ev_sub (L' := [(0, vR 12), (1, vR 16), (2, vR 7), (3, vI x3), (4, vI (x4 + 1))]) ⟨rfl, rfl, rfl, rfl, rfl, trivial⟩ H
set_option maxRecDepth 20000 in
theorem sX2_clear {h : Hp} {Q : Option AV → Hp → Prop} (H : (∀ h1 : Hp, h1 = sI h 13 (upd (h.1 13) 2 0) → (∀ h2 : Hp, h2 = sI h1 13 (upd (h1.1 13) 3 0) → Q none h2))) : EvM mX2_clear [vR 13] h Q := by
  refine evM_of (by decide) rfl (Nat.le_of_ble_eq_true rfl) ?_
  show Ev mX2_clear 0 [(0, vR 13)] [] h Q
  refine ev_aload_n 0 dX2_clear_0 rfl (x := 13) rfl ?_
  refine ev_iconst 0 dX2_clear_1 (by decide) ?_
  refine ev_putI dX2_clear_2 fpX2_19 rfl rfl   ?_
  obtain ⟨h1, eh1⟩ : ∃ z : Hp, z = sI h 13 (upd (h.1 13) 2 0) := ⟨_, rfl⟩
  rw [← eh1]
  have H := H h1 eh1
  refine ev_aload_n 0 dX2_clear_5 rfl (x := 13) rfl ?_
  refine ev_iconst 0 dX2_clear_6 (by decide) ?_
  refine ev_putI dX2_clear_7 fpX2_23 rfl rfl   ?_
  obtain ⟨h2, eh2⟩ : ∃ z : Hp, z = sI h1 13 (upd (h1.1 13) 3 0) := ⟨_, rfl⟩
  rw [← eh2]
  have H := H h2 eh2
  exact ev_vret dX2_clear_10 rfl H
set_option maxRecDepth 20000 in
theorem sX2_count {h : Hp} {Q : Option AV → Hp → Prop} (H : Q (some (vI (h.1 13 3))) h) : EvM mX2_count [vR 13] h Q := by
  refine evM_of (by decide) rfl (Nat.le_of_ble_eq_true rfl) ?_
  show Ev mX2_count 0 [(0, vR 13)] [] h Q
  refine ev_aload_n 0 dX2_count_0 rfl (x := 13) rfl ?_
  refine ev_getI dX2_count_1 flX2_23 rfl rfl ?_
  exact ev_iret dX2_count_4 rfl H
set_option maxRecDepth 20000 in
theorem sX2_append {h : Hp} {Q : Option AV → Hp → Prop} {x1 : Int64} {x3 : Int32} (H : ((((h.1 13 3) < 40) → (vp_in (((h.1 13 2) + (h.1 13 3)) - ((h.1 13 2) + (h.1 13 3)) / 40 * 40) 40 ∧ (∀ h3 : Hp, h3 = sJ h 14 (vp_updL (h.2.1 14) (Int32.toNatClampNeg (((h.1 13 2) + (h.1 13 3)) - ((h.1 13 2) + (h.1 13 3)) / 40 * 40)) x1) → (vp_in (((h.1 13 2) + (h.1 13 3)) - ((h.1 13 2) + (h.1 13 3)) / 40 * 40) 40 ∧ ((x3 = 0 ∨ x3 = 1) ∧ (∀ h6 : Hp, h6 = sI h3 15 (upd (h3.1 15) (Int32.toNatClampNeg (((h.1 13 2) + (h.1 13 3)) - ((h.1 13 2) + (h.1 13 3)) / 40 * 40)) x3) → (∀ h7 : Hp, h7 = sI h6 13 (upd (h6.1 13) 3 ((h6.1 13 3) + 1)) → Q (some (vI 1)) h7))))))) ∧ ((¬ (h.1 13 3) < 40) → Q (some (vI 0)) h))) : EvM mX2_append [vR 13, vL x1, vI x3] h Q := by
  refine evM_of (by decide) rfl (Nat.le_of_ble_eq_true rfl) ?_
  show Ev mX2_append 0 [(0, vR 13), (1, vL x1), (3, vI x3)] [] h Q
  refine ev_aload_n 0 dX2_append_0 rfl (x := 13) rfl ?_
  refine ev_getI dX2_append_1 flX2_23 rfl rfl ?_
  refine ev_bipush 40 dX2_append_4 (by decide) ?_
  refine ev_icmp_lt 11 dX2_append_6 (by decide) ⟨fun c1 => ?_, fun c1 => ?_⟩
  · have H := H.1 c1
    refine ev_aload_n 0 dX2_append_11 rfl (x := 13) rfl ?_
    refine ev_getI dX2_append_12 flX2_19 rfl rfl ?_
    refine ev_aload_n 0 dX2_append_15 rfl (x := 13) rfl ?_
    refine ev_getI dX2_append_16 flX2_23 rfl rfl ?_
    refine ev_iadd dX2_append_19 ?_
    refine ev_bipush 40 dX2_append_20 (by decide) ?_
    refine ev_irem dX2_append_22 (by decide) ?_
    refine ev_istore dX2_append_23 (by decide) ?_
    refine ev_L (L' := [(4, vI (((h.1 13 2) + (h.1 13 3)) - ((h.1 13 2) + (h.1 13 3)) / 40 * 40)), (0, vR 13), (1, vL x1), (3, vI x3)]) rfl ?_
    refine ev_aload_n 0 dX2_append_25 rfl (x := 13) rfl ?_
    refine ev_getR dX2_append_26 flX2_9 rfl rfl ?_
    refine ev_iload dX2_append_29 (x := (((h.1 13 2) + (h.1 13 3)) - ((h.1 13 2) + (h.1 13 3)) / 40 * 40)) rfl ?_
    refine ev_lload_n 1 dX2_append_31 rfl (x := x1) rfl ?_
    obtain ⟨b2, H⟩ := H
    refine ev_last dX2_append_32 rfl (by decide) b2  ?_
    obtain ⟨h3, eh3⟩ : ∃ z : Hp, z = sJ h 14 (vp_updL (h.2.1 14) (Int32.toNatClampNeg (((h.1 13 2) + (h.1 13 3)) - ((h.1 13 2) + (h.1 13 3)) / 40 * 40)) x1) := ⟨_, rfl⟩
    rw [← eh3]
    have H := H h3 eh3
    refine ev_aload_n 0 dX2_append_33 rfl (x := 13) rfl ?_
    refine ev_getR dX2_append_34 flX2_15 rfl rfl ?_
    refine ev_iload dX2_append_37 (x := (((h.1 13 2) + (h.1 13 3)) - ((h.1 13 2) + (h.1 13 3)) / 40 * 40)) rfl ?_
    refine ev_iload_n 3 dX2_append_39 rfl (x := x3) rfl ?_
    obtain ⟨b4, H⟩ := H
    obtain ⟨z5, H⟩ := H
    refine ev_zast dX2_append_40 rfl b4 z5 ?_
    obtain ⟨h6, eh6⟩ : ∃ z : Hp, z = sI h3 15 (upd (h3.1 15) (Int32.toNatClampNeg (((h.1 13 2) + (h.1 13 3)) - ((h.1 13 2) + (h.1 13 3)) / 40 * 40)) x3) := ⟨_, rfl⟩
    rw [← eh6]
    have H := H h6 eh6
    refine ev_aload_n 0 dX2_append_41 rfl (x := 13) rfl ?_
    refine ev_dup dX2_append_42 rfl ?_
    refine ev_getI dX2_append_43 flX2_23 rfl rfl ?_
    refine ev_iconst 1 dX2_append_46 (by decide) ?_
    refine ev_iadd dX2_append_47 ?_
    refine ev_putI dX2_append_48 fpX2_23 rfl rfl   ?_
    obtain ⟨h7, eh7⟩ : ∃ z : Hp, z = sI h6 13 (upd (h6.1 13) 3 ((h6.1 13 3) + 1)) := ⟨_, rfl⟩
    rw [← eh7]
    have H := H h7 eh7
    refine ev_iconst 1 dX2_append_51 (by decide) ?_
    exact ev_zret dX2_append_52 rfl (by decide) H
  · have H := H.2 c1
    refine ev_iconst 0 dX2_append_9 (by decide) ?_
    exact ev_zret dX2_append_10 rfl (by decide) H
set_option maxRecDepth 20000 in
theorem sX2_firstEntry {h : Hp} {Q : Option AV → Hp → Prop} (H : (vp_in (h.1 13 2) 40 ∧ Q (some (vL (h.2.1 14 (Int32.toNatClampNeg (h.1 13 2))))) h)) : EvM mX2_firstEntry [vR 13] h Q := by
  refine evM_of (by decide) rfl (Nat.le_of_ble_eq_true rfl) ?_
  show Ev mX2_firstEntry 0 [(0, vR 13)] [] h Q
  refine ev_aload_n 0 dX2_firstEntry_0 rfl (x := 13) rfl ?_
  refine ev_getR dX2_firstEntry_1 flX2_9 rfl rfl ?_
  refine ev_aload_n 0 dX2_firstEntry_4 rfl (x := 13) rfl ?_
  refine ev_getI dX2_firstEntry_5 flX2_19 rfl rfl ?_
  obtain ⟨b1, H⟩ := H
  refine ev_lald dX2_firstEntry_8 rfl (by decide) b1 ?_
  exact ev_lret dX2_firstEntry_9 rfl H
set_option maxRecDepth 20000 in
theorem sX2_firstComes {h : Hp} {Q : Option AV → Hp → Prop} (H : (vp_in (h.1 13 2) 40 ∧ (((h.1 15 (Int32.toNatClampNeg (h.1 13 2))) = 0 ∨ (h.1 15 (Int32.toNatClampNeg (h.1 13 2))) = 1) ∧ Q (some (vI (h.1 15 (Int32.toNatClampNeg (h.1 13 2))))) h))) : EvM mX2_firstComes [vR 13] h Q := by
  refine evM_of (by decide) rfl (Nat.le_of_ble_eq_true rfl) ?_
  show Ev mX2_firstComes 0 [(0, vR 13)] [] h Q
  refine ev_aload_n 0 dX2_firstComes_0 rfl (x := 13) rfl ?_
  refine ev_getR dX2_firstComes_1 flX2_15 rfl rfl ?_
  refine ev_aload_n 0 dX2_firstComes_4 rfl (x := 13) rfl ?_
  refine ev_getI dX2_firstComes_5 flX2_19 rfl rfl ?_
  obtain ⟨b1, H⟩ := H
  refine ev_zald dX2_firstComes_8 rfl b1 ?_
  exact ev_zret dX2_firstComes_9 rfl H.1 H.2
set_option maxRecDepth 20000 in
theorem sX2_takeFirst {h : Hp} {Q : Option AV → Hp → Prop} (H : ((((h.1 13 3) ≤ 0) → Q none h) ∧ ((¬ (h.1 13 3) ≤ 0) → (∀ h2 : Hp, h2 = sI h 13 (upd (h.1 13) 2 (((h.1 13 2) + 1) - ((h.1 13 2) + 1) / 40 * 40)) → (∀ h3 : Hp, h3 = sI h2 13 (upd (h2.1 13) 3 ((h2.1 13 3) - 1)) → Q none h3))))) : EvM mX2_takeFirst [vR 13] h Q := by
  refine evM_of (by decide) rfl (Nat.le_of_ble_eq_true rfl) ?_
  show Ev mX2_takeFirst 0 [(0, vR 13)] [] h Q
  refine ev_aload_n 0 dX2_takeFirst_0 rfl (x := 13) rfl ?_
  refine ev_getI dX2_takeFirst_1 flX2_23 rfl rfl ?_
  refine ev_if_le 30 dX2_takeFirst_4 (by decide) ⟨fun c1 => ?_, fun c1 => ?_⟩
  · have H := H.1 c1
    exact ev_vret dX2_takeFirst_30 rfl H
  · have H := H.2 c1
    refine ev_aload_n 0 dX2_takeFirst_7 rfl (x := 13) rfl ?_
    refine ev_aload_n 0 dX2_takeFirst_8 rfl (x := 13) rfl ?_
    refine ev_getI dX2_takeFirst_9 flX2_19 rfl rfl ?_
    refine ev_iconst 1 dX2_takeFirst_12 (by decide) ?_
    refine ev_iadd dX2_takeFirst_13 ?_
    refine ev_bipush 40 dX2_takeFirst_14 (by decide) ?_
    refine ev_irem dX2_takeFirst_16 (by decide) ?_
    refine ev_putI dX2_takeFirst_17 fpX2_19 rfl rfl   ?_
    obtain ⟨h2, eh2⟩ : ∃ z : Hp, z = sI h 13 (upd (h.1 13) 2 (((h.1 13 2) + 1) - ((h.1 13 2) + 1) / 40 * 40)) := ⟨_, rfl⟩
    rw [← eh2]
    have H := H h2 eh2
    refine ev_aload_n 0 dX2_takeFirst_20 rfl (x := 13) rfl ?_
    refine ev_dup dX2_takeFirst_21 rfl ?_
    refine ev_getI dX2_takeFirst_22 flX2_23 rfl rfl ?_
    refine ev_iconst 1 dX2_takeFirst_25 (by decide) ?_
    refine ev_isub dX2_takeFirst_26 ?_
    refine ev_putI dX2_takeFirst_27 fpX2_23 rfl rfl   ?_
    obtain ⟨h3, eh3⟩ : ∃ z : Hp, z = sI h2 13 (upd (h2.1 13) 3 ((h2.1 13 3) - 1)) := ⟨_, rfl⟩
    rw [← eh3]
    have H := H h3 eh3
    exact ev_vret dX2_takeFirst_30 rfl H
set_option maxRecDepth 20000 in
theorem sX3_clear {h : Hp} {Q : Option AV → Hp → Prop} (H : (∀ h1 : Hp, h1 = sI h 7 (upd (h.1 7) 1 0) → (∀ h2 : Hp, h2 = sI h1 7 (upd (h1.1 7) 4 0) → (∀ h3 : Hp, h3 = sI h2 7 (upd (h2.1 7) 6 0) → Q none h3)))) : EvM mX3_clear [vR 7] h Q := by
  refine evM_of (by decide) rfl (Nat.le_of_ble_eq_true rfl) ?_
  show Ev mX3_clear 0 [(0, vR 7)] [] h Q
  refine ev_aload_n 0 dX3_clear_0 rfl (x := 7) rfl ?_
  refine ev_iconst 0 dX3_clear_1 (by decide) ?_
  refine ev_putI dX3_clear_2 fpX3_15 rfl rfl   ?_
  obtain ⟨h1, eh1⟩ : ∃ z : Hp, z = sI h 7 (upd (h.1 7) 1 0) := ⟨_, rfl⟩
  rw [← eh1]
  have H := H h1 eh1
  refine ev_aload_n 0 dX3_clear_5 rfl (x := 7) rfl ?_
  refine ev_iconst 0 dX3_clear_6 (by decide) ?_
  refine ev_putI dX3_clear_7 fpX3_25 rfl rfl   ?_
  obtain ⟨h2, eh2⟩ : ∃ z : Hp, z = sI h1 7 (upd (h1.1 7) 4 0) := ⟨_, rfl⟩
  rw [← eh2]
  have H := H h2 eh2
  refine ev_aload_n 0 dX3_clear_10 rfl (x := 7) rfl ?_
  refine ev_iconst 0 dX3_clear_11 (by decide) ?_
  refine ev_putI dX3_clear_12 fpX3_32 rfl rfl   ?_
  obtain ⟨h3, eh3⟩ : ∃ z : Hp, z = sI h2 7 (upd (h2.1 7) 6 0) := ⟨_, rfl⟩
  rw [← eh3]
  have H := H h3 eh3
  exact ev_vret dX3_clear_15 rfl H
set_option maxRecDepth 20000 in
theorem sX3_count {h : Hp} {Q : Option AV → Hp → Prop} (H : Q (some (vI (h.1 7 6))) h) : EvM mX3_count [vR 7] h Q := by
  refine evM_of (by decide) rfl (Nat.le_of_ble_eq_true rfl) ?_
  show Ev mX3_count 0 [(0, vR 7)] [] h Q
  refine ev_aload_n 0 dX3_count_0 rfl (x := 7) rfl ?_
  refine ev_getI dX3_count_1 flX3_32 rfl rfl ?_
  exact ev_iret dX3_count_4 rfl H
set_option maxRecDepth 20000 in
theorem sX3_pickedCount {h : Hp} {Q : Option AV → Hp → Prop} (H : Q (some (vI (h.1 7 1))) h) : EvM mX3_pickedCount [vR 7] h Q := by
  refine evM_of (by decide) rfl (Nat.le_of_ble_eq_true rfl) ?_
  show Ev mX3_pickedCount 0 [(0, vR 7)] [] h Q
  refine ev_aload_n 0 dX3_pickedCount_0 rfl (x := 7) rfl ?_
  refine ev_getI dX3_pickedCount_1 flX3_15 rfl rfl ?_
  exact ev_iret dX3_pickedCount_4 rfl H
set_option maxRecDepth 20000 in
theorem sX3_total {h : Hp} {Q : Option AV → Hp → Prop} (H : Q (some (vI (h.1 7 4))) h) : EvM mX3_total [vR 7] h Q := by
  refine evM_of (by decide) rfl (Nat.le_of_ble_eq_true rfl) ?_
  show Ev mX3_total 0 [(0, vR 7)] [] h Q
  refine ev_aload_n 0 dX3_total_0 rfl (x := 7) rfl ?_
  refine ev_getI dX3_total_1 flX3_25 rfl rfl ?_
  exact ev_iret dX3_total_4 rfl H
set_option maxRecDepth 20000 in
theorem sX3_entryAt {h : Hp} {Q : Option AV → Hp → Prop} {x1 : Int32} (H : (((x1 < 0) → Q (some (vL 0)) h) ∧ ((¬ x1 < 0) → ((((h.1 7 4) ≤ x1) → Q (some (vL 0)) h) ∧ ((¬ (h.1 7 4) ≤ x1) → (vp_in x1 240 ∧ Q (some (vL (h.2.1 9 (Int32.toNatClampNeg x1)))) h)))))) : EvM mX3_entryAt [vR 7, vI x1] h Q := by
  refine evM_of (by decide) rfl (Nat.le_of_ble_eq_true rfl) ?_
  show Ev mX3_entryAt 0 [(0, vR 7), (1, vI x1)] [] h Q
  refine ev_iload_n 1 dX3_entryAt_0 rfl (x := x1) rfl ?_
  refine ev_if_lt 21 dX3_entryAt_1 (by decide) ⟨fun c1 => ?_, fun c1 => ?_⟩
  · have H := H.1 c1
    refine ev_lconst 0 dX3_entryAt_21 (by decide) ?_
    exact ev_lret dX3_entryAt_22 rfl H
  · have H := H.2 c1
    refine ev_iload_n 1 dX3_entryAt_4 rfl (x := x1) rfl ?_
    refine ev_aload_n 0 dX3_entryAt_5 rfl (x := 7) rfl ?_
    refine ev_getI dX3_entryAt_6 flX3_25 rfl rfl ?_
    refine ev_icmp_ge 21 dX3_entryAt_9 (by decide) ⟨fun c2 => ?_, fun c2 => ?_⟩
    · have H := H.1 c2
      refine ev_lconst 0 dX3_entryAt_21 (by decide) ?_
      exact ev_lret dX3_entryAt_22 rfl H
    · have H := H.2 c2
      refine ev_aload_n 0 dX3_entryAt_12 rfl (x := 7) rfl ?_
      refine ev_getR dX3_entryAt_13 flX3_19 rfl rfl ?_
      refine ev_iload_n 1 dX3_entryAt_16 rfl (x := x1) rfl ?_
      obtain ⟨b3, H⟩ := H
      refine ev_lald dX3_entryAt_17 rfl (by decide) b3 ?_
      refine ev_goto 22 dX3_entryAt_18 (by decide) ?_
      exact ev_lret dX3_entryAt_22 rfl H
set_option maxRecDepth 20000 in
theorem sX3_pick {h : Hp} {Q : Option AV → Hp → Prop} {x1 : Int64} (H : ((((h.1 7 1) < 36) → Ev mX3_pick 18 [(0, vR 7), (1, vL x1), (3, vI (h.1 7 1))] [] h Q) ∧ ((¬ (h.1 7 1) < 36) → Q none h))) : EvM mX3_pick [vR 7, vL x1] h Q := by
  refine evM_of (by decide) rfl (Nat.le_of_ble_eq_true rfl) ?_
  show Ev mX3_pick 0 [(0, vR 7), (1, vL x1)] [] h Q
  refine ev_aload_n 0 dX3_pick_0 rfl (x := 7) rfl ?_
  refine ev_getI dX3_pick_1 flX3_15 rfl rfl ?_
  refine ev_aload_n 0 dX3_pick_4 rfl (x := 7) rfl ?_
  refine ev_getR dX3_pick_5 flX3_9 rfl rfl ?_
  refine ev_alen 36 dX3_pick_8 rfl (by decide) (by decide) (by decide) ?_
  refine ev_icmp_lt 13 dX3_pick_9 (by decide) ⟨fun c1 => ?_, fun c1 => ?_⟩
  · have H := H.1 c1
    refine ev_aload_n 0 dX3_pick_13 rfl (x := 7) rfl ?_
    refine ev_getI dX3_pick_14 flX3_15 rfl rfl ?_
    refine ev_istore_n 3 dX3_pick_17 rfl (by decide) ?_
    refine ev_L (L' := [(3, vI (h.1 7 1)), (0, vR 7), (1, vL x1)]) rfl ?_
    exact ev_sub (L' := [(0, vR 7), (1, vL x1), (3, vI (h.1 7 1))]) ⟨rfl, rfl, rfl, trivial⟩ H
  · have H := H.2 c1
    exact ev_vret dX3_pick_12 rfl H
set_option maxRecDepth 20000 in
theorem sX3_pick_18 {h : Hp} {Q : Option AV → Hp → Prop} {x1 : Int64} {x3 : Int32} (H : (((x3 ≤ 0) → Ev mX3_pick 55 [(0, vR 7), (1, vL x1), (3, vI x3)] [] h Q) ∧ ((¬ x3 ≤ 0) → (vp_in (x3 - 1) 36 ∧ ((((lg_cmp (h.2.1 8 (Int32.toNatClampNeg (x3 - 1))) x1) ≤ 0) → Ev mX3_pick 55 [(0, vR 7), (1, vL x1), (3, vI x3)] [] h Q) ∧ ((¬ (lg_cmp (h.2.1 8 (Int32.toNatClampNeg (x3 - 1))) x1) ≤ 0) → (vp_in (x3 - 1) 36 ∧ (vp_in x3 36 ∧ (∀ h6 : Hp, h6 = sJ h 8 (vp_updL (h.2.1 8) (Int32.toNatClampNeg x3) (h.2.1 8 (Int32.toNatClampNeg (x3 - 1)))) → Ev mX3_pick 18 [(0, vR 7), (1, vL x1), (3, vI (x3 + (-1)))] [] h6 Q))))))))) : Ev mX3_pick 18 [(0, vR 7), (1, vL x1), (3, vI x3)] [] h Q := by
  refine ev_iload_n 3 dX3_pick_18 rfl (x := x3) rfl ?_
  refine ev_if_le 55 dX3_pick_19 (by decide) ⟨fun c1 => ?_, fun c1 => ?_⟩
  · have H := H.1 c1
    exact ev_sub (L' := [(0, vR 7), (1, vL x1), (3, vI x3)]) ⟨rfl, rfl, rfl, trivial⟩ H
  · have H := H.2 c1
    refine ev_aload_n 0 dX3_pick_22 rfl (x := 7) rfl ?_
    refine ev_getR dX3_pick_23 flX3_9 rfl rfl ?_
    refine ev_iload_n 3 dX3_pick_26 rfl (x := x3) rfl ?_
    refine ev_iconst 1 dX3_pick_27 (by decide) ?_
    refine ev_isub dX3_pick_28 ?_
    obtain ⟨b2, H⟩ := H
    refine ev_lald dX3_pick_29 rfl (by decide) b2 ?_
    refine ev_lload_n 1 dX3_pick_30 rfl (x := x1) rfl ?_
    refine ev_lcmp dX3_pick_31 ?_
    refine ev_if_le 55 dX3_pick_32 (by decide) ⟨fun c3 => ?_, fun c3 => ?_⟩
    · have H := H.1 c3
      exact ev_sub (L' := [(0, vR 7), (1, vL x1), (3, vI x3)]) ⟨rfl, rfl, rfl, trivial⟩ H
    · have H := H.2 c3
      refine ev_aload_n 0 dX3_pick_35 rfl (x := 7) rfl ?_
      refine ev_getR dX3_pick_36 flX3_9 rfl rfl ?_
      refine ev_iload_n 3 dX3_pick_39 rfl (x := x3) rfl ?_
      refine ev_aload_n 0 dX3_pick_40 rfl (x := 7) rfl ?_
      refine ev_getR dX3_pick_41 flX3_9 rfl rfl ?_
      refine ev_iload_n 3 dX3_pick_44 rfl (x := x3) rfl ?_
      refine ev_iconst 1 dX3_pick_45 (by decide) ?_
      refine ev_isub dX3_pick_46 ?_
      obtain ⟨b4, H⟩ := H
      refine ev_lald dX3_pick_47 rfl (by decide) b4 ?_
      obtain ⟨b5, H⟩ := H
      refine ev_last dX3_pick_48 rfl (by decide) b5  ?_
      obtain ⟨h6, eh6⟩ : ∃ z : Hp, z = sJ h 8 (vp_updL (h.2.1 8) (Int32.toNatClampNeg x3) (h.2.1 8 (Int32.toNatClampNeg (x3 - 1)))) := ⟨_, rfl⟩
      rw [← eh6]
      have H := H h6 eh6
      refine ev_iinc (x := x3) (v := (-1)) dX3_pick_49 rfl (by decide) (by decide) ?_
      refine ev_L (L' := [(3, vI (x3 + (-1))), (0, vR 7), (1, vL x1)]) rfl ?_
      refine ev_goto 18 dX3_pick_52 (by decide) ?_
      exact ev_sub (L' := [(0, vR 7), (1, vL x1), (3, vI (x3 + (-1)))]) ⟨rfl, rfl, rfl, trivial⟩ H
set_option maxRecDepth 20000 in
theorem sX3_pick_55 {h : Hp} {Q : Option AV → Hp → Prop} {x1 : Int64} {x3 : Int32} (H : (vp_in x3 36 ∧ (∀ h2 : Hp, h2 = sJ h 8 (vp_updL (h.2.1 8) (Int32.toNatClampNeg x3) x1) → (∀ h3 : Hp, h3 = sI h2 7 (upd (h2.1 7) 1 ((h2.1 7 1) + 1)) → Q none h3)))) : Ev mX3_pick 55 [(0, vR 7), (1, vL x1), (3, vI x3)] [] h Q := by
  refine ev_aload_n 0 dX3_pick_55 rfl (x := 7) rfl ?_
  refine ev_getR dX3_pick_56 flX3_9 rfl rfl ?_
  refine ev_iload_n 3 dX3_pick_59 rfl (x := x3) rfl ?_
  refine ev_lload_n 1 dX3_pick_60 rfl (x := x1) rfl ?_
  obtain ⟨b1, H⟩ := H
  refine ev_last dX3_pick_61 rfl (by decide) b1  ?_
  obtain ⟨h2, eh2⟩ : ∃ z : Hp, z = sJ h 8 (vp_updL (h.2.1 8) (Int32.toNatClampNeg x3) x1) := ⟨_, rfl⟩
  rw [← eh2]
  have H := H h2 eh2
  refine ev_aload_n 0 dX3_pick_62 rfl (x := 7) rfl ?_
  refine ev_dup dX3_pick_63 rfl ?_
  refine ev_getI dX3_pick_64 flX3_15 rfl rfl ?_
  refine ev_iconst 1 dX3_pick_67 (by decide) ?_
  refine ev_iadd dX3_pick_68 ?_
  refine ev_putI dX3_pick_69 fpX3_15 rfl rfl   ?_
  obtain ⟨h3, eh3⟩ : ∃ z : Hp, z = sI h2 7 (upd (h2.1 7) 1 ((h2.1 7 1) + 1)) := ⟨_, rfl⟩
  rw [← eh3]
  have H := H h3 eh3
  exact ev_vret dX3_pick_72 rfl H
set_option maxRecDepth 20000 in
theorem sX3_closeRun {h : Hp} {Q : Option AV → Hp → Prop} (H : (((11 ≤ (h.1 7 6)) → Q none h) ∧ ((¬ 11 ≤ (h.1 7 6)) → (((((h.1 7 4) + (h.1 7 1)) ≤ 240) → (cpk 0 (h.1 7 4) (h.1 7 1) 36 240 ∧ ∀ h4 : Hp, h4 = sJ h 9 (va_cpy (h.2.1 8) (h.2.1 9) (Int32.toNatClampNeg 0) (Int32.toNatClampNeg (h.1 7 4)) (Int32.toNatClampNeg (h.1 7 1))) → (∀ h5 : Hp, h5 = sI h4 7 (upd (h4.1 7) 4 ((h4.1 7 4) + (h4.1 7 1))) → (vp_in (h5.1 7 6) 11 ∧ (∀ h7 : Hp, h7 = sI h5 11 (upd (h5.1 11) (Int32.toNatClampNeg (h5.1 7 6)) (h5.1 7 1)) → (∀ h8 : Hp, h8 = sI h7 7 (upd (h7.1 7) 6 ((h7.1 7 6) + 1)) → (∀ h9 : Hp, h9 = sI h8 7 (upd (h8.1 7) 1 0) → Q none h9))))))) ∧ ((¬ ((h.1 7 4) + (h.1 7 1)) ≤ 240) → Q none h))))) : EvM mX3_closeRun [vR 7] h Q := by
  refine evM_of (by decide) rfl (Nat.le_of_ble_eq_true rfl) ?_
  show Ev mX3_closeRun 0 [(0, vR 7)] [] h Q
  refine ev_aload_n 0 dX3_closeRun_0 rfl (x := 7) rfl ?_
  refine ev_getI dX3_closeRun_1 flX3_32 rfl rfl ?_
  refine ev_aload_n 0 dX3_closeRun_4 rfl (x := 7) rfl ?_
  refine ev_getR dX3_closeRun_5 flX3_28 rfl rfl ?_
  refine ev_alen 11 dX3_closeRun_8 rfl (by decide) (by decide) (by decide) ?_
  refine ev_icmp_ge 29 dX3_closeRun_9 (by decide) ⟨fun c1 => ?_, fun c1 => ?_⟩
  · have H := H.1 c1
    exact ev_vret dX3_closeRun_29 rfl H
  · have H := H.2 c1
    refine ev_aload_n 0 dX3_closeRun_12 rfl (x := 7) rfl ?_
    refine ev_getI dX3_closeRun_13 flX3_25 rfl rfl ?_
    refine ev_aload_n 0 dX3_closeRun_16 rfl (x := 7) rfl ?_
    refine ev_getI dX3_closeRun_17 flX3_15 rfl rfl ?_
    refine ev_iadd dX3_closeRun_20 ?_
    refine ev_aload_n 0 dX3_closeRun_21 rfl (x := 7) rfl ?_
    refine ev_getR dX3_closeRun_22 flX3_19 rfl rfl ?_
    refine ev_alen 240 dX3_closeRun_25 rfl (by decide) (by decide) (by decide) ?_
    refine ev_icmp_le 30 dX3_closeRun_26 (by decide) ⟨fun c2 => ?_, fun c2 => ?_⟩
    · have H := H.1 c2
      refine ev_aload_n 0 dX3_closeRun_30 rfl (x := 7) rfl ?_
      refine ev_getR dX3_closeRun_31 flX3_9 rfl rfl ?_
      refine ev_iconst 0 dX3_closeRun_34 (by decide) ?_
      refine ev_aload_n 0 dX3_closeRun_35 rfl (x := 7) rfl ?_
      refine ev_getR dX3_closeRun_36 flX3_19 rfl rfl ?_
      refine ev_aload_n 0 dX3_closeRun_39 rfl (x := 7) rfl ?_
      refine ev_getI dX3_closeRun_40 flX3_25 rfl rfl ?_
      refine ev_aload_n 0 dX3_closeRun_43 rfl (x := 7) rfl ?_
      refine ev_getI dX3_closeRun_44 flX3_15 rfl rfl ?_
      obtain ⟨b3, H⟩ := H
      refine ev_copyL dX3_closeRun_47 mcX3_35 rc_mX3_closeRun rfl rfl (by decide) (by decide) b3 (Nat.le_of_ble_eq_true rfl) ?_
      obtain ⟨h4, eh4⟩ : ∃ z : Hp, z = sJ h 9 (va_cpy (h.2.1 8) (h.2.1 9) (Int32.toNatClampNeg 0) (Int32.toNatClampNeg (h.1 7 4)) (Int32.toNatClampNeg (h.1 7 1))) := ⟨_, rfl⟩
      rw [← eh4]
      have H := H h4 eh4
      refine ev_aload_n 0 dX3_closeRun_50 rfl (x := 7) rfl ?_
      refine ev_dup dX3_closeRun_51 rfl ?_
      refine ev_getI dX3_closeRun_52 flX3_25 rfl rfl ?_
      refine ev_aload_n 0 dX3_closeRun_55 rfl (x := 7) rfl ?_
      refine ev_getI dX3_closeRun_56 flX3_15 rfl rfl ?_
      refine ev_iadd dX3_closeRun_59 ?_
      refine ev_putI dX3_closeRun_60 fpX3_25 rfl rfl   ?_
      obtain ⟨h5, eh5⟩ : ∃ z : Hp, z = sI h4 7 (upd (h4.1 7) 4 ((h4.1 7 4) + (h4.1 7 1))) := ⟨_, rfl⟩
      rw [← eh5]
      have H := H h5 eh5
      refine ev_aload_n 0 dX3_closeRun_63 rfl (x := 7) rfl ?_
      refine ev_getR dX3_closeRun_64 flX3_28 rfl rfl ?_
      refine ev_aload_n 0 dX3_closeRun_67 rfl (x := 7) rfl ?_
      refine ev_getI dX3_closeRun_68 flX3_32 rfl rfl ?_
      refine ev_aload_n 0 dX3_closeRun_71 rfl (x := 7) rfl ?_
      refine ev_getI dX3_closeRun_72 flX3_15 rfl rfl ?_
      obtain ⟨b6, H⟩ := H
      refine ev_iast dX3_closeRun_75 rfl b6  ?_
      obtain ⟨h7, eh7⟩ : ∃ z : Hp, z = sI h5 11 (upd (h5.1 11) (Int32.toNatClampNeg (h5.1 7 6)) (h5.1 7 1)) := ⟨_, rfl⟩
      rw [← eh7]
      have H := H h7 eh7
      refine ev_aload_n 0 dX3_closeRun_76 rfl (x := 7) rfl ?_
      refine ev_dup dX3_closeRun_77 rfl ?_
      refine ev_getI dX3_closeRun_78 flX3_32 rfl rfl ?_
      refine ev_iconst 1 dX3_closeRun_81 (by decide) ?_
      refine ev_iadd dX3_closeRun_82 ?_
      refine ev_putI dX3_closeRun_83 fpX3_32 rfl rfl   ?_
      obtain ⟨h8, eh8⟩ : ∃ z : Hp, z = sI h7 7 (upd (h7.1 7) 6 ((h7.1 7 6) + 1)) := ⟨_, rfl⟩
      rw [← eh8]
      have H := H h8 eh8
      refine ev_aload_n 0 dX3_closeRun_86 rfl (x := 7) rfl ?_
      refine ev_iconst 0 dX3_closeRun_87 (by decide) ?_
      refine ev_putI dX3_closeRun_88 fpX3_15 rfl rfl   ?_
      obtain ⟨h9, eh9⟩ : ∃ z : Hp, z = sI h8 7 (upd (h8.1 7) 1 0) := ⟨_, rfl⟩
      rw [← eh9]
      have H := H h9 eh9
      exact ev_vret dX3_closeRun_91 rfl H
    · have H := H.2 c2
      exact ev_vret dX3_closeRun_29 rfl H
set_option maxRecDepth 20000 in
theorem sX3_mergeFirstTwo {h : Hp} {Q : Option AV → Hp → Prop} (H : (((2 ≤ (h.1 7 6)) → EvM mX3_mergeInto [vR 7, vI (h.1 11 (Int32.toNatClampNeg 0)), vI ((h.1 11 (Int32.toNatClampNeg 0)) + (h.1 11 (Int32.toNatClampNeg 1)))] h (fun v h2 => v = none ∧ (cpk ((h.1 11 (Int32.toNatClampNeg 0)) + (h.1 11 (Int32.toNatClampNeg 1))) 0 ((h2.1 7 4) - ((h.1 11 (Int32.toNatClampNeg 0)) + (h.1 11 (Int32.toNatClampNeg 1)))) 240 240 ∧ ∀ h4 : Hp, h4 = sJ h2 9 (va_cpy (h2.2.1 9) (h2.2.1 9) (Int32.toNatClampNeg ((h.1 11 (Int32.toNatClampNeg 0)) + (h.1 11 (Int32.toNatClampNeg 1)))) (Int32.toNatClampNeg 0) (Int32.toNatClampNeg ((h2.1 7 4) - ((h.1 11 (Int32.toNatClampNeg 0)) + (h.1 11 (Int32.toNatClampNeg 1)))))) → (cpk 0 ((h4.1 7 4) - ((h.1 11 (Int32.toNatClampNeg 0)) + (h.1 11 (Int32.toNatClampNeg 1)))) ((h.1 11 (Int32.toNatClampNeg 0)) + (h.1 11 (Int32.toNatClampNeg 1))) 240 240 ∧ ∀ h6 : Hp, h6 = sJ h4 9 (va_cpy (h4.2.1 10) (h4.2.1 9) (Int32.toNatClampNeg 0) (Int32.toNatClampNeg ((h4.1 7 4) - ((h.1 11 (Int32.toNatClampNeg 0)) + (h.1 11 (Int32.toNatClampNeg 1))))) (Int32.toNatClampNeg ((h.1 11 (Int32.toNatClampNeg 0)) + (h.1 11 (Int32.toNatClampNeg 1))))) → Ev mX3_mergeFirstTwo 75 [(0, vR 7), (1, vI ((h.1 11 (Int32.toNatClampNeg 0)) + (h.1 11 (Int32.toNatClampNeg 1)))), (2, vI 2)] [] h6 Q)))) ∧ ((¬ 2 ≤ (h.1 7 6)) → Q (some (vI 0)) h))) : EvM mX3_mergeFirstTwo [vR 7] h Q := by
  refine evM_of (by decide) rfl (Nat.le_of_ble_eq_true rfl) ?_
  show Ev mX3_mergeFirstTwo 0 [(0, vR 7)] [] h Q
  refine ev_aload_n 0 dX3_mergeFirstTwo_0 rfl (x := 7) rfl ?_
  refine ev_getI dX3_mergeFirstTwo_1 flX3_32 rfl rfl ?_
  refine ev_iconst 2 dX3_mergeFirstTwo_4 (by decide) ?_
  refine ev_icmp_ge 10 dX3_mergeFirstTwo_5 (by decide) ⟨fun c1 => ?_, fun c1 => ?_⟩
  · have H := H.1 c1
    refine ev_aload_n 0 dX3_mergeFirstTwo_10 rfl (x := 7) rfl ?_
    refine ev_getR dX3_mergeFirstTwo_11 flX3_28 rfl rfl ?_
    refine ev_iconst 0 dX3_mergeFirstTwo_14 (by decide) ?_
    refine ev_iald dX3_mergeFirstTwo_15 rfl (by unfold vp_in; decide) ?_
    refine ev_aload_n 0 dX3_mergeFirstTwo_16 rfl (x := 7) rfl ?_
    refine ev_getR dX3_mergeFirstTwo_17 flX3_28 rfl rfl ?_
    refine ev_iconst 1 dX3_mergeFirstTwo_20 (by decide) ?_
    refine ev_iald dX3_mergeFirstTwo_21 rfl (by unfold vp_in; decide) ?_
    refine ev_iadd dX3_mergeFirstTwo_22 ?_
    refine ev_istore_n 1 dX3_mergeFirstTwo_23 rfl (by decide) ?_
    refine ev_L (L' := [(1, vI ((h.1 11 (Int32.toNatClampNeg 0)) + (h.1 11 (Int32.toNatClampNeg 1)))), (0, vR 7)]) rfl ?_
    refine ev_aload_n 0 dX3_mergeFirstTwo_24 rfl (x := 7) rfl ?_
    refine ev_aload_n 0 dX3_mergeFirstTwo_25 rfl (x := 7) rfl ?_
    refine ev_getR dX3_mergeFirstTwo_26 flX3_28 rfl rfl ?_
    refine ev_iconst 0 dX3_mergeFirstTwo_29 (by decide) ?_
    refine ev_iald dX3_mergeFirstTwo_30 rfl (by unfold vp_in; decide) ?_
    refine ev_iload_n 1 dX3_mergeFirstTwo_31 rfl (x := ((h.1 11 (Int32.toNatClampNeg 0)) + (h.1 11 (Int32.toNatClampNeg 1)))) rfl ?_
    refine ev_callV (As := [vI (h.1 11 (Int32.toNatClampNeg 0)), vI ((h.1 11 (Int32.toNatClampNeg 0)) + (h.1 11 (Int32.toNatClampNeg 1)))]) (rest := []) dX3_mergeFirstTwo_32 mlX3_41 rm_mX3_mergeFirstTwo_mX3_mergeInto rfl rfl rfl rfl (Nat.le_of_ble_eq_true rfl) H (fun v h2 H => ?_)
    obtain ⟨rfl, H⟩ := H
    show Ev mX3_mergeFirstTwo 35 [(1, vI ((h.1 11 (Int32.toNatClampNeg 0)) + (h.1 11 (Int32.toNatClampNeg 1)))), (0, vR 7)] [] h2 Q
    refine ev_aload_n 0 dX3_mergeFirstTwo_35 rfl (x := 7) rfl ?_
    refine ev_getR dX3_mergeFirstTwo_36 flX3_19 rfl rfl ?_
    refine ev_iload_n 1 dX3_mergeFirstTwo_39 rfl (x := ((h.1 11 (Int32.toNatClampNeg 0)) + (h.1 11 (Int32.toNatClampNeg 1)))) rfl ?_
    refine ev_aload_n 0 dX3_mergeFirstTwo_40 rfl (x := 7) rfl ?_
    refine ev_getR dX3_mergeFirstTwo_41 flX3_19 rfl rfl ?_
    refine ev_iconst 0 dX3_mergeFirstTwo_44 (by decide) ?_
    refine ev_aload_n 0 dX3_mergeFirstTwo_45 rfl (x := 7) rfl ?_
    refine ev_getI dX3_mergeFirstTwo_46 flX3_25 rfl rfl ?_
    refine ev_iload_n 1 dX3_mergeFirstTwo_49 rfl (x := ((h.1 11 (Int32.toNatClampNeg 0)) + (h.1 11 (Int32.toNatClampNeg 1)))) rfl ?_
    refine ev_isub dX3_mergeFirstTwo_50 ?_
    obtain ⟨b3, H⟩ := H
    refine ev_copyL dX3_mergeFirstTwo_51 mcX3_35 rc_mX3_mergeFirstTwo rfl rfl (by decide) (by decide) b3 (Nat.le_of_ble_eq_true rfl) ?_
    obtain ⟨h4, eh4⟩ : ∃ z : Hp, z = sJ h2 9 (va_cpy (h2.2.1 9) (h2.2.1 9) (Int32.toNatClampNeg ((h.1 11 (Int32.toNatClampNeg 0)) + (h.1 11 (Int32.toNatClampNeg 1)))) (Int32.toNatClampNeg 0) (Int32.toNatClampNeg ((h2.1 7 4) - ((h.1 11 (Int32.toNatClampNeg 0)) + (h.1 11 (Int32.toNatClampNeg 1)))))) := ⟨_, rfl⟩
    rw [← eh4]
    have H := H h4 eh4
    refine ev_aload_n 0 dX3_mergeFirstTwo_54 rfl (x := 7) rfl ?_
    refine ev_getR dX3_mergeFirstTwo_55 flX3_22 rfl rfl ?_
    refine ev_iconst 0 dX3_mergeFirstTwo_58 (by decide) ?_
    refine ev_aload_n 0 dX3_mergeFirstTwo_59 rfl (x := 7) rfl ?_
    refine ev_getR dX3_mergeFirstTwo_60 flX3_19 rfl rfl ?_
    refine ev_aload_n 0 dX3_mergeFirstTwo_63 rfl (x := 7) rfl ?_
    refine ev_getI dX3_mergeFirstTwo_64 flX3_25 rfl rfl ?_
    refine ev_iload_n 1 dX3_mergeFirstTwo_67 rfl (x := ((h.1 11 (Int32.toNatClampNeg 0)) + (h.1 11 (Int32.toNatClampNeg 1)))) rfl ?_
    refine ev_isub dX3_mergeFirstTwo_68 ?_
    refine ev_iload_n 1 dX3_mergeFirstTwo_69 rfl (x := ((h.1 11 (Int32.toNatClampNeg 0)) + (h.1 11 (Int32.toNatClampNeg 1)))) rfl ?_
    obtain ⟨b5, H⟩ := H
    refine ev_copyL dX3_mergeFirstTwo_70 mcX3_35 rc_mX3_mergeFirstTwo rfl rfl (by decide) (by decide) b5 (Nat.le_of_ble_eq_true rfl) ?_
    obtain ⟨h6, eh6⟩ : ∃ z : Hp, z = sJ h4 9 (va_cpy (h4.2.1 10) (h4.2.1 9) (Int32.toNatClampNeg 0) (Int32.toNatClampNeg ((h4.1 7 4) - ((h.1 11 (Int32.toNatClampNeg 0)) + (h.1 11 (Int32.toNatClampNeg 1))))) (Int32.toNatClampNeg ((h.1 11 (Int32.toNatClampNeg 0)) + (h.1 11 (Int32.toNatClampNeg 1))))) := ⟨_, rfl⟩
    rw [← eh6]
    have H := H h6 eh6
    refine ev_iconst 2 dX3_mergeFirstTwo_73 (by decide) ?_
    refine ev_istore_n 2 dX3_mergeFirstTwo_74 rfl (by decide) ?_
    refine ev_L (L' := [(2, vI 2), (1, vI ((h.1 11 (Int32.toNatClampNeg 0)) + (h.1 11 (Int32.toNatClampNeg 1)))), (0, vR 7)]) rfl ?_
    exact ev_sub (L' := [(0, vR 7), (1, vI ((h.1 11 (Int32.toNatClampNeg 0)) + (h.1 11 (Int32.toNatClampNeg 1)))), (2, vI 2)]) ⟨rfl, rfl, rfl, trivial⟩ H
  · have H := H.2 c1
    refine ev_iconst 0 dX3_mergeFirstTwo_8 (by decide) ?_
    exact ev_iret dX3_mergeFirstTwo_9 rfl H
set_option maxRecDepth 20000 in
theorem sX3_mergeFirstTwo_75 {h : Hp} {Q : Option AV → Hp → Prop} {x1 : Int32} {x2 : Int32} (H : ((((h.1 7 6) ≤ x2) → (vp_in ((h.1 7 6) - 2) 11 ∧ (∀ h3 : Hp, h3 = sI h 11 (upd (h.1 11) (Int32.toNatClampNeg ((h.1 7 6) - 2)) x1) → (∀ h4 : Hp, h4 = sI h3 7 (upd (h3.1 7) 6 ((h3.1 7 6) - 1)) → Q (some (vI x1)) h4)))) ∧ ((¬ (h.1 7 6) ≤ x2) → (vp_in x2 11 ∧ (vp_in (x2 - 2) 11 ∧ (∀ h7 : Hp, h7 = sI h 11 (upd (h.1 11) (Int32.toNatClampNeg (x2 - 2)) (h.1 11 (Int32.toNatClampNeg x2))) → Ev mX3_mergeFirstTwo 75 [(0, vR 7), (1, vI x1), (2, vI (x2 + 1))] [] h7 Q)))))) : Ev mX3_mergeFirstTwo 75 [(0, vR 7), (1, vI x1), (2, vI x2)] [] h Q := by
  refine ev_iload_n 2 dX3_mergeFirstTwo_75 rfl (x := x2) rfl ?_
  refine ev_aload_n 0 dX3_mergeFirstTwo_76 rfl (x := 7) rfl ?_
  refine ev_getI dX3_mergeFirstTwo_77 flX3_32 rfl rfl ?_
  refine ev_icmp_ge 103 dX3_mergeFirstTwo_80 (by decide) ⟨fun c1 => ?_, fun c1 => ?_⟩
  · have H := H.1 c1
    refine ev_aload_n 0 dX3_mergeFirstTwo_103 rfl (x := 7) rfl ?_
    refine ev_getR dX3_mergeFirstTwo_104 flX3_28 rfl rfl ?_
    refine ev_aload_n 0 dX3_mergeFirstTwo_107 rfl (x := 7) rfl ?_
    refine ev_getI dX3_mergeFirstTwo_108 flX3_32 rfl rfl ?_
    refine ev_iconst 2 dX3_mergeFirstTwo_111 (by decide) ?_
    refine ev_isub dX3_mergeFirstTwo_112 ?_
    refine ev_iload_n 1 dX3_mergeFirstTwo_113 rfl (x := x1) rfl ?_
    obtain ⟨b2, H⟩ := H
    refine ev_iast dX3_mergeFirstTwo_114 rfl b2  ?_
    obtain ⟨h3, eh3⟩ : ∃ z : Hp, z = sI h 11 (upd (h.1 11) (Int32.toNatClampNeg ((h.1 7 6) - 2)) x1) := ⟨_, rfl⟩
    rw [← eh3]
    have H := H h3 eh3
    refine ev_aload_n 0 dX3_mergeFirstTwo_115 rfl (x := 7) rfl ?_
    refine ev_dup dX3_mergeFirstTwo_116 rfl ?_
    refine ev_getI dX3_mergeFirstTwo_117 flX3_32 rfl rfl ?_
    refine ev_iconst 1 dX3_mergeFirstTwo_120 (by decide) ?_
    refine ev_isub dX3_mergeFirstTwo_121 ?_
    refine ev_putI dX3_mergeFirstTwo_122 fpX3_32 rfl rfl   ?_
    obtain ⟨h4, eh4⟩ : ∃ z : Hp, z = sI h3 7 (upd (h3.1 7) 6 ((h3.1 7 6) - 1)) := ⟨_, rfl⟩
    rw [← eh4]
    have H := H h4 eh4
    refine ev_iload_n 1 dX3_mergeFirstTwo_125 rfl (x := x1) rfl ?_
    exact ev_iret dX3_mergeFirstTwo_126 rfl H
  · have H := H.2 c1
    refine ev_aload_n 0 dX3_mergeFirstTwo_83 rfl (x := 7) rfl ?_
    refine ev_getR dX3_mergeFirstTwo_84 flX3_28 rfl rfl ?_
    refine ev_iload_n 2 dX3_mergeFirstTwo_87 rfl (x := x2) rfl ?_
    refine ev_iconst 2 dX3_mergeFirstTwo_88 (by decide) ?_
    refine ev_isub dX3_mergeFirstTwo_89 ?_
    refine ev_aload_n 0 dX3_mergeFirstTwo_90 rfl (x := 7) rfl ?_
    refine ev_getR dX3_mergeFirstTwo_91 flX3_28 rfl rfl ?_
    refine ev_iload_n 2 dX3_mergeFirstTwo_94 rfl (x := x2) rfl ?_
    obtain ⟨b5, H⟩ := H
    refine ev_iald dX3_mergeFirstTwo_95 rfl b5 ?_
    obtain ⟨b6, H⟩ := H
    refine ev_iast dX3_mergeFirstTwo_96 rfl b6  ?_
    obtain ⟨h7, eh7⟩ : ∃ z : Hp, z = sI h 11 (upd (h.1 11) (Int32.toNatClampNeg (x2 - 2)) (h.1 11 (Int32.toNatClampNeg x2))) := ⟨_, rfl⟩
    rw [← eh7]
    have H := H h7 eh7
    refine ev_iinc (x := x2) (v := 1) dX3_mergeFirstTwo_97 rfl (by decide) (by decide) ?_
    refine ev_L (L' := [(2, vI (x2 + 1)), (0, vR 7), (1, vI x1)]) rfl ?_
    refine ev_goto 75 dX3_mergeFirstTwo_100 (by decide) ?_
    exact ev_sub (L' := [(0, vR 7), (1, vI x1), (2, vI (x2 + 1))]) ⟨rfl, rfl, rfl, trivial⟩ H
set_option maxRecDepth 20000 in
theorem sX3_mergeInto {h : Hp} {Q : Option AV → Hp → Prop} {x1 : Int32} {x2 : Int32} (H : Ev mX3_mergeInto 8 [(0, vR 7), (1, vI x1), (2, vI x2), (3, vI 0), (4, vI x1), (5, vI 0)] [] h Q) : EvM mX3_mergeInto [vR 7, vI x1, vI x2] h Q := by
  refine evM_of (by decide) rfl (Nat.le_of_ble_eq_true rfl) ?_
  show Ev mX3_mergeInto 0 [(0, vR 7), (1, vI x1), (2, vI x2)] [] h Q
  refine ev_iconst 0 dX3_mergeInto_0 (by decide) ?_
  refine ev_istore_n 3 dX3_mergeInto_1 rfl (by decide) ?_
  refine ev_L (L' := [(3, vI 0), (0, vR 7), (1, vI x1), (2, vI x2)]) rfl ?_
  refine ev_iload_n 1 dX3_mergeInto_2 rfl (x := x1) rfl ?_
  refine ev_istore dX3_mergeInto_3 (by decide) ?_
  refine ev_L (L' := [(4, vI x1), (3, vI 0), (0, vR 7), (1, vI x1), (2, vI x2)]) rfl ?_
  refine ev_iconst 0 dX3_mergeInto_5 (by decide) ?_
  refine ev_istore dX3_mergeInto_6 (by decide) ?_
  refine ev_L (L' := [(5, vI 0), (4, vI x1), (3, vI 0), (0, vR 7), (1, vI x1), (2, vI x2)]) rfl ?_
  exact ev_sub (L' := [(0, vR 7), (1, vI x1), (2, vI x2), (3, vI 0), (4, vI x1), (5, vI 0)]) ⟨rfl, rfl, rfl, rfl, rfl, rfl, trivial⟩ H
set_option maxRecDepth 20000 in
theorem sX3_mergeInto_8 {h : Hp} {Q : Option AV → Hp → Prop} {x1 : Int32} {x2 : Int32} {x3 : Int32} {x4 : Int32} {x5 : Int32} (H : (((x2 ≤ x5) → Q none h) ∧ ((¬ x2 ≤ x5) → (((x2 ≤ x4) → Ev mX3_mergeInto 42 [(0, vR 7), (1, vI x1), (2, vI x2), (3, vI x3), (4, vI x4), (5, vI x5)] [] h Q) ∧ ((¬ x2 ≤ x4) → (((x1 ≤ x3) → Ev mX3_mergeInto 61 [(0, vR 7), (1, vI x1), (2, vI x2), (3, vI x3), (4, vI x4), (5, vI x5)] [] h Q) ∧ ((¬ x1 ≤ x3) → (vp_in x3 240 ∧ (vp_in x4 240 ∧ (((0 ≤ (lg_cmp (h.2.1 9 (Int32.toNatClampNeg x3)) (h.2.1 9 (Int32.toNatClampNeg x4)))) → Ev mX3_mergeInto 61 [(0, vR 7), (1, vI x1), (2, vI x2), (3, vI x3), (4, vI x4), (5, vI x5)] [] h Q) ∧ ((¬ 0 ≤ (lg_cmp (h.2.1 9 (Int32.toNatClampNeg x3)) (h.2.1 9 (Int32.toNatClampNeg x4)))) → Ev mX3_mergeInto 42 [(0, vR 7), (1, vI x1), (2, vI x2), (3, vI x3), (4, vI x4), (5, vI x5)] [] h Q))))))))))) : Ev mX3_mergeInto 8 [(0, vR 7), (1, vI x1), (2, vI x2), (3, vI x3), (4, vI x4), (5, vI x5)] [] h Q := by
  refine ev_iload dX3_mergeInto_8 (x := x5) rfl ?_
  refine ev_iload_n 2 dX3_mergeInto_10 rfl (x := x2) rfl ?_
  refine ev_icmp_ge 84 dX3_mergeInto_11 (by decide) ⟨fun c1 => ?_, fun c1 => ?_⟩
  · have H := H.1 c1
    exact ev_vret dX3_mergeInto_84 rfl H
  · have H := H.2 c1
    refine ev_iload dX3_mergeInto_14 (x := x4) rfl ?_
    refine ev_iload_n 2 dX3_mergeInto_16 rfl (x := x2) rfl ?_
    refine ev_icmp_ge 42 dX3_mergeInto_17 (by decide) ⟨fun c2 => ?_, fun c2 => ?_⟩
    · have H := H.1 c2
      exact ev_sub (L' := [(0, vR 7), (1, vI x1), (2, vI x2), (3, vI x3), (4, vI x4), (5, vI x5)]) ⟨rfl, rfl, rfl, rfl, rfl, rfl, trivial⟩ H
    · have H := H.2 c2
      refine ev_iload_n 3 dX3_mergeInto_20 rfl (x := x3) rfl ?_
      refine ev_iload_n 1 dX3_mergeInto_21 rfl (x := x1) rfl ?_
      refine ev_icmp_ge 61 dX3_mergeInto_22 (by decide) ⟨fun c3 => ?_, fun c3 => ?_⟩
      · have H := H.1 c3
        exact ev_sub (L' := [(0, vR 7), (1, vI x1), (2, vI x2), (3, vI x3), (4, vI x4), (5, vI x5)]) ⟨rfl, rfl, rfl, rfl, rfl, rfl, trivial⟩ H
      · have H := H.2 c3
        refine ev_aload_n 0 dX3_mergeInto_25 rfl (x := 7) rfl ?_
        refine ev_getR dX3_mergeInto_26 flX3_19 rfl rfl ?_
        refine ev_iload_n 3 dX3_mergeInto_29 rfl (x := x3) rfl ?_
        obtain ⟨b4, H⟩ := H
        refine ev_lald dX3_mergeInto_30 rfl (by decide) b4 ?_
        refine ev_aload_n 0 dX3_mergeInto_31 rfl (x := 7) rfl ?_
        refine ev_getR dX3_mergeInto_32 flX3_19 rfl rfl ?_
        refine ev_iload dX3_mergeInto_35 (x := x4) rfl ?_
        obtain ⟨b5, H⟩ := H
        refine ev_lald dX3_mergeInto_37 rfl (by decide) b5 ?_
        refine ev_lcmp dX3_mergeInto_38 ?_
        refine ev_if_ge 61 dX3_mergeInto_39 (by decide) ⟨fun c6 => ?_, fun c6 => ?_⟩
        · have H := H.1 c6
          exact ev_sub (L' := [(0, vR 7), (1, vI x1), (2, vI x2), (3, vI x3), (4, vI x4), (5, vI x5)]) ⟨rfl, rfl, rfl, rfl, rfl, rfl, trivial⟩ H
        · have H := H.2 c6
          exact ev_sub (L' := [(0, vR 7), (1, vI x1), (2, vI x2), (3, vI x3), (4, vI x4), (5, vI x5)]) ⟨rfl, rfl, rfl, rfl, rfl, rfl, trivial⟩ H
set_option maxRecDepth 20000 in
theorem sX3_mergeInto_42 {h : Hp} {Q : Option AV → Hp → Prop} {x1 : Int32} {x2 : Int32} {x3 : Int32} {x4 : Int32} {x5 : Int32} (H : (vp_in x3 240 ∧ (vp_in x5 240 ∧ (∀ h3 : Hp, h3 = sJ h 10 (vp_updL (h.2.1 10) (Int32.toNatClampNeg x5) (h.2.1 9 (Int32.toNatClampNeg x3))) → Ev mX3_mergeInto 8 [(0, vR 7), (1, vI x1), (2, vI x2), (3, vI (x3 + 1)), (4, vI x4), (5, vI (x5 + 1))] [] h3 Q)))) : Ev mX3_mergeInto 42 [(0, vR 7), (1, vI x1), (2, vI x2), (3, vI x3), (4, vI x4), (5, vI x5)] [] h Q := by
  refine ev_aload_n 0 dX3_mergeInto_42 rfl (x := 7) rfl ?_
  refine ev_getR dX3_mergeInto_43 flX3_22 rfl rfl ?_
  refine ev_iload dX3_mergeInto_46 (x := x5) rfl ?_
  refine ev_aload_n 0 dX3_mergeInto_48 rfl (x := 7) rfl ?_
  refine ev_getR dX3_mergeInto_49 flX3_19 rfl rfl ?_
  refine ev_iload_n 3 dX3_mergeInto_52 rfl (x := x3) rfl ?_
  obtain ⟨b1, H⟩ := H
  refine ev_lald dX3_mergeInto_53 rfl (by decide) b1 ?_
  obtain ⟨b2, H⟩ := H
  refine ev_last dX3_mergeInto_54 rfl (by decide) b2  ?_
  obtain ⟨h3, eh3⟩ : ∃ z : Hp, z = sJ h 10 (vp_updL (h.2.1 10) (Int32.toNatClampNeg x5) (h.2.1 9 (Int32.toNatClampNeg x3))) := ⟨_, rfl⟩
  rw [← eh3]
  have H := H h3 eh3
  refine ev_iinc (x := x3) (v := 1) dX3_mergeInto_55 rfl (by decide) (by decide) ?_
  refine ev_L (L' := [(3, vI (x3 + 1)), (0, vR 7), (1, vI x1), (2, vI x2), (4, vI x4), (5, vI x5)]) rfl ?_
  refine ev_goto 78 dX3_mergeInto_58 (by decide) ?_
  refine ev_iinc (x := x5) (v := 1) dX3_mergeInto_78 rfl (by decide) (by decide) ?_
  refine ev_L (L' := [(5, vI (x5 + 1)), (3, vI (x3 + 1)), (0, vR 7), (1, vI x1), (2, vI x2), (4, vI x4)]) rfl ?_
  refine ev_goto 8 dX3_mergeInto_81 (by decide) ?_
  exact ev_sub (L' := [(0, vR 7), (1, vI x1), (2, vI x2), (3, vI (x3 + 1)), (4, vI x4), (5, vI (x5 + 1))]) ⟨rfl, rfl, rfl, rfl, rfl, rfl, trivial⟩ H
set_option maxRecDepth 20000 in
theorem sX3_mergeInto_61 {h : Hp} {Q : Option AV → Hp → Prop} {x1 : Int32} {x2 : Int32} {x3 : Int32} {x4 : Int32} {x5 : Int32} (H : (vp_in x4 240 ∧ (vp_in x5 240 ∧ (∀ h3 : Hp, h3 = sJ h 10 (vp_updL (h.2.1 10) (Int32.toNatClampNeg x5) (h.2.1 9 (Int32.toNatClampNeg x4))) → Ev mX3_mergeInto 8 [(0, vR 7), (1, vI x1), (2, vI x2), (3, vI x3), (4, vI (x4 + 1)), (5, vI (x5 + 1))] [] h3 Q)))) : Ev mX3_mergeInto 61 [(0, vR 7), (1, vI x1), (2, vI x2), (3, vI x3), (4, vI x4), (5, vI x5)] [] h Q := by
  refine ev_aload_n 0 dX3_mergeInto_61 rfl (x := 7) rfl ?_
  refine ev_getR dX3_mergeInto_62 flX3_22 rfl rfl ?_
  refine ev_iload dX3_mergeInto_65 (x := x5) rfl ?_
  refine ev_aload_n 0 dX3_mergeInto_67 rfl (x := 7) rfl ?_
  refine ev_getR dX3_mergeInto_68 flX3_19 rfl rfl ?_
  refine ev_iload dX3_mergeInto_71 (x := x4) rfl ?_
  obtain ⟨b1, H⟩ := H
  refine ev_lald dX3_mergeInto_73 rfl (by decide) b1 ?_
  obtain ⟨b2, H⟩ := H
  refine ev_last dX3_mergeInto_74 rfl (by decide) b2  ?_
  obtain ⟨h3, eh3⟩ : ∃ z : Hp, z = sJ h 10 (vp_updL (h.2.1 10) (Int32.toNatClampNeg x5) (h.2.1 9 (Int32.toNatClampNeg x4))) := ⟨_, rfl⟩
  rw [← eh3]
  have H := H h3 eh3
  refine ev_iinc (x := x4) (v := 1) dX3_mergeInto_75 rfl (by decide) (by decide) ?_
  refine ev_L (L' := [(4, vI (x4 + 1)), (0, vR 7), (1, vI x1), (2, vI x2), (3, vI x3), (5, vI x5)]) rfl ?_
  refine ev_iinc (x := x5) (v := 1) dX3_mergeInto_78 rfl (by decide) (by decide) ?_
  refine ev_L (L' := [(5, vI (x5 + 1)), (4, vI (x4 + 1)), (0, vR 7), (1, vI x1), (2, vI x2), (3, vI x3)]) rfl ?_
  refine ev_goto 8 dX3_mergeInto_81 (by decide) ?_
  exact ev_sub (L' := [(0, vR 7), (1, vI x1), (2, vI x2), (3, vI x3), (4, vI (x4 + 1)), (5, vI (x5 + 1))]) ⟨rfl, rfl, rfl, rfl, rfl, rfl, trivial⟩ H
set_option maxRecDepth 20000 in
theorem sX4_count {h : Hp} {Q : Option AV → Hp → Prop} (H : Q (some (vI (h.1 1 4))) h) : EvM mX4_count [vR 1] h Q := by
  refine evM_of (by decide) rfl (Nat.le_of_ble_eq_true rfl) ?_
  show Ev mX4_count 0 [(0, vR 1)] [] h Q
  refine ev_aload_n 0 dX4_count_0 rfl (x := 1) rfl ?_
  refine ev_getI dX4_count_1 flX4_25 rfl rfl ?_
  exact ev_iret dX4_count_4 rfl H
set_option maxRecDepth 20000 in
theorem sX4_has {h : Hp} {Q : Option AV → Hp → Prop} {x1 : Int32} (H : (((x1 < 0) → Q (some (vI 0)) h) ∧ ((¬ x1 < 0) → (((240 ≤ x1) → Q (some (vI 0)) h) ∧ ((¬ 240 ≤ x1) → (vp_in x1 240 ∧ ((((h.1 4 (Int32.toNatClampNeg x1)) = 0) → Q (some (vI 0)) h) ∧ ((¬ (h.1 4 (Int32.toNatClampNeg x1)) = 0) → Q (some (vI 1)) h)))))))) : EvM mX4_has [vR 1, vI x1] h Q := by
  refine evM_of (by decide) rfl (Nat.le_of_ble_eq_true rfl) ?_
  show Ev mX4_has 0 [(0, vR 1), (1, vI x1)] [] h Q
  refine ev_iload_n 1 dX4_has_0 rfl (x := x1) rfl ?_
  refine ev_if_lt 24 dX4_has_1 (by decide) ⟨fun c1 => ?_, fun c1 => ?_⟩
  · have H := H.1 c1
    refine ev_iconst 0 dX4_has_24 (by decide) ?_
    exact ev_zret dX4_has_25 rfl (by decide) H
  · have H := H.2 c1
    refine ev_iload_n 1 dX4_has_4 rfl (x := x1) rfl ?_
    refine ev_sipush 240 dX4_has_5 (by decide) ?_
    refine ev_icmp_ge 24 dX4_has_8 (by decide) ⟨fun c2 => ?_, fun c2 => ?_⟩
    · have H := H.1 c2
      refine ev_iconst 0 dX4_has_24 (by decide) ?_
      exact ev_zret dX4_has_25 rfl (by decide) H
    · have H := H.2 c2
      refine ev_aload_n 0 dX4_has_11 rfl (x := 1) rfl ?_
      refine ev_getR dX4_has_12 flX4_18 rfl rfl ?_
      refine ev_iload_n 1 dX4_has_15 rfl (x := x1) rfl ?_
      obtain ⟨b3, H⟩ := H
      refine ev_zald dX4_has_16 rfl b3 ?_
      refine ev_if_eq 24 dX4_has_17 (by decide) ⟨fun c4 => ?_, fun c4 => ?_⟩
      · have H := H.1 c4
        refine ev_iconst 0 dX4_has_24 (by decide) ?_
        exact ev_zret dX4_has_25 rfl (by decide) H
      · have H := H.2 c4
        refine ev_iconst 1 dX4_has_20 (by decide) ?_
        refine ev_goto 25 dX4_has_21 (by decide) ?_
        exact ev_zret dX4_has_25 rfl (by decide) H
set_option maxRecDepth 20000 in
theorem sX4_keyAt {h : Hp} {Q : Option AV → Hp → Prop} {x1 : Int32} (H : EvM mX4_has [vR 1, vI x1] h (fun v h1 => ∃ r2 : Int32, v = some (vI r2) ∧ (((r2 = 0) → Q (some (vI 0)) h1) ∧ ((¬ r2 = 0) → (vp_in x1 240 ∧ Q (some (vI (h1.1 2 (Int32.toNatClampNeg x1)))) h1))))) : EvM mX4_keyAt [vR 1, vI x1] h Q := by
  refine evM_of (by decide) rfl (Nat.le_of_ble_eq_true rfl) ?_
  show Ev mX4_keyAt 0 [(0, vR 1), (1, vI x1)] [] h Q
  refine ev_aload_n 0 dX4_keyAt_0 rfl (x := 1) rfl ?_
  refine ev_iload_n 1 dX4_keyAt_1 rfl (x := x1) rfl ?_
  refine ev_callV (As := [vI x1]) (rest := []) dX4_keyAt_2 mlX4_29 rm_mX4_keyAt_mX4_has rfl rfl rfl rfl (Nat.le_of_ble_eq_true rfl) H (fun v h1 H => ?_)
  obtain ⟨r2, rfl, H⟩ := H
  show Ev mX4_keyAt 5 [(0, vR 1), (1, vI x1)] [vI r2] h1 Q
  refine ev_if_eq 17 dX4_keyAt_5 (by decide) ⟨fun c3 => ?_, fun c3 => ?_⟩
  · have H := H.1 c3
    refine ev_iconst 0 dX4_keyAt_17 (by decide) ?_
    exact ev_iret dX4_keyAt_18 rfl H
  · have H := H.2 c3
    refine ev_aload_n 0 dX4_keyAt_8 rfl (x := 1) rfl ?_
    refine ev_getR dX4_keyAt_9 flX4_9 rfl rfl ?_
    refine ev_iload_n 1 dX4_keyAt_12 rfl (x := x1) rfl ?_
    obtain ⟨b4, H⟩ := H
    refine ev_iald dX4_keyAt_13 rfl b4 ?_
    refine ev_goto 18 dX4_keyAt_14 (by decide) ?_
    exact ev_iret dX4_keyAt_18 rfl H
set_option maxRecDepth 20000 in
theorem sX4_valueAt {h : Hp} {Q : Option AV → Hp → Prop} {x1 : Int32} (H : EvM mX4_has [vR 1, vI x1] h (fun v h1 => ∃ r2 : Int32, v = some (vI r2) ∧ (((r2 = 0) → Q (some (vI 0)) h1) ∧ ((¬ r2 = 0) → (vp_in x1 240 ∧ Q (some (vI (h1.1 3 (Int32.toNatClampNeg x1)))) h1))))) : EvM mX4_valueAt [vR 1, vI x1] h Q := by
  refine evM_of (by decide) rfl (Nat.le_of_ble_eq_true rfl) ?_
  show Ev mX4_valueAt 0 [(0, vR 1), (1, vI x1)] [] h Q
  refine ev_aload_n 0 dX4_valueAt_0 rfl (x := 1) rfl ?_
  refine ev_iload_n 1 dX4_valueAt_1 rfl (x := x1) rfl ?_
  refine ev_callV (As := [vI x1]) (rest := []) dX4_valueAt_2 mlX4_29 rm_mX4_valueAt_mX4_has rfl rfl rfl rfl (Nat.le_of_ble_eq_true rfl) H (fun v h1 H => ?_)
  obtain ⟨r2, rfl, H⟩ := H
  show Ev mX4_valueAt 5 [(0, vR 1), (1, vI x1)] [vI r2] h1 Q
  refine ev_if_eq 17 dX4_valueAt_5 (by decide) ⟨fun c3 => ?_, fun c3 => ?_⟩
  · have H := H.1 c3
    refine ev_iconst 0 dX4_valueAt_17 (by decide) ?_
    exact ev_iret dX4_valueAt_18 rfl H
  · have H := H.2 c3
    refine ev_aload_n 0 dX4_valueAt_8 rfl (x := 1) rfl ?_
    refine ev_getR dX4_valueAt_9 flX4_15 rfl rfl ?_
    refine ev_iload_n 1 dX4_valueAt_12 rfl (x := x1) rfl ?_
    obtain ⟨b4, H⟩ := H
    refine ev_iald dX4_valueAt_13 rfl b4 ?_
    refine ev_goto 18 dX4_valueAt_14 (by decide) ?_
    exact ev_iret dX4_valueAt_18 rfl H
set_option maxRecDepth 20000 in
theorem sX4_firstFree {h : Hp} {Q : Option AV → Hp → Prop} (H : Ev mX4_firstFree 2 [(0, vR 1), (1, vI 0)] [] h Q) : EvM mX4_firstFree [vR 1] h Q := by
  refine evM_of (by decide) rfl (Nat.le_of_ble_eq_true rfl) ?_
  show Ev mX4_firstFree 0 [(0, vR 1)] [] h Q
  refine ev_iconst 0 dX4_firstFree_0 (by decide) ?_
  refine ev_istore_n 1 dX4_firstFree_1 rfl (by decide) ?_
  refine ev_L (L' := [(1, vI 0), (0, vR 1)]) rfl ?_
  exact ev_sub (L' := [(0, vR 1), (1, vI 0)]) ⟨rfl, rfl, trivial⟩ H
set_option maxRecDepth 20000 in
theorem sX4_firstFree_2 {h : Hp} {Q : Option AV → Hp → Prop} {x1 : Int32} (H : (((240 ≤ x1) → Q (some (vI (-1))) h) ∧ ((¬ 240 ≤ x1) → (vp_in x1 240 ∧ (((¬ (h.1 4 (Int32.toNatClampNeg x1)) = 0) → Ev mX4_firstFree 2 [(0, vR 1), (1, vI (x1 + 1))] [] h Q) ∧ (((h.1 4 (Int32.toNatClampNeg x1)) = 0) → Q (some (vI x1)) h)))))) : Ev mX4_firstFree 2 [(0, vR 1), (1, vI x1)] [] h Q := by
  refine ev_iload_n 1 dX4_firstFree_2 rfl (x := x1) rfl ?_
  refine ev_sipush 240 dX4_firstFree_3 (by decide) ?_
  refine ev_icmp_ge 26 dX4_firstFree_6 (by decide) ⟨fun c1 => ?_, fun c1 => ?_⟩
  · have H := H.1 c1
    refine ev_iconst (-1) dX4_firstFree_26 (by decide) ?_
    exact ev_iret dX4_firstFree_27 rfl H
  · have H := H.2 c1
    refine ev_aload_n 0 dX4_firstFree_9 rfl (x := 1) rfl ?_
    refine ev_getR dX4_firstFree_10 flX4_18 rfl rfl ?_
    refine ev_iload_n 1 dX4_firstFree_13 rfl (x := x1) rfl ?_
    obtain ⟨b2, H⟩ := H
    refine ev_zald dX4_firstFree_14 rfl b2 ?_
    refine ev_if_ne 20 dX4_firstFree_15 (by decide) ⟨fun c3 => ?_, fun c3 => ?_⟩
    · have H := H.1 c3
      refine ev_iinc (x := x1) (v := 1) dX4_firstFree_20 rfl (by decide) (by decide) ?_
      refine ev_L (L' := [(1, vI (x1 + 1)), (0, vR 1)]) rfl ?_
      refine ev_goto 2 dX4_firstFree_23 (by decide) ?_
      exact ev_sub (L' := [(0, vR 1), (1, vI (x1 + 1))]) ⟨rfl, rfl, trivial⟩ H
    · have H := H.2 c3
      refine ev_iload_n 1 dX4_firstFree_18 rfl (x := x1) rfl ?_
      exact ev_iret dX4_firstFree_19 rfl H
set_option maxRecDepth 20000 in
theorem sX4_hasKeyBeside {h : Hp} {Q : Option AV → Hp → Prop} {x1 : Int32} {x2 : Int32} (H : Ev mX4_hasKeyBeside 2 [(0, vR 1), (1, vI x1), (2, vI x2), (3, vI 0)] [] h Q) : EvM mX4_hasKeyBeside [vR 1, vI x1, vI x2] h Q := by
  refine evM_of (by decide) rfl (Nat.le_of_ble_eq_true rfl) ?_
  show Ev mX4_hasKeyBeside 0 [(0, vR 1), (1, vI x1), (2, vI x2)] [] h Q
  refine ev_iconst 0 dX4_hasKeyBeside_0 (by decide) ?_
  refine ev_istore_n 3 dX4_hasKeyBeside_1 rfl (by decide) ?_
  refine ev_L (L' := [(3, vI 0), (0, vR 1), (1, vI x1), (2, vI x2)]) rfl ?_
  exact ev_sub (L' := [(0, vR 1), (1, vI x1), (2, vI x2), (3, vI 0)]) ⟨rfl, rfl, rfl, rfl, trivial⟩ H
set_option maxRecDepth 20000 in
theorem sX4_hasKeyBeside_2 {h : Hp} {Q : Option AV → Hp → Prop} {x1 : Int32} {x2 : Int32} {x3 : Int32} (H : (((240 ≤ x3) → Q (some (vI 0)) h) ∧ ((¬ 240 ≤ x3) → (((x3 = x2) → Ev mX4_hasKeyBeside 2 [(0, vR 1), (1, vI x1), (2, vI x2), (3, vI (x3 + 1))] [] h Q) ∧ ((¬ x3 = x2) → (vp_in x3 240 ∧ ((((h.1 4 (Int32.toNatClampNeg x3)) = 0) → Ev mX4_hasKeyBeside 2 [(0, vR 1), (1, vI x1), (2, vI x2), (3, vI (x3 + 1))] [] h Q) ∧ ((¬ (h.1 4 (Int32.toNatClampNeg x3)) = 0) → (vp_in x3 240 ∧ (((¬ (h.1 2 (Int32.toNatClampNeg x3)) = x1) → Ev mX4_hasKeyBeside 2 [(0, vR 1), (1, vI x1), (2, vI x2), (3, vI (x3 + 1))] [] h Q) ∧ (((h.1 2 (Int32.toNatClampNeg x3)) = x1) → Q (some (vI 1)) h))))))))))) : Ev mX4_hasKeyBeside 2 [(0, vR 1), (1, vI x1), (2, vI x2), (3, vI x3)] [] h Q := by
  refine ev_iload_n 3 dX4_hasKeyBeside_2 rfl (x := x3) rfl ?_
  refine ev_sipush 240 dX4_hasKeyBeside_3 (by decide) ?_
  refine ev_icmp_ge 41 dX4_hasKeyBeside_6 (by decide) ⟨fun c1 => ?_, fun c1 => ?_⟩
  · have H := H.1 c1
    refine ev_iconst 0 dX4_hasKeyBeside_41 (by decide) ?_
    exact ev_zret dX4_hasKeyBeside_42 rfl (by decide) H
  · have H := H.2 c1
    refine ev_iload_n 3 dX4_hasKeyBeside_9 rfl (x := x3) rfl ?_
    refine ev_iload_n 2 dX4_hasKeyBeside_10 rfl (x := x2) rfl ?_
    refine ev_icmp_eq 35 dX4_hasKeyBeside_11 (by decide) ⟨fun c2 => ?_, fun c2 => ?_⟩
    · have H := H.1 c2
      refine ev_iinc (x := x3) (v := 1) dX4_hasKeyBeside_35 rfl (by decide) (by decide) ?_
      refine ev_L (L' := [(3, vI (x3 + 1)), (0, vR 1), (1, vI x1), (2, vI x2)]) rfl ?_
      refine ev_goto 2 dX4_hasKeyBeside_38 (by decide) ?_
      exact ev_sub (L' := [(0, vR 1), (1, vI x1), (2, vI x2), (3, vI (x3 + 1))]) ⟨rfl, rfl, rfl, rfl, trivial⟩ H
    · have H := H.2 c2
      refine ev_aload_n 0 dX4_hasKeyBeside_14 rfl (x := 1) rfl ?_
      refine ev_getR dX4_hasKeyBeside_15 flX4_18 rfl rfl ?_
      refine ev_iload_n 3 dX4_hasKeyBeside_18 rfl (x := x3) rfl ?_
      obtain ⟨b3, H⟩ := H
      refine ev_zald dX4_hasKeyBeside_19 rfl b3 ?_
      refine ev_if_eq 35 dX4_hasKeyBeside_20 (by decide) ⟨fun c4 => ?_, fun c4 => ?_⟩
      · have H := H.1 c4
        refine ev_iinc (x := x3) (v := 1) dX4_hasKeyBeside_35 rfl (by decide) (by decide) ?_
        refine ev_L (L' := [(3, vI (x3 + 1)), (0, vR 1), (1, vI x1), (2, vI x2)]) rfl ?_
        refine ev_goto 2 dX4_hasKeyBeside_38 (by decide) ?_
        exact ev_sub (L' := [(0, vR 1), (1, vI x1), (2, vI x2), (3, vI (x3 + 1))]) ⟨rfl, rfl, rfl, rfl, trivial⟩ H
      · have H := H.2 c4
        refine ev_aload_n 0 dX4_hasKeyBeside_23 rfl (x := 1) rfl ?_
        refine ev_getR dX4_hasKeyBeside_24 flX4_9 rfl rfl ?_
        refine ev_iload_n 3 dX4_hasKeyBeside_27 rfl (x := x3) rfl ?_
        obtain ⟨b5, H⟩ := H
        refine ev_iald dX4_hasKeyBeside_28 rfl b5 ?_
        refine ev_iload_n 1 dX4_hasKeyBeside_29 rfl (x := x1) rfl ?_
        refine ev_icmp_ne 35 dX4_hasKeyBeside_30 (by decide) ⟨fun c6 => ?_, fun c6 => ?_⟩
        · have H := H.1 c6
          refine ev_iinc (x := x3) (v := 1) dX4_hasKeyBeside_35 rfl (by decide) (by decide) ?_
          refine ev_L (L' := [(3, vI (x3 + 1)), (0, vR 1), (1, vI x1), (2, vI x2)]) rfl ?_
          refine ev_goto 2 dX4_hasKeyBeside_38 (by decide) ?_
          exact ev_sub (L' := [(0, vR 1), (1, vI x1), (2, vI x2), (3, vI (x3 + 1))]) ⟨rfl, rfl, rfl, rfl, trivial⟩ H
        · have H := H.2 c6
          refine ev_iconst 1 dX4_hasKeyBeside_33 (by decide) ?_
          exact ev_zret dX4_hasKeyBeside_34 rfl (by decide) H
set_option maxRecDepth 20000 in
theorem sX4_put {h : Hp} {Q : Option AV → Hp → Prop} {x1 : Int32} {x2 : Int32} {x3 : Int32} (H : (((x1 < 0) → Q none h) ∧ ((¬ x1 < 0) → (((x1 < 240) → (vp_in x1 240 ∧ (((¬ (h.1 4 (Int32.toNatClampNeg x1)) = 0) → Ev mX4_put 38 [(0, vR 1), (1, vI x1), (2, vI x2), (3, vI x3)] [] h Q) ∧ (((h.1 4 (Int32.toNatClampNeg x1)) = 0) → (vp_in x1 240 ∧ (∀ h6 : Hp, h6 = sI h 4 (upd (h.1 4) (Int32.toNatClampNeg x1) 1) → (∀ h7 : Hp, h7 = sI h6 1 (upd (h6.1 1) 4 ((h6.1 1 4) + 1)) → Ev mX4_put 38 [(0, vR 1), (1, vI x1), (2, vI x2), (3, vI x3)] [] h7 Q))))))) ∧ ((¬ x1 < 240) → Q none h))))) : EvM mX4_put [vR 1, vI x1, vI x2, vI x3] h Q := by
  refine evM_of (by decide) rfl (Nat.le_of_ble_eq_true rfl) ?_
  show Ev mX4_put 0 [(0, vR 1), (1, vI x1), (2, vI x2), (3, vI x3)] [] h Q
  refine ev_iload_n 1 dX4_put_0 rfl (x := x1) rfl ?_
  refine ev_if_lt 11 dX4_put_1 (by decide) ⟨fun c1 => ?_, fun c1 => ?_⟩
  · have H := H.1 c1
    exact ev_vret dX4_put_11 rfl H
  · have H := H.2 c1
    refine ev_iload_n 1 dX4_put_4 rfl (x := x1) rfl ?_
    refine ev_sipush 240 dX4_put_5 (by decide) ?_
    refine ev_icmp_lt 12 dX4_put_8 (by decide) ⟨fun c2 => ?_, fun c2 => ?_⟩
    · have H := H.1 c2
      refine ev_aload_n 0 dX4_put_12 rfl (x := 1) rfl ?_
      refine ev_getR dX4_put_13 flX4_18 rfl rfl ?_
      refine ev_iload_n 1 dX4_put_16 rfl (x := x1) rfl ?_
      obtain ⟨b3, H⟩ := H
      refine ev_zald dX4_put_17 rfl b3 ?_
      refine ev_if_ne 38 dX4_put_18 (by decide) ⟨fun c4 => ?_, fun c4 => ?_⟩
      · have H := H.1 c4
        exact ev_sub (L' := [(0, vR 1), (1, vI x1), (2, vI x2), (3, vI x3)]) ⟨rfl, rfl, rfl, rfl, trivial⟩ H
      · have H := H.2 c4
        refine ev_aload_n 0 dX4_put_21 rfl (x := 1) rfl ?_
        refine ev_getR dX4_put_22 flX4_18 rfl rfl ?_
        refine ev_iload_n 1 dX4_put_25 rfl (x := x1) rfl ?_
        refine ev_iconst 1 dX4_put_26 (by decide) ?_
        obtain ⟨b5, H⟩ := H
        refine ev_zast dX4_put_27 rfl b5 (by decide) ?_
        obtain ⟨h6, eh6⟩ : ∃ z : Hp, z = sI h 4 (upd (h.1 4) (Int32.toNatClampNeg x1) 1) := ⟨_, rfl⟩
        rw [← eh6]
        have H := H h6 eh6
        refine ev_aload_n 0 dX4_put_28 rfl (x := 1) rfl ?_
        refine ev_dup dX4_put_29 rfl ?_
        refine ev_getI dX4_put_30 flX4_25 rfl rfl ?_
        refine ev_iconst 1 dX4_put_33 (by decide) ?_
        refine ev_iadd dX4_put_34 ?_
        refine ev_putI dX4_put_35 fpX4_25 rfl rfl   ?_
        obtain ⟨h7, eh7⟩ : ∃ z : Hp, z = sI h6 1 (upd (h6.1 1) 4 ((h6.1 1 4) + 1)) := ⟨_, rfl⟩
        rw [← eh7]
        have H := H h7 eh7
        exact ev_sub (L' := [(0, vR 1), (1, vI x1), (2, vI x2), (3, vI x3)]) ⟨rfl, rfl, rfl, rfl, trivial⟩ H
    · have H := H.2 c2
      exact ev_vret dX4_put_11 rfl H
set_option maxRecDepth 20000 in
theorem sX4_put_38 {h : Hp} {Q : Option AV → Hp → Prop} {x1 : Int32} {x2 : Int32} {x3 : Int32} (H : (vp_in x1 240 ∧ (∀ h2 : Hp, h2 = sI h 2 (upd (h.1 2) (Int32.toNatClampNeg x1) x2) → (vp_in x1 240 ∧ (∀ h4 : Hp, h4 = sI h2 3 (upd (h2.1 3) (Int32.toNatClampNeg x1) x3) → (vp_in (x1 / 12) 20 ∧ (∀ h6 : Hp, h6 = sI h4 5 (upd (h4.1 5) (Int32.toNatClampNeg (x1 / 12)) 1) → Q none h6))))))) : Ev mX4_put 38 [(0, vR 1), (1, vI x1), (2, vI x2), (3, vI x3)] [] h Q := by
  refine ev_aload_n 0 dX4_put_38 rfl (x := 1) rfl ?_
  refine ev_getR dX4_put_39 flX4_9 rfl rfl ?_
  refine ev_iload_n 1 dX4_put_42 rfl (x := x1) rfl ?_
  refine ev_iload_n 2 dX4_put_43 rfl (x := x2) rfl ?_
  obtain ⟨b1, H⟩ := H
  refine ev_iast dX4_put_44 rfl b1  ?_
  obtain ⟨h2, eh2⟩ : ∃ z : Hp, z = sI h 2 (upd (h.1 2) (Int32.toNatClampNeg x1) x2) := ⟨_, rfl⟩
  rw [← eh2]
  have H := H h2 eh2
  refine ev_aload_n 0 dX4_put_45 rfl (x := 1) rfl ?_
  refine ev_getR dX4_put_46 flX4_15 rfl rfl ?_
  refine ev_iload_n 1 dX4_put_49 rfl (x := x1) rfl ?_
  refine ev_iload_n 3 dX4_put_50 rfl (x := x3) rfl ?_
  obtain ⟨b3, H⟩ := H
  refine ev_iast dX4_put_51 rfl b3  ?_
  obtain ⟨h4, eh4⟩ : ∃ z : Hp, z = sI h2 3 (upd (h2.1 3) (Int32.toNatClampNeg x1) x3) := ⟨_, rfl⟩
  rw [← eh4]
  have H := H h4 eh4
  refine ev_aload_n 0 dX4_put_52 rfl (x := 1) rfl ?_
  refine ev_getR dX4_put_53 flX4_22 rfl rfl ?_
  refine ev_iload_n 1 dX4_put_56 rfl (x := x1) rfl ?_
  refine ev_bipush 12 dX4_put_57 (by decide) ?_
  refine ev_idiv dX4_put_59 (by decide) ?_
  refine ev_iconst 1 dX4_put_60 (by decide) ?_
  obtain ⟨b5, H⟩ := H
  refine ev_zast dX4_put_61 rfl b5 (by decide) ?_
  obtain ⟨h6, eh6⟩ : ∃ z : Hp, z = sI h4 5 (upd (h4.1 5) (Int32.toNatClampNeg (x1 / 12)) 1) := ⟨_, rfl⟩
  rw [← eh6]
  have H := H h6 eh6
  exact ev_vret dX4_put_62 rfl H
set_option maxRecDepth 20000 in
theorem sX4_clearPlace {h : Hp} {Q : Option AV → Hp → Prop} {x1 : Int32} (H : EvM mX4_has [vR 1, vI x1] h (fun v h1 => ∃ r2 : Int32, v = some (vI r2) ∧ (((r2 = 0) → Q none h1) ∧ ((¬ r2 = 0) → (vp_in x1 240 ∧ (∀ h5 : Hp, h5 = sI h1 4 (upd (h1.1 4) (Int32.toNatClampNeg x1) 0) → (∀ h6 : Hp, h6 = sI h5 1 (upd (h5.1 1) 4 ((h5.1 1 4) - 1)) → (vp_in (x1 / 12) 20 ∧ (∀ h8 : Hp, h8 = sI h6 5 (upd (h6.1 5) (Int32.toNatClampNeg (x1 / 12)) 1) → Q none h8))))))))) : EvM mX4_clearPlace [vR 1, vI x1] h Q := by
  refine evM_of (by decide) rfl (Nat.le_of_ble_eq_true rfl) ?_
  show Ev mX4_clearPlace 0 [(0, vR 1), (1, vI x1)] [] h Q
  refine ev_aload_n 0 dX4_clearPlace_0 rfl (x := 1) rfl ?_
  refine ev_iload_n 1 dX4_clearPlace_1 rfl (x := x1) rfl ?_
  refine ev_callV (As := [vI x1]) (rest := []) dX4_clearPlace_2 mlX4_29 rm_mX4_clearPlace_mX4_has rfl rfl rfl rfl (Nat.le_of_ble_eq_true rfl) H (fun v h1 H => ?_)
  obtain ⟨r2, rfl, H⟩ := H
  show Ev mX4_clearPlace 5 [(0, vR 1), (1, vI x1)] [vI r2] h1 Q
  refine ev_if_eq 35 dX4_clearPlace_5 (by decide) ⟨fun c3 => ?_, fun c3 => ?_⟩
  · have H := H.1 c3
    exact ev_vret dX4_clearPlace_35 rfl H
  · have H := H.2 c3
    refine ev_aload_n 0 dX4_clearPlace_8 rfl (x := 1) rfl ?_
    refine ev_getR dX4_clearPlace_9 flX4_18 rfl rfl ?_
    refine ev_iload_n 1 dX4_clearPlace_12 rfl (x := x1) rfl ?_
    refine ev_iconst 0 dX4_clearPlace_13 (by decide) ?_
    obtain ⟨b4, H⟩ := H
    refine ev_zast dX4_clearPlace_14 rfl b4 (by decide) ?_
    obtain ⟨h5, eh5⟩ : ∃ z : Hp, z = sI h1 4 (upd (h1.1 4) (Int32.toNatClampNeg x1) 0) := ⟨_, rfl⟩
    rw [← eh5]
    have H := H h5 eh5
    refine ev_aload_n 0 dX4_clearPlace_15 rfl (x := 1) rfl ?_
    refine ev_dup dX4_clearPlace_16 rfl ?_
    refine ev_getI dX4_clearPlace_17 flX4_25 rfl rfl ?_
    refine ev_iconst 1 dX4_clearPlace_20 (by decide) ?_
    refine ev_isub dX4_clearPlace_21 ?_
    refine ev_putI dX4_clearPlace_22 fpX4_25 rfl rfl   ?_
    obtain ⟨h6, eh6⟩ : ∃ z : Hp, z = sI h5 1 (upd (h5.1 1) 4 ((h5.1 1 4) - 1)) := ⟨_, rfl⟩
    rw [← eh6]
    have H := H h6 eh6
    refine ev_aload_n 0 dX4_clearPlace_25 rfl (x := 1) rfl ?_
    refine ev_getR dX4_clearPlace_26 flX4_22 rfl rfl ?_
    refine ev_iload_n 1 dX4_clearPlace_29 rfl (x := x1) rfl ?_
    refine ev_bipush 12 dX4_clearPlace_30 (by decide) ?_
    refine ev_idiv dX4_clearPlace_32 (by decide) ?_
    refine ev_iconst 1 dX4_clearPlace_33 (by decide) ?_
    obtain ⟨b7, H⟩ := H
    refine ev_zast dX4_clearPlace_34 rfl b7 (by decide) ?_
    obtain ⟨h8, eh8⟩ : ∃ z : Hp, z = sI h6 5 (upd (h6.1 5) (Int32.toNatClampNeg (x1 / 12)) 1) := ⟨_, rfl⟩
    rw [← eh8]
    have H := H h8 eh8
    exact ev_vret dX4_clearPlace_35 rfl H
set_option maxRecDepth 20000 in
theorem sX4_tell {h : Hp} {Q : Option AV → Hp → Prop} {x1 : Int32} {x2 : Int32} (H : Ev mX4_tell 6 [(0, vR 1), (1, vI x1), (2, vI x2), (3, vR 26), (4, vI 0), (5, vI 0)] [] h Q) : EvM mX4_tell [vR 1, vI x1, vI x2, vR 26] h Q := by
  refine evM_of (by decide) rfl (Nat.le_of_ble_eq_true rfl) ?_
  show Ev mX4_tell 0 [(0, vR 1), (1, vI x1), (2, vI x2), (3, vR 26)] [] h Q
  refine ev_iconst 0 dX4_tell_0 (by decide) ?_
  refine ev_istore dX4_tell_1 (by decide) ?_
  refine ev_L (L' := [(4, vI 0), (0, vR 1), (1, vI x1), (2, vI x2), (3, vR 26)]) rfl ?_
  refine ev_iconst 0 dX4_tell_3 (by decide) ?_
  refine ev_istore dX4_tell_4 (by decide) ?_
  refine ev_L (L' := [(5, vI 0), (4, vI 0), (0, vR 1), (1, vI x1), (2, vI x2), (3, vR 26)]) rfl ?_
  exact ev_sub (L' := [(0, vR 1), (1, vI x1), (2, vI x2), (3, vR 26), (4, vI 0), (5, vI 0)]) ⟨rfl, rfl, rfl, rfl, rfl, rfl, trivial⟩ H
set_option maxRecDepth 20000 in
theorem sX4_tell_6 {h : Hp} {Q : Option AV → Hp → Prop} {x1 : Int32} {x2 : Int32} {x4 : Int32} {x5 : Int32} (H : (((240 ≤ x5) → Q (some (vI x4)) h) ∧ ((¬ 240 ≤ x5) → (((240 ≤ x4) → Q (some (vI x4)) h) ∧ ((¬ 240 ≤ x4) → (vp_in x5 240 ∧ ((((h.1 4 (Int32.toNatClampNeg x5)) = 0) → Ev mX4_tell 6 [(0, vR 1), (1, vI x1), (2, vI x2), (3, vR 26), (4, vI x4), (5, vI (x5 + 1))] [] h Q) ∧ ((¬ (h.1 4 (Int32.toNatClampNeg x5)) = 0) → (vp_in x5 240 ∧ ((((h.1 2 (Int32.toNatClampNeg x5)) < x1) → Ev mX4_tell 6 [(0, vR 1), (1, vI x1), (2, vI x2), (3, vR 26), (4, vI x4), (5, vI (x5 + 1))] [] h Q) ∧ ((¬ (h.1 2 (Int32.toNatClampNeg x5)) < x1) → (vp_in x5 240 ∧ (((x2 < (h.1 2 (Int32.toNatClampNeg x5))) → Ev mX4_tell 6 [(0, vR 1), (1, vI x1), (2, vI x2), (3, vR 26), (4, vI x4), (5, vI (x5 + 1))] [] h Q) ∧ ((¬ x2 < (h.1 2 (Int32.toNatClampNeg x5))) → (vp_in x4 240 ∧ (∀ h10 : Hp, h10 = sI h 26 (upd (h.1 26) (Int32.toNatClampNeg x4) x5) → Ev mX4_tell 6 [(0, vR 1), (1, vI x1), (2, vI x2), (3, vR 26), (4, vI (x4 + 1)), (5, vI (x5 + 1))] [] h10 Q)))))))))))))))) : Ev mX4_tell 6 [(0, vR 1), (1, vI x1), (2, vI x2), (3, vR 26), (4, vI x4), (5, vI x5)] [] h Q := by
  refine ev_iload dX4_tell_6 (x := x5) rfl ?_
  refine ev_sipush 240 dX4_tell_8 (by decide) ?_
  refine ev_icmp_ge 68 dX4_tell_11 (by decide) ⟨fun c1 => ?_, fun c1 => ?_⟩
  · have H := H.1 c1
    refine ev_iload dX4_tell_68 (x := x4) rfl ?_
    exact ev_iret dX4_tell_70 rfl H
  · have H := H.2 c1
    refine ev_iload dX4_tell_14 (x := x4) rfl ?_
    refine ev_aload_n 3 dX4_tell_16 rfl (x := 26) rfl ?_
    refine ev_alen 240 dX4_tell_17 rfl (by decide) (by decide) (by decide) ?_
    refine ev_icmp_ge 68 dX4_tell_18 (by decide) ⟨fun c2 => ?_, fun c2 => ?_⟩
    · have H := H.1 c2
      refine ev_iload dX4_tell_68 (x := x4) rfl ?_
      exact ev_iret dX4_tell_70 rfl H
    · have H := H.2 c2
      refine ev_aload_n 0 dX4_tell_21 rfl (x := 1) rfl ?_
      refine ev_getR dX4_tell_22 flX4_18 rfl rfl ?_
      refine ev_iload dX4_tell_25 (x := x5) rfl ?_
      obtain ⟨b3, H⟩ := H
      refine ev_zald dX4_tell_27 rfl b3 ?_
      refine ev_if_eq 62 dX4_tell_28 (by decide) ⟨fun c4 => ?_, fun c4 => ?_⟩
      · have H := H.1 c4
        refine ev_iinc (x := x5) (v := 1) dX4_tell_62 rfl (by decide) (by decide) ?_
        refine ev_L (L' := [(5, vI (x5 + 1)), (0, vR 1), (1, vI x1), (2, vI x2), (3, vR 26), (4, vI x4)]) rfl ?_
        refine ev_goto 6 dX4_tell_65 (by decide) ?_
        exact ev_sub (L' := [(0, vR 1), (1, vI x1), (2, vI x2), (3, vR 26), (4, vI x4), (5, vI (x5 + 1))]) ⟨rfl, rfl, rfl, rfl, rfl, rfl, trivial⟩ H
      · have H := H.2 c4
        refine ev_aload_n 0 dX4_tell_31 rfl (x := 1) rfl ?_
        refine ev_getR dX4_tell_32 flX4_9 rfl rfl ?_
        refine ev_iload dX4_tell_35 (x := x5) rfl ?_
        obtain ⟨b5, H⟩ := H
        refine ev_iald dX4_tell_37 rfl b5 ?_
        refine ev_iload_n 1 dX4_tell_38 rfl (x := x1) rfl ?_
        refine ev_icmp_lt 62 dX4_tell_39 (by decide) ⟨fun c6 => ?_, fun c6 => ?_⟩
        · have H := H.1 c6
          refine ev_iinc (x := x5) (v := 1) dX4_tell_62 rfl (by decide) (by decide) ?_
          refine ev_L (L' := [(5, vI (x5 + 1)), (0, vR 1), (1, vI x1), (2, vI x2), (3, vR 26), (4, vI x4)]) rfl ?_
          refine ev_goto 6 dX4_tell_65 (by decide) ?_
          exact ev_sub (L' := [(0, vR 1), (1, vI x1), (2, vI x2), (3, vR 26), (4, vI x4), (5, vI (x5 + 1))]) ⟨rfl, rfl, rfl, rfl, rfl, rfl, trivial⟩ H
        · have H := H.2 c6
          refine ev_aload_n 0 dX4_tell_42 rfl (x := 1) rfl ?_
          refine ev_getR dX4_tell_43 flX4_9 rfl rfl ?_
          refine ev_iload dX4_tell_46 (x := x5) rfl ?_
          obtain ⟨b7, H⟩ := H
          refine ev_iald dX4_tell_48 rfl b7 ?_
          refine ev_iload_n 2 dX4_tell_49 rfl (x := x2) rfl ?_
          refine ev_icmp_gt 62 dX4_tell_50 (by decide) ⟨fun c8 => ?_, fun c8 => ?_⟩
          · have H := H.1 c8
            refine ev_iinc (x := x5) (v := 1) dX4_tell_62 rfl (by decide) (by decide) ?_
            refine ev_L (L' := [(5, vI (x5 + 1)), (0, vR 1), (1, vI x1), (2, vI x2), (3, vR 26), (4, vI x4)]) rfl ?_
            refine ev_goto 6 dX4_tell_65 (by decide) ?_
            exact ev_sub (L' := [(0, vR 1), (1, vI x1), (2, vI x2), (3, vR 26), (4, vI x4), (5, vI (x5 + 1))]) ⟨rfl, rfl, rfl, rfl, rfl, rfl, trivial⟩ H
          · have H := H.2 c8
            refine ev_aload_n 3 dX4_tell_53 rfl (x := 26) rfl ?_
            refine ev_iload dX4_tell_54 (x := x4) rfl ?_
            refine ev_iload dX4_tell_56 (x := x5) rfl ?_
            obtain ⟨b9, H⟩ := H
            refine ev_iast dX4_tell_58 rfl b9  ?_
            obtain ⟨h10, eh10⟩ : ∃ z : Hp, z = sI h 26 (upd (h.1 26) (Int32.toNatClampNeg x4) x5) := ⟨_, rfl⟩
            rw [← eh10]
            have H := H h10 eh10
            refine ev_iinc (x := x4) (v := 1) dX4_tell_59 rfl (by decide) (by decide) ?_
            refine ev_L (L' := [(4, vI (x4 + 1)), (0, vR 1), (1, vI x1), (2, vI x2), (3, vR 26), (5, vI x5)]) rfl ?_
            refine ev_iinc (x := x5) (v := 1) dX4_tell_62 rfl (by decide) (by decide) ?_
            refine ev_L (L' := [(5, vI (x5 + 1)), (4, vI (x4 + 1)), (0, vR 1), (1, vI x1), (2, vI x2), (3, vR 26)]) rfl ?_
            refine ev_goto 6 dX4_tell_65 (by decide) ?_
            exact ev_sub (L' := [(0, vR 1), (1, vI x1), (2, vI x2), (3, vR 26), (4, vI (x4 + 1)), (5, vI (x5 + 1))]) ⟨rfl, rfl, rfl, rfl, rfl, rfl, trivial⟩ H
set_option maxRecDepth 20000 in
theorem sX4_touchedPages {h : Hp} {Q : Option AV → Hp → Prop} (H : Ev mX4_touchedPages 4 [(0, vR 1), (1, vI 0), (2, vI 0)] [] h Q) : EvM mX4_touchedPages [vR 1] h Q := by
  refine evM_of (by decide) rfl (Nat.le_of_ble_eq_true rfl) ?_
  show Ev mX4_touchedPages 0 [(0, vR 1)] [] h Q
  refine ev_iconst 0 dX4_touchedPages_0 (by decide) ?_
  refine ev_istore_n 1 dX4_touchedPages_1 rfl (by decide) ?_
  refine ev_L (L' := [(1, vI 0), (0, vR 1)]) rfl ?_
  refine ev_iconst 0 dX4_touchedPages_2 (by decide) ?_
  refine ev_istore_n 2 dX4_touchedPages_3 rfl (by decide) ?_
  refine ev_L (L' := [(2, vI 0), (1, vI 0), (0, vR 1)]) rfl ?_
  exact ev_sub (L' := [(0, vR 1), (1, vI 0), (2, vI 0)]) ⟨rfl, rfl, rfl, trivial⟩ H
set_option maxRecDepth 20000 in
theorem sX4_touchedPages_4 {h : Hp} {Q : Option AV → Hp → Prop} {x1 : Int32} {x2 : Int32} (H : (((20 ≤ x2) → Q (some (vI x1)) h) ∧ ((¬ 20 ≤ x2) → (vp_in x2 20 ∧ ((((h.1 5 (Int32.toNatClampNeg x2)) = 0) → Ev mX4_touchedPages 4 [(0, vR 1), (1, vI x1), (2, vI (x2 + 1))] [] h Q) ∧ ((¬ (h.1 5 (Int32.toNatClampNeg x2)) = 0) → Ev mX4_touchedPages 4 [(0, vR 1), (1, vI (x1 + 1)), (2, vI (x2 + 1))] [] h Q)))))) : Ev mX4_touchedPages 4 [(0, vR 1), (1, vI x1), (2, vI x2)] [] h Q := by
  refine ev_iload_n 2 dX4_touchedPages_4 rfl (x := x2) rfl ?_
  refine ev_bipush 20 dX4_touchedPages_5 (by decide) ?_
  refine ev_icmp_ge 28 dX4_touchedPages_7 (by decide) ⟨fun c1 => ?_, fun c1 => ?_⟩
  · have H := H.1 c1
    refine ev_iload_n 1 dX4_touchedPages_28 rfl (x := x1) rfl ?_
    exact ev_iret dX4_touchedPages_29 rfl H
  · have H := H.2 c1
    refine ev_aload_n 0 dX4_touchedPages_10 rfl (x := 1) rfl ?_
    refine ev_getR dX4_touchedPages_11 flX4_22 rfl rfl ?_
    refine ev_iload_n 2 dX4_touchedPages_14 rfl (x := x2) rfl ?_
    obtain ⟨b2, H⟩ := H
    refine ev_zald dX4_touchedPages_15 rfl b2 ?_
    refine ev_if_eq 22 dX4_touchedPages_16 (by decide) ⟨fun c3 => ?_, fun c3 => ?_⟩
    · have H := H.1 c3
      refine ev_iinc (x := x2) (v := 1) dX4_touchedPages_22 rfl (by decide) (by decide) ?_
      refine ev_L (L' := [(2, vI (x2 + 1)), (0, vR 1), (1, vI x1)]) rfl ?_
      refine ev_goto 4 dX4_touchedPages_25 (by decide) ?_
      exact ev_sub (L' := [(0, vR 1), (1, vI x1), (2, vI (x2 + 1))]) ⟨rfl, rfl, rfl, trivial⟩ H
    · have H := H.2 c3
      refine ev_iinc (x := x1) (v := 1) dX4_touchedPages_19 rfl (by decide) (by decide) ?_
      refine ev_L (L' := [(1, vI (x1 + 1)), (0, vR 1), (2, vI x2)]) rfl ?_
      refine ev_iinc (x := x2) (v := 1) dX4_touchedPages_22 rfl (by decide) (by decide) ?_
      refine ev_L (L' := [(2, vI (x2 + 1)), (1, vI (x1 + 1)), (0, vR 1)]) rfl ?_
      refine ev_goto 4 dX4_touchedPages_25 (by decide) ?_
      exact ev_sub (L' := [(0, vR 1), (1, vI (x1 + 1)), (2, vI (x2 + 1))]) ⟨rfl, rfl, rfl, trivial⟩ H
set_option maxRecDepth 20000 in
theorem sX4_untouch {h : Hp} {Q : Option AV → Hp → Prop} (H : Ev mX4_untouch 2 [(0, vR 1), (1, vI 0)] [] h Q) : EvM mX4_untouch [vR 1] h Q := by
  refine evM_of (by decide) rfl (Nat.le_of_ble_eq_true rfl) ?_
  show Ev mX4_untouch 0 [(0, vR 1)] [] h Q
  refine ev_iconst 0 dX4_untouch_0 (by decide) ?_
  refine ev_istore_n 1 dX4_untouch_1 rfl (by decide) ?_
  refine ev_L (L' := [(1, vI 0), (0, vR 1)]) rfl ?_
  exact ev_sub (L' := [(0, vR 1), (1, vI 0)]) ⟨rfl, rfl, trivial⟩ H
set_option maxRecDepth 20000 in
theorem sX4_untouch_2 {h : Hp} {Q : Option AV → Hp → Prop} {x1 : Int32} (H : (((20 ≤ x1) → Q none h) ∧ ((¬ 20 ≤ x1) → (vp_in x1 20 ∧ (∀ h3 : Hp, h3 = sI h 5 (upd (h.1 5) (Int32.toNatClampNeg x1) 0) → Ev mX4_untouch 2 [(0, vR 1), (1, vI (x1 + 1))] [] h3 Q))))) : Ev mX4_untouch 2 [(0, vR 1), (1, vI x1)] [] h Q := by
  refine ev_iload_n 1 dX4_untouch_2 rfl (x := x1) rfl ?_
  refine ev_bipush 20 dX4_untouch_3 (by decide) ?_
  refine ev_icmp_ge 21 dX4_untouch_5 (by decide) ⟨fun c1 => ?_, fun c1 => ?_⟩
  · have H := H.1 c1
    exact ev_vret dX4_untouch_21 rfl H
  · have H := H.2 c1
    refine ev_aload_n 0 dX4_untouch_8 rfl (x := 1) rfl ?_
    refine ev_getR dX4_untouch_9 flX4_22 rfl rfl ?_
    refine ev_iload_n 1 dX4_untouch_12 rfl (x := x1) rfl ?_
    refine ev_iconst 0 dX4_untouch_13 (by decide) ?_
    obtain ⟨b2, H⟩ := H
    refine ev_zast dX4_untouch_14 rfl b2 (by decide) ?_
    obtain ⟨h3, eh3⟩ : ∃ z : Hp, z = sI h 5 (upd (h.1 5) (Int32.toNatClampNeg x1) 0) := ⟨_, rfl⟩
    rw [← eh3]
    have H := H h3 eh3
    refine ev_iinc (x := x1) (v := 1) dX4_untouch_15 rfl (by decide) (by decide) ?_
    refine ev_L (L' := [(1, vI (x1 + 1)), (0, vR 1)]) rfl ?_
    refine ev_goto 2 dX4_untouch_18 (by decide) ?_
    exact ev_sub (L' := [(0, vR 1), (1, vI (x1 + 1))]) ⟨rfl, rfl, trivial⟩ H
