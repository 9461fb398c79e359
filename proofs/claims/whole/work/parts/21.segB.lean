set_option maxRecDepth 20000 in
theorem sX5_clear {h : Hp} {Q : Option AV → Hp → Prop} (H : Ev mX5_clear 2 [(0, vR 16), (1, vI 0)] [] h Q) : EvM mX5_clear [vR 16] h Q := by
  refine evM_of (by decide) rfl (Nat.le_of_ble_eq_true rfl) ?_
  show Ev mX5_clear 0 [(0, vR 16)] [] h Q
  refine ev_iconst 0 dX5_clear_0 (by decide) ?_
  refine ev_istore_n 1 dX5_clear_1 rfl (by decide) ?_
  refine ev_L (L' := [(1, vI 0), (0, vR 16)]) rfl ?_
  exact ev_sub (L' := [(0, vR 16), (1, vI 0)]) ⟨rfl, rfl, trivial⟩ H
set_option maxRecDepth 20000 in
theorem sX5_clear_2 {h : Hp} {Q : Option AV → Hp → Prop} {x1 : Int32} (H : (((64 ≤ x1) → (∀ h2 : Hp, h2 = sI h 16 (upd (h.1 16) 5 0) → (∀ h3 : Hp, h3 = sI h2 16 (upd (h2.1 16) 6 0) → (∀ h4 : Hp, h4 = sI h3 16 (upd (h3.1 16) 7 0) → Q none h4)))) ∧ ((¬ 64 ≤ x1) → (vp_in x1 64 ∧ (∀ h6 : Hp, h6 = sI h 20 (upd (h.1 20) (Int32.toNatClampNeg x1) 0) → (vp_in x1 64 ∧ (∀ h8 : Hp, h8 = sI h6 19 (upd (h6.1 19) (Int32.toNatClampNeg x1) 0) → (vp_in x1 64 ∧ (∀ h10 : Hp, h10 = sI h8 18 (upd (h8.1 18) (Int32.toNatClampNeg x1) 0) → Ev mX5_clear 2 [(0, vR 16), (1, vI (x1 + 1))] [] h10 Q))))))))) : Ev mX5_clear 2 [(0, vR 16), (1, vI x1)] [] h Q := by
  refine ev_iload_n 1 dX5_clear_2 rfl (x := x1) rfl ?_
  refine ev_bipush 64 dX5_clear_3 (by decide) ?_
  refine ev_icmp_ge 35 dX5_clear_5 (by decide) ⟨fun c1 => ?_, fun c1 => ?_⟩
  · have H := H.1 c1
    refine ev_aload_n 0 dX5_clear_35 rfl (x := 16) rfl ?_
    refine ev_iconst 0 dX5_clear_36 (by decide) ?_
    refine ev_putI dX5_clear_37 fpX5_30 rfl rfl   ?_
    obtain ⟨h2, eh2⟩ : ∃ z : Hp, z = sI h 16 (upd (h.1 16) 5 0) := ⟨_, rfl⟩
    rw [← eh2]
    have H := H h2 eh2
    refine ev_aload_n 0 dX5_clear_40 rfl (x := 16) rfl ?_
    refine ev_iconst 0 dX5_clear_41 (by decide) ?_
    refine ev_putI dX5_clear_42 fpX5_34 rfl rfl   ?_
    obtain ⟨h3, eh3⟩ : ∃ z : Hp, z = sI h2 16 (upd (h2.1 16) 6 0) := ⟨_, rfl⟩
    rw [← eh3]
    have H := H h3 eh3
    refine ev_aload_n 0 dX5_clear_45 rfl (x := 16) rfl ?_
    refine ev_iconst 0 dX5_clear_46 (by decide) ?_
    refine ev_putI dX5_clear_47 fpX5_37 rfl rfl   ?_
    obtain ⟨h4, eh4⟩ : ∃ z : Hp, z = sI h3 16 (upd (h3.1 16) 7 0) := ⟨_, rfl⟩
    rw [← eh4]
    have H := H h4 eh4
    exact ev_vret dX5_clear_50 rfl H
  · have H := H.2 c1
    refine ev_aload_n 0 dX5_clear_8 rfl (x := 16) rfl ?_
    refine ev_getR dX5_clear_9 flX5_24 rfl rfl ?_
    refine ev_iload_n 1 dX5_clear_12 rfl (x := x1) rfl ?_
    refine ev_iconst 0 dX5_clear_13 (by decide) ?_
    obtain ⟨b5, H⟩ := H
    refine ev_zast dX5_clear_14 rfl b5 (by decide) ?_
    obtain ⟨h6, eh6⟩ : ∃ z : Hp, z = sI h 20 (upd (h.1 20) (Int32.toNatClampNeg x1) 0) := ⟨_, rfl⟩
    rw [← eh6]
    have H := H h6 eh6
    refine ev_aload_n 0 dX5_clear_15 rfl (x := 16) rfl ?_
    refine ev_getR dX5_clear_16 flX5_20 rfl rfl ?_
    refine ev_iload_n 1 dX5_clear_19 rfl (x := x1) rfl ?_
    refine ev_iconst 0 dX5_clear_20 (by decide) ?_
    obtain ⟨b7, H⟩ := H
    refine ev_zast dX5_clear_21 rfl b7 (by decide) ?_
    obtain ⟨h8, eh8⟩ : ∃ z : Hp, z = sI h6 19 (upd (h6.1 19) (Int32.toNatClampNeg x1) 0) := ⟨_, rfl⟩
    rw [← eh8]
    have H := H h8 eh8
    refine ev_aload_n 0 dX5_clear_22 rfl (x := 16) rfl ?_
    refine ev_getR dX5_clear_23 flX5_16 rfl rfl ?_
    refine ev_iload_n 1 dX5_clear_26 rfl (x := x1) rfl ?_
    refine ev_iconst 0 dX5_clear_27 (by decide) ?_
    obtain ⟨b9, H⟩ := H
    refine ev_iast dX5_clear_28 rfl b9  ?_
    obtain ⟨h10, eh10⟩ : ∃ z : Hp, z = sI h8 18 (upd (h8.1 18) (Int32.toNatClampNeg x1) 0) := ⟨_, rfl⟩
    rw [← eh10]
    have H := H h10 eh10
    refine ev_iinc (x := x1) (v := 1) dX5_clear_29 rfl (by decide) (by decide) ?_
    refine ev_L (L' := [(1, vI (x1 + 1)), (0, vR 16)]) rfl ?_
    refine ev_goto 2 dX5_clear_32 (by decide) ?_
    exact ev_sub (L' := [(0, vR 16), (1, vI (x1 + 1))]) ⟨rfl, rfl, trivial⟩ H
set_option maxRecDepth 20000 in
theorem sX5_nodeCount {h : Hp} {Q : Option AV → Hp → Prop} (H : Q (some (vI (h.1 16 5))) h) : EvM mX5_nodeCount [vR 16] h Q := by
  refine evM_of (by decide) rfl (Nat.le_of_ble_eq_true rfl) ?_
  show Ev mX5_nodeCount 0 [(0, vR 16)] [] h Q
  refine ev_aload_n 0 dX5_nodeCount_0 rfl (x := 16) rfl ?_
  refine ev_getI dX5_nodeCount_1 flX5_30 rfl rfl ?_
  exact ev_iret dX5_nodeCount_4 rfl H
set_option maxRecDepth 20000 in
theorem sX5_entryCount {h : Hp} {Q : Option AV → Hp → Prop} (H : Q (some (vI (h.1 16 6))) h) : EvM mX5_entryCount [vR 16] h Q := by
  refine evM_of (by decide) rfl (Nat.le_of_ble_eq_true rfl) ?_
  show Ev mX5_entryCount 0 [(0, vR 16)] [] h Q
  refine ev_aload_n 0 dX5_entryCount_0 rfl (x := 16) rfl ?_
  refine ev_getI dX5_entryCount_1 flX5_34 rfl rfl ?_
  exact ev_iret dX5_entryCount_4 rfl H
set_option maxRecDepth 20000 in
theorem sX5_touchedCount {h : Hp} {Q : Option AV → Hp → Prop} (H : Ev mX5_touchedCount 4 [(0, vR 16), (1, vI 0), (2, vI 0)] [] h Q) : EvM mX5_touchedCount [vR 16] h Q := by
  refine evM_of (by decide) rfl (Nat.le_of_ble_eq_true rfl) ?_
  show Ev mX5_touchedCount 0 [(0, vR 16)] [] h Q
  refine ev_iconst 0 dX5_touchedCount_0 (by decide) ?_
  refine ev_istore_n 1 dX5_touchedCount_1 rfl (by decide) ?_
  refine ev_L (L' := [(1, vI 0), (0, vR 16)]) rfl ?_
  refine ev_iconst 0 dX5_touchedCount_2 (by decide) ?_
  refine ev_istore_n 2 dX5_touchedCount_3 rfl (by decide) ?_
  refine ev_L (L' := [(2, vI 0), (1, vI 0), (0, vR 16)]) rfl ?_
  exact ev_sub (L' := [(0, vR 16), (1, vI 0), (2, vI 0)]) ⟨rfl, rfl, rfl, trivial⟩ H
set_option maxRecDepth 20000 in
theorem sX5_touchedCount_4 {h : Hp} {Q : Option AV → Hp → Prop} {x1 : Int32} {x2 : Int32} (H : (((64 ≤ x2) → Q (some (vI x1)) h) ∧ ((¬ 64 ≤ x2) → (vp_in x2 64 ∧ ((((h.1 20 (Int32.toNatClampNeg x2)) = 0) → Ev mX5_touchedCount 4 [(0, vR 16), (1, vI x1), (2, vI (x2 + 1))] [] h Q) ∧ ((¬ (h.1 20 (Int32.toNatClampNeg x2)) = 0) → (vp_in x2 64 ∧ ((((h.1 21 (Int32.toNatClampNeg x2)) = 0) → Ev mX5_touchedCount 4 [(0, vR 16), (1, vI x1), (2, vI (x2 + 1))] [] h Q) ∧ ((¬ (h.1 21 (Int32.toNatClampNeg x2)) = 0) → Ev mX5_touchedCount 4 [(0, vR 16), (1, vI (x1 + 1)), (2, vI (x2 + 1))] [] h Q))))))))) : Ev mX5_touchedCount 4 [(0, vR 16), (1, vI x1), (2, vI x2)] [] h Q := by
  refine ev_iload_n 2 dX5_touchedCount_4 rfl (x := x2) rfl ?_
  refine ev_bipush 64 dX5_touchedCount_5 (by decide) ?_
  refine ev_icmp_ge 37 dX5_touchedCount_7 (by decide) ⟨fun c1 => ?_, fun c1 => ?_⟩
  · have H := H.1 c1
    refine ev_iload_n 1 dX5_touchedCount_37 rfl (x := x1) rfl ?_
    exact ev_iret dX5_touchedCount_38 rfl H
  · have H := H.2 c1
    refine ev_aload_n 0 dX5_touchedCount_10 rfl (x := 16) rfl ?_
    refine ev_getR dX5_touchedCount_11 flX5_24 rfl rfl ?_
    refine ev_iload_n 2 dX5_touchedCount_14 rfl (x := x2) rfl ?_
    obtain ⟨b2, H⟩ := H
    refine ev_zald dX5_touchedCount_15 rfl b2 ?_
    refine ev_if_eq 31 dX5_touchedCount_16 (by decide) ⟨fun c3 => ?_, fun c3 => ?_⟩
    · have H := H.1 c3
      refine ev_iinc (x := x2) (v := 1) dX5_touchedCount_31 rfl (by decide) (by decide) ?_
      refine ev_L (L' := [(2, vI (x2 + 1)), (0, vR 16), (1, vI x1)]) rfl ?_
      refine ev_goto 4 dX5_touchedCount_34 (by decide) ?_
      exact ev_sub (L' := [(0, vR 16), (1, vI x1), (2, vI (x2 + 1))]) ⟨rfl, rfl, rfl, trivial⟩ H
    · have H := H.2 c3
      refine ev_aload_n 0 dX5_touchedCount_19 rfl (x := 16) rfl ?_
      refine ev_getR dX5_touchedCount_20 flX5_27 rfl rfl ?_
      refine ev_iload_n 2 dX5_touchedCount_23 rfl (x := x2) rfl ?_
      obtain ⟨b4, H⟩ := H
      refine ev_zald dX5_touchedCount_24 rfl b4 ?_
      refine ev_if_eq 31 dX5_touchedCount_25 (by decide) ⟨fun c5 => ?_, fun c5 => ?_⟩
      · have H := H.1 c5
        refine ev_iinc (x := x2) (v := 1) dX5_touchedCount_31 rfl (by decide) (by decide) ?_
        refine ev_L (L' := [(2, vI (x2 + 1)), (0, vR 16), (1, vI x1)]) rfl ?_
        refine ev_goto 4 dX5_touchedCount_34 (by decide) ?_
        exact ev_sub (L' := [(0, vR 16), (1, vI x1), (2, vI (x2 + 1))]) ⟨rfl, rfl, rfl, trivial⟩ H
      · have H := H.2 c5
        refine ev_iinc (x := x1) (v := 1) dX5_touchedCount_28 rfl (by decide) (by decide) ?_
        refine ev_L (L' := [(1, vI (x1 + 1)), (0, vR 16), (2, vI x2)]) rfl ?_
        refine ev_iinc (x := x2) (v := 1) dX5_touchedCount_31 rfl (by decide) (by decide) ?_
        refine ev_L (L' := [(2, vI (x2 + 1)), (1, vI (x1 + 1)), (0, vR 16)]) rfl ?_
        refine ev_goto 4 dX5_touchedCount_34 (by decide) ?_
        exact ev_sub (L' := [(0, vR 16), (1, vI (x1 + 1)), (2, vI (x2 + 1))]) ⟨rfl, rfl, rfl, trivial⟩ H
set_option maxRecDepth 20000 in
theorem sX5_untouch {h : Hp} {Q : Option AV → Hp → Prop} (H : Ev mX5_untouch 2 [(0, vR 16), (1, vI 0)] [] h Q) : EvM mX5_untouch [vR 16] h Q := by
  refine evM_of (by decide) rfl (Nat.le_of_ble_eq_true rfl) ?_
  show Ev mX5_untouch 0 [(0, vR 16)] [] h Q
  refine ev_iconst 0 dX5_untouch_0 (by decide) ?_
  refine ev_istore_n 1 dX5_untouch_1 rfl (by decide) ?_
  refine ev_L (L' := [(1, vI 0), (0, vR 16)]) rfl ?_
  exact ev_sub (L' := [(0, vR 16), (1, vI 0)]) ⟨rfl, rfl, trivial⟩ H
set_option maxRecDepth 20000 in
theorem sX5_untouch_2 {h : Hp} {Q : Option AV → Hp → Prop} {x1 : Int32} (H : (((64 ≤ x1) → Q none h) ∧ ((¬ 64 ≤ x1) → (vp_in x1 64 ∧ (∀ h3 : Hp, h3 = sI h 21 (upd (h.1 21) (Int32.toNatClampNeg x1) 0) → Ev mX5_untouch 2 [(0, vR 16), (1, vI (x1 + 1))] [] h3 Q))))) : Ev mX5_untouch 2 [(0, vR 16), (1, vI x1)] [] h Q := by
  refine ev_iload_n 1 dX5_untouch_2 rfl (x := x1) rfl ?_
  refine ev_bipush 64 dX5_untouch_3 (by decide) ?_
  refine ev_icmp_ge 21 dX5_untouch_5 (by decide) ⟨fun c1 => ?_, fun c1 => ?_⟩
  · have H := H.1 c1
    exact ev_vret dX5_untouch_21 rfl H
  · have H := H.2 c1
    refine ev_aload_n 0 dX5_untouch_8 rfl (x := 16) rfl ?_
    refine ev_getR dX5_untouch_9 flX5_27 rfl rfl ?_
    refine ev_iload_n 1 dX5_untouch_12 rfl (x := x1) rfl ?_
    refine ev_iconst 0 dX5_untouch_13 (by decide) ?_
    obtain ⟨b2, H⟩ := H
    refine ev_zast dX5_untouch_14 rfl b2 (by decide) ?_
    obtain ⟨h3, eh3⟩ : ∃ z : Hp, z = sI h 21 (upd (h.1 21) (Int32.toNatClampNeg x1) 0) := ⟨_, rfl⟩
    rw [← eh3]
    have H := H h3 eh3
    refine ev_iinc (x := x1) (v := 1) dX5_untouch_15 rfl (by decide) (by decide) ?_
    refine ev_L (L' := [(1, vI (x1 + 1)), (0, vR 16)]) rfl ?_
    refine ev_goto 2 dX5_untouch_18 (by decide) ?_
    exact ev_sub (L' := [(0, vR 16), (1, vI (x1 + 1))]) ⟨rfl, rfl, trivial⟩ H
set_option maxRecDepth 20000 in
theorem sX5_newNode {h : Hp} {Q : Option AV → Hp → Prop} {x1 : Int32} (H : Ev mX5_newNode 2 [(0, vR 16), (1, vI x1), (2, vI 0)] [] h Q) : EvM mX5_newNode [vR 16, vI x1] h Q := by
  refine evM_of (by decide) rfl (Nat.le_of_ble_eq_true rfl) ?_
  show Ev mX5_newNode 0 [(0, vR 16), (1, vI x1)] [] h Q
  refine ev_iconst 0 dX5_newNode_0 (by decide) ?_
  refine ev_istore_n 2 dX5_newNode_1 rfl (by decide) ?_
  refine ev_L (L' := [(2, vI 0), (0, vR 16), (1, vI x1)]) rfl ?_
  exact ev_sub (L' := [(0, vR 16), (1, vI x1), (2, vI 0)]) ⟨rfl, rfl, rfl, trivial⟩ H
set_option maxRecDepth 20000 in
theorem sX5_newNode_2 {h : Hp} {Q : Option AV → Hp → Prop} {x1 : Int32} {x2 : Int32} (H : (((64 ≤ x2) → Q (some (vI (-1))) h) ∧ ((¬ 64 ≤ x2) → (vp_in x2 64 ∧ (((¬ (h.1 20 (Int32.toNatClampNeg x2)) = 0) → Ev mX5_newNode 2 [(0, vR 16), (1, vI x1), (2, vI (x2 + 1))] [] h Q) ∧ (((h.1 20 (Int32.toNatClampNeg x2)) = 0) → (vp_in x2 64 ∧ (∀ h5 : Hp, h5 = sI h 20 (upd (h.1 20) (Int32.toNatClampNeg x2) 1) → (vp_in x2 64 ∧ ((x1 = 0 ∨ x1 = 1) ∧ (∀ h8 : Hp, h8 = sI h5 19 (upd (h5.1 19) (Int32.toNatClampNeg x2) x1) → (vp_in x2 64 ∧ (∀ h10 : Hp, h10 = sI h8 21 (upd (h8.1 21) (Int32.toNatClampNeg x2) 1) → (vp_in x2 64 ∧ (∀ h12 : Hp, h12 = sI h10 18 (upd (h10.1 18) (Int32.toNatClampNeg x2) 0) → (∀ h13 : Hp, h13 = sI h12 16 (upd (h12.1 16) 5 ((h12.1 16 5) + 1)) → Q (some (vI x2)) h13)))))))))))))))) : Ev mX5_newNode 2 [(0, vR 16), (1, vI x1), (2, vI x2)] [] h Q := by
  refine ev_iload_n 2 dX5_newNode_2 rfl (x := x2) rfl ?_
  refine ev_bipush 64 dX5_newNode_3 (by decide) ?_
  refine ev_icmp_ge 63 dX5_newNode_5 (by decide) ⟨fun c1 => ?_, fun c1 => ?_⟩
  · have H := H.1 c1
    refine ev_iconst (-1) dX5_newNode_63 (by decide) ?_
    exact ev_iret dX5_newNode_64 rfl H
  · have H := H.2 c1
    refine ev_aload_n 0 dX5_newNode_8 rfl (x := 16) rfl ?_
    refine ev_getR dX5_newNode_9 flX5_24 rfl rfl ?_
    refine ev_iload_n 2 dX5_newNode_12 rfl (x := x2) rfl ?_
    obtain ⟨b2, H⟩ := H
    refine ev_zald dX5_newNode_13 rfl b2 ?_
    refine ev_if_ne 57 dX5_newNode_14 (by decide) ⟨fun c3 => ?_, fun c3 => ?_⟩
    · have H := H.1 c3
      refine ev_iinc (x := x2) (v := 1) dX5_newNode_57 rfl (by decide) (by decide) ?_
      refine ev_L (L' := [(2, vI (x2 + 1)), (0, vR 16), (1, vI x1)]) rfl ?_
      refine ev_goto 2 dX5_newNode_60 (by decide) ?_
      exact ev_sub (L' := [(0, vR 16), (1, vI x1), (2, vI (x2 + 1))]) ⟨rfl, rfl, rfl, trivial⟩ H
    · have H := H.2 c3
      refine ev_aload_n 0 dX5_newNode_17 rfl (x := 16) rfl ?_
      refine ev_getR dX5_newNode_18 flX5_24 rfl rfl ?_
      refine ev_iload_n 2 dX5_newNode_21 rfl (x := x2) rfl ?_
      refine ev_iconst 1 dX5_newNode_22 (by decide) ?_
      obtain ⟨b4, H⟩ := H
      refine ev_zast dX5_newNode_23 rfl b4 (by decide) ?_
      obtain ⟨h5, eh5⟩ : ∃ z : Hp, z = sI h 20 (upd (h.1 20) (Int32.toNatClampNeg x2) 1) := ⟨_, rfl⟩
      rw [← eh5]
      have H := H h5 eh5
      refine ev_aload_n 0 dX5_newNode_24 rfl (x := 16) rfl ?_
      refine ev_getR dX5_newNode_25 flX5_20 rfl rfl ?_
      refine ev_iload_n 2 dX5_newNode_28 rfl (x := x2) rfl ?_
      refine ev_iload_n 1 dX5_newNode_29 rfl (x := x1) rfl ?_
      obtain ⟨b6, H⟩ := H
      obtain ⟨z7, H⟩ := H
      refine ev_zast dX5_newNode_30 rfl b6 z7 ?_
      obtain ⟨h8, eh8⟩ : ∃ z : Hp, z = sI h5 19 (upd (h5.1 19) (Int32.toNatClampNeg x2) x1) := ⟨_, rfl⟩
      rw [← eh8]
      have H := H h8 eh8
      refine ev_aload_n 0 dX5_newNode_31 rfl (x := 16) rfl ?_
      refine ev_getR dX5_newNode_32 flX5_27 rfl rfl ?_
      refine ev_iload_n 2 dX5_newNode_35 rfl (x := x2) rfl ?_
      refine ev_iconst 1 dX5_newNode_36 (by decide) ?_
      obtain ⟨b9, H⟩ := H
      refine ev_zast dX5_newNode_37 rfl b9 (by decide) ?_
      obtain ⟨h10, eh10⟩ : ∃ z : Hp, z = sI h8 21 (upd (h8.1 21) (Int32.toNatClampNeg x2) 1) := ⟨_, rfl⟩
      rw [← eh10]
      have H := H h10 eh10
      refine ev_aload_n 0 dX5_newNode_38 rfl (x := 16) rfl ?_
      refine ev_getR dX5_newNode_39 flX5_16 rfl rfl ?_
      refine ev_iload_n 2 dX5_newNode_42 rfl (x := x2) rfl ?_
      refine ev_iconst 0 dX5_newNode_43 (by decide) ?_
      obtain ⟨b11, H⟩ := H
      refine ev_iast dX5_newNode_44 rfl b11  ?_
      obtain ⟨h12, eh12⟩ : ∃ z : Hp, z = sI h10 18 (upd (h10.1 18) (Int32.toNatClampNeg x2) 0) := ⟨_, rfl⟩
      rw [← eh12]
      have H := H h12 eh12
      refine ev_aload_n 0 dX5_newNode_45 rfl (x := 16) rfl ?_
      refine ev_dup dX5_newNode_46 rfl ?_
      refine ev_getI dX5_newNode_47 flX5_30 rfl rfl ?_
      refine ev_iconst 1 dX5_newNode_50 (by decide) ?_
      refine ev_iadd dX5_newNode_51 ?_
      refine ev_putI dX5_newNode_52 fpX5_30 rfl rfl   ?_
      obtain ⟨h13, eh13⟩ : ∃ z : Hp, z = sI h12 16 (upd (h12.1 16) 5 ((h12.1 16 5) + 1)) := ⟨_, rfl⟩
      rw [← eh13]
      have H := H h13 eh13
      refine ev_iload_n 2 dX5_newNode_55 rfl (x := x2) rfl ?_
      exact ev_iret dX5_newNode_56 rfl H
set_option maxRecDepth 20000 in
theorem sX5_freeNode {h : Hp} {Q : Option AV → Hp → Prop} {x1 : Int32} (H : (vp_in x1 64 ∧ (∀ h2 : Hp, h2 = sI h 20 (upd (h.1 20) (Int32.toNatClampNeg x1) 0) → (vp_in x1 64 ∧ (∀ h4 : Hp, h4 = sI h2 19 (upd (h2.1 19) (Int32.toNatClampNeg x1) 0) → (vp_in x1 64 ∧ (∀ h6 : Hp, h6 = sI h4 18 (upd (h4.1 18) (Int32.toNatClampNeg x1) 0) → (∀ h7 : Hp, h7 = sI h6 16 (upd (h6.1 16) 5 ((h6.1 16 5) - 1)) → Q none h7)))))))) : EvM mX5_freeNode [vR 16, vI x1] h Q := by
  refine evM_of (by decide) rfl (Nat.le_of_ble_eq_true rfl) ?_
  show Ev mX5_freeNode 0 [(0, vR 16), (1, vI x1)] [] h Q
  refine ev_aload_n 0 dX5_freeNode_0 rfl (x := 16) rfl ?_
  refine ev_getR dX5_freeNode_1 flX5_24 rfl rfl ?_
  refine ev_iload_n 1 dX5_freeNode_4 rfl (x := x1) rfl ?_
  refine ev_iconst 0 dX5_freeNode_5 (by decide) ?_
  obtain ⟨b1, H⟩ := H
  refine ev_zast dX5_freeNode_6 rfl b1 (by decide) ?_
  obtain ⟨h2, eh2⟩ : ∃ z : Hp, z = sI h 20 (upd (h.1 20) (Int32.toNatClampNeg x1) 0) := ⟨_, rfl⟩
  rw [← eh2]
  have H := H h2 eh2
  refine ev_aload_n 0 dX5_freeNode_7 rfl (x := 16) rfl ?_
  refine ev_getR dX5_freeNode_8 flX5_20 rfl rfl ?_
  refine ev_iload_n 1 dX5_freeNode_11 rfl (x := x1) rfl ?_
  refine ev_iconst 0 dX5_freeNode_12 (by decide) ?_
  obtain ⟨b3, H⟩ := H
  refine ev_zast dX5_freeNode_13 rfl b3 (by decide) ?_
  obtain ⟨h4, eh4⟩ : ∃ z : Hp, z = sI h2 19 (upd (h2.1 19) (Int32.toNatClampNeg x1) 0) := ⟨_, rfl⟩
  rw [← eh4]
  have H := H h4 eh4
  refine ev_aload_n 0 dX5_freeNode_14 rfl (x := 16) rfl ?_
  refine ev_getR dX5_freeNode_15 flX5_16 rfl rfl ?_
  refine ev_iload_n 1 dX5_freeNode_18 rfl (x := x1) rfl ?_
  refine ev_iconst 0 dX5_freeNode_19 (by decide) ?_
  obtain ⟨b5, H⟩ := H
  refine ev_iast dX5_freeNode_20 rfl b5  ?_
  obtain ⟨h6, eh6⟩ : ∃ z : Hp, z = sI h4 18 (upd (h4.1 18) (Int32.toNatClampNeg x1) 0) := ⟨_, rfl⟩
  rw [← eh6]
  have H := H h6 eh6
  refine ev_aload_n 0 dX5_freeNode_21 rfl (x := 16) rfl ?_
  refine ev_dup dX5_freeNode_22 rfl ?_
  refine ev_getI dX5_freeNode_23 flX5_30 rfl rfl ?_
  refine ev_iconst 1 dX5_freeNode_26 (by decide) ?_
  refine ev_isub dX5_freeNode_27 ?_
  refine ev_putI dX5_freeNode_28 fpX5_30 rfl rfl   ?_
  obtain ⟨h7, eh7⟩ : ∃ z : Hp, z = sI h6 16 (upd (h6.1 16) 5 ((h6.1 16 5) - 1)) := ⟨_, rfl⟩
  rw [← eh7]
  have H := H h7 eh7
  exact ev_vret dX5_freeNode_31 rfl H
set_option maxRecDepth 20000 in
theorem sX5_append {h : Hp} {Q : Option AV → Hp → Prop} {x1 : Int32} {x2 : Int64} (H : (((x1 < 0) → Q none h) ∧ ((¬ x1 < 0) → (((64 ≤ x1) → Q none h) ∧ ((¬ 64 ≤ x1) → (vp_in x1 64 ∧ EvM mX5_putIn [vR 16, vI x1, vI (h.1 18 (Int32.toNatClampNeg x1)), vL x2] h (fun v h4 => v = none ∧ Q none h4))))))) : EvM mX5_append [vR 16, vI x1, vL x2] h Q := by
  refine evM_of (by decide) rfl (Nat.le_of_ble_eq_true rfl) ?_
  show Ev mX5_append 0 [(0, vR 16), (1, vI x1), (2, vL x2)] [] h Q
  refine ev_iload_n 1 dX5_append_0 rfl (x := x1) rfl ?_
  refine ev_if_lt 22 dX5_append_1 (by decide) ⟨fun c1 => ?_, fun c1 => ?_⟩
  · have H := H.1 c1
    exact ev_vret dX5_append_22 rfl H
  · have H := H.2 c1
    refine ev_iload_n 1 dX5_append_4 rfl (x := x1) rfl ?_
    refine ev_bipush 64 dX5_append_5 (by decide) ?_
    refine ev_icmp_ge 22 dX5_append_7 (by decide) ⟨fun c2 => ?_, fun c2 => ?_⟩
    · have H := H.1 c2
      exact ev_vret dX5_append_22 rfl H
    · have H := H.2 c2
      refine ev_aload_n 0 dX5_append_10 rfl (x := 16) rfl ?_
      refine ev_iload_n 1 dX5_append_11 rfl (x := x1) rfl ?_
      refine ev_aload_n 0 dX5_append_12 rfl (x := 16) rfl ?_
      refine ev_getR dX5_append_13 flX5_16 rfl rfl ?_
      refine ev_iload_n 1 dX5_append_16 rfl (x := x1) rfl ?_
      obtain ⟨b3, H⟩ := H
      refine ev_iald dX5_append_17 rfl b3 ?_
      refine ev_lload_n 2 dX5_append_18 rfl (x := x2) rfl ?_
      refine ev_callV (As := [vI x1, vI (h.1 18 (Int32.toNatClampNeg x1)), vL x2]) (rest := []) dX5_append_19 mlX5_55 rm_mX5_append_mX5_putIn rfl rfl rfl rfl (Nat.le_of_ble_eq_true rfl) H (fun v h4 H => ?_)
      obtain ⟨rfl, H⟩ := H
      show Ev mX5_append 22 [(0, vR 16), (1, vI x1), (2, vL x2)] [] h4 Q
      exact ev_vret dX5_append_22 rfl H
set_option maxRecDepth 20000 in
theorem sX5_finishLoad {h : Hp} {Q : Option AV → Hp → Prop} {x1 : Int32} {x2 : Int32} (H : (∀ h1 : Hp, h1 = sI h 16 (upd (h.1 16) 7 x1) → (∀ h2 : Hp, h2 = sI h1 16 (upd (h1.1 16) 6 x2) → Q none h2))) : EvM mX5_finishLoad [vR 16, vI x1, vI x2] h Q := by
  refine evM_of (by decide) rfl (Nat.le_of_ble_eq_true rfl) ?_
  show Ev mX5_finishLoad 0 [(0, vR 16), (1, vI x1), (2, vI x2)] [] h Q
  refine ev_aload_n 0 dX5_finishLoad_0 rfl (x := 16) rfl ?_
  refine ev_iload_n 1 dX5_finishLoad_1 rfl (x := x1) rfl ?_
  refine ev_putI dX5_finishLoad_2 fpX5_37 rfl rfl   ?_
  obtain ⟨h1, eh1⟩ : ∃ z : Hp, z = sI h 16 (upd (h.1 16) 7 x1) := ⟨_, rfl⟩
  rw [← eh1]
  have H := H h1 eh1
  refine ev_aload_n 0 dX5_finishLoad_5 rfl (x := 16) rfl ?_
  refine ev_iload_n 2 dX5_finishLoad_6 rfl (x := x2) rfl ?_
  refine ev_putI dX5_finishLoad_7 fpX5_34 rfl rfl   ?_
  obtain ⟨h2, eh2⟩ : ∃ z : Hp, z = sI h1 16 (upd (h1.1 16) 6 x2) := ⟨_, rfl⟩
  rw [← eh2]
  have H := H h2 eh2
  exact ev_vret dX5_finishLoad_10 rfl H
set_option maxRecDepth 20000 in
theorem sX5_putIn {h : Hp} {Q : Option AV → Hp → Prop} {x1 : Int32} {x2 : Int32} {x3 : Int64} (H : (((x2 < 0) → Q none h) ∧ ((¬ x2 < 0) → (vp_in x1 64 ∧ ((((h.1 18 (Int32.toNatClampNeg x1)) < x2) → Q none h) ∧ ((¬ (h.1 18 (Int32.toNatClampNeg x1)) < x2) → (vp_in x1 64 ∧ ((((h.1 18 (Int32.toNatClampNeg x1)) ≤ 8) → (vp_in x1 64 ∧ Ev mX5_putIn 34 [(0, vR 16), (1, vI x1), (2, vI x2), (3, vL x3), (5, vI (h.1 18 (Int32.toNatClampNeg x1)))] [] h Q)) ∧ ((¬ (h.1 18 (Int32.toNatClampNeg x1)) ≤ 8) → Q none h))))))))) : EvM mX5_putIn [vR 16, vI x1, vI x2, vL x3] h Q := by
  refine evM_of (by decide) rfl (Nat.le_of_ble_eq_true rfl) ?_
  show Ev mX5_putIn 0 [(0, vR 16), (1, vI x1), (2, vI x2), (3, vL x3)] [] h Q
  refine ev_iload_n 2 dX5_putIn_0 rfl (x := x2) rfl ?_
  refine ev_if_lt 25 dX5_putIn_1 (by decide) ⟨fun c1 => ?_, fun c1 => ?_⟩
  · have H := H.1 c1
    exact ev_vret dX5_putIn_25 rfl H
  · have H := H.2 c1
    refine ev_iload_n 2 dX5_putIn_4 rfl (x := x2) rfl ?_
    refine ev_aload_n 0 dX5_putIn_5 rfl (x := 16) rfl ?_
    refine ev_getR dX5_putIn_6 flX5_16 rfl rfl ?_
    refine ev_iload_n 1 dX5_putIn_9 rfl (x := x1) rfl ?_
    obtain ⟨b2, H⟩ := H
    refine ev_iald dX5_putIn_10 rfl b2 ?_
    refine ev_icmp_gt 25 dX5_putIn_11 (by decide) ⟨fun c3 => ?_, fun c3 => ?_⟩
    · have H := H.1 c3
      exact ev_vret dX5_putIn_25 rfl H
    · have H := H.2 c3
      refine ev_aload_n 0 dX5_putIn_14 rfl (x := 16) rfl ?_
      refine ev_getR dX5_putIn_15 flX5_16 rfl rfl ?_
      refine ev_iload_n 1 dX5_putIn_18 rfl (x := x1) rfl ?_
      obtain ⟨b4, H⟩ := H
      refine ev_iald dX5_putIn_19 rfl b4 ?_
      refine ev_bipush 8 dX5_putIn_20 (by decide) ?_
      refine ev_icmp_le 26 dX5_putIn_22 (by decide) ⟨fun c5 => ?_, fun c5 => ?_⟩
      · have H := H.1 c5
        refine ev_aload_n 0 dX5_putIn_26 rfl (x := 16) rfl ?_
        refine ev_getR dX5_putIn_27 flX5_16 rfl rfl ?_
        refine ev_iload_n 1 dX5_putIn_30 rfl (x := x1) rfl ?_
        obtain ⟨b6, H⟩ := H
        refine ev_iald dX5_putIn_31 rfl b6 ?_
        refine ev_istore dX5_putIn_32 (by decide) ?_
        refine ev_L (L' := [(5, vI (h.1 18 (Int32.toNatClampNeg x1))), (0, vR 16), (1, vI x1), (2, vI x2), (3, vL x3)]) rfl ?_
        exact ev_sub (L' := [(0, vR 16), (1, vI x1), (2, vI x2), (3, vL x3), (5, vI (h.1 18 (Int32.toNatClampNeg x1)))]) ⟨rfl, rfl, rfl, rfl, rfl, trivial⟩ H
      · have H := H.2 c5
        exact ev_vret dX5_putIn_25 rfl H
set_option maxRecDepth 20000 in
theorem sX5_putIn_34 {h : Hp} {Q : Option AV → Hp → Prop} {x1 : Int32} {x2 : Int32} {x3 : Int64} {x5 : Int32} (H : (((x5 ≤ x2) → (vp_in x1 64 ∧ (vp_in x2 9 ∧ (∀ h4 : Hp, h4 = sW h (Int32.toNatClampNeg x1) (vp_updL (h.2.2 (Int32.toNatClampNeg x1)) (Int32.toNatClampNeg x2) x3) → (vp_in x1 64 ∧ (vp_in x1 64 ∧ (∀ h7 : Hp, h7 = sI h4 18 (upd (h4.1 18) (Int32.toNatClampNeg x1) ((h4.1 18 (Int32.toNatClampNeg x1)) + 1)) → (vp_in x1 64 ∧ (∀ h9 : Hp, h9 = sI h7 21 (upd (h7.1 21) (Int32.toNatClampNeg x1) 1) → Q none h9))))))))) ∧ ((¬ x5 ≤ x2) → (vp_in x1 64 ∧ (vp_in x1 64 ∧ (vp_in (x5 - 1) 9 ∧ (vp_in x5 9 ∧ (∀ h14 : Hp, h14 = sW h (Int32.toNatClampNeg x1) (vp_updL (h.2.2 (Int32.toNatClampNeg x1)) (Int32.toNatClampNeg x5) (h.2.2 (Int32.toNatClampNeg x1) (Int32.toNatClampNeg (x5 - 1)))) → Ev mX5_putIn 34 [(0, vR 16), (1, vI x1), (2, vI x2), (3, vL x3), (5, vI (x5 + (-1)))] [] h14 Q)))))))) : Ev mX5_putIn 34 [(0, vR 16), (1, vI x1), (2, vI x2), (3, vL x3), (5, vI x5)] [] h Q := by
  refine ev_iload dX5_putIn_34 (x := x5) rfl ?_
  refine ev_iload_n 2 dX5_putIn_36 rfl (x := x2) rfl ?_
  refine ev_icmp_le 66 dX5_putIn_37 (by decide) ⟨fun c1 => ?_, fun c1 => ?_⟩
  · have H := H.1 c1
    refine ev_aload_n 0 dX5_putIn_66 rfl (x := 16) rfl ?_
    refine ev_getR dX5_putIn_67 flX5_11 rfl rfl ?_
    refine ev_iload_n 1 dX5_putIn_70 rfl (x := x1) rfl ?_
    obtain ⟨b2, H⟩ := H
    refine ev_gald dX5_putIn_71 rfl b2 ?_
    refine ev_iload_n 2 dX5_putIn_72 rfl (x := x2) rfl ?_
    refine ev_lload_n 3 dX5_putIn_73 rfl (x := x3) rfl ?_
    obtain ⟨b3, H⟩ := H
    refine ev_rast dX5_putIn_74 (vp_lt b2) b3  ?_
    obtain ⟨h4, eh4⟩ : ∃ z : Hp, z = sW h (Int32.toNatClampNeg x1) (vp_updL (h.2.2 (Int32.toNatClampNeg x1)) (Int32.toNatClampNeg x2) x3) := ⟨_, rfl⟩
    rw [← eh4]
    have H := H h4 eh4
    refine ev_aload_n 0 dX5_putIn_75 rfl (x := 16) rfl ?_
    refine ev_getR dX5_putIn_76 flX5_16 rfl rfl ?_
    refine ev_iload_n 1 dX5_putIn_79 rfl (x := x1) rfl ?_
    refine ev_dup2 dX5_putIn_80 rfl rfl ?_
    obtain ⟨b5, H⟩ := H
    refine ev_iald dX5_putIn_81 rfl b5 ?_
    refine ev_iconst 1 dX5_putIn_82 (by decide) ?_
    refine ev_iadd dX5_putIn_83 ?_
    obtain ⟨b6, H⟩ := H
    refine ev_iast dX5_putIn_84 rfl b6  ?_
    obtain ⟨h7, eh7⟩ : ∃ z : Hp, z = sI h4 18 (upd (h4.1 18) (Int32.toNatClampNeg x1) ((h4.1 18 (Int32.toNatClampNeg x1)) + 1)) := ⟨_, rfl⟩
    rw [← eh7]
    have H := H h7 eh7
    refine ev_aload_n 0 dX5_putIn_85 rfl (x := 16) rfl ?_
    refine ev_getR dX5_putIn_86 flX5_27 rfl rfl ?_
    refine ev_iload_n 1 dX5_putIn_89 rfl (x := x1) rfl ?_
    refine ev_iconst 1 dX5_putIn_90 (by decide) ?_
    obtain ⟨b8, H⟩ := H
    refine ev_zast dX5_putIn_91 rfl b8 (by decide) ?_
    obtain ⟨h9, eh9⟩ : ∃ z : Hp, z = sI h7 21 (upd (h7.1 21) (Int32.toNatClampNeg x1) 1) := ⟨_, rfl⟩
    rw [← eh9]
    have H := H h9 eh9
    exact ev_vret dX5_putIn_92 rfl H
  · have H := H.2 c1
    refine ev_aload_n 0 dX5_putIn_40 rfl (x := 16) rfl ?_
    refine ev_getR dX5_putIn_41 flX5_11 rfl rfl ?_
    refine ev_iload_n 1 dX5_putIn_44 rfl (x := x1) rfl ?_
    obtain ⟨b10, H⟩ := H
    refine ev_gald dX5_putIn_45 rfl b10 ?_
    refine ev_iload dX5_putIn_46 (x := x5) rfl ?_
    refine ev_aload_n 0 dX5_putIn_48 rfl (x := 16) rfl ?_
    refine ev_getR dX5_putIn_49 flX5_11 rfl rfl ?_
    refine ev_iload_n 1 dX5_putIn_52 rfl (x := x1) rfl ?_
    obtain ⟨b11, H⟩ := H
    refine ev_gald dX5_putIn_53 rfl b11 ?_
    refine ev_iload dX5_putIn_54 (x := x5) rfl ?_
    refine ev_iconst 1 dX5_putIn_56 (by decide) ?_
    refine ev_isub dX5_putIn_57 ?_
    obtain ⟨b12, H⟩ := H
    refine ev_rald dX5_putIn_58 (vp_lt b11) b12 ?_
    obtain ⟨b13, H⟩ := H
    refine ev_rast dX5_putIn_59 (vp_lt b10) b13  ?_
    obtain ⟨h14, eh14⟩ : ∃ z : Hp, z = sW h (Int32.toNatClampNeg x1) (vp_updL (h.2.2 (Int32.toNatClampNeg x1)) (Int32.toNatClampNeg x5) (h.2.2 (Int32.toNatClampNeg x1) (Int32.toNatClampNeg (x5 - 1)))) := ⟨_, rfl⟩
    rw [← eh14]
    have H := H h14 eh14
    refine ev_iinc (x := x5) (v := (-1)) dX5_putIn_60 rfl (by decide) (by decide) ?_
    refine ev_L (L' := [(5, vI (x5 + (-1))), (0, vR 16), (1, vI x1), (2, vI x2), (3, vL x3)]) rfl ?_
    refine ev_goto 34 dX5_putIn_63 (by decide) ?_
    exact ev_sub (L' := [(0, vR 16), (1, vI x1), (2, vI x2), (3, vL x3), (5, vI (x5 + (-1)))]) ⟨rfl, rfl, rfl, rfl, rfl, trivial⟩ H
set_option maxRecDepth 20000 in
theorem sX5_takeOut {h : Hp} {Q : Option AV → Hp → Prop} {x1 : Int32} {x2 : Int32} (H : (((x2 < 0) → Q none h) ∧ ((¬ x2 < 0) → (vp_in x1 64 ∧ (((x2 < (h.1 18 (Int32.toNatClampNeg x1))) → Ev mX5_takeOut 17 [(0, vR 16), (1, vI x1), (3, vI x2)] [] h Q) ∧ ((¬ x2 < (h.1 18 (Int32.toNatClampNeg x1))) → Q none h)))))) : EvM mX5_takeOut [vR 16, vI x1, vI x2] h Q := by
  refine evM_of (by decide) rfl (Nat.le_of_ble_eq_true rfl) ?_
  show Ev mX5_takeOut 0 [(0, vR 16), (1, vI x1), (2, vI x2)] [] h Q
  refine ev_iload_n 2 dX5_takeOut_0 rfl (x := x2) rfl ?_
  refine ev_if_lt 14 dX5_takeOut_1 (by decide) ⟨fun c1 => ?_, fun c1 => ?_⟩
  · have H := H.1 c1
    exact ev_vret dX5_takeOut_14 rfl H
  · have H := H.2 c1
    refine ev_iload_n 2 dX5_takeOut_4 rfl (x := x2) rfl ?_
    refine ev_aload_n 0 dX5_takeOut_5 rfl (x := 16) rfl ?_
    refine ev_getR dX5_takeOut_6 flX5_16 rfl rfl ?_
    refine ev_iload_n 1 dX5_takeOut_9 rfl (x := x1) rfl ?_
    obtain ⟨b2, H⟩ := H
    refine ev_iald dX5_takeOut_10 rfl b2 ?_
    refine ev_icmp_lt 15 dX5_takeOut_11 (by decide) ⟨fun c3 => ?_, fun c3 => ?_⟩
    · have H := H.1 c3
      refine ev_iload_n 2 dX5_takeOut_15 rfl (x := x2) rfl ?_
      refine ev_istore_n 3 dX5_takeOut_16 rfl (by decide) ?_
      refine ev_L (L' := [(3, vI x2), (0, vR 16), (1, vI x1), (2, vI x2)]) rfl ?_
      exact ev_sub (L' := [(0, vR 16), (1, vI x1), (3, vI x2)]) ⟨rfl, rfl, rfl, trivial⟩ H
    · have H := H.2 c3
      exact ev_vret dX5_takeOut_14 rfl H
set_option maxRecDepth 20000 in
theorem sX5_takeOut_17 {h : Hp} {Q : Option AV → Hp → Prop} {x1 : Int32} {x3 : Int32} (H : (vp_in x1 64 ∧ (((((h.1 18 (Int32.toNatClampNeg x1)) - 1) ≤ x3) → (vp_in x1 64 ∧ (vp_in x1 64 ∧ (∀ h5 : Hp, h5 = sI h 18 (upd (h.1 18) (Int32.toNatClampNeg x1) ((h.1 18 (Int32.toNatClampNeg x1)) - 1)) → (vp_in x1 64 ∧ (∀ h7 : Hp, h7 = sI h5 21 (upd (h5.1 21) (Int32.toNatClampNeg x1) 1) → Q none h7)))))) ∧ ((¬ ((h.1 18 (Int32.toNatClampNeg x1)) - 1) ≤ x3) → (vp_in x1 64 ∧ (vp_in x1 64 ∧ (vp_in (x3 + 1) 9 ∧ (vp_in x3 9 ∧ (∀ h12 : Hp, h12 = sW h (Int32.toNatClampNeg x1) (vp_updL (h.2.2 (Int32.toNatClampNeg x1)) (Int32.toNatClampNeg x3) (h.2.2 (Int32.toNatClampNeg x1) (Int32.toNatClampNeg (x3 + 1)))) → Ev mX5_takeOut 17 [(0, vR 16), (1, vI x1), (3, vI (x3 + 1))] [] h12 Q))))))))) : Ev mX5_takeOut 17 [(0, vR 16), (1, vI x1), (3, vI x3)] [] h Q := by
  refine ev_iload_n 3 dX5_takeOut_17 rfl (x := x3) rfl ?_
  refine ev_aload_n 0 dX5_takeOut_18 rfl (x := 16) rfl ?_
  refine ev_getR dX5_takeOut_19 flX5_16 rfl rfl ?_
  refine ev_iload_n 1 dX5_takeOut_22 rfl (x := x1) rfl ?_
  obtain ⟨b1, H⟩ := H
  refine ev_iald dX5_takeOut_23 rfl b1 ?_
  refine ev_iconst 1 dX5_takeOut_24 (by decide) ?_
  refine ev_isub dX5_takeOut_25 ?_
  refine ev_icmp_ge 53 dX5_takeOut_26 (by decide) ⟨fun c2 => ?_, fun c2 => ?_⟩
  · have H := H.1 c2
    refine ev_aload_n 0 dX5_takeOut_53 rfl (x := 16) rfl ?_
    refine ev_getR dX5_takeOut_54 flX5_16 rfl rfl ?_
    refine ev_iload_n 1 dX5_takeOut_57 rfl (x := x1) rfl ?_
    refine ev_dup2 dX5_takeOut_58 rfl rfl ?_
    obtain ⟨b3, H⟩ := H
    refine ev_iald dX5_takeOut_59 rfl b3 ?_
    refine ev_iconst 1 dX5_takeOut_60 (by decide) ?_
    refine ev_isub dX5_takeOut_61 ?_
    obtain ⟨b4, H⟩ := H
    refine ev_iast dX5_takeOut_62 rfl b4  ?_
    obtain ⟨h5, eh5⟩ : ∃ z : Hp, z = sI h 18 (upd (h.1 18) (Int32.toNatClampNeg x1) ((h.1 18 (Int32.toNatClampNeg x1)) - 1)) := ⟨_, rfl⟩
    rw [← eh5]
    have H := H h5 eh5
    refine ev_aload_n 0 dX5_takeOut_63 rfl (x := 16) rfl ?_
    refine ev_getR dX5_takeOut_64 flX5_27 rfl rfl ?_
    refine ev_iload_n 1 dX5_takeOut_67 rfl (x := x1) rfl ?_
    refine ev_iconst 1 dX5_takeOut_68 (by decide) ?_
    obtain ⟨b6, H⟩ := H
    refine ev_zast dX5_takeOut_69 rfl b6 (by decide) ?_
    obtain ⟨h7, eh7⟩ : ∃ z : Hp, z = sI h5 21 (upd (h5.1 21) (Int32.toNatClampNeg x1) 1) := ⟨_, rfl⟩
    rw [← eh7]
    have H := H h7 eh7
    exact ev_vret dX5_takeOut_70 rfl H
  · have H := H.2 c2
    refine ev_aload_n 0 dX5_takeOut_29 rfl (x := 16) rfl ?_
    refine ev_getR dX5_takeOut_30 flX5_11 rfl rfl ?_
    refine ev_iload_n 1 dX5_takeOut_33 rfl (x := x1) rfl ?_
    obtain ⟨b8, H⟩ := H
    refine ev_gald dX5_takeOut_34 rfl b8 ?_
    refine ev_iload_n 3 dX5_takeOut_35 rfl (x := x3) rfl ?_
    refine ev_aload_n 0 dX5_takeOut_36 rfl (x := 16) rfl ?_
    refine ev_getR dX5_takeOut_37 flX5_11 rfl rfl ?_
    refine ev_iload_n 1 dX5_takeOut_40 rfl (x := x1) rfl ?_
    obtain ⟨b9, H⟩ := H
    refine ev_gald dX5_takeOut_41 rfl b9 ?_
    refine ev_iload_n 3 dX5_takeOut_42 rfl (x := x3) rfl ?_
    refine ev_iconst 1 dX5_takeOut_43 (by decide) ?_
    refine ev_iadd dX5_takeOut_44 ?_
    obtain ⟨b10, H⟩ := H
    refine ev_rald dX5_takeOut_45 (vp_lt b9) b10 ?_
    obtain ⟨b11, H⟩ := H
    refine ev_rast dX5_takeOut_46 (vp_lt b8) b11  ?_
    obtain ⟨h12, eh12⟩ : ∃ z : Hp, z = sW h (Int32.toNatClampNeg x1) (vp_updL (h.2.2 (Int32.toNatClampNeg x1)) (Int32.toNatClampNeg x3) (h.2.2 (Int32.toNatClampNeg x1) (Int32.toNatClampNeg (x3 + 1)))) := ⟨_, rfl⟩
    rw [← eh12]
    have H := H h12 eh12
    refine ev_iinc (x := x3) (v := 1) dX5_takeOut_47 rfl (by decide) (by decide) ?_
    refine ev_L (L' := [(3, vI (x3 + 1)), (0, vR 16), (1, vI x1)]) rfl ?_
    refine ev_goto 17 dX5_takeOut_50 (by decide) ?_
    exact ev_sub (L' := [(0, vR 16), (1, vI x1), (3, vI (x3 + 1))]) ⟨rfl, rfl, rfl, trivial⟩ H
set_option maxRecDepth 20000 in
theorem sX5_kidOf {h : Hp} {Q : Option AV → Hp → Prop} {x1 : Int32} {x2 : Int32} (H : (((x2 < 0) → Ev mX5_kidOf 25 [] [] h Q) ∧ ((¬ x2 < 0) → (vp_in x1 64 ∧ ((((h.1 18 (Int32.toNatClampNeg x1)) ≤ x2) → Ev mX5_kidOf 25 [] [] h Q) ∧ ((¬ (h.1 18 (Int32.toNatClampNeg x1)) ≤ x2) → (vp_in x1 64 ∧ (vp_in x2 9 ∧ Ev mX5_kidOf 26 [] [vL (h.2.2 (Int32.toNatClampNeg x1) (Int32.toNatClampNeg x2))] h Q)))))))) : EvM mX5_kidOf [vR 16, vI x1, vI x2] h Q := by
  refine evM_of (by decide) rfl (Nat.le_of_ble_eq_true rfl) ?_
  show Ev mX5_kidOf 0 [(0, vR 16), (1, vI x1), (2, vI x2)] [] h Q
  refine ev_iload_n 2 dX5_kidOf_0 rfl (x := x2) rfl ?_
  refine ev_if_lt 25 dX5_kidOf_1 (by decide) ⟨fun c1 => ?_, fun c1 => ?_⟩
  · have H := H.1 c1
    exact ev_sub (L' := []) trivial H
  · have H := H.2 c1
    refine ev_iload_n 2 dX5_kidOf_4 rfl (x := x2) rfl ?_
    refine ev_aload_n 0 dX5_kidOf_5 rfl (x := 16) rfl ?_
    refine ev_getR dX5_kidOf_6 flX5_16 rfl rfl ?_
    refine ev_iload_n 1 dX5_kidOf_9 rfl (x := x1) rfl ?_
    obtain ⟨b2, H⟩ := H
    refine ev_iald dX5_kidOf_10 rfl b2 ?_
    refine ev_icmp_ge 25 dX5_kidOf_11 (by decide) ⟨fun c3 => ?_, fun c3 => ?_⟩
    · have H := H.1 c3
      exact ev_sub (L' := []) trivial H
    · have H := H.2 c3
      refine ev_aload_n 0 dX5_kidOf_14 rfl (x := 16) rfl ?_
      refine ev_getR dX5_kidOf_15 flX5_11 rfl rfl ?_
      refine ev_iload_n 1 dX5_kidOf_18 rfl (x := x1) rfl ?_
      obtain ⟨b4, H⟩ := H
      refine ev_gald dX5_kidOf_19 rfl b4 ?_
      refine ev_iload_n 2 dX5_kidOf_20 rfl (x := x2) rfl ?_
      obtain ⟨b5, H⟩ := H
      refine ev_rald dX5_kidOf_21 (vp_lt b4) b5 ?_
      refine ev_goto 26 dX5_kidOf_22 (by decide) ?_
      exact ev_sub (L' := []) trivial H
set_option maxRecDepth 20000 in
theorem sX5_kidOf_25 {h : Hp} {Q : Option AV → Hp → Prop} (H : Ev mX5_kidOf 26 [] [vL 0] h Q) : Ev mX5_kidOf 25 [] [] h Q := by
  refine ev_lconst 0 dX5_kidOf_25 (by decide) ?_
  exact ev_sub (L' := []) trivial H
set_option maxRecDepth 20000 in
theorem sX5_kidOf_26 {h : Hp} {Q : Option AV → Hp → Prop} {s0 : Int64} (H : ((((lg_cmp s0 0) < 0) → Q (some (vI 0)) h) ∧ ((¬ (lg_cmp s0 0) < 0) → (((0 ≤ (lg_cmp s0 64)) → Q (some (vI 0)) h) ∧ ((¬ 0 ≤ (lg_cmp s0 64)) → Q (some (vI (Int64.toInt32 s0))) h))))) : Ev mX5_kidOf 26 [] [vL s0] h Q := by
  refine ev_lstore_n 3 dX5_kidOf_26 rfl (by decide) ?_
  refine ev_L (L' := [(3, vL s0)]) rfl ?_
  refine ev_lload_n 3 dX5_kidOf_27 rfl (x := s0) rfl ?_
  refine ev_lconst 0 dX5_kidOf_28 (by decide) ?_
  refine ev_lcmp dX5_kidOf_29 ?_
  refine ev_if_lt 46 dX5_kidOf_30 (by decide) ⟨fun c1 => ?_, fun c1 => ?_⟩
  · have H := H.1 c1
    refine ev_iconst 0 dX5_kidOf_46 (by decide) ?_
    exact ev_iret dX5_kidOf_47 rfl H
  · have H := H.2 c1
    refine ev_lload_n 3 dX5_kidOf_33 rfl (x := s0) rfl ?_
    refine ev_ldc2 dX5_kidOf_34 lcX5_59 ?_
    refine ev_lcmp dX5_kidOf_37 ?_
    refine ev_if_ge 46 dX5_kidOf_38 (by decide) ⟨fun c2 => ?_, fun c2 => ?_⟩
    · have H := H.1 c2
      refine ev_iconst 0 dX5_kidOf_46 (by decide) ?_
      exact ev_iret dX5_kidOf_47 rfl H
    · have H := H.2 c2
      refine ev_lload_n 3 dX5_kidOf_41 rfl (x := s0) rfl ?_
      refine ev_l2i dX5_kidOf_42 ?_
      refine ev_goto 47 dX5_kidOf_43 (by decide) ?_
      exact ev_iret dX5_kidOf_47 rfl H
set_option maxRecDepth 20000 in
theorem sX5_leastOf {h : Hp} {Q : Option AV → Hp → Prop} {x1 : Int32} (H : Ev mX5_leastOf 4 [(0, vR 16), (2, vI x1), (3, vI 0)] [] h Q) : EvM mX5_leastOf [vR 16, vI x1] h Q := by
  refine evM_of (by decide) rfl (Nat.le_of_ble_eq_true rfl) ?_
  show Ev mX5_leastOf 0 [(0, vR 16), (1, vI x1)] [] h Q
  refine ev_iload_n 1 dX5_leastOf_0 rfl (x := x1) rfl ?_
  refine ev_istore_n 2 dX5_leastOf_1 rfl (by decide) ?_
  refine ev_L (L' := [(2, vI x1), (0, vR 16), (1, vI x1)]) rfl ?_
  refine ev_iconst 0 dX5_leastOf_2 (by decide) ?_
  refine ev_istore_n 3 dX5_leastOf_3 rfl (by decide) ?_
  refine ev_L (L' := [(3, vI 0), (2, vI x1), (0, vR 16), (1, vI x1)]) rfl ?_
  exact ev_sub (L' := [(0, vR 16), (2, vI x1), (3, vI 0)]) ⟨rfl, rfl, rfl, trivial⟩ H
set_option maxRecDepth 20000 in
theorem sX5_leastOf_4 {h : Hp} {Q : Option AV → Hp → Prop} {x2 : Int32} {x3 : Int32} (H : (((64 ≤ x3) → Ev mX5_leastOf 32 [(0, vR 16), (2, vI x2)] [] h Q) ∧ ((¬ 64 ≤ x3) → (vp_in x2 64 ∧ ((((h.1 19 (Int32.toNatClampNeg x2)) = 0) → Ev mX5_leastOf 32 [(0, vR 16), (2, vI x2)] [] h Q) ∧ ((¬ (h.1 19 (Int32.toNatClampNeg x2)) = 0) → EvM mX5_kidOf [vR 16, vI x2, vI 0] h (fun v h4 => ∃ r5 : Int32, v = some (vI r5) ∧ Ev mX5_leastOf 4 [(0, vR 16), (2, vI r5), (3, vI (x3 + 1))] [] h4 Q))))))) : Ev mX5_leastOf 4 [(0, vR 16), (2, vI x2), (3, vI x3)] [] h Q := by
  refine ev_iload_n 3 dX5_leastOf_4 rfl (x := x3) rfl ?_
  refine ev_bipush 64 dX5_leastOf_5 (by decide) ?_
  refine ev_icmp_ge 32 dX5_leastOf_7 (by decide) ⟨fun c1 => ?_, fun c1 => ?_⟩
  · have H := H.1 c1
    exact ev_sub (L' := [(0, vR 16), (2, vI x2)]) ⟨rfl, rfl, trivial⟩ H
  · have H := H.2 c1
    refine ev_aload_n 0 dX5_leastOf_10 rfl (x := 16) rfl ?_
    refine ev_getR dX5_leastOf_11 flX5_20 rfl rfl ?_
    refine ev_iload_n 2 dX5_leastOf_14 rfl (x := x2) rfl ?_
    obtain ⟨b2, H⟩ := H
    refine ev_zald dX5_leastOf_15 rfl b2 ?_
    refine ev_if_eq 32 dX5_leastOf_16 (by decide) ⟨fun c3 => ?_, fun c3 => ?_⟩
    · have H := H.1 c3
      exact ev_sub (L' := [(0, vR 16), (2, vI x2)]) ⟨rfl, rfl, trivial⟩ H
    · have H := H.2 c3
      refine ev_aload_n 0 dX5_leastOf_19 rfl (x := 16) rfl ?_
      refine ev_iload_n 2 dX5_leastOf_20 rfl (x := x2) rfl ?_
      refine ev_iconst 0 dX5_leastOf_21 (by decide) ?_
      refine ev_callV (As := [vI x2, vI 0]) (rest := []) dX5_leastOf_22 mlX5_61 rm_mX5_leastOf_mX5_kidOf rfl rfl rfl rfl (Nat.le_of_ble_eq_true rfl) H (fun v h4 H => ?_)
      obtain ⟨r5, rfl, H⟩ := H
      show Ev mX5_leastOf 25 [(0, vR 16), (2, vI x2), (3, vI x3)] [vI r5] h4 Q
      refine ev_istore_n 2 dX5_leastOf_25 rfl (by decide) ?_
      refine ev_L (L' := [(2, vI r5), (0, vR 16), (3, vI x3)]) rfl ?_
      refine ev_iinc (x := x3) (v := 1) dX5_leastOf_26 rfl (by decide) (by decide) ?_
      refine ev_L (L' := [(3, vI (x3 + 1)), (2, vI r5), (0, vR 16)]) rfl ?_
      refine ev_goto 4 dX5_leastOf_29 (by decide) ?_
      exact ev_sub (L' := [(0, vR 16), (2, vI r5), (3, vI (x3 + 1))]) ⟨rfl, rfl, rfl, trivial⟩ H
set_option maxRecDepth 20000 in
theorem sX5_leastOf_32 {h : Hp} {Q : Option AV → Hp → Prop} {x2 : Int32} (H : (vp_in x2 64 ∧ Q (some (vL (h.2.2 (Int32.toNatClampNeg x2) (Int32.toNatClampNeg 0)))) h)) : Ev mX5_leastOf 32 [(0, vR 16), (2, vI x2)] [] h Q := by
  refine ev_aload_n 0 dX5_leastOf_32 rfl (x := 16) rfl ?_
  refine ev_getR dX5_leastOf_33 flX5_11 rfl rfl ?_
  refine ev_iload_n 2 dX5_leastOf_36 rfl (x := x2) rfl ?_
  obtain ⟨b1, H⟩ := H
  refine ev_gald dX5_leastOf_37 rfl b1 ?_
  refine ev_iconst 0 dX5_leastOf_38 (by decide) ?_
  refine ev_rald dX5_leastOf_39 (vp_lt b1) (by unfold vp_in; decide) ?_
  exact ev_lret dX5_leastOf_40 rfl H
set_option maxRecDepth 20000 in
theorem sX5_goDown {h : Hp} {Q : Option AV → Hp → Prop} {x1 : Int64} (H : (∀ h1 : Hp, h1 = sI h 16 (upd (h.1 16) 10 0) → (∀ h2 : Hp, h2 = sI h1 22 (upd (h1.1 22) (Int32.toNatClampNeg 0) (h1.1 16 7)) → (∀ h3 : Hp, h3 = sI h2 23 (upd (h2.1 23) (Int32.toNatClampNeg 0) 0) → Ev mX5_goDown 27 [(0, vR 16), (1, vL x1), (3, vI (h.1 16 7))] [] h3 Q)))) : EvM mX5_goDown [vR 16, vL x1] h Q := by
  refine evM_of (by decide) rfl (Nat.le_of_ble_eq_true rfl) ?_
  show Ev mX5_goDown 0 [(0, vR 16), (1, vL x1)] [] h Q
  refine ev_aload_n 0 dX5_goDown_0 rfl (x := 16) rfl ?_
  refine ev_getI dX5_goDown_1 flX5_37 rfl rfl ?_
  refine ev_istore_n 3 dX5_goDown_4 rfl (by decide) ?_
  refine ev_L (L' := [(3, vI (h.1 16 7)), (0, vR 16), (1, vL x1)]) rfl ?_
  refine ev_aload_n 0 dX5_goDown_5 rfl (x := 16) rfl ?_
  refine ev_iconst 0 dX5_goDown_6 (by decide) ?_
  refine ev_putI dX5_goDown_7 fpX5_46 rfl rfl   ?_
  obtain ⟨h1, eh1⟩ : ∃ z : Hp, z = sI h 16 (upd (h.1 16) 10 0) := ⟨_, rfl⟩
  rw [← eh1]
  have H := H h1 eh1
  refine ev_aload_n 0 dX5_goDown_10 rfl (x := 16) rfl ?_
  refine ev_getR dX5_goDown_11 flX5_40 rfl rfl ?_
  refine ev_iconst 0 dX5_goDown_14 (by decide) ?_
  refine ev_aload_n 0 dX5_goDown_15 rfl (x := 16) rfl ?_
  refine ev_getI dX5_goDown_16 flX5_37 rfl rfl ?_
  refine ev_iast dX5_goDown_19 rfl (by unfold vp_in; decide)  ?_
  obtain ⟨h2, eh2⟩ : ∃ z : Hp, z = sI h1 22 (upd (h1.1 22) (Int32.toNatClampNeg 0) (h1.1 16 7)) := ⟨_, rfl⟩
  rw [← eh2]
  have H := H h2 eh2
  refine ev_aload_n 0 dX5_goDown_20 rfl (x := 16) rfl ?_
  refine ev_getR dX5_goDown_21 flX5_43 rfl rfl ?_
  refine ev_iconst 0 dX5_goDown_24 (by decide) ?_
  refine ev_iconst 0 dX5_goDown_25 (by decide) ?_
  refine ev_iast dX5_goDown_26 rfl (by unfold vp_in; decide)  ?_
  obtain ⟨h3, eh3⟩ : ∃ z : Hp, z = sI h2 23 (upd (h2.1 23) (Int32.toNatClampNeg 0) 0) := ⟨_, rfl⟩
  rw [← eh3]
  have H := H h3 eh3
  exact ev_sub (L' := [(0, vR 16), (1, vL x1), (3, vI (h.1 16 7))]) ⟨rfl, rfl, rfl, trivial⟩ H
set_option maxRecDepth 20000 in
theorem sX5_goDown_27 {h : Hp} {Q : Option AV → Hp → Prop} {x1 : Int64} {x3 : Int32} (H : (vp_in x3 64 ∧ ((((h.1 19 (Int32.toNatClampNeg x3)) = 0) → Q none h) ∧ ((¬ (h.1 19 (Int32.toNatClampNeg x3)) = 0) → (((63 ≤ (h.1 16 10)) → Q none h) ∧ ((¬ 63 ≤ (h.1 16 10)) → (vp_in x3 64 ∧ Ev mX5_goDown 55 [(0, vR 16), (1, vL x1), (3, vI x3), (4, vI ((h.1 18 (Int32.toNatClampNeg x3)) - 1))] [] h Q))))))) : Ev mX5_goDown 27 [(0, vR 16), (1, vL x1), (3, vI x3)] [] h Q := by
  refine ev_aload_n 0 dX5_goDown_27 rfl (x := 16) rfl ?_
  refine ev_getR dX5_goDown_28 flX5_20 rfl rfl ?_
  refine ev_iload_n 3 dX5_goDown_31 rfl (x := x3) rfl ?_
  obtain ⟨b1, H⟩ := H
  refine ev_zald dX5_goDown_32 rfl b1 ?_
  refine ev_if_eq 124 dX5_goDown_33 (by decide) ⟨fun c2 => ?_, fun c2 => ?_⟩
  · have H := H.1 c2
    exact ev_vret dX5_goDown_124 rfl H
  · have H := H.2 c2
    refine ev_aload_n 0 dX5_goDown_36 rfl (x := 16) rfl ?_
    refine ev_getI dX5_goDown_37 flX5_46 rfl rfl ?_
    refine ev_bipush 63 dX5_goDown_40 (by decide) ?_
    refine ev_icmp_ge 124 dX5_goDown_42 (by decide) ⟨fun c3 => ?_, fun c3 => ?_⟩
    · have H := H.1 c3
      exact ev_vret dX5_goDown_124 rfl H
    · have H := H.2 c3
      refine ev_aload_n 0 dX5_goDown_45 rfl (x := 16) rfl ?_
      refine ev_getR dX5_goDown_46 flX5_16 rfl rfl ?_
      refine ev_iload_n 3 dX5_goDown_49 rfl (x := x3) rfl ?_
      obtain ⟨b4, H⟩ := H
      refine ev_iald dX5_goDown_50 rfl b4 ?_
      refine ev_iconst 1 dX5_goDown_51 (by decide) ?_
      refine ev_isub dX5_goDown_52 ?_
      refine ev_istore dX5_goDown_53 (by decide) ?_
      refine ev_L (L' := [(4, vI ((h.1 18 (Int32.toNatClampNeg x3)) - 1)), (0, vR 16), (1, vL x1), (3, vI x3)]) rfl ?_
      exact ev_sub (L' := [(0, vR 16), (1, vL x1), (3, vI x3), (4, vI ((h.1 18 (Int32.toNatClampNeg x3)) - 1))]) ⟨rfl, rfl, rfl, rfl, trivial⟩ H
set_option maxRecDepth 20000 in
theorem sX5_goDown_55 {h : Hp} {Q : Option AV → Hp → Prop} {x1 : Int64} {x3 : Int32} {x4 : Int32} (H : (((x4 ≤ 0) → Ev mX5_goDown 82 [(0, vR 16), (1, vL x1), (3, vI x3), (4, vI x4)] [] h Q) ∧ ((¬ x4 ≤ 0) → EvM mX5_kidOf [vR 16, vI x3, vI x4] h (fun v h2 => ∃ r3 : Int32, v = some (vI r3) ∧ EvM mX5_leastOf [vR 16, vI r3] h2 (fun v h4 => ∃ r5 : Int64, v = some (vL r5) ∧ ((((lg_cmp r5 x1) ≤ 0) → Ev mX5_goDown 82 [(0, vR 16), (1, vL x1), (3, vI x3), (4, vI x4)] [] h4 Q) ∧ ((¬ (lg_cmp r5 x1) ≤ 0) → Ev mX5_goDown 55 [(0, vR 16), (1, vL x1), (3, vI x3), (4, vI (x4 + (-1)))] [] h4 Q))))))) : Ev mX5_goDown 55 [(0, vR 16), (1, vL x1), (3, vI x3), (4, vI x4)] [] h Q := by
  refine ev_iload dX5_goDown_55 (x := x4) rfl ?_
  refine ev_if_le 82 dX5_goDown_57 (by decide) ⟨fun c1 => ?_, fun c1 => ?_⟩
  · have H := H.1 c1
    exact ev_sub (L' := [(0, vR 16), (1, vL x1), (3, vI x3), (4, vI x4)]) ⟨rfl, rfl, rfl, rfl, trivial⟩ H
  · have H := H.2 c1
    refine ev_aload_n 0 dX5_goDown_60 rfl (x := 16) rfl ?_
    refine ev_aload_n 0 dX5_goDown_61 rfl (x := 16) rfl ?_
    refine ev_iload_n 3 dX5_goDown_62 rfl (x := x3) rfl ?_
    refine ev_iload dX5_goDown_63 (x := x4) rfl ?_
    refine ev_callV (As := [vI x3, vI x4]) (rest := [vR 16]) dX5_goDown_65 mlX5_61 rm_mX5_goDown_mX5_kidOf rfl rfl rfl rfl (Nat.le_of_ble_eq_true rfl) H (fun v h2 H => ?_)
    obtain ⟨r3, rfl, H⟩ := H
    show Ev mX5_goDown 68 [(0, vR 16), (1, vL x1), (3, vI x3), (4, vI x4)] [vI r3, vR 16] h2 Q
    refine ev_callV (As := [vI r3]) (rest := []) dX5_goDown_68 mlX5_65 rm_mX5_goDown_mX5_leastOf rfl rfl rfl rfl (Nat.le_of_ble_eq_true rfl) H (fun v h4 H => ?_)
    obtain ⟨r5, rfl, H⟩ := H
    show Ev mX5_goDown 71 [(0, vR 16), (1, vL x1), (3, vI x3), (4, vI x4)] [vL r5] h4 Q
    refine ev_lload_n 1 dX5_goDown_71 rfl (x := x1) rfl ?_
    refine ev_lcmp dX5_goDown_72 ?_
    refine ev_if_le 82 dX5_goDown_73 (by decide) ⟨fun c6 => ?_, fun c6 => ?_⟩
    · have H := H.1 c6
      exact ev_sub (L' := [(0, vR 16), (1, vL x1), (3, vI x3), (4, vI x4)]) ⟨rfl, rfl, rfl, rfl, trivial⟩ H
    · have H := H.2 c6
      refine ev_iinc (x := x4) (v := (-1)) dX5_goDown_76 rfl (by decide) (by decide) ?_
      refine ev_L (L' := [(4, vI (x4 + (-1))), (0, vR 16), (1, vL x1), (3, vI x3)]) rfl ?_
      refine ev_goto 55 dX5_goDown_79 (by decide) ?_
      exact ev_sub (L' := [(0, vR 16), (1, vL x1), (3, vI x3), (4, vI (x4 + (-1)))]) ⟨rfl, rfl, rfl, rfl, trivial⟩ H
set_option maxRecDepth 20000 in
theorem sX5_goDown_82 {h : Hp} {Q : Option AV → Hp → Prop} {x1 : Int64} {x3 : Int32} {x4 : Int32} (H : EvM mX5_kidOf [vR 16, vI x3, vI x4] h (fun v h1 => ∃ r2 : Int32, v = some (vI r2) ∧ (∀ h3 : Hp, h3 = sI h1 16 (upd (h1.1 16) 10 ((h1.1 16 10) + 1)) → (vp_in (h3.1 16 10) 64 ∧ (∀ h5 : Hp, h5 = sI h3 22 (upd (h3.1 22) (Int32.toNatClampNeg (h3.1 16 10)) r2) → (vp_in (h5.1 16 10) 64 ∧ (∀ h7 : Hp, h7 = sI h5 23 (upd (h5.1 23) (Int32.toNatClampNeg (h5.1 16 10)) x4) → Ev mX5_goDown 27 [(0, vR 16), (1, vL x1), (3, vI r2)] [] h7 Q))))))) : Ev mX5_goDown 82 [(0, vR 16), (1, vL x1), (3, vI x3), (4, vI x4)] [] h Q := by
  refine ev_aload_n 0 dX5_goDown_82 rfl (x := 16) rfl ?_
  refine ev_iload_n 3 dX5_goDown_83 rfl (x := x3) rfl ?_
  refine ev_iload dX5_goDown_84 (x := x4) rfl ?_
  refine ev_callV (As := [vI x3, vI x4]) (rest := []) dX5_goDown_86 mlX5_61 rm_mX5_goDown_mX5_kidOf rfl rfl rfl rfl (Nat.le_of_ble_eq_true rfl) H (fun v h1 H => ?_)
  obtain ⟨r2, rfl, H⟩ := H
  show Ev mX5_goDown 89 [(0, vR 16), (1, vL x1), (3, vI x3), (4, vI x4)] [vI r2] h1 Q
  refine ev_istore_n 3 dX5_goDown_89 rfl (by decide) ?_
  refine ev_L (L' := [(3, vI r2), (0, vR 16), (1, vL x1), (4, vI x4)]) rfl ?_
  refine ev_aload_n 0 dX5_goDown_90 rfl (x := 16) rfl ?_
  refine ev_dup dX5_goDown_91 rfl ?_
  refine ev_getI dX5_goDown_92 flX5_46 rfl rfl ?_
  refine ev_iconst 1 dX5_goDown_95 (by decide) ?_
  refine ev_iadd dX5_goDown_96 ?_
  refine ev_putI dX5_goDown_97 fpX5_46 rfl rfl   ?_
  obtain ⟨h3, eh3⟩ : ∃ z : Hp, z = sI h1 16 (upd (h1.1 16) 10 ((h1.1 16 10) + 1)) := ⟨_, rfl⟩
  rw [← eh3]
  have H := H h3 eh3
  refine ev_aload_n 0 dX5_goDown_100 rfl (x := 16) rfl ?_
  refine ev_getR dX5_goDown_101 flX5_40 rfl rfl ?_
  refine ev_aload_n 0 dX5_goDown_104 rfl (x := 16) rfl ?_
  refine ev_getI dX5_goDown_105 flX5_46 rfl rfl ?_
  refine ev_iload_n 3 dX5_goDown_108 rfl (x := r2) rfl ?_
  obtain ⟨b4, H⟩ := H
  refine ev_iast dX5_goDown_109 rfl b4  ?_
  obtain ⟨h5, eh5⟩ : ∃ z : Hp, z = sI h3 22 (upd (h3.1 22) (Int32.toNatClampNeg (h3.1 16 10)) r2) := ⟨_, rfl⟩
  rw [← eh5]
  have H := H h5 eh5
  refine ev_aload_n 0 dX5_goDown_110 rfl (x := 16) rfl ?_
  refine ev_getR dX5_goDown_111 flX5_43 rfl rfl ?_
  refine ev_aload_n 0 dX5_goDown_114 rfl (x := 16) rfl ?_
  refine ev_getI dX5_goDown_115 flX5_46 rfl rfl ?_
  refine ev_iload dX5_goDown_118 (x := x4) rfl ?_
  obtain ⟨b6, H⟩ := H
  refine ev_iast dX5_goDown_120 rfl b6  ?_
  obtain ⟨h7, eh7⟩ : ∃ z : Hp, z = sI h5 23 (upd (h5.1 23) (Int32.toNatClampNeg (h5.1 16 10)) x4) := ⟨_, rfl⟩
  rw [← eh7]
  have H := H h7 eh7
  refine ev_goto 27 dX5_goDown_121 (by decide) ?_
  exact ev_sub (L' := [(0, vR 16), (1, vL x1), (3, vI r2)]) ⟨rfl, rfl, rfl, trivial⟩ H
set_option maxRecDepth 20000 in
theorem sX5_letCome {h : Hp} {Q : Option AV → Hp → Prop} {x1 : Int64} (H : EvM mX5_goDown [vR 16, vL x1] h (fun v h1 => v = none ∧ EvM mX5_newNodesOnWay [vR 16] h1 (fun v h2 => ∃ r3 : Int32, v = some (vI r3) ∧ (((((h1.1 16 5) + r3) ≤ 64) → (vp_in (h2.1 16 10) 64 ∧ (vp_in (h2.1 22 (Int32.toNatClampNeg (h2.1 16 10))) 64 ∧ Ev mX5_letCome 39 [(0, vR 16), (1, vL x1), (3, vI (h2.1 22 (Int32.toNatClampNeg (h2.1 16 10)))), (4, vI (h2.1 18 (Int32.toNatClampNeg (h2.1 22 (Int32.toNatClampNeg (h2.1 16 10))))))] [] h2 Q))) ∧ ((¬ ((h1.1 16 5) + r3) ≤ 64) → Q (some (vI 0)) h2))))) : EvM mX5_letCome [vR 16, vL x1] h Q := by
  refine evM_of (by decide) rfl (Nat.le_of_ble_eq_true rfl) ?_
  show Ev mX5_letCome 0 [(0, vR 16), (1, vL x1)] [] h Q
  refine ev_aload_n 0 dX5_letCome_0 rfl (x := 16) rfl ?_
  refine ev_lload_n 1 dX5_letCome_1 rfl (x := x1) rfl ?_
  refine ev_callV (As := [vL x1]) (rest := []) dX5_letCome_2 mlX5_69 rm_mX5_letCome_mX5_goDown rfl rfl rfl rfl (Nat.le_of_ble_eq_true rfl) H (fun v h1 H => ?_)
  obtain ⟨rfl, H⟩ := H
  show Ev mX5_letCome 5 [(0, vR 16), (1, vL x1)] [] h1 Q
  refine ev_aload_n 0 dX5_letCome_5 rfl (x := 16) rfl ?_
  refine ev_getI dX5_letCome_6 flX5_30 rfl rfl ?_
  refine ev_aload_n 0 dX5_letCome_9 rfl (x := 16) rfl ?_
  refine ev_callV (As := []) (rest := [vI (h1.1 16 5)]) dX5_letCome_10 mlX5_73 rm_mX5_letCome_mX5_newNodesOnWay rfl rfl rfl rfl (Nat.le_of_ble_eq_true rfl) H (fun v h2 H => ?_)
  obtain ⟨r3, rfl, H⟩ := H
  show Ev mX5_letCome 13 [(0, vR 16), (1, vL x1)] [vI r3, vI (h1.1 16 5)] h2 Q
  refine ev_iadd dX5_letCome_13 ?_
  refine ev_bipush 64 dX5_letCome_14 (by decide) ?_
  refine ev_icmp_le 21 dX5_letCome_16 (by decide) ⟨fun c4 => ?_, fun c4 => ?_⟩
  · have H := H.1 c4
    refine ev_aload_n 0 dX5_letCome_21 rfl (x := 16) rfl ?_
    refine ev_getR dX5_letCome_22 flX5_40 rfl rfl ?_
    refine ev_aload_n 0 dX5_letCome_25 rfl (x := 16) rfl ?_
    refine ev_getI dX5_letCome_26 flX5_46 rfl rfl ?_
    obtain ⟨b5, H⟩ := H
    refine ev_iald dX5_letCome_29 rfl b5 ?_
    refine ev_istore_n 3 dX5_letCome_30 rfl (by decide) ?_
    refine ev_L (L' := [(3, vI (h2.1 22 (Int32.toNatClampNeg (h2.1 16 10)))), (0, vR 16), (1, vL x1)]) rfl ?_
    refine ev_aload_n 0 dX5_letCome_31 rfl (x := 16) rfl ?_
    refine ev_getR dX5_letCome_32 flX5_16 rfl rfl ?_
    refine ev_iload_n 3 dX5_letCome_35 rfl (x := (h2.1 22 (Int32.toNatClampNeg (h2.1 16 10)))) rfl ?_
    obtain ⟨b6, H⟩ := H
    refine ev_iald dX5_letCome_36 rfl b6 ?_
    refine ev_istore dX5_letCome_37 (by decide) ?_
    refine ev_L (L' := [(4, vI (h2.1 18 (Int32.toNatClampNeg (h2.1 22 (Int32.toNatClampNeg (h2.1 16 10)))))), (3, vI (h2.1 22 (Int32.toNatClampNeg (h2.1 16 10)))), (0, vR 16), (1, vL x1)]) rfl ?_
    exact ev_sub (L' := [(0, vR 16), (1, vL x1), (3, vI (h2.1 22 (Int32.toNatClampNeg (h2.1 16 10)))), (4, vI (h2.1 18 (Int32.toNatClampNeg (h2.1 22 (Int32.toNatClampNeg (h2.1 16 10))))))]) ⟨rfl, rfl, rfl, rfl, trivial⟩ H
  · have H := H.2 c4
    refine ev_iconst 0 dX5_letCome_19 (by decide) ?_
    exact ev_zret dX5_letCome_20 rfl (by decide) H
set_option maxRecDepth 20000 in
theorem sX5_letCome_39 {h : Hp} {Q : Option AV → Hp → Prop} {x1 : Int64} {x3 : Int32} {x4 : Int32} (H : (((x4 ≤ 0) → Ev mX5_letCome 66 [(0, vR 16), (1, vL x1), (3, vI x3), (4, vI x4)] [] h Q) ∧ ((¬ x4 ≤ 0) → (vp_in x3 64 ∧ (vp_in (x4 - 1) 9 ∧ ((((lg_cmp (h.2.2 (Int32.toNatClampNeg x3) (Int32.toNatClampNeg (x4 - 1))) x1) ≤ 0) → Ev mX5_letCome 66 [(0, vR 16), (1, vL x1), (3, vI x3), (4, vI x4)] [] h Q) ∧ ((¬ (lg_cmp (h.2.2 (Int32.toNatClampNeg x3) (Int32.toNatClampNeg (x4 - 1))) x1) ≤ 0) → Ev mX5_letCome 39 [(0, vR 16), (1, vL x1), (3, vI x3), (4, vI (x4 + (-1)))] [] h Q))))))) : Ev mX5_letCome 39 [(0, vR 16), (1, vL x1), (3, vI x3), (4, vI x4)] [] h Q := by
  refine ev_iload dX5_letCome_39 (x := x4) rfl ?_
  refine ev_if_le 66 dX5_letCome_41 (by decide) ⟨fun c1 => ?_, fun c1 => ?_⟩
  · have H := H.1 c1
    exact ev_sub (L' := [(0, vR 16), (1, vL x1), (3, vI x3), (4, vI x4)]) ⟨rfl, rfl, rfl, rfl, trivial⟩ H
  · have H := H.2 c1
    refine ev_aload_n 0 dX5_letCome_44 rfl (x := 16) rfl ?_
    refine ev_getR dX5_letCome_45 flX5_11 rfl rfl ?_
    refine ev_iload_n 3 dX5_letCome_48 rfl (x := x3) rfl ?_
    obtain ⟨b2, H⟩ := H
    refine ev_gald dX5_letCome_49 rfl b2 ?_
    refine ev_iload dX5_letCome_50 (x := x4) rfl ?_
    refine ev_iconst 1 dX5_letCome_52 (by decide) ?_
    refine ev_isub dX5_letCome_53 ?_
    obtain ⟨b3, H⟩ := H
    refine ev_rald dX5_letCome_54 (vp_lt b2) b3 ?_
    refine ev_lload_n 1 dX5_letCome_55 rfl (x := x1) rfl ?_
    refine ev_lcmp dX5_letCome_56 ?_
    refine ev_if_le 66 dX5_letCome_57 (by decide) ⟨fun c4 => ?_, fun c4 => ?_⟩
    · have H := H.1 c4
      exact ev_sub (L' := [(0, vR 16), (1, vL x1), (3, vI x3), (4, vI x4)]) ⟨rfl, rfl, rfl, rfl, trivial⟩ H
    · have H := H.2 c4
      refine ev_iinc (x := x4) (v := (-1)) dX5_letCome_60 rfl (by decide) (by decide) ?_
      refine ev_L (L' := [(4, vI (x4 + (-1))), (0, vR 16), (1, vL x1), (3, vI x3)]) rfl ?_
      refine ev_goto 39 dX5_letCome_63 (by decide) ?_
      exact ev_sub (L' := [(0, vR 16), (1, vL x1), (3, vI x3), (4, vI (x4 + (-1)))]) ⟨rfl, rfl, rfl, rfl, trivial⟩ H
set_option maxRecDepth 20000 in
theorem sX5_letCome_66 {h : Hp} {Q : Option AV → Hp → Prop} {x1 : Int64} {x3 : Int32} {x4 : Int32} (H : EvM mX5_putIn [vR 16, vI x3, vI x4, vL x1] h (fun v h1 => v = none ∧ (∀ h2 : Hp, h2 = sI h1 16 (upd (h1.1 16) 6 ((h1.1 16 6) + 1)) → Ev mX5_letCome 90 [(0, vR 16), (5, vI (h2.1 16 10))] [] h2 Q))) : Ev mX5_letCome 66 [(0, vR 16), (1, vL x1), (3, vI x3), (4, vI x4)] [] h Q := by
  refine ev_aload_n 0 dX5_letCome_66 rfl (x := 16) rfl ?_
  refine ev_iload_n 3 dX5_letCome_67 rfl (x := x3) rfl ?_
  refine ev_iload dX5_letCome_68 (x := x4) rfl ?_
  refine ev_lload_n 1 dX5_letCome_70 rfl (x := x1) rfl ?_
  refine ev_callV (As := [vI x3, vI x4, vL x1]) (rest := []) dX5_letCome_71 mlX5_55 rm_mX5_letCome_mX5_putIn rfl rfl rfl rfl (Nat.le_of_ble_eq_true rfl) H (fun v h1 H => ?_)
  obtain ⟨rfl, H⟩ := H
  show Ev mX5_letCome 74 [(0, vR 16), (1, vL x1), (3, vI x3), (4, vI x4)] [] h1 Q
  refine ev_aload_n 0 dX5_letCome_74 rfl (x := 16) rfl ?_
  refine ev_dup dX5_letCome_75 rfl ?_
  refine ev_getI dX5_letCome_76 flX5_34 rfl rfl ?_
  refine ev_iconst 1 dX5_letCome_79 (by decide) ?_
  refine ev_iadd dX5_letCome_80 ?_
  refine ev_putI dX5_letCome_81 fpX5_34 rfl rfl   ?_
  obtain ⟨h2, eh2⟩ : ∃ z : Hp, z = sI h1 16 (upd (h1.1 16) 6 ((h1.1 16 6) + 1)) := ⟨_, rfl⟩
  rw [← eh2]
  have H := H h2 eh2
  refine ev_aload_n 0 dX5_letCome_84 rfl (x := 16) rfl ?_
  refine ev_getI dX5_letCome_85 flX5_46 rfl rfl ?_
  refine ev_istore dX5_letCome_88 (by decide) ?_
  refine ev_L (L' := [(5, vI (h2.1 16 10)), (0, vR 16), (1, vL x1), (3, vI x3), (4, vI x4)]) rfl ?_
  exact ev_sub (L' := [(0, vR 16), (5, vI (h2.1 16 10))]) ⟨rfl, rfl, trivial⟩ H
set_option maxRecDepth 20000 in
theorem sX5_letCome_90 {h : Hp} {Q : Option AV → Hp → Prop} {x5 : Int32} (H : (((x5 < 0) → Q (some (vI 1)) h) ∧ ((¬ x5 < 0) → (vp_in x5 64 ∧ (vp_in (h.1 22 (Int32.toNatClampNeg x5)) 64 ∧ ((((h.1 18 (Int32.toNatClampNeg (h.1 22 (Int32.toNatClampNeg x5)))) ≤ 8) → Q (some (vI 1)) h) ∧ ((¬ (h.1 18 (Int32.toNatClampNeg (h.1 22 (Int32.toNatClampNeg x5)))) ≤ 8) → EvM mX5_divide [vR 16, vI x5] h (fun v h5 => v = none ∧ Ev mX5_letCome 90 [(0, vR 16), (5, vI (x5 + (-1)))] [] h5 Q)))))))) : Ev mX5_letCome 90 [(0, vR 16), (5, vI x5)] [] h Q := by
  refine ev_iload dX5_letCome_90 (x := x5) rfl ?_
  refine ev_if_lt 124 dX5_letCome_92 (by decide) ⟨fun c1 => ?_, fun c1 => ?_⟩
  · have H := H.1 c1
    refine ev_iconst 1 dX5_letCome_124 (by decide) ?_
    exact ev_zret dX5_letCome_125 rfl (by decide) H
  · have H := H.2 c1
    refine ev_aload_n 0 dX5_letCome_95 rfl (x := 16) rfl ?_
    refine ev_getR dX5_letCome_96 flX5_16 rfl rfl ?_
    refine ev_aload_n 0 dX5_letCome_99 rfl (x := 16) rfl ?_
    refine ev_getR dX5_letCome_100 flX5_40 rfl rfl ?_
    refine ev_iload dX5_letCome_103 (x := x5) rfl ?_
    obtain ⟨b2, H⟩ := H
    refine ev_iald dX5_letCome_105 rfl b2 ?_
    obtain ⟨b3, H⟩ := H
    refine ev_iald dX5_letCome_106 rfl b3 ?_
    refine ev_bipush 8 dX5_letCome_107 (by decide) ?_
    refine ev_icmp_le 124 dX5_letCome_109 (by decide) ⟨fun c4 => ?_, fun c4 => ?_⟩
    · have H := H.1 c4
      refine ev_iconst 1 dX5_letCome_124 (by decide) ?_
      exact ev_zret dX5_letCome_125 rfl (by decide) H
    · have H := H.2 c4
      refine ev_aload_n 0 dX5_letCome_112 rfl (x := 16) rfl ?_
      refine ev_iload dX5_letCome_113 (x := x5) rfl ?_
      refine ev_callV (As := [vI x5]) (rest := []) dX5_letCome_115 mlX5_77 rm_mX5_letCome_mX5_divide rfl rfl rfl rfl (Nat.le_of_ble_eq_true rfl) H (fun v h5 H => ?_)
      obtain ⟨rfl, H⟩ := H
      show Ev mX5_letCome 118 [(0, vR 16), (5, vI x5)] [] h5 Q
      refine ev_iinc (x := x5) (v := (-1)) dX5_letCome_118 rfl (by decide) (by decide) ?_
      refine ev_L (L' := [(5, vI (x5 + (-1))), (0, vR 16)]) rfl ?_
      refine ev_goto 90 dX5_letCome_121 (by decide) ?_
      exact ev_sub (L' := [(0, vR 16), (5, vI (x5 + (-1)))]) ⟨rfl, rfl, trivial⟩ H
set_option maxRecDepth 20000 in
theorem sX5_newNodesOnWay {h : Hp} {Q : Option AV → Hp → Prop} (H : Ev mX5_newNodesOnWay 7 [(0, vR 16), (1, vI 0), (2, vI (h.1 16 10))] [] h Q) : EvM mX5_newNodesOnWay [vR 16] h Q := by
  refine evM_of (by decide) rfl (Nat.le_of_ble_eq_true rfl) ?_
  show Ev mX5_newNodesOnWay 0 [(0, vR 16)] [] h Q
  refine ev_iconst 0 dX5_newNodesOnWay_0 (by decide) ?_
  refine ev_istore_n 1 dX5_newNodesOnWay_1 rfl (by decide) ?_
  refine ev_L (L' := [(1, vI 0), (0, vR 16)]) rfl ?_
  refine ev_aload_n 0 dX5_newNodesOnWay_2 rfl (x := 16) rfl ?_
  refine ev_getI dX5_newNodesOnWay_3 flX5_46 rfl rfl ?_
  refine ev_istore_n 2 dX5_newNodesOnWay_6 rfl (by decide) ?_
  refine ev_L (L' := [(2, vI (h.1 16 10)), (1, vI 0), (0, vR 16)]) rfl ?_
  exact ev_sub (L' := [(0, vR 16), (1, vI 0), (2, vI (h.1 16 10))]) ⟨rfl, rfl, rfl, trivial⟩ H
set_option maxRecDepth 20000 in
theorem sX5_newNodesOnWay_7 {h : Hp} {Q : Option AV → Hp → Prop} {x1 : Int32} {x2 : Int32} (H : (((x2 < 0) → Q (some (vI (x1 + 1))) h) ∧ ((¬ x2 < 0) → (vp_in x2 64 ∧ (vp_in (h.1 22 (Int32.toNatClampNeg x2)) 64 ∧ (((8 ≤ (h.1 18 (Int32.toNatClampNeg (h.1 22 (Int32.toNatClampNeg x2))))) → Ev mX5_newNodesOnWay 7 [(0, vR 16), (1, vI (x1 + 1)), (2, vI (x2 + (-1)))] [] h Q) ∧ ((¬ 8 ≤ (h.1 18 (Int32.toNatClampNeg (h.1 22 (Int32.toNatClampNeg x2))))) → Q (some (vI x1)) h))))))) : Ev mX5_newNodesOnWay 7 [(0, vR 16), (1, vI x1), (2, vI x2)] [] h Q := by
  refine ev_iload_n 2 dX5_newNodesOnWay_7 rfl (x := x2) rfl ?_
  refine ev_if_lt 38 dX5_newNodesOnWay_8 (by decide) ⟨fun c1 => ?_, fun c1 => ?_⟩
  · have H := H.1 c1
    refine ev_iload_n 1 dX5_newNodesOnWay_38 rfl (x := x1) rfl ?_
    refine ev_iconst 1 dX5_newNodesOnWay_39 (by decide) ?_
    refine ev_iadd dX5_newNodesOnWay_40 ?_
    exact ev_iret dX5_newNodesOnWay_41 rfl H
  · have H := H.2 c1
    refine ev_aload_n 0 dX5_newNodesOnWay_11 rfl (x := 16) rfl ?_
    refine ev_getR dX5_newNodesOnWay_12 flX5_16 rfl rfl ?_
    refine ev_aload_n 0 dX5_newNodesOnWay_15 rfl (x := 16) rfl ?_
    refine ev_getR dX5_newNodesOnWay_16 flX5_40 rfl rfl ?_
    refine ev_iload_n 2 dX5_newNodesOnWay_19 rfl (x := x2) rfl ?_
    obtain ⟨b2, H⟩ := H
    refine ev_iald dX5_newNodesOnWay_20 rfl b2 ?_
    obtain ⟨b3, H⟩ := H
    refine ev_iald dX5_newNodesOnWay_21 rfl b3 ?_
    refine ev_bipush 8 dX5_newNodesOnWay_22 (by decide) ?_
    refine ev_icmp_ge 29 dX5_newNodesOnWay_24 (by decide) ⟨fun c4 => ?_, fun c4 => ?_⟩
    · have H := H.1 c4
      refine ev_iinc (x := x1) (v := 1) dX5_newNodesOnWay_29 rfl (by decide) (by decide) ?_
      refine ev_L (L' := [(1, vI (x1 + 1)), (0, vR 16), (2, vI x2)]) rfl ?_
      refine ev_iinc (x := x2) (v := (-1)) dX5_newNodesOnWay_32 rfl (by decide) (by decide) ?_
      refine ev_L (L' := [(2, vI (x2 + (-1))), (1, vI (x1 + 1)), (0, vR 16)]) rfl ?_
      refine ev_goto 7 dX5_newNodesOnWay_35 (by decide) ?_
      exact ev_sub (L' := [(0, vR 16), (1, vI (x1 + 1)), (2, vI (x2 + (-1)))]) ⟨rfl, rfl, rfl, trivial⟩ H
    · have H := H.2 c4
      refine ev_iload_n 1 dX5_newNodesOnWay_27 rfl (x := x1) rfl ?_
      exact ev_iret dX5_newNodesOnWay_28 rfl H
set_option maxRecDepth 20000 in
theorem sX5_divide {h : Hp} {Q : Option AV → Hp → Prop} {x1 : Int32} (H : (vp_in x1 64 ∧ (vp_in (h.1 22 (Int32.toNatClampNeg x1)) 64 ∧ EvM mX5_newNode [vR 16, vI (h.1 19 (Int32.toNatClampNeg (h.1 22 (Int32.toNatClampNeg x1))))] h (fun v h3 => ∃ r4 : Int32, v = some (vI r4) ∧ (((¬ r4 = (-1)) → Ev mX5_divide 27 [(0, vR 16), (1, vI x1), (2, vI (h.1 22 (Int32.toNatClampNeg x1))), (3, vI r4), (4, vI 4)] [] h3 Q) ∧ ((r4 = (-1)) → Q none h3)))))) : EvM mX5_divide [vR 16, vI x1] h Q := by
  refine evM_of (by decide) rfl (Nat.le_of_ble_eq_true rfl) ?_
  show Ev mX5_divide 0 [(0, vR 16), (1, vI x1)] [] h Q
  refine ev_aload_n 0 dX5_divide_0 rfl (x := 16) rfl ?_
  refine ev_getR dX5_divide_1 flX5_40 rfl rfl ?_
  refine ev_iload_n 1 dX5_divide_4 rfl (x := x1) rfl ?_
  obtain ⟨b1, H⟩ := H
  refine ev_iald dX5_divide_5 rfl b1 ?_
  refine ev_istore_n 2 dX5_divide_6 rfl (by decide) ?_
  refine ev_L (L' := [(2, vI (h.1 22 (Int32.toNatClampNeg x1))), (0, vR 16), (1, vI x1)]) rfl ?_
  refine ev_aload_n 0 dX5_divide_7 rfl (x := 16) rfl ?_
  refine ev_aload_n 0 dX5_divide_8 rfl (x := 16) rfl ?_
  refine ev_getR dX5_divide_9 flX5_20 rfl rfl ?_
  refine ev_iload_n 2 dX5_divide_12 rfl (x := (h.1 22 (Int32.toNatClampNeg x1))) rfl ?_
  obtain ⟨b2, H⟩ := H
  refine ev_zald dX5_divide_13 rfl b2 ?_
  refine ev_callV (As := [vI (h.1 19 (Int32.toNatClampNeg (h.1 22 (Int32.toNatClampNeg x1))))]) (rest := []) dX5_divide_14 mlX5_81 rm_mX5_divide_mX5_newNode rfl rfl rfl rfl (Nat.le_of_ble_eq_true rfl) H (fun v h3 H => ?_)
  obtain ⟨r4, rfl, H⟩ := H
  show Ev mX5_divide 17 [(2, vI (h.1 22 (Int32.toNatClampNeg x1))), (0, vR 16), (1, vI x1)] [vI r4] h3 Q
  refine ev_istore_n 3 dX5_divide_17 rfl (by decide) ?_
  refine ev_L (L' := [(3, vI r4), (2, vI (h.1 22 (Int32.toNatClampNeg x1))), (0, vR 16), (1, vI x1)]) rfl ?_
  refine ev_iload_n 3 dX5_divide_18 rfl (x := r4) rfl ?_
  refine ev_iconst (-1) dX5_divide_19 (by decide) ?_
  refine ev_icmp_ne 24 dX5_divide_20 (by decide) ⟨fun c5 => ?_, fun c5 => ?_⟩
  · have H := H.1 c5
    refine ev_iconst 4 dX5_divide_24 (by decide) ?_
    refine ev_istore dX5_divide_25 (by decide) ?_
    refine ev_L (L' := [(4, vI 4), (3, vI r4), (2, vI (h.1 22 (Int32.toNatClampNeg x1))), (0, vR 16), (1, vI x1)]) rfl ?_
    exact ev_sub (L' := [(0, vR 16), (1, vI x1), (2, vI (h.1 22 (Int32.toNatClampNeg x1))), (3, vI r4), (4, vI 4)]) ⟨rfl, rfl, rfl, rfl, rfl, trivial⟩ H
  · have H := H.2 c5
    exact ev_vret dX5_divide_23 rfl H
set_option maxRecDepth 20000 in
theorem sX5_divide_27 {h : Hp} {Q : Option AV → Hp → Prop} {x1 : Int32} {x2 : Int32} {x3 : Int32} {x4 : Int32} (H : (vp_in x2 64 ∧ ((((h.1 18 (Int32.toNatClampNeg x2)) ≤ x4) → (vp_in x2 64 ∧ (∀ h4 : Hp, h4 = sI h 18 (upd (h.1 18) (Int32.toNatClampNeg x2) 4) → (vp_in x2 64 ∧ (∀ h6 : Hp, h6 = sI h4 21 (upd (h4.1 21) (Int32.toNatClampNeg x2) 1) → (((x1 ≤ 0) → EvM mX5_putRootOver [vR 16, vI x2, vI x3] h6 (fun v h8 => v = none ∧ Q none h8)) ∧ ((¬ x1 ≤ 0) → (vp_in (x1 - 1) 64 ∧ (vp_in x1 64 ∧ EvM mX5_putIn [vR 16, vI (h6.1 22 (Int32.toNatClampNeg (x1 - 1))), vI ((h6.1 23 (Int32.toNatClampNeg x1)) + 1), vL (Int32.toInt64 x3)] h6 (fun v h11 => v = none ∧ Q none h11)))))))))) ∧ ((¬ (h.1 18 (Int32.toNatClampNeg x2)) ≤ x4) → (vp_in x2 64 ∧ (vp_in x4 9 ∧ EvM mX5_putIn [vR 16, vI x3, vI (x4 - 4), vL (h.2.2 (Int32.toNatClampNeg x2) (Int32.toNatClampNeg x4))] h (fun v h14 => v = none ∧ Ev mX5_divide 27 [(0, vR 16), (1, vI x1), (2, vI x2), (3, vI x3), (4, vI (x4 + 1))] [] h14 Q))))))) : Ev mX5_divide 27 [(0, vR 16), (1, vI x1), (2, vI x2), (3, vI x3), (4, vI x4)] [] h Q := by
  refine ev_iload dX5_divide_27 (x := x4) rfl ?_
  refine ev_aload_n 0 dX5_divide_29 rfl (x := 16) rfl ?_
  refine ev_getR dX5_divide_30 flX5_16 rfl rfl ?_
  refine ev_iload_n 2 dX5_divide_33 rfl (x := x2) rfl ?_
  obtain ⟨b1, H⟩ := H
  refine ev_iald dX5_divide_34 rfl b1 ?_
  refine ev_icmp_ge 62 dX5_divide_35 (by decide) ⟨fun c2 => ?_, fun c2 => ?_⟩
  · have H := H.1 c2
    refine ev_aload_n 0 dX5_divide_62 rfl (x := 16) rfl ?_
    refine ev_getR dX5_divide_63 flX5_16 rfl rfl ?_
    refine ev_iload_n 2 dX5_divide_66 rfl (x := x2) rfl ?_
    refine ev_iconst 4 dX5_divide_67 (by decide) ?_
    obtain ⟨b3, H⟩ := H
    refine ev_iast dX5_divide_68 rfl b3  ?_
    obtain ⟨h4, eh4⟩ : ∃ z : Hp, z = sI h 18 (upd (h.1 18) (Int32.toNatClampNeg x2) 4) := ⟨_, rfl⟩
    rw [← eh4]
    have H := H h4 eh4
    refine ev_aload_n 0 dX5_divide_69 rfl (x := 16) rfl ?_
    refine ev_getR dX5_divide_70 flX5_27 rfl rfl ?_
    refine ev_iload_n 2 dX5_divide_73 rfl (x := x2) rfl ?_
    refine ev_iconst 1 dX5_divide_74 (by decide) ?_
    obtain ⟨b5, H⟩ := H
    refine ev_zast dX5_divide_75 rfl b5 (by decide) ?_
    obtain ⟨h6, eh6⟩ : ∃ z : Hp, z = sI h4 21 (upd (h4.1 21) (Int32.toNatClampNeg x2) 1) := ⟨_, rfl⟩
    rw [← eh6]
    have H := H h6 eh6
    refine ev_iload_n 1 dX5_divide_76 rfl (x := x1) rfl ?_
    refine ev_if_le 105 dX5_divide_77 (by decide) ⟨fun c7 => ?_, fun c7 => ?_⟩
    · have H := H.1 c7
      refine ev_aload_n 0 dX5_divide_105 rfl (x := 16) rfl ?_
      refine ev_iload_n 2 dX5_divide_106 rfl (x := x2) rfl ?_
      refine ev_iload_n 3 dX5_divide_107 rfl (x := x3) rfl ?_
      refine ev_callV (As := [vI x2, vI x3]) (rest := []) dX5_divide_108 mlX5_85 rm_mX5_divide_mX5_putRootOver rfl rfl rfl rfl (Nat.le_of_ble_eq_true rfl) H (fun v h8 H => ?_)
      obtain ⟨rfl, H⟩ := H
      show Ev mX5_divide 111 [(0, vR 16), (1, vI x1), (2, vI x2), (3, vI x3), (4, vI x4)] [] h8 Q
      exact ev_vret dX5_divide_111 rfl H
    · have H := H.2 c7
      refine ev_aload_n 0 dX5_divide_80 rfl (x := 16) rfl ?_
      refine ev_aload_n 0 dX5_divide_81 rfl (x := 16) rfl ?_
      refine ev_getR dX5_divide_82 flX5_40 rfl rfl ?_
      refine ev_iload_n 1 dX5_divide_85 rfl (x := x1) rfl ?_
      refine ev_iconst 1 dX5_divide_86 (by decide) ?_
      refine ev_isub dX5_divide_87 ?_
      obtain ⟨b9, H⟩ := H
      refine ev_iald dX5_divide_88 rfl b9 ?_
      refine ev_aload_n 0 dX5_divide_89 rfl (x := 16) rfl ?_
      refine ev_getR dX5_divide_90 flX5_43 rfl rfl ?_
      refine ev_iload_n 1 dX5_divide_93 rfl (x := x1) rfl ?_
      obtain ⟨b10, H⟩ := H
      refine ev_iald dX5_divide_94 rfl b10 ?_
      refine ev_iconst 1 dX5_divide_95 (by decide) ?_
      refine ev_iadd dX5_divide_96 ?_
      refine ev_iload_n 3 dX5_divide_97 rfl (x := x3) rfl ?_
      refine ev_i2l dX5_divide_98 ?_
      refine ev_callV (As := [vI (h6.1 22 (Int32.toNatClampNeg (x1 - 1))), vI ((h6.1 23 (Int32.toNatClampNeg x1)) + 1), vL (Int32.toInt64 x3)]) (rest := []) dX5_divide_99 mlX5_55 rm_mX5_divide_mX5_putIn rfl rfl rfl rfl (Nat.le_of_ble_eq_true rfl) H (fun v h11 H => ?_)
      obtain ⟨rfl, H⟩ := H
      show Ev mX5_divide 102 [(0, vR 16), (1, vI x1), (2, vI x2), (3, vI x3), (4, vI x4)] [] h11 Q
      refine ev_goto 111 dX5_divide_102 (by decide) ?_
      exact ev_vret dX5_divide_111 rfl H
  · have H := H.2 c2
    refine ev_aload_n 0 dX5_divide_38 rfl (x := 16) rfl ?_
    refine ev_iload_n 3 dX5_divide_39 rfl (x := x3) rfl ?_
    refine ev_iload dX5_divide_40 (x := x4) rfl ?_
    refine ev_iconst 4 dX5_divide_42 (by decide) ?_
    refine ev_isub dX5_divide_43 ?_
    refine ev_aload_n 0 dX5_divide_44 rfl (x := 16) rfl ?_
    refine ev_getR dX5_divide_45 flX5_11 rfl rfl ?_
    refine ev_iload_n 2 dX5_divide_48 rfl (x := x2) rfl ?_
    obtain ⟨b12, H⟩ := H
    refine ev_gald dX5_divide_49 rfl b12 ?_
    refine ev_iload dX5_divide_50 (x := x4) rfl ?_
    obtain ⟨b13, H⟩ := H
    refine ev_rald dX5_divide_52 (vp_lt b12) b13 ?_
    refine ev_callV (As := [vI x3, vI (x4 - 4), vL (h.2.2 (Int32.toNatClampNeg x2) (Int32.toNatClampNeg x4))]) (rest := []) dX5_divide_53 mlX5_55 rm_mX5_divide_mX5_putIn rfl rfl rfl rfl (Nat.le_of_ble_eq_true rfl) H (fun v h14 H => ?_)
    obtain ⟨rfl, H⟩ := H
    show Ev mX5_divide 56 [(0, vR 16), (1, vI x1), (2, vI x2), (3, vI x3), (4, vI x4)] [] h14 Q
    refine ev_iinc (x := x4) (v := 1) dX5_divide_56 rfl (by decide) (by decide) ?_
    refine ev_L (L' := [(4, vI (x4 + 1)), (0, vR 16), (1, vI x1), (2, vI x2), (3, vI x3)]) rfl ?_
    refine ev_goto 27 dX5_divide_59 (by decide) ?_
    exact ev_sub (L' := [(0, vR 16), (1, vI x1), (2, vI x2), (3, vI x3), (4, vI (x4 + 1))]) ⟨rfl, rfl, rfl, rfl, rfl, trivial⟩ H
set_option maxRecDepth 20000 in
theorem sX5_putRootOver {h : Hp} {Q : Option AV → Hp → Prop} {x1 : Int32} {x2 : Int32} (H : EvM mX5_newNode [vR 16, vI 1] h (fun v h1 => ∃ r2 : Int32, v = some (vI r2) ∧ (((¬ r2 = (-1)) → EvM mX5_putIn [vR 16, vI r2, vI 0, vL (Int32.toInt64 x1)] h1 (fun v h4 => v = none ∧ EvM mX5_putIn [vR 16, vI r2, vI 1, vL (Int32.toInt64 x2)] h4 (fun v h5 => v = none ∧ (∀ h6 : Hp, h6 = sI h5 16 (upd (h5.1 16) 7 r2) → Q none h6)))) ∧ ((r2 = (-1)) → Q none h1)))) : EvM mX5_putRootOver [vR 16, vI x1, vI x2] h Q := by
  refine evM_of (by decide) rfl (Nat.le_of_ble_eq_true rfl) ?_
  show Ev mX5_putRootOver 0 [(0, vR 16), (1, vI x1), (2, vI x2)] [] h Q
  refine ev_aload_n 0 dX5_putRootOver_0 rfl (x := 16) rfl ?_
  refine ev_iconst 1 dX5_putRootOver_1 (by decide) ?_
  refine ev_callV (As := [vI 1]) (rest := []) dX5_putRootOver_2 mlX5_81 rm_mX5_putRootOver_mX5_newNode rfl rfl rfl rfl (Nat.le_of_ble_eq_true rfl) H (fun v h1 H => ?_)
  obtain ⟨r2, rfl, H⟩ := H
  show Ev mX5_putRootOver 5 [(0, vR 16), (1, vI x1), (2, vI x2)] [vI r2] h1 Q
  refine ev_istore_n 3 dX5_putRootOver_5 rfl (by decide) ?_
  refine ev_L (L' := [(3, vI r2), (0, vR 16), (1, vI x1), (2, vI x2)]) rfl ?_
  refine ev_iload_n 3 dX5_putRootOver_6 rfl (x := r2) rfl ?_
  refine ev_iconst (-1) dX5_putRootOver_7 (by decide) ?_
  refine ev_icmp_ne 12 dX5_putRootOver_8 (by decide) ⟨fun c3 => ?_, fun c3 => ?_⟩
  · have H := H.1 c3
    refine ev_aload_n 0 dX5_putRootOver_12 rfl (x := 16) rfl ?_
    refine ev_iload_n 3 dX5_putRootOver_13 rfl (x := r2) rfl ?_
    refine ev_iconst 0 dX5_putRootOver_14 (by decide) ?_
    refine ev_iload_n 1 dX5_putRootOver_15 rfl (x := x1) rfl ?_
    refine ev_i2l dX5_putRootOver_16 ?_
    refine ev_callV (As := [vI r2, vI 0, vL (Int32.toInt64 x1)]) (rest := []) dX5_putRootOver_17 mlX5_55 rm_mX5_putRootOver_mX5_putIn rfl rfl rfl rfl (Nat.le_of_ble_eq_true rfl) H (fun v h4 H => ?_)
    obtain ⟨rfl, H⟩ := H
    show Ev mX5_putRootOver 20 [(3, vI r2), (0, vR 16), (1, vI x1), (2, vI x2)] [] h4 Q
    refine ev_aload_n 0 dX5_putRootOver_20 rfl (x := 16) rfl ?_
    refine ev_iload_n 3 dX5_putRootOver_21 rfl (x := r2) rfl ?_
    refine ev_iconst 1 dX5_putRootOver_22 (by decide) ?_
    refine ev_iload_n 2 dX5_putRootOver_23 rfl (x := x2) rfl ?_
    refine ev_i2l dX5_putRootOver_24 ?_
    refine ev_callV (As := [vI r2, vI 1, vL (Int32.toInt64 x2)]) (rest := []) dX5_putRootOver_25 mlX5_55 rm_mX5_putRootOver_mX5_putIn rfl rfl rfl rfl (Nat.le_of_ble_eq_true rfl) H (fun v h5 H => ?_)
    obtain ⟨rfl, H⟩ := H
    show Ev mX5_putRootOver 28 [(3, vI r2), (0, vR 16), (1, vI x1), (2, vI x2)] [] h5 Q
    refine ev_aload_n 0 dX5_putRootOver_28 rfl (x := 16) rfl ?_
    refine ev_iload_n 3 dX5_putRootOver_29 rfl (x := r2) rfl ?_
    refine ev_putI dX5_putRootOver_30 fpX5_37 rfl rfl   ?_
    obtain ⟨h6, eh6⟩ : ∃ z : Hp, z = sI h5 16 (upd (h5.1 16) 7 r2) := ⟨_, rfl⟩
    rw [← eh6]
    have H := H h6 eh6
    exact ev_vret dX5_putRootOver_33 rfl H
  · have H := H.2 c3
    exact ev_vret dX5_putRootOver_11 rfl H
set_option maxRecDepth 20000 in
theorem sX5_letGo {h : Hp} {Q : Option AV → Hp → Prop} {x1 : Int64} (H : EvM mX5_goDown [vR 16, vL x1] h (fun v h1 => v = none ∧ (vp_in (h1.1 16 10) 64 ∧ Ev mX5_letGo 18 [(0, vR 16), (1, vL x1), (3, vI (h1.1 22 (Int32.toNatClampNeg (h1.1 16 10)))), (4, vI 0)] [] h1 Q))) : EvM mX5_letGo [vR 16, vL x1] h Q := by
  refine evM_of (by decide) rfl (Nat.le_of_ble_eq_true rfl) ?_
  show Ev mX5_letGo 0 [(0, vR 16), (1, vL x1)] [] h Q
  refine ev_aload_n 0 dX5_letGo_0 rfl (x := 16) rfl ?_
  refine ev_lload_n 1 dX5_letGo_1 rfl (x := x1) rfl ?_
  refine ev_callV (As := [vL x1]) (rest := []) dX5_letGo_2 mlX5_69 rm_mX5_letGo_mX5_goDown rfl rfl rfl rfl (Nat.le_of_ble_eq_true rfl) H (fun v h1 H => ?_)
  obtain ⟨rfl, H⟩ := H
  show Ev mX5_letGo 5 [(0, vR 16), (1, vL x1)] [] h1 Q
  refine ev_aload_n 0 dX5_letGo_5 rfl (x := 16) rfl ?_
  refine ev_getR dX5_letGo_6 flX5_40 rfl rfl ?_
  refine ev_aload_n 0 dX5_letGo_9 rfl (x := 16) rfl ?_
  refine ev_getI dX5_letGo_10 flX5_46 rfl rfl ?_
  obtain ⟨b2, H⟩ := H
  refine ev_iald dX5_letGo_13 rfl b2 ?_
  refine ev_istore_n 3 dX5_letGo_14 rfl (by decide) ?_
  refine ev_L (L' := [(3, vI (h1.1 22 (Int32.toNatClampNeg (h1.1 16 10)))), (0, vR 16), (1, vL x1)]) rfl ?_
  refine ev_iconst 0 dX5_letGo_15 (by decide) ?_
  refine ev_istore dX5_letGo_16 (by decide) ?_
  refine ev_L (L' := [(4, vI 0), (3, vI (h1.1 22 (Int32.toNatClampNeg (h1.1 16 10)))), (0, vR 16), (1, vL x1)]) rfl ?_
  exact ev_sub (L' := [(0, vR 16), (1, vL x1), (3, vI (h1.1 22 (Int32.toNatClampNeg (h1.1 16 10)))), (4, vI 0)]) ⟨rfl, rfl, rfl, rfl, trivial⟩ H
set_option maxRecDepth 20000 in
theorem sX5_letGo_18 {h : Hp} {Q : Option AV → Hp → Prop} {x1 : Int64} {x3 : Int32} {x4 : Int32} (H : (vp_in x3 64 ∧ ((((h.1 18 (Int32.toNatClampNeg x3)) ≤ x4) → Ev mX5_letGo 49 [(0, vR 16), (3, vI x3), (4, vI x4)] [] h Q) ∧ ((¬ (h.1 18 (Int32.toNatClampNeg x3)) ≤ x4) → (vp_in x3 64 ∧ (vp_in x4 9 ∧ ((((lg_cmp (h.2.2 (Int32.toNatClampNeg x3) (Int32.toNatClampNeg x4)) x1) = 0) → Ev mX5_letGo 49 [(0, vR 16), (3, vI x3), (4, vI x4)] [] h Q) ∧ ((¬ (lg_cmp (h.2.2 (Int32.toNatClampNeg x3) (Int32.toNatClampNeg x4)) x1) = 0) → Ev mX5_letGo 18 [(0, vR 16), (1, vL x1), (3, vI x3), (4, vI (x4 + 1))] [] h Q)))))))) : Ev mX5_letGo 18 [(0, vR 16), (1, vL x1), (3, vI x3), (4, vI x4)] [] h Q := by
  refine ev_iload dX5_letGo_18 (x := x4) rfl ?_
  refine ev_aload_n 0 dX5_letGo_20 rfl (x := 16) rfl ?_
  refine ev_getR dX5_letGo_21 flX5_16 rfl rfl ?_
  refine ev_iload_n 3 dX5_letGo_24 rfl (x := x3) rfl ?_
  obtain ⟨b1, H⟩ := H
  refine ev_iald dX5_letGo_25 rfl b1 ?_
  refine ev_icmp_ge 49 dX5_letGo_26 (by decide) ⟨fun c2 => ?_, fun c2 => ?_⟩
  · have H := H.1 c2
    exact ev_sub (L' := [(0, vR 16), (3, vI x3), (4, vI x4)]) ⟨rfl, rfl, rfl, trivial⟩ H
  · have H := H.2 c2
    refine ev_aload_n 0 dX5_letGo_29 rfl (x := 16) rfl ?_
    refine ev_getR dX5_letGo_30 flX5_11 rfl rfl ?_
    refine ev_iload_n 3 dX5_letGo_33 rfl (x := x3) rfl ?_
    obtain ⟨b3, H⟩ := H
    refine ev_gald dX5_letGo_34 rfl b3 ?_
    refine ev_iload dX5_letGo_35 (x := x4) rfl ?_
    obtain ⟨b4, H⟩ := H
    refine ev_rald dX5_letGo_37 (vp_lt b3) b4 ?_
    refine ev_lload_n 1 dX5_letGo_38 rfl (x := x1) rfl ?_
    refine ev_lcmp dX5_letGo_39 ?_
    refine ev_if_eq 49 dX5_letGo_40 (by decide) ⟨fun c5 => ?_, fun c5 => ?_⟩
    · have H := H.1 c5
      exact ev_sub (L' := [(0, vR 16), (3, vI x3), (4, vI x4)]) ⟨rfl, rfl, rfl, trivial⟩ H
    · have H := H.2 c5
      refine ev_iinc (x := x4) (v := 1) dX5_letGo_43 rfl (by decide) (by decide) ?_
      refine ev_L (L' := [(4, vI (x4 + 1)), (0, vR 16), (1, vL x1), (3, vI x3)]) rfl ?_
      refine ev_goto 18 dX5_letGo_46 (by decide) ?_
      exact ev_sub (L' := [(0, vR 16), (1, vL x1), (3, vI x3), (4, vI (x4 + 1))]) ⟨rfl, rfl, rfl, rfl, trivial⟩ H
set_option maxRecDepth 20000 in
theorem sX5_letGo_49 {h : Hp} {Q : Option AV → Hp → Prop} {x3 : Int32} {x4 : Int32} (H : (vp_in x3 64 ∧ (((x4 < (h.1 18 (Int32.toNatClampNeg x3))) → EvM mX5_takeOut [vR 16, vI x3, vI x4] h (fun v h3 => v = none ∧ (∀ h4 : Hp, h4 = sI h3 16 (upd (h3.1 16) 6 ((h3.1 16 6) - 1)) → Ev mX5_letGo 84 [(0, vR 16), (5, vI (h4.1 16 10))] [] h4 Q))) ∧ ((¬ x4 < (h.1 18 (Int32.toNatClampNeg x3))) → Q none h)))) : Ev mX5_letGo 49 [(0, vR 16), (3, vI x3), (4, vI x4)] [] h Q := by
  refine ev_iload dX5_letGo_49 (x := x4) rfl ?_
  refine ev_aload_n 0 dX5_letGo_51 rfl (x := 16) rfl ?_
  refine ev_getR dX5_letGo_52 flX5_16 rfl rfl ?_
  refine ev_iload_n 3 dX5_letGo_55 rfl (x := x3) rfl ?_
  obtain ⟨b1, H⟩ := H
  refine ev_iald dX5_letGo_56 rfl b1 ?_
  refine ev_icmp_lt 61 dX5_letGo_57 (by decide) ⟨fun c2 => ?_, fun c2 => ?_⟩
  · have H := H.1 c2
    refine ev_aload_n 0 dX5_letGo_61 rfl (x := 16) rfl ?_
    refine ev_iload_n 3 dX5_letGo_62 rfl (x := x3) rfl ?_
    refine ev_iload dX5_letGo_63 (x := x4) rfl ?_
    refine ev_callV (As := [vI x3, vI x4]) (rest := []) dX5_letGo_65 mlX5_89 rm_mX5_letGo_mX5_takeOut rfl rfl rfl rfl (Nat.le_of_ble_eq_true rfl) H (fun v h3 H => ?_)
    obtain ⟨rfl, H⟩ := H
    show Ev mX5_letGo 68 [(0, vR 16), (3, vI x3), (4, vI x4)] [] h3 Q
    refine ev_aload_n 0 dX5_letGo_68 rfl (x := 16) rfl ?_
    refine ev_dup dX5_letGo_69 rfl ?_
    refine ev_getI dX5_letGo_70 flX5_34 rfl rfl ?_
    refine ev_iconst 1 dX5_letGo_73 (by decide) ?_
    refine ev_isub dX5_letGo_74 ?_
    refine ev_putI dX5_letGo_75 fpX5_34 rfl rfl   ?_
    obtain ⟨h4, eh4⟩ : ∃ z : Hp, z = sI h3 16 (upd (h3.1 16) 6 ((h3.1 16 6) - 1)) := ⟨_, rfl⟩
    rw [← eh4]
    have H := H h4 eh4
    refine ev_aload_n 0 dX5_letGo_78 rfl (x := 16) rfl ?_
    refine ev_getI dX5_letGo_79 flX5_46 rfl rfl ?_
    refine ev_istore dX5_letGo_82 (by decide) ?_
    refine ev_L (L' := [(5, vI (h4.1 16 10)), (0, vR 16), (3, vI x3), (4, vI x4)]) rfl ?_
    exact ev_sub (L' := [(0, vR 16), (5, vI (h4.1 16 10))]) ⟨rfl, rfl, trivial⟩ H
  · have H := H.2 c2
    exact ev_vret dX5_letGo_60 rfl H
set_option maxRecDepth 20000 in
theorem sX5_letGo_84 {h : Hp} {Q : Option AV → Hp → Prop} {x5 : Int32} (H : (((x5 ≤ 0) → Ev mX5_letGo 144 [(0, vR 16), (5, vI 0)] [] h Q) ∧ ((¬ x5 ≤ 0) → (vp_in x5 64 ∧ (vp_in (h.1 22 (Int32.toNatClampNeg x5)) 64 ∧ (((¬ (h.1 18 (Int32.toNatClampNeg (h.1 22 (Int32.toNatClampNeg x5)))) = 0) → Ev mX5_letGo 144 [(0, vR 16), (5, vI 0)] [] h Q) ∧ (((h.1 18 (Int32.toNatClampNeg (h.1 22 (Int32.toNatClampNeg x5)))) = 0) → (vp_in x5 64 ∧ EvM mX5_freeNode [vR 16, vI (h.1 22 (Int32.toNatClampNeg x5))] h (fun v h6 => v = none ∧ (vp_in (x5 - 1) 64 ∧ (vp_in x5 64 ∧ EvM mX5_takeOut [vR 16, vI (h6.1 22 (Int32.toNatClampNeg (x5 - 1))), vI (h6.1 23 (Int32.toNatClampNeg x5))] h6 (fun v h9 => v = none ∧ Ev mX5_letGo 84 [(0, vR 16), (5, vI (x5 + (-1)))] [] h9 Q)))))))))))) : Ev mX5_letGo 84 [(0, vR 16), (5, vI x5)] [] h Q := by
  refine ev_iload dX5_letGo_84 (x := x5) rfl ?_
  refine ev_if_le 141 dX5_letGo_86 (by decide) ⟨fun c1 => ?_, fun c1 => ?_⟩
  · have H := H.1 c1
    refine ev_iconst 0 dX5_letGo_141 (by decide) ?_
    refine ev_istore dX5_letGo_142 (by decide) ?_
    refine ev_L (L' := [(5, vI 0), (0, vR 16)]) rfl ?_
    exact ev_sub (L' := [(0, vR 16), (5, vI 0)]) ⟨rfl, rfl, trivial⟩ H
  · have H := H.2 c1
    refine ev_aload_n 0 dX5_letGo_89 rfl (x := 16) rfl ?_
    refine ev_getR dX5_letGo_90 flX5_16 rfl rfl ?_
    refine ev_aload_n 0 dX5_letGo_93 rfl (x := 16) rfl ?_
    refine ev_getR dX5_letGo_94 flX5_40 rfl rfl ?_
    refine ev_iload dX5_letGo_97 (x := x5) rfl ?_
    obtain ⟨b2, H⟩ := H
    refine ev_iald dX5_letGo_99 rfl b2 ?_
    obtain ⟨b3, H⟩ := H
    refine ev_iald dX5_letGo_100 rfl b3 ?_
    refine ev_if_ne 141 dX5_letGo_101 (by decide) ⟨fun c4 => ?_, fun c4 => ?_⟩
    · have H := H.1 c4
      refine ev_iconst 0 dX5_letGo_141 (by decide) ?_
      refine ev_istore dX5_letGo_142 (by decide) ?_
      refine ev_L (L' := [(5, vI 0), (0, vR 16)]) rfl ?_
      exact ev_sub (L' := [(0, vR 16), (5, vI 0)]) ⟨rfl, rfl, trivial⟩ H
    · have H := H.2 c4
      refine ev_aload_n 0 dX5_letGo_104 rfl (x := 16) rfl ?_
      refine ev_aload_n 0 dX5_letGo_105 rfl (x := 16) rfl ?_
      refine ev_getR dX5_letGo_106 flX5_40 rfl rfl ?_
      refine ev_iload dX5_letGo_109 (x := x5) rfl ?_
      obtain ⟨b5, H⟩ := H
      refine ev_iald dX5_letGo_111 rfl b5 ?_
      refine ev_callV (As := [vI (h.1 22 (Int32.toNatClampNeg x5))]) (rest := []) dX5_letGo_112 mlX5_92 rm_mX5_letGo_mX5_freeNode rfl rfl rfl rfl (Nat.le_of_ble_eq_true rfl) H (fun v h6 H => ?_)
      obtain ⟨rfl, H⟩ := H
      show Ev mX5_letGo 115 [(0, vR 16), (5, vI x5)] [] h6 Q
      refine ev_aload_n 0 dX5_letGo_115 rfl (x := 16) rfl ?_
      refine ev_aload_n 0 dX5_letGo_116 rfl (x := 16) rfl ?_
      refine ev_getR dX5_letGo_117 flX5_40 rfl rfl ?_
      refine ev_iload dX5_letGo_120 (x := x5) rfl ?_
      refine ev_iconst 1 dX5_letGo_122 (by decide) ?_
      refine ev_isub dX5_letGo_123 ?_
      obtain ⟨b7, H⟩ := H
      refine ev_iald dX5_letGo_124 rfl b7 ?_
      refine ev_aload_n 0 dX5_letGo_125 rfl (x := 16) rfl ?_
      refine ev_getR dX5_letGo_126 flX5_43 rfl rfl ?_
      refine ev_iload dX5_letGo_129 (x := x5) rfl ?_
      obtain ⟨b8, H⟩ := H
      refine ev_iald dX5_letGo_131 rfl b8 ?_
      refine ev_callV (As := [vI (h6.1 22 (Int32.toNatClampNeg (x5 - 1))), vI (h6.1 23 (Int32.toNatClampNeg x5))]) (rest := []) dX5_letGo_132 mlX5_89 rm_mX5_letGo_mX5_takeOut rfl rfl rfl rfl (Nat.le_of_ble_eq_true rfl) H (fun v h9 H => ?_)
      obtain ⟨rfl, H⟩ := H
      show Ev mX5_letGo 135 [(0, vR 16), (5, vI x5)] [] h9 Q
      refine ev_iinc (x := x5) (v := (-1)) dX5_letGo_135 rfl (by decide) (by decide) ?_
      refine ev_L (L' := [(5, vI (x5 + (-1))), (0, vR 16)]) rfl ?_
      refine ev_goto 84 dX5_letGo_138 (by decide) ?_
      exact ev_sub (L' := [(0, vR 16), (5, vI (x5 + (-1)))]) ⟨rfl, rfl, trivial⟩ H
set_option maxRecDepth 20000 in
theorem sX5_letGo_144 {h : Hp} {Q : Option AV → Hp → Prop} {x5 : Int32} (H : (((64 ≤ x5) → Q none h) ∧ ((¬ 64 ≤ x5) → (vp_in (h.1 16 7) 64 ∧ ((((h.1 19 (Int32.toNatClampNeg (h.1 16 7))) = 0) → Q none h) ∧ ((¬ (h.1 19 (Int32.toNatClampNeg (h.1 16 7))) = 0) → (vp_in (h.1 16 7) 64 ∧ (((¬ (h.1 18 (Int32.toNatClampNeg (h.1 16 7))) = 1) → Q none h) ∧ (((h.1 18 (Int32.toNatClampNeg (h.1 16 7))) = 1) → EvM mX5_kidOf [vR 16, vI (h.1 16 7), vI 0] h (fun v h6 => ∃ r7 : Int32, v = some (vI r7) ∧ (∀ h8 : Hp, h8 = sI h6 16 (upd (h6.1 16) 7 r7) → EvM mX5_freeNode [vR 16, vI (h.1 16 7)] h8 (fun v h9 => v = none ∧ Ev mX5_letGo 144 [(0, vR 16), (5, vI (x5 + 1))] [] h9 Q)))))))))))) : Ev mX5_letGo 144 [(0, vR 16), (5, vI x5)] [] h Q := by
  refine ev_iload dX5_letGo_144 (x := x5) rfl ?_
  refine ev_bipush 64 dX5_letGo_146 (by decide) ?_
  refine ev_icmp_ge 205 dX5_letGo_148 (by decide) ⟨fun c1 => ?_, fun c1 => ?_⟩
  · have H := H.1 c1
    exact ev_vret dX5_letGo_205 rfl H
  · have H := H.2 c1
    refine ev_aload_n 0 dX5_letGo_151 rfl (x := 16) rfl ?_
    refine ev_getR dX5_letGo_152 flX5_20 rfl rfl ?_
    refine ev_aload_n 0 dX5_letGo_155 rfl (x := 16) rfl ?_
    refine ev_getI dX5_letGo_156 flX5_37 rfl rfl ?_
    obtain ⟨b2, H⟩ := H
    refine ev_zald dX5_letGo_159 rfl b2 ?_
    refine ev_if_eq 205 dX5_letGo_160 (by decide) ⟨fun c3 => ?_, fun c3 => ?_⟩
    · have H := H.1 c3
      exact ev_vret dX5_letGo_205 rfl H
    · have H := H.2 c3
      refine ev_aload_n 0 dX5_letGo_163 rfl (x := 16) rfl ?_
      refine ev_getR dX5_letGo_164 flX5_16 rfl rfl ?_
      refine ev_aload_n 0 dX5_letGo_167 rfl (x := 16) rfl ?_
      refine ev_getI dX5_letGo_168 flX5_37 rfl rfl ?_
      obtain ⟨b4, H⟩ := H
      refine ev_iald dX5_letGo_171 rfl b4 ?_
      refine ev_iconst 1 dX5_letGo_172 (by decide) ?_
      refine ev_icmp_ne 205 dX5_letGo_173 (by decide) ⟨fun c5 => ?_, fun c5 => ?_⟩
      · have H := H.1 c5
        exact ev_vret dX5_letGo_205 rfl H
      · have H := H.2 c5
        refine ev_aload_n 0 dX5_letGo_176 rfl (x := 16) rfl ?_
        refine ev_getI dX5_letGo_177 flX5_37 rfl rfl ?_
        refine ev_istore dX5_letGo_180 (by decide) ?_
        refine ev_L (L' := [(6, vI (h.1 16 7)), (0, vR 16), (5, vI x5)]) rfl ?_
        refine ev_aload_n 0 dX5_letGo_182 rfl (x := 16) rfl ?_
        refine ev_aload_n 0 dX5_letGo_183 rfl (x := 16) rfl ?_
        refine ev_iload dX5_letGo_184 (x := (h.1 16 7)) rfl ?_
        refine ev_iconst 0 dX5_letGo_186 (by decide) ?_
        refine ev_callV (As := [vI (h.1 16 7), vI 0]) (rest := [vR 16]) dX5_letGo_187 mlX5_61 rm_mX5_letGo_mX5_kidOf rfl rfl rfl rfl (Nat.le_of_ble_eq_true rfl) H (fun v h6 H => ?_)
        obtain ⟨r7, rfl, H⟩ := H
        show Ev mX5_letGo 190 [(6, vI (h.1 16 7)), (0, vR 16), (5, vI x5)] [vI r7, vR 16] h6 Q
        refine ev_putI dX5_letGo_190 fpX5_37 rfl rfl   ?_
        obtain ⟨h8, eh8⟩ : ∃ z : Hp, z = sI h6 16 (upd (h6.1 16) 7 r7) := ⟨_, rfl⟩
        rw [← eh8]
        have H := H h8 eh8
        refine ev_aload_n 0 dX5_letGo_193 rfl (x := 16) rfl ?_
        refine ev_iload dX5_letGo_194 (x := (h.1 16 7)) rfl ?_
        refine ev_callV (As := [vI (h.1 16 7)]) (rest := []) dX5_letGo_196 mlX5_92 rm_mX5_letGo_mX5_freeNode rfl rfl rfl rfl (Nat.le_of_ble_eq_true rfl) H (fun v h9 H => ?_)
        obtain ⟨rfl, H⟩ := H
        show Ev mX5_letGo 199 [(6, vI (h.1 16 7)), (0, vR 16), (5, vI x5)] [] h9 Q
        refine ev_iinc (x := x5) (v := 1) dX5_letGo_199 rfl (by decide) (by decide) ?_
        refine ev_L (L' := [(5, vI (x5 + 1)), (6, vI (h.1 16 7)), (0, vR 16)]) rfl ?_
        refine ev_goto 144 dX5_letGo_202 (by decide) ?_
        exact ev_sub (L' := [(0, vR 16), (5, vI (x5 + 1))]) ⟨rfl, rfl, trivial⟩ H
set_option maxRecDepth 20000 in
theorem sX5_levels {h : Hp} {Q : Option AV → Hp → Prop} (H : Ev mX5_levels 7 [(0, vR 16), (1, vI (h.1 16 7)), (2, vI 1)] [] h Q) : EvM mX5_levels [vR 16] h Q := by
  refine evM_of (by decide) rfl (Nat.le_of_ble_eq_true rfl) ?_
  show Ev mX5_levels 0 [(0, vR 16)] [] h Q
  refine ev_aload_n 0 dX5_levels_0 rfl (x := 16) rfl ?_
  refine ev_getI dX5_levels_1 flX5_37 rfl rfl ?_
  refine ev_istore_n 1 dX5_levels_4 rfl (by decide) ?_
  refine ev_L (L' := [(1, vI (h.1 16 7)), (0, vR 16)]) rfl ?_
  refine ev_iconst 1 dX5_levels_5 (by decide) ?_
  refine ev_istore_n 2 dX5_levels_6 rfl (by decide) ?_
  refine ev_L (L' := [(2, vI 1), (1, vI (h.1 16 7)), (0, vR 16)]) rfl ?_
  exact ev_sub (L' := [(0, vR 16), (1, vI (h.1 16 7)), (2, vI 1)]) ⟨rfl, rfl, rfl, trivial⟩ H
set_option maxRecDepth 20000 in
theorem sX5_levels_7 {h : Hp} {Q : Option AV → Hp → Prop} {x1 : Int32} {x2 : Int32} (H : (vp_in x1 64 ∧ ((((h.1 19 (Int32.toNatClampNeg x1)) = 0) → Q (some (vI x2)) h) ∧ ((¬ (h.1 19 (Int32.toNatClampNeg x1)) = 0) → (((64 ≤ x2) → Q (some (vI x2)) h) ∧ ((¬ 64 ≤ x2) → EvM mX5_kidOf [vR 16, vI x1, vI 0] h (fun v h4 => ∃ r5 : Int32, v = some (vI r5) ∧ Ev mX5_levels 7 [(0, vR 16), (1, vI r5), (2, vI (x2 + 1))] [] h4 Q))))))) : Ev mX5_levels 7 [(0, vR 16), (1, vI x1), (2, vI x2)] [] h Q := by
  refine ev_aload_n 0 dX5_levels_7 rfl (x := 16) rfl ?_
  refine ev_getR dX5_levels_8 flX5_20 rfl rfl ?_
  refine ev_iload_n 1 dX5_levels_11 rfl (x := x1) rfl ?_
  obtain ⟨b1, H⟩ := H
  refine ev_zald dX5_levels_12 rfl b1 ?_
  refine ev_if_eq 35 dX5_levels_13 (by decide) ⟨fun c2 => ?_, fun c2 => ?_⟩
  · have H := H.1 c2
    refine ev_iload_n 2 dX5_levels_35 rfl (x := x2) rfl ?_
    exact ev_iret dX5_levels_36 rfl H
  · have H := H.2 c2
    refine ev_iload_n 2 dX5_levels_16 rfl (x := x2) rfl ?_
    refine ev_bipush 64 dX5_levels_17 (by decide) ?_
    refine ev_icmp_ge 35 dX5_levels_19 (by decide) ⟨fun c3 => ?_, fun c3 => ?_⟩
    · have H := H.1 c3
      refine ev_iload_n 2 dX5_levels_35 rfl (x := x2) rfl ?_
      exact ev_iret dX5_levels_36 rfl H
    · have H := H.2 c3
      refine ev_aload_n 0 dX5_levels_22 rfl (x := 16) rfl ?_
      refine ev_iload_n 1 dX5_levels_23 rfl (x := x1) rfl ?_
      refine ev_iconst 0 dX5_levels_24 (by decide) ?_
      refine ev_callV (As := [vI x1, vI 0]) (rest := []) dX5_levels_25 mlX5_61 rm_mX5_levels_mX5_kidOf rfl rfl rfl rfl (Nat.le_of_ble_eq_true rfl) H (fun v h4 H => ?_)
      obtain ⟨r5, rfl, H⟩ := H
      show Ev mX5_levels 28 [(0, vR 16), (1, vI x1), (2, vI x2)] [vI r5] h4 Q
      refine ev_istore_n 1 dX5_levels_28 rfl (by decide) ?_
      refine ev_L (L' := [(1, vI r5), (0, vR 16), (2, vI x2)]) rfl ?_
      refine ev_iinc (x := x2) (v := 1) dX5_levels_29 rfl (by decide) (by decide) ?_
      refine ev_L (L' := [(2, vI (x2 + 1)), (1, vI r5), (0, vR 16)]) rfl ?_
      refine ev_goto 7 dX5_levels_32 (by decide) ?_
      exact ev_sub (L' := [(0, vR 16), (1, vI r5), (2, vI (x2 + 1))]) ⟨rfl, rfl, rfl, trivial⟩ H
set_option maxRecDepth 20000 in
theorem sX5_listLeaves {h : Hp} {Q : Option AV → Hp → Prop} (H : (∀ h1 : Hp, h1 = sI h 24 (upd (h.1 24) (Int32.toNatClampNeg 0) (h.1 16 7)) → Ev mX5_listLeaves 14 [(0, vR 16), (1, vI 1), (2, vI 0)] [] h1 Q)) : EvM mX5_listLeaves [vR 16] h Q := by
  refine evM_of (by decide) rfl (Nat.le_of_ble_eq_true rfl) ?_
  show Ev mX5_listLeaves 0 [(0, vR 16)] [] h Q
  refine ev_aload_n 0 dX5_listLeaves_0 rfl (x := 16) rfl ?_
  refine ev_getR dX5_listLeaves_1 flX5_49 rfl rfl ?_
  refine ev_iconst 0 dX5_listLeaves_4 (by decide) ?_
  refine ev_aload_n 0 dX5_listLeaves_5 rfl (x := 16) rfl ?_
  refine ev_getI dX5_listLeaves_6 flX5_37 rfl rfl ?_
  refine ev_iast dX5_listLeaves_9 rfl (by unfold vp_in; decide)  ?_
  obtain ⟨h1, eh1⟩ : ∃ z : Hp, z = sI h 24 (upd (h.1 24) (Int32.toNatClampNeg 0) (h.1 16 7)) := ⟨_, rfl⟩
  rw [← eh1]
  have H := H h1 eh1
  refine ev_iconst 1 dX5_listLeaves_10 (by decide) ?_
  refine ev_istore_n 1 dX5_listLeaves_11 rfl (by decide) ?_
  refine ev_L (L' := [(1, vI 1), (0, vR 16)]) rfl ?_
  refine ev_iconst 0 dX5_listLeaves_12 (by decide) ?_
  refine ev_istore_n 2 dX5_listLeaves_13 rfl (by decide) ?_
  refine ev_L (L' := [(2, vI 0), (1, vI 1), (0, vR 16)]) rfl ?_
  exact ev_sub (L' := [(0, vR 16), (1, vI 1), (2, vI 0)]) ⟨rfl, rfl, rfl, trivial⟩ H
set_option maxRecDepth 20000 in
theorem sX5_listLeaves_14 {h : Hp} {Q : Option AV → Hp → Prop} {x1 : Int32} {x2 : Int32} (H : (((64 ≤ x2) → Q (some (vI x1)) h) ∧ ((¬ 64 ≤ x2) → (vp_in (h.1 24 (Int32.toNatClampNeg 0)) 64 ∧ ((((h.1 19 (Int32.toNatClampNeg (h.1 24 (Int32.toNatClampNeg 0)))) = 0) → Q (some (vI x1)) h) ∧ ((¬ (h.1 19 (Int32.toNatClampNeg (h.1 24 (Int32.toNatClampNeg 0)))) = 0) → EvM mX5_listRowBelow [vR 16, vI x1] h (fun v h4 => ∃ r5 : Int32, v = some (vI r5) ∧ Ev mX5_listLeaves 14 [(0, vR 16), (1, vI r5), (2, vI (x2 + 1))] [] h4 Q))))))) : Ev mX5_listLeaves 14 [(0, vR 16), (1, vI x1), (2, vI x2)] [] h Q := by
  refine ev_iload_n 2 dX5_listLeaves_14 rfl (x := x2) rfl ?_
  refine ev_bipush 64 dX5_listLeaves_15 (by decide) ?_
  refine ev_icmp_ge 46 dX5_listLeaves_17 (by decide) ⟨fun c1 => ?_, fun c1 => ?_⟩
  · have H := H.1 c1
    refine ev_iload_n 1 dX5_listLeaves_46 rfl (x := x1) rfl ?_
    exact ev_iret dX5_listLeaves_47 rfl H
  · have H := H.2 c1
    refine ev_aload_n 0 dX5_listLeaves_20 rfl (x := 16) rfl ?_
    refine ev_getR dX5_listLeaves_21 flX5_20 rfl rfl ?_
    refine ev_aload_n 0 dX5_listLeaves_24 rfl (x := 16) rfl ?_
    refine ev_getR dX5_listLeaves_25 flX5_49 rfl rfl ?_
    refine ev_iconst 0 dX5_listLeaves_28 (by decide) ?_
    refine ev_iald dX5_listLeaves_29 rfl (by unfold vp_in; decide) ?_
    obtain ⟨b2, H⟩ := H
    refine ev_zald dX5_listLeaves_30 rfl b2 ?_
    refine ev_if_eq 46 dX5_listLeaves_31 (by decide) ⟨fun c3 => ?_, fun c3 => ?_⟩
    · have H := H.1 c3
      refine ev_iload_n 1 dX5_listLeaves_46 rfl (x := x1) rfl ?_
      exact ev_iret dX5_listLeaves_47 rfl H
    · have H := H.2 c3
      refine ev_aload_n 0 dX5_listLeaves_34 rfl (x := 16) rfl ?_
      refine ev_iload_n 1 dX5_listLeaves_35 rfl (x := x1) rfl ?_
      refine ev_callV (As := [vI x1]) (rest := []) dX5_listLeaves_36 mlX5_95 rm_mX5_listLeaves_mX5_listRowBelow rfl rfl rfl rfl (Nat.le_of_ble_eq_true rfl) H (fun v h4 H => ?_)
      obtain ⟨r5, rfl, H⟩ := H
      show Ev mX5_listLeaves 39 [(0, vR 16), (1, vI x1), (2, vI x2)] [vI r5] h4 Q
      refine ev_istore_n 1 dX5_listLeaves_39 rfl (by decide) ?_
      refine ev_L (L' := [(1, vI r5), (0, vR 16), (2, vI x2)]) rfl ?_
      refine ev_iinc (x := x2) (v := 1) dX5_listLeaves_40 rfl (by decide) (by decide) ?_
      refine ev_L (L' := [(2, vI (x2 + 1)), (1, vI r5), (0, vR 16)]) rfl ?_
      refine ev_goto 14 dX5_listLeaves_43 (by decide) ?_
      exact ev_sub (L' := [(0, vR 16), (1, vI r5), (2, vI (x2 + 1))]) ⟨rfl, rfl, rfl, trivial⟩ H
set_option maxRecDepth 20000 in
theorem sX5_listRowBelow {h : Hp} {Q : Option AV → Hp → Prop} {x1 : Int32} (H : Ev mX5_listRowBelow 4 [(0, vR 16), (1, vI x1), (2, vI 0), (3, vI 0)] [] h Q) : EvM mX5_listRowBelow [vR 16, vI x1] h Q := by
  refine evM_of (by decide) rfl (Nat.le_of_ble_eq_true rfl) ?_
  show Ev mX5_listRowBelow 0 [(0, vR 16), (1, vI x1)] [] h Q
  refine ev_iconst 0 dX5_listRowBelow_0 (by decide) ?_
  refine ev_istore_n 2 dX5_listRowBelow_1 rfl (by decide) ?_
  refine ev_L (L' := [(2, vI 0), (0, vR 16), (1, vI x1)]) rfl ?_
  refine ev_iconst 0 dX5_listRowBelow_2 (by decide) ?_
  refine ev_istore_n 3 dX5_listRowBelow_3 rfl (by decide) ?_
  refine ev_L (L' := [(3, vI 0), (2, vI 0), (0, vR 16), (1, vI x1)]) rfl ?_
  exact ev_sub (L' := [(0, vR 16), (1, vI x1), (2, vI 0), (3, vI 0)]) ⟨rfl, rfl, rfl, rfl, trivial⟩ H
set_option maxRecDepth 20000 in
theorem sX5_listRowBelow_4 {h : Hp} {Q : Option AV → Hp → Prop} {x1 : Int32} {x2 : Int32} {x3 : Int32} (H : (((x1 ≤ x3) → (cpk 0 0 x2 64 64 ∧ ∀ h3 : Hp, h3 = sI h 24 (va_cpy (h.1 25) (h.1 24) (Int32.toNatClampNeg 0) (Int32.toNatClampNeg 0) (Int32.toNatClampNeg x2)) → Q (some (vI x2)) h3)) ∧ ((¬ x1 ≤ x3) → (vp_in x3 64 ∧ Ev mX5_listRowBelow 20 [(0, vR 16), (1, vI x1), (2, vI x2), (3, vI x3), (4, vI (h.1 24 (Int32.toNatClampNeg x3))), (5, vI 0)] [] h Q)))) : Ev mX5_listRowBelow 4 [(0, vR 16), (1, vI x1), (2, vI x2), (3, vI x3)] [] h Q := by
  refine ev_iload_n 3 dX5_listRowBelow_4 rfl (x := x3) rfl ?_
  refine ev_iload_n 1 dX5_listRowBelow_5 rfl (x := x1) rfl ?_
  refine ev_icmp_ge 67 dX5_listRowBelow_6 (by decide) ⟨fun c1 => ?_, fun c1 => ?_⟩
  · have H := H.1 c1
    refine ev_aload_n 0 dX5_listRowBelow_67 rfl (x := 16) rfl ?_
    refine ev_getR dX5_listRowBelow_68 flX5_52 rfl rfl ?_
    refine ev_iconst 0 dX5_listRowBelow_71 (by decide) ?_
    refine ev_aload_n 0 dX5_listRowBelow_72 rfl (x := 16) rfl ?_
    refine ev_getR dX5_listRowBelow_73 flX5_49 rfl rfl ?_
    refine ev_iconst 0 dX5_listRowBelow_76 (by decide) ?_
    refine ev_iload_n 2 dX5_listRowBelow_77 rfl (x := x2) rfl ?_
    obtain ⟨b2, H⟩ := H
    refine ev_copyI dX5_listRowBelow_78 mcX5_99 rc_mX5_listRowBelow rfl rfl b2 (Nat.le_of_ble_eq_true rfl) ?_
    obtain ⟨h3, eh3⟩ : ∃ z : Hp, z = sI h 24 (va_cpy (h.1 25) (h.1 24) (Int32.toNatClampNeg 0) (Int32.toNatClampNeg 0) (Int32.toNatClampNeg x2)) := ⟨_, rfl⟩
    rw [← eh3]
    have H := H h3 eh3
    refine ev_iload_n 2 dX5_listRowBelow_81 rfl (x := x2) rfl ?_
    exact ev_iret dX5_listRowBelow_82 rfl H
  · have H := H.2 c1
    refine ev_aload_n 0 dX5_listRowBelow_9 rfl (x := 16) rfl ?_
    refine ev_getR dX5_listRowBelow_10 flX5_49 rfl rfl ?_
    refine ev_iload_n 3 dX5_listRowBelow_13 rfl (x := x3) rfl ?_
    obtain ⟨b4, H⟩ := H
    refine ev_iald dX5_listRowBelow_14 rfl b4 ?_
    refine ev_istore dX5_listRowBelow_15 (by decide) ?_
    refine ev_L (L' := [(4, vI (h.1 24 (Int32.toNatClampNeg x3))), (0, vR 16), (1, vI x1), (2, vI x2), (3, vI x3)]) rfl ?_
    refine ev_iconst 0 dX5_listRowBelow_17 (by decide) ?_
    refine ev_istore dX5_listRowBelow_18 (by decide) ?_
    refine ev_L (L' := [(5, vI 0), (4, vI (h.1 24 (Int32.toNatClampNeg x3))), (0, vR 16), (1, vI x1), (2, vI x2), (3, vI x3)]) rfl ?_
    exact ev_sub (L' := [(0, vR 16), (1, vI x1), (2, vI x2), (3, vI x3), (4, vI (h.1 24 (Int32.toNatClampNeg x3))), (5, vI 0)]) ⟨rfl, rfl, rfl, rfl, rfl, rfl, trivial⟩ H
set_option maxRecDepth 20000 in
theorem sX5_listRowBelow_20 {h : Hp} {Q : Option AV → Hp → Prop} {x1 : Int32} {x2 : Int32} {x3 : Int32} {x4 : Int32} {x5 : Int32} (H : (vp_in x4 64 ∧ ((((h.1 18 (Int32.toNatClampNeg x4)) ≤ x5) → Ev mX5_listRowBelow 4 [(0, vR 16), (1, vI x1), (2, vI x2), (3, vI (x3 + 1))] [] h Q) ∧ ((¬ (h.1 18 (Int32.toNatClampNeg x4)) ≤ x5) → (((64 ≤ x2) → Ev mX5_listRowBelow 4 [(0, vR 16), (1, vI x1), (2, vI x2), (3, vI (x3 + 1))] [] h Q) ∧ ((¬ 64 ≤ x2) → EvM mX5_kidOf [vR 16, vI x4, vI x5] h (fun v h4 => ∃ r5 : Int32, v = some (vI r5) ∧ (vp_in x2 64 ∧ (∀ h7 : Hp, h7 = sI h4 25 (upd (h4.1 25) (Int32.toNatClampNeg x2) r5) → Ev mX5_listRowBelow 20 [(0, vR 16), (1, vI x1), (2, vI (x2 + 1)), (3, vI x3), (4, vI x4), (5, vI (x5 + 1))] [] h7 Q))))))))) : Ev mX5_listRowBelow 20 [(0, vR 16), (1, vI x1), (2, vI x2), (3, vI x3), (4, vI x4), (5, vI x5)] [] h Q := by
  refine ev_iload dX5_listRowBelow_20 (x := x5) rfl ?_
  refine ev_aload_n 0 dX5_listRowBelow_22 rfl (x := 16) rfl ?_
  refine ev_getR dX5_listRowBelow_23 flX5_16 rfl rfl ?_
  refine ev_iload dX5_listRowBelow_26 (x := x4) rfl ?_
  obtain ⟨b1, H⟩ := H
  refine ev_iald dX5_listRowBelow_28 rfl b1 ?_
  refine ev_icmp_ge 61 dX5_listRowBelow_29 (by decide) ⟨fun c2 => ?_, fun c2 => ?_⟩
  · have H := H.1 c2
    refine ev_iinc (x := x3) (v := 1) dX5_listRowBelow_61 rfl (by decide) (by decide) ?_
    refine ev_L (L' := [(3, vI (x3 + 1)), (0, vR 16), (1, vI x1), (2, vI x2), (4, vI x4), (5, vI x5)]) rfl ?_
    refine ev_goto 4 dX5_listRowBelow_64 (by decide) ?_
    exact ev_sub (L' := [(0, vR 16), (1, vI x1), (2, vI x2), (3, vI (x3 + 1))]) ⟨rfl, rfl, rfl, rfl, trivial⟩ H
  · have H := H.2 c2
    refine ev_iload_n 2 dX5_listRowBelow_32 rfl (x := x2) rfl ?_
    refine ev_bipush 64 dX5_listRowBelow_33 (by decide) ?_
    refine ev_icmp_ge 61 dX5_listRowBelow_35 (by decide) ⟨fun c3 => ?_, fun c3 => ?_⟩
    · have H := H.1 c3
      refine ev_iinc (x := x3) (v := 1) dX5_listRowBelow_61 rfl (by decide) (by decide) ?_
      refine ev_L (L' := [(3, vI (x3 + 1)), (0, vR 16), (1, vI x1), (2, vI x2), (4, vI x4), (5, vI x5)]) rfl ?_
      refine ev_goto 4 dX5_listRowBelow_64 (by decide) ?_
      exact ev_sub (L' := [(0, vR 16), (1, vI x1), (2, vI x2), (3, vI (x3 + 1))]) ⟨rfl, rfl, rfl, rfl, trivial⟩ H
    · have H := H.2 c3
      refine ev_aload_n 0 dX5_listRowBelow_38 rfl (x := 16) rfl ?_
      refine ev_getR dX5_listRowBelow_39 flX5_52 rfl rfl ?_
      refine ev_iload_n 2 dX5_listRowBelow_42 rfl (x := x2) rfl ?_
      refine ev_aload_n 0 dX5_listRowBelow_43 rfl (x := 16) rfl ?_
      refine ev_iload dX5_listRowBelow_44 (x := x4) rfl ?_
      refine ev_iload dX5_listRowBelow_46 (x := x5) rfl ?_
      refine ev_callV (As := [vI x4, vI x5]) (rest := [vI x2, vR 25]) dX5_listRowBelow_48 mlX5_61 rm_mX5_listRowBelow_mX5_kidOf rfl rfl rfl rfl (Nat.le_of_ble_eq_true rfl) H (fun v h4 H => ?_)
      obtain ⟨r5, rfl, H⟩ := H
      show Ev mX5_listRowBelow 51 [(0, vR 16), (1, vI x1), (2, vI x2), (3, vI x3), (4, vI x4), (5, vI x5)] [vI r5, vI x2, vR 25] h4 Q
      obtain ⟨b6, H⟩ := H
      refine ev_iast dX5_listRowBelow_51 rfl b6  ?_
      obtain ⟨h7, eh7⟩ : ∃ z : Hp, z = sI h4 25 (upd (h4.1 25) (Int32.toNatClampNeg x2) r5) := ⟨_, rfl⟩
      rw [← eh7]
      have H := H h7 eh7
      refine ev_iinc (x := x2) (v := 1) dX5_listRowBelow_52 rfl (by decide) (by decide) ?_
      refine ev_L (L' := [(2, vI (x2 + 1)), (0, vR 16), (1, vI x1), (3, vI x3), (4, vI x4), (5, vI x5)]) rfl ?_
      refine ev_iinc (x := x5) (v := 1) dX5_listRowBelow_55 rfl (by decide) (by decide) ?_
      refine ev_L (L' := [(5, vI (x5 + 1)), (2, vI (x2 + 1)), (0, vR 16), (1, vI x1), (3, vI x3), (4, vI x4)]) rfl ?_
      refine ev_goto 20 dX5_listRowBelow_58 (by decide) ?_
      exact ev_sub (L' := [(0, vR 16), (1, vI x1), (2, vI (x2 + 1)), (3, vI x3), (4, vI x4), (5, vI (x5 + 1))]) ⟨rfl, rfl, rfl, rfl, rfl, rfl, trivial⟩ H
set_option maxRecDepth 20000 in
theorem sX5_entryAt {h : Hp} {Q : Option AV → Hp → Prop} {x1 : Int32} (H : EvM mX5_listLeaves [vR 16] h (fun v h1 => ∃ r2 : Int32, v = some (vI r2) ∧ Ev mX5_entryAt 10 [(0, vR 16), (2, vI x1), (3, vI r2), (4, vI 0)] [] h1 Q)) : EvM mX5_entryAt [vR 16, vI x1] h Q := by
  refine evM_of (by decide) rfl (Nat.le_of_ble_eq_true rfl) ?_
  show Ev mX5_entryAt 0 [(0, vR 16), (1, vI x1)] [] h Q
  refine ev_iload_n 1 dX5_entryAt_0 rfl (x := x1) rfl ?_
  refine ev_istore_n 2 dX5_entryAt_1 rfl (by decide) ?_
  refine ev_L (L' := [(2, vI x1), (0, vR 16), (1, vI x1)]) rfl ?_
  refine ev_aload_n 0 dX5_entryAt_2 rfl (x := 16) rfl ?_
  refine ev_callV (As := []) (rest := []) dX5_entryAt_3 mlX5_105 rm_mX5_entryAt_mX5_listLeaves rfl rfl rfl rfl (Nat.le_of_ble_eq_true rfl) H (fun v h1 H => ?_)
  obtain ⟨r2, rfl, H⟩ := H
  show Ev mX5_entryAt 6 [(2, vI x1), (0, vR 16), (1, vI x1)] [vI r2] h1 Q
  refine ev_istore_n 3 dX5_entryAt_6 rfl (by decide) ?_
  refine ev_L (L' := [(3, vI r2), (2, vI x1), (0, vR 16), (1, vI x1)]) rfl ?_
  refine ev_iconst 0 dX5_entryAt_7 (by decide) ?_
  refine ev_istore dX5_entryAt_8 (by decide) ?_
  refine ev_L (L' := [(4, vI 0), (3, vI r2), (2, vI x1), (0, vR 16), (1, vI x1)]) rfl ?_
  exact ev_sub (L' := [(0, vR 16), (2, vI x1), (3, vI r2), (4, vI 0)]) ⟨rfl, rfl, rfl, rfl, trivial⟩ H
set_option maxRecDepth 20000 in
theorem sX5_entryAt_10 {h : Hp} {Q : Option AV → Hp → Prop} {x2 : Int32} {x3 : Int32} {x4 : Int32} (H : (((x3 ≤ x4) → EvM mX5_leastOf [vR 16, vI (h.1 16 7)] h (fun v h2 => ∃ r3 : Int64, v = some (vL r3) ∧ Q (some (vL r3)) h2)) ∧ ((¬ x3 ≤ x4) → (vp_in x4 64 ∧ (((x2 < 0) → Ev mX5_entryAt 50 [(0, vR 16), (2, vI x2), (3, vI x3), (4, vI x4), (5, vI (h.1 24 (Int32.toNatClampNeg x4)))] [] h Q) ∧ ((¬ x2 < 0) → (vp_in (h.1 24 (Int32.toNatClampNeg x4)) 64 ∧ ((((h.1 18 (Int32.toNatClampNeg (h.1 24 (Int32.toNatClampNeg x4)))) ≤ x2) → Ev mX5_entryAt 50 [(0, vR 16), (2, vI x2), (3, vI x3), (4, vI x4), (5, vI (h.1 24 (Int32.toNatClampNeg x4)))] [] h Q) ∧ ((¬ (h.1 18 (Int32.toNatClampNeg (h.1 24 (Int32.toNatClampNeg x4)))) ≤ x2) → (vp_in (h.1 24 (Int32.toNatClampNeg x4)) 64 ∧ (vp_in x2 9 ∧ Q (some (vL (h.2.2 (Int32.toNatClampNeg (h.1 24 (Int32.toNatClampNeg x4))) (Int32.toNatClampNeg x2)))) h))))))))))) : Ev mX5_entryAt 10 [(0, vR 16), (2, vI x2), (3, vI x3), (4, vI x4)] [] h Q := by
  refine ev_iload dX5_entryAt_10 (x := x4) rfl ?_
  refine ev_iload_n 3 dX5_entryAt_12 rfl (x := x3) rfl ?_
  refine ev_icmp_ge 66 dX5_entryAt_13 (by decide) ⟨fun c1 => ?_, fun c1 => ?_⟩
  · have H := H.1 c1
    refine ev_aload_n 0 dX5_entryAt_66 rfl (x := 16) rfl ?_
    refine ev_aload_n 0 dX5_entryAt_67 rfl (x := 16) rfl ?_
    refine ev_getI dX5_entryAt_68 flX5_37 rfl rfl ?_
    refine ev_callV (As := [vI (h.1 16 7)]) (rest := []) dX5_entryAt_71 mlX5_65 rm_mX5_entryAt_mX5_leastOf rfl rfl rfl rfl (Nat.le_of_ble_eq_true rfl) H (fun v h2 H => ?_)
    obtain ⟨r3, rfl, H⟩ := H
    show Ev mX5_entryAt 74 [(0, vR 16), (2, vI x2), (3, vI x3), (4, vI x4)] [vL r3] h2 Q
    exact ev_lret dX5_entryAt_74 rfl H
  · have H := H.2 c1
    refine ev_aload_n 0 dX5_entryAt_16 rfl (x := 16) rfl ?_
    refine ev_getR dX5_entryAt_17 flX5_49 rfl rfl ?_
    refine ev_iload dX5_entryAt_20 (x := x4) rfl ?_
    obtain ⟨b4, H⟩ := H
    refine ev_iald dX5_entryAt_22 rfl b4 ?_
    refine ev_istore dX5_entryAt_23 (by decide) ?_
    refine ev_L (L' := [(5, vI (h.1 24 (Int32.toNatClampNeg x4))), (0, vR 16), (2, vI x2), (3, vI x3), (4, vI x4)]) rfl ?_
    refine ev_iload_n 2 dX5_entryAt_25 rfl (x := x2) rfl ?_
    refine ev_if_lt 50 dX5_entryAt_26 (by decide) ⟨fun c5 => ?_, fun c5 => ?_⟩
    · have H := H.1 c5
      exact ev_sub (L' := [(0, vR 16), (2, vI x2), (3, vI x3), (4, vI x4), (5, vI (h.1 24 (Int32.toNatClampNeg x4)))]) ⟨rfl, rfl, rfl, rfl, rfl, trivial⟩ H
    · have H := H.2 c5
      refine ev_iload_n 2 dX5_entryAt_29 rfl (x := x2) rfl ?_
      refine ev_aload_n 0 dX5_entryAt_30 rfl (x := 16) rfl ?_
      refine ev_getR dX5_entryAt_31 flX5_16 rfl rfl ?_
      refine ev_iload dX5_entryAt_34 (x := (h.1 24 (Int32.toNatClampNeg x4))) rfl ?_
      obtain ⟨b6, H⟩ := H
      refine ev_iald dX5_entryAt_36 rfl b6 ?_
      refine ev_icmp_ge 50 dX5_entryAt_37 (by decide) ⟨fun c7 => ?_, fun c7 => ?_⟩
      · have H := H.1 c7
        exact ev_sub (L' := [(0, vR 16), (2, vI x2), (3, vI x3), (4, vI x4), (5, vI (h.1 24 (Int32.toNatClampNeg x4)))]) ⟨rfl, rfl, rfl, rfl, rfl, trivial⟩ H
      · have H := H.2 c7
        refine ev_aload_n 0 dX5_entryAt_40 rfl (x := 16) rfl ?_
        refine ev_getR dX5_entryAt_41 flX5_11 rfl rfl ?_
        refine ev_iload dX5_entryAt_44 (x := (h.1 24 (Int32.toNatClampNeg x4))) rfl ?_
        obtain ⟨b8, H⟩ := H
        refine ev_gald dX5_entryAt_46 rfl b8 ?_
        refine ev_iload_n 2 dX5_entryAt_47 rfl (x := x2) rfl ?_
        obtain ⟨b9, H⟩ := H
        refine ev_rald dX5_entryAt_48 (vp_lt b8) b9 ?_
        exact ev_lret dX5_entryAt_49 rfl H
set_option maxRecDepth 20000 in
theorem sX5_entryAt_50 {h : Hp} {Q : Option AV → Hp → Prop} {x2 : Int32} {x3 : Int32} {x4 : Int32} {x5 : Int32} (H : (vp_in x5 64 ∧ Ev mX5_entryAt 10 [(0, vR 16), (2, vI (x2 - (h.1 18 (Int32.toNatClampNeg x5)))), (3, vI x3), (4, vI (x4 + 1))] [] h Q)) : Ev mX5_entryAt 50 [(0, vR 16), (2, vI x2), (3, vI x3), (4, vI x4), (5, vI x5)] [] h Q := by
  refine ev_iload_n 2 dX5_entryAt_50 rfl (x := x2) rfl ?_
  refine ev_aload_n 0 dX5_entryAt_51 rfl (x := 16) rfl ?_
  refine ev_getR dX5_entryAt_52 flX5_16 rfl rfl ?_
  refine ev_iload dX5_entryAt_55 (x := x5) rfl ?_
  obtain ⟨b1, H⟩ := H
  refine ev_iald dX5_entryAt_57 rfl b1 ?_
  refine ev_isub dX5_entryAt_58 ?_
  refine ev_istore_n 2 dX5_entryAt_59 rfl (by decide) ?_
  refine ev_L (L' := [(2, vI (x2 - (h.1 18 (Int32.toNatClampNeg x5)))), (0, vR 16), (3, vI x3), (4, vI x4), (5, vI x5)]) rfl ?_
  refine ev_iinc (x := x4) (v := 1) dX5_entryAt_60 rfl (by decide) (by decide) ?_
  refine ev_L (L' := [(4, vI (x4 + 1)), (2, vI (x2 - (h.1 18 (Int32.toNatClampNeg x5)))), (0, vR 16), (3, vI x3), (5, vI x5)]) rfl ?_
  refine ev_goto 10 dX5_entryAt_63 (by decide) ?_
  exact ev_sub (L' := [(0, vR 16), (2, vI (x2 - (h.1 18 (Int32.toNatClampNeg x5)))), (3, vI x3), (4, vI (x4 + 1))]) ⟨rfl, rfl, rfl, rfl, trivial⟩ H
set_option maxRecDepth 20000 in
theorem sX5_sizeOfLeafAt {h : Hp} {Q : Option AV → Hp → Prop} {x1 : Int32} (H : EvM mX5_listLeaves [vR 16] h (fun v h1 => ∃ r2 : Int32, v = some (vI r2) ∧ Ev mX5_sizeOfLeafAt 10 [(0, vR 16), (2, vI x1), (3, vI r2), (4, vI 0)] [] h1 Q)) : EvM mX5_sizeOfLeafAt [vR 16, vI x1] h Q := by
  refine evM_of (by decide) rfl (Nat.le_of_ble_eq_true rfl) ?_
  show Ev mX5_sizeOfLeafAt 0 [(0, vR 16), (1, vI x1)] [] h Q
  refine ev_iload_n 1 dX5_sizeOfLeafAt_0 rfl (x := x1) rfl ?_
  refine ev_istore_n 2 dX5_sizeOfLeafAt_1 rfl (by decide) ?_
  refine ev_L (L' := [(2, vI x1), (0, vR 16), (1, vI x1)]) rfl ?_
  refine ev_aload_n 0 dX5_sizeOfLeafAt_2 rfl (x := 16) rfl ?_
  refine ev_callV (As := []) (rest := []) dX5_sizeOfLeafAt_3 mlX5_105 rm_mX5_sizeOfLeafAt_mX5_listLeaves rfl rfl rfl rfl (Nat.le_of_ble_eq_true rfl) H (fun v h1 H => ?_)
  obtain ⟨r2, rfl, H⟩ := H
  show Ev mX5_sizeOfLeafAt 6 [(2, vI x1), (0, vR 16), (1, vI x1)] [vI r2] h1 Q
  refine ev_istore_n 3 dX5_sizeOfLeafAt_6 rfl (by decide) ?_
  refine ev_L (L' := [(3, vI r2), (2, vI x1), (0, vR 16), (1, vI x1)]) rfl ?_
  refine ev_iconst 0 dX5_sizeOfLeafAt_7 (by decide) ?_
  refine ev_istore dX5_sizeOfLeafAt_8 (by decide) ?_
  refine ev_L (L' := [(4, vI 0), (3, vI r2), (2, vI x1), (0, vR 16), (1, vI x1)]) rfl ?_
  exact ev_sub (L' := [(0, vR 16), (2, vI x1), (3, vI r2), (4, vI 0)]) ⟨rfl, rfl, rfl, rfl, trivial⟩ H
set_option maxRecDepth 20000 in
theorem sX5_sizeOfLeafAt_10 {h : Hp} {Q : Option AV → Hp → Prop} {x2 : Int32} {x3 : Int32} {x4 : Int32} (H : (((x3 ≤ x4) → Q (some (vI 0)) h) ∧ ((¬ x3 ≤ x4) → (vp_in x4 64 ∧ (vp_in (h.1 24 (Int32.toNatClampNeg x4)) 64 ∧ ((((h.1 18 (Int32.toNatClampNeg (h.1 24 (Int32.toNatClampNeg x4)))) ≤ x2) → (vp_in (h.1 24 (Int32.toNatClampNeg x4)) 64 ∧ Ev mX5_sizeOfLeafAt 10 [(0, vR 16), (2, vI (x2 - (h.1 18 (Int32.toNatClampNeg (h.1 24 (Int32.toNatClampNeg x4)))))), (3, vI x3), (4, vI (x4 + 1))] [] h Q)) ∧ ((¬ (h.1 18 (Int32.toNatClampNeg (h.1 24 (Int32.toNatClampNeg x4)))) ≤ x2) → (vp_in (h.1 24 (Int32.toNatClampNeg x4)) 64 ∧ Q (some (vI (h.1 18 (Int32.toNatClampNeg (h.1 24 (Int32.toNatClampNeg x4)))))) h)))))))) : Ev mX5_sizeOfLeafAt 10 [(0, vR 16), (2, vI x2), (3, vI x3), (4, vI x4)] [] h Q := by
  refine ev_iload dX5_sizeOfLeafAt_10 (x := x4) rfl ?_
  refine ev_iload_n 3 dX5_sizeOfLeafAt_12 rfl (x := x3) rfl ?_
  refine ev_icmp_ge 60 dX5_sizeOfLeafAt_13 (by decide) ⟨fun c1 => ?_, fun c1 => ?_⟩
  · have H := H.1 c1
    refine ev_iconst 0 dX5_sizeOfLeafAt_60 (by decide) ?_
    exact ev_iret dX5_sizeOfLeafAt_61 rfl H
  · have H := H.2 c1
    refine ev_aload_n 0 dX5_sizeOfLeafAt_16 rfl (x := 16) rfl ?_
    refine ev_getR dX5_sizeOfLeafAt_17 flX5_49 rfl rfl ?_
    refine ev_iload dX5_sizeOfLeafAt_20 (x := x4) rfl ?_
    obtain ⟨b2, H⟩ := H
    refine ev_iald dX5_sizeOfLeafAt_22 rfl b2 ?_
    refine ev_istore dX5_sizeOfLeafAt_23 (by decide) ?_
    refine ev_L (L' := [(5, vI (h.1 24 (Int32.toNatClampNeg x4))), (0, vR 16), (2, vI x2), (3, vI x3), (4, vI x4)]) rfl ?_
    refine ev_iload_n 2 dX5_sizeOfLeafAt_25 rfl (x := x2) rfl ?_
    refine ev_aload_n 0 dX5_sizeOfLeafAt_26 rfl (x := 16) rfl ?_
    refine ev_getR dX5_sizeOfLeafAt_27 flX5_16 rfl rfl ?_
    refine ev_iload dX5_sizeOfLeafAt_30 (x := (h.1 24 (Int32.toNatClampNeg x4))) rfl ?_
    obtain ⟨b3, H⟩ := H
    refine ev_iald dX5_sizeOfLeafAt_32 rfl b3 ?_
    refine ev_icmp_ge 44 dX5_sizeOfLeafAt_33 (by decide) ⟨fun c4 => ?_, fun c4 => ?_⟩
    · have H := H.1 c4
      refine ev_iload_n 2 dX5_sizeOfLeafAt_44 rfl (x := x2) rfl ?_
      refine ev_aload_n 0 dX5_sizeOfLeafAt_45 rfl (x := 16) rfl ?_
      refine ev_getR dX5_sizeOfLeafAt_46 flX5_16 rfl rfl ?_
      refine ev_iload dX5_sizeOfLeafAt_49 (x := (h.1 24 (Int32.toNatClampNeg x4))) rfl ?_
      obtain ⟨b5, H⟩ := H
      refine ev_iald dX5_sizeOfLeafAt_51 rfl b5 ?_
      refine ev_isub dX5_sizeOfLeafAt_52 ?_
      refine ev_istore_n 2 dX5_sizeOfLeafAt_53 rfl (by decide) ?_
      refine ev_L (L' := [(2, vI (x2 - (h.1 18 (Int32.toNatClampNeg (h.1 24 (Int32.toNatClampNeg x4)))))), (5, vI (h.1 24 (Int32.toNatClampNeg x4))), (0, vR 16), (3, vI x3), (4, vI x4)]) rfl ?_
      refine ev_iinc (x := x4) (v := 1) dX5_sizeOfLeafAt_54 rfl (by decide) (by decide) ?_
      refine ev_L (L' := [(4, vI (x4 + 1)), (2, vI (x2 - (h.1 18 (Int32.toNatClampNeg (h.1 24 (Int32.toNatClampNeg x4)))))), (5, vI (h.1 24 (Int32.toNatClampNeg x4))), (0, vR 16), (3, vI x3)]) rfl ?_
      refine ev_goto 10 dX5_sizeOfLeafAt_57 (by decide) ?_
      exact ev_sub (L' := [(0, vR 16), (2, vI (x2 - (h.1 18 (Int32.toNatClampNeg (h.1 24 (Int32.toNatClampNeg x4)))))), (3, vI x3), (4, vI (x4 + 1))]) ⟨rfl, rfl, rfl, rfl, trivial⟩ H
    · have H := H.2 c4
      refine ev_aload_n 0 dX5_sizeOfLeafAt_36 rfl (x := 16) rfl ?_
      refine ev_getR dX5_sizeOfLeafAt_37 flX5_16 rfl rfl ?_
      refine ev_iload dX5_sizeOfLeafAt_40 (x := (h.1 24 (Int32.toNatClampNeg x4))) rfl ?_
      obtain ⟨b6, H⟩ := H
      refine ev_iald dX5_sizeOfLeafAt_42 rfl b6 ?_
      exact ev_iret dX5_sizeOfLeafAt_43 rfl H
set_option maxRecDepth 20000 in
theorem sX5_firstTwin {h : Hp} {Q : Option AV → Hp → Prop} (H : EvM mX5_listLeaves [vR 16] h (fun v h1 => ∃ r2 : Int32, v = some (vI r2) ∧ Ev mX5_firstTwin 12 [(0, vR 16), (1, vI r2), (2, vI 0), (3, vL 0), (5, vI 0)] [] h1 Q)) : EvM mX5_firstTwin [vR 16] h Q := by
  refine evM_of (by decide) rfl (Nat.le_of_ble_eq_true rfl) ?_
  show Ev mX5_firstTwin 0 [(0, vR 16)] [] h Q
  refine ev_aload_n 0 dX5_firstTwin_0 rfl (x := 16) rfl ?_
  refine ev_callV (As := []) (rest := []) dX5_firstTwin_1 mlX5_105 rm_mX5_firstTwin_mX5_listLeaves rfl rfl rfl rfl (Nat.le_of_ble_eq_true rfl) H (fun v h1 H => ?_)
  obtain ⟨r2, rfl, H⟩ := H
  show Ev mX5_firstTwin 4 [(0, vR 16)] [vI r2] h1 Q
  refine ev_istore_n 1 dX5_firstTwin_4 rfl (by decide) ?_
  refine ev_L (L' := [(1, vI r2), (0, vR 16)]) rfl ?_
  refine ev_iconst 0 dX5_firstTwin_5 (by decide) ?_
  refine ev_istore_n 2 dX5_firstTwin_6 rfl (by decide) ?_
  refine ev_L (L' := [(2, vI 0), (1, vI r2), (0, vR 16)]) rfl ?_
  refine ev_lconst 0 dX5_firstTwin_7 (by decide) ?_
  refine ev_lstore_n 3 dX5_firstTwin_8 rfl (by decide) ?_
  refine ev_L (L' := [(3, vL 0), (2, vI 0), (1, vI r2), (0, vR 16)]) rfl ?_
  refine ev_iconst 0 dX5_firstTwin_9 (by decide) ?_
  refine ev_istore dX5_firstTwin_10 (by decide) ?_
  refine ev_L (L' := [(5, vI 0), (3, vL 0), (2, vI 0), (1, vI r2), (0, vR 16)]) rfl ?_
  exact ev_sub (L' := [(0, vR 16), (1, vI r2), (2, vI 0), (3, vL 0), (5, vI 0)]) ⟨rfl, rfl, rfl, rfl, rfl, trivial⟩ H
set_option maxRecDepth 20000 in
theorem sX5_firstTwin_12 {h : Hp} {Q : Option AV → Hp → Prop} {x1 : Int32} {x2 : Int32} {x3 : Int64} {x5 : Int32} (H : (((x1 ≤ x5) → Q (some (vI (-1))) h) ∧ ((¬ x1 ≤ x5) → (vp_in x5 64 ∧ Ev mX5_firstTwin 30 [(0, vR 16), (1, vI x1), (2, vI x2), (3, vL x3), (5, vI x5), (6, vI (h.1 24 (Int32.toNatClampNeg x5))), (7, vI 0)] [] h Q)))) : Ev mX5_firstTwin 12 [(0, vR 16), (1, vI x1), (2, vI x2), (3, vL x3), (5, vI x5)] [] h Q := by
  refine ev_iload dX5_firstTwin_12 (x := x5) rfl ?_
  refine ev_iload_n 1 dX5_firstTwin_14 rfl (x := x1) rfl ?_
  refine ev_icmp_ge 92 dX5_firstTwin_15 (by decide) ⟨fun c1 => ?_, fun c1 => ?_⟩
  · have H := H.1 c1
    refine ev_iconst (-1) dX5_firstTwin_92 (by decide) ?_
    exact ev_iret dX5_firstTwin_93 rfl H
  · have H := H.2 c1
    refine ev_aload_n 0 dX5_firstTwin_18 rfl (x := 16) rfl ?_
    refine ev_getR dX5_firstTwin_19 flX5_49 rfl rfl ?_
    refine ev_iload dX5_firstTwin_22 (x := x5) rfl ?_
    obtain ⟨b2, H⟩ := H
    refine ev_iald dX5_firstTwin_24 rfl b2 ?_
    refine ev_istore dX5_firstTwin_25 (by decide) ?_
    refine ev_L (L' := [(6, vI (h.1 24 (Int32.toNatClampNeg x5))), (0, vR 16), (1, vI x1), (2, vI x2), (3, vL x3), (5, vI x5)]) rfl ?_
    refine ev_iconst 0 dX5_firstTwin_27 (by decide) ?_
    refine ev_istore dX5_firstTwin_28 (by decide) ?_
    refine ev_L (L' := [(7, vI 0), (6, vI (h.1 24 (Int32.toNatClampNeg x5))), (0, vR 16), (1, vI x1), (2, vI x2), (3, vL x3), (5, vI x5)]) rfl ?_
    exact ev_sub (L' := [(0, vR 16), (1, vI x1), (2, vI x2), (3, vL x3), (5, vI x5), (6, vI (h.1 24 (Int32.toNatClampNeg x5))), (7, vI 0)]) ⟨rfl, rfl, rfl, rfl, rfl, rfl, rfl, trivial⟩ H
set_option maxRecDepth 20000 in
theorem sX5_firstTwin_30 {h : Hp} {Q : Option AV → Hp → Prop} {x1 : Int32} {x2 : Int32} {x3 : Int64} {x5 : Int32} {x6 : Int32} {x7 : Int32} (H : (vp_in x6 64 ∧ ((((h.1 18 (Int32.toNatClampNeg x6)) ≤ x7) → Ev mX5_firstTwin 12 [(0, vR 16), (1, vI x1), (2, vI x2), (3, vL x3), (5, vI (x5 + 1))] [] h Q) ∧ ((¬ (h.1 18 (Int32.toNatClampNeg x6)) ≤ x7) → (vp_in x6 64 ∧ (vp_in x7 9 ∧ (((x2 ≤ 0) → Ev mX5_firstTwin 30 [(0, vR 16), (1, vI x1), (2, vI (x2 + 1)), (3, vL (h.2.2 (Int32.toNatClampNeg x6) (Int32.toNatClampNeg x7))), (5, vI x5), (6, vI x6), (7, vI (x7 + 1))] [] h Q) ∧ ((¬ x2 ≤ 0) → EvM mX6_keyOf [vL x3] h (fun v h6 => ∃ r7 : Int32, v = some (vI r7) ∧ EvM mX6_keyOf [vL (h.2.2 (Int32.toNatClampNeg x6) (Int32.toNatClampNeg x7))] h6 (fun v h8 => ∃ r9 : Int32, v = some (vI r9) ∧ (((¬ r7 = r9) → Ev mX5_firstTwin 30 [(0, vR 16), (1, vI x1), (2, vI (x2 + 1)), (3, vL (h.2.2 (Int32.toNatClampNeg x6) (Int32.toNatClampNeg x7))), (5, vI x5), (6, vI x6), (7, vI (x7 + 1))] [] h8 Q) ∧ ((r7 = r9) → Q (some (vI (x2 - 1))) h8)))))))))))) : Ev mX5_firstTwin 30 [(0, vR 16), (1, vI x1), (2, vI x2), (3, vL x3), (5, vI x5), (6, vI x6), (7, vI x7)] [] h Q := by
  refine ev_iload dX5_firstTwin_30 (x := x7) rfl ?_
  refine ev_aload_n 0 dX5_firstTwin_32 rfl (x := 16) rfl ?_
  refine ev_getR dX5_firstTwin_33 flX5_16 rfl rfl ?_
  refine ev_iload dX5_firstTwin_36 (x := x6) rfl ?_
  obtain ⟨b1, H⟩ := H
  refine ev_iald dX5_firstTwin_38 rfl b1 ?_
  refine ev_icmp_ge 86 dX5_firstTwin_39 (by decide) ⟨fun c2 => ?_, fun c2 => ?_⟩
  · have H := H.1 c2
    refine ev_iinc (x := x5) (v := 1) dX5_firstTwin_86 rfl (by decide) (by decide) ?_
    refine ev_L (L' := [(5, vI (x5 + 1)), (0, vR 16), (1, vI x1), (2, vI x2), (3, vL x3), (6, vI x6), (7, vI x7)]) rfl ?_
    refine ev_goto 12 dX5_firstTwin_89 (by decide) ?_
    exact ev_sub (L' := [(0, vR 16), (1, vI x1), (2, vI x2), (3, vL x3), (5, vI (x5 + 1))]) ⟨rfl, rfl, rfl, rfl, rfl, trivial⟩ H
  · have H := H.2 c2
    refine ev_aload_n 0 dX5_firstTwin_42 rfl (x := 16) rfl ?_
    refine ev_getR dX5_firstTwin_43 flX5_11 rfl rfl ?_
    refine ev_iload dX5_firstTwin_46 (x := x6) rfl ?_
    obtain ⟨b3, H⟩ := H
    refine ev_gald dX5_firstTwin_48 rfl b3 ?_
    refine ev_iload dX5_firstTwin_49 (x := x7) rfl ?_
    obtain ⟨b4, H⟩ := H
    refine ev_rald dX5_firstTwin_51 (vp_lt b3) b4 ?_
    refine ev_lstore dX5_firstTwin_52 (by decide) ?_
    refine ev_L (L' := [(8, vL (h.2.2 (Int32.toNatClampNeg x6) (Int32.toNatClampNeg x7))), (0, vR 16), (1, vI x1), (2, vI x2), (3, vL x3), (5, vI x5), (6, vI x6), (7, vI x7)]) rfl ?_
    refine ev_iload_n 2 dX5_firstTwin_54 rfl (x := x2) rfl ?_
    refine ev_if_le 74 dX5_firstTwin_55 (by decide) ⟨fun c5 => ?_, fun c5 => ?_⟩
    · have H := H.1 c5
      refine ev_lload dX5_firstTwin_74 (x := (h.2.2 (Int32.toNatClampNeg x6) (Int32.toNatClampNeg x7))) rfl ?_
      refine ev_lstore_n 3 dX5_firstTwin_76 rfl (by decide) ?_
      refine ev_L (L' := [(3, vL (h.2.2 (Int32.toNatClampNeg x6) (Int32.toNatClampNeg x7))), (8, vL (h.2.2 (Int32.toNatClampNeg x6) (Int32.toNatClampNeg x7))), (0, vR 16), (1, vI x1), (2, vI x2), (5, vI x5), (6, vI x6), (7, vI x7)]) rfl ?_
      refine ev_iinc (x := x2) (v := 1) dX5_firstTwin_77 rfl (by decide) (by decide) ?_
      refine ev_L (L' := [(2, vI (x2 + 1)), (3, vL (h.2.2 (Int32.toNatClampNeg x6) (Int32.toNatClampNeg x7))), (8, vL (h.2.2 (Int32.toNatClampNeg x6) (Int32.toNatClampNeg x7))), (0, vR 16), (1, vI x1), (5, vI x5), (6, vI x6), (7, vI x7)]) rfl ?_
      refine ev_iinc (x := x7) (v := 1) dX5_firstTwin_80 rfl (by decide) (by decide) ?_
      refine ev_L (L' := [(7, vI (x7 + 1)), (2, vI (x2 + 1)), (3, vL (h.2.2 (Int32.toNatClampNeg x6) (Int32.toNatClampNeg x7))), (8, vL (h.2.2 (Int32.toNatClampNeg x6) (Int32.toNatClampNeg x7))), (0, vR 16), (1, vI x1), (5, vI x5), (6, vI x6)]) rfl ?_
      refine ev_goto 30 dX5_firstTwin_83 (by decide) ?_
      exact ev_sub (L' := [(0, vR 16), (1, vI x1), (2, vI (x2 + 1)), (3, vL (h.2.2 (Int32.toNatClampNeg x6) (Int32.toNatClampNeg x7))), (5, vI x5), (6, vI x6), (7, vI (x7 + 1))]) ⟨rfl, rfl, rfl, rfl, rfl, rfl, rfl, trivial⟩ H
    · have H := H.2 c5
      refine ev_lload_n 3 dX5_firstTwin_58 rfl (x := x3) rfl ?_
      refine ev_callN (As := [vL x3]) (rest := []) dX5_firstTwin_59 mlX5_108 rm_mX5_firstTwin_mX6_keyOf rfl rfl (Nat.le_of_ble_eq_true rfl) H (fun v h6 H => ?_)
      obtain ⟨r7, rfl, H⟩ := H
      show Ev mX5_firstTwin 62 [(8, vL (h.2.2 (Int32.toNatClampNeg x6) (Int32.toNatClampNeg x7))), (0, vR 16), (1, vI x1), (2, vI x2), (3, vL x3), (5, vI x5), (6, vI x6), (7, vI x7)] [vI r7] h6 Q
      refine ev_lload dX5_firstTwin_62 (x := (h.2.2 (Int32.toNatClampNeg x6) (Int32.toNatClampNeg x7))) rfl ?_
      refine ev_callN (As := [vL (h.2.2 (Int32.toNatClampNeg x6) (Int32.toNatClampNeg x7))]) (rest := [vI r7]) dX5_firstTwin_64 mlX5_108 rm_mX5_firstTwin_mX6_keyOf rfl rfl (Nat.le_of_ble_eq_true rfl) H (fun v h8 H => ?_)
      obtain ⟨r9, rfl, H⟩ := H
      show Ev mX5_firstTwin 67 [(8, vL (h.2.2 (Int32.toNatClampNeg x6) (Int32.toNatClampNeg x7))), (0, vR 16), (1, vI x1), (2, vI x2), (3, vL x3), (5, vI x5), (6, vI x6), (7, vI x7)] [vI r9, vI r7] h8 Q
      refine ev_icmp_ne 74 dX5_firstTwin_67 (by decide) ⟨fun c10 => ?_, fun c10 => ?_⟩
      · have H := H.1 c10
        refine ev_lload dX5_firstTwin_74 (x := (h.2.2 (Int32.toNatClampNeg x6) (Int32.toNatClampNeg x7))) rfl ?_
        refine ev_lstore_n 3 dX5_firstTwin_76 rfl (by decide) ?_
        refine ev_L (L' := [(3, vL (h.2.2 (Int32.toNatClampNeg x6) (Int32.toNatClampNeg x7))), (8, vL (h.2.2 (Int32.toNatClampNeg x6) (Int32.toNatClampNeg x7))), (0, vR 16), (1, vI x1), (2, vI x2), (5, vI x5), (6, vI x6), (7, vI x7)]) rfl ?_
        refine ev_iinc (x := x2) (v := 1) dX5_firstTwin_77 rfl (by decide) (by decide) ?_
        refine ev_L (L' := [(2, vI (x2 + 1)), (3, vL (h.2.2 (Int32.toNatClampNeg x6) (Int32.toNatClampNeg x7))), (8, vL (h.2.2 (Int32.toNatClampNeg x6) (Int32.toNatClampNeg x7))), (0, vR 16), (1, vI x1), (5, vI x5), (6, vI x6), (7, vI x7)]) rfl ?_
        refine ev_iinc (x := x7) (v := 1) dX5_firstTwin_80 rfl (by decide) (by decide) ?_
        refine ev_L (L' := [(7, vI (x7 + 1)), (2, vI (x2 + 1)), (3, vL (h.2.2 (Int32.toNatClampNeg x6) (Int32.toNatClampNeg x7))), (8, vL (h.2.2 (Int32.toNatClampNeg x6) (Int32.toNatClampNeg x7))), (0, vR 16), (1, vI x1), (5, vI x5), (6, vI x6)]) rfl ?_
        refine ev_goto 30 dX5_firstTwin_83 (by decide) ?_
        exact ev_sub (L' := [(0, vR 16), (1, vI x1), (2, vI (x2 + 1)), (3, vL (h.2.2 (Int32.toNatClampNeg x6) (Int32.toNatClampNeg x7))), (5, vI x5), (6, vI x6), (7, vI (x7 + 1))]) ⟨rfl, rfl, rfl, rfl, rfl, rfl, rfl, trivial⟩ H
      · have H := H.2 c10
        refine ev_iload_n 2 dX5_firstTwin_70 rfl (x := x2) rfl ?_
        refine ev_iconst 1 dX5_firstTwin_71 (by decide) ?_
        refine ev_isub dX5_firstTwin_72 ?_
        exact ev_iret dX5_firstTwin_73 rfl H
set_option maxRecDepth 20000 in
theorem sX5_tell {h : Hp} {Q : Option AV → Hp → Prop} {x1 : Int32} {x2 : Int32} (H : EvM mX5_listLeaves [vR 16] h (fun v h1 => ∃ r2 : Int32, v = some (vI r2) ∧ Ev mX5_tell 12 [(0, vR 16), (1, vI x1), (2, vI x2), (3, vR 26), (4, vI r2), (5, vI 0), (6, vI 0)] [] h1 Q)) : EvM mX5_tell [vR 16, vI x1, vI x2, vR 26] h Q := by
  refine evM_of (by decide) rfl (Nat.le_of_ble_eq_true rfl) ?_
  show Ev mX5_tell 0 [(0, vR 16), (1, vI x1), (2, vI x2), (3, vR 26)] [] h Q
  refine ev_aload_n 0 dX5_tell_0 rfl (x := 16) rfl ?_
  refine ev_callV (As := []) (rest := []) dX5_tell_1 mlX5_105 rm_mX5_tell_mX5_listLeaves rfl rfl rfl rfl (Nat.le_of_ble_eq_true rfl) H (fun v h1 H => ?_)
  obtain ⟨r2, rfl, H⟩ := H
  show Ev mX5_tell 4 [(0, vR 16), (1, vI x1), (2, vI x2), (3, vR 26)] [vI r2] h1 Q
  refine ev_istore dX5_tell_4 (by decide) ?_
  refine ev_L (L' := [(4, vI r2), (0, vR 16), (1, vI x1), (2, vI x2), (3, vR 26)]) rfl ?_
  refine ev_iconst 0 dX5_tell_6 (by decide) ?_
  refine ev_istore dX5_tell_7 (by decide) ?_
  refine ev_L (L' := [(5, vI 0), (4, vI r2), (0, vR 16), (1, vI x1), (2, vI x2), (3, vR 26)]) rfl ?_
  refine ev_iconst 0 dX5_tell_9 (by decide) ?_
  refine ev_istore dX5_tell_10 (by decide) ?_
  refine ev_L (L' := [(6, vI 0), (5, vI 0), (4, vI r2), (0, vR 16), (1, vI x1), (2, vI x2), (3, vR 26)]) rfl ?_
  exact ev_sub (L' := [(0, vR 16), (1, vI x1), (2, vI x2), (3, vR 26), (4, vI r2), (5, vI 0), (6, vI 0)]) ⟨rfl, rfl, rfl, rfl, rfl, rfl, rfl, trivial⟩ H
set_option maxRecDepth 20000 in
theorem sX5_tell_12 {h : Hp} {Q : Option AV → Hp → Prop} {x1 : Int32} {x2 : Int32} {x4 : Int32} {x5 : Int32} {x6 : Int32} (H : (((x4 ≤ x6) → Q (some (vI x5)) h) ∧ ((¬ x4 ≤ x6) → (vp_in x6 64 ∧ Ev mX5_tell 31 [(0, vR 16), (1, vI x1), (2, vI x2), (3, vR 26), (4, vI x4), (5, vI x5), (6, vI x6), (7, vI (h.1 24 (Int32.toNatClampNeg x6))), (8, vI 0)] [] h Q)))) : Ev mX5_tell 12 [(0, vR 16), (1, vI x1), (2, vI x2), (3, vR 26), (4, vI x4), (5, vI x5), (6, vI x6)] [] h Q := by
  refine ev_iload dX5_tell_12 (x := x6) rfl ?_
  refine ev_iload dX5_tell_14 (x := x4) rfl ?_
  refine ev_icmp_ge 109 dX5_tell_16 (by decide) ⟨fun c1 => ?_, fun c1 => ?_⟩
  · have H := H.1 c1
    refine ev_iload dX5_tell_109 (x := x5) rfl ?_
    exact ev_iret dX5_tell_111 rfl H
  · have H := H.2 c1
    refine ev_aload_n 0 dX5_tell_19 rfl (x := 16) rfl ?_
    refine ev_getR dX5_tell_20 flX5_49 rfl rfl ?_
    refine ev_iload dX5_tell_23 (x := x6) rfl ?_
    obtain ⟨b2, H⟩ := H
    refine ev_iald dX5_tell_25 rfl b2 ?_
    refine ev_istore dX5_tell_26 (by decide) ?_
    refine ev_L (L' := [(7, vI (h.1 24 (Int32.toNatClampNeg x6))), (0, vR 16), (1, vI x1), (2, vI x2), (3, vR 26), (4, vI x4), (5, vI x5), (6, vI x6)]) rfl ?_
    refine ev_iconst 0 dX5_tell_28 (by decide) ?_
    refine ev_istore dX5_tell_29 (by decide) ?_
    refine ev_L (L' := [(8, vI 0), (7, vI (h.1 24 (Int32.toNatClampNeg x6))), (0, vR 16), (1, vI x1), (2, vI x2), (3, vR 26), (4, vI x4), (5, vI x5), (6, vI x6)]) rfl ?_
    exact ev_sub (L' := [(0, vR 16), (1, vI x1), (2, vI x2), (3, vR 26), (4, vI x4), (5, vI x5), (6, vI x6), (7, vI (h.1 24 (Int32.toNatClampNeg x6))), (8, vI 0)]) ⟨rfl, rfl, rfl, rfl, rfl, rfl, rfl, rfl, rfl, trivial⟩ H
set_option maxRecDepth 20000 in
theorem sX5_tell_31 {h : Hp} {Q : Option AV → Hp → Prop} {x1 : Int32} {x2 : Int32} {x4 : Int32} {x5 : Int32} {x6 : Int32} {x7 : Int32} {x8 : Int32} (H : (vp_in x7 64 ∧ ((((h.1 18 (Int32.toNatClampNeg x7)) ≤ x8) → Ev mX5_tell 12 [(0, vR 16), (1, vI x1), (2, vI x2), (3, vR 26), (4, vI x4), (5, vI x5), (6, vI (x6 + 1))] [] h Q) ∧ ((¬ (h.1 18 (Int32.toNatClampNeg x7)) ≤ x8) → (((240 ≤ x5) → Ev mX5_tell 12 [(0, vR 16), (1, vI x1), (2, vI x2), (3, vR 26), (4, vI x4), (5, vI x5), (6, vI (x6 + 1))] [] h Q) ∧ ((¬ 240 ≤ x5) → (vp_in x7 64 ∧ (vp_in x8 9 ∧ EvM mX6_keyOf [vL (h.2.2 (Int32.toNatClampNeg x7) (Int32.toNatClampNeg x8))] h (fun v h6 => ∃ r7 : Int32, v = some (vI r7) ∧ (((r7 < x1) → Ev mX5_tell 31 [(0, vR 16), (1, vI x1), (2, vI x2), (3, vR 26), (4, vI x4), (5, vI x5), (6, vI x6), (7, vI x7), (8, vI (x8 + 1))] [] h6 Q) ∧ ((¬ r7 < x1) → (((x2 < r7) → Ev mX5_tell 31 [(0, vR 16), (1, vI x1), (2, vI x2), (3, vR 26), (4, vI x4), (5, vI x5), (6, vI x6), (7, vI x7), (8, vI (x8 + 1))] [] h6 Q) ∧ ((¬ x2 < r7) → (vp_in x7 64 ∧ (vp_in x8 9 ∧ EvM mX6_placeOf [vL (h6.2.2 (Int32.toNatClampNeg x7) (Int32.toNatClampNeg x8))] h6 (fun v h12 => ∃ r13 : Int32, v = some (vI r13) ∧ (vp_in x5 240 ∧ (∀ h15 : Hp, h15 = sI h12 26 (upd (h12.1 26) (Int32.toNatClampNeg x5) r13) → Ev mX5_tell 31 [(0, vR 16), (1, vI x1), (2, vI x2), (3, vR 26), (4, vI x4), (5, vI (x5 + 1)), (6, vI x6), (7, vI x7), (8, vI (x8 + 1))] [] h15 Q)))))))))))))))))) : Ev mX5_tell 31 [(0, vR 16), (1, vI x1), (2, vI x2), (3, vR 26), (4, vI x4), (5, vI x5), (6, vI x6), (7, vI x7), (8, vI x8)] [] h Q := by
  refine ev_iload dX5_tell_31 (x := x8) rfl ?_
  refine ev_aload_n 0 dX5_tell_33 rfl (x := 16) rfl ?_
  refine ev_getR dX5_tell_34 flX5_16 rfl rfl ?_
  refine ev_iload dX5_tell_37 (x := x7) rfl ?_
  obtain ⟨b1, H⟩ := H
  refine ev_iald dX5_tell_39 rfl b1 ?_
  refine ev_icmp_ge 103 dX5_tell_40 (by decide) ⟨fun c2 => ?_, fun c2 => ?_⟩
  · have H := H.1 c2
    refine ev_iinc (x := x6) (v := 1) dX5_tell_103 rfl (by decide) (by decide) ?_
    refine ev_L (L' := [(6, vI (x6 + 1)), (0, vR 16), (1, vI x1), (2, vI x2), (3, vR 26), (4, vI x4), (5, vI x5), (7, vI x7), (8, vI x8)]) rfl ?_
    refine ev_goto 12 dX5_tell_106 (by decide) ?_
    exact ev_sub (L' := [(0, vR 16), (1, vI x1), (2, vI x2), (3, vR 26), (4, vI x4), (5, vI x5), (6, vI (x6 + 1))]) ⟨rfl, rfl, rfl, rfl, rfl, rfl, rfl, trivial⟩ H
  · have H := H.2 c2
    refine ev_iload dX5_tell_43 (x := x5) rfl ?_
    refine ev_aload_n 3 dX5_tell_45 rfl (x := 26) rfl ?_
    refine ev_alen 240 dX5_tell_46 rfl (by decide) (by decide) (by decide) ?_
    refine ev_icmp_ge 103 dX5_tell_47 (by decide) ⟨fun c3 => ?_, fun c3 => ?_⟩
    · have H := H.1 c3
      refine ev_iinc (x := x6) (v := 1) dX5_tell_103 rfl (by decide) (by decide) ?_
      refine ev_L (L' := [(6, vI (x6 + 1)), (0, vR 16), (1, vI x1), (2, vI x2), (3, vR 26), (4, vI x4), (5, vI x5), (7, vI x7), (8, vI x8)]) rfl ?_
      refine ev_goto 12 dX5_tell_106 (by decide) ?_
      exact ev_sub (L' := [(0, vR 16), (1, vI x1), (2, vI x2), (3, vR 26), (4, vI x4), (5, vI x5), (6, vI (x6 + 1))]) ⟨rfl, rfl, rfl, rfl, rfl, rfl, rfl, trivial⟩ H
    · have H := H.2 c3
      refine ev_aload_n 0 dX5_tell_50 rfl (x := 16) rfl ?_
      refine ev_getR dX5_tell_51 flX5_11 rfl rfl ?_
      refine ev_iload dX5_tell_54 (x := x7) rfl ?_
      obtain ⟨b4, H⟩ := H
      refine ev_gald dX5_tell_56 rfl b4 ?_
      refine ev_iload dX5_tell_57 (x := x8) rfl ?_
      obtain ⟨b5, H⟩ := H
      refine ev_rald dX5_tell_59 (vp_lt b4) b5 ?_
      refine ev_callN (As := [vL (h.2.2 (Int32.toNatClampNeg x7) (Int32.toNatClampNeg x8))]) (rest := []) dX5_tell_60 mlX5_108 rm_mX5_tell_mX6_keyOf rfl rfl (Nat.le_of_ble_eq_true rfl) H (fun v h6 H => ?_)
      obtain ⟨r7, rfl, H⟩ := H
      show Ev mX5_tell 63 [(0, vR 16), (1, vI x1), (2, vI x2), (3, vR 26), (4, vI x4), (5, vI x5), (6, vI x6), (7, vI x7), (8, vI x8)] [vI r7] h6 Q
      refine ev_istore dX5_tell_63 (by decide) ?_
      refine ev_L (L' := [(9, vI r7), (0, vR 16), (1, vI x1), (2, vI x2), (3, vR 26), (4, vI x4), (5, vI x5), (6, vI x6), (7, vI x7), (8, vI x8)]) rfl ?_
      refine ev_iload dX5_tell_65 (x := r7) rfl ?_
      refine ev_iload_n 1 dX5_tell_67 rfl (x := x1) rfl ?_
      refine ev_icmp_lt 97 dX5_tell_68 (by decide) ⟨fun c8 => ?_, fun c8 => ?_⟩
      · have H := H.1 c8
        refine ev_iinc (x := x8) (v := 1) dX5_tell_97 rfl (by decide) (by decide) ?_
        refine ev_L (L' := [(8, vI (x8 + 1)), (9, vI r7), (0, vR 16), (1, vI x1), (2, vI x2), (3, vR 26), (4, vI x4), (5, vI x5), (6, vI x6), (7, vI x7)]) rfl ?_
        refine ev_goto 31 dX5_tell_100 (by decide) ?_
        exact ev_sub (L' := [(0, vR 16), (1, vI x1), (2, vI x2), (3, vR 26), (4, vI x4), (5, vI x5), (6, vI x6), (7, vI x7), (8, vI (x8 + 1))]) ⟨rfl, rfl, rfl, rfl, rfl, rfl, rfl, rfl, rfl, trivial⟩ H
      · have H := H.2 c8
        refine ev_iload dX5_tell_71 (x := r7) rfl ?_
        refine ev_iload_n 2 dX5_tell_73 rfl (x := x2) rfl ?_
        refine ev_icmp_gt 97 dX5_tell_74 (by decide) ⟨fun c9 => ?_, fun c9 => ?_⟩
        · have H := H.1 c9
          refine ev_iinc (x := x8) (v := 1) dX5_tell_97 rfl (by decide) (by decide) ?_
          refine ev_L (L' := [(8, vI (x8 + 1)), (9, vI r7), (0, vR 16), (1, vI x1), (2, vI x2), (3, vR 26), (4, vI x4), (5, vI x5), (6, vI x6), (7, vI x7)]) rfl ?_
          refine ev_goto 31 dX5_tell_100 (by decide) ?_
          exact ev_sub (L' := [(0, vR 16), (1, vI x1), (2, vI x2), (3, vR 26), (4, vI x4), (5, vI x5), (6, vI x6), (7, vI x7), (8, vI (x8 + 1))]) ⟨rfl, rfl, rfl, rfl, rfl, rfl, rfl, rfl, rfl, trivial⟩ H
        · have H := H.2 c9
          refine ev_aload_n 3 dX5_tell_77 rfl (x := 26) rfl ?_
          refine ev_iload dX5_tell_78 (x := x5) rfl ?_
          refine ev_aload_n 0 dX5_tell_80 rfl (x := 16) rfl ?_
          refine ev_getR dX5_tell_81 flX5_11 rfl rfl ?_
          refine ev_iload dX5_tell_84 (x := x7) rfl ?_
          obtain ⟨b10, H⟩ := H
          refine ev_gald dX5_tell_86 rfl b10 ?_
          refine ev_iload dX5_tell_87 (x := x8) rfl ?_
          obtain ⟨b11, H⟩ := H
          refine ev_rald dX5_tell_89 (vp_lt b10) b11 ?_
          refine ev_callN (As := [vL (h6.2.2 (Int32.toNatClampNeg x7) (Int32.toNatClampNeg x8))]) (rest := [vI x5, vR 26]) dX5_tell_90 mlX5_112 rm_mX5_tell_mX6_placeOf rfl rfl (Nat.le_of_ble_eq_true rfl) H (fun v h12 H => ?_)
          obtain ⟨r13, rfl, H⟩ := H
          show Ev mX5_tell 93 [(9, vI r7), (0, vR 16), (1, vI x1), (2, vI x2), (3, vR 26), (4, vI x4), (5, vI x5), (6, vI x6), (7, vI x7), (8, vI x8)] [vI r13, vI x5, vR 26] h12 Q
          obtain ⟨b14, H⟩ := H
          refine ev_iast dX5_tell_93 rfl b14  ?_
          obtain ⟨h15, eh15⟩ : ∃ z : Hp, z = sI h12 26 (upd (h12.1 26) (Int32.toNatClampNeg x5) r13) := ⟨_, rfl⟩
          rw [← eh15]
          have H := H h15 eh15
          refine ev_iinc (x := x5) (v := 1) dX5_tell_94 rfl (by decide) (by decide) ?_
          refine ev_L (L' := [(5, vI (x5 + 1)), (9, vI r7), (0, vR 16), (1, vI x1), (2, vI x2), (3, vR 26), (4, vI x4), (6, vI x6), (7, vI x7), (8, vI x8)]) rfl ?_
          refine ev_iinc (x := x8) (v := 1) dX5_tell_97 rfl (by decide) (by decide) ?_
          refine ev_L (L' := [(8, vI (x8 + 1)), (5, vI (x5 + 1)), (9, vI r7), (0, vR 16), (1, vI x1), (2, vI x2), (3, vR 26), (4, vI x4), (6, vI x6), (7, vI x7)]) rfl ?_
          refine ev_goto 31 dX5_tell_100 (by decide) ?_
          exact ev_sub (L' := [(0, vR 16), (1, vI x1), (2, vI x2), (3, vR 26), (4, vI x4), (5, vI (x5 + 1)), (6, vI x6), (7, vI x7), (8, vI (x8 + 1))]) ⟨rfl, rfl, rfl, rfl, rfl, rfl, rfl, rfl, rfl, trivial⟩ H
set_option maxRecDepth 20000 in
theorem sX5_costOf {h : Hp} {Q : Option AV → Hp → Prop} {x1 : Int32} {x2 : Int32} (H : EvM mX6_entryOf [vI x1, vI 0] h (fun v h1 => ∃ r2 : Int64, v = some (vL r2) ∧ EvM mX5_goDown [vR 16, vL r2] h1 (fun v h3 => v = none ∧ (vp_in (h3.1 16 10) 64 ∧ EvM mX5_listLeaves [vR 16] h3 (fun v h5 => ∃ r6 : Int32, v = some (vI r6) ∧ Ev mX5_costOf 39 [(0, vR 16), (2, vI x2), (3, vI (h3.1 22 (Int32.toNatClampNeg (h3.1 16 10)))), (4, vI ((h3.1 16 10) + 1)), (5, vI r6), (6, vI 0), (7, vI 0)] [] h5 Q))))) : EvM mX5_costOf [vR 16, vI x1, vI x2] h Q := by
  refine evM_of (by decide) rfl (Nat.le_of_ble_eq_true rfl) ?_
  show Ev mX5_costOf 0 [(0, vR 16), (1, vI x1), (2, vI x2)] [] h Q
  refine ev_aload_n 0 dX5_costOf_0 rfl (x := 16) rfl ?_
  refine ev_iload_n 1 dX5_costOf_1 rfl (x := x1) rfl ?_
  refine ev_iconst 0 dX5_costOf_2 (by decide) ?_
  refine ev_callN (As := [vI x1, vI 0]) (rest := [vR 16]) dX5_costOf_3 mlX5_115 rm_mX5_costOf_mX6_entryOf rfl rfl (Nat.le_of_ble_eq_true rfl) H (fun v h1 H => ?_)
  obtain ⟨r2, rfl, H⟩ := H
  show Ev mX5_costOf 6 [(0, vR 16), (1, vI x1), (2, vI x2)] [vL r2, vR 16] h1 Q
  refine ev_callV (As := [vL r2]) (rest := []) dX5_costOf_6 mlX5_69 rm_mX5_costOf_mX5_goDown rfl rfl rfl rfl (Nat.le_of_ble_eq_true rfl) H (fun v h3 H => ?_)
  obtain ⟨rfl, H⟩ := H
  show Ev mX5_costOf 9 [(0, vR 16), (1, vI x1), (2, vI x2)] [] h3 Q
  refine ev_aload_n 0 dX5_costOf_9 rfl (x := 16) rfl ?_
  refine ev_getR dX5_costOf_10 flX5_40 rfl rfl ?_
  refine ev_aload_n 0 dX5_costOf_13 rfl (x := 16) rfl ?_
  refine ev_getI dX5_costOf_14 flX5_46 rfl rfl ?_
  obtain ⟨b4, H⟩ := H
  refine ev_iald dX5_costOf_17 rfl b4 ?_
  refine ev_istore_n 3 dX5_costOf_18 rfl (by decide) ?_
  refine ev_L (L' := [(3, vI (h3.1 22 (Int32.toNatClampNeg (h3.1 16 10)))), (0, vR 16), (1, vI x1), (2, vI x2)]) rfl ?_
  refine ev_aload_n 0 dX5_costOf_19 rfl (x := 16) rfl ?_
  refine ev_getI dX5_costOf_20 flX5_46 rfl rfl ?_
  refine ev_iconst 1 dX5_costOf_23 (by decide) ?_
  refine ev_iadd dX5_costOf_24 ?_
  refine ev_istore dX5_costOf_25 (by decide) ?_
  refine ev_L (L' := [(4, vI ((h3.1 16 10) + 1)), (3, vI (h3.1 22 (Int32.toNatClampNeg (h3.1 16 10)))), (0, vR 16), (1, vI x1), (2, vI x2)]) rfl ?_
  refine ev_aload_n 0 dX5_costOf_27 rfl (x := 16) rfl ?_
  refine ev_callV (As := []) (rest := []) dX5_costOf_28 mlX5_105 rm_mX5_costOf_mX5_listLeaves rfl rfl rfl rfl (Nat.le_of_ble_eq_true rfl) H (fun v h5 H => ?_)
  obtain ⟨r6, rfl, H⟩ := H
  show Ev mX5_costOf 31 [(4, vI ((h3.1 16 10) + 1)), (3, vI (h3.1 22 (Int32.toNatClampNeg (h3.1 16 10)))), (0, vR 16), (1, vI x1), (2, vI x2)] [vI r6] h5 Q
  refine ev_istore dX5_costOf_31 (by decide) ?_
  refine ev_L (L' := [(5, vI r6), (4, vI ((h3.1 16 10) + 1)), (3, vI (h3.1 22 (Int32.toNatClampNeg (h3.1 16 10)))), (0, vR 16), (1, vI x1), (2, vI x2)]) rfl ?_
  refine ev_iconst 0 dX5_costOf_33 (by decide) ?_
  refine ev_istore dX5_costOf_34 (by decide) ?_
  refine ev_L (L' := [(6, vI 0), (5, vI r6), (4, vI ((h3.1 16 10) + 1)), (3, vI (h3.1 22 (Int32.toNatClampNeg (h3.1 16 10)))), (0, vR 16), (1, vI x1), (2, vI x2)]) rfl ?_
  refine ev_iconst 0 dX5_costOf_36 (by decide) ?_
  refine ev_istore dX5_costOf_37 (by decide) ?_
  refine ev_L (L' := [(7, vI 0), (6, vI 0), (5, vI r6), (4, vI ((h3.1 16 10) + 1)), (3, vI (h3.1 22 (Int32.toNatClampNeg (h3.1 16 10)))), (0, vR 16), (1, vI x1), (2, vI x2)]) rfl ?_
  exact ev_sub (L' := [(0, vR 16), (2, vI x2), (3, vI (h3.1 22 (Int32.toNatClampNeg (h3.1 16 10)))), (4, vI ((h3.1 16 10) + 1)), (5, vI r6), (6, vI 0), (7, vI 0)]) ⟨rfl, rfl, rfl, rfl, rfl, rfl, rfl, trivial⟩ H
set_option maxRecDepth 20000 in
theorem sX5_costOf_39 {h : Hp} {Q : Option AV → Hp → Prop} {x2 : Int32} {x3 : Int32} {x4 : Int32} {x5 : Int32} {x6 : Int32} {x7 : Int32} (H : (((x5 ≤ x7) → Q (some (vI x4)) h) ∧ ((¬ x5 ≤ x7) → (vp_in x7 64 ∧ (((x6 = 0) → Ev mX5_costOf 79 [(0, vR 16), (2, vI x2), (3, vI x3), (4, vI x4), (5, vI x5), (6, vI x6), (7, vI x7), (8, vI (h.1 24 (Int32.toNatClampNeg x7)))] [] h Q) ∧ ((¬ x6 = 0) → (vp_in (h.1 24 (Int32.toNatClampNeg x7)) 64 ∧ EvM mX6_keyOf [vL (h.2.2 (Int32.toNatClampNeg (h.1 24 (Int32.toNatClampNeg x7))) (Int32.toNatClampNeg 0))] h (fun v h5 => ∃ r6 : Int32, v = some (vI r6) ∧ (((x2 < r6) → Ev mX5_costOf 79 [(0, vR 16), (2, vI x2), (3, vI x3), (4, vI x4), (5, vI x5), (6, vI x6), (7, vI x7), (8, vI (h.1 24 (Int32.toNatClampNeg x7)))] [] h5 Q) ∧ ((¬ x2 < r6) → Ev mX5_costOf 79 [(0, vR 16), (2, vI x2), (3, vI x3), (4, vI (x4 + 1)), (5, vI x5), (6, vI x6), (7, vI x7), (8, vI (h.1 24 (Int32.toNatClampNeg x7)))] [] h5 Q)))))))))) : Ev mX5_costOf 39 [(0, vR 16), (2, vI x2), (3, vI x3), (4, vI x4), (5, vI x5), (6, vI x6), (7, vI x7)] [] h Q := by
  refine ev_iload dX5_costOf_39 (x := x7) rfl ?_
  refine ev_iload dX5_costOf_41 (x := x5) rfl ?_
  refine ev_icmp_ge 103 dX5_costOf_43 (by decide) ⟨fun c1 => ?_, fun c1 => ?_⟩
  · have H := H.1 c1
    refine ev_iload dX5_costOf_103 (x := x4) rfl ?_
    exact ev_iret dX5_costOf_105 rfl H
  · have H := H.2 c1
    refine ev_aload_n 0 dX5_costOf_46 rfl (x := 16) rfl ?_
    refine ev_getR dX5_costOf_47 flX5_49 rfl rfl ?_
    refine ev_iload dX5_costOf_50 (x := x7) rfl ?_
    obtain ⟨b2, H⟩ := H
    refine ev_iald dX5_costOf_52 rfl b2 ?_
    refine ev_istore dX5_costOf_53 (by decide) ?_
    refine ev_L (L' := [(8, vI (h.1 24 (Int32.toNatClampNeg x7))), (0, vR 16), (2, vI x2), (3, vI x3), (4, vI x4), (5, vI x5), (6, vI x6), (7, vI x7)]) rfl ?_
    refine ev_iload dX5_costOf_55 (x := x6) rfl ?_
    refine ev_if_eq 79 dX5_costOf_57 (by decide) ⟨fun c3 => ?_, fun c3 => ?_⟩
    · have H := H.1 c3
      exact ev_sub (L' := [(0, vR 16), (2, vI x2), (3, vI x3), (4, vI x4), (5, vI x5), (6, vI x6), (7, vI x7), (8, vI (h.1 24 (Int32.toNatClampNeg x7)))]) ⟨rfl, rfl, rfl, rfl, rfl, rfl, rfl, rfl, trivial⟩ H
    · have H := H.2 c3
      refine ev_aload_n 0 dX5_costOf_60 rfl (x := 16) rfl ?_
      refine ev_getR dX5_costOf_61 flX5_11 rfl rfl ?_
      refine ev_iload dX5_costOf_64 (x := (h.1 24 (Int32.toNatClampNeg x7))) rfl ?_
      obtain ⟨b4, H⟩ := H
      refine ev_gald dX5_costOf_66 rfl b4 ?_
      refine ev_iconst 0 dX5_costOf_67 (by decide) ?_
      refine ev_rald dX5_costOf_68 (vp_lt b4) (by unfold vp_in; decide) ?_
      refine ev_callN (As := [vL (h.2.2 (Int32.toNatClampNeg (h.1 24 (Int32.toNatClampNeg x7))) (Int32.toNatClampNeg 0))]) (rest := []) dX5_costOf_69 mlX5_108 rm_mX5_costOf_mX6_keyOf rfl rfl (Nat.le_of_ble_eq_true rfl) H (fun v h5 H => ?_)
      obtain ⟨r6, rfl, H⟩ := H
      show Ev mX5_costOf 72 [(8, vI (h.1 24 (Int32.toNatClampNeg x7))), (0, vR 16), (2, vI x2), (3, vI x3), (4, vI x4), (5, vI x5), (6, vI x6), (7, vI x7)] [vI r6] h5 Q
      refine ev_iload_n 2 dX5_costOf_72 rfl (x := x2) rfl ?_
      refine ev_icmp_gt 79 dX5_costOf_73 (by decide) ⟨fun c7 => ?_, fun c7 => ?_⟩
      · have H := H.1 c7
        exact ev_sub (L' := [(0, vR 16), (2, vI x2), (3, vI x3), (4, vI x4), (5, vI x5), (6, vI x6), (7, vI x7), (8, vI (h.1 24 (Int32.toNatClampNeg x7)))]) ⟨rfl, rfl, rfl, rfl, rfl, rfl, rfl, rfl, trivial⟩ H
      · have H := H.2 c7
        refine ev_iinc (x := x4) (v := 1) dX5_costOf_76 rfl (by decide) (by decide) ?_
        refine ev_L (L' := [(4, vI (x4 + 1)), (8, vI (h.1 24 (Int32.toNatClampNeg x7))), (0, vR 16), (2, vI x2), (3, vI x3), (5, vI x5), (6, vI x6), (7, vI x7)]) rfl ?_
        exact ev_sub (L' := [(0, vR 16), (2, vI x2), (3, vI x3), (4, vI (x4 + 1)), (5, vI x5), (6, vI x6), (7, vI x7), (8, vI (h.1 24 (Int32.toNatClampNeg x7)))]) ⟨rfl, rfl, rfl, rfl, rfl, rfl, rfl, rfl, trivial⟩ H
set_option maxRecDepth 20000 in
theorem sX5_costOf_79 {h : Hp} {Q : Option AV → Hp → Prop} {x2 : Int32} {x3 : Int32} {x4 : Int32} {x5 : Int32} {x6 : Int32} {x7 : Int32} {x8 : Int32} (H : (((¬ x6 = 0) → Ev mX5_costOf 39 [(0, vR 16), (2, vI x2), (3, vI x3), (4, vI x4), (5, vI x5), (6, vI 1), (7, vI (x7 + 1))] [] h Q) ∧ ((x6 = 0) → (((¬ x8 = x3) → Ev mX5_costOf 39 [(0, vR 16), (2, vI x2), (3, vI x3), (4, vI x4), (5, vI x5), (6, vI 0), (7, vI (x7 + 1))] [] h Q) ∧ ((x8 = x3) → Ev mX5_costOf 39 [(0, vR 16), (2, vI x2), (3, vI x3), (4, vI x4), (5, vI x5), (6, vI 1), (7, vI (x7 + 1))] [] h Q))))) : Ev mX5_costOf 79 [(0, vR 16), (2, vI x2), (3, vI x3), (4, vI x4), (5, vI x5), (6, vI x6), (7, vI x7), (8, vI x8)] [] h Q := by
  refine ev_iload dX5_costOf_79 (x := x6) rfl ?_
  refine ev_if_ne 90 dX5_costOf_81 (by decide) ⟨fun c1 => ?_, fun c1 => ?_⟩
  · have H := H.1 c1
    refine ev_iconst 1 dX5_costOf_90 (by decide) ?_
    refine ev_goto 95 dX5_costOf_91 (by decide) ?_
    refine ev_istore dX5_costOf_95 (by decide) ?_
    refine ev_L (L' := [(6, vI 1), (0, vR 16), (2, vI x2), (3, vI x3), (4, vI x4), (5, vI x5), (7, vI x7), (8, vI x8)]) rfl ?_
    refine ev_iinc (x := x7) (v := 1) dX5_costOf_97 rfl (by decide) (by decide) ?_
    refine ev_L (L' := [(7, vI (x7 + 1)), (6, vI 1), (0, vR 16), (2, vI x2), (3, vI x3), (4, vI x4), (5, vI x5), (8, vI x8)]) rfl ?_
    refine ev_goto 39 dX5_costOf_100 (by decide) ?_
    exact ev_sub (L' := [(0, vR 16), (2, vI x2), (3, vI x3), (4, vI x4), (5, vI x5), (6, vI 1), (7, vI (x7 + 1))]) ⟨rfl, rfl, rfl, rfl, rfl, rfl, rfl, trivial⟩ H
  · have H := H.2 c1
    refine ev_iload dX5_costOf_84 (x := x8) rfl ?_
    refine ev_iload_n 3 dX5_costOf_86 rfl (x := x3) rfl ?_
    refine ev_icmp_ne 94 dX5_costOf_87 (by decide) ⟨fun c2 => ?_, fun c2 => ?_⟩
    · have H := H.1 c2
      refine ev_iconst 0 dX5_costOf_94 (by decide) ?_
      refine ev_istore dX5_costOf_95 (by decide) ?_
      refine ev_L (L' := [(6, vI 0), (0, vR 16), (2, vI x2), (3, vI x3), (4, vI x4), (5, vI x5), (7, vI x7), (8, vI x8)]) rfl ?_
      refine ev_iinc (x := x7) (v := 1) dX5_costOf_97 rfl (by decide) (by decide) ?_
      refine ev_L (L' := [(7, vI (x7 + 1)), (6, vI 0), (0, vR 16), (2, vI x2), (3, vI x3), (4, vI x4), (5, vI x5), (8, vI x8)]) rfl ?_
      refine ev_goto 39 dX5_costOf_100 (by decide) ?_
      exact ev_sub (L' := [(0, vR 16), (2, vI x2), (3, vI x3), (4, vI x4), (5, vI x5), (6, vI 0), (7, vI (x7 + 1))]) ⟨rfl, rfl, rfl, rfl, rfl, rfl, rfl, trivial⟩ H
    · have H := H.2 c2
      refine ev_iconst 1 dX5_costOf_90 (by decide) ?_
      refine ev_goto 95 dX5_costOf_91 (by decide) ?_
      refine ev_istore dX5_costOf_95 (by decide) ?_
      refine ev_L (L' := [(6, vI 1), (0, vR 16), (2, vI x2), (3, vI x3), (4, vI x4), (5, vI x5), (7, vI x7), (8, vI x8)]) rfl ?_
      refine ev_iinc (x := x7) (v := 1) dX5_costOf_97 rfl (by decide) (by decide) ?_
      refine ev_L (L' := [(7, vI (x7 + 1)), (6, vI 1), (0, vR 16), (2, vI x2), (3, vI x3), (4, vI x4), (5, vI x5), (8, vI x8)]) rfl ?_
      refine ev_goto 39 dX5_costOf_100 (by decide) ?_
      exact ev_sub (L' := [(0, vR 16), (2, vI x2), (3, vI x3), (4, vI x4), (5, vI x5), (6, vI 1), (7, vI (x7 + 1))]) ⟨rfl, rfl, rfl, rfl, rfl, rfl, rfl, trivial⟩ H
set_option maxRecDepth 20000 in
theorem sX5_hasJustTheRowsOf {h : Hp} {Q : Option AV → Hp → Prop} (H : EvM mX5_listLeaves [vR 16] h (fun v h1 => ∃ r2 : Int32, v = some (vI r2) ∧ Ev mX5_hasJustTheRowsOf 13 [(0, vR 16), (1, vR 1), (2, vI r2), (3, vI 0), (4, vL 0), (6, vI 0)] [] h1 Q)) : EvM mX5_hasJustTheRowsOf [vR 16, vR 1] h Q := by
  refine evM_of (by decide) rfl (Nat.le_of_ble_eq_true rfl) ?_
  show Ev mX5_hasJustTheRowsOf 0 [(0, vR 16), (1, vR 1)] [] h Q
  refine ev_aload_n 0 dX5_hasJustTheRowsOf_0 rfl (x := 16) rfl ?_
  refine ev_callV (As := []) (rest := []) dX5_hasJustTheRowsOf_1 mlX5_105 rm_mX5_hasJustTheRowsOf_mX5_listLeaves rfl rfl rfl rfl (Nat.le_of_ble_eq_true rfl) H (fun v h1 H => ?_)
  obtain ⟨r2, rfl, H⟩ := H
  show Ev mX5_hasJustTheRowsOf 4 [(0, vR 16), (1, vR 1)] [vI r2] h1 Q
  refine ev_istore_n 2 dX5_hasJustTheRowsOf_4 rfl (by decide) ?_
  refine ev_L (L' := [(2, vI r2), (0, vR 16), (1, vR 1)]) rfl ?_
  refine ev_iconst 0 dX5_hasJustTheRowsOf_5 (by decide) ?_
  refine ev_istore_n 3 dX5_hasJustTheRowsOf_6 rfl (by decide) ?_
  refine ev_L (L' := [(3, vI 0), (2, vI r2), (0, vR 16), (1, vR 1)]) rfl ?_
  refine ev_lconst 0 dX5_hasJustTheRowsOf_7 (by decide) ?_
  refine ev_lstore dX5_hasJustTheRowsOf_8 (by decide) ?_
  refine ev_L (L' := [(4, vL 0), (3, vI 0), (2, vI r2), (0, vR 16), (1, vR 1)]) rfl ?_
  refine ev_iconst 0 dX5_hasJustTheRowsOf_10 (by decide) ?_
  refine ev_istore dX5_hasJustTheRowsOf_11 (by decide) ?_
  refine ev_L (L' := [(6, vI 0), (4, vL 0), (3, vI 0), (2, vI r2), (0, vR 16), (1, vR 1)]) rfl ?_
  exact ev_sub (L' := [(0, vR 16), (1, vR 1), (2, vI r2), (3, vI 0), (4, vL 0), (6, vI 0)]) ⟨rfl, rfl, rfl, rfl, rfl, rfl, trivial⟩ H
set_option maxRecDepth 20000 in
theorem sX5_hasJustTheRowsOf_13 {h : Hp} {Q : Option AV → Hp → Prop} {x2 : Int32} {x3 : Int32} {x4 : Int64} {x6 : Int32} (H : (((x2 ≤ x6) → EvM mX4_count [vR 1] h (fun v h2 => ∃ r3 : Int32, v = some (vI r3) ∧ (((¬ x3 = r3) → Q (some (vI 0)) h2) ∧ ((x3 = r3) → (((¬ x3 = (h2.1 16 6)) → Q (some (vI 0)) h2) ∧ ((x3 = (h2.1 16 6)) → Q (some (vI 1)) h2)))))) ∧ ((¬ x2 ≤ x6) → (vp_in x6 64 ∧ Ev mX5_hasJustTheRowsOf 31 [(0, vR 16), (1, vR 1), (2, vI x2), (3, vI x3), (4, vL x4), (6, vI x6), (7, vI (h.1 24 (Int32.toNatClampNeg x6))), (8, vI 0)] [] h Q)))) : Ev mX5_hasJustTheRowsOf 13 [(0, vR 16), (1, vR 1), (2, vI x2), (3, vI x3), (4, vL x4), (6, vI x6)] [] h Q := by
  refine ev_iload dX5_hasJustTheRowsOf_13 (x := x6) rfl ?_
  refine ev_iload_n 2 dX5_hasJustTheRowsOf_15 rfl (x := x2) rfl ?_
  refine ev_icmp_ge 118 dX5_hasJustTheRowsOf_16 (by decide) ⟨fun c1 => ?_, fun c1 => ?_⟩
  · have H := H.1 c1
    refine ev_iload_n 3 dX5_hasJustTheRowsOf_118 rfl (x := x3) rfl ?_
    refine ev_aload_n 1 dX5_hasJustTheRowsOf_119 rfl (x := 1) rfl ?_
    refine ev_callV (As := []) (rest := [vI x3]) dX5_hasJustTheRowsOf_120 mlX5_128 rm_mX5_hasJustTheRowsOf_mX4_count rfl rfl rfl rfl (Nat.le_of_ble_eq_true rfl) H (fun v h2 H => ?_)
    obtain ⟨r3, rfl, H⟩ := H
    show Ev mX5_hasJustTheRowsOf 123 [(0, vR 16), (1, vR 1), (2, vI x2), (3, vI x3), (4, vL x4), (6, vI x6)] [vI r3, vI x3] h2 Q
    refine ev_icmp_ne 138 dX5_hasJustTheRowsOf_123 (by decide) ⟨fun c4 => ?_, fun c4 => ?_⟩
    · have H := H.1 c4
      refine ev_iconst 0 dX5_hasJustTheRowsOf_138 (by decide) ?_
      exact ev_zret dX5_hasJustTheRowsOf_139 rfl (by decide) H
    · have H := H.2 c4
      refine ev_iload_n 3 dX5_hasJustTheRowsOf_126 rfl (x := x3) rfl ?_
      refine ev_aload_n 0 dX5_hasJustTheRowsOf_127 rfl (x := 16) rfl ?_
      refine ev_getI dX5_hasJustTheRowsOf_128 flX5_34 rfl rfl ?_
      refine ev_icmp_ne 138 dX5_hasJustTheRowsOf_131 (by decide) ⟨fun c5 => ?_, fun c5 => ?_⟩
      · have H := H.1 c5
        refine ev_iconst 0 dX5_hasJustTheRowsOf_138 (by decide) ?_
        exact ev_zret dX5_hasJustTheRowsOf_139 rfl (by decide) H
      · have H := H.2 c5
        refine ev_iconst 1 dX5_hasJustTheRowsOf_134 (by decide) ?_
        refine ev_goto 139 dX5_hasJustTheRowsOf_135 (by decide) ?_
        exact ev_zret dX5_hasJustTheRowsOf_139 rfl (by decide) H
  · have H := H.2 c1
    refine ev_aload_n 0 dX5_hasJustTheRowsOf_19 rfl (x := 16) rfl ?_
    refine ev_getR dX5_hasJustTheRowsOf_20 flX5_49 rfl rfl ?_
    refine ev_iload dX5_hasJustTheRowsOf_23 (x := x6) rfl ?_
    obtain ⟨b6, H⟩ := H
    refine ev_iald dX5_hasJustTheRowsOf_25 rfl b6 ?_
    refine ev_istore dX5_hasJustTheRowsOf_26 (by decide) ?_
    refine ev_L (L' := [(7, vI (h.1 24 (Int32.toNatClampNeg x6))), (0, vR 16), (1, vR 1), (2, vI x2), (3, vI x3), (4, vL x4), (6, vI x6)]) rfl ?_
    refine ev_iconst 0 dX5_hasJustTheRowsOf_28 (by decide) ?_
    refine ev_istore dX5_hasJustTheRowsOf_29 (by decide) ?_
    refine ev_L (L' := [(8, vI 0), (7, vI (h.1 24 (Int32.toNatClampNeg x6))), (0, vR 16), (1, vR 1), (2, vI x2), (3, vI x3), (4, vL x4), (6, vI x6)]) rfl ?_
    exact ev_sub (L' := [(0, vR 16), (1, vR 1), (2, vI x2), (3, vI x3), (4, vL x4), (6, vI x6), (7, vI (h.1 24 (Int32.toNatClampNeg x6))), (8, vI 0)]) ⟨rfl, rfl, rfl, rfl, rfl, rfl, rfl, rfl, trivial⟩ H
set_option maxRecDepth 20000 in
theorem sX5_hasJustTheRowsOf_31 {h : Hp} {Q : Option AV → Hp → Prop} {x2 : Int32} {x3 : Int32} {x4 : Int64} {x6 : Int32} {x7 : Int32} {x8 : Int32} (H : (vp_in x7 64 ∧ ((((h.1 18 (Int32.toNatClampNeg x7)) ≤ x8) → Ev mX5_hasJustTheRowsOf 13 [(0, vR 16), (1, vR 1), (2, vI x2), (3, vI x3), (4, vL x4), (6, vI (x6 + 1))] [] h Q) ∧ ((¬ (h.1 18 (Int32.toNatClampNeg x7)) ≤ x8) → (vp_in x7 64 ∧ (vp_in x8 9 ∧ EvM mX6_placeOf [vL (h.2.2 (Int32.toNatClampNeg x7) (Int32.toNatClampNeg x8))] h (fun v h5 => ∃ r6 : Int32, v = some (vI r6) ∧ (((x3 ≤ 0) → Ev mX5_hasJustTheRowsOf 74 [(0, vR 16), (1, vR 1), (2, vI x2), (3, vI x3), (6, vI x6), (7, vI x7), (8, vI x8), (9, vL (h.2.2 (Int32.toNatClampNeg x7) (Int32.toNatClampNeg x8))), (11, vI r6)] [] h5 Q) ∧ ((¬ x3 ≤ 0) → (((0 ≤ (lg_cmp x4 (h.2.2 (Int32.toNatClampNeg x7) (Int32.toNatClampNeg x8)))) → Q (some (vI 0)) h5) ∧ ((¬ 0 ≤ (lg_cmp x4 (h.2.2 (Int32.toNatClampNeg x7) (Int32.toNatClampNeg x8)))) → Ev mX5_hasJustTheRowsOf 74 [(0, vR 16), (1, vR 1), (2, vI x2), (3, vI x3), (6, vI x6), (7, vI x7), (8, vI x8), (9, vL (h.2.2 (Int32.toNatClampNeg x7) (Int32.toNatClampNeg x8))), (11, vI r6)] [] h5 Q))))))))))) : Ev mX5_hasJustTheRowsOf 31 [(0, vR 16), (1, vR 1), (2, vI x2), (3, vI x3), (4, vL x4), (6, vI x6), (7, vI x7), (8, vI x8)] [] h Q := by
  refine ev_iload dX5_hasJustTheRowsOf_31 (x := x8) rfl ?_
  refine ev_aload_n 0 dX5_hasJustTheRowsOf_33 rfl (x := 16) rfl ?_
  refine ev_getR dX5_hasJustTheRowsOf_34 flX5_16 rfl rfl ?_
  refine ev_iload dX5_hasJustTheRowsOf_37 (x := x7) rfl ?_
  obtain ⟨b1, H⟩ := H
  refine ev_iald dX5_hasJustTheRowsOf_39 rfl b1 ?_
  refine ev_icmp_ge 112 dX5_hasJustTheRowsOf_40 (by decide) ⟨fun c2 => ?_, fun c2 => ?_⟩
  · have H := H.1 c2
    refine ev_iinc (x := x6) (v := 1) dX5_hasJustTheRowsOf_112 rfl (by decide) (by decide) ?_
    refine ev_L (L' := [(6, vI (x6 + 1)), (0, vR 16), (1, vR 1), (2, vI x2), (3, vI x3), (4, vL x4), (7, vI x7), (8, vI x8)]) rfl ?_
    refine ev_goto 13 dX5_hasJustTheRowsOf_115 (by decide) ?_
    exact ev_sub (L' := [(0, vR 16), (1, vR 1), (2, vI x2), (3, vI x3), (4, vL x4), (6, vI (x6 + 1))]) ⟨rfl, rfl, rfl, rfl, rfl, rfl, trivial⟩ H
  · have H := H.2 c2
    refine ev_aload_n 0 dX5_hasJustTheRowsOf_43 rfl (x := 16) rfl ?_
    refine ev_getR dX5_hasJustTheRowsOf_44 flX5_11 rfl rfl ?_
    refine ev_iload dX5_hasJustTheRowsOf_47 (x := x7) rfl ?_
    obtain ⟨b3, H⟩ := H
    refine ev_gald dX5_hasJustTheRowsOf_49 rfl b3 ?_
    refine ev_iload dX5_hasJustTheRowsOf_50 (x := x8) rfl ?_
    obtain ⟨b4, H⟩ := H
    refine ev_rald dX5_hasJustTheRowsOf_52 (vp_lt b3) b4 ?_
    refine ev_lstore dX5_hasJustTheRowsOf_53 (by decide) ?_
    refine ev_L (L' := [(9, vL (h.2.2 (Int32.toNatClampNeg x7) (Int32.toNatClampNeg x8))), (0, vR 16), (1, vR 1), (2, vI x2), (3, vI x3), (4, vL x4), (6, vI x6), (7, vI x7), (8, vI x8)]) rfl ?_
    refine ev_lload dX5_hasJustTheRowsOf_55 (x := (h.2.2 (Int32.toNatClampNeg x7) (Int32.toNatClampNeg x8))) rfl ?_
    refine ev_callN (As := [vL (h.2.2 (Int32.toNatClampNeg x7) (Int32.toNatClampNeg x8))]) (rest := []) dX5_hasJustTheRowsOf_57 mlX5_112 rm_mX5_hasJustTheRowsOf_mX6_placeOf rfl rfl (Nat.le_of_ble_eq_true rfl) H (fun v h5 H => ?_)
    obtain ⟨r6, rfl, H⟩ := H
    show Ev mX5_hasJustTheRowsOf 60 [(9, vL (h.2.2 (Int32.toNatClampNeg x7) (Int32.toNatClampNeg x8))), (0, vR 16), (1, vR 1), (2, vI x2), (3, vI x3), (4, vL x4), (6, vI x6), (7, vI x7), (8, vI x8)] [vI r6] h5 Q
    refine ev_istore dX5_hasJustTheRowsOf_60 (by decide) ?_
    refine ev_L (L' := [(11, vI r6), (9, vL (h.2.2 (Int32.toNatClampNeg x7) (Int32.toNatClampNeg x8))), (0, vR 16), (1, vR 1), (2, vI x2), (3, vI x3), (4, vL x4), (6, vI x6), (7, vI x7), (8, vI x8)]) rfl ?_
    refine ev_iload_n 3 dX5_hasJustTheRowsOf_62 rfl (x := x3) rfl ?_
    refine ev_if_le 74 dX5_hasJustTheRowsOf_63 (by decide) ⟨fun c7 => ?_, fun c7 => ?_⟩
    · have H := H.1 c7
      exact ev_sub (L' := [(0, vR 16), (1, vR 1), (2, vI x2), (3, vI x3), (6, vI x6), (7, vI x7), (8, vI x8), (9, vL (h.2.2 (Int32.toNatClampNeg x7) (Int32.toNatClampNeg x8))), (11, vI r6)]) ⟨rfl, rfl, rfl, rfl, rfl, rfl, rfl, rfl, rfl, trivial⟩ H
    · have H := H.2 c7
      refine ev_lload dX5_hasJustTheRowsOf_66 (x := x4) rfl ?_
      refine ev_lload dX5_hasJustTheRowsOf_68 (x := (h.2.2 (Int32.toNatClampNeg x7) (Int32.toNatClampNeg x8))) rfl ?_
      refine ev_lcmp dX5_hasJustTheRowsOf_70 ?_
      refine ev_if_ge 97 dX5_hasJustTheRowsOf_71 (by decide) ⟨fun c8 => ?_, fun c8 => ?_⟩
      · have H := H.1 c8
        refine ev_iconst 0 dX5_hasJustTheRowsOf_97 (by decide) ?_
        exact ev_zret dX5_hasJustTheRowsOf_98 rfl (by decide) H
      · have H := H.2 c8
        exact ev_sub (L' := [(0, vR 16), (1, vR 1), (2, vI x2), (3, vI x3), (6, vI x6), (7, vI x7), (8, vI x8), (9, vL (h.2.2 (Int32.toNatClampNeg x7) (Int32.toNatClampNeg x8))), (11, vI r6)]) ⟨rfl, rfl, rfl, rfl, rfl, rfl, rfl, rfl, rfl, trivial⟩ H
set_option maxRecDepth 20000 in
theorem sX5_hasJustTheRowsOf_74 {h : Hp} {Q : Option AV → Hp → Prop} {x2 : Int32} {x3 : Int32} {x6 : Int32} {x7 : Int32} {x8 : Int32} {x9 : Int64} {x11 : Int32} (H : EvM mX4_has [vR 1, vI x11] h (fun v h1 => ∃ r2 : Int32, v = some (vI r2) ∧ (((r2 = 0) → Q (some (vI 0)) h1) ∧ ((¬ r2 = 0) → EvM mX4_keyAt [vR 1, vI x11] h1 (fun v h4 => ∃ r5 : Int32, v = some (vI r5) ∧ EvM mX6_keyOf [vL x9] h4 (fun v h6 => ∃ r7 : Int32, v = some (vI r7) ∧ (((r5 = r7) → Ev mX5_hasJustTheRowsOf 31 [(0, vR 16), (1, vR 1), (2, vI x2), (3, vI (x3 + 1)), (4, vL x9), (6, vI x6), (7, vI x7), (8, vI (x8 + 1))] [] h6 Q) ∧ ((¬ r5 = r7) → Q (some (vI 0)) h6)))))))) : Ev mX5_hasJustTheRowsOf 74 [(0, vR 16), (1, vR 1), (2, vI x2), (3, vI x3), (6, vI x6), (7, vI x7), (8, vI x8), (9, vL x9), (11, vI x11)] [] h Q := by
  refine ev_aload_n 1 dX5_hasJustTheRowsOf_74 rfl (x := 1) rfl ?_
  refine ev_iload dX5_hasJustTheRowsOf_75 (x := x11) rfl ?_
  refine ev_callV (As := [vI x11]) (rest := []) dX5_hasJustTheRowsOf_77 mlX5_119 rm_mX5_hasJustTheRowsOf_mX4_has rfl rfl rfl rfl (Nat.le_of_ble_eq_true rfl) H (fun v h1 H => ?_)
  obtain ⟨r2, rfl, H⟩ := H
  show Ev mX5_hasJustTheRowsOf 80 [(0, vR 16), (1, vR 1), (2, vI x2), (3, vI x3), (6, vI x6), (7, vI x7), (8, vI x8), (9, vL x9), (11, vI x11)] [vI r2] h1 Q
  refine ev_if_eq 97 dX5_hasJustTheRowsOf_80 (by decide) ⟨fun c3 => ?_, fun c3 => ?_⟩
  · have H := H.1 c3
    refine ev_iconst 0 dX5_hasJustTheRowsOf_97 (by decide) ?_
    exact ev_zret dX5_hasJustTheRowsOf_98 rfl (by decide) H
  · have H := H.2 c3
    refine ev_aload_n 1 dX5_hasJustTheRowsOf_83 rfl (x := 1) rfl ?_
    refine ev_iload dX5_hasJustTheRowsOf_84 (x := x11) rfl ?_
    refine ev_callV (As := [vI x11]) (rest := []) dX5_hasJustTheRowsOf_86 mlX5_125 rm_mX5_hasJustTheRowsOf_mX4_keyAt rfl rfl rfl rfl (Nat.le_of_ble_eq_true rfl) H (fun v h4 H => ?_)
    obtain ⟨r5, rfl, H⟩ := H
    show Ev mX5_hasJustTheRowsOf 89 [(0, vR 16), (1, vR 1), (2, vI x2), (3, vI x3), (6, vI x6), (7, vI x7), (8, vI x8), (9, vL x9), (11, vI x11)] [vI r5] h4 Q
    refine ev_lload dX5_hasJustTheRowsOf_89 (x := x9) rfl ?_
    refine ev_callN (As := [vL x9]) (rest := [vI r5]) dX5_hasJustTheRowsOf_91 mlX5_108 rm_mX5_hasJustTheRowsOf_mX6_keyOf rfl rfl (Nat.le_of_ble_eq_true rfl) H (fun v h6 H => ?_)
    obtain ⟨r7, rfl, H⟩ := H
    show Ev mX5_hasJustTheRowsOf 94 [(0, vR 16), (1, vR 1), (2, vI x2), (3, vI x3), (6, vI x6), (7, vI x7), (8, vI x8), (9, vL x9), (11, vI x11)] [vI r7, vI r5] h6 Q
    refine ev_icmp_eq 99 dX5_hasJustTheRowsOf_94 (by decide) ⟨fun c8 => ?_, fun c8 => ?_⟩
    · have H := H.1 c8
      refine ev_lload dX5_hasJustTheRowsOf_99 (x := x9) rfl ?_
      refine ev_lstore dX5_hasJustTheRowsOf_101 (by decide) ?_
      refine ev_L (L' := [(4, vL x9), (0, vR 16), (1, vR 1), (2, vI x2), (3, vI x3), (6, vI x6), (7, vI x7), (8, vI x8), (9, vL x9), (11, vI x11)]) rfl ?_
      refine ev_iinc (x := x3) (v := 1) dX5_hasJustTheRowsOf_103 rfl (by decide) (by decide) ?_
      refine ev_L (L' := [(3, vI (x3 + 1)), (4, vL x9), (0, vR 16), (1, vR 1), (2, vI x2), (6, vI x6), (7, vI x7), (8, vI x8), (9, vL x9), (11, vI x11)]) rfl ?_
      refine ev_iinc (x := x8) (v := 1) dX5_hasJustTheRowsOf_106 rfl (by decide) (by decide) ?_
      refine ev_L (L' := [(8, vI (x8 + 1)), (3, vI (x3 + 1)), (4, vL x9), (0, vR 16), (1, vR 1), (2, vI x2), (6, vI x6), (7, vI x7), (9, vL x9), (11, vI x11)]) rfl ?_
      refine ev_goto 31 dX5_hasJustTheRowsOf_109 (by decide) ?_
      exact ev_sub (L' := [(0, vR 16), (1, vR 1), (2, vI x2), (3, vI (x3 + 1)), (4, vL x9), (6, vI x6), (7, vI x7), (8, vI (x8 + 1))]) ⟨rfl, rfl, rfl, rfl, rfl, rfl, rfl, rfl, trivial⟩ H
    · have H := H.2 c8
      refine ev_iconst 0 dX5_hasJustTheRowsOf_97 (by decide) ?_
      exact ev_zret dX5_hasJustTheRowsOf_98 rfl (by decide) H
set_option maxRecDepth 20000 in
theorem sX5_sizesAreRight {h : Hp} {Q : Option AV → Hp → Prop} (H : Ev mX5_sizesAreRight 2 [(0, vR 16), (1, vI 0)] [] h Q) : EvM mX5_sizesAreRight [vR 16] h Q := by
  refine evM_of (by decide) rfl (Nat.le_of_ble_eq_true rfl) ?_
  show Ev mX5_sizesAreRight 0 [(0, vR 16)] [] h Q
  refine ev_iconst 0 dX5_sizesAreRight_0 (by decide) ?_
  refine ev_istore_n 1 dX5_sizesAreRight_1 rfl (by decide) ?_
  refine ev_L (L' := [(1, vI 0), (0, vR 16)]) rfl ?_
  exact ev_sub (L' := [(0, vR 16), (1, vI 0)]) ⟨rfl, rfl, trivial⟩ H
set_option maxRecDepth 20000 in
theorem sX5_sizesAreRight_2 {h : Hp} {Q : Option AV → Hp → Prop} {x1 : Int32} (H : (((64 ≤ x1) → Q (some (vI 1)) h) ∧ ((¬ 64 ≤ x1) → (((¬ x1 = (h.1 16 7)) → Ev mX5_sizesAreRight 29 [(0, vR 16), (1, vI x1)] [] h Q) ∧ ((x1 = (h.1 16 7)) → (vp_in x1 64 ∧ (((¬ (h.1 19 (Int32.toNatClampNeg x1)) = 0) → Ev mX5_sizesAreRight 29 [(0, vR 16), (1, vI x1)] [] h Q) ∧ (((h.1 19 (Int32.toNatClampNeg x1)) = 0) → Ev mX5_sizesAreRight 30 [(0, vR 16), (1, vI x1)] [vI 0] h Q)))))))) : Ev mX5_sizesAreRight 2 [(0, vR 16), (1, vI x1)] [] h Q := by
  refine ev_iload_n 1 dX5_sizesAreRight_2 rfl (x := x1) rfl ?_
  refine ev_bipush 64 dX5_sizesAreRight_3 (by decide) ?_
  refine ev_icmp_ge 69 dX5_sizesAreRight_5 (by decide) ⟨fun c1 => ?_, fun c1 => ?_⟩
  · have H := H.1 c1
    refine ev_iconst 1 dX5_sizesAreRight_69 (by decide) ?_
    exact ev_zret dX5_sizesAreRight_70 rfl (by decide) H
  · have H := H.2 c1
    refine ev_iload_n 1 dX5_sizesAreRight_8 rfl (x := x1) rfl ?_
    refine ev_aload_n 0 dX5_sizesAreRight_9 rfl (x := 16) rfl ?_
    refine ev_getI dX5_sizesAreRight_10 flX5_37 rfl rfl ?_
    refine ev_icmp_ne 29 dX5_sizesAreRight_13 (by decide) ⟨fun c2 => ?_, fun c2 => ?_⟩
    · have H := H.1 c2
      exact ev_sub (L' := [(0, vR 16), (1, vI x1)]) ⟨rfl, rfl, trivial⟩ H
    · have H := H.2 c2
      refine ev_aload_n 0 dX5_sizesAreRight_16 rfl (x := 16) rfl ?_
      refine ev_getR dX5_sizesAreRight_17 flX5_20 rfl rfl ?_
      refine ev_iload_n 1 dX5_sizesAreRight_20 rfl (x := x1) rfl ?_
      obtain ⟨b3, H⟩ := H
      refine ev_zald dX5_sizesAreRight_21 rfl b3 ?_
      refine ev_if_ne 29 dX5_sizesAreRight_22 (by decide) ⟨fun c4 => ?_, fun c4 => ?_⟩
      · have H := H.1 c4
        exact ev_sub (L' := [(0, vR 16), (1, vI x1)]) ⟨rfl, rfl, trivial⟩ H
      · have H := H.2 c4
        refine ev_iconst 0 dX5_sizesAreRight_25 (by decide) ?_
        refine ev_goto 30 dX5_sizesAreRight_26 (by decide) ?_
        exact ev_sub (L' := [(0, vR 16), (1, vI x1)]) ⟨rfl, rfl, trivial⟩ H
set_option maxRecDepth 20000 in
theorem sX5_sizesAreRight_29 {h : Hp} {Q : Option AV → Hp → Prop} {x1 : Int32} (H : Ev mX5_sizesAreRight 30 [(0, vR 16), (1, vI x1)] [vI 1] h Q) : Ev mX5_sizesAreRight 29 [(0, vR 16), (1, vI x1)] [] h Q := by
  refine ev_iconst 1 dX5_sizesAreRight_29 (by decide) ?_
  exact ev_sub (L' := [(0, vR 16), (1, vI x1)]) ⟨rfl, rfl, trivial⟩ H
set_option maxRecDepth 20000 in
theorem sX5_sizesAreRight_30 {h : Hp} {Q : Option AV → Hp → Prop} {x1 : Int32} {s0 : Int32} (H : (vp_in x1 64 ∧ ((((h.1 20 (Int32.toNatClampNeg x1)) = 0) → Ev mX5_sizesAreRight 2 [(0, vR 16), (1, vI (x1 + 1))] [] h Q) ∧ ((¬ (h.1 20 (Int32.toNatClampNeg x1)) = 0) → (vp_in x1 64 ∧ ((((h.1 18 (Int32.toNatClampNeg x1)) < s0) → Q (some (vI 0)) h) ∧ ((¬ (h.1 18 (Int32.toNatClampNeg x1)) < s0) → (vp_in x1 64 ∧ ((((h.1 18 (Int32.toNatClampNeg x1)) ≤ 8) → Ev mX5_sizesAreRight 2 [(0, vR 16), (1, vI (x1 + 1))] [] h Q) ∧ ((¬ (h.1 18 (Int32.toNatClampNeg x1)) ≤ 8) → Q (some (vI 0)) h)))))))))) : Ev mX5_sizesAreRight 30 [(0, vR 16), (1, vI x1)] [vI s0] h Q := by
  refine ev_istore_n 2 dX5_sizesAreRight_30 rfl (by decide) ?_
  refine ev_L (L' := [(2, vI s0), (0, vR 16), (1, vI x1)]) rfl ?_
  refine ev_aload_n 0 dX5_sizesAreRight_31 rfl (x := 16) rfl ?_
  refine ev_getR dX5_sizesAreRight_32 flX5_24 rfl rfl ?_
  refine ev_iload_n 1 dX5_sizesAreRight_35 rfl (x := x1) rfl ?_
  obtain ⟨b1, H⟩ := H
  refine ev_zald dX5_sizesAreRight_36 rfl b1 ?_
  refine ev_if_eq 63 dX5_sizesAreRight_37 (by decide) ⟨fun c2 => ?_, fun c2 => ?_⟩
  · have H := H.1 c2
    refine ev_iinc (x := x1) (v := 1) dX5_sizesAreRight_63 rfl (by decide) (by decide) ?_
    refine ev_L (L' := [(1, vI (x1 + 1)), (2, vI s0), (0, vR 16)]) rfl ?_
    refine ev_goto 2 dX5_sizesAreRight_66 (by decide) ?_
    exact ev_sub (L' := [(0, vR 16), (1, vI (x1 + 1))]) ⟨rfl, rfl, trivial⟩ H
  · have H := H.2 c2
    refine ev_aload_n 0 dX5_sizesAreRight_40 rfl (x := 16) rfl ?_
    refine ev_getR dX5_sizesAreRight_41 flX5_16 rfl rfl ?_
    refine ev_iload_n 1 dX5_sizesAreRight_44 rfl (x := x1) rfl ?_
    obtain ⟨b3, H⟩ := H
    refine ev_iald dX5_sizesAreRight_45 rfl b3 ?_
    refine ev_iload_n 2 dX5_sizesAreRight_46 rfl (x := s0) rfl ?_
    refine ev_icmp_lt 61 dX5_sizesAreRight_47 (by decide) ⟨fun c4 => ?_, fun c4 => ?_⟩
    · have H := H.1 c4
      refine ev_iconst 0 dX5_sizesAreRight_61 (by decide) ?_
      exact ev_zret dX5_sizesAreRight_62 rfl (by decide) H
    · have H := H.2 c4
      refine ev_aload_n 0 dX5_sizesAreRight_50 rfl (x := 16) rfl ?_
      refine ev_getR dX5_sizesAreRight_51 flX5_16 rfl rfl ?_
      refine ev_iload_n 1 dX5_sizesAreRight_54 rfl (x := x1) rfl ?_
      obtain ⟨b5, H⟩ := H
      refine ev_iald dX5_sizesAreRight_55 rfl b5 ?_
      refine ev_bipush 8 dX5_sizesAreRight_56 (by decide) ?_
      refine ev_icmp_le 63 dX5_sizesAreRight_58 (by decide) ⟨fun c6 => ?_, fun c6 => ?_⟩
      · have H := H.1 c6
        refine ev_iinc (x := x1) (v := 1) dX5_sizesAreRight_63 rfl (by decide) (by decide) ?_
        refine ev_L (L' := [(1, vI (x1 + 1)), (2, vI s0), (0, vR 16)]) rfl ?_
        refine ev_goto 2 dX5_sizesAreRight_66 (by decide) ?_
        exact ev_sub (L' := [(0, vR 16), (1, vI (x1 + 1))]) ⟨rfl, rfl, trivial⟩ H
      · have H := H.2 c6
        refine ev_iconst 0 dX5_sizesAreRight_61 (by decide) ?_
        exact ev_zret dX5_sizesAreRight_62 rfl (by decide) H
set_option maxRecDepth 20000 in
theorem sX5_leavesAreInOneRow {h : Hp} {Q : Option AV → Hp → Prop} (H : (∀ h1 : Hp, h1 = sI h 24 (upd (h.1 24) (Int32.toNatClampNeg 0) (h.1 16 7)) → Ev mX5_leavesAreInOneRow 14 [(0, vR 16), (1, vI 1), (2, vI 0)] [] h1 Q)) : EvM mX5_leavesAreInOneRow [vR 16] h Q := by
  refine evM_of (by decide) rfl (Nat.le_of_ble_eq_true rfl) ?_
  show Ev mX5_leavesAreInOneRow 0 [(0, vR 16)] [] h Q
  refine ev_aload_n 0 dX5_leavesAreInOneRow_0 rfl (x := 16) rfl ?_
  refine ev_getR dX5_leavesAreInOneRow_1 flX5_49 rfl rfl ?_
  refine ev_iconst 0 dX5_leavesAreInOneRow_4 (by decide) ?_
  refine ev_aload_n 0 dX5_leavesAreInOneRow_5 rfl (x := 16) rfl ?_
  refine ev_getI dX5_leavesAreInOneRow_6 flX5_37 rfl rfl ?_
  refine ev_iast dX5_leavesAreInOneRow_9 rfl (by unfold vp_in; decide)  ?_
  obtain ⟨h1, eh1⟩ : ∃ z : Hp, z = sI h 24 (upd (h.1 24) (Int32.toNatClampNeg 0) (h.1 16 7)) := ⟨_, rfl⟩
  rw [← eh1]
  have H := H h1 eh1
  refine ev_iconst 1 dX5_leavesAreInOneRow_10 (by decide) ?_
  refine ev_istore_n 1 dX5_leavesAreInOneRow_11 rfl (by decide) ?_
  refine ev_L (L' := [(1, vI 1), (0, vR 16)]) rfl ?_
  refine ev_iconst 0 dX5_leavesAreInOneRow_12 (by decide) ?_
  refine ev_istore_n 2 dX5_leavesAreInOneRow_13 rfl (by decide) ?_
  refine ev_L (L' := [(2, vI 0), (1, vI 1), (0, vR 16)]) rfl ?_
  exact ev_sub (L' := [(0, vR 16), (1, vI 1), (2, vI 0)]) ⟨rfl, rfl, rfl, trivial⟩ H
set_option maxRecDepth 20000 in
theorem sX5_leavesAreInOneRow_14 {h : Hp} {Q : Option AV → Hp → Prop} {x1 : Int32} {x2 : Int32} (H : (((64 ≤ x2) → Q (some (vI 0)) h) ∧ ((¬ 64 ≤ x2) → Ev mX5_leavesAreInOneRow 22 [(0, vR 16), (1, vI x1), (2, vI x2), (3, vI 1)] [] h Q))) : Ev mX5_leavesAreInOneRow 14 [(0, vR 16), (1, vI x1), (2, vI x2)] [] h Q := by
  refine ev_iload_n 2 dX5_leavesAreInOneRow_14 rfl (x := x2) rfl ?_
  refine ev_bipush 64 dX5_leavesAreInOneRow_15 (by decide) ?_
  refine ev_icmp_ge 88 dX5_leavesAreInOneRow_17 (by decide) ⟨fun c1 => ?_, fun c1 => ?_⟩
  · have H := H.1 c1
    refine ev_iconst 0 dX5_leavesAreInOneRow_88 (by decide) ?_
    exact ev_zret dX5_leavesAreInOneRow_89 rfl (by decide) H
  · have H := H.2 c1
    refine ev_iconst 1 dX5_leavesAreInOneRow_20 (by decide) ?_
    refine ev_istore_n 3 dX5_leavesAreInOneRow_21 rfl (by decide) ?_
    refine ev_L (L' := [(3, vI 1), (0, vR 16), (1, vI x1), (2, vI x2)]) rfl ?_
    exact ev_sub (L' := [(0, vR 16), (1, vI x1), (2, vI x2), (3, vI 1)]) ⟨rfl, rfl, rfl, rfl, trivial⟩ H
set_option maxRecDepth 20000 in
theorem sX5_leavesAreInOneRow_22 {h : Hp} {Q : Option AV → Hp → Prop} {x1 : Int32} {x2 : Int32} {x3 : Int32} (H : (((x1 ≤ x3) → (vp_in (h.1 24 (Int32.toNatClampNeg 0)) 64 ∧ (((¬ (h.1 19 (Int32.toNatClampNeg (h.1 24 (Int32.toNatClampNeg 0)))) = 0) → EvM mX5_listRowBelow [vR 16, vI x1] h (fun v h4 => ∃ r5 : Int32, v = some (vI r5) ∧ Ev mX5_leavesAreInOneRow 14 [(0, vR 16), (1, vI r5), (2, vI (x2 + 1))] [] h4 Q)) ∧ (((h.1 19 (Int32.toNatClampNeg (h.1 24 (Int32.toNatClampNeg 0)))) = 0) → Q (some (vI 1)) h)))) ∧ ((¬ x1 ≤ x3) → (vp_in x3 64 ∧ (vp_in (h.1 24 (Int32.toNatClampNeg x3)) 64 ∧ (vp_in (h.1 24 (Int32.toNatClampNeg 0)) 64 ∧ ((((h.1 19 (Int32.toNatClampNeg (h.1 24 (Int32.toNatClampNeg x3)))) = (h.1 19 (Int32.toNatClampNeg (h.1 24 (Int32.toNatClampNeg 0))))) → Ev mX5_leavesAreInOneRow 22 [(0, vR 16), (1, vI x1), (2, vI x2), (3, vI (x3 + 1))] [] h Q) ∧ ((¬ (h.1 19 (Int32.toNatClampNeg (h.1 24 (Int32.toNatClampNeg x3)))) = (h.1 19 (Int32.toNatClampNeg (h.1 24 (Int32.toNatClampNeg 0))))) → Q (some (vI 0)) h)))))))) : Ev mX5_leavesAreInOneRow 22 [(0, vR 16), (1, vI x1), (2, vI x2), (3, vI x3)] [] h Q := by
  refine ev_iload_n 3 dX5_leavesAreInOneRow_22 rfl (x := x3) rfl ?_
  refine ev_iload_n 1 dX5_leavesAreInOneRow_23 rfl (x := x1) rfl ?_
  refine ev_icmp_ge 60 dX5_leavesAreInOneRow_24 (by decide) ⟨fun c1 => ?_, fun c1 => ?_⟩
  · have H := H.1 c1
    refine ev_aload_n 0 dX5_leavesAreInOneRow_60 rfl (x := 16) rfl ?_
    refine ev_getR dX5_leavesAreInOneRow_61 flX5_20 rfl rfl ?_
    refine ev_aload_n 0 dX5_leavesAreInOneRow_64 rfl (x := 16) rfl ?_
    refine ev_getR dX5_leavesAreInOneRow_65 flX5_49 rfl rfl ?_
    refine ev_iconst 0 dX5_leavesAreInOneRow_68 (by decide) ?_
    refine ev_iald dX5_leavesAreInOneRow_69 rfl (by unfold vp_in; decide) ?_
    obtain ⟨b2, H⟩ := H
    refine ev_zald dX5_leavesAreInOneRow_70 rfl b2 ?_
    refine ev_if_ne 76 dX5_leavesAreInOneRow_71 (by decide) ⟨fun c3 => ?_, fun c3 => ?_⟩
    · have H := H.1 c3
      refine ev_aload_n 0 dX5_leavesAreInOneRow_76 rfl (x := 16) rfl ?_
      refine ev_iload_n 1 dX5_leavesAreInOneRow_77 rfl (x := x1) rfl ?_
      refine ev_callV (As := [vI x1]) (rest := []) dX5_leavesAreInOneRow_78 mlX5_95 rm_mX5_leavesAreInOneRow_mX5_listRowBelow rfl rfl rfl rfl (Nat.le_of_ble_eq_true rfl) H (fun v h4 H => ?_)
      obtain ⟨r5, rfl, H⟩ := H
      show Ev mX5_leavesAreInOneRow 81 [(0, vR 16), (1, vI x1), (2, vI x2), (3, vI x3)] [vI r5] h4 Q
      refine ev_istore_n 1 dX5_leavesAreInOneRow_81 rfl (by decide) ?_
      refine ev_L (L' := [(1, vI r5), (0, vR 16), (2, vI x2), (3, vI x3)]) rfl ?_
      refine ev_iinc (x := x2) (v := 1) dX5_leavesAreInOneRow_82 rfl (by decide) (by decide) ?_
      refine ev_L (L' := [(2, vI (x2 + 1)), (1, vI r5), (0, vR 16), (3, vI x3)]) rfl ?_
      refine ev_goto 14 dX5_leavesAreInOneRow_85 (by decide) ?_
      exact ev_sub (L' := [(0, vR 16), (1, vI r5), (2, vI (x2 + 1))]) ⟨rfl, rfl, rfl, trivial⟩ H
    · have H := H.2 c3
      refine ev_iconst 1 dX5_leavesAreInOneRow_74 (by decide) ?_
      exact ev_zret dX5_leavesAreInOneRow_75 rfl (by decide) H
  · have H := H.2 c1
    refine ev_aload_n 0 dX5_leavesAreInOneRow_27 rfl (x := 16) rfl ?_
    refine ev_getR dX5_leavesAreInOneRow_28 flX5_20 rfl rfl ?_
    refine ev_aload_n 0 dX5_leavesAreInOneRow_31 rfl (x := 16) rfl ?_
    refine ev_getR dX5_leavesAreInOneRow_32 flX5_49 rfl rfl ?_
    refine ev_iload_n 3 dX5_leavesAreInOneRow_35 rfl (x := x3) rfl ?_
    obtain ⟨b6, H⟩ := H
    refine ev_iald dX5_leavesAreInOneRow_36 rfl b6 ?_
    obtain ⟨b7, H⟩ := H
    refine ev_zald dX5_leavesAreInOneRow_37 rfl b7 ?_
    refine ev_aload_n 0 dX5_leavesAreInOneRow_38 rfl (x := 16) rfl ?_
    refine ev_getR dX5_leavesAreInOneRow_39 flX5_20 rfl rfl ?_
    refine ev_aload_n 0 dX5_leavesAreInOneRow_42 rfl (x := 16) rfl ?_
    refine ev_getR dX5_leavesAreInOneRow_43 flX5_49 rfl rfl ?_
    refine ev_iconst 0 dX5_leavesAreInOneRow_46 (by decide) ?_
    refine ev_iald dX5_leavesAreInOneRow_47 rfl (by unfold vp_in; decide) ?_
    obtain ⟨b8, H⟩ := H
    refine ev_zald dX5_leavesAreInOneRow_48 rfl b8 ?_
    refine ev_icmp_eq 54 dX5_leavesAreInOneRow_49 (by decide) ⟨fun c9 => ?_, fun c9 => ?_⟩
    · have H := H.1 c9
      refine ev_iinc (x := x3) (v := 1) dX5_leavesAreInOneRow_54 rfl (by decide) (by decide) ?_
      refine ev_L (L' := [(3, vI (x3 + 1)), (0, vR 16), (1, vI x1), (2, vI x2)]) rfl ?_
      refine ev_goto 22 dX5_leavesAreInOneRow_57 (by decide) ?_
      exact ev_sub (L' := [(0, vR 16), (1, vI x1), (2, vI x2), (3, vI (x3 + 1))]) ⟨rfl, rfl, rfl, rfl, trivial⟩ H
    · have H := H.2 c9
      refine ev_iconst 0 dX5_leavesAreInOneRow_52 (by decide) ?_
      exact ev_zret dX5_leavesAreInOneRow_53 rfl (by decide) H
