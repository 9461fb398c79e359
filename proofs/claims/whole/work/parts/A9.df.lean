/-! fields as they are born -/
theorem dfX0 : ∀ j, j < 6 → defaultValue (tyX0 j) = vp_V [.int 0, .int 0, .int 0, .int 0, .int 0, .int 0] j := by decide +kernel
theorem dfX1 : ∀ j, j < 4 → defaultValue (tyX1 j) = vp_V [.int 0, .int 0, .int 0, .int 0] j := by decide +kernel
theorem dfX2 : ∀ j, j < 4 → defaultValue (tyX2 j) = vp_V [.null, .null, .int 0, .int 0] j := by decide +kernel
theorem dfX3 : ∀ j, j < 7 → defaultValue (tyX3 j) = vp_V [.null, .int 0, .null, .null, .int 0, .null, .int 0] j := by decide +kernel
theorem dfX4 : ∀ j, j < 5 → defaultValue (tyX4 j) = vp_V [.null, .null, .null, .null, .int 0] j := by decide +kernel
theorem dfX5 : ∀ j, j < 13 → defaultValue (tyX5 j) = vp_V [.null, .null, .null, .null, .null, .int 0, .int 0, .int 0, .null, .null, .int 0, .null, .null] j := by decide +kernel
theorem dfX6 : ∀ j, j < 15 → defaultValue (tyX6 j) = vp_V [.null, .null, .int 0, .int 0, .int 0, .int 0, .int 0, .int 0, .null, .null, .null, .null, .null, .int 0, .int 0] j := by decide +kernel
theorem dfX7 : ∀ j, j < 52 → defaultValue (tyX7 j) = vp_V (.int 0 :: .null :: .null :: .null :: .int 0 :: .int 0 :: .int 0 :: .int 0 :: .int 0 :: .int 0 :: .null :: .int 0 :: .int 0 :: .int 0 :: .int 0 :: .int 0 :: .int 0 :: .int 0 :: .null :: .null :: .int 0 :: .null :: .int 0 :: .null :: .null :: .null :: .int 0 :: .int 0 :: .int 0 :: .null :: .int 0 :: .int 0 :: .null :: .int 0 :: .int 0 :: .null :: .null :: .null :: .null :: .null :: .null :: .null :: .int 0 :: .null :: .int 0 :: .int 0 :: .null :: .null :: .null :: .null :: .int 0 :: .null :: []) j := by decide +kernel
def nwI : List Cond := [.methodLinkNest RX6 9 yX4_init RX6, .methodLinkNest RX6 18 yX0_init RX6, .methodLinkNest RX6 45 yX3_init RX6, .methodLinkNest RX6 52 yX1_init RX6, .methodLinkNest RX6 59 yX2_init RX6, .methodLinkNest RX6 66 yX5_init RX6]
theorem nwI_warm {s U : State} (hW : s.WarmedH U.vm) {w : Cond} (h : va_Nw w s) (hw : w ∈ nwI) : va_Nw w U := by
  simp only [nwI, List.mem_cons, List.not_mem_nil, or_false] at hw
  rcases hw with rfl | rfl | rfl | rfl | rfl | rfl <;> exact va_Nw.warmM hW h
theorem nwI_call {U : State} {f : JFrame} {mk : MethodId} {a : Array Value} {w : Cond} (h : va_Nw w U) (hw : w ∈ nwI) : va_Nw w (U.calling f mk a) := by
  simp only [nwI, List.mem_cons, List.not_mem_nil, or_false] at hw
  rcases hw with rfl | rfl | rfl | rfl | rfl | rfl <;> exact va_Nw.same rfl (u := U) rfl h
def KiW (l : Launch) (D : va_G) (cy : Nat → ClassId) (M : MD) (ci : Nat) (fs : List Value) (Post : Nat → va_W → State → Prop) (Ws : List Cond) : Prop := ∀ h0 sz : Nat, Met l M.1 (wsM M) M.2.2.2.2.2 (va_Pc [.ref h0] (fun U => Kp D cy [(h0, .inr (ci, fs))] sz U ∧ ∀ w ∈ Ws, va_Nw w U)) (Kq D [(h0, .inr (ci, fs))] sz (Post h0)) M.2.2.2.2.2.cells M.2.2.2.2.2.slots (va_A [(h0, .inr (ci, fs))] sz)
section CONB
variable {p : Program} {l : Launch} {e : Env} {R : Room} {s : State} {m : MethodId} {args : Array Value} {below : List Frame} {meth : Method} {c : Code} {H : Heap} {locs : List Loc} {cells slots : Nat} {Q : State → Prop}
variable {cc : ByteArray} {pc : Nat} {ls : Array Slot} {rest : List Value} {D : va_G} {cl : List vw_C} {A : Nat → Prop} {tys : List (ClassId × FieldType)} {H0 : Heap}
/-- a constructor is called on the object that was made last -/
theorem kcallN {N : MD} {ci idx nL : Nat} {fs : List Value} {Post : Nat → va_W → State → Prop} {cy : Nat → ClassId} {own : String} {Ts : List Cond} {wr : va_W} {q : Nat} (hM : Ki l D cy N ci fs Post) (hexec : p.tables.exec = Jvm.exec) (hb : c.code = cc) (hml : c.maxLocals = nL) (hown : s.vm.findClass own = some m.cls) (hts : ∀ w ∈ Ts, w.before args s = true) (hnl : va_Nw (.methodLinkNest own idx N.1 RX6) s) (hw : ∀ w ∈ [Cond.instanceMethod N.1, .initialized N.1.cls], w ∈ Ts) (hg : GoodIn Ts (wsM N)) (hN : N.2.2.1 = 1 ∧ N.2.2.2.1 = none ∧ N.1.name = "<init>") (hy : N.1.cls ≠ "java/lang/invoke/MethodHandle" ∧ N.1.cls ≠ "java/lang/invoke/VarHandle" ∧ (parseMethodDescriptor N.1.desc).map (fun d => d.parameters.length) = some 0) (hR : N.2.2.2.2.2.frames + 1 ≤ R.frames ∧ 8 + (1 + 11) + N.2.2.2.2.2.locals ≤ R.locals)
    (hK : va_K D vwCl (ty3 cy) s) (hO : va_AOA .long s) (hP : va_P D vwCl (wr ++ [(q, .inr (ci, fs))]) H) (hD : va_D A (wr ++ [(q, .inr (ci, fs))])) (hS : va_S A s.heap H locs) (hA : ∀ q, s.heap.size ≤ q → A q) (hl : ls.size = nL) (hcat : (rest.map fun v => v.category).sum ≤ 8) (hdg : decode cc pc = .ok (.invokespecial idx, 3)) (hcs : cells + N.2.2.2.2.2.cells ≤ R.cells ∧ slots + N.2.2.2.2.2.slots ≤ R.slots)
    (kk : ∀ (w1 : va_W) (t : State) (H1 : Heap) (locs1 : List Loc), t.heap = H1 → s.vm.Alike t.vm → Post q w1 t → va_P D vwCl (wr ++ w1) H1 → va_D A (wr ++ w1) → va_S A s.heap H1 locs1 → W p l e R s m args below meth c H1 locs1 (cells + N.2.2.2.2.2.cells) (slots + N.2.2.2.2.2.slots) Q (F0 m (pc + 3) ls rest)) : W p l e R s m args below meth c H locs cells slots Q (F0 m pc ls (.ref q :: rest)) := by
  have lst : (wr ++ [(q, .inr (ci, fs))])[wr.length]? = some (q, .inr (ci, fs)) := by
    rw [List.getElem?_append_right (Nat.le_refl _), Nat.sub_self]
    rfl
  have hPc : va_P D vwCl [(q, .inr (ci, fs))] H := fun k x hk => by
    have : k < 1 := (List.getElem?_eq_some_iff.mp hk).1
    rw [show k = 0 by omega] at hk
    cases hk
    exact hP _ _ lst
  have hDc : va_D (fun _ => True) [(q, .inr (ci, fs))] := ⟨fun i j x y hi hj _ => by
    have h1 : i < 1 := (List.getElem?_eq_some_iff.mp hi).1
    have h2 : j < 1 := (List.getElem?_eq_some_iff.mp hj).1
    omega, fun _ _ _ => trivial⟩
  have hF : ∀ x, va_A [(q, .inr (ci, fs))] H.size x → A x := by
    rintro x (⟨k, e9, hk⟩ | hk)
    · have : k < 1 := (List.getElem?_eq_some_iff.mp hk).1
      rw [show k = 0 by omega] at hk
      cases hk
      exact hD.2 _ _ lst
    · exact hA x (Nat.le_trans hS.1 hk)
  have hcw := va_cnB (R := R) (host := RX6) (rm := N.2.2.2.2.2) (bytes := N.2.1) (maxL := 1) (ret := none) 0 hts hg (show wsM N = Cond.code N.1 N.2.1 1 none :: wsL_law0 by unfold wsM; rw [hN.1, hN.2.1]) rfl rfl hnl (hts (.initialized N.1.cls) (hw _ (by simp))) hy hR
  refine va_callv (va_runIN (host := RX6) (As := []) (rest := rest) (b := q) ⟨hexec, hb, hml, hown, hts⟩ (hM q H.size) ⟨hcw, hN.2.2, hts (.instanceMethod N.1) (hw _ (by simp))⟩ ⟨fun a U f mk x => ?_, fun U hU hW => ⟨rfl, by rw [hU], by rw [hU]; exact hPc, va_K.moved hW.alike hK, hDc, aoa_warm hW hO⟩⟩ rfl rfl hl rfl (lv_room hcat) hdg hcs) hS (fun x _ h => hF x h) hF (fun u t H1 locs1 ht hvm _ hB hz1 hk1 hS1 => ?_)
  · obtain ⟨x0, x1, xP, xK, xD, xO⟩ := x
    exact ⟨x0, x1, xP, va_K.moved (u := U) (U := U.calling f mk a) (Vm.Alike.refl U.vm) xK, xD, aoa_moved (u := U) (U := U.calling f mk a) (Vm.Alike.refl U.vm) xO⟩
  · obtain ⟨w1, hp, hP1, hD1⟩ := hB
    rw [ht] at hP1
    obtain ⟨hP2, hD2⟩ := jn2 hP hD hk1 hF hP1 hD1
    exact kk w1 t H1 locs1 ht hvm hp hP2 hD2 hS1
/-- a constructor is called on the object that was made last -/
theorem kcallW {N : MD} {ci idx nL : Nat} {fs : List Value} {Post : Nat → va_W → State → Prop} {cy : Nat → ClassId} {own : String} {Ts : List Cond} {wr : va_W} {q : Nat} (hM : KiW l D cy N ci fs Post nwI) (hWs : ∀ w ∈ nwI, va_Nw w s) (hexec : p.tables.exec = Jvm.exec) (hb : c.code = cc) (hml : c.maxLocals = nL) (hown : s.vm.findClass own = some m.cls) (hts : ∀ w ∈ Ts, w.before args s = true) (hw : ∀ w ∈ [Cond.methodLink own idx N.1, .instanceMethod N.1, .initialized N.1.cls], w ∈ Ts) (hg : GoodIn Ts (wsM N)) (hN : N.2.2.1 = 1 ∧ N.2.2.2.1 = none ∧ N.1.name = "<init>") (hy : N.1.cls ≠ "java/lang/invoke/MethodHandle" ∧ N.1.cls ≠ "java/lang/invoke/VarHandle" ∧ (parseMethodDescriptor N.1.desc).map (fun d => d.parameters.length) = some 0) (hR : N.2.2.2.2.2.frames + 1 ≤ R.frames ∧ 8 + (1 + 11) + N.2.2.2.2.2.locals ≤ R.locals)
    (hK : va_K D vwCl (ty3 cy) s) (hO : va_AOA .long s) (hP : va_P D vwCl (wr ++ [(q, .inr (ci, fs))]) H) (hD : va_D A (wr ++ [(q, .inr (ci, fs))])) (hS : va_S A s.heap H locs) (hA : ∀ q, s.heap.size ≤ q → A q) (hl : ls.size = nL) (hcat : (rest.map fun v => v.category).sum ≤ 8) (hdg : decode cc pc = .ok (.invokespecial idx, 3)) (hcs : cells + N.2.2.2.2.2.cells ≤ R.cells ∧ slots + N.2.2.2.2.2.slots ≤ R.slots)
    (kk : ∀ (w1 : va_W) (t : State) (H1 : Heap) (locs1 : List Loc), t.heap = H1 → s.vm.Alike t.vm → Post q w1 t → va_P D vwCl (wr ++ w1) H1 → va_D A (wr ++ w1) → va_S A s.heap H1 locs1 → W p l e R s m args below meth c H1 locs1 (cells + N.2.2.2.2.2.cells) (slots + N.2.2.2.2.2.slots) Q (F0 m (pc + 3) ls rest)) : W p l e R s m args below meth c H locs cells slots Q (F0 m pc ls (.ref q :: rest)) := by
  have lst : (wr ++ [(q, .inr (ci, fs))])[wr.length]? = some (q, .inr (ci, fs)) := by
    rw [List.getElem?_append_right (Nat.le_refl _), Nat.sub_self]
    rfl
  have hPc : va_P D vwCl [(q, .inr (ci, fs))] H := fun k x hk => by
    have : k < 1 := (List.getElem?_eq_some_iff.mp hk).1
    rw [show k = 0 by omega] at hk
    cases hk
    exact hP _ _ lst
  have hDc : va_D (fun _ => True) [(q, .inr (ci, fs))] := ⟨fun i j x y hi hj _ => by
    have h1 : i < 1 := (List.getElem?_eq_some_iff.mp hi).1
    have h2 : j < 1 := (List.getElem?_eq_some_iff.mp hj).1
    omega, fun _ _ _ => trivial⟩
  have hF : ∀ x, va_A [(q, .inr (ci, fs))] H.size x → A x := by
    rintro x (⟨k, e9, hk⟩ | hk)
    · have : k < 1 := (List.getElem?_eq_some_iff.mp hk).1
      rw [show k = 0 by omega] at hk
      cases hk
      exact hD.2 _ _ lst
    · exact hA x (Nat.le_trans hS.1 hk)
  have hcw := cwI (R := R) (rm := N.2.2.2.2.2) (bytes := N.2.1) (maxL := 1) 0 hts hg (show wsM N = Cond.code N.1 N.2.1 1 none :: wsL_law0 by unfold wsM; rw [hN.1, hN.2.1]) rfl rfl (hts (.initialized N.1.cls) (hw _ (by simp))) (hts (.methodLink own idx N.1) (hw _ (by simp))) (hts (.instanceMethod N.1) (hw _ (by simp))) hN.2.2 hy hR
  refine va_callv (va_runI (As := []) (rest := rest) (b := q) ⟨hexec, hb, hml, hown, hts⟩ (hM q H.size) hcw ⟨fun a U f mk x => ?_, fun U hU hW => ⟨rfl, ⟨by rw [hU], by rw [hU]; exact hPc, va_K.moved hW.alike hK, hDc, aoa_warm hW hO⟩, fun w hw => nwI_warm hW (hWs w hw) hw⟩⟩ rfl rfl hl rfl (lv_room hcat) hdg hcs) hS (fun x _ h => hF x h) hF (fun u t H1 locs1 ht hvm _ hB hz1 hk1 hS1 => ?_)
  · obtain ⟨x0, ⟨x1, xP, xK, xD, xO⟩, xW⟩ := x
    exact ⟨x0, ⟨x1, xP, va_K.moved (u := U) (U := U.calling f mk a) (Vm.Alike.refl U.vm) xK, xD, aoa_moved (u := U) (U := U.calling f mk a) (Vm.Alike.refl U.vm) xO⟩, fun w hw => nwI_call (xW w hw) hw⟩
  · obtain ⟨w1, hp, hP1, hD1⟩ := hB
    rw [ht] at hP1
    obtain ⟨hP2, hD2⟩ := jn2 hP hD hk1 hF hP1 hD1
    exact kk w1 t H1 locs1 ht hvm hp hP2 hD2 hS1
end CONB
