/-! constructors: what they make -/
abbrev ty3 (cy : Nat → ClassId) : List (ClassId × FieldType) := [(cy 0, .int), (cy 1, .boolean), (cy 2, .long)]
section CON
variable {p : Program} {l : Launch} {e : Env} {R : Room} {s : State} {m : MethodId} {args : Array Value} {below : List Frame} {meth : Method} {c : Code} {H : Heap} {locs : List Loc} {cells slots : Nat} {Q : State → Prop}
variable {cc : ByteArray} {pc : Nat} {ls : Array Slot} {rest : List Value} {D : va_G} {cl : List vw_C} {A : Nat → Prop} {tys : List (ClassId × FieldType)} {H0 : Heap}
/-- an array, its class known before; what stands behind stays behind -/
theorem nwP {X PL : va_W} (hexec : p.tables.exec = Jvm.exec) (hb : c.code = cc) {atype : ArrayType} (harr : (Cond.arrayClass (newarray.typeOf atype)).before args s = true) {ty : FieldType} (hty : newarray.typeOf atype = ty) (hK : va_K D cl tys s) {t0 : Nat} {cA : ClassId} (ht : tys[t0]? = some (cA, ty)) (hra : ∀ cB : ClassId, va_RA s cB ty → va_RA s cA ty → cB = cA) (hP : va_P D cl (X ++ PL) H) (hD : va_D A (X ++ PL)) (hS : va_S A H0 H locs) (hA : ∀ q, H0.size ≤ q → A q)
    {n : Int32} {N' : Nat} {a0 : vp_A} (ha : ∀ cA : ClassId, vp_cell cA a0 = arrV cA N' (fun _ => defaultValue ty)) (hn : ¬ n < 0) (hN : n.toNatClampNeg = N') (hbytes : N' * componentBytes ty ≤ 536870912) (hcells : cells + 1 ≤ R.cells) (hslots : slots + N' ≤ R.slots) (hdg : decode cc pc = .ok (.newarray atype, 2))
    (kk : ∀ (q : Nat) (H1 : Heap), va_P D cl ((X ++ [(q, .inl (cA, a0))]) ++ PL) H1 → va_D A ((X ++ [(q, .inl (cA, a0))]) ++ PL) → va_S A H0 H1 locs →
      W p l e R s m args below meth c H1 locs (cells + 1) (slots + N') Q (F0 m (pc + 2) ls (.ref q :: rest))) : W p l e R s m args below meth c H locs cells slots Q (F0 m pc ls (.int n :: rest)) := by
  refine va_newa hexec hb harr hty hK hP hD hS hA ha hn hN hbytes hcells hslots hdg (fun q cB H1 hK1 hP1 hD1 hS1 => ?_)
  have e1 := (hK1.2 tys.length (cB, ty) (by rw [List.getElem?_append_right (Nat.le_refl _), Nat.sub_self]; rfl)).2
  have e2 : cB = cA := hra cB e1 (hK.2 t0 _ ht).2
  subst e2
  exact kk q H1 hP1.swap hD1.swap hS1
theorem ra_int {cA cB : ClassId} (h1 : va_RA s cB .int) (h2 : va_RA s cA .int) : cB = cA := Option.some.inj (h1.symm.trans h2)
theorem ra_bool {cA cB : ClassId} (h1 : va_RA s cB .boolean) (h2 : va_RA s cA .boolean) : cB = cA := Option.some.inj (h1.symm.trans h2)
theorem ra_long {cA cB : ClassId} (h1 : va_RA s cB .long) (h2 : va_RA s cA .long) : cB = cA := Option.some.inj (h1.symm.trans h2)
/-- a call: the rest is as it was, the callee's world stands behind it -/
theorem jn2 {wr wc w1 : va_W} {H1 : Heap} (hP : va_P D cl (wr ++ wc) H) (hD : va_D A (wr ++ wc)) (hk : ∀ q : Nat, q < H.size → ¬ va_A wc H.size q → H1[q]? = H[q]?) (hF : ∀ q, va_A wc H.size q → A q) (hP1 : va_P D cl w1 H1) (hD1 : va_D (va_A wc H.size) w1) : va_P D cl (wr ++ w1) H1 ∧ va_D A (wr ++ w1) := by
  have at_l : ∀ k q, wr[k]? = some q → (wr ++ wc)[k]? = some q := fun k q h => by
    rw [List.getElem?_append_left (List.getElem?_eq_some_iff.mp h).1]
    exact h
  have at_r : ∀ k q, wc[k]? = some q → (wr ++ wc)[wr.length + k]? = some q := fun k q h => by
    rw [List.getElem?_append_right (Nat.le_add_right _ _), Nat.add_sub_cancel_left]
    exact h
  have lt : ∀ (k : Nat) (q : Nat × va_E), wr[k]? = some q → q.1 < H.size := fun k q h => (hP k q (at_l k q h)).lt
  have out : ∀ (k : Nat) (q : Nat × va_E), wr[k]? = some q → ¬ va_A wc H.size q.1 := by
    rintro k q h (⟨j, e, hj⟩ | hj)
    · have := hD.1 k (wr.length + j) q (q.1, e) (at_l k q h) (at_r j _ hj) rfl
      have := (List.getElem?_eq_some_iff.mp h).1
      omega
    · have := lt k q h
      omega
  have P0 : va_P D cl wr H := fun k q h => hP k q (at_l k q h)
  have D0 : va_D A wr := ⟨fun i j p q hi hj e => hD.1 i j p q (at_l i p hi) (at_l j q hj) e, fun k q h => hD.2 k q (at_l k q h)⟩
  refine ⟨(P0.kept (fun k q h => hk q.1 (lt k q h) (out k q h))).app hP1, D0.app (hD1.weaken (fun _ q _ h => hF q.1 h)) (fun i j p q hi hj e => ?_)⟩
  apply out i p hi
  rw [e]
  exact hD1.2 j q hj
/-- what a constructor is given, what it leaves -/
def Kp (D : va_G) (cy : Nat → ClassId) (wc : va_W) (sz : Nat) (U : State) : Prop := U.heap.size = sz ∧ va_P D vwCl wc U.heap ∧ va_K D vwCl (ty3 cy) U ∧ va_D (fun _ => True) wc ∧ va_AOA .long U
def Kq (D : va_G) (wc : va_W) (sz : Nat) (Post : va_W → State → Prop) : Array Value → State → Outcome → State → Prop := va_Qv (fun _ : Unit => True) (fun _ t => ∃ w1 : va_W, Post w1 t ∧ va_P D vwCl w1 t.heap ∧ va_D (va_A wc sz) w1) (va_A wc sz)
def Ki (l : Launch) (D : va_G) (cy : Nat → ClassId) (M : MD) (ci : Nat) (fs : List Value) (Post : Nat → va_W → State → Prop) : Prop := ∀ h0 sz : Nat, Met l M.1 (wsM M) M.2.2.2.2.2 (va_Pc [.ref h0] (Kp D cy [(h0, .inr (ci, fs))] sz)) (Kq D [(h0, .inr (ci, fs))] sz (Post h0)) M.2.2.2.2.2.cells M.2.2.2.2.2.slots (va_A [(h0, .inr (ci, fs))] sz)
theorem aoa_moved {u U : State} (hvm : u.vm.Alike U.vm) (h : va_AOA .long u) : va_AOA .long U := Jvm.Stand.arrayOver_alikeB hvm h
theorem aoa_warm {U : State} (hW : s.WarmedH U.vm) (h : va_AOA .long s) : va_AOA .long U := aoa_moved hW.alike h
/-- a constructor is called on the object that was made last -/
theorem kcall {N : MD} {ci idx nL : Nat} {fs : List Value} {Post : Nat → va_W → State → Prop} {cy : Nat → ClassId} {own : String} {Ts : List Cond} {wr : va_W} {q : Nat} (hM : Ki l D cy N ci fs Post) (hexec : p.tables.exec = Jvm.exec) (hb : c.code = cc) (hml : c.maxLocals = nL) (hown : s.vm.findClass own = some m.cls) (hts : ∀ w ∈ Ts, w.before args s = true) (hw : ∀ w ∈ [Cond.methodLink own idx N.1, .instanceMethod N.1, .initialized N.1.cls], w ∈ Ts) (hg : GoodIn Ts (wsM N)) (hN : N.2.2.1 = 1 ∧ N.2.2.2.1 = none ∧ N.1.name = "<init>") (hy : N.1.cls ≠ "java/lang/invoke/MethodHandle" ∧ N.1.cls ≠ "java/lang/invoke/VarHandle" ∧ (parseMethodDescriptor N.1.desc).map (fun d => d.parameters.length) = some 0) (hR : N.2.2.2.2.2.frames + 1 ≤ R.frames ∧ 8 + (1 + 11) + N.2.2.2.2.2.locals ≤ R.locals)
    (hK : va_K D vwCl (ty3 cy) s) (hO : va_AOA .long s) (hP : va_P D vwCl (wr ++ [(q, .inr (ci, fs))]) H) (hD : va_D A (wr ++ [(q, .inr (ci, fs))])) (hS : va_S A s.heap H locs) (hA : ∀ q, s.heap.size ≤ q → A q) (hl : ls.size = nL) (hcat : (rest.map fun v => v.category).sum ≤ 8) (hdg : decode cc pc = .ok (.invokespecial idx, 3)) (hcs : cells + N.2.2.2.2.2.cells ≤ R.cells ∧ slots + N.2.2.2.2.2.slots ≤ R.slots)
    (kk : ∀ (w1 : va_W) (t : State) (H1 : Heap) (locs1 : List Loc), t.heap = H1 → s.vm.Alike t.vm → Post q w1 t → va_P D vwCl (wr ++ w1) H1 → va_D A (wr ++ w1) → va_S A s.heap H1 locs1 → W p l e R s m args below meth c H1 locs1 (cells + N.2.2.2.2.2.cells) (slots + N.2.2.2.2.2.slots) Q (F0 m (pc + 3) ls rest)) : W p l e R s m args below meth c H locs cells slots Q (F0 m pc ls (.ref q :: rest)) := by
  have lst : (wr ++ [(q, .inr (ci, fs))])[wr.length]? = some (q, .inr (ci, fs)) := by
    rw [List.getElem?_append_right (Nat.le_refl _), Nat.sub_self]
    rfl
  have hPc : va_P D vwCl [(q, .inr (ci, fs))] H := fun k x hk => by
    have : k < 1 := (List.getElem?_eq_some_iff.mp hk).1
    rw [show k = 0 by omega] at hk
    cases hk
    exact hP _ _ lst
  have hDc : va_D (fun _ => True) [(q, .inr (ci, fs))] := ⟨fun i j x y hi hj _ => by
    have h1 : i < 1 := (List.getElem?_eq_some_iff.mp hi).1
    have h2 : j < 1 := (List.getElem?_eq_some_iff.mp hj).1
    omega, fun _ _ _ => trivial⟩
  have hF : ∀ x, va_A [(q, .inr (ci, fs))] H.size x → A x := by
    rintro x (⟨k, e9, hk⟩ | hk)
    · have : k < 1 := (List.getElem?_eq_some_iff.mp hk).1
      rw [show k = 0 by omega] at hk
      cases hk
      exact hD.2 _ _ lst
    · exact hA x (Nat.le_trans hS.1 hk)
  have hcw := cwI (R := R) (rm := N.2.2.2.2.2) (bytes := N.2.1) (maxL := 1) 0 hts hg (show wsM N = Cond.code N.1 N.2.1 1 none :: wsL_law0 by unfold wsM; rw [hN.1, hN.2.1]) rfl rfl (hts (.initialized N.1.cls) (hw _ (by simp))) (hts (.methodLink own idx N.1) (hw _ (by simp))) (hts (.instanceMethod N.1) (hw _ (by simp))) hN.2.2 hy hR
  refine va_callv (va_runI (As := []) (rest := rest) (b := q) ⟨hexec, hb, hml, hown, hts⟩ (hM q H.size) hcw ⟨fun a U f mk x => ?_, fun U hU hW => ⟨rfl, by rw [hU], by rw [hU]; exact hPc, va_K.moved hW.alike hK, hDc, aoa_warm hW hO⟩⟩ rfl rfl hl rfl (lv_room hcat) hdg hcs) hS (fun x _ h => hF x h) hF (fun u t H1 locs1 ht hvm _ hB hz1 hk1 hS1 => ?_)
  · obtain ⟨x0, x1, xP, xK, xD, xO⟩ := x
    exact ⟨x0, x1, xP, va_K.moved (u := U) (U := U.calling f mk a) (Vm.Alike.refl U.vm) xK, xD, aoa_moved (u := U) (U := U.calling f mk a) (Vm.Alike.refl U.vm) xO⟩
  · obtain ⟨w1, hp, hP1, hD1⟩ := hB
    rw [ht] at hP1
    obtain ⟨hP2, hD2⟩ := jn2 hP hD hk1 hF hP1 hD1
    exact kk w1 t H1 locs1 ht hvm hp hP2 hD2 hS1
/-- an object, its fields as they are born -/
theorem nwO {X PL : va_W} {own C : String} {T : u_T} {N ci index : Nat} {Ts : List Cond} (hexec : p.tables.exec = Jvm.exec) (hb : c.code = cc) (hts : ∀ w ∈ Ts, w.before args s = true) (hin : ∀ w ∈ u_ws C T N, w ∈ Ts) (ty : Nat → FieldType) (hty : ∀ k, k < N → parseFieldDescriptor (T k).2.2.1 = some (ty k)) (hown : s.vm.findClass own = some m.cls) (hw : ∀ w ∈ [Cond.classLink own index C, .instantiable C N, .initialized C], w ∈ Ts) (hK : va_K D cl tys s) (hP : va_P D cl (X ++ PL) H) (hD : va_D A (X ++ PL)) (hS : va_S A H0 H locs) (hA : ∀ q, H0.size ≤ q → A q) (hc : cl[ci]? = some (C, T, N)) {fs : List Value} (hfs : ∀ j, j < N → defaultValue (ty j) = vp_V fs j) (hcells : cells + 1 ≤ R.cells) (hslots : slots + N ≤ R.slots) (hdg : decode cc pc = .ok (.new index, 3))
    (kk : ∀ (q : Nat) (H1 : Heap), va_P D cl ((X ++ PL) ++ [(q, .inr (ci, fs))]) H1 → va_D A ((X ++ PL) ++ [(q, .inr (ci, fs))]) → va_S A H0 H1 locs →
      W p l e R s m args below meth c H1 locs (cells + 1) (slots + N) Q (F0 m (pc + 3) ls (.ref q :: rest))) : W p l e R s m args below meth c H locs cells slots Q (F0 m pc ls rest) :=
  va_new hexec hb hts hin ty hty hown (hts _ (hw _ (by simp))) (hts _ (hw _ (by simp))) (hts _ (hw _ (by simp))) hK hP hD hS hA hc hfs hcells hslots hdg kk
end CON
abbrev mX0_init : MD := (yX0_init, cX0_init, 1, none, RX0, { frames := 1, cells := 0, slots := 0, locals := 12 })
abbrev fX0 (h0 : Nat) : va_W := [(h0, .inr (0, [.int 0, .int 0, .int 0, .int 0, .int 0, .int 0]))]
abbrev wX0 (cy : Nat → ClassId) (h0 : Nat) : va_W := [(h0, .inr (0, [.int 0, .int (-1), .int 0, .int 0, .int 0, .int 0]))]
def pX0 (D : va_G) (cy : Nat → ClassId) (h0 : Nat) (w1 : va_W) (t : State) : Prop := w1 = wX0 cy h0 ++ []
set_option maxHeartbeats 4000000 in
set_option maxRecDepth 100000 in
theorem kX0_init (l : Launch) (D : va_G) (cy : Nat → ClassId) : Ki l D cy mX0_init 0 [.int 0, .int 0, .int 0, .int 0, .int 0, .int 0] (pX0 D cy) := by
  intro h0 sz
  refine Met.ofW (cc := cX0_init) (maxL := 1) (ret := none) (by decide) rfl ?_
  intro p e s m args below meth c s₁ B hml hv
  obtain ⟨rfl, hsz, hP, hK, hD0, hO⟩ := hv
  have hx := B.exec
  have hb := B.bytes
  have hr := B.returns
  have hts0 := atoms_spec (ws := wsM mX0_init) B.pre
  have hts : ∀ w ∈ wsL_law0, w.before #[Value.ref h0] s = true := fun w hw => hts0 w (List.mem_cons_of_mem _ hw)
  have hown : s.vm.findClass RX0 = some m.cls := findClass_of_methodNamed B.named
  have hlocks := B.notSynchronized
  have hin : meth.name = "<init>" := (name_of_methodNamed B.named B.method).1
  subst hsz
  have hD := hD0.self (sz := s.heap.size)
  generalize hAe : va_A (fX0 h0) s.heap.size = A at hD ⊢
  have hA : ∀ q : Nat, s.heap.size ≤ q → A q := fun q h => by rw [← hAe]; exact Or.inr h
  have hS : va_S A s.heap s.heap [] := va_S.rf
  have hP : va_P D vwCl ([(h0, .inr (0, [.int 0, .int 0, .int 0, .int 0, .int 0, .int 0]))] ++ []) s.heap := hP
  have hD : va_D A ([(h0, .inr (0, [.int 0, .int 0, .int 0, .int 0, .int 0, .int 0]))] ++ []) := hD
  have hl := lv_entry ([.ref h0]) (n := 1) (Nat.le_of_ble_eq_true rfl)
  rw [lg_entry_eq]
  generalize (lg_sl ([.ref h0]) ++ List.replicate (1 - (lg_sl ([.ref h0])).length) Slot.unset).toArray = ls at hl ⊢
  have hl : lv_has ls 1 [(0, .ref h0)] := hl
  refine lv_aload_n hx hb dX0_init_0 rfl (lv_at hl 0 rfl) ?_
  refine W.objInit hx hb hown (hts (.methodLink RX0 3 objectInit) (by decide +kernel)) (hts (.instanceMethod objectInit) (by decide +kernel)) (hts (.code objectInit ⟨#[0xb1]⟩ 1 none) (by decide +kernel)) rfl (by rw [hml]; exact hl.1) rfl dX0_init_1 (Nat.le_of_ble_eq_true rfl) (Nat.le_of_ble_eq_true rfl) ?_
  refine W.eq (g2 := F0 m 4 ls []) rfl ?_
  refine lv_aload_n hx hb dX0_init_4 rfl (lv_at hl 0 rfl) ?_
  refine lv_iconst (v := 0) hx hb dX0_init_5 (by decide) ?_
  refine va_put (D := D) (ci := 0) (v := .int 0) (ty := .boolean) (C := RX0) (T := TX0) (N := 6) hx hb hts inlX0 tyX0 tyX0_ok nmX0 hown hK hP hD hS 0 rfl rfl 0 (by decide) (hts (.fieldLink RX0 9 "BuiltIndex$Disk" "down" "Z") (by decide +kernel)) (fun _ h9 => h9) rfl (by decide +kernel) rfl rfl (Nat.le_of_ble_eq_true rfl) dX0_init_6 (fun H locs hP hD hS => ?_)
  have hP : va_P D vwCl ([(h0, .inr (0, [.int 0, .int 0, .int 0, .int 0, .int 0, .int 0]))] ++ []) H := hP
  have hD : va_D A ([(h0, .inr (0, [.int 0, .int 0, .int 0, .int 0, .int 0, .int 0]))] ++ []) := hD
  refine lv_aload_n hx hb dX0_init_9 rfl (lv_at hl 0 rfl) ?_
  refine lv_iconst (v := (-1)) hx hb dX0_init_10 (by decide) ?_
  refine va_put (D := D) (ci := 0) (v := .int (-1)) (ty := .int) (C := RX0) (T := TX0) (N := 6) hx hb hts inlX0 tyX0 tyX0_ok nmX0 hown hK hP hD hS 0 rfl rfl 1 (by decide) (hts (.fieldLink RX0 15 "BuiltIndex$Disk" "blocksTillLoss" "I") (by decide +kernel)) (fun _ h9 => h9) rfl (by decide +kernel) rfl rfl (Nat.le_of_ble_eq_true rfl) dX0_init_11 (fun H locs hP hD hS => ?_)
  have hP : va_P D vwCl ([(h0, .inr (0, [.int 0, .int (-1), .int 0, .int 0, .int 0, .int 0]))] ++ []) H := hP
  have hD : va_D A ([(h0, .inr (0, [.int 0, .int (-1), .int 0, .int 0, .int 0, .int 0]))] ++ []) := hD
  refine lv_aload_n hx hb dX0_init_14 rfl (lv_at hl 0 rfl) ?_
  refine lv_iconst (v := 0) hx hb dX0_init_15 (by decide) ?_
  refine va_put (D := D) (ci := 0) (v := .int 0) (ty := .int) (C := RX0) (T := TX0) (N := 6) hx hb hts inlX0 tyX0 tyX0_ok nmX0 hown hK hP hD hS 0 rfl rfl 2 (by decide) (hts (.fieldLink RX0 19 "BuiltIndex$Disk" "allBlocks" "I") (by decide +kernel)) (fun _ h9 => h9) rfl (by decide +kernel) rfl rfl (Nat.le_of_ble_eq_true rfl) dX0_init_16 (fun H locs hP hD hS => ?_)
  have hP : va_P D vwCl ([(h0, .inr (0, [.int 0, .int (-1), .int 0, .int 0, .int 0, .int 0]))] ++ []) H := hP
  have hD : va_D A ([(h0, .inr (0, [.int 0, .int (-1), .int 0, .int 0, .int 0, .int 0]))] ++ []) := hD
  refine lv_aload_n hx hb dX0_init_19 rfl (lv_at hl 0 rfl) ?_
  refine lv_iconst (v := 0) hx hb dX0_init_20 (by decide) ?_
  refine va_put (D := D) (ci := 0) (v := .int 0) (ty := .int) (C := RX0) (T := TX0) (N := 6) hx hb hts inlX0 tyX0 tyX0_ok nmX0 hown hK hP hD hS 0 rfl rfl 3 (by decide) (hts (.fieldLink RX0 22 "BuiltIndex$Disk" "checkpointBlocks" "I") (by decide +kernel)) (fun _ h9 => h9) rfl (by decide +kernel) rfl rfl (Nat.le_of_ble_eq_true rfl) dX0_init_21 (fun H locs hP hD hS => ?_)
  have hP : va_P D vwCl ([(h0, .inr (0, [.int 0, .int (-1), .int 0, .int 0, .int 0, .int 0]))] ++ []) H := hP
  have hD : va_D A ([(h0, .inr (0, [.int 0, .int (-1), .int 0, .int 0, .int 0, .int 0]))] ++ []) := hD
  refine lv_aload_n hx hb dX0_init_24 rfl (lv_at hl 0 rfl) ?_
  refine lv_iconst (v := 0) hx hb dX0_init_25 (by decide) ?_
  refine va_put (D := D) (ci := 0) (v := .int 0) (ty := .int) (C := RX0) (T := TX0) (N := 6) hx hb hts inlX0 tyX0 tyX0_ok nmX0 hown hK hP hD hS 0 rfl rfl 4 (by decide) (hts (.fieldLink RX0 25 "BuiltIndex$Disk" "checkpoints" "I") (by decide +kernel)) (fun _ h9 => h9) rfl (by decide +kernel) rfl rfl (Nat.le_of_ble_eq_true rfl) dX0_init_26 (fun H locs hP hD hS => ?_)
  have hP : va_P D vwCl ([(h0, .inr (0, [.int 0, .int (-1), .int 0, .int 0, .int 0, .int 0]))] ++ []) H := hP
  have hD : va_D A ([(h0, .inr (0, [.int 0, .int (-1), .int 0, .int 0, .int 0, .int 0]))] ++ []) := hD
  refine lv_aload_n hx hb dX0_init_29 rfl (lv_at hl 0 rfl) ?_
  refine lv_iconst (v := 0) hx hb dX0_init_30 (by decide) ?_
  refine va_put (D := D) (ci := 0) (v := .int 0) (ty := .int) (C := RX0) (T := TX0) (N := 6) hx hb hts inlX0 tyX0 tyX0_ok nmX0 hown hK hP hD hS 0 rfl rfl 5 (by decide) (hts (.fieldLink RX0 28 "BuiltIndex$Disk" "writesSince" "I") (by decide +kernel)) (fun _ h9 => h9) rfl (by decide +kernel) rfl rfl (Nat.le_of_ble_eq_true rfl) dX0_init_31 (fun H locs hP hD hS => ?_)
  have hP : va_P D vwCl ([(h0, .inr (0, [.int 0, .int (-1), .int 0, .int 0, .int 0, .int 0]))] ++ []) H := hP
  have hD : va_D A ([(h0, .inr (0, [.int 0, .int (-1), .int 0, .int 0, .int 0, .int 0]))] ++ []) := hD
  refine W.widen (k := 0) (n := 0) (Nat.le_of_ble_eq_true rfl) (Nat.le_of_ble_eq_true rfl) ?_
  subst hAe
  exact W.vret hx hb hr (fun t ht hW => ⟨⟨(), rfl, trivial, _, rfl, by rw [ht]; exact hP, hD⟩, hS.F ht⟩) hS.2.2 dX0_init_34 hlocks
abbrev mX1_init : MD := (yX1_init, cX1_init, 1, none, RX1, { frames := 1, cells := 0, slots := 0, locals := 12 })
abbrev fX1 (h0 : Nat) : va_W := [(h0, .inr (1, [.int 0, .int 0, .int 0, .int 0]))]
abbrev wX1 (cy : Nat → ClassId) (h0 : Nat) : va_W := [(h0, .inr (1, [.int 1, .int 0, .int 0, .int 0]))]
def pX1 (D : va_G) (cy : Nat → ClassId) (h0 : Nat) (w1 : va_W) (t : State) : Prop := w1 = wX1 cy h0 ++ []
set_option maxHeartbeats 4000000 in
set_option maxRecDepth 100000 in
theorem kX1_init (l : Launch) (D : va_G) (cy : Nat → ClassId) : Ki l D cy mX1_init 1 [.int 0, .int 0, .int 0, .int 0] (pX1 D cy) := by
  intro h0 sz
  refine Met.ofW (cc := cX1_init) (maxL := 1) (ret := none) (by decide) rfl ?_
  intro p e s m args below meth c s₁ B hml hv
  obtain ⟨rfl, hsz, hP, hK, hD0, hO⟩ := hv
  have hx := B.exec
  have hb := B.bytes
  have hr := B.returns
  have hts0 := atoms_spec (ws := wsM mX1_init) B.pre
  have hts : ∀ w ∈ wsL_law0, w.before #[Value.ref h0] s = true := fun w hw => hts0 w (List.mem_cons_of_mem _ hw)
  have hown : s.vm.findClass RX1 = some m.cls := findClass_of_methodNamed B.named
  have hlocks := B.notSynchronized
  have hin : meth.name = "<init>" := (name_of_methodNamed B.named B.method).1
  subst hsz
  have hD := hD0.self (sz := s.heap.size)
  generalize hAe : va_A (fX1 h0) s.heap.size = A at hD ⊢
  have hA : ∀ q : Nat, s.heap.size ≤ q → A q := fun q h => by rw [← hAe]; exact Or.inr h
  have hS : va_S A s.heap s.heap [] := va_S.rf
  have hP : va_P D vwCl ([(h0, .inr (1, [.int 0, .int 0, .int 0, .int 0]))] ++ []) s.heap := hP
  have hD : va_D A ([(h0, .inr (1, [.int 0, .int 0, .int 0, .int 0]))] ++ []) := hD
  have hl := lv_entry ([.ref h0]) (n := 1) (Nat.le_of_ble_eq_true rfl)
  rw [lg_entry_eq]
  generalize (lg_sl ([.ref h0]) ++ List.replicate (1 - (lg_sl ([.ref h0])).length) Slot.unset).toArray = ls at hl ⊢
  have hl : lv_has ls 1 [(0, .ref h0)] := hl
  refine lv_aload_n hx hb dX1_init_0 rfl (lv_at hl 0 rfl) ?_
  refine W.objInit hx hb hown (hts (.methodLink RX1 3 objectInit) (by decide +kernel)) (hts (.instanceMethod objectInit) (by decide +kernel)) (hts (.code objectInit ⟨#[0xb1]⟩ 1 none) (by decide +kernel)) rfl (by rw [hml]; exact hl.1) rfl dX1_init_1 (Nat.le_of_ble_eq_true rfl) (Nat.le_of_ble_eq_true rfl) ?_
  refine W.eq (g2 := F0 m 4 ls []) rfl ?_
  refine lv_aload_n hx hb dX1_init_4 rfl (lv_at hl 0 rfl) ?_
  refine lv_iconst (v := 1) hx hb dX1_init_5 (by decide) ?_
  refine va_put (D := D) (ci := 1) (v := .int 1) (ty := .boolean) (C := RX1) (T := TX1) (N := 4) hx hb hts inlX1 tyX1 tyX1_ok nmX1 hown hK hP hD hS 0 rfl rfl 0 (by decide) (hts (.fieldLink RX1 9 "BuiltIndex$Loader" "makesLeaves" "Z") (by decide +kernel)) (fun _ h9 => h9) rfl (by decide +kernel) rfl rfl (Nat.le_of_ble_eq_true rfl) dX1_init_6 (fun H locs hP hD hS => ?_)
  have hP : va_P D vwCl ([(h0, .inr (1, [.int 1, .int 0, .int 0, .int 0]))] ++ []) H := hP
  have hD : va_D A ([(h0, .inr (1, [.int 1, .int 0, .int 0, .int 0]))] ++ []) := hD
  refine lv_aload_n hx hb dX1_init_9 rfl (lv_at hl 0 rfl) ?_
  refine lv_iconst (v := 0) hx hb dX1_init_10 (by decide) ?_
  refine va_put (D := D) (ci := 1) (v := .int 0) (ty := .int) (C := RX1) (T := TX1) (N := 4) hx hb hts inlX1 tyX1 tyX1_ok nmX1 hown hK hP hD hS 0 rfl rfl 1 (by decide) (hts (.fieldLink RX1 15 "BuiltIndex$Loader" "next" "I") (by decide +kernel)) (fun _ h9 => h9) rfl (by decide +kernel) rfl rfl (Nat.le_of_ble_eq_true rfl) dX1_init_11 (fun H locs hP hD hS => ?_)
  have hP : va_P D vwCl ([(h0, .inr (1, [.int 1, .int 0, .int 0, .int 0]))] ++ []) H := hP
  have hD : va_D A ([(h0, .inr (1, [.int 1, .int 0, .int 0, .int 0]))] ++ []) := hD
  refine lv_aload_n hx hb dX1_init_14 rfl (lv_at hl 0 rfl) ?_
  refine lv_iconst (v := 0) hx hb dX1_init_15 (by decide) ?_
  refine va_put (D := D) (ci := 1) (v := .int 0) (ty := .int) (C := RX1) (T := TX1) (N := 4) hx hb hts inlX1 tyX1 tyX1_ok nmX1 hown hK hP hD hS 0 rfl rfl 2 (by decide) (hts (.fieldLink RX1 19 "BuiltIndex$Loader" "end" "I") (by decide +kernel)) (fun _ h9 => h9) rfl (by decide +kernel) rfl rfl (Nat.le_of_ble_eq_true rfl) dX1_init_16 (fun H locs hP hD hS => ?_)
  have hP : va_P D vwCl ([(h0, .inr (1, [.int 1, .int 0, .int 0, .int 0]))] ++ []) H := hP
  have hD : va_D A ([(h0, .inr (1, [.int 1, .int 0, .int 0, .int 0]))] ++ []) := hD
  refine lv_aload_n hx hb dX1_init_19 rfl (lv_at hl 0 rfl) ?_
  refine lv_iconst (v := 0) hx hb dX1_init_20 (by decide) ?_
  refine va_put (D := D) (ci := 1) (v := .int 0) (ty := .int) (C := RX1) (T := TX1) (N := 4) hx hb hts inlX1 tyX1 tyX1_ok nmX1 hown hK hP hD hS 0 rfl rfl 3 (by decide) (hts (.fieldLink RX1 22 "BuiltIndex$Loader" "rowBegin" "I") (by decide +kernel)) (fun _ h9 => h9) rfl (by decide +kernel) rfl rfl (Nat.le_of_ble_eq_true rfl) dX1_init_21 (fun H locs hP hD hS => ?_)
  have hP : va_P D vwCl ([(h0, .inr (1, [.int 1, .int 0, .int 0, .int 0]))] ++ []) H := hP
  have hD : va_D A ([(h0, .inr (1, [.int 1, .int 0, .int 0, .int 0]))] ++ []) := hD
  refine W.widen (k := 0) (n := 0) (Nat.le_of_ble_eq_true rfl) (Nat.le_of_ble_eq_true rfl) ?_
  subst hAe
  exact W.vret hx hb hr (fun t ht hW => ⟨⟨(), rfl, trivial, _, rfl, by rw [ht]; exact hP, hD⟩, hS.F ht⟩) hS.2.2 dX1_init_24 hlocks
