/-! the abstract world: 118 cells by number; values of the abstract machine; a method's judgement over it -/
abbrev AV : Type := Int32 ⊕ Int64 ⊕ Nat ⊕ Nat
abbrev vI (x : Int32) : AV := .inl x
abbrev vL (x : Int64) : AV := .inr (.inl x)
abbrev vR (c : Nat) : AV := .inr (.inr (.inl c))
abbrev vW (k : Nat) : AV := .inr (.inr (.inr k))
/-- ints by cell and place; longs by cell and place; the rows of the nodes -/
abbrev Hp : Type := (Nat → Nat → Int32) × (Nat → Nat → Int64) × (Nat → Nat → Int64)
/-- a launch, the classes' numbers and slots, the cells' addresses, the arrays' classes -/
abbrev GG : Type := Launch × va_G × (Nat → Nat) × (Nat → ClassId)
def ro (q : Nat → Nat) : AV → Value
  | .inl x => .int x
  | .inr (.inl x) => .long x
  | .inr (.inr (.inl c)) => .ref (q c)
  | .inr (.inr (.inr k)) => .ref (q (54 + k))
def shL : List ((Nat × List (Option Nat)) ⊕ (Nat × Nat)) := [.inl (6, [some 1, some 6, none, none, none, none, none, none, some 7, some 12, some 13, some 16, some 26, none, none]), .inl (4, [some 2, some 3, some 4, some 5, none]), .inr (0, 240), .inr (0, 240), .inr (1, 240), .inr (1, 20), .inl (0, [none, none, none, none, none, none]), .inl (3, [some 8, none, some 9, some 10, none, some 11, none]), .inr (2, 36), .inr (2, 240), .inr (2, 240), .inr (0, 11), .inl (1, [none, none, none, none]), .inl (2, [some 14, some 15, none, none]), .inr (2, 40), .inr (1, 40), .inl (5, [some 17, some 18, some 19, some 20, some 21, none, none, none, some 22, some 23, none, some 24, some 25]), .inr (3, 64), .inr (0, 64), .inr (1, 64), .inr (1, 64), .inr (1, 64), .inr (0, 64), .inr (0, 64), .inr (0, 64), .inr (0, 64), .inr (0, 240), .inl (7, [none, some 28, some 29, some 30, none, none, none, none, none, none, some 31, none, none, none, none, none, none, none, some 32, some 33, none, some 34, none, some 35, some 36, some 37, none, none, none, some 38, none, none, some 39, none, none, some 40, some 41, some 42, some 43, some 44, some 45, some 46, none, some 47, none, none, some 48, some 49, some 50, some 51, none, some 52]), .inr (1, 240), .inr (0, 240), .inr (0, 240), .inr (1, 20), .inr (0, 240), .inr (0, 240), .inr (0, 40), .inr (1, 40), .inr (0, 40), .inr (0, 40), .inr (0, 80), .inr (0, 80), .inr (1, 80), .inr (1, 80), .inr (1, 80), .inr (0, 80), .inr (0, 720), .inr (0, 720), .inr (0, 720), .inr (0, 240), .inr (0, 16), .inr (0, 16), .inr (0, 240), .inr (0, 240), .inr (0, 80), .inr (2, 1)]
def sh (c : Nat) : (Nat × List (Option Nat)) ⊕ (Nat × Nat) := shL.getD c (.inr (2, 9))
def flV (q : Nat → Nat) (f : Nat → Int32) (k : Nat) (o : Option Nat) : Value := match o with
  | none => .int (f k)
  | some c => .ref (q c)
def ceR (q : Nat → Nat) (cy : Nat → ClassId) (c : Nat) (f : Nat → Int32) (j : Nat → Int64) : va_E := match sh c with
  | .inl (ci, fs) => .inr (ci, fs.mapIdx (fun k o => flV q f k o))
  | .inr (0, n) => .inl (cy 0, n, .inl f)
  | .inr (1, n) => .inl (cy 1, n, .inl f)
  | .inr (2, n) => .inl (cy 2, n, .inr (.inl j))
  | .inr (_, n) => .inl (cy 3, n, .inr (.inr (.inr (.inr (fun i => some (q (54 + i)))))))
def lgs (h : Hp) (c : Nat) : Nat → Int64 := if c < 54 then h.2.1 c else h.2.2 (c - 54)
def cel (g : GG) (h : Hp) (c : Nat) : va_E := ceR g.2.2.1 g.2.2.2 c (h.1 c) (lgs h c)
def wo (g : GG) (h : Hp) : va_W := (List.range 118).map (fun c => (g.2.2.1 c, cel g h c))
def sI (h : Hp) (c : Nat) (f : Nat → Int32) : Hp := (va_up h.1 c f, h.2)
def sJ (h : Hp) (c : Nat) (f : Nat → Int64) : Hp := (h.1, va_up h.2.1 c f, h.2.2)
def sW (h : Hp) (k : Nat) (f : Nat → Int64) : Hp := (h.1, h.2.1, va_up h.2.2 k f)
def Aw (g : GG) : Nat → Prop := fun a => ∃ c, c < 118 ∧ a = g.2.2.1 c
def WD (g : GG) : Prop := ∀ i j, i < 118 → j < 118 → g.2.2.1 i = g.2.2.1 j → i = j
abbrev tyL (g : GG) : List (ClassId × FieldType) := [(g.2.2.2 0, .int), (g.2.2.2 1, .boolean), (g.2.2.2 2, .long), (g.2.2.2 3, .array .long)]
def nwL : List Cond := [.methodLinkNest RX5 108 yX6_keyOf RX6, .methodLinkNest RX5 112 yX6_placeOf RX6, .methodLinkNest RX5 115 yX6_entryOf RX6]
def WK (g : GG) (U : State) : Prop := va_K g.2.1 vwCl (tyL g) U ∧ ∀ w ∈ nwL, va_Nw w U
theorem WK.moved {g : GG} {s U : State} (hW : s.WarmedH U.vm) (h : WK g s) : WK g U := by
  refine ⟨va_K.moved hW.alike h.1, fun w hw => ?_⟩
  have h2 := h.2 w hw
  simp only [nwL, List.mem_cons, List.not_mem_nil, or_false] at hw
  rcases hw with rfl | rfl | rfl <;> exact va_Nw.warmM hW h2
theorem WK.calling {g : GG} {U : State} (h : WK g U) (f : JFrame) (mk : MethodId) (a : Array Value) : WK g (U.calling f mk a) := by
  refine ⟨va_K.moved (u := U) (U := U.calling f mk a) (Vm.Alike.refl U.vm) h.1, fun w hw => ?_⟩
  have h2 := h.2 w hw
  simp only [nwL, List.mem_cons, List.not_mem_nil, or_false] at hw
  rcases hw with rfl | rfl | rfl <;> exact va_Nw.same rfl (u := U) rfl h2
theorem wo_at (g : GG) (h : Hp) {c : Nat} (hc : c < 118) : (wo g h)[c]? = some (g.2.2.1 c, cel g h c) := by
  unfold wo
  rw [List.getElem?_map, List.getElem?_range hc]
  rfl
theorem wo_lt {g : GG} {h : Hp} {c : Nat} {q : Nat × va_E} (hc : (wo g h)[c]? = some q) : c < 118 := by
  have := (List.getElem?_eq_some_iff.mp hc).1
  simpa [wo] using this
theorem wo_D {g : GG} (hg : WD g) (h : Hp) : va_D (Aw g) (wo g h) := by
  refine ⟨fun i j p q hi hj e => ?_, fun k q hk => ?_⟩
  · have h1 := wo_lt hi
    have h2 := wo_lt hj
    rw [wo_at g h h1] at hi
    rw [wo_at g h h2] at hj
    cases hi
    cases hj
    exact hg i j h1 h2 e
  · have h1 := wo_lt hk
    rw [wo_at g h h1] at hk
    cases hk
    exact ⟨k, h1, rfl⟩
theorem wo_set {g : GG} {h h' : Hp} {c : Nat} {e : va_E} (hc : c < 118) (he : cel g h' c = e) (ho : ∀ d, d ≠ c → cel g h' d = cel g h d) : (wo g h).set c (g.2.2.1 c, e) = wo g h' := by
  apply List.ext_getElem?
  intro i
  by_cases hi : i < 118
  · rw [wo_at g h' hi]
    by_cases e1 : i = c
    · subst e1
      rw [List.getElem?_set_self (by simpa [wo] using hi), he]
    · rw [List.getElem?_set_ne (Ne.symm e1), wo_at g h hi, ho i e1]
  · rw [List.getElem?_eq_none (by simp [wo]; omega), List.getElem?_eq_none (by simp [wo]; omega)]
theorem cel_sI_ne (g : GG) (h : Hp) (f : Nat → Int32) {c d : Nat} (hd : d ≠ c) : cel g (sI h c f) d = cel g h d := by
  show ceR _ _ d (va_up h.1 c f d) (lgs (sI h c f) d) = _
  rw [va_up_ne _ _ hd]
  rfl
theorem cel_sI (g : GG) (h : Hp) (f : Nat → Int32) (c : Nat) : cel g (sI h c f) c = ceR g.2.2.1 g.2.2.2 c f (lgs h c) := by
  show ceR _ _ c (va_up h.1 c f c) (lgs (sI h c f) c) = _
  rw [va_up_self]
  rfl
theorem cel_sJ_ne (g : GG) (h : Hp) (f : Nat → Int64) {c d : Nat} (hd : d ≠ c) : cel g (sJ h c f) d = cel g h d := by
  show ceR _ _ d (h.1 d) (lgs (sJ h c f) d) = ceR _ _ d (h.1 d) (lgs h d)
  unfold lgs sJ
  dsimp only
  rw [va_up_ne _ _ hd]
theorem cel_sJ (g : GG) (h : Hp) (f : Nat → Int64) {c : Nat} (hc : c < 54) : cel g (sJ h c f) c = ceR g.2.2.1 g.2.2.2 c (h.1 c) f := by
  show ceR _ _ c (h.1 c) (lgs (sJ h c f) c) = _
  unfold lgs sJ
  dsimp only
  rw [if_pos hc, va_up_self]
theorem cel_sW_ne (g : GG) (h : Hp) (f : Nat → Int64) {k d : Nat} (hd : d ≠ 54 + k) : cel g (sW h k f) d = cel g h d := by
  show ceR _ _ d (h.1 d) (lgs (sW h k f) d) = ceR _ _ d (h.1 d) (lgs h d)
  unfold lgs sW
  dsimp only
  by_cases hc : d < 54
  · rw [if_pos hc, if_pos hc]
  · rw [if_neg hc, if_neg hc, va_up_ne _ _ (show d - 54 ≠ k by omega)]
theorem sh_big (k : Nat) : sh (54 + k) = .inr (2, 9) := by
  unfold sh
  rw [List.getD_eq_getElem?_getD, List.getElem?_eq_none (by simp [shL])]
  rfl
theorem cel_sW (g : GG) (h : Hp) (f : Nat → Int64) (k : Nat) : cel g (sW h k f) (54 + k) = .inl (g.2.2.2 2, 9, .inr (.inl f)) := by
  show ceR _ _ (54 + k) (h.1 (54 + k)) (lgs (sW h k f) (54 + k)) = _
  unfold lgs sW
  dsimp only
  rw [if_neg (by omega), show 54 + k - 54 = k by omega, va_up_self]
  unfold ceR
  rw [sh_big k]
  rfl
theorem cel_row (g : GG) (h : Hp) (k : Nat) : cel g h (54 + k) = .inl (g.2.2.2 2, 9, .inr (.inl (h.2.2 k))) := by
  show ceR _ _ (54 + k) (h.1 (54 + k)) (lgs h (54 + k)) = _
  unfold lgs
  rw [if_neg (by omega), show 54 + k - 54 = k by omega]
  unfold ceR
  rw [sh_big k]
  rfl
theorem cel_obj (g : GG) (h : Hp) {c ci : Nat} {fs : List (Option Nat)} (hs : sh c = .inl (ci, fs)) : cel g h c = .inr (ci, fs.mapIdx (fun k o => flV g.2.2.1 (h.1 c) k o)) := by
  unfold cel ceR
  rw [hs]
theorem cel_i (g : GG) (h : Hp) {c n : Nat} (hs : sh c = .inr (0, n)) : cel g h c = .inl (g.2.2.2 0, n, .inl (h.1 c)) := by
  unfold cel ceR
  rw [hs]
  rfl
theorem cel_z (g : GG) (h : Hp) {c n : Nat} (hs : sh c = .inr (1, n)) : cel g h c = .inl (g.2.2.2 1, n, .inl (h.1 c)) := by
  unfold cel ceR
  rw [hs]
  rfl
theorem cel_j (g : GG) (h : Hp) {c n : Nat} (hs : sh c = .inr (2, n)) (hc : c < 54) : cel g h c = .inl (g.2.2.2 2, n, .inr (.inl (h.2.1 c))) := by
  unfold cel ceR lgs
  rw [hs, if_pos hc]
  rfl
theorem cel_g (g : GG) (h : Hp) {c n : Nat} (hs : sh c = .inr (3, n)) : cel g h c = .inl (g.2.2.2 3, n, .inr (.inr (.inr (.inr (fun i => some (g.2.2.1 (54 + i))))))) := by
  unfold cel ceR
  rw [hs]
  rfl
/-! methods: name, code, locals, what it returns, its class, its room -/
abbrev MD : Type := MethodName × ByteArray × Nat × Option FieldType × String × Room
def wsM (M : MD) : List Cond := .code M.1 M.2.1 M.2.2.1 M.2.2.2.1 :: wsL_law0
def Qx (g : GG) (Q : Option AV → Hp → Prop) : Array Value → State → Outcome → State → Prop := fun _ st o t => (∃ (v : Option AV) (h : Hp), o = .returned (v.map (ro g.2.2.1)) ∧ Q v h ∧ va_P g.2.1 vwCl (wo g h) t.heap) ∧ va_F (Aw g) st t
def Px (g : GG) (h : Hp) (as : List AV) : Array Value → State → Prop := va_Pc (as.map (ro g.2.2.1)) (fun U => va_P g.2.1 vwCl (wo g h) U.heap ∧ WK g U)
/-- the method, called with these values in this world, comes back with Q -/
def EvM (M : MD) (as : List AV) (h : Hp) (Q : Option AV → Hp → Prop) : Prop := ∀ g : GG, WD g → Met g.1 M.1 (wsM M) M.2.2.2.2.2 (Px g h as) (Qx g Q) 0 0 (Aw g)
def Bd (M : MD) (g : GG) (p : Program) (s : State) (m : MethodId) (args : Array Value) (meth : Method) (c : Code) : Prop := p.tables.exec = Jvm.exec ∧ c.code = M.2.1 ∧ meth.sig.returnType = M.2.2.2.1 ∧ meth.locks = false ∧ c.maxLocals = M.2.2.1 ∧ s.vm.findClass M.2.2.2.2.1 = some m.cls ∧ (∀ w ∈ wsL_law0, w.before args s = true) ∧ WK g s
abbrev lm (q : Nat → Nat) (L : List (Nat × AV)) : List (Nat × Value) := L.map (fun x => (x.1, ro q x.2))
/-- what a walk is to: where it may write, the cells and slots made so far, its end, what it may use -/
abbrev KT : Type := (GG → State → Nat → Prop) × (Nat × Nat) × (GG → List Frame → Array Value → State → State → Prop) × (GG → Program → State → Array Value → Code → Prop)
/-- the method at this place of its code, with these locals, this stack, this world, comes to its end -/
def EvK (M : MD) (K : KT) (pc : Nat) (L : List (Nat × AV)) (st : List AV) (h : Hp) : Prop :=
  ∀ g : GG, WD g → ∀ (p : Program) (e : Env) (s : State) (m : MethodId) (args : Array Value) (below : List Frame) (meth : Method) (c : Code), Bd M g p s m args meth c →
    (∀ x, x < 118 → K.1 g s (g.2.2.1 x)) → (K.2.1.1 ≤ M.2.2.2.2.2.cells ∧ K.2.1.2 ≤ M.2.2.2.2.2.slots) → K.2.2.2 g p s args c →
    ∀ (H : Heap) (locs : List Loc) (ls : Array Slot), va_P g.2.1 vwCl (wo g h) H → va_S (K.1 g s) s.heap H locs → lv_has ls M.2.2.1 (lm g.2.2.1 L) →
      W p g.1 e M.2.2.2.2.2 s m args below meth c H locs K.2.1.1 K.2.1.2 (K.2.2.1 g below args s) (F0 m pc ls (st.map (ro g.2.2.1)))
abbrev kQ (Q : Option AV → Hp → Prop) : KT := (fun g _ => Aw g, (0, 0), fun g below args s => MQ below (Qx g Q) args s 0 0 (Aw g), fun _ _ _ _ _ => True)
abbrev Ev (M : MD) (pc : Nat) (L : List (Nat × AV)) (st : List AV) (h : Hp) (Q : Option AV → Hp → Prop) : Prop := EvK M (kQ Q) pc L st h
theorem wo_DA {g : GG} (hg : WD g) {A : Nat → Prop} (hA : ∀ x, x < 118 → A (g.2.2.1 x)) (h : Hp) : va_D A (wo g h) := (wo_D hg h).weaken (fun _ _ _ q => by obtain ⟨x, h1, h2⟩ := q; rw [h2]; exact hA x h1)
theorem Aw_in {g : GG} {A : Nat → Prop} (hA : ∀ x, x < 118 → A (g.2.2.1 x)) (a : Nat) (h : Aw g a) : A a := by
  obtain ⟨x, h1, h2⟩ := h
  rw [h2]
  exact hA x h1
def lk : List (Nat × AV) → Nat → Option AV
  | [], _ => none
  | (j, v) :: t, i => cond (Nat.beq j i) (some v) (lk t i)
theorem lk_mem : ∀ {L : List (Nat × AV)} {i : Nat} {v : AV}, lk L i = some v → (i, v) ∈ L
  | [], _, _, h => by cases h
  | (j, w) :: t, i, v, h => by
    unfold lk at h
    by_cases e : j = i
    · subst e
      rw [Nat.beq_refl] at h
      cases h
      exact List.mem_cons_self
    · rw [show Nat.beq j i = false by cases hb : Nat.beq j i with | false => rfl | true => exact absurd (Nat.eq_of_beq_eq_true hb) e] at h
      exact List.mem_cons_of_mem _ (lk_mem h)
theorem lk_at {q : Nat → Nat} {ls : Array Slot} {n : Nat} {L : List (Nat × AV)} {i : Nat} {v : AV} (hl : lv_has ls n (lm q L)) (h : lk L i = some v) : ls[i]? = some (.val (ro q v)) :=
  hl.2.2 (i, ro q v) (List.mem_map.mpr ⟨(i, v), lk_mem h, rfl⟩)
def isL : AV → Bool
  | .inr (.inl _) => true
  | _ => false
theorem isL_cat (q : Nat → Nat) (v : AV) : (ro q v).category = if isL v = true then 2 else 1 := by
  rcases v with x | x | x | x <;> rfl
def st1 (i : Nat) (v : AV) (L : List (Nat × AV)) : List (Nat × AV) := (i, v) :: L.filter (fun q => !(q.1 == i) && !(q.1 + 1 == i && isL q.2))
def st2 (i : Nat) (v : AV) (L : List (Nat × AV)) : List (Nat × AV) := (i, v) :: L.filter (fun q => !(q.1 == i) && (!(q.1 == i + 1) && !(q.1 + 1 == i && isL q.2)))
theorem st1_lm (q : Nat → Nat) (i : Nat) (v : AV) (L : List (Nat × AV)) : (i, ro q v) :: (lm q L).filter (fun x => !(x.1 == i) && !(x.1 + 1 == i && x.2.category == 2)) = lm q (st1 i v L) := by
  show _ = (i, ro q v) :: List.map _ _
  refine congrArg _ ?_
  rw [List.filter_map]
  refine congrArg _ (List.filter_congr ?_)
  intro x _
  show (!(x.1 == i) && !(x.1 + 1 == i && (ro q x.2).category == 2)) = _
  rw [isL_cat]
  cases isL x.2 <;> rfl
theorem st2_lm (q : Nat → Nat) (i : Nat) (v : AV) (L : List (Nat × AV)) : (i, ro q v) :: (lm q L).filter (fun x => !(x.1 == i) && (!(x.1 == i + 1) && !(x.1 + 1 == i && x.2.category == 2))) = lm q (st2 i v L) := by
  show _ = (i, ro q v) :: List.map _ _
  refine congrArg _ ?_
  rw [List.filter_map]
  refine congrArg _ (List.filter_congr ?_)
  intro x _
  show (!(x.1 == i) && (!(x.1 == i + 1) && !(x.1 + 1 == i && (ro q x.2).category == 2))) = _
  rw [isL_cat]
  cases isL x.2 <;> rfl
def subL (L : List (Nat × AV)) : List (Nat × AV) → Prop
  | [] => True
  | x :: t => lk L x.1 = some x.2 ∧ subL L t
theorem subL_mem {L : List (Nat × AV)} : ∀ {L' : List (Nat × AV)}, subL L L' → ∀ x ∈ L', lk L x.1 = some x.2
  | [], _, x, hx => absurd hx List.not_mem_nil
  | y :: t, hs, x, hx => by
    rcases List.mem_cons.mp hx with rfl | hx
    · exact hs.1
    · exact subL_mem hs.2 x hx
theorem vp_lt {i : Int32} {n : Nat} (h : vp_in i n) : i.toNatClampNeg < n := Nat.not_le.mp fun q => h (Or.inr q)
section VAX
variable {p : Program} {l : Launch} {e : Env} {R : Room} {s : State} {m : MethodId} {args : Array Value} {below : List Frame} {meth : Method} {c : Code} {H : Heap} {locs : List Loc} {cells slots : Nat} {Q : State → Prop}
variable {cc : ByteArray} {pc : Nat} {ls : Array Slot} {rest : List Value} {D : va_G} {cl : List vw_C} {a : Nat} {tys : List (ClassId × FieldType)} {ws : va_W}
theorem va_aldA (hexec : p.tables.exec = Jvm.exec) (hb : c.code = cc) (hK : va_K D cl tys s) (hP : va_P D cl ws H) (q0 t0 : Nat) {cA : ClassId} {C : FieldType} {n : Nat} {f : Nat → Option Nat} (ha : ws[q0]? = some (a, .inl (cA, n, .inr (.inr (.inr (.inr f)))))) (ht : tys[t0]? = some (cA, .array C)) {i : Int32} (hin : vp_in i n) (hdg : decode cc pc = .ok (.aaload, 1))
    (kk : W p l e R s m args below meth c H locs cells slots Q (F0 m (pc + 1) ls (va_rf (f i.toNatClampNeg) :: rest))) : W p l e R s m args below meth c H locs cells slots Q (F0 m pc ls (.int i :: .ref a :: rest)) := by
  have hlt : i.toNatClampNeg < n := Nat.not_le.mp fun q => hin (Or.inr q)
  exact W.aald (v := va_rf (f i.toNatClampNeg)) (ty := .array C) hexec hb (hP q0 _ ha) ((hK.2 t0 _ ht).1 n (fun j => va_rf (f j))) rfl (fun q => by cases q) (by show ¬ (i < 0 ∨ (arrV _ _ _).slots.size ≤ _); rw [arrV_size]; exact hin) (by show (arrV _ _ _).slots[_]? = _; rw [arrV_read _ _ hlt]) rfl rfl hdg kk
end VAX
section EVR
variable {M : MD} {K : KT} {pc : Nat} {L : List (Nat × AV)} {st : List AV} {h : Hp} {Q : Option AV → Hp → Prop}
/-- fewer locals, in any order -/
theorem ev_sub {L' : List (Nat × AV)} (hs : subL L L') (H : EvK M K pc L' st h) : EvK M K pc L st h := by
  intro g hg p e s m args below meth c B kA kr kz H0 locs ls hP hS hl
  refine H g hg p e s m args below meth c B kA kr kz H0 locs ls hP hS ⟨hl.1, hl.2.1, fun q hq => ?_⟩
  obtain ⟨x, hx, rfl⟩ := List.mem_map.mp hq
  exact lk_at hl (subL_mem hs x hx)
theorem ev_L {L' : List (Nat × AV)} (e : L = L') (H : EvK M K pc L' st h) : EvK M K pc L st h := e ▸ H
theorem ev_iadd {x y : Int32} (hd : decode M.2.1 pc = .ok (.iadd, 1)) (H : EvK M K (pc + 1) L (vI (x + y) :: st) h) : EvK M K pc L (vI y :: vI x :: st) h := by
  intro g hg p e s m args below meth c B kA kr kz H0 locs ls hP hS hl
  exact lv_iadd B.1 B.2.1 hd (H g hg p e s m args below meth c B kA kr kz H0 locs ls hP hS hl)
theorem ev_isub {x y : Int32} (hd : decode M.2.1 pc = .ok (.isub, 1)) (H : EvK M K (pc + 1) L (vI (x - y) :: st) h) : EvK M K pc L (vI y :: vI x :: st) h := by
  intro g hg p e s m args below meth c B kA kr kz H0 locs ls hP hS hl
  exact lv_isub B.1 B.2.1 hd (H g hg p e s m args below meth c B kA kr kz H0 locs ls hP hS hl)
theorem ev_imul {x y : Int32} (hd : decode M.2.1 pc = .ok (.imul, 1)) (H : EvK M K (pc + 1) L (vI (x * y) :: st) h) : EvK M K pc L (vI y :: vI x :: st) h := by
  intro g hg p e s m args below meth c B kA kr kz H0 locs ls hP hS hl
  exact lv_imul B.1 B.2.1 hd (H g hg p e s m args below meth c B kA kr kz H0 locs ls hP hS hl)
theorem ev_iand {x y : Int32} (hd : decode M.2.1 pc = .ok (.iand, 1)) (H : EvK M K (pc + 1) L (vI (x &&& y) :: st) h) : EvK M K pc L (vI y :: vI x :: st) h := by
  intro g hg p e s m args below meth c B kA kr kz H0 locs ls hP hS hl
  exact lv_iand B.1 B.2.1 hd (H g hg p e s m args below meth c B kA kr kz H0 locs ls hP hS hl)
theorem ev_land {x y : Int64} (hd : decode M.2.1 pc = .ok (.land, 1)) (H : EvK M K (pc + 1) L (vL (x &&& y) :: st) h) : EvK M K pc L (vL y :: vL x :: st) h := by
  intro g hg p e s m args below meth c B kA kr kz H0 locs ls hP hS hl
  exact lv_land B.1 B.2.1 hd (H g hg p e s m args below meth c B kA kr kz H0 locs ls hP hS hl)
theorem ev_lor {x y : Int64} (hd : decode M.2.1 pc = .ok (.lor, 1)) (H : EvK M K (pc + 1) L (vL (x ||| y) :: st) h) : EvK M K pc L (vL y :: vL x :: st) h := by
  intro g hg p e s m args below meth c B kA kr kz H0 locs ls hP hS hl
  exact lv_lor B.1 B.2.1 hd (H g hg p e s m args below meth c B kA kr kz H0 locs ls hP hS hl)
theorem ev_lshl {x : Int64} {y : Int32} (hd : decode M.2.1 pc = .ok (.lshl, 1)) (H : EvK M K (pc + 1) L (vL (x <<< (y.toInt64 &&& 63)) :: st) h) : EvK M K pc L (vI y :: vL x :: st) h := by
  intro g hg p e s m args below meth c B kA kr kz H0 locs ls hP hS hl
  exact lv_lshl B.1 B.2.1 hd rfl (H g hg p e s m args below meth c B kA kr kz H0 locs ls hP hS hl)
theorem ev_lshr {x : Int64} {y : Int32} (hd : decode M.2.1 pc = .ok (.lshr, 1)) (H : EvK M K (pc + 1) L (vL (x >>> (y.toInt64 &&& 63)) :: st) h) : EvK M K pc L (vI y :: vL x :: st) h := by
  intro g hg p e s m args below meth c B kA kr kz H0 locs ls hP hS hl
  exact lv_lshr B.1 B.2.1 hd rfl (H g hg p e s m args below meth c B kA kr kz H0 locs ls hP hS hl)
theorem ev_idiv {x y : Int32} (hd : decode M.2.1 pc = .ok (.idiv, 1)) (hne : ¬ y = 0) (H : EvK M K (pc + 1) L (vI (x / y) :: st) h) : EvK M K pc L (vI y :: vI x :: st) h := by
  intro g hg p e s m args below meth c B kA kr kz H0 locs ls hP hS hl
  exact lv_idiv B.1 B.2.1 hd hne (H g hg p e s m args below meth c B kA kr kz H0 locs ls hP hS hl)
theorem ev_irem {x y : Int32} (hd : decode M.2.1 pc = .ok (.irem, 1)) (hne : ¬ y = 0) (H : EvK M K (pc + 1) L (vI (x - x / y * y) :: st) h) : EvK M K pc L (vI y :: vI x :: st) h := by
  intro g hg p e s m args below meth c B kA kr kz H0 locs ls hP hS hl
  exact lv_irem B.1 B.2.1 hd hne (H g hg p e s m args below meth c B kA kr kz H0 locs ls hP hS hl)
theorem ev_i2l {x : Int32} (hd : decode M.2.1 pc = .ok (.i2l, 1)) (H : EvK M K (pc + 1) L (vL x.toInt64 :: st) h) : EvK M K pc L (vI x :: st) h := by
  intro g hg p e s m args below meth c B kA kr kz H0 locs ls hP hS hl
  exact lv_i2l B.1 B.2.1 hd rfl (H g hg p e s m args below meth c B kA kr kz H0 locs ls hP hS hl)
theorem ev_l2i {x : Int64} (hd : decode M.2.1 pc = .ok (.l2i, 1)) (H : EvK M K (pc + 1) L (vI x.toInt32 :: st) h) : EvK M K pc L (vL x :: st) h := by
  intro g hg p e s m args below meth c B kA kr kz H0 locs ls hP hS hl
  exact lv_l2i B.1 B.2.1 hd rfl (H g hg p e s m args below meth c B kA kr kz H0 locs ls hP hS hl)
theorem ev_lcmp {x y : Int64} (hd : decode M.2.1 pc = .ok (.lcmp, 1)) (H : EvK M K (pc + 1) L (vI (lg_cmp x y) :: st) h) : EvK M K pc L (vL y :: vL x :: st) h := by
  intro g hg p e s m args below meth c B kA kr kz H0 locs ls hP hS hl
  exact W.lcmp B.1 B.2.1 hd (H g hg p e s m args below meth c B kA kr kz H0 locs ls hP hS hl)
theorem ev_iconst {n : Int} (v : Int32) (hd : decode M.2.1 pc = .ok (.iconst n, 1)) (hv : Int32.ofInt n = v) (H : EvK M K (pc + 1) L (vI v :: st) h) : EvK M K pc L st h := by
  intro g hg p e s m args below meth c B kA kr kz H0 locs ls hP hS hl
  exact lv_iconst B.1 B.2.1 hd hv (H g hg p e s m args below meth c B kA kr kz H0 locs ls hP hS hl)
theorem ev_bipush {n : Int} (v : Int32) (hd : decode M.2.1 pc = .ok (.bipush n, 2)) (hv : (Int8.ofInt n).toInt32 = v) (H : EvK M K (pc + 2) L (vI v :: st) h) : EvK M K pc L st h := by
  intro g hg p e s m args below meth c B kA kr kz H0 locs ls hP hS hl
  exact lv_bipush B.1 B.2.1 hd hv (H g hg p e s m args below meth c B kA kr kz H0 locs ls hP hS hl)
theorem ev_sipush {n : Int} (v : Int32) (hd : decode M.2.1 pc = .ok (.sipush n, 3)) (hv : (Int16.ofInt n).toInt32 = v) (H : EvK M K (pc + 3) L (vI v :: st) h) : EvK M K pc L st h := by
  intro g hg p e s m args below meth c B kA kr kz H0 locs ls hP hS hl
  exact lv_sipush B.1 B.2.1 hd hv (H g hg p e s m args below meth c B kA kr kz H0 locs ls hP hS hl)
theorem ev_lconst {n : Fin 2} (v : Int64) (hd : decode M.2.1 pc = .ok (.lconst n, 1)) (hv : Int64.ofNat (n : Nat) = v) (H : EvK M K (pc + 1) L (vL v :: st) h) : EvK M K pc L st h := by
  intro g hg p e s m args below meth c B kA kr kz H0 locs ls hP hS hl
  exact lv_lconst B.1 B.2.1 hd hv (H g hg p e s m args below meth c B kA kr kz H0 locs ls hP hS hl)
theorem ev_ldc2 {i : Nat} {v : Int64} (hd : decode M.2.1 pc = .ok (.ldc2_w i, 3)) (hw : Cond.constantLong M.2.2.2.2.1 i v ∈ wsL_law0) (H : EvK M K (pc + 3) L (vL v :: st) h) : EvK M K pc L st h := by
  intro g hg p e s m args below meth c B kA kr kz H0 locs ls hP hS hl
  exact lv_ldc2 B.1 B.2.1 B.2.2.2.2.2.1 (B.2.2.2.2.2.2.1 _ hw) hd (H g hg p e s m args below meth c B kA kr kz H0 locs ls hP hS hl)
theorem ev_iload_n {k : Fin 4} {x : Int32} (i : Nat) (hd : decode M.2.1 pc = .ok (.iload_n k, 1)) (hi : (k : Nat) = i) (hl : lk L i = some (vI x)) (H : EvK M K (pc + 1) L (vI x :: st) h) : EvK M K pc L st h := by
  intro g hg p e s m args below meth c B kA kr kz H0 locs ls hP hS hl'
  exact lv_iload_n B.1 B.2.1 hd hi (lk_at hl' hl) (H g hg p e s m args below meth c B kA kr kz H0 locs ls hP hS hl')
theorem ev_iload {i : Nat} {x : Int32} (hd : decode M.2.1 pc = .ok (.iload i, 2)) (hl : lk L i = some (vI x)) (H : EvK M K (pc + 2) L (vI x :: st) h) : EvK M K pc L st h := by
  intro g hg p e s m args below meth c B kA kr kz H0 locs ls hP hS hl'
  exact lv_iload B.1 B.2.1 hd (lk_at hl' hl) (H g hg p e s m args below meth c B kA kr kz H0 locs ls hP hS hl')
theorem ev_lload_n {k : Fin 4} {x : Int64} (i : Nat) (hd : decode M.2.1 pc = .ok (.lload_n k, 1)) (hi : (k : Nat) = i) (hl : lk L i = some (vL x)) (H : EvK M K (pc + 1) L (vL x :: st) h) : EvK M K pc L st h := by
  intro g hg p e s m args below meth c B kA kr kz H0 locs ls hP hS hl'
  exact lv_lload_n B.1 B.2.1 hd hi (lk_at hl' hl) (H g hg p e s m args below meth c B kA kr kz H0 locs ls hP hS hl')
theorem ev_lload {i : Nat} {x : Int64} (hd : decode M.2.1 pc = .ok (.lload i, 2)) (hl : lk L i = some (vL x)) (H : EvK M K (pc + 2) L (vL x :: st) h) : EvK M K pc L st h := by
  intro g hg p e s m args below meth c B kA kr kz H0 locs ls hP hS hl'
  exact lv_lload B.1 B.2.1 hd (lk_at hl' hl) (H g hg p e s m args below meth c B kA kr kz H0 locs ls hP hS hl')
theorem ev_aload_n {k : Fin 4} {x : Nat} (i : Nat) (hd : decode M.2.1 pc = .ok (.aload_n k, 1)) (hi : (k : Nat) = i) (hl : lk L i = some (vR x)) (H : EvK M K (pc + 1) L (vR x :: st) h) : EvK M K pc L st h := by
  intro g hg p e s m args below meth c B kA kr kz H0 locs ls hP hS hl'
  exact lv_aload_n B.1 B.2.1 hd hi (lk_at hl' hl) (H g hg p e s m args below meth c B kA kr kz H0 locs ls hP hS hl')
theorem ev_aload {i : Nat} {x : Nat} (hd : decode M.2.1 pc = .ok (.aload i, 2)) (hl : lk L i = some (vR x)) (H : EvK M K (pc + 2) L (vR x :: st) h) : EvK M K pc L st h := by
  intro g hg p e s m args below meth c B kA kr kz H0 locs ls hP hS hl'
  exact lv_aload B.1 B.2.1 hd (lk_at hl' hl) (H g hg p e s m args below meth c B kA kr kz H0 locs ls hP hS hl')
theorem ev_dup {v : AV} (hd : decode M.2.1 pc = .ok (.dup, 1)) (hv : isL v = false) (H : EvK M K (pc + 1) L (v :: v :: st) h) : EvK M K pc L (v :: st) h := by
  intro g hg p e s m args below meth c B kA kr kz H0 locs ls hP hS hl
  exact lv_dup B.1 B.2.1 hd (by rw [isL_cat, hv]; rfl) (H g hg p e s m args below meth c B kA kr kz H0 locs ls hP hS hl)
theorem ev_dup2 {v w : AV} (hd : decode M.2.1 pc = .ok (.dup2, 1)) (hv : isL v = false) (hw : isL w = false) (H : EvK M K (pc + 1) L (v :: w :: v :: w :: st) h) : EvK M K pc L (v :: w :: st) h := by
  intro g hg p e s m args below meth c B kA kr kz H0 locs ls hP hS hl
  exact lv_dup2_11 B.1 B.2.1 hd (by rw [isL_cat, hv]; rfl) (by rw [isL_cat, hw]; rfl) (H g hg p e s m args below meth c B kA kr kz H0 locs ls hP hS hl)

theorem ev_istore_n {k : Fin 4} {x : Int32} (i : Nat) (hd : decode M.2.1 pc = .ok (.istore_n k, 1)) (hi : (k : Nat) = i) (hn : i < M.2.2.1) (H : EvK M K (pc + 1) (st1 i (vI x) L) st h) : EvK M K pc L (vI x :: st) h := by
  intro g hg p e s m args below meth c B kA kr kz H0 locs ls hP hS hl
  exact lv_istore_n B.1 B.2.1 hd hi hl hn (st1_lm g.2.2.1 i (vI x) L) (fun ls' hl' => H g hg p e s m args below meth c B kA kr kz H0 locs ls' hP hS hl')
theorem ev_istore {i : Nat} {x : Int32} (hd : decode M.2.1 pc = .ok (.istore i, 2)) (hn : i < M.2.2.1) (H : EvK M K (pc + 2) (st1 i (vI x) L) st h) : EvK M K pc L (vI x :: st) h := by
  intro g hg p e s m args below meth c B kA kr kz H0 locs ls hP hS hl
  exact lv_istore B.1 B.2.1 hd hl hn (st1_lm g.2.2.1 i (vI x) L) (fun ls' hl' => H g hg p e s m args below meth c B kA kr kz H0 locs ls' hP hS hl')
theorem ev_lstore_n {k : Fin 4} {x : Int64} (i : Nat) (hd : decode M.2.1 pc = .ok (.lstore_n k, 1)) (hi : (k : Nat) = i) (hn : i + 1 < M.2.2.1) (H : EvK M K (pc + 1) (st2 i (vL x) L) st h) : EvK M K pc L (vL x :: st) h := by
  intro g hg p e s m args below meth c B kA kr kz H0 locs ls hP hS hl
  exact lv_lstore_n B.1 B.2.1 hd hi hl hn (st2_lm g.2.2.1 i (vL x) L) (fun ls' hl' => H g hg p e s m args below meth c B kA kr kz H0 locs ls' hP hS hl')
theorem ev_lstore {i : Nat} {x : Int64} (hd : decode M.2.1 pc = .ok (.lstore i, 2)) (hn : i + 1 < M.2.2.1) (H : EvK M K (pc + 2) (st2 i (vL x) L) st h) : EvK M K pc L (vL x :: st) h := by
  intro g hg p e s m args below meth c B kA kr kz H0 locs ls hP hS hl
  exact lv_lstore B.1 B.2.1 hd hl hn (st2_lm g.2.2.1 i (vL x) L) (fun ls' hl' => H g hg p e s m args below meth c B kA kr kz H0 locs ls' hP hS hl')
theorem ev_iinc {i : Nat} {n : Int} {x v : Int32} (hd : decode M.2.1 pc = .ok (.iinc i n, 3)) (hk : lk L i = some (vI x)) (hv : Int32.ofInt n = v) (hn : i < M.2.2.1) (H : EvK M K (pc + 3) (st1 i (vI (x + v)) L) st h) : EvK M K pc L st h := by
  intro g hg p e s m args below meth c B kA kr kz H0 locs ls hP hS hl
  obtain ⟨k, hk2⟩ := List.getElem?_of_mem (List.mem_map.mpr ⟨(i, vI x), lk_mem hk, rfl⟩ : (i, Value.int x) ∈ lm g.2.2.1 L)
  exact lv_iinc B.1 B.2.1 hd hl hk2 (by rw [hv]) hn (st1_lm g.2.2.1 i (vI (x + v)) L) (fun ls' hl' => H g hg p e s m args below meth c B kA kr kz H0 locs ls' hP hS hl')

theorem ev_if_eq {x : Int32} {off : Int} (tgt : Nat) (hd : decode M.2.1 pc = .ok (.ifCond .eq off, 3)) (ht : (pc : Int) + off = (tgt : Int)) (H : (x = 0 → EvK M K tgt L st h) ∧ (¬ x = 0 → EvK M K (pc + 3) L st h)) : EvK M K pc L (vI x :: st) h := by
  intro g hg p e s m args below meth c B kA kr kz H0 locs ls hP hS hl
  exact lv_if_eq B.1 B.2.1 hd ht (fun q => H.1 q g hg p e s m args below meth c B kA kr kz H0 locs ls hP hS hl) (fun q => H.2 q g hg p e s m args below meth c B kA kr kz H0 locs ls hP hS hl)
theorem ev_if_ne {x : Int32} {off : Int} (tgt : Nat) (hd : decode M.2.1 pc = .ok (.ifCond .ne off, 3)) (ht : (pc : Int) + off = (tgt : Int)) (H : (¬ x = 0 → EvK M K tgt L st h) ∧ (x = 0 → EvK M K (pc + 3) L st h)) : EvK M K pc L (vI x :: st) h := by
  intro g hg p e s m args below meth c B kA kr kz H0 locs ls hP hS hl
  exact lv_if_ne B.1 B.2.1 hd ht (fun q => H.1 q g hg p e s m args below meth c B kA kr kz H0 locs ls hP hS hl) (fun q => H.2 q g hg p e s m args below meth c B kA kr kz H0 locs ls hP hS hl)
theorem ev_if_lt {x : Int32} {off : Int} (tgt : Nat) (hd : decode M.2.1 pc = .ok (.ifCond .lt off, 3)) (ht : (pc : Int) + off = (tgt : Int)) (H : (x < 0 → EvK M K tgt L st h) ∧ (¬ x < 0 → EvK M K (pc + 3) L st h)) : EvK M K pc L (vI x :: st) h := by
  intro g hg p e s m args below meth c B kA kr kz H0 locs ls hP hS hl
  exact lv_if_lt B.1 B.2.1 hd ht (fun q => H.1 q g hg p e s m args below meth c B kA kr kz H0 locs ls hP hS hl) (fun q => H.2 q g hg p e s m args below meth c B kA kr kz H0 locs ls hP hS hl)
theorem ev_if_ge {x : Int32} {off : Int} (tgt : Nat) (hd : decode M.2.1 pc = .ok (.ifCond .ge off, 3)) (ht : (pc : Int) + off = (tgt : Int)) (H : (0 ≤ x → EvK M K tgt L st h) ∧ (¬ 0 ≤ x → EvK M K (pc + 3) L st h)) : EvK M K pc L (vI x :: st) h := by
  intro g hg p e s m args below meth c B kA kr kz H0 locs ls hP hS hl
  exact lv_if_ge B.1 B.2.1 hd ht (fun q => H.1 q g hg p e s m args below meth c B kA kr kz H0 locs ls hP hS hl) (fun q => H.2 q g hg p e s m args below meth c B kA kr kz H0 locs ls hP hS hl)
theorem ev_if_gt {x : Int32} {off : Int} (tgt : Nat) (hd : decode M.2.1 pc = .ok (.ifCond .gt off, 3)) (ht : (pc : Int) + off = (tgt : Int)) (H : (0 < x → EvK M K tgt L st h) ∧ (¬ 0 < x → EvK M K (pc + 3) L st h)) : EvK M K pc L (vI x :: st) h := by
  intro g hg p e s m args below meth c B kA kr kz H0 locs ls hP hS hl
  exact lv_if_gt B.1 B.2.1 hd ht (fun q => H.1 q g hg p e s m args below meth c B kA kr kz H0 locs ls hP hS hl) (fun q => H.2 q g hg p e s m args below meth c B kA kr kz H0 locs ls hP hS hl)
theorem ev_if_le {x : Int32} {off : Int} (tgt : Nat) (hd : decode M.2.1 pc = .ok (.ifCond .le off, 3)) (ht : (pc : Int) + off = (tgt : Int)) (H : (x ≤ 0 → EvK M K tgt L st h) ∧ (¬ x ≤ 0 → EvK M K (pc + 3) L st h)) : EvK M K pc L (vI x :: st) h := by
  intro g hg p e s m args below meth c B kA kr kz H0 locs ls hP hS hl
  exact lv_if_le B.1 B.2.1 hd ht (fun q => H.1 q g hg p e s m args below meth c B kA kr kz H0 locs ls hP hS hl) (fun q => H.2 q g hg p e s m args below meth c B kA kr kz H0 locs ls hP hS hl)
theorem ev_icmp_eq {x y : Int32} {off : Int} (tgt : Nat) (hd : decode M.2.1 pc = .ok (.if_icmp .eq off, 3)) (ht : (pc : Int) + off = (tgt : Int)) (H : (x = y → EvK M K tgt L st h) ∧ (¬ x = y → EvK M K (pc + 3) L st h)) : EvK M K pc L (vI y :: vI x :: st) h := by
  intro g hg p e s m args below meth c B kA kr kz H0 locs ls hP hS hl
  exact lv_icmp_eq B.1 B.2.1 hd ht (fun q => H.1 q g hg p e s m args below meth c B kA kr kz H0 locs ls hP hS hl) (fun q => H.2 q g hg p e s m args below meth c B kA kr kz H0 locs ls hP hS hl)
theorem ev_icmp_ne {x y : Int32} {off : Int} (tgt : Nat) (hd : decode M.2.1 pc = .ok (.if_icmp .ne off, 3)) (ht : (pc : Int) + off = (tgt : Int)) (H : (¬ x = y → EvK M K tgt L st h) ∧ (x = y → EvK M K (pc + 3) L st h)) : EvK M K pc L (vI y :: vI x :: st) h := by
  intro g hg p e s m args below meth c B kA kr kz H0 locs ls hP hS hl
  exact lv_icmp_ne B.1 B.2.1 hd ht (fun q => H.1 q g hg p e s m args below meth c B kA kr kz H0 locs ls hP hS hl) (fun q => H.2 q g hg p e s m args below meth c B kA kr kz H0 locs ls hP hS hl)
theorem ev_icmp_lt {x y : Int32} {off : Int} (tgt : Nat) (hd : decode M.2.1 pc = .ok (.if_icmp .lt off, 3)) (ht : (pc : Int) + off = (tgt : Int)) (H : (x < y → EvK M K tgt L st h) ∧ (¬ x < y → EvK M K (pc + 3) L st h)) : EvK M K pc L (vI y :: vI x :: st) h := by
  intro g hg p e s m args below meth c B kA kr kz H0 locs ls hP hS hl
  exact lv_icmp_lt B.1 B.2.1 hd ht (fun q => H.1 q g hg p e s m args below meth c B kA kr kz H0 locs ls hP hS hl) (fun q => H.2 q g hg p e s m args below meth c B kA kr kz H0 locs ls hP hS hl)
theorem ev_icmp_ge {x y : Int32} {off : Int} (tgt : Nat) (hd : decode M.2.1 pc = .ok (.if_icmp .ge off, 3)) (ht : (pc : Int) + off = (tgt : Int)) (H : (y ≤ x → EvK M K tgt L st h) ∧ (¬ y ≤ x → EvK M K (pc + 3) L st h)) : EvK M K pc L (vI y :: vI x :: st) h := by
  intro g hg p e s m args below meth c B kA kr kz H0 locs ls hP hS hl
  exact lv_icmp_ge B.1 B.2.1 hd ht (fun q => H.1 q g hg p e s m args below meth c B kA kr kz H0 locs ls hP hS hl) (fun q => H.2 q g hg p e s m args below meth c B kA kr kz H0 locs ls hP hS hl)
theorem ev_icmp_gt {x y : Int32} {off : Int} (tgt : Nat) (hd : decode M.2.1 pc = .ok (.if_icmp .gt off, 3)) (ht : (pc : Int) + off = (tgt : Int)) (H : (y < x → EvK M K tgt L st h) ∧ (¬ y < x → EvK M K (pc + 3) L st h)) : EvK M K pc L (vI y :: vI x :: st) h := by
  intro g hg p e s m args below meth c B kA kr kz H0 locs ls hP hS hl
  exact lv_icmp_gt B.1 B.2.1 hd ht (fun q => H.1 q g hg p e s m args below meth c B kA kr kz H0 locs ls hP hS hl) (fun q => H.2 q g hg p e s m args below meth c B kA kr kz H0 locs ls hP hS hl)
theorem ev_icmp_le {x y : Int32} {off : Int} (tgt : Nat) (hd : decode M.2.1 pc = .ok (.if_icmp .le off, 3)) (ht : (pc : Int) + off = (tgt : Int)) (H : (x ≤ y → EvK M K tgt L st h) ∧ (¬ x ≤ y → EvK M K (pc + 3) L st h)) : EvK M K pc L (vI y :: vI x :: st) h := by
  intro g hg p e s m args below meth c B kA kr kz H0 locs ls hP hS hl
  exact lv_icmp_le B.1 B.2.1 hd ht (fun q => H.1 q g hg p e s m args below meth c B kA kr kz H0 locs ls hP hS hl) (fun q => H.2 q g hg p e s m args below meth c B kA kr kz H0 locs ls hP hS hl)
theorem ev_goto {off : Int} (tgt : Nat) (hd : decode M.2.1 pc = .ok (.goto off, 3)) (ht : (pc : Int) + off = (tgt : Int)) (H : EvK M K tgt L st h) : EvK M K pc L st h := by
  intro g hg p e s m args below meth c B kA kr kz H0 locs ls hP hS hl
  exact lv_goto B.1 B.2.1 hd ht (H g hg p e s m args below meth c B kA kr kz H0 locs ls hP hS hl)
theorem ev_switch {x : Int32} {d lo hi : Int} {os : Array Int} {ln : Nat} (tgt : Nat) (hd : decode M.2.1 pc = .ok (.tableswitch d lo hi os, ln)) (hx : (¬ x.toInt < lo ∧ ¬ hi < x.toInt ∧ ∃ o, os[(x.toInt - lo).toNat]? = some o ∧ (pc : Int) + o = (tgt : Int)) ∨ ((x.toInt < lo ∨ hi < x.toInt) ∧ (pc : Int) + d = (tgt : Int))) (H : EvK M K tgt L st h) : EvK M K pc L (vI x :: st) h := by
  intro g hg p e s m args below meth c B kA kr kz H0 locs ls hP hS hl
  rcases hx with ⟨h1, h2, o, h3, h4⟩ | ⟨h1, h2⟩
  · exact lv_tableIn B.1 B.2.1 hd h1 h2 h3 h4 (H g hg p e s m args below meth c B kA kr kz H0 locs ls hP hS hl)
  · exact lv_tableOut B.1 B.2.1 hd h1 h2 (H g hg p e s m args below meth c B kA kr kz H0 locs ls hP hS hl)

/-! fields -/
/-- what links a field: its class is of the world, the words are in the tables -/
def FL (own : String) (idx ci k : Nat) : Prop := ∃ (C : String) (T : u_T) (n : Nat), vwCl[ci]? = some (C, T, n) ∧ k < n ∧ (∀ w ∈ u_ws C T n, w ∈ wsL_law0) ∧ Cond.fieldLink own idx (T k).1 (T k).2.1 (T k).2.2.1 ∈ wsL_law0
/-- and that it may be written -/
def FP (own : String) (idx ci k : Nat) (ty : FieldType) : Prop := ∃ (C : String) (T : u_T) (n : Nat) (ty0 : Nat → FieldType), vwCl[ci]? = some (C, T, n) ∧ k < n ∧ (∀ w ∈ u_ws C T n, w ∈ wsL_law0) ∧ Cond.fieldLink own idx (T k).1 (T k).2.1 (T k).2.2.1 ∈ wsL_law0 ∧ (∀ k, k < n → parseFieldDescriptor (T k).2.2.1 = some (ty0 k)) ∧ (∀ a, a < n → ∀ b, b < n → a ≠ b → (T a).2.1 ≠ (T b).2.1) ∧ (T k).2.2.2 = false ∧ parseFieldDescriptor (T k).2.2.1 = some ty
theorem sh_lt {c ci : Nat} {fs : List (Option Nat)} (hs : sh c = .inl (ci, fs)) : c < 54 := by
  by_cases hc : c < 54
  · exact hc
  · have e : sh c = .inr (2, 9) := by have e2 := sh_big (c - 54); rwa [show 54 + (c - 54) = c by omega] at e2
    rw [e] at hs
    cases hs
theorem sh_ltz {c n : Nat} {k : Nat} (hk : k ≠ 2) (hs : sh c = .inr (k, n)) : c < 54 := by
  by_cases hc : c < 54
  · exact hc
  · have e : sh c = .inr (2, 9) := by have e2 := sh_big (c - 54); rwa [show 54 + (c - 54) = c by omega] at e2
    rw [e] at hs
    cases hs
    exact absurd rfl hk
theorem flV_set (q : Nat → Nat) (f : Nat → Int32) (fs : List (Option Nat)) (k : Nat) (v : Int32) (hf : fs[k]? = some none) : (fs.mapIdx (fun j o => flV q f j o)).set k (.int v) = fs.mapIdx (fun j o => flV q (upd f k v) j o) := by
  have hk : k < fs.length := (List.getElem?_eq_some_iff.mp hf).1
  apply List.ext_getElem?
  intro i
  by_cases e : i = k
  · subst e
    rw [List.getElem?_set_self (by simpa using hk), List.getElem?_mapIdx, hf]
    simp [flV, upd]
  · rw [List.getElem?_set_ne (Ne.symm e), List.getElem?_mapIdx, List.getElem?_mapIdx]
    cases fs[i]? with
    | none => rfl
    | some o => cases o <;> simp [flV, upd, e]
theorem ev_getI {c ci k idx : Nat} {fs : List (Option Nat)} (hd : decode M.2.1 pc = .ok (.getfield idx, 3)) (hF : FL M.2.2.2.2.1 idx ci k) (hs : sh c = .inl (ci, fs)) (hf : fs[k]? = some none) (H : EvK M K (pc + 3) L (vI (h.1 c k) :: st) h) : EvK M K pc L (vR c :: st) h := by
  intro g hg p e s m args below meth cd B kA kr kz H0 locs ls hP hS hl
  obtain ⟨C, T, n, h1, h2, h3, h4⟩ := hF
  have hc := sh_lt hs
  exact va_get (D := g.2.1) (ci := ci) (v := .int (h.1 c k)) (C := C) (T := T) (N := n) B.1 B.2.1 B.2.2.2.2.2.2.1 h3 B.2.2.2.2.2.1 B.2.2.2.2.2.2.2.1 hP c ((wo_at g h (by omega)).trans (by rw [cel_obj g h hs])) h1 k h2 (B.2.2.2.2.2.2.1 _ h4) (fun _ h9 => h9) (by rw [List.getElem?_mapIdx, hf]; rfl) hd (H g hg p e s m args below meth cd B kA kr kz H0 locs ls hP hS hl)
theorem ev_getR {c ci k idx d : Nat} {fs : List (Option Nat)} (hd : decode M.2.1 pc = .ok (.getfield idx, 3)) (hF : FL M.2.2.2.2.1 idx ci k) (hs : sh c = .inl (ci, fs)) (hf : fs[k]? = some (some d)) (H : EvK M K (pc + 3) L (vR d :: st) h) : EvK M K pc L (vR c :: st) h := by
  intro g hg p e s m args below meth cd B kA kr kz H0 locs ls hP hS hl
  obtain ⟨C, T, n, h1, h2, h3, h4⟩ := hF
  have hc := sh_lt hs
  exact va_get (D := g.2.1) (ci := ci) (v := .ref (g.2.2.1 d)) (C := C) (T := T) (N := n) B.1 B.2.1 B.2.2.2.2.2.2.1 h3 B.2.2.2.2.2.1 B.2.2.2.2.2.2.2.1 hP c ((wo_at g h (by omega)).trans (by rw [cel_obj g h hs])) h1 k h2 (B.2.2.2.2.2.2.1 _ h4) (fun _ h9 => h9) (by rw [List.getElem?_mapIdx, hf]; rfl) hd (H g hg p e s m args below meth cd B kA kr kz H0 locs ls hP hS hl)
theorem ev_putT {c ci k idx : Nat} {fs : List (Option Nat)} {x : Int32} {ty : FieldType} (hd : decode M.2.1 pc = .ok (.putfield idx, 3)) (hF : FP M.2.2.2.2.1 idx ci k ty) (hs : sh c = .inl (ci, fs)) (hf : fs[k]? = some none) (hn : narrow ty (.int x) = .int x) (hfit : fits ty (.int x) = true) (H : EvK M K (pc + 3) L st (sI h c (upd (h.1 c) k x))) : EvK M K pc L (vI x :: vR c :: st) h := by
  intro g hg p e s m args below meth cd B kA kr kz H0 locs ls hP hS hl
  obtain ⟨C, T, n, ty0, h1, h2, h3, h4, h5, h6, h7, h8⟩ := hF
  have hc := sh_lt hs
  have hk : k < fs.length := (List.getElem?_eq_some_iff.mp hf).1
  have hset : (wo g h).set c (g.2.2.1 c, .inr (ci, (fs.mapIdx (fun k o => flV g.2.2.1 (h.1 c) k o)).set k (.int x))) = wo g (sI h c (upd (h.1 c) k x)) := by
    refine wo_set (by omega) ?_ (fun d hd => cel_sI_ne g h _ hd)
    rw [cel_obj g _ hs, flV_set _ _ _ _ _ hf]
    show Sum.inr (ci, List.mapIdx (fun j o => flV g.2.2.1 (va_up h.1 c (upd (h.1 c) k x) c) j o) fs) = _
    rw [va_up_self]
  refine va_put (D := g.2.1) (ci := ci) (v := .int x) (ty := ty) (C := C) (T := T) (N := n) B.1 B.2.1 B.2.2.2.2.2.2.1 h3 ty0 h5 h6 B.2.2.2.2.2.1 B.2.2.2.2.2.2.2.1 hP (wo_DA hg kA h) hS c ((wo_at g h (by omega)).trans (by rw [cel_obj g h hs])) h1 k h2 (B.2.2.2.2.2.2.1 _ h4) (fun _ h9 => h9) h7 h8 hn hfit (by simpa using hk) hd (fun H1 locs1 hP1 hD1 hS1 => ?_)
  rw [hset] at hP1
  exact H g hg p e s m args below meth cd B kA kr kz H1 locs1 ls hP1 hS1 hl
theorem ev_putI {c ci k idx : Nat} {fs : List (Option Nat)} {x : Int32} (hd : decode M.2.1 pc = .ok (.putfield idx, 3)) (hF : FP M.2.2.2.2.1 idx ci k .int) (hs : sh c = .inl (ci, fs)) (hf : fs[k]? = some none) (H : EvK M K (pc + 3) L st (sI h c (upd (h.1 c) k x))) : EvK M K pc L (vI x :: vR c :: st) h :=
  ev_putT hd hF hs hf rfl rfl H
theorem ev_putZ {c ci k idx : Nat} {fs : List (Option Nat)} {x : Int32} (hd : decode M.2.1 pc = .ok (.putfield idx, 3)) (hF : FP M.2.2.2.2.1 idx ci k .boolean) (hs : sh c = .inl (ci, fs)) (hf : fs[k]? = some none) (hb : x = 0 ∨ x = 1) (H : EvK M K (pc + 3) L st (sI h c (upd (h.1 c) k x))) : EvK M K pc L (vI x :: vR c :: st) h := by
  rcases hb with rfl | rfl
  · exact ev_putT hd hF hs hf (by decide +kernel) (by decide +kernel) H
  · exact ev_putT hd hF hs hf (by decide +kernel) (by decide +kernel) H
/-! arrays -/
theorem ev_iald {c n : Nat} {i : Int32} (hd : decode M.2.1 pc = .ok (.iaload, 1)) (hs : sh c = .inr (0, n)) (hi : vp_in i n) (H : EvK M K (pc + 1) L (vI (h.1 c i.toNatClampNeg) :: st) h) : EvK M K pc L (vI i :: vR c :: st) h := by
  intro g hg p e s m args below meth cd B kA kr kz H0 locs ls hP hS hl
  have hc := sh_ltz (by decide) hs
  exact va_iald B.1 B.2.1 B.2.2.2.2.2.2.2.1 hP c 0 ((wo_at g h (by omega)).trans (by rw [cel_i g h hs])) rfl hi hd (H g hg p e s m args below meth cd B kA kr kz H0 locs ls hP hS hl)
theorem ev_zald {c n : Nat} {i : Int32} (hd : decode M.2.1 pc = .ok (.baload, 1)) (hs : sh c = .inr (1, n)) (hi : vp_in i n) (H : EvK M K (pc + 1) L (vI (h.1 c i.toNatClampNeg) :: st) h) : EvK M K pc L (vI i :: vR c :: st) h := by
  intro g hg p e s m args below meth cd B kA kr kz H0 locs ls hP hS hl
  have hc := sh_ltz (by decide) hs
  exact va_zald B.1 B.2.1 B.2.2.2.2.2.2.2.1 hP c 1 ((wo_at g h (by omega)).trans (by rw [cel_z g h hs])) rfl hi hd (H g hg p e s m args below meth cd B kA kr kz H0 locs ls hP hS hl)
theorem ev_lald {c n : Nat} {i : Int32} (hd : decode M.2.1 pc = .ok (.laload, 1)) (hs : sh c = .inr (2, n)) (hc : c < 54) (hi : vp_in i n) (H : EvK M K (pc + 1) L (vL (h.2.1 c i.toNatClampNeg) :: st) h) : EvK M K pc L (vI i :: vR c :: st) h := by
  intro g hg p e s m args below meth cd B kA kr kz H0 locs ls hP hS hl
  exact va_lald B.1 B.2.1 B.2.2.2.2.2.2.2.1 hP c 2 ((wo_at g h (by omega)).trans (by rw [cel_j g h hs hc])) rfl hi hd (H g hg p e s m args below meth cd B kA kr kz H0 locs ls hP hS hl)
theorem ev_rald {k : Nat} {i : Int32} (hd : decode M.2.1 pc = .ok (.laload, 1)) (hk : k < 64) (hi : vp_in i 9) (H : EvK M K (pc + 1) L (vL (h.2.2 k i.toNatClampNeg) :: st) h) : EvK M K pc L (vI i :: vW k :: st) h := by
  intro g hg p e s m args below meth cd B kA kr kz H0 locs ls hP hS hl
  exact va_lald B.1 B.2.1 B.2.2.2.2.2.2.2.1 hP (54 + k) 2 ((wo_at g h (by omega)).trans (by rw [cel_row g h k])) rfl hi hd (H g hg p e s m args below meth cd B kA kr kz H0 locs ls hP hS hl)
theorem ev_gald {c : Nat} {i : Int32} (hd : decode M.2.1 pc = .ok (.aaload, 1)) (hs : sh c = .inr (3, 64)) (hi : vp_in i 64) (H : EvK M K (pc + 1) L (vW i.toNatClampNeg :: st) h) : EvK M K pc L (vI i :: vR c :: st) h := by
  intro g hg p e s m args below meth cd B kA kr kz H0 locs ls hP hS hl
  have hc := sh_ltz (by decide) hs
  have ha : (wo g h)[c]? = some (g.2.2.1 c, .inl (g.2.2.2 3, 64, .inr (.inr (.inr (.inr (fun i => some (g.2.2.1 (54 + i)))))))) := (wo_at g h (by omega)).trans (by rw [cel_g g h hs])
  exact va_aldA B.1 B.2.1 B.2.2.2.2.2.2.2.1 hP c 3 ha rfl hi hd (H g hg p e s m args below meth cd B kA kr kz H0 locs ls hP hS hl)
theorem ev_iast {c n : Nat} {i x : Int32} (hd : decode M.2.1 pc = .ok (.iastore, 1)) (hs : sh c = .inr (0, n)) (hi : vp_in i n) (H : EvK M K (pc + 1) L st (sI h c (upd (h.1 c) i.toNatClampNeg x))) : EvK M K pc L (vI x :: vI i :: vR c :: st) h := by
  intro g hg p e s m args below meth cd B kA kr kz H0 locs ls hP hS hl
  have hc := sh_ltz (by decide) hs
  refine va_iast B.1 B.2.1 B.2.2.2.2.2.2.2.1 hP (wo_DA hg kA h) hS c 0 ((wo_at g h (by omega)).trans (by rw [cel_i g h hs])) rfl hi hd (fun H1 locs1 hP1 hD1 hS1 => ?_)
  rw [wo_set (h' := sI h c (upd (h.1 c) i.toNatClampNeg x)) (by omega) (by rw [cel_i g _ hs]; show Sum.inl (_, _, Sum.inl (va_up h.1 c _ c)) = _; rw [va_up_self]) (fun d hd => cel_sI_ne g h _ hd)] at hP1
  exact H g hg p e s m args below meth cd B kA kr kz H1 locs1 ls hP1 hS1 hl
theorem ev_zast {c n : Nat} {i x : Int32} (hd : decode M.2.1 pc = .ok (.bastore, 1)) (hs : sh c = .inr (1, n)) (hi : vp_in i n) (hb : x = 0 ∨ x = 1) (H : EvK M K (pc + 1) L st (sI h c (upd (h.1 c) i.toNatClampNeg x))) : EvK M K pc L (vI x :: vI i :: vR c :: st) h := by
  intro g hg p e s m args below meth cd B kA kr kz H0 locs ls hP hS hl
  have hc := sh_ltz (by decide) hs
  have hx : vp_nar .boolean x = x := by rcases hb with rfl | rfl <;> decide +kernel
  refine va_zast B.1 B.2.1 B.2.2.2.2.2.2.2.1 hP (wo_DA hg kA h) hS c 1 ((wo_at g h (by omega)).trans (by rw [cel_z g h hs])) rfl hi hd (fun H1 locs1 hP1 hD1 hS1 => ?_)
  rw [hx, wo_set (h' := sI h c (upd (h.1 c) i.toNatClampNeg x)) (by omega) (by rw [cel_z g _ hs]; show Sum.inl (_, _, Sum.inl (va_up h.1 c _ c)) = _; rw [va_up_self]) (fun d hd => cel_sI_ne g h _ hd)] at hP1
  exact H g hg p e s m args below meth cd B kA kr kz H1 locs1 ls hP1 hS1 hl
theorem ev_last {c n : Nat} {i : Int32} {x : Int64} (hd : decode M.2.1 pc = .ok (.lastore, 1)) (hs : sh c = .inr (2, n)) (hc : c < 54) (hi : vp_in i n) (H : EvK M K (pc + 1) L st (sJ h c (vp_updL (h.2.1 c) i.toNatClampNeg x))) : EvK M K pc L (vL x :: vI i :: vR c :: st) h := by
  intro g hg p e s m args below meth cd B kA kr kz H0 locs ls hP hS hl
  refine va_last B.1 B.2.1 B.2.2.2.2.2.2.2.1 hP (wo_DA hg kA h) hS c 2 ((wo_at g h (by omega)).trans (by rw [cel_j g h hs hc])) rfl hi hd (fun H1 locs1 hP1 hD1 hS1 => ?_)
  rw [wo_set (h' := sJ h c (vp_updL (h.2.1 c) i.toNatClampNeg x)) (by omega) (by rw [cel_j g _ hs hc]; show Sum.inl (_, _, Sum.inr (Sum.inl (va_up h.2.1 c _ c))) = _; rw [va_up_self]) (fun d hd => cel_sJ_ne g h _ hd)] at hP1
  exact H g hg p e s m args below meth cd B kA kr kz H1 locs1 ls hP1 hS1 hl
theorem ev_rast {k : Nat} {i : Int32} {x : Int64} (hd : decode M.2.1 pc = .ok (.lastore, 1)) (hk : k < 64) (hi : vp_in i 9) (H : EvK M K (pc + 1) L st (sW h k (vp_updL (h.2.2 k) i.toNatClampNeg x))) : EvK M K pc L (vL x :: vI i :: vW k :: st) h := by
  intro g hg p e s m args below meth cd B kA kr kz H0 locs ls hP hS hl
  refine va_last B.1 B.2.1 B.2.2.2.2.2.2.2.1 hP (wo_DA hg kA h) hS (54 + k) 2 ((wo_at g h (by omega)).trans (by rw [cel_row g h k])) rfl hi hd (fun H1 locs1 hP1 hD1 hS1 => ?_)
  rw [wo_set (h' := sW h k (vp_updL (h.2.2 k) i.toNatClampNeg x)) (by omega) (by rw [cel_sW g h _ k]) (fun d hd => cel_sW_ne g h _ hd)] at hP1
  exact H g hg p e s m args below meth cd B kA kr kz H1 locs1 ls hP1 hS1 hl
theorem ev_alen {c kd n : Nat} (v : Int32) (hd : decode M.2.1 pc = .ok (.arraylength, 1)) (hs : sh c = .inr (kd, n)) (hc : c < 54) (hk : kd < 3) (hv : Int32.ofNat n = v) (H : EvK M K (pc + 1) L (vI v :: st) h) : EvK M K pc L (vR c :: st) h := by
  intro g hg p e s m args below meth cd B kA kr kz H0 locs ls hP hS hl
  have hk2 : kd = 0 ∨ kd = 1 ∨ kd = 2 := by omega
  rcases hk2 with rfl | rfl | rfl
  · exact va_alen B.1 B.2.1 B.2.2.2.2.2.2.2.1 hP c 0 ((wo_at g h (by omega)).trans (by rw [cel_i g h hs])) rfl hv hd (H g hg p e s m args below meth cd B kA kr kz H0 locs ls hP hS hl)
  · exact va_alen B.1 B.2.1 B.2.2.2.2.2.2.2.1 hP c 1 ((wo_at g h (by omega)).trans (by rw [cel_z g h hs])) rfl hv hd (H g hg p e s m args below meth cd B kA kr kz H0 locs ls hP hS hl)
  · exact va_alen B.1 B.2.1 B.2.2.2.2.2.2.2.1 hP c 2 ((wo_at g h (by omega)).trans (by rw [cel_j g h hs hc])) rfl hv hd (H g hg p e s m args below meth cd B kA kr kz H0 locs ls hP hS hl)
/-! returns -/
theorem ev_iret {v : Int32} (hd : decode M.2.1 pc = .ok (.ireturn, 1)) (hr : M.2.2.2.1 = some .int) (H : Q (some (vI v)) h) : Ev M pc L [vI v] h Q := by
  intro g hg p e s m args below meth cd B kA kr kz H0 locs ls hP hS hl
  exact W.iret (v := v) B.1 B.2.1 (B.2.2.1.trans hr) (fun t ht hW => ⟨⟨some (vI v), h, rfl, H, by rw [ht]; exact hP⟩, hS.F ht⟩) hS.2.2 hd B.2.2.2.1
theorem ev_zret {v : Int32} (hd : decode M.2.1 pc = .ok (.ireturn, 1)) (hr : M.2.2.2.1 = some .boolean) (hb : v = 0 ∨ v = 1) (H : Q (some (vI v)) h) : Ev M pc L [vI v] h Q := by
  intro g hg p e s m args below meth cd B kA kr kz H0 locs ls hP hS hl
  exact W.zret (v := v) B.1 B.2.1 (B.2.2.1.trans hr) (by rcases hb with rfl | rfl <;> decide +kernel) (fun t ht hW => ⟨⟨some (vI v), h, rfl, H, by rw [ht]; exact hP⟩, hS.F ht⟩) hS.2.2 hd B.2.2.2.1
theorem ev_lret {v : Int64} (hd : decode M.2.1 pc = .ok (.lreturn, 1)) (hr : M.2.2.2.1 = some .long) (H : Q (some (vL v)) h) : Ev M pc L [vL v] h Q := by
  intro g hg p e s m args below meth cd B kA kr kz H0 locs ls hP hS hl
  exact W.lret (v := v) B.1 B.2.1 (B.2.2.1.trans hr) (fun t ht hW => ⟨⟨some (vL v), h, rfl, H, by rw [ht]; exact hP⟩, hS.F ht⟩) hS.2.2 hd B.2.2.2.1
theorem ev_vret (hd : decode M.2.1 pc = .ok (.return_, 1)) (hr : M.2.2.2.1 = none) (H : Q none h) : Ev M pc L [] h Q := by
  intro g hg p e s m args below meth cd B kA kr kz H0 locs ls hP hS hl
  exact W.vret B.1 B.2.1 (B.2.2.1.trans hr) (fun t ht hW => ⟨⟨none, h, rfl, H, by rw [ht]; exact hP⟩, hS.F ht⟩) hS.2.2 hd B.2.2.2.1
/-! calls -/
theorem px_blind (g : GG) (h : Hp) (as : List AV) : FrameBlind (Px g h as) := by
  intro a U f mk q
  obtain ⟨q0, qP, qK⟩ := q
  exact ⟨q0, qP, qK.calling f mk a⟩
theorem px_of {g : GG} {h : Hp} {as : List AV} {s : State} {H : Heap} (hP : va_P g.2.1 vwCl (wo g h) H) (hK : WK g s) (U : State) (hU : U.heap = H) (hW : s.WarmedH U.vm) : Px g h as (as.map (ro g.2.2.1)).toArray U :=
  ⟨rfl, by rw [hU]; exact hP, hK.moved hW⟩
/-- behind a call -/
theorem ev_back {g : GG} {p : Program} {e : Env} {s : State} {m : MethodId} {args : Array Value} {below : List Frame} {meth : Method} {c : Code} {H0 : Heap} {locs : List Loc} {ls : Array Slot} {st0 : List Value} {R : Room} {Qz : State → Prop} {QQ : Option AV → Hp → Prop} {a : Array Value} {rest : List AV} {cells slots : Nat} {A : Nat → Prop}
    (hr : va_Run p g.1 e R s m args below meth c H0 locs cells slots 0 0 (F0 m pc ls st0) (rest.map (ro g.2.2.1)) (Qx g QQ a) (Aw g)) (hAA : ∀ q, Aw g q → A q) (hS : va_S A s.heap H0 locs)
    (kk : ∀ (v : Option AV) (h1 : Hp) (H1 : Heap) (locs1 : List Loc), QQ v h1 → va_P g.2.1 vwCl (wo g h1) H1 → va_S A s.heap H1 locs1 → W p g.1 e R s m args below meth c H1 locs1 cells slots Qz (F0 m (pc + 3) ls ((v.toList ++ rest).map (ro g.2.2.1)))) : W p g.1 e R s m args below meth c H0 locs cells slots Qz (F0 m pc ls st0) := by
  intro T hT X
  obtain ⟨v, st₀, t, T', Lc, h0, X', hL, e1, e2, ⟨⟨v1, h1, hv, hp, hb⟩, hz, hk⟩, stp⟩ := hr T hT X
  have hv : v = v1.map (ro g.2.2.1) := by
    cases hv
    rfl
  rw [h0] at hz hk
  obtain ⟨t2, a1, b1⟩ := kk v1 h1 T'.heap (locs ++ Lc) hp (by rw [e1]; exact hb)
    ⟨Nat.le_trans hS.1 (by rw [e1]; exact hz), fun q h1 h2 => by rw [e1, hk q (Nat.lt_of_lt_of_le h1 hS.1) (fun z => h2 (hAA q z))]; exact hS.2.1 q h1 h2, fun q hq => by
      rcases List.mem_append.mp hq with h | h
      · exact hS.2.2 q h
      · exact hAA _ (hL q h)⟩ T' rfl X'
  refine ⟨t2, stp t2 ?_, b1⟩
  have e9 : v.toList ++ rest.map (ro g.2.2.1) = (v1.toList ++ rest).map (ro g.2.2.1) := by
    rw [hv]
    cases v1 <;> simp
  show Steps _ _ _ (T'.setTop { F0 m pc ls st0 with pc := pc + 3, stack := v.toList ++ rest.map (ro g.2.2.1) }) t2
  rw [e9]
  exact a1
theorem cat_le (q : Nat → Nat) (rest : List AV) (n : Nat) (hr : (rest.map (fun v => if isL v = true then 2 else 1)).sum ≤ n) : ((rest.map (ro q)).map fun v => v.category).sum ≤ n := by
  rw [List.map_map]
  have e : (Value.category ∘ ro q) = (fun v => if isL v = true then 2 else 1) := funext (isL_cat q)
  show (rest.map (Value.category ∘ ro q)).sum ≤ n
  rw [e]
  exact hr
/-- the words of a call of an own method: it is linked, of its class, of the tables -/
def MLv (own : String) (idx : Nat) (N : MD) (n : Nat) : Prop := GoodIn wsL_law0 (wsV own idx N.1.cls N.1 (wsM N)) ∧ N.1.cls ≠ "java/lang/invoke/MethodHandle" ∧ N.1.cls ≠ "java/lang/invoke/VarHandle" ∧ (parseMethodDescriptor N.1.desc).map (fun d => d.parameters.length) = some n
def MLs (own : String) (idx : Nat) (N : MD) (n : Nat) : Prop := GoodIn wsL_law0 (wsS own idx N.1 (wsM N)) ∧ N.1.cls = own ∧ N.1.cls ≠ "java/lang/invoke/MethodHandle" ∧ N.1.cls ≠ "java/lang/invoke/VarHandle" ∧ (parseMethodDescriptor N.1.desc).map (fun d => d.parameters.length) = some n
/-- a nest mate's private static method -/
def MLn (own : String) (idx : Nat) (N : MD) (n : Nat) : Prop := GoodIn wsL_law0 (wsM N) ∧ Cond.methodLinkNest own idx N.1 RX6 ∈ nwL ∧ Cond.initialized N.1.cls ∈ wsL_law0 ∧ Cond.static N.1 ∈ wsL_law0 ∧ N.1.cls ≠ "java/lang/invoke/MethodHandle" ∧ N.1.cls ≠ "java/lang/invoke/VarHandle" ∧ (parseMethodDescriptor N.1.desc).map (fun d => d.parameters.length) = some n
def Rm (M N : MD) : Prop := N.2.2.2.2.2.cells = 0 ∧ N.2.2.2.2.2.slots = 0 ∧ N.2.2.2.2.2.frames + 1 ≤ M.2.2.2.2.2.frames ∧ 8 + (N.2.2.1 + 11) + N.2.2.2.2.2.locals ≤ M.2.2.2.2.2.locals
/-- an own method of the object at cell b; As: what it is given, the last one on top -/
theorem ev_callV {N : MD} {idx n b ci : Nat} {fs : List (Option Nat)} {As rest stk : List AV} (hd : decode M.2.1 pc = .ok (.invokevirtual idx, 3)) (hw : MLv M.2.2.2.2.1 idx N n) (hR : Rm M N) (hs : sh b = .inl (ci, fs)) (hc : (vwCl[ci]?).map (fun q => q.1) = some N.1.cls) (hn : As.length = n) (hst : stk = As.reverse ++ vR b :: rest) (hcat : (rest.map (fun v => if isL v = true then 2 else 1)).sum ≤ 8)
    {QQ : Option AV → Hp → Prop} (H : EvM N (vR b :: As) h QQ) (KK : ∀ v h1, QQ v h1 → EvK M K (pc + 3) L (v.toList ++ rest) h1) : EvK M K pc L stk h := by
  intro g hg p e s m args below meth cd B kA kr kz H0 locs ls hP hS hl
  subst hst
  have hbl := sh_lt hs
  obtain ⟨qc, hq, hqc⟩ : ∃ q, vwCl[ci]? = some q ∧ q.1 = N.1.cls := by
    cases hq : vwCl[ci]? with
    | none => rw [hq] at hc; cases hc
    | some q => rw [hq] at hc; exact ⟨q, rfl, Option.some.inj hc⟩
  have hrecv := va_recv (q0 := b) B.2.2.2.2.2.2.2.1 hP hq ((wo_at g h (by omega)).trans (by rw [cel_obj g h hs]))
  rw [hqc] at hrecv
  have hcw := cwV (R := M.2.2.2.2.2) (rm := N.2.2.2.2.2) (mc := 0) (ms := 0) n B.2.2.2.2.2.2.1 hw.1 rfl hR.1 hR.2.1 ⟨rfl, hw.2⟩ hR.2.2
  have hrun := va_runV (p := p) (e := e) (below := below) (meth := meth) (locs := locs) (cells := K.2.1.1) (slots := K.2.1.2) (As := As.map (ro g.2.2.1)) (rest := rest.map (ro g.2.2.1)) (g := F0 m pc ls ((As.reverse ++ vR b :: rest).map (ro g.2.2.1))) ⟨B.1, B.2.1, B.2.2.2.2.1, B.2.2.2.2.2.1, B.2.2.2.2.2.2.1⟩ (H g hg) hcw ⟨px_blind g h _, hrecv, fun U hU hW => px_of hP B.2.2.2.2.2.2.2 U hU hW⟩ rfl (by simpa using hn) hl.1 (by simp [ro]) (lv_room (cat_le _ _ 8 hcat)) hd kr
  exact ev_back hrun (Aw_in kA) hS (fun v h1 H1 locs1 q1 q2 q3 => KK v h1 q1 g hg p e s m args below meth cd B kA kr kz H1 locs1 ls q2 q3 hl)
theorem ev_callS {N : MD} {idx n : Nat} {As rest stk : List AV} (hd : decode M.2.1 pc = .ok (.invokestatic idx, 3)) (hw : MLs M.2.2.2.2.1 idx N n) (hR : Rm M N) (hn : As.length = n) (hst : stk = As.reverse ++ rest) (hcat : (rest.map (fun v => if isL v = true then 2 else 1)).sum ≤ 8)
    {QQ : Option AV → Hp → Prop} (H : EvM N As h QQ) (KK : ∀ v h1, QQ v h1 → EvK M K (pc + 3) L (v.toList ++ rest) h1) : EvK M K pc L stk h := by
  intro g hg p e s m args below meth cd B kA kr kz H0 locs ls hP hS hl
  subst hst
  have hcw := cwS (R := M.2.2.2.2.2) (rm := N.2.2.2.2.2) (mc := 0) (ms := 0) n B.2.2.2.2.2.2.1 hw.1 rfl hR.1 hR.2.1 hw.2 hR.2.2
  have hrun := va_runS (p := p) (e := e) (below := below) (meth := meth) (locs := locs) (cells := K.2.1.1) (slots := K.2.1.2) (As := As.map (ro g.2.2.1)) (rest := rest.map (ro g.2.2.1)) (g := F0 m pc ls ((As.reverse ++ rest).map (ro g.2.2.1))) ⟨B.1, B.2.1, B.2.2.2.2.1, B.2.2.2.2.2.1, B.2.2.2.2.2.2.1⟩ (H g hg) hcw ⟨px_blind g h _, fun U hU hW => px_of hP B.2.2.2.2.2.2.2 U hU hW⟩ rfl (by simpa using hn) hl.1 (by simp) (lv_room (cat_le _ _ 8 hcat)) hd kr
  exact ev_back hrun (Aw_in kA) hS (fun v h1 H1 locs1 q1 q2 q3 => KK v h1 q1 g hg p e s m args below meth cd B kA kr kz H1 locs1 ls q2 q3 hl)
theorem ev_callN {N : MD} {idx n : Nat} {As rest stk : List AV} (hd : decode M.2.1 pc = .ok (.invokestatic idx, 3)) (hw : MLn M.2.2.2.2.1 idx N n) (hR : Rm M N) (hn : As.length = n) (hst : stk = As.reverse ++ rest) (hcat : (rest.map (fun v => if isL v = true then 2 else 1)).sum ≤ 8)
    {QQ : Option AV → Hp → Prop} (H : EvM N As h QQ) (KK : ∀ v h1, QQ v h1 → EvK M K (pc + 3) L (v.toList ++ rest) h1) : EvK M K pc L stk h := by
  intro g hg p e s m args below meth cd B kA kr kz H0 locs ls hP hS hl
  subst hst
  have hcw := va_cnB (R := M.2.2.2.2.2) (rm := N.2.2.2.2.2) (mc := 0) (ms := 0) (host := RX6) n B.2.2.2.2.2.2.1 hw.1 rfl hR.1 hR.2.1 (B.2.2.2.2.2.2.2.2 _ hw.2.1) (B.2.2.2.2.2.2.1 _ hw.2.2.1) hw.2.2.2.2 hR.2.2
  have hrun := va_runSN (p := p) (e := e) (below := below) (meth := meth) (locs := locs) (cells := K.2.1.1) (slots := K.2.1.2) (As := As.map (ro g.2.2.1)) (rest := rest.map (ro g.2.2.1)) (g := F0 m pc ls ((As.reverse ++ rest).map (ro g.2.2.1))) ⟨B.1, B.2.1, B.2.2.2.2.1, B.2.2.2.2.2.1, B.2.2.2.2.2.2.1⟩ (H g hg) ⟨hcw, B.2.2.2.2.2.2.1 _ hw.2.2.2.1, trivial⟩ ⟨px_blind g h _, fun U hU hW => px_of hP B.2.2.2.2.2.2.2 U hU hW⟩ rfl (by simpa using hn) hl.1 (by simp) (lv_room (cat_le _ _ 8 hcat)) hd kr
  exact ev_back hrun (Aw_in kA) hS (fun v h1 H1 locs1 q1 q2 q3 => KK v h1 q1 g hg p e s m args below meth cd B kA kr kz H1 locs1 ls q2 q3 hl)
/-! a method out of its walk -/
def avA : Nat → List AV → List (Nat × AV)
  | _, [] => []
  | i, v :: vs => (i, v) :: avA (if isL v = true then i + 2 else i + 1) vs
theorem avA_lm (q : Nat → Nat) : ∀ (vs : List AV) (i : Nat), lv_args i (vs.map (ro q)) = lm q (avA i vs)
  | [], _ => rfl
  | v :: vs, i => by
    show (i, ro q v) :: lv_args _ (vs.map (ro q)) = (i, ro q v) :: lm q (avA _ vs)
    refine congrArg _ ?_
    rw [← avA_lm q vs, isL_cat]
    cases isL v <;> rfl
def avN (vs : List AV) : Nat := (vs.map (fun v => if isL v = true then 2 else 1)).sum
theorem avN_sl (q : Nat → Nat) : ∀ vs : List AV, (lg_sl (vs.map (ro q))).length = avN vs
  | [] => rfl
  | v :: vs => by
    have ih := avN_sl q vs
    have e : lg_sl ((v :: vs).map (ro q)) = (if (ro q v).category = 2 then [Slot.val (ro q v), .second] else [.val (ro q v)]) ++ lg_sl (vs.map (ro q)) := by simp [lg_sl]
    rw [e, List.length_append, ih, isL_cat]
    cases h : isL v <;> simp [avN, h]
theorem evM_of {as : List AV} (hy : plainName M.1.cls = true) (hcls : M.2.2.2.2.1 = M.1.cls) (hn : avN as ≤ M.2.2.1) (H : Ev M 0 (avA 0 as) [] h Q) : EvM M as h Q := by
  intro g hg
  refine Met.ofW (cc := M.2.1) (maxL := M.2.2.1) (ret := M.2.2.2.1) hy rfl ?_
  intro p e s m args below meth c s₁ B hml hv
  obtain ⟨rfl, hP, hK⟩ := hv
  have hts := atoms_spec (ws := wsM M) B.pre
  have hown : s.vm.findClass M.2.2.2.2.1 = some m.cls := by rw [hcls]; exact findClass_of_methodNamed B.named
  have hl := lv_entry (as.map (ro g.2.2.1)) (n := M.2.2.1) (by rw [avN_sl]; exact hn)
  rw [lg_entry_eq]
  rw [avA_lm] at hl
  exact H g hg p e s m _ below meth c ⟨B.exec, B.bytes, B.returns, B.notSynchronized, hml, hown, fun w h => hts w (List.mem_cons_of_mem _ h), hK⟩ (fun x hx => ⟨x, hx, rfl⟩) ⟨Nat.zero_le _, Nat.zero_le _⟩ trivial s.heap [] _ hP va_S.rf hl
/-! System.arraycopy -/
def cpk (sp dp n : Int32) (n0 n1 : Nat) : Prop := ¬ sp < 0 ∧ ¬ dp < 0 ∧ ¬ n < 0 ∧ sp.toNatClampNeg + n.toNatClampNeg ≤ n0 ∧ dp.toNatClampNeg + n.toNatClampNeg ≤ n1
def MLc (own : String) (idx : Nat) : Prop := Cond.methodLink own idx arraycopyName ∈ wsL_law0 ∧ Cond.native arraycopyName ∈ wsL_law0 ∧ Cond.static arraycopyName ∈ wsL_law0 ∧ Cond.initialized "java/lang/System" ∈ wsL_law0
def Rc (M : MD) : Prop := 1 ≤ M.2.2.2.2.2.frames ∧ 26 ≤ M.2.2.2.2.2.locals
theorem ev_copyI {c0 c1 n0 n1 idx : Nat} {sp dp n : Int32} (hd : decode M.2.1 pc = .ok (.invokestatic idx, 3)) (hw : MLc M.2.2.2.2.1 idx) (hR : Rc M) (hs0 : sh c0 = .inr (0, n0)) (hs1 : sh c1 = .inr (0, n1)) (hk : cpk sp dp n n0 n1) (hcat : (st.map (fun v => if isL v = true then 2 else 1)).sum ≤ 8)
    (H : EvK M K (pc + 3) L st (sI h c1 (va_cpy (h.1 c0) (h.1 c1) sp.toNatClampNeg dp.toNatClampNeg n.toNatClampNeg))) : EvK M K pc L (vI n :: vI dp :: vR c1 :: vI sp :: vR c0 :: st) h := by
  intro g hg p e s m args below meth cd B kA kr kz H0 locs ls hP hS hl
  have hc0 := sh_ltz (by decide) hs0
  have hc1 := sh_ltz (by decide) hs1
  have hcat2 := cat_le g.2.2.1 st 8 hcat
  refine va_copyi (ty := .int) B.1 B.2.1 (B.2.2.2.2.1.trans hl.1.symm) B.2.2.2.2.2.1 (B.2.2.2.2.2.2.1 _ hw.1) (B.2.2.2.2.2.2.1 _ hw.2.1) (B.2.2.2.2.2.2.1 _ hw.2.2.1) (B.2.2.2.2.2.2.1 _ hw.2.2.2) B.2.2.2.2.2.2.2.1 hP (wo_DA hg kA h) hS c0 c1 0 0 ((wo_at g h (by omega)).trans (by rw [cel_i g h hs0])) ((wo_at g h (by omega)).trans (by rw [cel_i g h hs1])) rfl rfl (by decide) hk.1 hk.2.1 hk.2.2.1 hk.2.2.2.1 hk.2.2.2.2 (fun i _ => rfl) hR.1 (Nat.le_trans (Nat.add_le_add_right hcat2 _) hR.2) hd (fun H1 locs1 hP1 hD1 hS1 => ?_)
  rw [wo_set (h' := sI h c1 (va_cpy (h.1 c0) (h.1 c1) sp.toNatClampNeg dp.toNatClampNeg n.toNatClampNeg)) (by omega) (by rw [cel_i g _ hs1]; show Sum.inl (_, _, Sum.inl (va_up h.1 c1 _ c1)) = _; rw [va_up_self]) (fun d hd => cel_sI_ne g h _ hd)] at hP1
  exact H g hg p e s m args below meth cd B kA kr kz H1 locs1 ls hP1 hS1 hl
theorem ev_copyL {c0 c1 n0 n1 idx : Nat} {sp dp n : Int32} (hd : decode M.2.1 pc = .ok (.invokestatic idx, 3)) (hw : MLc M.2.2.2.2.1 idx) (hR : Rc M) (hs0 : sh c0 = .inr (2, n0)) (hs1 : sh c1 = .inr (2, n1)) (hc0 : c0 < 54) (hc1 : c1 < 54) (hk : cpk sp dp n n0 n1) (hcat : (st.map (fun v => if isL v = true then 2 else 1)).sum ≤ 8)
    (H : EvK M K (pc + 3) L st (sJ h c1 (va_cpy (h.2.1 c0) (h.2.1 c1) sp.toNatClampNeg dp.toNatClampNeg n.toNatClampNeg))) : EvK M K pc L (vI n :: vI dp :: vR c1 :: vI sp :: vR c0 :: st) h := by
  intro g hg p e s m args below meth cd B kA kr kz H0 locs ls hP hS hl
  have hcat2 := cat_le g.2.2.1 st 8 hcat
  refine va_copyl (ty := .long) B.1 B.2.1 (B.2.2.2.2.1.trans hl.1.symm) B.2.2.2.2.2.1 (B.2.2.2.2.2.2.1 _ hw.1) (B.2.2.2.2.2.2.1 _ hw.2.1) (B.2.2.2.2.2.2.1 _ hw.2.2.1) (B.2.2.2.2.2.2.1 _ hw.2.2.2) B.2.2.2.2.2.2.2.1 hP (wo_DA hg kA h) hS c0 c1 2 2 ((wo_at g h (by omega)).trans (by rw [cel_j g h hs0 hc0])) ((wo_at g h (by omega)).trans (by rw [cel_j g h hs1 hc1])) rfl rfl (by decide) hk.1 hk.2.1 hk.2.2.1 hk.2.2.2.1 hk.2.2.2.2 (fun i _ => rfl) hR.1 (Nat.le_trans (Nat.add_le_add_right hcat2 _) hR.2) hd (fun H1 locs1 hP1 hD1 hS1 => ?_)
  rw [wo_set (h' := sJ h c1 (va_cpy (h.2.1 c0) (h.2.1 c1) sp.toNatClampNeg dp.toNatClampNeg n.toNatClampNeg)) (by omega) (by rw [cel_j g _ hs1 hc1]; show Sum.inl (_, _, Sum.inr (Sum.inl (va_up h.2.1 c1 _ c1))) = _; rw [va_up_self]) (fun d hd => cel_sJ_ne g h _ hd)] at hP1
  exact H g hg p e s m args below meth cd B kA kr kz H1 locs1 ls hP1 hS1 hl

end EVR
theorem all_good : wsL_law0.all goodWord = true := by decide +kernel
theorem good_M {N : MD} (hc : Cond.code N.1 N.2.1 N.2.2.1 N.2.2.2.1 ∈ wsL_law0) : GoodIn wsL_law0 (wsM N) := by
  intro w hw
  rcases List.mem_cons.mp hw with rfl | hw
  · exact ⟨hc, good_of_word (List.all_eq_true.mp all_good _ hc)⟩
  · exact ⟨hw, good_of_word (List.all_eq_true.mp all_good _ hw)⟩
theorem mlv_of {own : String} {idx n : Nat} {N : MD} (hm : ∀ w ∈ [Cond.methodLink own idx N.1, .instanceMethod N.1, .selects N.1.cls N.1 N.1, .initialized N.1.cls, .code N.1 N.2.1 N.2.2.1 N.2.2.2.1], w ∈ wsL_law0) (hd : N.1.cls ≠ "java/lang/invoke/MethodHandle" ∧ N.1.cls ≠ "java/lang/invoke/VarHandle" ∧ (parseMethodDescriptor N.1.desc).map (fun d => d.parameters.length) = some n) : MLv own idx N n := by
  refine ⟨fun w hw => ?_, hd⟩
  rcases List.mem_append.mp hw with hw | hw
  · have h1 : w ∈ wsL_law0 := hm w (by simp only [List.mem_cons, List.not_mem_nil, or_false] at hw ⊢; rcases hw with h | h | h | h <;> simp [h])
    exact ⟨h1, good_of_word (List.all_eq_true.mp all_good _ h1)⟩
  · exact good_M (hm _ (by simp)) w hw
theorem mls_of {own : String} {idx n : Nat} {N : MD} (hm : ∀ w ∈ [Cond.methodLink own idx N.1, .static N.1, .initialized own, .code N.1 N.2.1 N.2.2.1 N.2.2.2.1], w ∈ wsL_law0) (hd : N.1.cls = own ∧ N.1.cls ≠ "java/lang/invoke/MethodHandle" ∧ N.1.cls ≠ "java/lang/invoke/VarHandle" ∧ (parseMethodDescriptor N.1.desc).map (fun d => d.parameters.length) = some n) : MLs own idx N n := by
  refine ⟨fun w hw => ?_, hd⟩
  rcases List.mem_append.mp hw with hw | hw
  · have h1 : w ∈ wsL_law0 := hm w (by simp only [List.mem_cons, List.not_mem_nil, or_false] at hw ⊢; rcases hw with h | h | h <;> simp [h])
    exact ⟨h1, good_of_word (List.all_eq_true.mp all_good _ h1)⟩
  · exact good_M (hm _ (by simp)) w hw
