/-! what a question costs; the audit of the class -/
/-- leaves right of l0 whose first key is not above hi -/
def cst (S : SR) (hi : Int32) (l0 : Nat) : List Nat → Bool → Nat → Nat
  | [], _, c => c
  | m :: t, b, c => cst S hi l0 t (b || m == l0) (if b = true ∧ nh S m 0 / 256 ≤ hi.toInt then c + 1 else c)
section COS
variable {S : SR} {Q : Option AV → Hp → Prop} {rk : Nat → Nat}
def bI (b : Bool) : Int32 := if b = true then 1 else 0
theorem c_cost_39 {hi : Int32} {l0 x : Nat} (hx2 : x ≤ 64) (hl0 : l0 < 64) {h : Hp} (H : C_st S h) : ∀ (l : List Nat) (i c : Nat) (b : Bool), arT (h.1 24) i l → (∀ m ∈ l, m < 64 ∧ ¬ nu S m = 0 ∧ nz S m ≤ 8) → (∀ m ∈ l, 1 ≤ nz S m → okE (nh S m 0)) → (∀ m ∈ l, 1 ≤ nz S m) ∨ (b = false ∧ l.length ≤ 1) → i + l.length = x → c + l.length < 2000 → Q (some (vI (nI (cst S hi l0 l b c)))) h → Ev mX5_costOf 39 [(0, vR 16), (2, vI hi), (3, vI (nI l0)), (4, vI (nI c)), (5, vI (nI x)), (6, vI (bI b)), (7, vI (nI i))] [] h Q
  | [], i, c, b, ha, hl, hE, hne, hx, hc, K => by
    apply sX5_costOf_39
    have hx : i = x := by simpa using hx
    subst hx
    simp (disch := omega) only [nt_le, nt_lt, nt_eq, nt_cl, nt_vp, nI_add, lu_le, lu_lt, lu_eq, ul_le, ul_lt, ul_eq, lu_add, ul_add, lu_sub, lu_mul, ul_mul, nt_sub, nt_m1]
    exact ⟨fun _ => K, fun c => absurd (Nat.le_refl _) c⟩
  | m :: t, i, c, b, ha, hl, hE, hne, hx, hc, K => by
    obtain ⟨mb, hu, hz⟩ := hl m List.mem_cons_self
    obtain ⟨q1, q2, q3⟩ := H.2.2 m mb hu
    rw [List.length_cons] at hx hc
    -- the flag, then the next leaf
    have step : ∀ c2, c2 = (if b = true ∧ nh S m 0 / 256 ≤ hi.toInt then c + 1 else c) → Ev mX5_costOf 79 [(0, vR 16), (2, vI hi), (3, vI (nI l0)), (4, vI (nI c2)), (5, vI (nI x)), (6, vI (bI b)), (7, vI (nI i)), (8, vI (nI m))] [] h Q := by
      intro c2 hc2
      have hc3 : c2 ≤ c + 1 := by
        rw [hc2]
        split <;> omega
      have nx : ∀ b2, b2 = (b || m == l0) → Ev mX5_costOf 39 [(0, vR 16), (2, vI hi), (3, vI (nI l0)), (4, vI (nI c2)), (5, vI (nI x)), (6, vI (bI b2)), (7, vI (nI (i + 1)))] [] h Q := by
        intro b2 hb2
        refine c_cost_39 hx2 hl0 H t (i + 1) c2 b2 ha.tl (fun z hz => hl z (List.mem_cons_of_mem _ hz)) (fun z hz => hE z (List.mem_cons_of_mem _ hz)) ?_ (by omega) (by omega) ?_
        · rcases hne with z | ⟨z1, z2⟩
          · exact Or.inl (fun y hy => z y (List.mem_cons_of_mem _ hy))
          · have : t = [] := by
              rw [List.length_cons] at z2
              exact List.length_eq_zero_iff.mp (by omega)
            subst this
            exact Or.inl (fun y hy => absurd hy List.not_mem_nil)
        · rw [hb2, hc2]
          exact K
      apply sX5_costOf_79
      simp (disch := omega) only [nt_le, nt_lt, nt_eq, nt_cl, nt_vp, nI_add, lu_le, lu_lt, lu_eq, ul_le, ul_lt, ul_eq, lu_add, ul_add, lu_sub, lu_mul, ul_mul, nt_sub, nt_m1]
      cases b with
      | true => exact ⟨fun _ => nx true rfl, fun z => absurd z (by decide)⟩
      | false =>
        refine ⟨fun z => absurd rfl z, fun _ => ⟨fun z => nx false ?_, fun z => nx true ?_⟩⟩
        · simp [z]
        · simp [z]
    apply sX5_costOf_39
    simp (disch := omega) only [nt_le, nt_lt, nt_eq, nt_cl, nt_vp, nI_add, lu_le, lu_lt, lu_eq, ul_le, ul_lt, ul_eq, lu_add, ul_add, lu_sub, lu_mul, ul_mul, nt_sub, nt_m1]
    rw [ha.hd]
    simp (disch := omega) only [nt_le, nt_lt, nt_eq, nt_cl, nt_vp, nI_add, lu_le, lu_lt, lu_eq, ul_le, ul_lt, ul_eq, lu_add, ul_add, lu_sub, lu_mul, ul_mul, nt_sub, nt_m1]
    refine ⟨fun c => by omega, fun _ => ⟨by omega, fun z => ?_, fun z => ⟨mb, ?_⟩⟩⟩
    · have hb : b = false := by
        cases b with
        | false => rfl
        | true => exact absurd z (by decide)
      exact step c (by rw [hb, if_neg (by simp)])
    · have hb : b = true := by
        cases b with
        | true => rfl
        | false => exact absurd rfl z
      have hz1 : 1 ≤ nz S m := by
        rcases hne with y | ⟨y1, y2⟩
        · exact y m List.mem_cons_self
        · rw [hb] at y1
          cases y1
      have q4 := q3 0 (by omega)
      have ok0 : okE (h.2.2 m 0).toInt := by rw [q4]; exact hE m List.mem_cons_self hz1
      apply sX6_keyOf
      refine ⟨_, rfl, ?_⟩
      have kk : (Int64.toInt32 (h.2.2 m 0 >>> (Int32.toInt64 8 &&& 63))).toInt = nh S m 0 / 256 := by rw [key_int ok0, q4]
      show (hi < Int64.toInt32 (h.2.2 m 0 >>> (Int32.toInt64 8 &&& 63)) → _) ∧ (¬ hi < Int64.toInt32 (h.2.2 m 0 >>> (Int32.toInt64 8 &&& 63)) → _)
      rw [Int32.lt_iff_toInt_lt, kk]
      exact ⟨fun y => step c (by rw [if_neg (fun q => by omega)]), fun y => step (c + 1) (by rw [if_pos ⟨hb, by omega⟩])⟩
theorem c_costOf (O : okS S rk) {h : Hp} (H : C_st S h) {n : Nat} {lo hi : Int32} (hn : h.1 16 7 = nI n) (hu : ¬ nu S n = 0) (hr : rk n < 60) (hb : ∀ j, j ≤ rk n → (rws S j [n]).length ≤ 64) (hE : ∀ m ∈ rws S (rk n) [n], 1 ≤ nz S m → okE (nh S m 0)) (hne : (∀ m ∈ rws S (rk n) [n], 1 ≤ nz S m) ∨ (rws S (rk n) [n]).length ≤ 1)
    (K : ∀ h', fr [16, 22, 23, 24, 25] h h' → (∀ q, q ≠ 10 → h'.1 16 q = h.1 16 q) → Q (some (vI (nI (cst S hi (pw S (lo.toInt * 256) (rk n) n).2 (rws S (rk n) [n]) false (rk n + 1))))) h') : EvM mX5_costOf [vR 16, vI lo, vI hi] h Q := by
  obtain ⟨i1, i2, i3, i4, i5⟩ := pw_ok (e := lo.toInt * 256) O (rk n) n rfl hu
  have l1 := (O _ i2).1
  have hbb := hb _ (Nat.le_refl (rk n))
  have e0 := ent_of lo (m := 0) (by decide)
  have e0 : ((Int32.toInt64 lo <<< (Int32.toInt64 8 &&& 63)) ||| Int32.toInt64 0).toInt = lo.toInt * 256 := by
    have e1 : ((Int32.toInt64 lo <<< (Int32.toInt64 8 &&& 63)) ||| Int32.toInt64 (nI 0)).toInt = lo.toInt * 256 + ((0 : Nat) : Int) := e0
    rw [show (0 : Int32) = nI 0 from rfl, e1]
    omega
  apply sX5_costOf
  apply sX6_entryOf
  refine ⟨_, rfl, ?_⟩
  generalize (Int32.toInt64 lo <<< (Int32.toInt64 8 &&& 63)) ||| Int32.toInt64 0 = w at e0 ⊢
  refine c_goDown H O hn hu hr (fun h1 f1 g1 w1 => ⟨rfl, ?_⟩)
  rw [e0] at w1
  have H1 : C_st S h1 := H.fr f1 (g1 5 (by decide)) (by decide)
  have w10 : h1.1 16 10 = nI (rk n) := by
    have := w1.1
    rw [i1] at this
    exact this
  have wl : h1.1 22 (rk n) = nI (pw S (lo.toInt * 256) (rk n) n).2 := by
    have := w1.2.2
    rw [i1] at this
    exact this
  rw [w10]
  simp (disch := omega) only [nt_le, nt_lt, nt_eq, nt_cl, nt_vp, nI_add, lu_le, lu_lt, lu_eq, ul_le, ul_lt, ul_eq, lu_add, ul_add, lu_sub, lu_mul, ul_mul, nt_sub, nt_m1]
  rw [wl]
  refine ⟨by omega, ?_⟩
  refine c_listLeaves O H1 (by rw [g1 7 (by decide), hn]) hu (by omega) hb (fun h2 f2 a2 => ⟨_, rfl, ?_⟩)
  refine c_cost_39 hbb l1 (H1.fr f2 (by rw [f2.i 16 (by decide)]) (by decide)) _ 0 (rk n + 1) false a2.tl (lv_mem O hu) hE ?_ (by omega) (by omega) (K h2 ((f1.mono (by decide)).tr (f2.mono (by decide))) (fun q hq => by rw [f2.i 16 (by decide)]; exact g1 q hq))
  rcases hne with z | z
  · exact Or.inl z
  · exact Or.inr ⟨rfl, z⟩
theorem c_sizes_2 {h : Hp} (H : C_st S h) {n : Nat} (hn : h.1 16 7 = nI n) (hnb : n < 64) (hok : ∀ m, m < 64 → ¬ nu S m = 0 → nz S m ≤ 8 ∧ (1 ≤ nz S m ∨ (m = n ∧ nv S m = 0))) (hun : ¬ nu S n = 0) (K : Q (some (vI 1)) h) : ∀ d i, i + d = 64 → Ev mX5_sizesAreRight 2 [(0, vR 16), (1, vI (nI i))] [] h Q
  | 0, i, hi => by
    apply sX5_sizesAreRight_2
    simp (disch := omega) only [nt_le, nt_lt, nt_eq, nt_cl, nt_vp, nI_add, lu_le, lu_lt, lu_eq, ul_le, ul_lt, ul_eq, lu_add, ul_add, lu_sub, lu_mul, ul_mul, nt_sub, nt_m1]
    exact ⟨fun _ => K, fun c => by omega⟩
  | d + 1, i, hi => by
    have nx := c_sizes_2 H hn hnb hok hun K d (i + 1) (by omega)
    have k30 : ∀ s0 : Nat, s0 ≤ 1 → (¬ nu S i = 0 → s0 ≤ nz S i) → Ev mX5_sizesAreRight 30 [(0, vR 16), (1, vI (nI i))] [vI (nI s0)] h Q := by
      intro s0 hs hs2
      apply sX5_sizesAreRight_30
      simp (disch := omega) only [nt_le, nt_lt, nt_eq, nt_cl, nt_vp, nI_add, lu_le, lu_lt, lu_eq, ul_le, ul_lt, ul_eq, lu_add, ul_add, lu_sub, lu_mul, ul_mul, nt_sub, nt_m1]
      rw [(H.1 i (by omega)).1]
      refine ⟨by omega, fun _ => nx, fun hu => ⟨by omega, ?_⟩⟩
      obtain ⟨q1, q2, q3⟩ := H.2.2 i (by omega) hu
      obtain ⟨z1, z2⟩ := hok i (by omega) hu
      have := hs2 hu
      rw [q1]
      simp (disch := omega) only [nt_le, nt_lt, nt_eq, nt_cl, nt_vp, nI_add, lu_le, lu_lt, lu_eq, ul_le, ul_lt, ul_eq, lu_add, ul_add, lu_sub, lu_mul, ul_mul, nt_sub, nt_m1]
      exact ⟨fun c => by omega, fun _ => ⟨by omega, fun _ => nx, fun c => by omega⟩⟩
    apply sX5_sizesAreRight_2
    rw [hn]
    simp (disch := omega) only [nt_le, nt_lt, nt_eq, nt_cl, nt_vp, nI_add, lu_le, lu_lt, lu_eq, ul_le, ul_lt, ul_eq, lu_add, ul_add, lu_sub, lu_mul, ul_mul, nt_sub, nt_m1]
    refine ⟨fun c => by omega, fun _ => ⟨fun c => ?_, fun c => ⟨by omega, fun c2 => ?_, fun c2 => ?_⟩⟩⟩
    · apply sX5_sizesAreRight_29
      refine k30 1 (Nat.le_refl _) (fun hu => ?_)
      rcases (hok i (by omega) hu).2 with z | z
      · exact z
      · exact absurd z.1 c
    · apply sX5_sizesAreRight_29
      refine k30 1 (Nat.le_refl _) (fun hu => ?_)
      rcases (hok i (by omega) hu).2 with z | z
      · exact z
      · rw [(H.2.2 i (by omega) hu).2.1] at c2
        exact absurd z.2 c2
    · exact k30 0 (by omega) (fun _ => Nat.zero_le _)
theorem c_sizesAreRight {h : Hp} (H : C_st S h) {n : Nat} (hn : h.1 16 7 = nI n) (hnb : n < 64) (hok : ∀ m, m < 64 → ¬ nu S m = 0 → nz S m ≤ 8 ∧ (1 ≤ nz S m ∨ (m = n ∧ nv S m = 0))) (hun : ¬ nu S n = 0) (K : Q (some (vI 1)) h) : EvM mX5_sizesAreRight [vR 16] h Q := by
  apply sX5_sizesAreRight
  exact c_sizes_2 H hn hnb hok hun K 64 0 rfl
theorem c_oneRow_22 (O : okS S rk) {h : Hp} (H : C_st S h) {l : List Nat} {d r : Nat} (hne : l ≠ []) (hl : ∀ m ∈ l, ¬ nu S m = 0 ∧ rk m = r) (hl64 : l.length ≤ 64) (ha : arL (h.1 24) l) (K : Ev mX5_leavesAreInOneRow 22 [(0, vR 16), (1, vI (nI l.length)), (2, vI (nI d)), (3, vI (nI l.length))] [] h Q) : ∀ e i, i + e = l.length → 1 ≤ i → Ev mX5_leavesAreInOneRow 22 [(0, vR 16), (1, vI (nI l.length)), (2, vI (nI d)), (3, vI (nI i))] [] h Q
  | 0, i, hi, h1 => by
    have : i = l.length := by omega
    rw [this]
    exact K
  | e + 1, i, hi, h1 => by
    have nx := c_oneRow_22 O H hne hl hl64 ha K e (i + 1) (by omega) (by omega)
    obtain ⟨x, t, hx⟩ := List.exists_cons_of_ne_nil hne
    have h0 : h.1 24 0 = nI x := by
      have := ha 0 (by rw [hx]; simp)
      rw [this, hx]
      rfl
    have hil : i < l.length := by omega
    have him : l.getD i 0 ∈ l := by
      rw [List.getD_eq_getElem?_getD, List.getElem?_eq_getElem hil]
      exact List.getElem_mem hil
    obtain ⟨hu, hr⟩ := hl _ him
    obtain ⟨hux, hrx⟩ := hl x (by rw [hx]; exact List.mem_cons_self)
    have hb := (O _ hu).1
    have hbx := (O _ hux).1
    obtain ⟨-, q2, -⟩ := H.2.2 _ hb hu
    obtain ⟨-, p2, -⟩ := H.2.2 _ hbx hux
    have hvv : nv S (l.getD i 0) = nv S x := by
      have a := rk_pos O hu
      have b := rk_pos O hux
      rcases (O _ hu).2.2.1 with z | z <;> rcases (O _ hux).2.2.1 with y | y
      · rw [z, y]
      · have := b.mpr (by rw [hrx, ← hr]; exact a.mp z)
        rw [z, this]
      · have := a.mpr (by rw [hr, ← hrx]; exact b.mp y)
        rw [y, this]
      · rw [z, y]
    apply sX5_leavesAreInOneRow_22
    show (_ → _) ∧ (_ → (vp_in (nI i) 64 ∧ (vp_in (h.1 24 (Int32.toNatClampNeg (nI i))) 64 ∧ (vp_in (h.1 24 0) 64 ∧ ((h.1 19 (Int32.toNatClampNeg (h.1 24 (Int32.toNatClampNeg (nI i)))) = h.1 19 (Int32.toNatClampNeg (h.1 24 0)) → _) ∧ (¬ h.1 19 (Int32.toNatClampNeg (h.1 24 (Int32.toNatClampNeg (nI i)))) = h.1 19 (Int32.toNatClampNeg (h.1 24 0)) → _))))))
    rw [h0]
    simp (disch := omega) only [nt_le, nt_lt, nt_eq, nt_cl, nt_vp, nI_add, lu_le, lu_lt, lu_eq, ul_le, ul_lt, ul_eq, lu_add, ul_add, lu_sub, lu_mul, ul_mul, nt_sub, nt_m1]
    rw [ha i hil]
    simp (disch := omega) only [nt_le, nt_lt, nt_eq, nt_cl, nt_vp, nI_add, lu_le, lu_lt, lu_eq, ul_le, ul_lt, ul_eq, lu_add, ul_add, lu_sub, lu_mul, ul_mul, nt_sub, nt_m1]
    rw [q2, p2]
    exact ⟨fun c => by omega, fun _ => ⟨by omega, hb, hbx, fun _ => nx, fun c => absurd hvv c⟩⟩
theorem c_oneRow_14 (O : okS S rk) : ∀ (r d : Nat) (l : List Nat) (h : Hp), C_st S h → l ≠ [] → (∀ n ∈ l, ¬ nu S n = 0 ∧ rk n = r) → (∀ j, j ≤ r → (rws S j l).length ≤ 64) → d + r < 64 → arL (h.1 24) l → (∀ h', fr [24, 25] h h' → Q (some (vI 1)) h') → Ev mX5_leavesAreInOneRow 14 [(0, vR 16), (1, vI (nI l.length)), (2, vI (nI d))] [] h Q := by
  intro r
  induction r with
  | zero =>
    intro d l h H hne hl hb hd ha K
    obtain ⟨x, t, hx⟩ := List.exists_cons_of_ne_nil hne
    obtain ⟨hu, hr⟩ := hl x (by rw [hx]; exact List.mem_cons_self)
    have xb := (O x hu).1
    have h0 : h.1 24 0 = nI x := by
      have := ha 0 (by rw [hx]; simp)
      rw [this, hx]
      rfl
    obtain ⟨q1, q2, q3⟩ := H.2.2 x xb hu
    have hlen : 1 ≤ l.length := by rw [hx]; simp
    have h64 : l.length ≤ 64 := hb 0 (by omega)
    apply sX5_leavesAreInOneRow_14
    simp (disch := omega) only [nt_le, nt_lt, nt_eq, nt_cl, nt_vp, nI_add, lu_le, lu_lt, lu_eq, ul_le, ul_lt, ul_eq, lu_add, ul_add, lu_sub, lu_mul, ul_mul, nt_sub, nt_m1]
    refine ⟨fun c => by omega, fun _ => c_oneRow_22 O H hne hl h64 ha ?_ (l.length - 1) 1 (by omega) (Nat.le_refl _)⟩
    apply sX5_leavesAreInOneRow_22
    show (_ → (vp_in (h.1 24 0) 64 ∧ ((¬ h.1 19 (Int32.toNatClampNeg (h.1 24 0)) = 0 → _) ∧ (h.1 19 (Int32.toNatClampNeg (h.1 24 0)) = 0 → _)))) ∧ _
    rw [h0]
    simp (disch := omega) only [nt_le, nt_lt, nt_eq, nt_cl, nt_vp, nI_add, lu_le, lu_lt, lu_eq, ul_le, ul_lt, ul_eq, lu_add, ul_add, lu_sub, lu_mul, ul_mul, nt_sub, nt_m1]
    rw [q2]
    exact ⟨fun _ => ⟨xb, fun c => absurd ((rk_pos O hu).mpr hr) c, fun _ => K h fr.rf⟩, fun c => absurd (Nat.le_refl _) c⟩
  | succ r ih =>
    intro d l h H hne hl hb hd ha K
    obtain ⟨x, t, hx⟩ := List.exists_cons_of_ne_nil hne
    obtain ⟨hu, hr⟩ := hl x (by rw [hx]; exact List.mem_cons_self)
    have xb := (O x hu).1
    have h0 : h.1 24 0 = nI x := by
      have := ha 0 (by rw [hx]; simp)
      rw [this, hx]
      rfl
    obtain ⟨q1, q2, q3⟩ := H.2.2 x xb hu
    have hlen : 1 ≤ l.length := by rw [hx]; simp
    have h64 : l.length ≤ 64 := hb 0 (by omega)
    have hv : ∀ n ∈ l, ¬ nu S n = 0 ∧ ¬ nv S n = 0 := fun n hn => ⟨(hl n hn).1, fun z => by
      have := (rk_pos O (hl n hn).1).mp z
      rw [(hl n hn).2] at this
      omega⟩
    have hvx := (hv x (by rw [hx]; exact List.mem_cons_self)).2
    apply sX5_leavesAreInOneRow_14
    simp (disch := omega) only [nt_le, nt_lt, nt_eq, nt_cl, nt_vp, nI_add, lu_le, lu_lt, lu_eq, ul_le, ul_lt, ul_eq, lu_add, ul_add, lu_sub, lu_mul, ul_mul, nt_sub, nt_m1]
    refine ⟨fun c => by omega, fun _ => c_oneRow_22 O H hne hl h64 ha ?_ (l.length - 1) 1 (by omega) (Nat.le_refl _)⟩
    apply sX5_leavesAreInOneRow_22
    show (_ → (vp_in (h.1 24 0) 64 ∧ ((¬ h.1 19 (Int32.toNatClampNeg (h.1 24 0)) = 0 → _) ∧ (h.1 19 (Int32.toNatClampNeg (h.1 24 0)) = 0 → _)))) ∧ _
    rw [h0]
    simp (disch := omega) only [nt_le, nt_lt, nt_eq, nt_cl, nt_vp, nI_add, lu_le, lu_lt, lu_eq, ul_le, ul_lt, ul_eq, lu_add, ul_add, lu_sub, lu_mul, ul_mul, nt_sub, nt_m1]
    rw [q2]
    refine ⟨fun _ => ⟨xb, fun _ => ?_, fun c => absurd c hvx⟩, fun c => absurd (Nat.le_refl _) c⟩
    refine c_listRow O H hv (hb 1 (by omega)) h64 ha (fun h' y1 y2 => ⟨_, rfl, ?_⟩)
    refine ih (d + 1) (rwB S l) h' (H.fr y1 (by rw [y1.i 16 (by decide)]) (by decide)) ?_ (fun n hn => ?_) (fun j hj => hb (j + 1) (by omega)) (by omega) y2 (fun h'' z1 => K h'' (y1.tr z1))
    · intro e
      have h1 : (kids S x).length = 0 := by
        have : kids S x = [] := by
          unfold rwB at e
          rw [hx, List.flatMap_cons] at e
          exact (List.append_eq_nil_iff.mp e).1
        rw [this]
        rfl
      rw [kids_len] at h1
      have := ((O x hu).2.2.2.2 hvx).1
      omega
    · obtain ⟨m, hm, hk⟩ := List.mem_flatMap.mp hn
      obtain ⟨y1, y2, y3⟩ := okS_kid O (hl m hm).1 (hv m hm).2 hk
      have := (hl m hm).2
      exact ⟨y1, by omega⟩
theorem c_oneRow (O : okS S rk) {h : Hp} (H : C_st S h) {n : Nat} (hn : h.1 16 7 = nI n) (hu : ¬ nu S n = 0) (hr : rk n < 64) (hb : ∀ j, j ≤ rk n → (rws S j [n]).length ≤ 64) (K : ∀ h', fr [24, 25] h h' → Q (some (vI 1)) h') : EvM mX5_leavesAreInOneRow [vR 16] h Q := by
  apply sX5_leavesAreInOneRow
  intro h1 e1
  have f1 : fr [24, 25] h h1 := by rw [e1]; exact fr.rf.sI (by decide) _
  refine c_oneRow_14 O (rk n) 0 [n] h1 (H.fr f1 (by rw [f1.i 16 (by decide)]) (by decide)) (by simp) (fun m hm => by rw [List.mem_singleton.mp hm]; exact ⟨hu, rfl⟩) hb (by omega) ?_ (fun h' y1 => K h' (f1.tr y1))
  intro i hi
  have hi2 : i = 0 := by simpa using hi
  subst hi2
  rw [e1, sI_at, hn]
  rfl
end COS
