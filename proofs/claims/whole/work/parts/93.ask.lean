/-! calls of both: ask -/
def plL (tp tk : Nat → Int32) (lo hi : Int32) : Nat → List Nat
  | 0 => []
  | n + 1 => plL tp tk lo hi n ++ (if ¬ tp n = 0 ∧ lo.toInt ≤ (tk n).toInt ∧ (tk n).toInt ≤ hi.toInt then [n] else [])
theorem plL_len (tp tk : Nat → Int32) (lo hi : Int32) : ∀ n, (plL tp tk lo hi n).length ≤ n
  | 0 => Nat.le_refl _
  | n + 1 => by
    unfold plL
    have := plL_len tp tk lo hi n
    rw [List.length_append]
    split
    · simp
      omega
    · simp
      omega
theorem rws_1 {S : SR} {rk : Nat → Nat} (O : okS S rk) : ∀ (r : Nat) (l : List Nat), (∀ m ∈ l, ¬ nu S m = 0 ∧ rk m = r ∧ 1 ≤ nz S m) → ∀ m ∈ rws S r l, 1 ≤ nz S m
  | 0, l, h => fun m hm => (h m hm).2.2
  | r + 1, l, h => by
    refine rws_1 O r (rwB S l) (fun n hn => ?_)
    obtain ⟨x, hx, hk⟩ := List.mem_flatMap.mp hn
    obtain ⟨h1, h2, -⟩ := h x hx
    have hv : ¬ nv S x = 0 := fun z => by
      have := (rk_pos O h1).mp z
      omega
    obtain ⟨y1, y2, y3⟩ := okS_kid O h1 hv hk
    exact ⟨y1, by omega, y3⟩
theorem lv_1 {S : SR} {rk : Nat → Nat} (O : okS S rk) {n : Nat} (hu : ¬ nu S n = 0) : (∀ m ∈ rws S (rk n) [n], 1 ≤ nz S m) ∨ (rws S (rk n) [n]).length ≤ 1 := by
  cases e : rk n with
  | zero => exact Or.inr (by show [n].length ≤ 1; simp)
  | succ r =>
    refine Or.inl (rws_1 O (r + 1) [n] (fun m hm => ?_))
    rw [List.mem_singleton.mp hm]
    have hv : ¬ nv S n = 0 := fun z => by
      have := (rk_pos O hu).mp z
      omega
    exact ⟨hu, e, ((O n hu).2.2.2.2 hv).1⟩
section ASKS
variable {h : Hp} {X : XT} {L : LT} {N : NT} {Q : Option AV → Hp → Prop} {P : Int32 → Option AV → Hp → Prop} {tp tk tv dp : Nat → Int32} {lo hi : Int32}
theorem c_ttell_6 : ∀ (d i : Nat) (h : Hp), i + d = 240 → C_tb tp tk tv dp h → arL (h.1 26) (plL tp tk lo hi i) → (∀ h', fr [26] h h' → arL (h'.1 26) (plL tp tk lo hi 240) → Q (some (vI (nI (plL tp tk lo hi 240).length))) h') → Ev mX4_tell 6 [(0, vR 1), (1, vI lo), (2, vI hi), (3, vR 26), (4, vI (nI (plL tp tk lo hi i).length)), (5, vI (nI i))] [] h Q := by
  intro d
  induction d with
  | zero =>
    intro i h hi2 H ha K
    have e : i = 240 := by omega
    subst e
    apply sX4_tell_6
    exact ⟨fun _ => K h fr.rf ha, fun z => absurd (by decide) z⟩
  | succ d ih =>
    intro i h hi2 H ha K
    have hl := plL_len tp tk lo hi i
    obtain ⟨t1, t2, t3⟩ := H.1 i (by omega)
    have skip : ¬ (¬ tp i = 0 ∧ lo.toInt ≤ (tk i).toInt ∧ (tk i).toInt ≤ hi.toInt) → Ev mX4_tell 6 [(0, vR 1), (1, vI lo), (2, vI hi), (3, vR 26), (4, vI (nI (plL tp tk lo hi i).length)), (5, vI (nI (i + 1)))] [] h Q := by
      intro z
      have e : plL tp tk lo hi (i + 1) = plL tp tk lo hi i := by
        rw [plL, if_neg z, List.append_nil]
      have := ih (i + 1) h (by omega) H (by rw [e]; exact ha) K
      rw [e] at this
      exact this
    apply sX4_tell_6
    simp (disch := omega) only [nt_le, nt_lt, nt_eq, nt_cl, nt_vp, nI_add, lu_le, lu_lt, lu_eq, ul_le, ul_lt, ul_eq, lu_add, ul_add, lu_sub, lu_mul, ul_mul, nt_sub, nt_m1]
    rw [t1, t2, Int32.lt_iff_toInt_lt, Int32.lt_iff_toInt_lt]
    refine ⟨fun z => by omega, fun _ => ⟨fun z => by omega, fun _ => ⟨by omega, fun z => skip (fun y => y.1 z), fun z => ⟨by omega, fun y => skip (fun w => by omega), fun y => ⟨by omega, fun w => skip (fun v => by omega), fun w => ⟨by omega, fun h9 e9 => ?_⟩⟩⟩⟩⟩⟩
    have e : plL tp tk lo hi (i + 1) = plL tp tk lo hi i ++ [i] := by
      rw [plL, if_pos ⟨z, by omega, by omega⟩]
    have f9 : fr [26] h h9 := by
      rw [e9]
      (repeat first | exact fr.rf | refine fr.sI ?_ (by decide) _ | refine fr.sJ ?_ (by decide) _ | refine fr.sW ?_ (by decide) _ _)
    have := ih (i + 1) h9 (by omega) (C_tb.fr H f9 (by decide)) (by rw [e, e9, sI_at]; exact arL_snoc ha) (fun h' y1 y2 => K h' (f9.tr y1) y2)
    rw [e, List.length_append, List.length_singleton] at this
    exact this
theorem m_ask_36 : ∀ (d i : Nat) (h : Hp), i + d = 240 → M_tb tp tk tv dp h → arL (h.1 47) (plL tp tk lo hi i) → h.1 27 42 = nI (plL tp tk lo hi i).length → (∀ h', fz 27 [27, 47] [42] h h' → arL (h'.1 47) (plL tp tk lo hi 240) → h'.1 27 42 = nI (plL tp tk lo hi 240).length → Q (some (vI (nI (plL tp tk lo hi 240).length))) h') → Ev mX7_ask 36 [(0, vR 27), (1, vI lo), (2, vI hi), (3, vI (nI i))] [] h Q := by
  intro d
  induction d with
  | zero =>
    intro i h hi2 H ha h42 K
    have e : i = 240 := by omega
    subst e
    apply sX7_ask_36
    rw [h42]
    exact ⟨fun _ => K h fz.rf ha h42, fun z => absurd (by decide) z⟩
  | succ d ih =>
    intro i h hi2 H ha h42 K
    have hl := plL_len tp tk lo hi i
    obtain ⟨t1, t2, t3⟩ := H.1 i (by omega)
    have skip : ¬ (¬ tp i = 0 ∧ lo.toInt ≤ (tk i).toInt ∧ (tk i).toInt ≤ hi.toInt) → Ev mX7_ask 36 [(0, vR 27), (1, vI lo), (2, vI hi), (3, vI (nI (i + 1)))] [] h Q := by
      intro z
      have e : plL tp tk lo hi (i + 1) = plL tp tk lo hi i := by
        rw [plL, if_neg z, List.append_nil]
      exact ih (i + 1) h (by omega) H (by rw [e]; exact ha) (by rw [e]; exact h42) K
    apply sX7_ask_36
    simp (disch := omega) only [nt_le, nt_lt, nt_eq, nt_cl, nt_vp, nI_add, lu_le, lu_lt, lu_eq, ul_le, ul_lt, ul_eq, lu_add, ul_add, lu_sub, lu_mul, ul_mul, nt_sub, nt_m1]
    rw [t1, t2]
    refine ⟨fun z => by omega, fun _ => ⟨by omega, fun z => skip (fun y => y.1 z), fun z => ⟨by omega, ?_⟩⟩⟩
    refine m_in (fun a1 a2 => ⟨1, rfl, fun z => absurd z (by decide), fun _ => ?_⟩) (fun a => ⟨0, rfl, fun _ => skip (fun y => a y.2), fun z => absurd rfl z⟩)
    rw [h42]
    simp (disch := omega) only [nt_le, nt_lt, nt_eq, nt_cl, nt_vp, nI_add, lu_le, lu_lt, lu_eq, ul_le, ul_lt, ul_eq, lu_add, ul_add, lu_sub, lu_mul, ul_mul, nt_sub, nt_m1]
    refine ⟨by omega, fun h9 e9 h10 e10 => ?_⟩
    have e : plL tp tk lo hi (i + 1) = plL tp tk lo hi i ++ [i] := by
      rw [plL, if_pos ⟨z, a1, a2⟩]
    have f10 : fz 27 [27, 47] [42] h h10 := by
      rw [e10, e9]
      (repeat first | exact fz.rf | refine fz.up ?_ (by decide) (by decide) | refine fz.sI ?_ (by decide) (by decide) _ | refine fz.sJ ?_ (by decide) _)
    refine ih (i + 1) h10 (by omega) (M_tb.fr H f10.1 (by decide)) ?_ ?_ (fun h' y1 y2 y3 => K h' (f10.tr y1) y2 y3)
    · rw [e, e10, sI_ne _ _ (by decide), e9, sI_at]
      exact arL_snoc ha
    · rw [e, e10, sI_at, upd_at, e9, sI_ne _ _ (by decide), h42, List.length_append]
      exact nI_1 _
theorem m_ask_133 {S : SR} {rk : Nat → Nat} {l0 x : Nat} (hx2 : x ≤ 64) (hl0 : l0 < 64) : ∀ (l : List Nat) (i c : Nat) (b : Bool) (a : List Nat) (h : Hp), M_st S h → h.1 27 50 = nI x → arT (h.1 52) i l → (∀ m ∈ l, m < 64 ∧ ¬ nu S m = 0 ∧ nz S m ≤ 8 ∧ nv S m = 0) → (∀ m ∈ l, 1 ≤ nz S m) ∨ (b = false ∧ l.length ≤ 1) → i + l.length = x → c + l.length < 2000 → a.length + (enL S l).length ≤ 240 → h.1 27 42 = nI a.length → h.1 27 44 = nI c → arL (h.1 47) a →
    (∀ h', fz 27 [27, 47] [42, 44] h h' → arL (h'.1 47) (a ++ tlL lo hi (enL S l)) → h'.1 27 42 = nI (a ++ tlL lo hi (enL S l)).length → h'.1 27 44 = nI (cst S hi l0 l b c) → Q (some (vI (nI (a ++ tlL lo hi (enL S l)).length))) h') → Ev mX7_ask 133 [(0, vR 27), (1, vI lo), (2, vI hi), (3, vI (nI l0)), (4, vI (bI b)), (5, vI (nI i))] [] h Q
  | [], i, c, b, a, h, H, h50, ha, hl, hne, hx, hc, hn, h42, h44, h47, K => by
    have hx : i = x := by simpa using hx
    subst hx
    have e0 : a ++ tlL lo hi (enL S []) = a := by
      show a ++ [] = a
      rw [List.append_nil]
    rw [e0] at K
    apply sX7_ask_133
    rw [h50, h42]
    simp (disch := omega) only [nt_le, nt_lt, nt_eq, nt_cl, nt_vp, nI_add, lu_le, lu_lt, lu_eq, ul_le, ul_lt, ul_eq, lu_add, ul_add, lu_sub, lu_mul, ul_mul, nt_sub, nt_m1]
    exact ⟨fun _ => K h fz.rf h47 h42 h44, fun c => absurd (Nat.le_refl _) c⟩
  | m :: t, i, c, b, a, h, H, h50, ha, hl, hne, hx, hc, hn, h42, h44, h47, K => by
    obtain ⟨mb, hu, hz, hv⟩ := hl m List.mem_cons_self
    obtain ⟨q1, q2, q3⟩ := H.2.2 m (by omega) hu
    rw [List.length_cons] at hx hc
    rw [enL_len] at hn
    have hlen := tlL_len lo hi ((List.range (nz S m)).map (nh S m))
    have hlr : ((List.range (nz S m)).map (nh S m)).length = nz S m := by simp
    -- the entries of the leaf, then the next leaf
    have step : ∀ c2, c2 = (if b = true ∧ nh S m 0 / 256 ≤ hi.toInt then c + 1 else c) → Ev mX7_ask 194 [(0, vR 27), (1, vI lo), (2, vI hi), (3, vI (nI l0)), (4, vI (bI b)), (5, vI (nI i)), (6, vI (nI m))] [vI (nI c2), vR 27] h Q := by
      intro c2 hc2
      have hc3 : c2 ≤ c + 1 := by
        rw [hc2]
        split <;> omega
      apply sX7_ask_194
      intro h1 e1
      have f1 : fz 27 [27, 47] [42, 44] h h1 := by
        rw [e1]
        (repeat first | exact fz.rf | refine fz.up ?_ (by decide) (by decide) | refine fz.sI ?_ (by decide) (by decide) _ | refine fz.sJ ?_ (by decide) _)
      have H1 : M_st S h1 := H.fr f1.1 (f1.2 33 (by decide)) (by decide)
      have nx : ∀ b2 : Bool, b2 = (b || m == l0) → Ev mX7_ask 222 [(0, vR 27), (1, vI lo), (2, vI hi), (3, vI (nI l0)), (4, vI (bI b2)), (5, vI (nI i)), (6, vI (nI m)), (7, vI (9 * nI m))] [] h1 Q := by
        intro b2 hb2
        have e9 : (9 : Int32) * nI m = nI (9 * m + 0) := by
          simp (disch := omega) only [nt_le, nt_lt, nt_eq, nt_cl, nt_vp, nI_add, lu_le, lu_lt, lu_eq, ul_le, ul_lt, ul_eq, lu_add, ul_add, lu_sub, lu_mul, ul_mul, nt_sub, nt_m1]
          rfl
        rw [e9]
        have g42 : h1.1 27 42 = nI a.length := by
          rw [e1, sI_at, upd_ne _ _ (by decide)]
          exact h42
        have g47 : arL (h1.1 47) a := by
          rw [e1, sI_ne _ _ (by decide)]
          exact h47
        refine m_ask_222 mb hu hv hz (nz S m) 0 a h1 H1 (by omega) (by omega) g42 g47 (fun h2 f2 g2 k42 k47 => ?_)
        rw [List.drop_zero] at k42 k47
        have f2z : fz 27 [27, 47] [42, 44] h1 h2 := ⟨f2, fun q hq => g2 q (fun z => hq (by rw [z]; decide))⟩
        have H2 : M_st S h2 := H1.fr f2 (g2 33 (by decide)) (by decide)
        have ee : a ++ tlL lo hi (enL S (m :: t)) = (a ++ tlL lo hi ((List.range (nz S m)).map (nh S m))) ++ tlL lo hi (enL S t) := by
          rw [enL_cons, tlL_app, List.append_assoc]
        have ec : cst S hi l0 (m :: t) b c = cst S hi l0 t b2 c2 := by
          rw [hb2, hc2]
          rfl
        rw [ee, ec] at K
        refine m_ask_133 (rk := rk) hx2 hl0 t (i + 1) c2 b2 _ h2 H2 ?_ ?_ (fun z hz => hl z (List.mem_cons_of_mem _ hz)) ?_ (by omega) (by omega) (by rw [List.length_append]; omega) k42 ?_ k47 (fun h' y1 y2 y3 y4 => K h' ((f1.tr f2z).tr y1) y2 y3 y4)
        · rw [g2 50 (by decide), f1.2 50 (by decide)]
          exact h50
        · rw [f2.i 52 (by decide), f1.1.i 52 (by decide)]
          exact ha.tl
        · rcases hne with z | ⟨z1, z2⟩
          · exact Or.inl (fun y hy => z y (List.mem_cons_of_mem _ hy))
          · have : t = [] := by
              rw [List.length_cons] at z2
              exact List.length_eq_zero_iff.mp (by omega)
            subst this
            exact Or.inl (fun y hy => absurd hy List.not_mem_nil)
        · rw [g2 44 (by decide), e1, sI_at, upd_at]
      rw [nt_eq (show m < 2147483648 by omega) (show l0 < 2147483648 by omega)]
      cases b with
      | true =>
        refine ⟨fun _ => ?_, fun z => absurd z (by decide)⟩
        apply sX7_ask_208
        exact nx true rfl
      | false =>
        refine ⟨fun z => absurd rfl z, fun _ => ⟨fun z => nx false ?_, fun z => ?_⟩⟩
        · simp [z]
        · apply sX7_ask_208
          exact nx true (by simp [z])
    have go : ∀ c2, c2 = (if b = true ∧ nh S m 0 / 256 ≤ hi.toInt then c + 1 else c) → c2 = c → Ev mX7_ask 190 [(0, vR 27), (1, vI lo), (2, vI hi), (3, vI (nI l0)), (4, vI (bI b)), (5, vI (nI i)), (6, vI (nI m))] [vR 27] h Q := by
      intro c2 e1 e2
      apply sX7_ask_190
      rw [h44]
      exact step c (by rw [e2] at e1; exact e1)
    apply sX7_ask_133
    rw [h50]
    simp (disch := omega) only [nt_le, nt_lt, nt_eq, nt_cl, nt_vp, nI_add, lu_le, lu_lt, lu_eq, ul_le, ul_lt, ul_eq, lu_add, ul_add, lu_sub, lu_mul, ul_mul, nt_sub, nt_m1]
    rw [ha.hd]
    simp (disch := omega) only [nt_le, nt_lt, nt_eq, nt_cl, nt_vp, nI_add, lu_le, lu_lt, lu_eq, ul_le, ul_lt, ul_eq, lu_add, ul_add, lu_sub, lu_mul, ul_mul, nt_sub, nt_m1]
    rw [q1]
    simp (disch := omega) only [nt_le, nt_lt, nt_eq, nt_cl, nt_vp, nI_add, lu_le, lu_lt, lu_eq, ul_le, ul_lt, ul_eq, lu_add, ul_add, lu_sub, lu_mul, ul_mul, nt_sub, nt_m1]
    refine ⟨fun z => by omega, fun _ => ⟨by omega, fun z => ?_, fun z => ⟨by omega, fun y => ?_, fun y => ⟨by omega, ?_⟩⟩⟩⟩
    · have hb : b = false := by
        cases b with
        | false => rfl
        | true => exact absurd z (by decide)
      exact go c (by rw [hb, if_neg (by simp)]) rfl
    · exfalso
      have hb : b = true := by
        cases b with
        | true => rfl
        | false => exact absurd rfl z
      rcases hne with w | ⟨w1, w2⟩
      · have := w m List.mem_cons_self
        omega
      · rw [hb] at w1
        cases w1
    · have hb : b = true := by
        cases b with
        | true => rfl
        | false => exact absurd rfl z
      obtain ⟨s1, s2, s3⟩ := (q3 0 (by omega)).1 hv
      rw [Nat.add_zero] at s1 s2 s3
      rw [Int32.lt_iff_toInt_lt, show (h.1 44 (9 * m)).toInt = nh S m 0 / 256 by omega, h44]
      refine ⟨fun w => go c (by rw [if_neg (fun q => by omega)]) rfl, fun w => ?_⟩
      rw [show nI c + 1 = nI (c + 1) from nI_1 c]
      exact step (c + 1) (by rw [if_pos ⟨hb, by omega⟩])
theorem op_ask (I : Inv h) (K : ∀ r h2, Inv h2 → P r (some (vI r)) h2) : EvM mX6_ask [vR 0, vI lo, vI hi] h (fun v h1 => ∃ r, v = some (vI r) ∧ EvM mX7_ask [vR 27, vI lo, vI hi] h1 (P r)) := by
  obtain ⟨X, L, N, C, M, I, n⟩ := I
  have hs := PR.s I
  apply sX6_ask
  refine c_isDown C I.1 ⟨_, rfl, fun d0 => ?_, fun d1 => ⟨_, rfl, ?_⟩⟩
  · rw [show (5 : Int32) = nI 5 from rfl, c_st C hs 5 (by decide)]
    have an : ∀ (N' : NT) (h' : Hp), fz 0 [0, 16, 22, 23, 24, 25, 26] [13, 14] h h' → C_tr X.2.2.2.2 h' → C_an N' h' → CX X L N' h' ∧ MX X L N h' := by
      intro N' h' f t a
      obtain ⟨H1, H2, H3, H4, H5, H6, H7⟩ := C
      exact ⟨⟨H1.k f.1 (by decide), H2.k f.1 (by decide), H3.k f (by decide), H4.k f (by decide) (by decide), fun q => (H5 q).k f.1 (by decide), t, a⟩, M.k (f.1.mono (by decide))⟩
    have man : ∀ (N' : NT) (h1 h' : Hp), MX X L N h1 → fz 27 [27, 47, 48, 49, 50, 51, 52] [0, 42, 44, 45, 50] h1 h' → M_an N' h' → MX X L N' h' := by
      intro N' h1 h' M' f a
      obtain ⟨H1, H2, H3, H4, H5, H6, H7⟩ := M'
      exact ⟨H1.k f (by decide), H2.k f.1 (by decide), H3.k f (by decide), fun q => (H4 q).k f (by decide) (by decide), fun q => (H5 q).k f (by decide) (by decide), H6.k f (by decide) (by decide), a⟩
    refine ⟨fun q => ?_, fun q => ?_⟩
    · intro h5 e5
      have f5 : fz 0 [0, 16, 22, 23, 24, 25, 26] [13, 14] h h5 := by
        rw [e5]
        (repeat first | exact fz.rf | refine fz.up ?_ (by decide) (by decide) | refine fz.sI ?_ (by decide) (by decide) _ | refine fz.sJ ?_ (by decide) _)
      apply sX4_tell
      have T5 : C_T X.2.1 h5 := C.2.1.k f5.1 (by decide)
      refine c_ttell_6 (tp := X.2.1.1) (tk := X.2.1.2.1) (tv := X.2.1.2.2.1) (dp := X.2.1.2.2.2) 240 0 h5 rfl T5 (fun i hi => absurd hi (Nat.not_lt_zero _)) (fun h6 f6 a6 => ⟨_, rfl, fun h8 e8 => ⟨_, rfl, ?_⟩⟩)
      have f8 : fz 0 [0, 16, 22, 23, 24, 25, 26] [13, 14] h h8 := by
        refine (f5.tr ((fz.of (F := []) f6 (by decide)).mono (by decide) (by decide))).tr ?_
        rw [e8]
        (repeat first | exact fz.rf | refine fz.up ?_ (by decide) (by decide) | refine fz.sI ?_ (by decide) (by decide) _ | refine fz.sJ ?_ (by decide) _)
      have c14 : h8.1 0 14 = nI 20 := by
        rw [e8]
        simp (disch := decide) only [sI_at, sI_ne, sI_21, sI_22, sJ_1, sJ_at, sJ_ne, sJ_22, sW_1, sW_21, upd_at, upd_ne]
        rw [f6.i 0 (by decide), e5]
        simp (disch := decide) only [sI_at, sI_ne, sI_21, sI_22, sJ_1, sJ_at, sJ_ne, sJ_22, sW_1, sW_21, upd_at, upd_ne]
        rfl
      have c13 : h8.1 0 13 = nI (plL X.2.1.1 X.2.1.2.1 lo hi 240).length := by
        rw [e8]
        simp (disch := decide) only [sI_at, sI_ne, sI_21, sI_22, sJ_1, sJ_at, sJ_ne, sJ_22, sW_1, sW_21, upd_at, upd_ne]
      have c26 : arL (h8.1 26) (plL X.2.1.1 X.2.1.2.1 lo hi 240) := by
        rw [e8]
        simp (disch := decide) only [sI_at, sI_ne, sI_21, sI_22, sJ_1, sJ_at, sJ_ne, sJ_22, sW_1, sW_21, upd_at, upd_ne]
        exact a6
      obtain ⟨C8, M8⟩ := an (plL X.2.1.1 X.2.1.2.1 lo hi 240, 20) h8 f8 (((C.2.2.2.2.2.1.k (U := [0]) (by rw [e5]; (repeat first | exact fr.rf | refine fr.sI ?_ (by decide) _ | refine fr.sJ ?_ (by decide) _ | refine fr.sW ?_ (by decide) _ _)) (by decide) (by decide)).k f6 (by decide) (by decide)).k (U := [0]) (by rw [e8]; (repeat first | exact fr.rf | refine fr.sI ?_ (by decide) _ | refine fr.sJ ?_ (by decide) _ | refine fr.sW ?_ (by decide) _ _)) (by decide) (by decide)) ⟨c26, c13, c14⟩
      rw [c13]
      clear e8 f8 c14 c13 c26
      apply sX7_ask
      intro k1 e1
      rw [m_down M8 e1]
      refine ⟨fun _ k3 e3 => ?_, fun z => absurd d0 z⟩
      have g3 : fz 27 [27, 47, 48, 49, 50, 51, 52] [0, 42, 44, 45, 50] h8 k3 := by
        rw [e3, e1]
        (repeat first | exact fz.rf | refine fz.up ?_ (by decide) (by decide) | refine fz.sI ?_ (by decide) (by decide) _ | refine fz.sJ ?_ (by decide) _)
      have s3 : k3.1 27 11 = nI X.2.2.1.1 := by
        rw [g3.2 11 (by decide)]
        exact M8.2.2.1.1
      rw [s3]
      simp (disch := omega) only [nt_le, nt_lt, nt_eq, nt_cl, nt_vp, nI_add, lu_le, lu_lt, lu_eq, ul_le, ul_lt, ul_eq, lu_add, ul_add, lu_sub, lu_mul, ul_mul, nt_sub, nt_m1]
      refine ⟨fun z => absurd z q, fun _ k9 e9 => ?_⟩
      have g9 : fz 27 [27, 47, 48, 49, 50, 51, 52] [0, 42, 44, 45, 50] h8 k9 := by
        refine g3.tr ?_
        rw [e9]
        (repeat first | exact fz.rf | refine fz.up ?_ (by decide) (by decide) | refine fz.sI ?_ (by decide) (by decide) _ | refine fz.sJ ?_ (by decide) _)
      have T9 : M_T X.2.1 k9 := M8.2.1.k g9.1 (by decide)
      refine m_ask_36 (tp := X.2.1.1) (tk := X.2.1.2.1) (tv := X.2.1.2.2.1) (dp := X.2.1.2.2.2) 240 0 k9 rfl T9 (fun i hi => absurd hi (Nat.not_lt_zero _)) ?_ (fun h' y1 y2 y3 => ?_)
      · rw [e9]
        simp (disch := decide) only [sI_at, sI_ne, sI_21, sI_22, sJ_1, sJ_at, sJ_ne, sJ_22, sW_1, sW_21, upd_at, upd_ne]
        rw [e3]
        simp (disch := decide) only [sI_at, sI_ne, sI_21, sI_22, sJ_1, sJ_at, sJ_ne, sJ_22, sW_1, sW_21, upd_at, upd_ne]
        rfl
      · have gz := g9.tr (y1.mono (by decide) (by decide))
        refine K _ _ ⟨X, L, _, C8.k (fUm gz (by decide)), man _ h8 h' M8 gz ⟨y2, y3, ?_⟩, I, plL_len _ _ _ _ _⟩
        rw [y1.2 44 (by decide), e9]
        simp (disch := decide) only [sI_at, sI_ne, sI_21, sI_22, sJ_1, sJ_at, sJ_ne, sJ_22, sW_1, sW_21, upd_at, upd_ne]
        rfl
    · have w := PR.wf I (Or.inr q)
      have O := w.1.1
      have hu := w.1.2.1
      have rb : ∀ j, j ≤ X.2.2.2.2.2.1 X.2.2.2.2.2.2.1 → (rws X.2.2.2.2.1 j [X.2.2.2.2.2.2.1]).length ≤ 64 := fun j hj => rws_64 O w.1.2.2.1 hu hj
      have r8 := w.2.1
      have wl : enL X.2.2.2.2.1 (rws X.2.2.2.2.1 (X.2.2.2.2.2.1 X.2.2.2.2.2.2.1) [X.2.2.2.2.2.2.1]) = wE X.2.2.2.2 := en_rws _ _ _
      have okes : ∀ E ∈ enL X.2.2.2.2.1 (rws X.2.2.2.2.1 (X.2.2.2.2.2.1 X.2.2.2.2.2.2.1) [X.2.2.2.2.2.2.1]), okE E := by
        rw [wl]
        exact fun E hE => (w.2.2.2.1 E hE).e
      have l240 : (enL X.2.2.2.2.1 (rws X.2.2.2.2.1 (X.2.2.2.2.2.1 X.2.2.2.2.2.2.1) [X.2.2.2.2.2.2.1])).length ≤ 240 := by
        rw [wl, len5 I q]
        exact cn_le _ _
      have hE0 : ∀ m ∈ rws X.2.2.2.2.1 (X.2.2.2.2.2.1 X.2.2.2.2.2.2.1) [X.2.2.2.2.2.2.1], 1 ≤ nz X.2.2.2.2.1 m → okE (nh X.2.2.2.2.1 m 0) := by
        intro m hm h1
        refine okes _ (List.mem_flatMap.mpr ⟨m, hm, List.mem_map.mpr ⟨0, List.mem_range.mpr h1, rfl⟩⟩)
      have ne := lv_1 O hu
      refine c_costOf O C.2.2.2.2.2.1.1 C.2.2.2.2.2.1.2.1 hu (by omega) rb hE0 ne (fun h9 f9 g9 => ⟨_, rfl, fun h11 e11 => ?_⟩)
      have t9 : C_tr X.2.2.2.2 h9 := ⟨C.2.2.2.2.2.1.1.fr f9 (g9 5 (by decide)) (by decide), by rw [g9 7 (by decide)]; exact C.2.2.2.2.2.1.2.1, by rw [g9 6 (by decide)]; exact C.2.2.2.2.2.1.2.2⟩
      have f11 : fr [0] h9 h11 := by
        rw [e11]
        (repeat first | exact fr.rf | refine fr.sI ?_ (by decide) _ | refine fr.sJ ?_ (by decide) _ | refine fr.sW ?_ (by decide) _ _)
      have t11 : C_tr X.2.2.2.2 h11 := t9.k f11 (by decide) (by decide)
      refine c_tell (lo := lo) (hi := hi) O t11.1 t11.2.1 hu (by omega) rb okes l240 (fun h12 f12 a12 => ⟨_, rfl, fun h14 e14 => ⟨_, rfl, ?_⟩⟩)
      rw [wl] at a12
      rw [wl] at e14
      have f14 : fz 0 [0, 16, 22, 23, 24, 25, 26] [13, 14] h h14 := by
        refine (((fz.of (F := []) f9 (by decide)).mono (by decide) (by decide)).tr ?_).tr (((fz.of (F := []) f12 (by decide)).mono (by decide) (by decide)).tr ?_)
        · rw [e11]
          (repeat first | exact fz.rf | refine fz.up ?_ (by decide) (by decide) | refine fz.sI ?_ (by decide) (by decide) _ | refine fz.sJ ?_ (by decide) _)
        · rw [e14]
          (repeat first | exact fz.rf | refine fz.up ?_ (by decide) (by decide) | refine fz.sI ?_ (by decide) (by decide) _ | refine fz.sJ ?_ (by decide) _)
      have c14 : h14.1 0 14 = nI (cst X.2.2.2.2.1 hi (pw X.2.2.2.2.1 (lo.toInt * 256) (X.2.2.2.2.2.1 X.2.2.2.2.2.2.1) X.2.2.2.2.2.2.1).2 (rws X.2.2.2.2.1 (X.2.2.2.2.2.1 X.2.2.2.2.2.2.1) [X.2.2.2.2.2.2.1]) false (X.2.2.2.2.2.1 X.2.2.2.2.2.2.1 + 1)) := by
        rw [e14]
        simp (disch := decide) only [sI_at, sI_ne, sI_21, sI_22, sJ_1, sJ_at, sJ_ne, sJ_22, sW_1, sW_21, upd_at, upd_ne]
        rw [f12.i 0 (by decide), e11]
        simp (disch := decide) only [sI_at, sI_ne, sI_21, sI_22, sJ_1, sJ_at, sJ_ne, sJ_22, sW_1, sW_21, upd_at, upd_ne]
      have c13 : h14.1 0 13 = nI (tlL lo hi (wE X.2.2.2.2)).length := by
        rw [e14]
        simp (disch := decide) only [sI_at, sI_ne, sI_21, sI_22, sJ_1, sJ_at, sJ_ne, sJ_22, sW_1, sW_21, upd_at, upd_ne]
      have c26 : arL (h14.1 26) (tlL lo hi (wE X.2.2.2.2)) := by
        rw [e14]
        simp (disch := decide) only [sI_at, sI_ne, sI_21, sI_22, sJ_1, sJ_at, sJ_ne, sJ_22, sW_1, sW_21, upd_at, upd_ne]
        exact a12
      have t14 : C_tr X.2.2.2.2 h14 := (t11.k f12 (by decide) (by decide)).k (U := [0]) (by rw [e14]; (repeat first | exact fr.rf | refine fr.sI ?_ (by decide) _ | refine fr.sJ ?_ (by decide) _ | refine fr.sW ?_ (by decide) _ _)) (by decide) (by decide)
      obtain ⟨C8, M8⟩ := an (tlL lo hi (wE X.2.2.2.2), _) h14 f14 t14 ⟨c26, c13, c14⟩
      rw [c13]
      clear e14 f14 c14 c13 c26
      apply sX7_ask
      intro k1 e1
      rw [m_down M8 e1]
      refine ⟨fun _ k3 e3 => ?_, fun z => absurd d0 z⟩
      have g3 : fz 27 [27, 47, 48, 49, 50, 51, 52] [0, 42, 44, 45, 50] h14 k3 := by
        rw [e3, e1]
        (repeat first | exact fz.rf | refine fz.up ?_ (by decide) (by decide) | refine fz.sI ?_ (by decide) (by decide) _ | refine fz.sJ ?_ (by decide) _)
      have s3 : k3.1 27 11 = nI X.2.2.1.1 := by
        rw [g3.2 11 (by decide)]
        exact M8.2.2.1.1
      rw [s3]
      simp (disch := omega) only [nt_le, nt_lt, nt_eq, nt_cl, nt_vp, nI_add, lu_le, lu_lt, lu_eq, ul_le, ul_lt, ul_eq, lu_add, ul_add, lu_sub, lu_mul, ul_mul, nt_sub, nt_m1]
      refine ⟨fun _ => ?_, fun z => absurd q z⟩
      have T3 : M_tr X.2.2.1.1 X.2.2.2.2 k3 := M8.2.2.2.2.2.1.k g3 (by decide) (by decide)
      obtain ⟨i1, i2, i3, i4, i5⟩ := pw_ok (e := lo.toInt * 256) O (X.2.2.2.2.2.1 X.2.2.2.2.2.2.1) X.2.2.2.2.2.2.1 rfl hu
      have l1 := (O _ i2).1
      refine m_descend (rk := X.2.2.2.2.2.1) (e := lo.toInt * 256) T3.1 O (by rw [show (0 : Int32).toInt = 0 from rfl]; omega) (T3.2 (Or.inr q)) hu (by omega) (fun k5 f5 g5 w5 => ⟨rfl, fun k6 e6 => ?_⟩)
      have w45 : k6.1 27 45 = nI (X.2.2.2.2.2.1 X.2.2.2.2.2.2.1) := by
        rw [e6]
        simp (disch := decide) only [sI_at, sI_ne, sI_21, sI_22, sJ_1, sJ_at, sJ_ne, sJ_22, sW_1, sW_21, upd_at, upd_ne]
        have := w5.1
        rw [i1] at this
        exact this
      have w48 : k6.1 48 (X.2.2.2.2.2.1 X.2.2.2.2.2.2.1) = nI (pw X.2.2.2.2.1 (lo.toInt * 256) (X.2.2.2.2.2.1 X.2.2.2.2.2.2.1) X.2.2.2.2.2.2.1).2 := by
        rw [e6]
        simp (disch := decide) only [sI_at, sI_ne, sI_21, sI_22, sJ_1, sJ_at, sJ_ne, sJ_22, sW_1, sW_21, upd_at, upd_ne]
        have := w5.2.2
        rw [i1] at this
        exact this
      have g6 : fz 27 [27, 47, 48, 49, 50, 51, 52] [0, 42, 44, 45, 50] k3 k6 := by
        refine fz.tr (h' := k5) ⟨f5.mono (by decide), fun y hy => g5 y (fun z => hy (by rw [z]; decide))⟩ ?_
        rw [e6]
        (repeat first | exact fz.rf | refine fz.up ?_ (by decide) (by decide) | refine fz.sI ?_ (by decide) (by decide) _ | refine fz.sJ ?_ (by decide) _)
      have c44 : k6.1 27 44 = nI (X.2.2.2.2.2.1 X.2.2.2.2.2.2.1 + 1) := by
        rw [e6]
        simp (disch := decide) only [sI_at, sI_ne, sI_21, sI_22, sJ_1, sJ_at, sJ_ne, sJ_22, sW_1, sW_21, upd_at, upd_ne]
        have := w5.1
        rw [i1] at this
        rw [this]
        exact nI_1 _
      have T6 : M_tr X.2.2.1.1 X.2.2.2.2 k6 := T3.k g6 (by decide) (by decide)
      rw [w45]
      simp (disch := omega) only [nt_le, nt_lt, nt_eq, nt_cl, nt_vp, nI_add, lu_le, lu_lt, lu_eq, ul_le, ul_lt, ul_eq, lu_add, ul_add, lu_sub, lu_mul, ul_mul, nt_sub, nt_m1]
      rw [w48]
      refine ⟨by omega, ?_⟩
      have s6 : k6.1 27 11 = 5 := by
        rw [g6.2 11 (by decide), s3, q]
        rfl
      refine m_goThrough O T6.1 (Or.inr s6) (T6.2 (Or.inr q)) hu (by omega) (by have := rb _ (Nat.le_refl _); omega) (fun k8 f8 g8 h50 a8 => ⟨rfl, ?_⟩)
      have g8z : fz 27 [27, 47, 48, 49, 50, 51, 52] [0, 42, 44, 45, 50] k6 k8 := ⟨f8.mono (by decide), fun y hy => g8 y (fun z => hy (by rw [z]; decide)) (fun z => hy (by rw [z]; decide))⟩
      have T8 : M_tr X.2.2.1.1 X.2.2.2.2 k8 := T6.k g8z (by decide) (by decide)
      have c42 : k8.1 27 42 = nI ([] : List Nat).length := by
        rw [g8 42 (by decide) (by decide), e6]
        simp (disch := decide) only [sI_at, sI_ne, sI_21, sI_22, sJ_1, sJ_at, sJ_ne, sJ_22, sW_1, sW_21, upd_at, upd_ne]
        rw [g5 42 (by decide), e3]
        simp (disch := decide) only [sI_at, sI_ne, sI_21, sI_22, sJ_1, sJ_at, sJ_ne, sJ_22, sW_1, sW_21, upd_at, upd_ne]
        rfl
      have lvs : ∀ m ∈ rws X.2.2.2.2.1 (X.2.2.2.2.2.1 X.2.2.2.2.2.2.1) [X.2.2.2.2.2.2.1], m < 64 ∧ ¬ nu X.2.2.2.2.1 m = 0 ∧ nz X.2.2.2.2.1 m ≤ 8 ∧ nv X.2.2.2.2.1 m = 0 := by
        intro m hm
        obtain ⟨y1, y2, y3⟩ := lv_mem O hu m hm
        obtain ⟨-, y4⟩ := rws_mem O (X.2.2.2.2.2.1 X.2.2.2.2.2.2.1) [X.2.2.2.2.2.2.1] (fun x hx => by rw [List.mem_singleton.mp hx]; exact ⟨hu, rfl⟩) m hm
        exact ⟨y1, y2, y3, (rk_pos O y2).mpr y4⟩
      have rbb := rb _ (Nat.le_refl _)
      refine m_ask_133 (rk := X.2.2.2.2.2.1) rbb l1 (rws X.2.2.2.2.1 (X.2.2.2.2.2.1 X.2.2.2.2.2.2.1) [X.2.2.2.2.2.2.1]) 0 (X.2.2.2.2.2.1 X.2.2.2.2.2.2.1 + 1) false [] k8 T8.1 h50 a8.tl lvs (ne.elim (fun z => Or.inl z) (fun z => Or.inr ⟨rfl, z⟩)) (by omega) (by omega) (by simpa using l240) c42 (by rw [g8 44 (by decide) (by decide)]; exact c44) (fun i hi => absurd hi (Nat.not_lt_zero _)) (fun h' y1 y2 y3 y4 => ?_)
      rw [List.nil_append, wl] at y2 y3 ⊢
      have gz := ((g3.tr g6).tr g8z).tr (y1.mono (by decide) (by decide))
      refine K _ _ ⟨X, L, _, C8.k (fUm gz (by decide)), man _ h14 h' M8 gz ⟨y2, y3, y4⟩, I, ?_⟩
      have := tlL_len lo hi (wE X.2.2.2.2)
      rw [wl] at l240
      show (tlL lo hi (wE X.2.2.2.2)).length ≤ 240
      omega
  · apply sX7_ask
    intro h4 e4
    rw [m_down M e4]
    exact ⟨fun z => absurd z d1, fun _ => K _ _ ⟨X, L, N, C.th e4, M.th e4, I, n⟩⟩
end ASKS
