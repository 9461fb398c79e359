/-! calls of both: info, leaf, audit -/
def rwl (tp tk : Nat → Int32) : Nat → List Int
  | 0 => []
  | n + 1 => rwl tp tk n ++ (if tp n = 0 then [] else [(tk n).toInt * 256 + n])
theorem rwl_len (tp tk : Nat → Int32) : ∀ n, (rwl tp tk n).length = cn tp n
  | 0 => rfl
  | n + 1 => by
    unfold rwl cn
    rw [List.length_append, rwl_len tp tk n]
    split <;> rfl
theorem rwl_mem (tp tk : Nat → Int32) (x : Int) : ∀ n, n ≤ 240 → (x ∈ rwl tp tk n ↔ ∃ p : Nat, p < n ∧ x % 256 = p ∧ ¬ tp p = 0 ∧ (tk p).toInt = x / 256)
  | 0, _ => ⟨fun h => absurd h List.not_mem_nil, fun ⟨p, h, _⟩ => by omega⟩
  | n + 1, hn => by
    unfold rwl
    rw [List.mem_append, rwl_mem tp tk x n (by omega)]
    constructor
    · rintro (⟨p, h1, h2, h3, h4⟩ | h)
      · exact ⟨p, by omega, h2, h3, h4⟩
      · split at h
        · exact absurd h List.not_mem_nil
        · next q =>
          rw [List.mem_singleton] at h
          exact ⟨n, by omega, by omega, q, by omega⟩
    · rintro ⟨p, h1, h2, h3, h4⟩
      by_cases e : p = n
      · subst e
        rw [if_neg h3]
        exact Or.inr (by rw [List.mem_singleton]; omega)
      · exact Or.inl ⟨p, by omega, h2, h3, h4⟩
theorem rwl_nd (tp tk : Nat → Int32) : ∀ n, n ≤ 240 → (rwl tp tk n).Nodup
  | 0, _ => List.nodup_nil
  | n + 1, hn => by
    unfold rwl
    rw [List.nodup_append]
    refine ⟨rwl_nd tp tk n (by omega), by split <;> simp, fun a ha b hb e => ?_⟩
    subst e
    obtain ⟨p, h1, h2, -⟩ := (rwl_mem tp tk a n (by omega)).mp ha
    split at hb
    · exact absurd hb List.not_mem_nil
    · rw [List.mem_singleton] at hb
      omega
theorem pw_nd {l : List Int} (h : l.Pairwise (· < ·)) : l.Nodup := by
  rw [List.nodup_iff_pairwise_ne]
  exact h.imp (fun hab => by omega)
section OP4
variable {X : XT} {L : LT} {N : NT} {h : Hp} {Q : Option AV → Hp → Prop} {P : Int32 → Option AV → Hp → Prop}
theorem len5 (I : PI X L) (q : X.2.2.1.1 = 5) : (wE X.2.2.2.2).length = cn X.2.1.1 240 := by
  have w := PR.wf I (Or.inr q)
  have m := PR.m5 I q
  have p : (wE X.2.2.2.2).Perm (rwl X.2.1.1 X.2.1.2.1 240) := by
    rw [List.perm_ext_iff_of_nodup (pw_nd w.2.2.1) (rwl_nd _ _ 240 (Nat.le_refl _))]
    intro x
    rw [m x, rwl_mem _ _ x 240 (Nat.le_refl _)]
    rfl
  rw [p.length_eq, rwl_len]
theorem MX.scr (H : MX X L N h) {h' : Hp} (f : fz 27 [27, 48, 49, 50, 51, 52] [0, 45, 50] h h') : MX X L N h' := by
  obtain ⟨H1, H2, H3, H4, H5, H6, H7⟩ := H
  exact ⟨H1.k f (by decide), H2.k f.1 (by decide), H3.k f (by decide), fun q => (H4 q).k f (by decide) (by decide), fun q => (H5 q).k f (by decide) (by decide), H6.k f (by decide) (by decide), H7.k f (by decide) (by decide)⟩
theorem CX.scr (H : CX X L N h) {h' : Hp} (f : fr [24, 25] h h') : CX X L N h' := by
  obtain ⟨H1, H2, H3, H4, H5, H6, H7⟩ := H
  have g : fz 0 [24, 25] [] h h' := fz.of f (by decide)
  exact ⟨H1.k f (by decide), H2.k f (by decide), H3.k g (by decide), H4.k g (by decide) (by decide), fun q => (H5 q).k f (by decide), H6.k f (by decide) (by decide), H7.k g (by decide) (by decide)⟩
theorem c_hasTree (H : CX X L N h) (hs : X.2.2.1.1 < 7) (K1 : X.2.2.1.1 = 4 ∨ X.2.2.1.1 = 5 → Q (some (vI 1)) h) (K0 : ¬ (X.2.2.1.1 = 4 ∨ X.2.2.1.1 = 5) → Q (some (vI 0)) h) : EvM mX6_hasTree [vR 0] h Q := by
  apply sX6_hasTree
  rw [show (5 : Int32) = nI 5 from rfl, show (4 : Int32) = nI 4 from rfl, c_st H hs 5 (by decide), c_st H hs 4 (by decide)]
  exact ⟨fun q => K1 (Or.inl q), fun q => ⟨fun q2 => K0 (by omega), fun q2 => K1 (Or.inr q2)⟩⟩
theorem m_goNo (H : MX X L N h) (hs : X.2.2.1.1 < 7) (q : ¬ (X.2.2.1.1 = 4 ∨ X.2.2.1.1 = 5)) (K : ∀ h', fz 27 [27] [50] h h' → h'.1 27 50 = 0 → Q none h') : EvM mX7_goThrough [vR 27] h Q := by
  apply sX7_goThrough
  intro h1 e1
  have f1 : fz 27 [27] [50] h h1 := by
    rw [e1]
    (repeat first | exact fz.rf | refine fz.up ?_ (by decide) (by decide) | refine fz.sI ?_ (by decide) (by decide) _ | refine fz.sJ ?_ (by decide) _)
  have M1 := H.scr (f1.mono (by decide) (by decide))
  rw [show (5 : Int32) = nI 5 from rfl, show (4 : Int32) = nI 4 from rfl, m_st M1 hs 5 (by decide), m_st M1 hs 4 (by decide)]
  exact ⟨fun z => by omega, fun _ => ⟨fun z => by omega, fun _ => K h1 f1 (by rw [e1]; simp (disch := decide) only [sI_at, sI_ne, sI_21, sI_22, sJ_1, sJ_at, sJ_ne, sJ_22, sW_1, sW_21, upd_at, upd_ne])⟩⟩
theorem m_entriesX (H : MX X L N h) (I : PI X L) (K : ∀ h', fz 27 [27, 48, 49, 52] [45, 50] h h' → Q (some (vI (if X.2.2.1.1 = 4 ∨ X.2.2.1.1 = 5 then nI (wE X.2.2.2.2).length else 0))) h') : EvM mX7_entries [vR 27] h Q := by
  have hs := PR.s I
  by_cases q : X.2.2.1.1 = 4 ∨ X.2.2.1.1 = 5
  · have w := PR.wf I q
    rw [if_pos q] at K
    refine m_entries (rk := X.2.2.2.2.2.1) w.1.1 H.2.2.2.2.2.1.1 (n := X.2.2.2.2.2.2.1) ?_ (H.2.2.2.2.2.1.2 q) w.1.2.1 (by have := w.2.1; omega) (rws_64 w.1.1 w.1.2.2.1 w.1.2.1 (Nat.le_refl _)) (fun h' f e => ?_)
    · rw [show (5 : Int32) = nI 5 from rfl, show (4 : Int32) = nI 4 from rfl, m_st H hs 5 (by decide), m_st H hs 4 (by decide)]
      exact q
    · rw [en_rws]
      exact K h' ⟨f, fun y hy => e y (fun z => hy (by rw [z]; decide)) (fun z => hy (by rw [z]; decide))⟩
  · rw [if_neg q] at K
    apply sX7_entries
    refine m_goNo H hs q (fun h' f e => ⟨rfl, ?_⟩)
    apply sX7_entries_8
    rw [e]
    exact ⟨fun _ => K h' (f.mono (by decide) (by decide)), fun z => absurd (by decide) z⟩
theorem m_slotX {x : Int32} (H : MX X L N h) (I : PI X L) (K1 : X.2.2.1.1 = 4 ∨ X.2.2.1.1 = 5 → ∀ h' p m j, x = nI p → p < (wE X.2.2.2.2).length → fz 27 [27, 48, 49, 52] [45, 50] h h' → m < 64 → ¬ nu X.2.2.2.2.1 m = 0 → nv X.2.2.2.2.1 m = 0 → j < nz X.2.2.2.2.1 m → nz X.2.2.2.2.1 m ≤ 8 → nh X.2.2.2.2.1 m j = (wE X.2.2.2.2).getD p 0 → lsz X.2.2.2.2.1 (rws X.2.2.2.2.1 (X.2.2.2.2.2.1 X.2.2.2.2.2.2.1) [X.2.2.2.2.2.2.1]) p = nz X.2.2.2.2.1 m → Q (some (vI (nI (9 * m + j)))) h')
    (K0 : ¬ (∃ p : Nat, (X.2.2.1.1 = 4 ∨ X.2.2.1.1 = 5) ∧ x = nI p ∧ p < (wE X.2.2.2.2).length) → ∀ h', fz 27 [27, 48, 49, 52] [45, 50] h h' → Q (some (vI (-1))) h') : EvM mX7_slotOf [vR 27, vI x] h Q := by
  have hs := PR.s I
  by_cases q : X.2.2.1.1 = 4 ∨ X.2.2.1.1 = 5
  · have w := PR.wf I q
    have len := w.len
    refine m_slotOf (rk := X.2.2.2.2.2.1) w.1.1 H.2.2.2.2.2.1.1 (n := X.2.2.2.2.2.2.1) ?_ (H.2.2.2.2.2.1.2 q) w.1.2.1 (by have := w.2.1; omega) (rws_64 w.1.1 w.1.2.2.1 w.1.2.1 (Nat.le_refl _)) (fun h' p m j ex f e hm hj hp hn hl => ?_) (fun no h' f e => ?_)
    · rw [show (5 : Int32) = nI 5 from rfl, show (4 : Int32) = nI 4 from rfl, m_st H hs 5 (by decide), m_st H hs 4 (by decide)]
      exact q
    · rw [en_rws] at hp hn
      obtain ⟨l1, l2, l3⟩ := lv_mem w.1.1 w.1.2.1 m hm
      have hr0 := (rws_mem w.1.1 _ _ (fun y hy => by rw [List.mem_singleton] at hy; rw [hy]; exact ⟨w.1.2.1, rfl⟩) m hm).2
      exact K1 q h' p m j ex hp ⟨f, fun y hy => e y (fun z => hy (by rw [z]; decide)) (fun z => hy (by rw [z]; decide))⟩ l1 l2 ((rk_pos w.1.1 l2).mpr hr0) hj l3 hn hl
    · refine K0 ?_ h' ⟨f, fun y hy => e y (fun z => hy (by rw [z]; decide)) (fun z => hy (by rw [z]; decide))⟩
      rintro ⟨p, -, ex, hp⟩
      have := no p ex
      rw [en_rws] at this
      have hp : p < (en X.2.2.2.2.1 (X.2.2.2.2.2.1 X.2.2.2.2.2.2.1) X.2.2.2.2.2.2.1).length := hp
      have len : (en X.2.2.2.2.1 (X.2.2.2.2.2.1 X.2.2.2.2.2.2.1) X.2.2.2.2.2.2.1).length ≤ 512 := len
      omega
  · apply sX7_slotOf
    refine m_goNo H hs q (fun h' f e => ⟨rfl, ?_⟩)
    apply sX7_slotOf_8
    rw [e]
    exact ⟨fun _ => K0 (fun ⟨p, z, _⟩ => q z) h' (f.mono (by decide) (by decide)), fun z => absurd (by decide) z⟩
theorem c_isEntry {x : Int32} (H : CX X L N h) (I : PI X L) (K1 : X.2.2.1.1 = 4 ∨ X.2.2.1.1 = 5 → ∀ p : Nat, x = nI p → p < (wE X.2.2.2.2).length → Q (some (vI 1)) h) (K0 : ¬ (∃ p : Nat, (X.2.2.1.1 = 4 ∨ X.2.2.1.1 = 5) ∧ x = nI p ∧ p < (wE X.2.2.2.2).length) → Q (some (vI 0)) h) : EvM mX6_isEntryOfTree [vR 0, vI x] h Q := by
  have hs := PR.s I
  apply sX6_isEntryOfTree
  refine c_hasTree H hs (fun q => ⟨1, rfl, fun z => absurd z (by decide), fun _ => ?_⟩) (fun q => ⟨0, rfl, fun _ => K0 (fun ⟨p, z, _⟩ => q z), fun z => absurd rfl z⟩)
  have w := PR.wf I q
  have len := w.len
  refine ⟨fun z => K0 ?_, fun z => ?_⟩
  · rintro ⟨p, -, ex, hp⟩
    rw [ex] at z
    have : (0 : Int32) ≤ nI p := by
      simp (disch := omega) only [nt_le, nt_lt, nt_eq, nt_cl, nt_vp, nI_add, lu_le, lu_lt, lu_eq, ul_le, ul_lt, ul_eq, lu_add, ul_add, lu_sub, lu_mul, ul_mul, nt_sub, nt_m1]
      omega
    exact absurd z (Int32.not_lt.mpr this)
  · apply sX5_entryCount
    refine ⟨_, rfl, ?_⟩
    rw [H.2.2.2.2.2.1.2.2, w.2.2.2.2]
    refine ⟨fun y => K0 ?_, fun y => ?_⟩
    · rintro ⟨p, -, ex, hp⟩
      rw [ex] at y
      revert y
      simp (disch := omega) only [nt_le, nt_lt, nt_eq, nt_cl, nt_vp, nI_add, lu_le, lu_lt, lu_eq, ul_le, ul_lt, ul_eq, lu_add, ul_add, lu_sub, lu_mul, ul_mul, nt_sub, nt_m1]
      omega
    · have : x ≤ nI (wE X.2.2.2.2).length := Int32.le_of_lt (Int32.not_le.mp y)
      obtain ⟨p, p1, p2⟩ := i_in (k := (wE X.2.2.2.2).length) (by omega) z this
      refine K1 q p p2 ?_
      rw [p2] at y
      revert y
      simp (disch := omega) only [nt_le, nt_lt, nt_eq, nt_cl, nt_vp, nI_add, lu_le, lu_lt, lu_eq, ul_le, ul_lt, ul_eq, lu_add, ul_add, lu_sub, lu_mul, ul_mul, nt_sub, nt_m1]
      omega
theorem op_leaf {x : Int32} (I : Inv h) (K : ∀ r h2, Inv h2 → P r (some (vI r)) h2) : EvM mX6_leaf [vR 0, vI x] h (fun v h1 => ∃ r, v = some (vI r) ∧ EvM mX7_leaf [vR 27, vI x] h1 (P r)) := by
  obtain ⟨X, L, N, C, M, I, n⟩ := I
  have unk : ∀ h4, h4 = sI h 27 (upd (h.1 27) 0 0) → Inv h4 := fun h4 e4 => ⟨X, L, N, C.th e4, M.th e4, I, n⟩
  apply sX6_leaf
  refine c_isDown C I.1 ⟨_, rfl, fun d0 => ?_, fun d1 => ⟨_, rfl, ?_⟩⟩
  · refine c_isEntry C I (fun q p ex hp => ⟨1, rfl, fun z => absurd z (by decide), fun _ => ?_⟩) (fun no => ⟨0, rfl, fun _ => ⟨_, rfl, ?_⟩, fun z => absurd rfl z⟩)
    · have w := PR.wf I q
      have len := w.len
      rw [ex]
      refine c_sizeOfLeafAt (rk := X.2.2.2.2.2.1) w.1.1 C.2.2.2.2.2.1.1 C.2.2.2.2.2.1.2.1 w.1.2.1 (by have := w.2.1; omega) (fun j hj => rws_64 w.1.1 w.1.2.2.1 w.1.2.1 hj) (by rw [en_rws]; exact hp) (fun h1 f1 => ⟨_, rfl, _, rfl, ?_⟩)
      have C1 := C.scr f1
      have M1 := M.k (f1.mono (by decide))
      apply sX7_leaf
      intro h4 e4
      rw [m_down M1 e4]
      refine ⟨fun _ => ?_, fun z => absurd d0 z⟩
      have M4 := M1.th e4
      refine m_slotX M4 I (fun _ h5 p' m j ex' hp' f5 l1 l2 l3 l4 l5 l6 l7 => ⟨_, rfl, fun _ => ?_, fun z => ?_⟩) (fun no => absurd ⟨p, q, rfl, hp⟩ no)
      · have pp : p = p' := (nt_eq (by omega) (by omega)).mp ex'
        have e9 : nI (9 * m + j) / 9 = nI ((9 * m + j) / 9) := pk_div (a := 9 * m + j) (d := 9) (by omega) (by decide) (by decide)
        rw [e9, show (9 * m + j) / 9 = m by omega]
        simp (disch := omega) only [nt_le, nt_lt, nt_eq, nt_cl, nt_vp, nI_add, lu_le, lu_lt, lu_eq, ul_le, ul_lt, ul_eq, lu_add, ul_add, lu_sub, lu_mul, ul_mul, nt_sub, nt_m1]
        refine ⟨by omega, ?_⟩
        have M5 := M4.scr (f5.mono (by decide) (by decide))
        rw [(M5.2.2.2.2.2.1.1.2.2 m (by omega) l2).1, pp, l7]
        exact K _ _ ⟨X, L, N, (C1.th e4).k (fUm f5 (by decide)), M5, I, n⟩
      · have : (0 : Int32) ≤ nI (9 * m + j) := by
          simp (disch := omega) only [nt_le, nt_lt, nt_eq, nt_cl, nt_vp, nI_add, lu_le, lu_lt, lu_eq, ul_le, ul_lt, ul_eq, lu_add, ul_add, lu_sub, lu_mul, ul_mul, nt_sub, nt_m1]
          omega
        rw [z] at this
        exact absurd this (by decide)
    · apply sX7_leaf
      intro h4 e4
      rw [m_down M e4]
      refine ⟨fun _ => ?_, fun z => absurd d0 z⟩
      have M4 := M.th e4
      refine m_slotX M4 I (fun q h5 p' m j ex' hp' f5 l1 l2 l3 l4 l5 l6 l7 => absurd ⟨p', q, ex', hp'⟩ no) (fun _ h5 f5 => ⟨_, rfl, fun z => absurd rfl z, fun _ => ?_⟩)
      exact K _ _ ⟨X, L, N, (C.th e4).k (fUm f5 (by decide)), M4.scr (f5.mono (by decide) (by decide)), I, n⟩
  · apply sX7_leaf
    intro h4 e4
    rw [m_down M e4]
    exact ⟨fun z => absurd z d1, fun _ => K _ _ (unk h4 e4)⟩
theorem op_audit (I : Inv h) (K : ∀ r h2, Inv h2 → P r (some (vI r)) h2) : EvM mX6_audit [vR 0] h (fun v h1 => ∃ r, v = some (vI r) ∧ EvM mX7_audit [vR 27] h1 (P r)) := by
  obtain ⟨X, L, N, C, M, I, n⟩ := I
  have hs := PR.s I
  have unk : ∀ h4, h4 = sI h 27 (upd (h.1 27) 0 0) → Inv h4 := fun h4 e4 => ⟨X, L, N, C.th e4, M.th e4, I, n⟩
  apply sX6_audit
  refine c_isDown C I.1 ⟨_, rfl, fun d0 => ?_, fun d1 => ⟨_, rfl, ?_⟩⟩
  · have mod : ∀ h1, MX X L N h1 → CX X L N h1 → EvM mX7_audit [vR 27] h1 (P 0) := by
      intro h1 M1 C1
      apply sX7_audit
      intro h4 e4
      have M4 := M1.th e4
      rw [m_down M1 e4, show (5 : Int32) = nI 5 from rfl, m_st M4 hs 5 (by decide)]
      refine ⟨fun _ => ⟨fun _ => K _ _ ⟨X, L, N, C1.th e4, M4, I, n⟩, fun q => ?_⟩, fun z => absurd d0 z⟩
      refine m_entriesX M4 I (fun h5 f5 => ⟨_, rfl, ?_⟩)
      have M5 := M4.scr (f5.mono (by decide) (by decide))
      rw [if_pos (Or.inr q), len5 I q]
      exact m_rowCount M5.2.1 ⟨_, rfl, fun _ => K _ _ ⟨X, L, N, (C1.th e4).k (fUm f5 (by decide)), M5, I, n⟩, fun z => absurd rfl z⟩
    have cls : ∀ h1, MX X L N h1 → CX X L N h1 → Ev mX6_audit 40 [(0, vR 0), (1, vI 0)] [] h1 (fun v h1 => ∃ r, v = some (vI r) ∧ EvM mX7_audit [vR 27] h1 (P r)) := by
      intro h1 M1 C1
      apply sX6_audit_40
      have l60 : ∀ h2, MX X L N h2 → CX X L N h2 → Ev mX6_audit 60 [(0, vR 0), (1, vI 0)] [] h2 (fun v h1 => ∃ r, v = some (vI r) ∧ EvM mX7_audit [vR 27] h1 (P r)) := by
        intro h2 M2 C2
        apply sX6_audit_60
        refine c_hasTree C2 hs (fun q => ⟨1, rfl, fun z => absurd z (by decide), fun _ => ?_⟩) (fun q => ⟨0, rfl, fun _ => ⟨_, rfl, mod h2 M2 C2⟩, fun z => absurd rfl z⟩)
        have w := PR.wf I q
        exact c_oneRow (rk := X.2.2.2.2.2.1) w.1.1 C2.2.2.2.2.2.1.1 C2.2.2.2.2.2.1.2.1 w.1.2.1 (by have := w.2.1; omega) (fun j hj => rws_64 w.1.1 w.1.2.2.1 w.1.2.1 hj) (fun h3 f3 => ⟨1, rfl, fun _ => ⟨_, rfl, mod h3 (M2.k (f3.mono (by decide))) (C2.scr f3)⟩, fun z => absurd z (by decide)⟩)
      refine c_hasTree C1 hs (fun q => ⟨1, rfl, fun z => absurd z (by decide), fun _ => ?_⟩) (fun q => ⟨0, rfl, fun _ => l60 h1 M1 C1, fun z => absurd rfl z⟩)
      have w := PR.wf I q
      refine c_sizesAreRight C1.2.2.2.2.2.1.1 C1.2.2.2.2.2.1.2.1 (w.1.1 _ w.1.2.1).1 (fun m hm hu => ⟨(w.1.1 m hu).2.1, ?_⟩) w.1.2.1 ⟨1, rfl, fun _ => l60 h1 M1 C1, fun z => absurd z (by decide)⟩
      rcases w.1.2.2.2.1 m hu with e | ⟨a, i, hk⟩
      · by_cases hv : nv X.2.2.2.2.1 m = 0
        · exact Or.inr ⟨e, hv⟩
        · rw [e] at hv ⊢
          have := w.1.2.2.2.2.2 hv
          exact Or.inl (by omega)
      · obtain ⟨k, k1, k2, k3, k4⟩ := ((w.1.1 a hk.1).2.2.2.2 hk.2.1).2 i hk.2.2.1
        have : k = m := by
          have := hk.2.2.2
          rw [k1] at this
          exact_mod_cast this
        rw [this] at k4
        exact Or.inl k4
    rw [show (5 : Int32) = nI 5 from rfl, c_st C hs 5 (by decide)]
    refine ⟨fun q => cls h M C, fun q => ?_⟩
    have w := PR.wf I (Or.inr q)
    have m5 := PR.m5 I q
    refine c_just (rk := X.2.2.2.2.2.1) w.1.1 C.2.2.2.2.2.1.1 C.2.1 C.2.2.2.2.2.1.2.1 w.1.2.1 (by have := w.2.1; omega) (fun j hj => rws_64 w.1.1 w.1.2.2.1 w.1.2.1 hj) ?_ ?_ ?_ ?_ (fun h3 f3 => ⟨1, rfl, fun _ => cls h3 (M.k (f3.mono (by decide))) (C.scr f3), fun z => absurd z (by decide)⟩)
    · rw [en_rws]
      exact fun E hE => ⟨(w.2.2.2.1 E hE).e, (m5 E).mp hE⟩
    · rw [en_rws]
      exact w.2.2.1
    · rw [en_rws]
      exact (len5 I q).symm
    · rw [en_rws, C.2.2.2.2.2.1.2.2, w.2.2.2.2]
      rfl
  · apply sX7_audit
    intro h4 e4
    rw [m_down M e4]
    exact ⟨fun z => absurd z d1, fun _ => K _ _ (unk h4 e4)⟩
end OP4
