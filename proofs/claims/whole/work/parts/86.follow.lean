/-! a write is followed: into the tree, or into the log -/
def FR (X : XT) (e : Int) (b : Bool) (X' : XT) : Prop :=
  (X.2.2.1.1 = 5 ∧ ((b = false ∧ ∃ W', TG X.2.2.2.2 e W' ∧ X' = (X.1, X.2.1, X.2.2.1, X.2.2.2.1, W')) ∨ (b = true ∧ cmQ X.2.2.2.2 e ≤ 64 ∧ ∃ W', TC X.2.2.2.2 e W' ∧ X' = (X.1, X.2.1, X.2.2.1, X.2.2.2.1, W')) ∨ (b = true ∧ 64 < cmQ X.2.2.2.2 e ∧ X' = stX 2 X)))
  ∨ (1 ≤ X.2.2.1.1 ∧ X.2.2.1.1 ≤ 4 ∧ (e % 256).toNat / 12 < X.2.2.2.1.1 ∧ ((X.2.2.2.1.2.2.2.length < 40 ∧ X' = (X.1, X.2.1, X.2.2.1, (X.2.2.2.1.1, X.2.2.2.1.2.1, X.2.2.2.1.2.2.1, X.2.2.2.1.2.2.2 ++ [(e, b)]), X.2.2.2.2)) ∨ (X.2.2.2.1.2.2.2.length = 40 ∧ X' = stX 1 X)))
  ∨ (¬ X.2.2.1.1 = 5 ∧ ¬ (1 ≤ X.2.2.1.1 ∧ X.2.2.1.1 ≤ 4 ∧ (e % 256).toNat / 12 < X.2.2.2.1.1) ∧ X' = X)
theorem md40 {x : Nat} (h : x < 2147483648) : nI x - nI x / 40 * 40 = nI (x % 40) := by
  have hd : nI x / 40 = nI (x / 40) := pk_div (a := x) (d := 40) (by omega) (by decide) (by decide)
  rw [hd, ul_mul, nt_sub (by omega)]
  congr 1
  omega
theorem gD_app {α : Type} {l : List α} {a d : α} {i : Nat} (h : i < (l ++ [a]).length) : (l ++ [a]).getD i d = if i < l.length then l.getD i d else a := by
  rw [List.length_append, List.length_singleton] at h
  by_cases q : i < l.length
  · rw [if_pos q, gD_at (by rw [List.length_append]; omega), gD_at q, List.getElem_append_left q]
  · have e : i = l.length := by omega
    subst e
    rw [if_neg q, gD_at (by simp)]
    simp
section FOL
variable {X X' : XT} {L : LT} {N : NT} {h : Hp} {Q : Option AV → Hp → Prop} {e : Int} {b : Bool}
theorem c_append {lg : List (Int × Bool)} (H : C_lg lg h) {x : Int64} (hx : x.toInt = e) (K1 : lg.length < 40 → ∀ h', fr [13, 14, 15] h h' → C_lg (lg ++ [(e, b)]) h' → Q (some (vI 1)) h') (hl : lg.length ≤ 40) (K0 : lg.length = 40 → Q (some (vI 0)) h) : EvM mX2_append [vR 13, vL x, vI (bI b)] h Q := by
  obtain ⟨f, h1, h2, h3, h4⟩ := H
  apply sX2_append
  rw [h2, h3, nI_add, md40 (by omega)]
  simp (disch := omega) only [nt_le, nt_lt, nt_eq, nt_cl, nt_vp, nI_add, lu_le, lu_lt, lu_eq, ul_le, ul_lt, ul_eq, lu_add, ul_add, lu_sub, lu_mul, ul_mul, nt_sub, nt_m1]
  refine ⟨fun q => ⟨by omega, fun h5 e5 => ⟨by omega, by cases b <;> decide, fun h6 e6 h7 e7 => ?_⟩⟩, fun q => K0 (by omega)⟩
  refine K1 q h7 (by rw [e7, e6, e5]; (repeat first | exact fr.rf | refine fr.sI ?_ (by decide) _ | refine fr.sJ ?_ (by decide) _ | refine fr.sW ?_ (by decide) _ _)) ⟨f, h1, ?_, ?_, fun i hi => ?_⟩
  · rw [e7, e6, e5]
    simp (disch := decide) only [sI_at, sI_ne, sI_21, sI_22, sJ_1, sJ_at, sJ_ne, sJ_22, sW_1, sW_21, upd_at, upd_ne]
    exact h2
  · rw [e7, e6, e5]
    simp (disch := decide) only [sI_at, sI_ne, sI_21, sI_22, sJ_1, sJ_at, sJ_ne, sJ_22, sW_1, sW_21, upd_at, upd_ne]
    rw [h3, List.length_append]
    exact nI_1 _
  · have a14 : h7.2.1 14 = vp_updL (h.2.1 14) ((f + lg.length) % 40) x := by
      rw [e7, e6, e5]
      simp (disch := decide) only [sI_at, sI_ne, sI_21, sI_22, sJ_1, sJ_at, sJ_ne, sJ_22, sW_1, sW_21, upd_at, upd_ne]
    have a15 : h7.1 15 = upd (h.1 15) ((f + lg.length) % 40) (bI b) := by
      rw [e7, e6, e5]
      simp (disch := decide) only [sI_at, sI_ne, sI_21, sI_22, sJ_1, sJ_at, sJ_ne, sJ_22, sW_1, sW_21, upd_at, upd_ne]
    rw [a14, a15, gD_app hi]
    rw [List.length_append, List.length_singleton] at hi
    by_cases z : i < lg.length
    · rw [if_pos z, uL_ne _ _ (by omega), upd_ne _ _ (by omega)]
      exact h4 i z
    · have ei : i = lg.length := by omega
      rw [if_neg z, ei, uL_at, upd_at]
      exact ⟨hx, rfl⟩
theorem plc_nI {x : Int64} (hx : x.toInt = e) : Int64.toInt32 (x &&& 255) = nI (e % 256).toNat := by
  rw [plc_int, hx]
theorem c_bring (H : CX X L N h) (hs : X.2.2.1.1 = 4 ∨ X.2.2.1.1 = 5) (wf : wfW X.2.2.2.2) (he : okR e) {x : Int64} (hx : x.toInt = e) (hb : (b = true → e ∉ wE X.2.2.2.2) ∧ (b = false → e ∈ wE X.2.2.2.2))
    (K1 : b = false → ∀ W' h', TG X.2.2.2.2 e W' → fr Uc h h' → CX (X.1, X.2.1, X.2.2.1, X.2.2.2.1, W') L N h' → Q none h')
    (K2 : b = true → cmQ X.2.2.2.2 e ≤ 64 → ∀ W' h', TC X.2.2.2.2 e W' → fr Uc h h' → CX (X.1, X.2.1, X.2.2.1, X.2.2.2.1, W') L N h' → Q none h')
    (K3 : b = true → 64 < cmQ X.2.2.2.2 e → ∀ h', fr Uc h h' → CX (stX 2 X) L N h' → Q none h') : EvM mX6_bringToTree [vR 0, vL x, vI (bI b)] h Q := by
  apply sX6_bringToTree
  obtain ⟨H1, H2, H3, H4, H5, H6, H7⟩ := H
  have re : ∀ W' h', fr [16, 17, 18, 19, 20, 21, 22, 23] h h' → C_tr W' h' → CX (X.1, X.2.1, X.2.2.1, X.2.2.2.1, W') L N h' := by
    intro W' h' f t
    have g : fz 0 [16, 17, 18, 19, 20, 21, 22, 23] [] h h' := fz.of f (by decide)
    exact ⟨H1.k f (by decide), H2.k f (by decide), H3.k g (by decide), H4.k g (by decide) (by decide), fun q => by have q : X.2.2.1.1 = 3 := q; omega, t, H7.k g (by decide) (by decide)⟩
  rw [bI_0]
  refine ⟨fun q => ?_, fun q => ?_⟩
  · have q : b = true := by simpa using q
    refine c_come H6 wf hx he (hb.1 q) (fun g h' f t => ⟨0, rfl, fun z => absurd rfl z, fun _ => ?_⟩) (fun g W' h' hW f t => ⟨1, rfl, fun _ => K2 q g W' h' hW (f.mono (by decide)) (re W' h' f t), fun z => absurd z (by decide)⟩)
    have HX : CX X L N h' := re _ h' (f.mono (by decide)) t
    exact c_stopBuilding HX (fun h2 f2 H2 => ⟨rfl, K3 q g h2 ((f.mono (by decide)).tr f2) H2⟩)
  · exact c_go H6 wf hx (hb.2 q) (fun W' h' hW f t => ⟨rfl, K1 q W' h' hW (f.mono (by decide)) (re W' h' f t)⟩)
theorem c_follow (H : CX X L N h) (hs : X.2.2.1.1 < 7) (he : okR e) (hl : X.2.2.2.1.2.2.2.length ≤ 40) (hp : X.2.2.2.1.1 ≤ 20) {x : Int64} (hx : x.toInt = e) (h5 : X.2.2.1.1 = 5 → wfW X.2.2.2.2 ∧ (b = true → e ∉ wE X.2.2.2.2) ∧ (b = false → e ∈ wE X.2.2.2.2))
    (K : ∀ X' h', FR X e b X' → fr Uc h h' → CX X' L N h' → Q none h') : EvM mX6_follow [vR 0, vL x, vI (bI b)] h Q := by
  apply sX6_follow
  have st := H.2.2.1.1
  rw [show (5 : Int32) = nI 5 from rfl, c_st H hs 5 (by decide)]
  refine ⟨fun q => ?_, fun q => ?_⟩
  · apply sX6_isBuilding
    rw [st]
    simp (disch := omega) only [nt_le, nt_lt, nt_eq, nt_cl, nt_vp, nI_add, lu_le, lu_lt, lu_eq, ul_le, ul_lt, ul_eq, lu_add, ul_add, lu_sub, lu_mul, ul_mul, nt_sub, nt_m1]
    have pd : nI (e % 256).toNat / 12 = nI ((e % 256).toNat / 12) := pk_div (a := (e % 256).toNat) (d := 12) (by omega) (by decide) (by decide)
    refine ⟨fun z => ⟨0, rfl, fun _ => K X h (Or.inr (Or.inr ⟨q, by omega, rfl⟩)) fr.rf H, fun z => absurd rfl z⟩, fun z => ⟨fun z2 => ⟨0, rfl, fun _ => K X h (Or.inr (Or.inr ⟨q, by omega, rfl⟩)) fr.rf H, fun z => absurd rfl z⟩, fun z2 => ⟨1, rfl, fun z => absurd z (by decide), fun _ => ?_⟩⟩⟩
    apply sX6_placeOf
    refine ⟨_, rfl, ?_⟩
    rw [plc_nI hx, pd, H.2.2.2.1.1]
    simp (disch := omega) only [nt_le, nt_lt, nt_eq, nt_cl, nt_vp, nI_add, lu_le, lu_lt, lu_eq, ul_le, ul_lt, ul_eq, lu_add, ul_add, lu_sub, lu_mul, ul_mul, nt_sub, nt_m1]
    refine ⟨fun y => K X h (Or.inr (Or.inr ⟨q, by omega, rfl⟩)) fr.rf H, fun y => ?_⟩
    refine c_append H.2.2.2.1.2.2 hx (fun g h' f t => ⟨1, rfl, fun _ => ?_, fun z => absurd z (by decide)⟩) hl (fun g => ⟨0, rfl, fun z => absurd rfl z, fun _ => ?_⟩)
    · obtain ⟨H1, H2, H3, H4, H5, H6, H7⟩ := H
      have gz : fz 0 [13, 14, 15] [] h h' := fz.of f (by decide)
      exact K _ h' (Or.inr (Or.inl ⟨by omega, by omega, by omega, Or.inl ⟨g, rfl⟩⟩)) (f.mono (by decide)) ⟨H1.k f (by decide), H2.k f (by decide), H3.k gz (by decide), ⟨by rw [gz.2 4 (by decide)]; exact H4.1, H4.2.1.k f (by decide), t⟩, fun q => (H5 q).k f (by decide), H6.k f (by decide) (by decide), H7.k gz (by decide) (by decide)⟩
    · exact c_stopBuilding H (fun h2 f2 H2 => ⟨rfl, K _ h2 (Or.inr (Or.inl ⟨by omega, by omega, by omega, Or.inr ⟨g, rfl⟩⟩)) f2 H2⟩)
  · obtain ⟨wf, hb⟩ := h5 q
    exact c_bring H (Or.inr q) wf he hx hb (fun g W' h' hW f t => ⟨rfl, K _ h' (Or.inl ⟨q, Or.inl ⟨g, W', hW, rfl⟩⟩) f t⟩) (fun g g2 W' h' hW f t => ⟨rfl, K _ h' (Or.inl ⟨q, Or.inr (Or.inl ⟨g, g2, W', hW, rfl⟩)⟩) f t⟩) (fun g g2 h' f t => ⟨rfl, K _ h' (Or.inl ⟨q, Or.inr (Or.inr ⟨g, g2, rfl⟩)⟩) f t⟩)
theorem M_em {S S' : SR} (H : M_st (emS S) h) : M_st (emS S') h := ⟨fun n hn => ⟨(H.1 n hn).1, fun q => absurd rfl q⟩, H.2.1, fun n hn q => absurd rfl q⟩
/-- the reference's tree after an entry came: too many nodes, or not -/
def Fn : List Nat := [11, 12, 13, 14, 15, 16, 17, 20, 22, 33, 34, 45]
def Un : List Nat := [27, 35, 36, 37, 40, 41, 42, 43, 44, 45, 46, 48, 49]
theorem MX.tr {W' : WT} {h' : Hp} (H : MX X L N h) (hs : ¬ (1 ≤ X.2.2.1.1 ∧ X.2.2.1.1 ≤ 3)) (f : fz 27 [27, 40, 41, 42, 43, 44, 45, 46, 48, 49] [33, 34, 45] h h') (t : M_tr X.2.2.1.1 W' h') : MX (X.1, X.2.1, X.2.2.1, X.2.2.2.1, W') L N h' := by
  obtain ⟨H1, H2, H3, H4, H5, H6, H7⟩ := H
  exact ⟨H1.k f (by decide), H2.k f.1 (by decide), H3.k f (by decide), fun q => (H4 q).k f (by decide) (by decide), fun q => absurd q hs, t, H7.k f (by decide) (by decide)⟩
theorem m_full (H : MX X L N h) (hs : X.2.2.1.1 = 4 ∨ X.2.2.1.1 = 5) (hu : X.2.2.1.2.1 = 0 ∨ X.2.2.1.2.1 = 1) (ht : X.2.2.1.2.2.2 = (-1, -1)) {h1 : Hp} {S' : SR} (f : fz 27 [27, 40, 41, 42, 43, 44, 45, 46, 48, 49] [33, 34, 45] h h1) (m : M_st S' h1) (r : ∃ r, h1.1 27 34 = nI r) (K : ∀ h', fz 27 Un Fn h h' → MX (stX 2 X) L N h' → Q none h') : EvM mX7_stop [vR 27, vI 2] h1 Q := by
  obtain ⟨r, hr⟩ := r
  have HX := H.tr (W' := (S', X.2.2.2.2.2.1, r, 0)) (by omega) f ⟨m, fun _ => hr⟩
  refine m_stop HX (by show ¬ X.2.2.1.1 = 0; omega) hu ht (fun h2 f2 H2 => ?_)
  refine K h2 ((f.mono (by decide) (by decide)).tr (f2.mono (by decide) (by decide))) ?_
  obtain ⟨H1, H2, H3, H4, H5, H6, H7⟩ := H2
  exact ⟨H1, H2, H3, H4, H5, ⟨M_em H6.1, fun q => absurd q (by show ¬ ((6 : Nat) = 4 ∨ (6 : Nat) = 5); decide)⟩, H7⟩
theorem m_note (H : MX X L N h) (F : FR X e b X') (hs : X.2.2.1.1 < 7) (hu : X.2.2.1.2.1 = 0 ∨ X.2.2.1.2.1 = 1) (ht : ¬ X.2.2.1.1 = 6 → X.2.2.1.2.2.2 = (-1, -1)) {k : Int32} {p : Nat} (hp : p < 240) (he : k.toInt * 256 + p = e) (hl : X.2.2.2.1.2.2.2.length ≤ 40) (hg : X.2.2.2.1.1 ≤ 20) (h5 : X.2.2.1.1 = 5 → wfW X.2.2.2.2 ∧ (b = true → e ∉ wE X.2.2.2.2) ∧ (b = false → e ∈ wE X.2.2.2.2))
    (K : ∀ h', fz 27 Un Fn h h' → MX X' L N h' → Q none h') : EvM mX7_note [vR 27, vI (bI b), vI k, vI (nI p)] h Q := by
  have hent : ent k (nI p) e := by
    have : (nI p).toInt = p := nI_toInt (by omega)
    unfold ent
    rw [this]
    omega
  have pe : (e % 256).toNat = p := by omega
  have pd : nI p / 12 = nI (p / 12) := pk_div (a := p) (d := 12) (by omega) (by decide) (by decide)
  have st := H.2.2.1.1
  apply sX7_note
  rw [show (5 : Int32) = nI 5 from rfl, m_st H hs 5 (by decide), pd, bI_0]
  unfold FR at F
  rw [pe] at F
  refine ⟨fun q => ?_, fun q => ?_⟩
  · have le : ∀ a b : Nat, a < 2147483648 → b < 2147483648 → ((nI a).toInt ≤ (nI b).toInt ↔ a ≤ b) := fun a b ha hb => by
      rw [← Int32.le_iff_toInt_le]
      exact nt_le ha hb
    rw [st]
    refine m_in (fun a1 a2 => ⟨1, rfl, fun z => absurd z (by decide), fun _ => ?_⟩) (fun a => ⟨0, rfl, fun _ => ?_, fun z => absurd rfl z⟩)
    · have b1 : 1 ≤ X.2.2.1.1 := (le 1 _ (by decide) (by omega)).mp a1
      have b2 : X.2.2.1.1 ≤ 4 := (le _ 4 (by omega) (by decide)).mp a2
      obtain ⟨M1, M2, M3⟩ := H.2.2.2.1 ⟨b1, b2⟩
      rw [M1, M3.1]
      simp (disch := omega) only [nt_le, nt_lt, nt_eq, nt_cl, nt_vp, nI_add, lu_le, lu_lt, lu_eq, ul_le, ul_lt, ul_eq, lu_add, ul_add, lu_sub, lu_mul, ul_mul, nt_sub, nt_m1]
      refine ⟨fun z => ?_, fun z => ⟨fun z2 => ⟨by omega, by cases b <;> decide, fun h9 e9 => ?_⟩, fun z2 => ?_⟩⟩
      · rcases F with ⟨F, -⟩ | ⟨-, -, F, -⟩ | ⟨-, -, F⟩
        · exact absurd F q
        · omega
        · rw [F] at K
          exact K h fz.rf H
      · have v9 : h9.1 27 22 = nI X.2.2.2.1.2.2.2.length := by
          rw [e9]
          simp (disch := decide) only [sI_at, sI_ne, sI_21, sI_22, sJ_1, sJ_at, sJ_ne, sJ_22, sW_1, sW_21, upd_at, upd_ne]
          exact M3.1
        rw [v9]
        simp (disch := omega) only [nt_le, nt_lt, nt_eq, nt_cl, nt_vp, nI_add, lu_le, lu_lt, lu_eq, ul_le, ul_lt, ul_eq, lu_add, ul_add, lu_sub, lu_mul, ul_mul, nt_sub, nt_m1]
        refine ⟨by omega, fun h11 e11 => ?_⟩
        have v11 : h11.1 27 22 = nI X.2.2.2.1.2.2.2.length := by
          rw [e11]
          simp (disch := decide) only [sI_at, sI_ne, sI_21, sI_22, sJ_1, sJ_at, sJ_ne, sJ_22, sW_1, sW_21, upd_at, upd_ne]
          exact v9
        rw [v11]
        simp (disch := omega) only [nt_le, nt_lt, nt_eq, nt_cl, nt_vp, nI_add, lu_le, lu_lt, lu_eq, ul_le, ul_lt, ul_eq, lu_add, ul_add, lu_sub, lu_mul, ul_mul, nt_sub, nt_m1]
        refine ⟨by omega, fun h13 e13 h14 e14 => ?_⟩
        rcases F with ⟨F, -⟩ | ⟨-, -, F, F2⟩ | ⟨-, F, -⟩
        · exact absurd F q
        · rcases F2 with ⟨g, F2⟩ | ⟨g, -⟩
          · rw [F2] at K
            have fz14 : fz 27 [27, 35, 36, 37] [22] h h14 := by
              rw [e14, e13, e11, e9]
              (repeat first | exact fz.rf | refine fz.up ?_ (by decide) (by decide) | refine fz.sI ?_ (by decide) (by decide) _ | refine fz.sJ ?_ (by decide) _)
            obtain ⟨H1, H2, H3, H4, H5, H6, H7⟩ := H
            refine K h14 (fz14.mono (by decide) (by decide)) ⟨H1.k fz14 (by decide), H2.k fz14.1 (by decide), H3.k fz14 (by decide), fun _ => ⟨by rw [fz14.2 16 (by decide)]; exact M1, M2.k fz14 (by decide) (by decide), ?_⟩, fun y => (H5 y).k fz14 (by decide) (by decide), H6.k fz14 (by decide) (by decide), H7.k fz14 (by decide) (by decide)⟩
            have a35 : h14.1 35 = upd (h.1 35) X.2.2.2.1.2.2.2.length (bI b) := by
              rw [e14, e13, e11, e9]
              simp (disch := decide) only [sI_at, sI_ne, sI_21, sI_22, sJ_1, sJ_at, sJ_ne, sJ_22, sW_1, sW_21, upd_at, upd_ne]
            have a36 : h14.1 36 = upd (h.1 36) X.2.2.2.1.2.2.2.length k := by
              rw [e14, e13, e11, e9]
              simp (disch := decide) only [sI_at, sI_ne, sI_21, sI_22, sJ_1, sJ_at, sJ_ne, sJ_22, sW_1, sW_21, upd_at, upd_ne]
            have a37 : h14.1 37 = upd (h.1 37) X.2.2.2.1.2.2.2.length (nI p) := by
              rw [e14, e13, e11, e9]
              simp (disch := decide) only [sI_at, sI_ne, sI_21, sI_22, sJ_1, sJ_at, sJ_ne, sJ_22, sW_1, sW_21, upd_at, upd_ne]
            have a22 : h14.1 27 22 = h13.1 27 22 + 1 := by
              rw [e14]
              simp (disch := decide) only [sI_at, sI_ne, sI_21, sI_22, sJ_1, sJ_at, sJ_ne, sJ_22, sW_1, sW_21, upd_at, upd_ne]
            have v13 : h13.1 27 22 = nI X.2.2.2.1.2.2.2.length := by
              rw [e13]
              simp (disch := decide) only [sI_at, sI_ne, sI_21, sI_22, sJ_1, sJ_at, sJ_ne, sJ_22, sW_1, sW_21, upd_at, upd_ne]
              exact v11
            refine ⟨?_, fun i hi => ?_⟩
            · rw [a22, v13, List.length_append]
              exact nI_1 _
            · rw [a35, a36, a37, gD_app hi]
              rw [List.length_append, List.length_singleton] at hi
              by_cases z : i < X.2.2.2.1.2.2.2.length
              · rw [if_pos z, upd_ne _ _ (by omega), upd_ne _ _ (by omega), upd_ne _ _ (by omega)]
                exact M3.2 i z
              · have ei : i = X.2.2.2.1.2.2.2.length := by omega
                rw [if_neg z, ei, upd_at, upd_at, upd_at]
                exact ⟨rfl, hent⟩
          · omega
        · omega
      · rcases F with ⟨F, -⟩ | ⟨-, -, F, F2⟩ | ⟨-, F, -⟩
        · exact absurd F q
        · rcases F2 with ⟨g, F2⟩ | ⟨g, F2⟩
          · omega
          · rw [F2] at K
            exact m_stop H (by omega) hu (ht (by omega)) (fun h2 f2 H2 => ⟨rfl, K h2 (f2.mono (by decide) (by decide)) H2⟩)
        · omega
    · rcases F with ⟨F, -⟩ | ⟨F1, F2, -⟩ | ⟨-, -, F⟩
      · exact absurd F q
      · exact absurd ⟨(le 1 _ (by decide) (by omega)).mpr F1, (le _ 4 (by omega) (by decide)).mpr F2⟩ a
      · rw [F] at K
        exact K h fz.rf H
  · obtain ⟨wf, hb⟩ := h5 q
    have F : (b = false ∧ ∃ W', TG X.2.2.2.2 e W' ∧ X' = (X.1, X.2.1, X.2.2.1, X.2.2.2.1, W')) ∨ (b = true ∧ cmQ X.2.2.2.2 e ≤ 64 ∧ ∃ W', TC X.2.2.2.2 e W' ∧ X' = (X.1, X.2.1, X.2.2.1, X.2.2.2.1, W')) ∨ (b = true ∧ 64 < cmQ X.2.2.2.2 e ∧ X' = stX 2 X) := by
      rcases F with ⟨-, F⟩ | ⟨-, F, -⟩ | ⟨F, -⟩
      · exact F
      · omega
      · exact absurd q F
    have few : ∀ W' h', wfW W' → M_tr X.2.2.1.1 W' h' → h'.1 27 33 ≤ 64 := by
      intro W' h' w t
      rw [t.1.2.1, cn_64 w.z 16]
      have := cn_le (nu W'.1) 64
      simp (disch := omega) only [nt_le, nt_lt, nt_eq, nt_cl, nt_vp, nI_add, lu_le, lu_lt, lu_eq, ul_le, ul_lt, ul_eq, lu_add, ul_add, lu_sub, lu_mul, ul_mul, nt_sub, nt_m1]
      omega
    refine ⟨fun z => ?_, fun z => ?_⟩
    · refine m_go H.2.2.2.2.2.1 (Or.inr q) wf hent (hb.2 z) (fun h' f t => ⟨rfl, ?_⟩)
      apply sX7_note_27
      rcases F with ⟨-, W', hW, F⟩ | ⟨F, -⟩ | ⟨F, -⟩
      · refine ⟨fun _ => ?_, fun y => absurd (few W' h' hW.2.2.2.1 (t W' hW)) y⟩
        rw [F] at K
        exact K h' (f.mono (by decide) (by decide)) (H.tr (by omega) (f.mono (by decide) (by decide)) (t W' hW))
      · rw [z] at F
        exact absurd F (by decide)
      · rw [z] at F
        exact absurd F (by decide)
    · have z : b = true := by simpa using z
      refine m_come H.2.2.2.2.2.1 (Or.inr q) wf hent (hb.1 z) (fun g h' S' f m r c1 c2 => ⟨rfl, ?_⟩) (fun g h' f t => ⟨rfl, ?_⟩)
      · apply sX7_note_27
        rw [m.2.1]
        simp (disch := omega) only [nt_le, nt_lt, nt_eq, nt_cl, nt_vp, nI_add, lu_le, lu_lt, lu_eq, ul_le, ul_lt, ul_eq, lu_add, ul_add, lu_sub, lu_mul, ul_mul, nt_sub, nt_m1]
        refine ⟨fun y => by omega, fun _ => ?_⟩
        rcases F with ⟨F, -⟩ | ⟨-, F, -⟩ | ⟨-, -, F⟩
        · rw [z] at F
          exact absurd F (by decide)
        · omega
        · rw [F] at K
          exact m_full H (Or.inr q) hu (ht (by omega)) f m r (fun h2 f2 H2 => ⟨rfl, K h2 f2 H2⟩)
      · apply sX7_note_27
        rcases F with ⟨F, -⟩ | ⟨-, -, W', hW, F⟩ | ⟨-, F, -⟩
        · rw [z] at F
          exact absurd F (by decide)
        · refine ⟨fun _ => ?_, fun y => absurd (few W' h' hW.2.2.2.1 (t W' hW)) y⟩
          rw [F] at K
          exact K h' (f.mono (by decide) (by decide)) (H.tr (by omega) f (t W' hW))
        · omega
end FOL
