/-! what holds between calls -/
def okR (x : Int) : Prop := ∃ (k : Int32) (p : Nat), p < 240 ∧ x = k.toInt * 256 + p
theorem okR.e {x : Int} (h : okR x) : okE x := by
  obtain ⟨k, p, h1, h2⟩ := h
  have r1 : -2147483648 ≤ k.toInt := by simpa using Int32.le_toInt k
  have r2 : k.toInt < 2147483648 := by simpa using Int32.toInt_lt k
  unfold okE
  omega
theorem okR.q {x : Int} (h : okR x) : 0 ≤ x % 256 ∧ (x % 256).toNat < 240 := by
  obtain ⟨k, p, h1, h2⟩ := h
  omega
def wE (W : WT) : List Int := en W.1 (W.2.1 W.2.2.1) W.2.2.1
def wfW (W : WT) : Prop := TI W.1 W.2.1 W.2.2.1 ∧ W.2.1 W.2.2.1 ≤ 8 ∧ (wE W).Pairwise (· < ·) ∧ (∀ x ∈ wE W, okR x) ∧ W.2.2.2 = (wE W).length
def ap (C : Int → Prop) (a : Int × Bool) : Int → Prop := fun x => (a.2 = true ∧ (x = a.1 ∨ C x)) ∨ (a.2 = false ∧ x ≠ a.1 ∧ C x)
def rep : (Int → Prop) → List (Int × Bool) → Int → Prop
  | C, [] => C
  | C, a :: t => rep (ap C a) t
def vld : (Int → Prop) → List (Int × Bool) → Prop
  | _, [] => True
  | C, a :: t => okR a.1 ∧ (a.2 = true → ¬ C a.1) ∧ (a.2 = false → C a.1) ∧ vld (ap C a) t
def src (st : Nat) (B : BT) (W : WT) : Int → Prop := fun x => (st = 4 ∧ x ∈ wE W) ∨ (¬ st = 4 ∧ x ∈ B.2.1.flatten ++ B.2.2.1)
def BI (R : Int → Prop) (st : Nat) (B : BT) (W : WT) : Prop := B.1 ≤ 20 ∧ B.2.2.2.length ≤ 40 ∧ vld (src st B W) B.2.2.2 ∧ (∀ x, rep (src st B W) B.2.2.2 x ↔ R x ∧ (x % 256).toNat / 12 < B.1) ∧ ∀ a ∈ B.2.2.2, (a.1 % 256).toNat / 12 < B.1
def RI (st : Nat) (B : BT) : Prop := (B.2.1.flatten ++ B.2.2.1).length ≤ 12 * B.1 ∧ (∀ r ∈ B.2.1, r.Pairwise (· < ·)) ∧ (B.2.1.flatten ++ B.2.2.1).Nodup ∧ (∀ x ∈ B.2.1.flatten ++ B.2.2.1, okR x ∧ (x % 256).toNat / 12 < B.1) ∧ (st = 1 → B.1 < 20 ∧ B.2.2.1.length < 24 ∧ ∀ r ∈ B.2.1, 24 ≤ r.length) ∧ (2 ≤ st → B.1 = 20 ∧ B.2.2.1 = [] ∧ B.2.1.length ≤ 10) ∧ (3 ≤ st → B.2.1.length ≤ 1)
def LI (E0 : List Int) (L : LT) (W : WT) : Prop := (∀ n, ¬ nu W.1 n = 0 ↔ n < nn W) ∧ okS W.1 W.2.1 ∧ jn W.1 ∧
  (L.1 = true → L.2.1 = 0 ∧ L.2.2 = 0 ∧ (∀ n, n < nn W → nv W.1 n = 0 ∧ 1 ≤ nz W.1 n) ∧ (nn W = 0 ∨ 6 * nn W < E0.length) ∧ enL W.1 (List.range (nn W)) = E0.take (6 * nn W)) ∧
  (L.1 = false → ∃ ρ, ((ρ = 0 ∧ L.2.2 - L.2.1 ≤ 40 ∧ L.2.2 ≤ 40) ∨ (ρ = 1 ∧ L.2.2 - L.2.1 ≤ 7 ∧ L.2.2 ≤ 47) ∨ (ρ = 2 ∧ L.2.2 - L.2.1 ≤ 2 ∧ L.2.2 ≤ 49)) ∧ L.2.1 + 2 ≤ L.2.2 ∧ L.2.2 ≤ nn W ∧ 6 * (nn W - L.2.2) < L.2.2 - L.2.1 ∧ (∀ n, n < L.2.1 → W.2.1 n < ρ) ∧ (∀ n, L.2.1 ≤ n → n < L.2.2 → W.2.1 n = ρ ∧ 1 ≤ nz W.1 n) ∧ (∀ n, L.2.2 ≤ n → n < nn W → W.2.1 n = ρ + 1) ∧ (∀ q i k, KD W.1 q i k → k < L.2.1 + 6 * (nn W - L.2.2)) ∧ (∀ k, k < L.2.1 + 6 * (nn W - L.2.2) → ∃ q i, KD W.1 q i k) ∧ enL W.1 (rws W.1 ρ (List.range' L.2.1 (L.2.2 - L.2.1))) = E0 ∧ rwB W.1 (List.range' L.2.2 (nn W - L.2.2)) = List.range' L.2.1 (6 * (nn W - L.2.2)))
def PR (R : Int → Prop) (X : XT) (L : LT) : Prop := (X.1.1 = 0 ∨ X.1.1 = 1) ∧ X.1.2.2.2.2.2 ≤ 30 ∧ X.2.2.1.1 < 7 ∧ (X.2.2.1.2.1 = 0 ∨ X.2.2.1.2.1 = 1) ∧ (X.2.2.1.1 = 0 → X.2.2.1.2.1 = 0) ∧ (¬ X.2.2.1.1 = 6 → X.2.2.1.2.2.2 = (-1, -1)) ∧ (¬ (1 ≤ X.2.2.1.1 ∧ X.2.2.1.1 ≤ 4) → X.2.2.2.1 = (0, [], [], [])) ∧ WZ X.2.2.2.2 ∧ (¬ (3 ≤ X.2.2.1.1 ∧ X.2.2.1.1 ≤ 5) → ∀ n, nu X.2.2.2.2.1 n = 0) ∧ (1 ≤ X.2.2.1.1 ∧ X.2.2.1.1 ≤ 4 → BI R X.2.2.1.1 X.2.2.2.1 X.2.2.2.2 ∧ RI X.2.2.1.1 X.2.2.2.1) ∧ (X.2.2.1.1 = 3 → LI X.2.2.2.1.2.1.flatten L X.2.2.2.2) ∧ (1 ≤ X.2.2.1.1 ∧ X.2.2.1.1 ≤ 2 → L = (true, 0, 0)) ∧ (X.2.2.1.1 = 4 ∨ X.2.2.1.1 = 5 → wfW X.2.2.2.2) ∧ (X.2.2.1.1 = 5 → ∀ x, x ∈ wE X.2.2.2.2 ↔ R x)
def PI (X : XT) (L : LT) : Prop := PR (rowE X.2.1.1 X.2.1.2.1) X L
def Inv (h : Hp) : Prop := ∃ X L N, CX X L N h ∧ MX X L N h ∧ PI X L ∧ N.1.length ≤ 240
/-! an entry comes to, or goes from, the tree of both -/
def cmP (W : WT) (e : Int) : List (Nat × Nat) × Nat := pw W.1 e (W.2.1 W.2.2.1) W.2.2.1
def cmQ (W : WT) (e : Int) : Nat := cn (nu W.1) 64 + nq (cmP W e).1 W.1 (W.2.1 W.2.2.1) (nz W.1 (cmP W e).2 + 1)
def cmS (W : WT) (e : Int) : SR × Option Nat := suK 64 (cmP W e).1 (W.2.1 W.2.2.1) (cmP W e).2 (pIn (cmP W e).2 (psn (nh W.1 (cmP W e).2) e (nz W.1 (cmP W e).2)) e W.1)
def gmS (W : WT) (e : Int) : SR × Nat := cps (W.2.1 W.2.2.1) W.2.2.1 (guK (cmP W e).1 (W.2.1 W.2.2.1) (cmP W e).2 (tOut (cmP W e).2 (fnd (nh W.1 (cmP W e).2) e (nz W.1 (cmP W e).2) (nz W.1 (cmP W e).2) 0) W.1))
def TC (W : WT) (e : Int) (W' : WT) : Prop := W'.1 = (cmS W e).1 ∧ W'.2.2.1 = (cmS W e).2.getD W.2.2.1 ∧ W'.2.2.2 = W.2.2.2 + 1 ∧ wfW W' ∧ ∀ x, x ∈ wE W' ↔ x = e ∨ x ∈ wE W
def TG (W : WT) (e : Int) (W' : WT) : Prop := W'.1 = (gmS W e).1 ∧ W'.2.2.1 = (gmS W e).2 ∧ W'.2.2.2 = W.2.2.2 - 1 ∧ wfW W' ∧ ∀ x, x ∈ wE W' ↔ x ≠ e ∧ x ∈ wE W
theorem wfW.z {W : WT} (H : wfW W) : WZ W := by
  intro n hn
  by_cases e : nu W.1 n = 0
  · exact e
  · have := (H.1.1 n e).1
    omega
theorem wfW.len {W : WT} (H : wfW W) : (wE W).length ≤ 512 := by
  have b := rws_64 H.1.1 H.1.2.2.1 H.1.2.1 (Nat.le_refl _)
  have := enL_le (rws W.1 (W.2.1 W.2.2.1) [W.2.2.1]) (lv_mem H.1.1 H.1.2.1)
  rw [en_rws] at this
  unfold wE
  omega
section TRW
variable {W : WT} {h : Hp} {Q : Option AV → Hp → Prop} {e : Int}
theorem c_come (H : C_tr W h) (wf : wfW W) {x : Int64} (hx : x.toInt = e) (he : okR e) (hn : e ∉ wE W) (K0 : 64 < cmQ W e → ∀ h', fr [16, 22, 23] h h' → C_tr W h' → Q (some (vI 0)) h')
    (K1 : cmQ W e ≤ 64 → ∀ W' h', TC W e W' → fr [16, 17, 18, 19, 20, 21, 22, 23] h h' → C_tr W' h' → Q (some (vI 1)) h') : EvM mX5_letCome [vR 16, vL x] h Q := by
  obtain ⟨H1, H2, H3⟩ := H
  obtain ⟨t1, t2, t3, t4, t5⟩ := wf
  have len : (wE W).length ≤ 512 := wfW.len ⟨t1, t2, t3, t4, t5⟩
  obtain ⟨-, ok⟩ := come_ok t1 t2 t3 hn (p := (cmP W e).1) (l := (cmP W e).2) rfl
  refine c_letCome (rk := W.2.1) H1 t1.1 H2 t1.2.1 (by omega) (fun q h' f' e' => ?_) (fun q h' T hT f' e6 e7 s' => ?_)
  · rw [hx] at q
    refine K0 q h' f' ⟨H1.fr f' (e' 5 (by decide)) (by decide), ?_, ?_⟩
    · rw [e' 7 (by decide)]
      exact H2
    · rw [e' 6 (by decide)]
      exact H3
  · rw [hx] at q hT
    obtain ⟨-, rk', r1, r2, E', r3, r4, r5, r6⟩ := ok q
    have hT : T = cmS W e := hT
    rw [hT] at e7 s'
    refine K1 q ((cmS W e).1, rk', (cmS W e).2.getD W.2.2.1, W.2.2.2 + 1) h' ⟨rfl, rfl, rfl, ⟨r1, r2, ?_, ?_, ?_⟩, ?_⟩ f' ⟨s', ?_, ?_⟩
    · show (en _ _ _).Pairwise _
      rw [show en (cmS W e).1 (rk' ((cmS W e).2.getD W.2.2.1)) ((cmS W e).2.getD W.2.2.1) = E' from r3]
      exact r4
    · intro y hy
      have hy : y ∈ en (cmS W e).1 (rk' ((cmS W e).2.getD W.2.2.1)) ((cmS W e).2.getD W.2.2.1) := hy
      rw [show en (cmS W e).1 (rk' ((cmS W e).2.getD W.2.2.1)) ((cmS W e).2.getD W.2.2.1) = E' from r3, r5] at hy
      rcases hy with hy | hy
      · rw [hy]
        exact he
      · exact t4 y hy
    · show W.2.2.2 + 1 = (en _ _ _).length
      rw [show en (cmS W e).1 (rk' ((cmS W e).2.getD W.2.2.1)) ((cmS W e).2.getD W.2.2.1) = E' from r3, r6, t5]
      rfl
    · intro y
      show y ∈ en (cmS W e).1 (rk' ((cmS W e).2.getD W.2.2.1)) ((cmS W e).2.getD W.2.2.1) ↔ _
      rw [show en (cmS W e).1 (rk' ((cmS W e).2.getD W.2.2.1)) ((cmS W e).2.getD W.2.2.1) = E' from r3]
      exact r5 y
    · show h'.1 16 7 = nI ((cmS W e).2.getD W.2.2.1)
      rw [e7]
      cases (cmS W e).2 <;> rfl
    · show h'.1 16 6 = nI (W.2.2.2 + 1)
      rw [e6, H3]
      exact nI_1 _
theorem nq10 (wf : wfW W) : cmQ W e ≤ 74 := by
  have := nq_le (cmP W e).1 W.1 (W.2.1 W.2.2.1) (nz W.1 (cmP W e).2 + 1)
  have := cn_le (nu W.1) 64
  have := wf.2.1
  unfold cmQ
  omega
theorem m_come {st : Nat} (H : M_tr st W h) (hst : st = 4 ∨ st = 5) (wf : wfW W) {k q : Int32} (hx : ent k q e) (hn : e ∉ wE W) (K0 : 64 < cmQ W e → ∀ h' S', fz 27 [27, 40, 41, 42, 43, 44, 45, 46, 48, 49] [33, 34, 45] h h' → M_st S' h' → (∃ r, h'.1 27 34 = nI r) → 64 < cn (nu S') 80 → cn (nu S') 80 ≤ 80 → Q none h')
    (K1 : cmQ W e ≤ 64 → ∀ h', fz 27 [27, 40, 41, 42, 43, 44, 45, 46, 48, 49] [33, 34, 45] h h' → (∀ W', TC W e W' → M_tr st W' h') → Q none h') : EvM mX7_comes [vR 27, vI k, vI q] h Q := by
  obtain ⟨H1, H2⟩ := H
  have z := wf.z
  have n10 := nq10 (e := e) wf
  obtain ⟨t1, t2, t3, t4, t5⟩ := wf
  obtain ⟨pe, ok⟩ := come_ok t1 t2 t3 hn (p := (cmP W e).1) (l := (cmP W e).2) rfl
  have c80 : cn (nu W.1) 80 = cn (nu W.1) 64 := cn_64 z 16
  have q10 : cn (nu W.1) 80 + nq (cmP W e).1 W.1 (W.2.1 W.2.2.1) (nz W.1 (cmP W e).2 + 1) ≤ 80 := by
    rw [c80]
    have : cmQ W e ≤ 80 := by omega
    exact this
  refine m_comes (rk := W.2.1) H1 t1.1 hx (H2 hst) t1.2.1 (by omega) rfl rfl q10 (fun h' T hT f' e' e34 s' => ?_)
  have hT : T = suK 80 (cmP W e).1 (W.2.1 W.2.2.1) (cmP W e).2 (pIn (cmP W e).2 (psL (nh W.1 (cmP W e).2) e (nz W.1 (cmP W e).2) 0) e W.1) := hT
  rw [pe] at hT
  have ff : fz 27 [27, 40, 41, 42, 43, 44, 45, 46, 48, 49] [33, 34, 45] h h' := ⟨f', fun y hy => e' y (fun z => hy (by rw [z]; decide)) (fun z => hy (by rw [z]; decide)) (fun z => hy (by rw [z]; decide))⟩
  by_cases g : cmQ W e ≤ 64
  · obtain ⟨s80, -⟩ := ok g
    rw [s80] at hT
    have hT : T = cmS W e := hT
    rw [hT] at e34 s'
    refine K1 g h' ff (fun W' hW => ⟨?_, fun _ => ?_⟩)
    · rw [hW.1]
      exact s'
    · rw [hW.2.1, e34]
      cases (cmS W e).2 <;> rfl
  · have wd : wyD (pIn (cmP W e).2 (psn (nh W.1 (cmP W e).2) e (nz W.1 (cmP W e).2)) e W.1) (cmP W e).1 (W.2.1 W.2.2.1) (cmP W e).2 := by
      intro j hj
      obtain ⟨a1, a2, a3, a4, a5, a6, a7⟩ := pw_wyN (e := e) t1.1 t1.2.1 j hj
      exact ⟨a2, a6, a7⟩
    have ez : nz (pIn (cmP W e).2 (psn (nh W.1 (cmP W e).2) e (nz W.1 (cmP W e).2)) e W.1) (cmP W e).2 = nz W.1 (cmP W e).2 + 1 := va_up_self _ _ _
    have en : nq (cmP W e).1 (pIn (cmP W e).2 (psn (nh W.1 (cmP W e).2) e (nz W.1 (cmP W e).2)) e W.1) (W.2.1 W.2.2.1) (nz W.1 (cmP W e).2 + 1) = nq (cmP W e).1 W.1 (W.2.1 W.2.2.1) (nz W.1 (cmP W e).2 + 1) := by
      apply nq_cg
      intro j hj
      exact va_up_ne _ _ (wd j hj).2.1
    have c := su_cn (N := 80) (W.2.1 W.2.2.1) (cmP W e).2 _ wd (by rw [ez, en]; exact q10)
    rw [ez, en, ← hT] at c
    refine K0 (by omega) h' T.1 ff s' ⟨T.2.getD W.2.2.1, by rw [e34]; cases T.2 <;> rfl⟩ ?_ (cn_le _ _)
    rw [c]
    show 64 < cn (nu W.1) 80 + _
    rw [c80]
    have : ¬ cmQ W e ≤ 64 := g
    unfold cmQ at this
    omega
theorem c_go (H : C_tr W h) (wf : wfW W) {x : Int64} (hx : x.toInt = e) (hn : e ∈ wE W)
    (K1 : ∀ W' h', TG W e W' → fr [16, 17, 18, 19, 20, 21, 22, 23] h h' → C_tr W' h' → Q none h') : EvM mX5_letGo [vR 16, vL x] h Q := by
  obtain ⟨H1, H2, H3⟩ := H
  obtain ⟨t1, t2, t3, t4, t5⟩ := wf
  obtain ⟨fl, ch, T, hT, r1, r2, E', r3, r4, r5, r6⟩ := go_ok t1 t3 hn (p := (cmP W e).1) (l := (cmP W e).2) rfl rfl
  have len : (wE W).length ≤ 512 := wfW.len ⟨t1, t2, t3, t4, t5⟩
  have r6 : E'.length + 1 = (wE W).length := r6
  have hT : T = gmS W e := hT
  rw [hT] at r1 r2 r3
  refine c_letGo (rk := W.2.1) (f := fnd (nh W.1 (cmP W e).2) e (nz W.1 (cmP W e).2) (nz W.1 (cmP W e).2) 0) H1 t1.1 H2 t1.2.1 (by omega) (by rw [hx]; rfl) (by rw [hx]) (fun q => absurd fl q) (fun _ => ch) (fun _ h' T' hT' f' e6 e7 s' => ?_)
  have hT' : T' = gmS W e := hT'
  rw [hT'] at e7 s'
  refine K1 ((gmS W e).1, W.2.1, (gmS W e).2, W.2.2.2 - 1) h' ⟨rfl, rfl, rfl, ⟨r1, by show W.2.1 (gmS W e).2 ≤ 8; omega, ?_, ?_, ?_⟩, ?_⟩ f' ⟨s', e7, ?_⟩
  · show (en _ _ _).Pairwise _
    rw [r3]
    exact r4
  · intro y hy
    have hy : y ∈ en (gmS W e).1 (W.2.1 (gmS W e).2) (gmS W e).2 := hy
    rw [r3, r5] at hy
    exact t4 y hy.2
  · show W.2.2.2 - 1 = (en _ _ _).length
    rw [r3]
    omega
  · intro y
    show y ∈ en (gmS W e).1 (W.2.1 (gmS W e).2) (gmS W e).2 ↔ _
    rw [r3]
    exact r5 y
  · show h'.1 16 6 = nI (W.2.2.2 - 1)
    rw [e6, H3]
    exact lu_sub (k := 1) (show 1 ≤ W.2.2.2 by omega)
theorem m_go {st : Nat} (H : M_tr st W h) (hst : st = 4 ∨ st = 5) (wf : wfW W) {k q : Int32} (hx : ent k q e) (hn : e ∈ wE W)
    (K1 : ∀ h', fz 27 [27, 40, 42, 43, 44, 45, 46, 48, 49] [33, 34, 45] h h' → (∀ W', TG W e W' → M_tr st W' h') → Q none h') : EvM mX7_goes [vR 27, vI k, vI q] h Q := by
  obtain ⟨H1, H2⟩ := H
  obtain ⟨t1, t2, t3, t4, t5⟩ := wf
  obtain ⟨fl, ch, -⟩ := go_ok t1 t3 hn (p := (cmP W e).1) (l := (cmP W e).2) rfl rfl
  refine m_goes (rk := W.2.1) (f := fnd (nh W.1 (cmP W e).2) e (nz W.1 (cmP W e).2) (nz W.1 (cmP W e).2) 0) H1 t1.1 hx (H2 hst) t1.2.1 (by omega) rfl rfl (fun q => absurd fl q) (fun _ => ch) (fun _ h' T' hT' f' e' e34 s' => ?_)
  have hT' : T' = gmS W e := hT'
  rw [hT'] at e34 s'
  refine K1 h' ⟨f', fun y hy => e' y (fun z => hy (by rw [z]; decide)) (fun z => hy (by rw [z]; decide)) (fun z => hy (by rw [z]; decide))⟩ (fun W' hW => ⟨?_, fun _ => ?_⟩)
  · rw [hW.1]
    exact s'
  · rw [hW.2.1]
    exact e34
end TRW
