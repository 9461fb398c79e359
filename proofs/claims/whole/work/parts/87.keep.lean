/-! what holds is kept -/
theorem rep_app : ∀ (l : List (Int × Bool)) (C : Int → Prop) (a : Int × Bool), rep C (l ++ [a]) = ap (rep C l) a
  | [], C, a => rfl
  | x :: l, C, a => rep_app l (ap C x) a
theorem vld_app : ∀ (l : List (Int × Bool)) (C : Int → Prop) (a : Int × Bool), vld C l → okR a.1 → (a.2 = true → ¬ rep C l a.1) → (a.2 = false → rep C l a.1) → vld C (l ++ [a])
  | [], C, a, _, h1, h2, h3 => ⟨h1, h2, h3, trivial⟩
  | x :: l, C, a, h, h1, h2, h3 => ⟨h.1, h.2.1, h.2.2.1, vld_app l (ap C x) a h.2.2.2 h1 h2 h3⟩
section KEE
variable {R R' : Int → Prop} {X X' : XT} {L : LT} {e : Int} {b : Bool}
theorem PR.cg (H : PR R X L) (h : ∀ x, R x ↔ R' x) : PR R' X L := by
  have e : R = R' := funext (fun x => propext (h x))
  rw [← e]
  exact H
theorem PR.T (H : PR R X L) (T' : TB) : PR R (X.1, T', X.2.2) L := H
theorem PR.fg (H : PR R X L) : PR R (fgX X) L := by
  obtain ⟨h1, h2, -, -, -, -, -, -⟩ := H
  refine ⟨h1, h2, by show 0 < 7; decide, Or.inl rfl, fun _ => rfl, fun _ => rfl, fun _ => rfl, fun _ _ => rfl, fun _ _ => rfl, fun q => absurd q.1 (by show ¬ 1 ≤ 0; decide), fun q => absurd q (by show ¬ (0 : Nat) = 3; decide), fun q => absurd q.1 (by show ¬ 1 ≤ 0; decide), fun q => absurd q (by show ¬ ((0 : Nat) = 4 ∨ (0 : Nat) = 5); decide), fun q => absurd q (by show ¬ (0 : Nat) = 5; decide)⟩
theorem PR.stp (H : PR R X L) {w : Int32} : PR R (stX w X) L := by
  obtain ⟨h1, h2, -, h4, -, -, -, -⟩ := H
  refine ⟨h1, h2, by show 6 < 7; decide, h4, fun q => absurd q (by show ¬ (6 : Nat) = 0; decide), fun q => absurd rfl q, fun _ => rfl, fun _ _ => rfl, fun _ _ => rfl, fun q => absurd q.2 (by show ¬ 6 ≤ 4; decide), fun q => absurd q (by show ¬ (6 : Nat) = 3; decide), fun q => absurd q.2 (by show ¬ 6 ≤ 2; decide), fun q => absurd q (by show ¬ ((6 : Nat) = 4 ∨ (6 : Nat) = 5); decide), fun q => absurd q (by show ¬ (6 : Nat) = 5; decide)⟩
theorem PR.dk (H : PR R X L) {D' : DK} (h1 : D'.1 = 0 ∨ D'.1 = 1) (h2 : D'.2.2.2.2.2 ≤ 30) : PR R (D', X.2) L := ⟨h1, h2, H.2.2⟩
theorem PR.pt (H : PR R X L) (n : Nat) : PR R (ptX n X).2 L := by
  unfold ptX
  split
  · exact H.dk H.1 H.2.1
  · split
    · exact H.dk (Or.inr rfl) H.2.1
    · exact (H.dk (D' := dkX n X.1) (Or.inr rfl) H.2.1).fg
theorem en_ut (W : WT) : ∀ r m, en (utW W).1 r m = en W.1 r m
  | 0, m => rfl
  | r + 1, m => by
    show (kids W.1 m).flatMap (en (utW W).1 r) = _
    exact fm_cg (fun k _ => en_ut W r k)
theorem wE_ut (W : WT) : wE (utW W) = wE W := en_ut W _ _
theorem wf_ut {W : WT} (H : wfW W) : wfW (utW W) := by
  obtain ⟨h1, h2, h3, h4, h5⟩ := H
  refine ⟨h1, h2, ?_, ?_, ?_⟩
  · rw [wE_ut]
    exact h3
  · rw [wE_ut]
    exact h4
  · rw [wE_ut]
    exact h5
theorem rws_ut (W : WT) : ∀ r l, rws (utW W).1 r l = rws W.1 r l
  | 0, l => rfl
  | r + 1, l => by
    show rws (utW W).1 r (rwB W.1 l) = _
    exact rws_ut W r _
theorem LI_ut {E0 : List Int} {W : WT} (H : LI E0 L W) : LI E0 L (utW W) := by
  obtain ⟨h1, h2, h3, h4, h5⟩ := H
  refine ⟨h1, h2, h3, h4, fun q => ?_⟩
  obtain ⟨ρ, a⟩ := h5 q
  refine ⟨ρ, a.1, a.2.1, a.2.2.1, a.2.2.2.1, a.2.2.2.2.1, a.2.2.2.2.2.1, a.2.2.2.2.2.2.1, a.2.2.2.2.2.2.2.1, a.2.2.2.2.2.2.2.2.1, ?_, a.2.2.2.2.2.2.2.2.2.2⟩
  rw [rws_ut]
  exact a.2.2.2.2.2.2.2.2.2.1
theorem src_ut (st : Nat) (B : BT) (W : WT) : src st B (utW W) = src st B W := by
  unfold src
  rw [wE_ut]
theorem PR.ut (H : PR R X L) (T' : TB) {D' : DK} (h1 : D'.1 = 0 ∨ D'.1 = 1) (h2 : D'.2.2.2.2.2 ≤ 30) : PR R (D', T', X.2.2.1, X.2.2.2.1, utW X.2.2.2.2) L := by
  obtain ⟨-, -, a3, a4, a5, a6, a7, a8, a9, a10, a11, a12, a13, a14⟩ := H
  refine ⟨h1, h2, a3, a4, a5, a6, a7, a8, a9, fun q => ⟨?_, (a10 q).2⟩, fun q => LI_ut (a11 q), a12, fun q => wf_ut (a13 q), fun q x => ?_⟩
  · have := (a10 q).1
    unfold BI at this ⊢
    show _ ∧ _ ∧ vld (src X.2.2.1.1 X.2.2.2.1 (utW X.2.2.2.2)) _ ∧ (∀ x, rep (src X.2.2.1.1 X.2.2.2.1 (utW X.2.2.2.2)) _ x ↔ _) ∧ _
    rw [src_ut]
    exact this
  · show x ∈ wE (utW X.2.2.2.2) ↔ _
    rw [wE_ut]
    exact a14 q x
theorem PR.ck (H : PR R X L) (nb : Nat) : PR R (ckX nb X).2 L := by
  unfold ckX
  split
  · next q =>
    have := H.pt (ckN nb X)
    exact this.ut _ this.1 (Nat.zero_le _)
  · exact H.pt _
theorem pt_wn (n : Nat) : (ptX n X).2.1.2.2.2 = X.1.2.2.2 := by
  unfold ptX
  split
  · rfl
  · split <;> rfl
theorem ck_wn {nb : Nat} (h : (ckX nb X).1 = true) : (ckX nb X).2.1.2.2.2.2.2 = 0 := by
  unfold ckX at h ⊢
  split
  · rfl
  · next q =>
    rw [if_neg q] at h
    exact absurd h q
theorem PR.w2 (H : PR R X L) (hw : X.1.2.2.2.2.2 < 30) : PR R (w2X X).2 L := by
  unfold w2X
  split
  · have := H.pt 1
    refine this.dk this.1 ?_
    show (ptX 1 X).2.1.2.2.2.2.2 + 1 ≤ 30
    rw [pt_wn]
    omega
  · exact H.pt 1
theorem PR.wd (H : PR R X L) : PR R (wdX X).2 L := by
  unfold wdX
  split
  · next q => exact H.w2 q
  · split
    · next q =>
      exact (H.ck _).w2 (by rw [ck_wn q]; decide)
    · exact H.ck _
/-- a write that is done: what it leaves -/
theorem pt_true {n : Nat} (h : (ptX n X).1 = true) : (ptX n X).2.1.1 = X.1.1 ∧ (ptX n X).2.2 = X.2 := by
  rw [pt_ok h]
  exact ⟨rfl, rfl⟩
theorem wd_true (h : (wdX X).1 = true) : (wdX X).2.1.1 = X.1.1 ∧ (wdX X).2.2.1.1 = X.2.1.1 ∧ (wdX X).2.2.1.2.1 = X.2.1.2.1 ∧ (wdX X).2.2.1.2.2.1 = X.2.1.2.2.1 ∧ (wdX X).2.2.2.1 = X.2.2.1 := by
  have k : ∀ Y : XT, (w2X Y).1 = true → (w2X Y).2.1.1 = Y.1.1 ∧ (w2X Y).2.2 = Y.2 := by
    intro Y hY
    unfold w2X at hY ⊢
    split
    · next q => exact pt_true q
    · next q =>
      rw [if_neg q] at hY
      exact absurd hY q
  unfold wdX at h ⊢
  split
  · next q =>
    rw [if_pos q] at h
    obtain ⟨a, b⟩ := k X h
    rw [a, b]
    exact ⟨rfl, rfl, rfl, rfl, rfl⟩
  · next q =>
    rw [if_neg q] at h
    split
    · next g =>
      rw [if_pos g] at h
      obtain ⟨a, b⟩ := k _ h
      rw [a, b]
      have g2 := ck_ok g
      refine ⟨g2.1, ?_, ?_, ?_, g2.2⟩
      all_goals
        unfold ckX at g ⊢
        split
        · next z =>
          simp only [ckY, utT, pt_ok z]
        · next z =>
          rw [if_neg z] at g
          exact absurd g z
    · next g =>
      rw [if_neg g] at h
      exact absurd h g
theorem PR.fol (H : PR R X L) (he : okR e) (h1 : b = true → ¬ R e) (h0 : b = false → R e) (F : FR X e b X') : PR (ap R (e, b)) X' L := by
  have H0 := H
  obtain ⟨a1, a2, a3, a4, a5, a6, a7, a8, a9, a10, a11, a12, a13, a14⟩ := H
  rcases F with ⟨q, F⟩ | ⟨q1, q2, q3, F⟩ | ⟨q1, q2, F⟩
  · have go : ∀ W', wfW W' → (∀ x, x ∈ wE W' ↔ ap R (e, b) x) → PR (ap R (e, b)) (X.1, X.2.1, X.2.2.1, X.2.2.2.1, W') L := by
      intro W' w m
      exact ⟨a1, a2, a3, a4, a5, a6, a7, w.z, fun z => absurd z (by show ¬ ¬ (3 ≤ X.2.2.1.1 ∧ X.2.2.1.1 ≤ 5); omega), fun z => absurd z.2 (by show ¬ X.2.2.1.1 ≤ 4; omega), fun z => absurd z (by show ¬ X.2.2.1.1 = 3; omega), fun z => absurd z.2 (by show ¬ X.2.2.1.1 ≤ 2; omega), fun _ => w, fun _ => m⟩
    rcases F with ⟨b0, W', hW, F⟩ | ⟨b0, -, W', hW, F⟩ | ⟨b0, -, F⟩
    · rw [F]
      refine go W' hW.2.2.2.1 (fun x => ?_)
      rw [hW.2.2.2.2, a14 q, b0]
      unfold ap
      simp
    · rw [F]
      refine go W' hW.2.2.2.1 (fun x => ?_)
      rw [hW.2.2.2.2, a14 q, b0]
      unfold ap
      simp
    · rw [F]
      obtain ⟨s1, s2, s3⟩ := H0.stp (w := 2)
      exact ⟨s1, s2, s3.1, s3.2.1, s3.2.2.1, s3.2.2.2.1, s3.2.2.2.2.1, s3.2.2.2.2.2.1, s3.2.2.2.2.2.2.1, fun z => absurd z.2 (by show ¬ 6 ≤ 4; decide), fun z => absurd z (by show ¬ (6 : Nat) = 3; decide), fun z => absurd z.2 (by show ¬ 6 ≤ 2; decide), fun z => absurd z (by show ¬ ((6 : Nat) = 4 ∨ (6 : Nat) = 5); decide), fun z => absurd z (by show ¬ (6 : Nat) = 5; decide)⟩
  · rcases F with ⟨g, F⟩ | ⟨g, F⟩
    · rw [F]
      obtain ⟨⟨b1, b2, b3, b4, b5⟩, rr⟩ := a10 ⟨q1, q2⟩
      refine ⟨a1, a2, a3, a4, a5, a6, fun z => absurd ⟨q1, q2⟩ z, a8, a9, fun _ => ⟨⟨b1, ?_, ?_, fun x => ?_, fun a ha => ?_⟩, rr⟩, a11, a12, a13, fun z => absurd z (by show ¬ X.2.2.1.1 = 5; omega)⟩
      · show (X.2.2.2.1.2.2.2 ++ [(e, b)]).length ≤ 40
        rw [List.length_append, List.length_singleton]
        omega
      · refine vld_app _ _ _ b3 he (fun z => ?_) (fun z => ?_)
        · show ¬ rep (src X.2.2.1.1 X.2.2.2.1 X.2.2.2.2) X.2.2.2.1.2.2.2 e
          rw [b4]
          exact fun y => h1 z y.1
        · show rep (src X.2.2.1.1 X.2.2.2.1 X.2.2.2.2) X.2.2.2.1.2.2.2 e
          rw [b4]
          exact ⟨h0 z, q3⟩
      · show rep (src X.2.2.1.1 X.2.2.2.1 X.2.2.2.2) (X.2.2.2.1.2.2.2 ++ [(e, b)]) x ↔ _
        rw [rep_app]
        unfold ap
        rw [b4]
        show _ ↔ _ ∧ (x % 256).toNat / 12 < X.2.2.2.1.1
        constructor
        · rintro (⟨y1, y2 | y2⟩ | ⟨y1, y2, y3⟩)
          · exact ⟨Or.inl ⟨y1, Or.inl y2⟩, by rw [y2]; exact q3⟩
          · exact ⟨Or.inl ⟨y1, Or.inr y2.1⟩, y2.2⟩
          · exact ⟨Or.inr ⟨y1, y2, y3.1⟩, y3.2⟩
        · rintro ⟨⟨y1, y2 | y2⟩ | ⟨y1, y2, y3⟩, y4⟩
          · exact Or.inl ⟨y1, Or.inl y2⟩
          · exact Or.inl ⟨y1, Or.inr ⟨y2, y4⟩⟩
          · exact Or.inr ⟨y1, y2, y3, y4⟩
      · have ha : a ∈ X.2.2.2.1.2.2.2 ++ [(e, b)] := ha
        rw [List.mem_append, List.mem_singleton] at ha
        rcases ha with ha | ha
        · exact b5 a ha
        · rw [ha]
          exact q3
    · rw [F]
      obtain ⟨s1, s2, s3⟩ := H0.stp (w := 1)
      exact ⟨s1, s2, s3.1, s3.2.1, s3.2.2.1, s3.2.2.2.1, s3.2.2.2.2.1, s3.2.2.2.2.2.1, s3.2.2.2.2.2.2.1, fun z => absurd z.2 (by show ¬ 6 ≤ 4; decide), fun z => absurd z (by show ¬ (6 : Nat) = 3; decide), fun z => absurd z.2 (by show ¬ 6 ≤ 2; decide), fun z => absurd z (by show ¬ ((6 : Nat) = 4 ∨ (6 : Nat) = 5); decide), fun z => absurd z (by show ¬ (6 : Nat) = 5; decide)⟩
  · rw [F]
    refine ⟨a1, a2, a3, a4, a5, a6, a7, a8, a9, fun z => ?_, a11, a12, a13, fun z => absurd z q1⟩
    obtain ⟨⟨b1, b2, b3, b4, b5⟩, rr⟩ := a10 z
    refine ⟨⟨b1, b2, b3, fun x => ?_, b5⟩, rr⟩
    rw [b4]
    have np : ¬ (e % 256).toNat / 12 < X.2.2.2.1.1 := fun y => q2 ⟨z.1, z.2, y⟩
    unfold ap
    constructor
    · rintro ⟨y1, y2⟩
      refine ⟨?_, y2⟩
      cases b with
      | true => exact Or.inl ⟨rfl, Or.inr y1⟩
      | false => exact Or.inr ⟨rfl, fun y => np (by rw [← show x = e from y]; exact y2), y1⟩
    · rintro ⟨⟨y1, y2 | y2⟩ | ⟨y1, y2, y3⟩, y4⟩
      · exact absurd (by rw [← show x = e from y2]; exact y4) np
      · exact ⟨y2, y4⟩
      · exact ⟨y3, y4⟩
theorem FR.T (F : FR X e b X') (T' : TB) : FR (X.1, T', X.2.2) e b (X'.1, T', X'.2.2) := by
  rcases F with ⟨q, F⟩ | ⟨q1, q2, q3, F⟩ | ⟨q1, q2, F⟩
  · rcases F with ⟨b0, W', hW, F⟩ | ⟨b0, g, W', hW, F⟩ | ⟨b0, g, F⟩
    · exact Or.inl ⟨q, Or.inl ⟨b0, W', hW, by rw [F]⟩⟩
    · exact Or.inl ⟨q, Or.inr (Or.inl ⟨b0, g, W', hW, by rw [F]⟩)⟩
    · exact Or.inl ⟨q, Or.inr (Or.inr ⟨b0, g, by rw [F]; rfl⟩)⟩
  · rcases F with ⟨g, F⟩ | ⟨g, F⟩
    · exact Or.inr (Or.inl ⟨q1, q2, q3, Or.inl ⟨g, by rw [F]⟩⟩)
    · exact Or.inr (Or.inl ⟨q1, q2, q3, Or.inr ⟨g, by rw [F]; rfl⟩⟩)
  · exact Or.inr (Or.inr ⟨q1, q2, by rw [F]⟩)
end KEE
/-! the rows after a write -/
theorem rowE_ap_t {tp tk : Nat → Int32} {p : Nat} {k : Int32} (hp : p < 240) (h0 : tp p = 0) (x : Int) : rowE (upd tp p 1) (upd tk p k) x ↔ ap (rowE tp tk) (k.toInt * 256 + p, true) x := by
  unfold rowE ap
  constructor
  · rintro ⟨q, h1, h2, h3, h4⟩
    refine Or.inl ⟨rfl, ?_⟩
    by_cases e : q = p
    · subst e
      rw [upd_at] at h4
      exact Or.inl (by show x = _; omega)
    · rw [upd_ne _ _ e] at h3 h4
      exact Or.inr ⟨q, h1, h2, h3, h4⟩
  · rintro (⟨-, h | ⟨q, h1, h2, h3, h4⟩⟩ | ⟨h, -⟩)
    · have h : x = k.toInt * 256 + p := h
      refine ⟨p, hp, by omega, ?_, ?_⟩
      · rw [upd_at]
        decide
      · rw [upd_at]
        omega
    · have e : q ≠ p := fun z => h3 (z ▸ h0)
      refine ⟨q, h1, h2, ?_, ?_⟩
      · rw [upd_ne _ _ e]
        exact h3
      · rw [upd_ne _ _ e]
        exact h4
    · exact absurd (show true = false from h) (by decide)
theorem rowE_ap_f {tp tk : Nat → Int32} {p : Nat} (hp : p < 240) (x : Int) : rowE (upd tp p 0) tk x ↔ ap (rowE tp tk) ((tk p).toInt * 256 + p, false) x := by
  unfold rowE ap
  constructor
  · rintro ⟨q, h1, h2, h3, h4⟩
    have e : q ≠ p := fun z => by
      rw [z, upd_at] at h3
      exact h3 rfl
    rw [upd_ne _ _ e] at h3
    exact Or.inr ⟨rfl, fun z => by
      have z : x = (tk p).toInt * 256 + p := z
      omega, q, h1, h2, h3, h4⟩
  · rintro (⟨h, -⟩ | ⟨-, h, q, h1, h2, h3, h4⟩)
    · exact absurd (show false = true from h) (by decide)
    · have e : q ≠ p := fun z => h (by
        show x = (tk p).toInt * 256 + p
        rw [z] at h4 h2
        omega)
      exact ⟨q, h1, h2, by rw [upd_ne _ _ e]; exact h3, h4⟩
theorem rowE_at {tp tk : Nat → Int32} {p : Nat} (hp : p < 240) (k : Int) : rowE tp tk (k * 256 + p) ↔ ¬ tp p = 0 ∧ (tk p).toInt = k := by
  unfold rowE
  constructor
  · rintro ⟨q, h1, h2, h3, h4⟩
    have e : q = p := by omega
    subst e
    exact ⟨h3, by omega⟩
  · rintro ⟨h1, h2⟩
    exact ⟨p, hp, by omega, h1, by omega⟩
theorem pt_T (n : Nat) (X : XT) : (ptX n X).2.2.1 = X.2.1 := by
  unfold ptX
  split
  · rfl
  · split <;> rfl
theorem ck_T (nb : Nat) (X : XT) : (ckX nb X).2.2.1.1 = X.2.1.1 ∧ (ckX nb X).2.2.1.2.1 = X.2.1.2.1 := by
  unfold ckX
  split
  · show (ptX _ X).2.2.1.1 = _ ∧ (ptX _ X).2.2.1.2.1 = _
    rw [pt_T]
    exact ⟨rfl, rfl⟩
  · rw [pt_T]
    exact ⟨rfl, rfl⟩
theorem w2_T (X : XT) : (w2X X).2.2.1 = X.2.1 := by
  unfold w2X
  split
  · exact pt_T 1 X
  · exact pt_T 1 X
theorem wd_T (X : XT) : (wdX X).2.2.1.1 = X.2.1.1 ∧ (wdX X).2.2.1.2.1 = X.2.1.2.1 := by
  unfold wdX
  split
  · rw [w2_T]
    exact ⟨rfl, rfl⟩
  · split
    · rw [w2_T]
      exact ck_T _ X
    · exact ck_T _ X
theorem PI.wd {X : XT} {L : LT} (H : PI X L) : PI (wdX X).2 L := by
  unfold PI
  rw [(wd_T X).1, (wd_T X).2]
  exact PR.wd H
theorem PI.ck {X : XT} {L : LT} (H : PI X L) (nb : Nat) : PI (ckX nb X).2 L := by
  unfold PI
  rw [(ck_T nb X).1, (ck_T nb X).2]
  exact PR.ck H nb
theorem PI.pt {X : XT} {L : LT} (H : PI X L) (n : Nat) : PI (ptX n X).2 L := by
  unfold PI
  rw [pt_T]
  exact PR.pt H n
