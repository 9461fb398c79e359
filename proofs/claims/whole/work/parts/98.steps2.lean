/-! the steps keep what holds -/
section ST2
variable {X X' : XT} {L L' : LT} {ok : Bool}
/-- what is known while a tree is loaded -/
theorem ld_in (H : PI X L) (q : X.2.2.1.1 = 3) : LI X.2.2.2.1.2.1.flatten L X.2.2.2.2 ∧ X.2.2.2.1.2.1.flatten.length ≤ 240 ∧ X.2.2.2.1.2.1.flatten.Pairwise (· < ·) ∧ (∀ x ∈ X.2.2.2.1.2.1.flatten, okR x) ∧ (∀ x, src 3 X.2.2.2.1 X.2.2.2.2 x ↔ x ∈ X.2.2.2.1.2.1.flatten) ∧ (L.1 = true → L = (true, 0, 0)) := by
  obtain ⟨a1, a2, a3, a4, a5, a6, a7, a8, a9, a10, a11, a12, a13, a14⟩ := H
  obtain ⟨⟨b1, b2, b3, b4, b5⟩, c1, c2, c3, c4, c5, c6, c7⟩ := a10 (by omega)
  obtain ⟨d1, d2, d3⟩ := c6 (by omega)
  have c7 := c7 (by omega)
  rw [d2, List.append_nil] at c1 c4
  have li := a11 q
  refine ⟨li, by omega, ?_, fun x hx => (c4 x hx).1, fun x => ?_, fun z => ?_⟩
  · cases e : X.2.2.2.1.2.1 with
    | nil => exact List.Pairwise.nil
    | cons r t =>
      rw [e] at c7 c2
      have : t = [] := List.eq_nil_of_length_eq_zero (by rw [List.length_cons] at c7; omega)
      subst this
      rw [List.flatten_singleton]
      exact c2 r List.mem_cons_self
  · unfold src
    rw [d2, List.append_nil]
    exact ⟨fun z => z.elim (fun y => absurd y.1 (by decide)) (fun y => y.2), fun z => Or.inr ⟨by decide, z⟩⟩
  · obtain ⟨z1, z2, -⟩ := li.2.2.2.1 z
    obtain ⟨l1, l2, l3⟩ := L
    dsimp only at z z1 z2
    rw [z, z1, z2]
/-- the node that is made -/
theorem ld_ok (H : PI X L) (q : X.2.2.1.1 = 3) : nn X.2.2.2.2 < 60 ∧ nu X.2.2.2.2.1 (nn X.2.2.2.2) = 0 ∧ L.2.2 ≤ nn X.2.2.2.2 ∧ (ldl X L).length = min 6 (ldE X L - ldn X L) ∧ ldn X L ≤ ldE X L ∧ ldE X L ≤ 240 ∧ ldn X L ≤ 240 ∧ (L.1 = false → L.2.1 ≤ L.2.2 ∧ L.2.2 ≤ 49) ∧
    (ldn X L + 6 < ldE X L → LI X.2.2.2.1.2.1.flatten L (ld1 X L).2.2.2.2) ∧
    (¬ ldn X L + 6 < ldE X L → ¬ nn X.2.2.2.2 = L.2.2 → LI X.2.2.2.1.2.1.flatten (false, L.2.2, nn X.2.2.2.2 + 1) (ld1 X L).2.2.2.2) ∧
    (¬ ldn X L + 6 < ldE X L → nn X.2.2.2.2 = L.2.2 → wfW (ld2 X L).2.2.2.2 ∧ wE (ld2 X L).2.2.2.2 = X.2.2.2.1.2.1.flatten) := by
  obtain ⟨li, n240, srt, okr, -, lt⟩ := ld_in H q
  by_cases z : L.1 = true
  · have lt := lt z
    subst lt
    have el : ldl X (true, 0, 0) = (X.2.2.2.1.2.1.flatten.drop (6 * nn X.2.2.2.2)).take 6 := by
      unfold ldl
      rw [if_pos rfl]
    have eE : ldE X (true, 0, 0) = X.2.2.2.1.2.1.flatten.length := by
      unfold ldE
      rw [if_pos rfl]
    have en' : ldn X (true, 0, 0) = 6 * nn X.2.2.2.2 := by
      unfold ldn
      show 0 + 6 * (nn X.2.2.2.2 - 0) = _
      omega
    have eS : ldS X (true, 0, 0) = adS (nn X.2.2.2.2) 0 (ldl X (true, 0, 0)) X.2.2.2.2.1 := rfl
    have ek : ldk X (true, 0, 0) = va_up X.2.2.2.2.2.1 (nn X.2.2.2.2) 0 := rfl
    obtain ⟨p1, p2, p3, p4, p5, p6, p7⟩ := LI_leaf li n240 rfl el
    have p0 := li.2.2.2.1 rfl
    have hle : 6 * nn X.2.2.2.2 ≤ X.2.2.2.1.2.1.flatten.length := by
      rcases p0.2.2.2.1 with e | e
      · omega
      · omega
    unfold ld1 ld2
    rw [eE, en', eS, ek]
    refine ⟨by omega, p2, Nat.zero_le _, p4, hle, n240, by omega, fun z => (by cases z), fun y => p5 y _ _, fun y y2 => p6 (by omega) y2 _ _, fun y y2 => p7 (by omega) y2 srt okr⟩
  · have z : L.1 = false := by simpa using z
    obtain ⟨l1, a, b⟩ := L
    have z : l1 = false := z
    subst z
    have el : ldl X (false, a, b) = rgI (a + 6 * (nn X.2.2.2.2 - b)) (min 6 (b - (a + 6 * (nn X.2.2.2.2 - b)))) := rfl
    have eE : ldE X (false, a, b) = b := rfl
    have en' : ldn X (false, a, b) = a + 6 * (nn X.2.2.2.2 - b) := rfl
    have eS : ldS X (false, a, b) = adS (nn X.2.2.2.2) 1 (ldl X (false, a, b)) X.2.2.2.2.1 := rfl
    have ek : ldk X (false, a, b) = va_up X.2.2.2.2.2.1 (nn X.2.2.2.2) (X.2.2.2.2.2.1 a + 1) := rfl
    obtain ⟨p1, p2, p3, p4, p5, p6, p7, p8⟩ := LI_over li rfl el
    unfold ld1 ld2
    rw [eE, en', eS, ek]
    refine ⟨p1, p2, p3, by rw [el, rgI_len], by omega, by omega, by omega, fun _ => ⟨by show a ≤ b; omega, p5⟩, fun y => p6 y _ _, fun y y2 => p7 (by omega) y2 _ _, fun y y2 => p8 (by omega) y2 srt okr⟩
theorem PI.load (H : PI X L) (q : X.2.2.1.1 = 3) : PI (ldY X L) (ldL X L) := by
  obtain ⟨o1, o2, -, -, -, -, -, -, o9, o10, o11⟩ := ld_ok H q
  obtain ⟨li, n240, srt, okr, sr, -⟩ := ld_in H q
  obtain ⟨a1, a2, a3, a4, a5, a6, a7, a8, a9, a10, a11, a12, a13, a14⟩ := H
  obtain ⟨⟨b1, b2, b3, b4, b5⟩, c1, c2, c3, c4, c5, c6, c7⟩ := a10 (by omega)
  rw [q] at b3 b4
  have wz : ∀ n, 64 ≤ n → nu (ldS X L) n = 0 := by
    intro n hn
    show upd (nu X.2.2.2.2.1) (nn X.2.2.2.2) 1 n = 0
    rw [upd_ne _ _ (by omega)]
    exact a8 n hn
  have one : ∀ L', LI X.2.2.2.1.2.1.flatten L' (ld1 X L).2.2.2.2 → PI (ld1 X L) L' := by
    intro L' l'
    have s3 : (ld1 X L).2.2.1.1 = 3 := q
    have sr1 : src (ld1 X L).2.2.1.1 X.2.2.2.1 (ld1 X L).2.2.2.2 = src 3 X.2.2.2.1 X.2.2.2.2 := by
      rw [s3]
      funext x
      unfold src
      apply propext
      constructor
      · rintro (⟨z, -⟩ | z)
        · omega
        · exact Or.inr z
      · rintro (⟨z, -⟩ | z)
        · omega
        · exact Or.inr z
    refine ⟨a1, a2, a3, a4, a5, a6, a7, wz, fun z => ?_, fun _ => ⟨⟨b1, b2, ?_, ?_, b5⟩, c1, c2, c3, c4, c5, c6, c7⟩, fun _ => l', fun z => ?_, fun z => ?_, fun z => ?_⟩
    · have z : ¬ (3 ≤ X.2.2.1.1 ∧ X.2.2.1.1 ≤ 5) := z
      omega
    · show vld (src (ld1 X L).2.2.1.1 X.2.2.2.1 (ld1 X L).2.2.2.2) _
      rw [sr1]
      exact b3
    · show ∀ x, rep (src (ld1 X L).2.2.1.1 X.2.2.2.1 (ld1 X L).2.2.2.2) _ x ↔ _
      rw [sr1]
      exact b4
    · have z : 1 ≤ X.2.2.1.1 ∧ X.2.2.1.1 ≤ 2 := z
      omega
    · have z : X.2.2.1.1 = 4 ∨ X.2.2.1.1 = 5 := z
      omega
    · have z : X.2.2.1.1 = 5 := z
      omega
  unfold ldY ldL
  by_cases y1 : ldn X L + 6 < ldE X L
  · rw [if_pos y1, if_pos y1]
    exact one _ (o9 y1)
  · rw [if_neg y1, if_neg y1]
    by_cases y2 : nn X.2.2.2.2 = L.2.2
    · rw [if_pos y2, if_pos y2]
      obtain ⟨w1, w2⟩ := o11 y1 y2
      have sr2 : src 4 X.2.2.2.1 (ld2 X L).2.2.2.2 = src 3 X.2.2.2.1 X.2.2.2.2 := by
        funext x
        apply propext
        rw [sr x]
        unfold src
        rw [w2]
        exact ⟨fun z => z.elim (fun y => y.2) (fun y => absurd rfl y.1), fun z => Or.inl ⟨rfl, z⟩⟩
      refine ⟨a1, a2, by show 4 < 7; decide, a4, fun z => absurd z (by show ¬ (4 : Nat) = 0; decide), fun _ => a6 (by omega), fun z => absurd (show 1 ≤ (4 : Nat) ∧ (4 : Nat) ≤ 4 by decide) z, wz, fun z => absurd (show 3 ≤ (4 : Nat) ∧ (4 : Nat) ≤ 5 by decide) z, fun _ => ⟨⟨b1, b2, ?_, ?_, b5⟩, c1, c2, c3, c4, fun z => absurd z (by show ¬ (4 : Nat) = 1; decide), fun _ => c6 (by omega), fun _ => c7 (by omega)⟩, fun z => absurd z (by show ¬ (4 : Nat) = 3; decide), fun z => absurd z.2 (by show ¬ (4 : Nat) ≤ 2; decide), fun _ => w1, fun z => absurd z (by show ¬ (4 : Nat) = 5; decide)⟩
      · show vld (src 4 X.2.2.2.1 (ld2 X L).2.2.2.2) _
        rw [sr2]
        exact b3
      · show ∀ x, rep (src 4 X.2.2.2.1 (ld2 X L).2.2.2.2) _ x ↔ _
        rw [sr2]
        exact b4
    · rw [if_neg y2, if_neg y2]
      exact one _ (o10 y1 y2)
/-- what is known while the log is caught up -/
theorem ct_in (H : PI X L) (q : X.2.2.1.1 = 4) : wfW X.2.2.2.2 ∧ (∀ e b t, X.2.2.2.1.2.2.2 = (e, b) :: t → okR e ∧ (b = true → e ∉ wE X.2.2.2.2) ∧ (b = false → e ∈ wE X.2.2.2.2)) ∧ (X.2.2.2.1.2.2.2 = [] → ∀ x, x ∈ wE X.2.2.2.2 ↔ rowE X.2.1.1 X.2.1.2.1 x) := by
  obtain ⟨a1, a2, a3, a4, a5, a6, a7, a8, a9, a10, a11, a12, a13, a14⟩ := H
  obtain ⟨⟨b1, b2, b3, b4, b5⟩, c1, c2, c3, c4, c5, c6, c7⟩ := a10 (by omega)
  have sr : ∀ x, src X.2.2.1.1 X.2.2.2.1 X.2.2.2.2 x ↔ x ∈ wE X.2.2.2.2 := by
    intro x
    unfold src
    rw [q]
    exact ⟨fun z => z.elim (fun y => y.2) (fun y => absurd rfl y.1), fun z => Or.inl ⟨rfl, z⟩⟩
  refine ⟨a13 (Or.inl q), fun e b t hl => ?_, fun hl x => ?_⟩
  · rw [hl] at b3
    obtain ⟨v1, v2, v3, -⟩ := b3
    rw [sr] at v2 v3
    exact ⟨v1, v2, v3⟩
  · rw [hl] at b4
    have := b4 x
    have e : rep (src X.2.2.1.1 X.2.2.2.1 X.2.2.2.2) [] x ↔ src X.2.2.1.1 X.2.2.2.1 X.2.2.2.2 x := Iff.rfl
    rw [e, sr] at this
    rw [this]
    refine ⟨fun z => z.1, fun z => ⟨z, ?_⟩⟩
    obtain ⟨p, p1, p2, -⟩ := z
    rw [(c6 (by omega)).1]
    omega
theorem PI.hd {e : Int} {b : Bool} {t : List (Int × Bool)} {W' : WT} (H : PI X L) (q : X.2.2.1.1 = 4) (hl : X.2.2.2.1.2.2.2 = (e, b) :: t) (w : wfW W') (hm : ∀ x, x ∈ wE W' ↔ ap (fun x => x ∈ wE X.2.2.2.2) (e, b) x) : PI (hdX t W' X) L := by
  obtain ⟨a1, a2, a3, a4, a5, a6, a7, a8, a9, a10, a11, a12, a13, a14⟩ := H
  obtain ⟨⟨b1, b2, b3, b4, b5⟩, c1, c2, c3, c4, c5, c6, c7⟩ := a10 (by omega)
  have sr : src X.2.2.1.1 X.2.2.2.1 X.2.2.2.2 = fun x => x ∈ wE X.2.2.2.2 := by
    funext x
    apply propext
    unfold src
    rw [q]
    exact ⟨fun z => z.elim (fun y => y.2) (fun y => absurd rfl y.1), fun z => Or.inl ⟨rfl, z⟩⟩
  have sr' : src X.2.2.1.1 (hdX t W' X).2.2.2.1 W' = ap (fun x => x ∈ wE X.2.2.2.2) (e, b) := by
    funext x
    apply propext
    rw [← hm x]
    unfold src
    rw [q]
    exact ⟨fun z => z.elim (fun y => y.2) (fun y => absurd rfl y.1), fun z => Or.inl ⟨rfl, z⟩⟩
  rw [sr, hl] at b3 b4
  rw [hl] at b2 b5
  refine ⟨a1, a2, a3, a4, a5, a6, fun z => ?_, w.z, fun z => ?_, fun _ => ⟨⟨b1, by rw [List.length_cons] at b2; show t.length ≤ 40; omega, ?_, ?_, fun a ha => b5 a (List.mem_cons_of_mem _ ha)⟩, c1, c2, c3, c4, c5, c6, c7⟩, fun z => ?_, fun z => ?_, fun _ => w, fun z => ?_⟩
  · have z : ¬ (1 ≤ X.2.2.1.1 ∧ X.2.2.1.1 ≤ 4) := z
    omega
  · have z : ¬ (3 ≤ X.2.2.1.1 ∧ X.2.2.1.1 ≤ 5) := z
    omega
  · show vld (src X.2.2.1.1 (hdX t W' X).2.2.2.1 W') t
    rw [sr']
    exact b3.2.2.2
  · show ∀ x, rep (src X.2.2.1.1 (hdX t W' X).2.2.2.1 W') t x ↔ _
    rw [sr']
    exact b4
  · have z : X.2.2.1.1 = 3 := z
    omega
  · have z : 1 ≤ X.2.2.1.1 ∧ X.2.2.1.1 ≤ 2 := z
    omega
  · have z : X.2.2.1.1 = 5 := z
    omega
theorem PI.pub (H : PI X L) (q : X.2.2.1.1 = 4) (hl : X.2.2.2.1.2.2.2 = []) : PI (pbX X) L := by
  obtain ⟨w, -, m⟩ := ct_in H q
  obtain ⟨a1, a2, a3, a4, a5, a6, a7, a8, a9, a10, a11, a12, a13, a14⟩ := H
  exact ⟨a1, a2, by show 5 < 7; decide, a4, fun z => absurd z (by show ¬ (5 : Nat) = 0; decide), fun _ => a6 (by omega), fun _ => rfl, a8, fun z => absurd (show 3 ≤ (5 : Nat) ∧ (5 : Nat) ≤ 5 by decide) z, fun z => absurd z.2 (by show ¬ (5 : Nat) ≤ 4; decide), fun z => absurd z (by show ¬ (5 : Nat) = 3; decide), fun z => absurd z.2 (by show ¬ (5 : Nat) ≤ 2; decide), fun _ => w, fun _ => m hl⟩
theorem PI.twn {p r : Nat} {w : Int32} (H : PI X L) : PI (stX w (twX p r X)) L := by
  obtain ⟨h1, h2, -, h4, -, -, -, -⟩ := H
  refine ⟨h1, h2, by show 6 < 7; decide, h4, fun q => absurd q (by show ¬ (6 : Nat) = 0; decide), fun q => absurd rfl q, fun _ => rfl, fun _ _ => rfl, fun _ _ => rfl, fun q => absurd q.2 (by show ¬ 6 ≤ 4; decide), fun q => absurd q (by show ¬ (6 : Nat) = 3; decide), fun q => absurd q.2 (by show ¬ 6 ≤ 2; decide), fun q => absurd q (by show ¬ ((6 : Nat) = 4 ∨ (6 : Nat) = 5); decide), fun q => absurd q (by show ¬ (6 : Nat) = 5; decide)⟩
theorem ck_lg {nb : Nat} (h : (ckX nb X).1 = true) : (ckX nb X).2.2.2.2.1 = X.2.2.2.1 := by
  unfold ckX at h ⊢
  split
  · next q =>
    show (ptX (ckN nb X) X).2.2.2.2.1 = _
    rw [(pt_true q).2]
  · next q =>
    rw [if_neg q] at h
    exact absurd h q
theorem PI.sp (H : PI X L) (S : SP X L ok X' L') : PI X' L' := by
  rcases S with ⟨q, -, e2, e3⟩ | ⟨q, -, e2, e3⟩ | ⟨q, -, e2, e3⟩ | ⟨q, c, e3⟩
  · rw [e2, e3]
    unfold scX
    split
    · exact (H.scan q).pt _
    · exact H.scan q
  · rw [e2, e3]
    unfold mgX
    split
    · next r1 r2 t hc => exact (H.merge q hc).pt _
    · next hc =>
      refine H.begin q ?_
      cases e : X.2.2.2.1.2.1 with
      | nil => exact Nat.zero_le _
      | cons r1 t =>
        cases t with
        | nil => exact Nat.le_refl _
        | cons r2 t => exact absurd e (hc r1 r2 t)
  · rw [e2, e3]
    exact (H.load q).pt _
  · rw [e3]
    obtain ⟨w, hd, m⟩ := ct_in H q
    rcases c with ⟨e, b, t, hl, -, c⟩ | ⟨hl, -, p, r, -, -, c⟩ | ⟨hl, -, -, c⟩
    · rcases c with ⟨hb, W', hW, c⟩ | ⟨hb, -, W', hW, c⟩ | ⟨hb, -, c⟩
      · rw [c]
        refine H.hd q hl hW.2.2.2.1 (fun x => ?_)
        rw [hW.2.2.2.2 x]
        unfold ap
        rw [hb]
        exact ⟨fun z => Or.inr ⟨rfl, z.1, z.2⟩, fun z => z.elim (fun y => absurd y.1 (by show ¬ false = true; decide)) (fun y => y.2)⟩
      · rw [c]
        refine H.hd q hl hW.2.2.2.1 (fun x => ?_)
        rw [hW.2.2.2.2 x]
        unfold ap
        rw [hb]
        exact ⟨fun z => Or.inl ⟨rfl, z⟩, fun z => z.elim (fun y => y.2) (fun y => absurd y.1 (by show ¬ true = false; decide))⟩
      · rw [c]
        exact PR.stp H
    · rw [c]
      exact H.twn
    · rw [c]
      split
      · next k =>
        refine (H.ck _).pub ?_ ?_
        · rw [(ck_ok k).2]
          exact q
        · rw [ck_lg k]
          exact hl
      · exact H.ck _
end ST2
