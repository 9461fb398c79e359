/-! the steps of a build, in one set of words -/
def pgE (tp tk : Nat → Int32) (a : Nat) : Nat → List Int
  | 0 => []
  | n + 1 => pgE tp tk a n ++ (if tp (a + n) = 0 then [] else [(tk (a + n)).toInt * 256 + ((a + n : Nat) : Int)])
def scO (X : XT) : List Int := X.2.2.2.1.2.2.1 ++ pgE X.2.1.1 X.2.1.2.1 (12 * X.2.2.2.1.1) 12
abbrev scC (X : XT) : Prop := 24 ≤ (scO X).length ∨ (X.2.2.2.1.1 + 1 = 20 ∧ 0 < (scO X).length)
def scY (X : XT) : XT := (X.1, X.2.1, (if X.2.2.2.1.1 + 1 = 20 then 2 else 1, X.2.2.1.2), (X.2.2.2.1.1 + 1, if scC X then X.2.2.2.1.2.1 ++ [isort (scO X)] else X.2.2.2.1.2.1, if scC X then [] else scO X, X.2.2.2.1.2.2.2), X.2.2.2.2)
def scX (X : XT) : Bool × XT := if scC X then ptX (((scO X).length + 7) / 8) (scY X) else (true, scY X)
def mgY (r1 r2 : List Int) (t : List (List Int)) (X : XT) : XT := (X.1, X.2.1, X.2.2.1, (X.2.2.2.1.1, t ++ [isort (r1 ++ r2)], X.2.2.2.1.2.2.1, X.2.2.2.1.2.2.2), X.2.2.2.2)
def lbX (X : XT) : XT := (X.1, X.2.1, (3, X.2.2.1.2), X.2.2.2.1, X.2.2.2.2)
def mgX (X : XT) : Bool × XT := match X.2.2.2.1.2.1 with
  | r1 :: r2 :: t => ptX ((r1.length + r2.length + 7) / 8) (mgY r1 r2 t X)
  | _ => (true, lbX X)
def ldl (X : XT) (L : LT) : List Int := if L.1 = true then (X.2.2.2.1.2.1.flatten.drop (6 * nn X.2.2.2.2)).take 6 else rgI (L.2.1 + 6 * (nn X.2.2.2.2 - L.2.2)) (min 6 (L.2.2 - (L.2.1 + 6 * (nn X.2.2.2.2 - L.2.2))))
def ldE (X : XT) (L : LT) : Nat := if L.1 = true then X.2.2.2.1.2.1.flatten.length else L.2.2
def ldn (X : XT) (L : LT) : Nat := L.2.1 + 6 * (nn X.2.2.2.2 - L.2.2)
def ldS (X : XT) (L : LT) : SR := adS (nn X.2.2.2.2) (bI (!L.1)) (ldl X L) X.2.2.2.2.1
def ldk (X : XT) (L : LT) : Nat → Nat := va_up X.2.2.2.2.2.1 (nn X.2.2.2.2) (if L.1 = true then 0 else X.2.2.2.2.2.1 L.2.1 + 1)
/-- the row is not at its end -/
def ld1 (X : XT) (L : LT) : XT := (X.1, X.2.1, X.2.2.1, X.2.2.2.1, (ldS X L, ldk X L, X.2.2.2.2.2.2))
/-- the root is made -/
def ld2 (X : XT) (L : LT) : XT := (X.1, X.2.1, (4, X.2.2.1.2), X.2.2.2.1, (ldS X L, ldk X L, nn X.2.2.2.2, X.2.2.2.1.2.1.flatten.length))
def ldY (X : XT) (L : LT) : XT := if ldn X L + 6 < ldE X L then ld1 X L else if nn X.2.2.2.2 = L.2.2 then ld2 X L else ld1 X L
def ldL (X : XT) (L : LT) : LT := if ldn X L + 6 < ldE X L then L else if nn X.2.2.2.2 = L.2.2 then L else (false, L.2.2, nn X.2.2.2.2 + 1)
def twX (p q : Nat) (X : XT) : XT := (X.1, X.2.1, (X.2.2.1.1, X.2.2.1.2.1, X.2.2.1.2.2.1, nI p, nI q), X.2.2.2)
def pbX (X : XT) : XT := (X.1, X.2.1, (5, X.2.2.1.2), (0, [], [], []), X.2.2.2.2)
def hdX (t : List (Int × Bool)) (W : WT) (X : XT) : XT := (X.1, X.2.1, X.2.2.1, (X.2.2.2.1.1, X.2.2.2.1.2.1, X.2.2.2.1.2.2.1, t), W)
def CR (X : XT) (ok : Bool) (X' : XT) : Prop :=
  (∃ e b t, X.2.2.2.1.2.2.2 = (e, b) :: t ∧ ok = true ∧ ((b = false ∧ ∃ W', TG X.2.2.2.2 e W' ∧ X' = hdX t W' X) ∨ (b = true ∧ cmQ X.2.2.2.2 e ≤ 64 ∧ ∃ W', TC X.2.2.2.2 e W' ∧ X' = hdX t W' X) ∨ (b = true ∧ 64 < cmQ X.2.2.2.2 e ∧ X' = stX 2 X)))
  ∨ (X.2.2.2.1.2.2.2 = [] ∧ ¬ X.2.2.1.2.1 = 0 ∧ ∃ p q, Bst X.2.1.1 X.2.1.2.1 (fun _ _ => True) (some (p, q)) ∧ ok = true ∧ X' = stX 3 (twX p q X))
  ∨ (X.2.2.2.1.2.2.2 = [] ∧ (X.2.2.1.2.1 = 0 ∨ Bst X.2.1.1 X.2.1.2.1 (fun _ _ => True) none) ∧ ok = (ckX (nn X.2.2.2.2) X).1 ∧ X' = if (ckX (nn X.2.2.2.2) X).1 = true then pbX (ckX (nn X.2.2.2.2) X).2 else (ckX (nn X.2.2.2.2) X).2)
def SP (X : XT) (L : LT) (ok : Bool) (X' : XT) (L' : LT) : Prop :=
  (X.2.2.1.1 = 1 ∧ ok = (scX X).1 ∧ X' = (scX X).2 ∧ L' = L) ∨ (X.2.2.1.1 = 2 ∧ ok = (mgX X).1 ∧ X' = (mgX X).2 ∧ L' = L) ∨ (X.2.2.1.1 = 3 ∧ ok = (ptX 1 (ldY X L)).1 ∧ X' = (ptX 1 (ldY X L)).2 ∧ L' = ldL X L) ∨ (X.2.2.1.1 = 4 ∧ CR X ok X' ∧ L' = L)
theorem pgE_len (tp tk : Nat → Int32) (a : Nat) : ∀ n, (pgE tp tk a n).length ≤ n
  | 0 => Nat.le_refl _
  | n + 1 => by
    unfold pgE
    have := pgE_len tp tk a n
    rw [List.length_append]
    split
    · simp
      omega
    · simp
      omega
theorem pgE_mem (tp tk : Nat → Int32) (a : Nat) (x : Int) : ∀ n, a + n ≤ 240 → (x ∈ pgE tp tk a n ↔ ∃ p : Nat, a ≤ p ∧ p < a + n ∧ x % 256 = p ∧ ¬ tp p = 0 ∧ (tk p).toInt = x / 256)
  | 0, _ => ⟨fun h => absurd h List.not_mem_nil, fun ⟨p, h1, h2, _⟩ => by omega⟩
  | n + 1, hn => by
    unfold pgE
    rw [List.mem_append, pgE_mem tp tk a x n (by omega)]
    constructor
    · rintro (⟨p, h0, h1, h2, h3, h4⟩ | h)
      · exact ⟨p, h0, by omega, h2, h3, h4⟩
      · split at h
        · exact absurd h List.not_mem_nil
        · next q =>
          rw [List.mem_singleton] at h
          exact ⟨a + n, by omega, by omega, by omega, q, by omega⟩
    · rintro ⟨p, h0, h1, h2, h3, h4⟩
      by_cases e : p = a + n
      · subst e
        rw [if_neg h3]
        exact Or.inr (by rw [List.mem_singleton]; omega)
      · exact Or.inl ⟨p, h0, by omega, h2, h3, h4⟩
theorem pgE_nd (tp tk : Nat → Int32) (a : Nat) : ∀ n, a + n ≤ 240 → (pgE tp tk a n).Nodup
  | 0, _ => List.nodup_nil
  | n + 1, hn => by
    unfold pgE
    rw [List.nodup_append]
    refine ⟨pgE_nd tp tk a n (by omega), by split <;> simp, fun x hx y hy e => ?_⟩
    subst e
    obtain ⟨p, h0, h1, h2, -⟩ := (pgE_mem tp tk a x n (by omega)).mp hx
    split at hy
    · exact absurd hy List.not_mem_nil
    · rw [List.mem_singleton] at hy
      omega
/-- what a log does, beside entries that it does not name -/
theorem rep_or {N : Int → Prop} : ∀ (l : List (Int × Bool)) (C C' : Int → Prop), (∀ x, C' x ↔ C x ∨ N x) → (∀ a ∈ l, ¬ N a.1) → vld C l → vld C' l ∧ ∀ x, rep C' l x ↔ rep C l x ∨ N x
  | [], C, C', h, _, _ => ⟨trivial, h⟩
  | a :: t, C, C', h, hn, v => by
    obtain ⟨v1, v2, v3, v4⟩ := v
    have na := hn a List.mem_cons_self
    have st : ∀ x, ap C' a x ↔ ap C a x ∨ N x := by
      intro x
      unfold ap
      rw [h x]
      have nx : N x → x ≠ a.1 := fun z e => na (e ▸ z)
      cases a.2
      · constructor
        · rintro (⟨z, -⟩ | ⟨z1, z2, z3 | z3⟩)
          · cases z
          · exact Or.inl (Or.inr ⟨z1, z2, z3⟩)
          · exact Or.inr z3
        · rintro ((⟨z, -⟩ | ⟨z1, z2, z3⟩) | z)
          · cases z
          · exact Or.inr ⟨z1, z2, Or.inl z3⟩
          · exact Or.inr ⟨rfl, nx z, Or.inr z⟩
      · constructor
        · rintro (⟨z, z2 | z2 | z2⟩ | ⟨z, -⟩)
          · exact Or.inl (Or.inl ⟨rfl, Or.inl z2⟩)
          · exact Or.inl (Or.inl ⟨rfl, Or.inr z2⟩)
          · exact Or.inr z2
          · cases z
        · rintro ((⟨z, z2 | z2⟩ | ⟨z, -⟩) | z)
          · exact Or.inl ⟨rfl, Or.inl z2⟩
          · exact Or.inl ⟨rfl, Or.inr (Or.inl z2)⟩
          · cases z
          · exact Or.inl ⟨rfl, Or.inr (Or.inr z)⟩
    obtain ⟨i1, i2⟩ := rep_or t (ap C a) (ap C' a) st (fun y hy => hn y (List.mem_cons_of_mem _ hy)) v4
    refine ⟨⟨v1, fun z y => ?_, fun z => (h a.1).mpr (Or.inl (v3 z)), i1⟩, i2⟩
    rcases (h a.1).mp y with y | y
    · exact v2 z y
    · exact na y
theorem fl_24 {l : List (List Int)} (h : ∀ r ∈ l, 24 ≤ r.length) : 24 * l.length ≤ l.flatten.length := fl_ge l h
theorem fl_app (l : List (List Int)) (r : List Int) : (l ++ [r]).flatten = l.flatten ++ r := by
  rw [List.flatten_append, List.flatten_singleton]
section STP
variable {X X' : XT} {L L' : LT} {ok : Bool}
theorem ptX_ok {n : Nat} {Y : XT} (H : PI Y L) : PI (ptX n Y).2 L := H.pt n
theorem PI.scan (H : PI X L) (q : X.2.2.1.1 = 1) : PI (scY X) L := by
  obtain ⟨a1, a2, a3, a4, a5, a6, a7, a8, a9, a10, a11, a12, a13, a14⟩ := H
  obtain ⟨⟨b1, b2, b3, b4, b5⟩, c1, c2, c3, c4, c5, c6, c7⟩ := a10 (by omega)
  obtain ⟨c5a, c5b, c5c⟩ := c5 q
  have pl := pgE_len X.2.1.1 X.2.1.2.1 (12 * X.2.2.2.1.1) 12
  have pm := fun x => pgE_mem X.2.1.1 X.2.1.2.1 (12 * X.2.2.2.1.1) x 12 (by omega)
  have pn := pgE_nd X.2.1.1 X.2.1.2.1 (12 * X.2.2.2.1.1) 12 (by omega)
  have fl : (scY X).2.2.2.1.2.1.flatten ++ (scY X).2.2.2.1.2.2.1 = if scC X then X.2.2.2.1.2.1.flatten ++ isort (scO X) else X.2.2.2.1.2.1.flatten ++ scO X := by
    unfold scY
    dsimp only
    split
    · rw [fl_app, List.append_nil]
    · rfl
  have mem : ∀ x, x ∈ (scY X).2.2.2.1.2.1.flatten ++ (scY X).2.2.2.1.2.2.1 ↔ x ∈ X.2.2.2.1.2.1.flatten ++ X.2.2.2.1.2.2.1 ∨ x ∈ pgE X.2.1.1 X.2.1.2.1 (12 * X.2.2.2.1.1) 12 := by
    intro x
    rw [fl]
    have : x ∈ (if scC X then X.2.2.2.1.2.1.flatten ++ isort (scO X) else X.2.2.2.1.2.1.flatten ++ scO X) ↔ x ∈ X.2.2.2.1.2.1.flatten ++ scO X := by
      split
      · rw [List.mem_append, isort_mem, List.mem_append]
      · rfl
    rw [this]
    unfold scO
    rw [← List.append_assoc, List.mem_append]
  have len : ((scY X).2.2.2.1.2.1.flatten ++ (scY X).2.2.2.1.2.2.1).length = (X.2.2.2.1.2.1.flatten ++ X.2.2.2.1.2.2.1).length + (pgE X.2.1.1 X.2.1.2.1 (12 * X.2.2.2.1.1) 12).length := by
    rw [fl]
    have : (if scC X then X.2.2.2.1.2.1.flatten ++ isort (scO X) else X.2.2.2.1.2.1.flatten ++ scO X).length = X.2.2.2.1.2.1.flatten.length + (scO X).length := by
      split
      · rw [List.length_append, isort_len]
      · rw [List.length_append]
    rw [this]
    unfold scO
    rw [List.length_append, List.length_append]
    omega
  have ndO : (X.2.2.2.1.2.1.flatten ++ scO X).Nodup := by
    unfold scO
    rw [← List.append_assoc, List.nodup_append]
    refine ⟨c3, pn, fun x hx y hy e => ?_⟩
    subst e
    obtain ⟨p, p1, p2, p3, -⟩ := (pm x).mp hy
    have := (c4 x hx).2
    omega
  have ndS : (scO X).Nodup := (List.nodup_append.mp ndO).2.1
  have s12 : (scY X).2.2.1.1 = 1 ∨ (scY X).2.2.1.1 = 2 := by
    show (if X.2.2.2.1.1 + 1 = 20 then 2 else 1) = 1 ∨ (if X.2.2.2.1.1 + 1 = 20 then 2 else 1) = 2
    split
    · exact Or.inr rfl
    · exact Or.inl rfl
  have sN : ∀ x, src (scY X).2.2.1.1 (scY X).2.2.2.1 X.2.2.2.2 x ↔ src X.2.2.1.1 X.2.2.2.1 X.2.2.2.2 x ∨ x ∈ pgE X.2.1.1 X.2.1.2.1 (12 * X.2.2.2.1.1) 12 := by
    intro x
    unfold src
    rw [mem x]
    constructor
    · rintro (⟨z, -⟩ | ⟨-, z | z⟩)
      · omega
      · exact Or.inl (Or.inr ⟨by omega, z⟩)
      · exact Or.inr z
    · rintro ((⟨z, -⟩ | ⟨-, z⟩) | z)
      · omega
      · exact Or.inr ⟨by omega, Or.inl z⟩
      · exact Or.inr ⟨by omega, Or.inr z⟩
  obtain ⟨r1, r2⟩ := rep_or X.2.2.2.1.2.2.2 _ _ sN (fun a ha z => by
    obtain ⟨p, p1, p2, p3, -⟩ := (pm a.1).mp z
    have := b5 a ha
    omega) b3
  have st2 : (scY X).2.2.1.1 = if X.2.2.2.1.1 + 1 = 20 then 2 else 1 := rfl
  refine ⟨a1, a2, by show (scY X).2.2.1.1 < 7; omega, a4, fun z => ?_, fun _ => a6 (by omega), fun z => ?_, a8, fun _ => a9 (by omega), fun _ => ⟨⟨?_, b2, r1, fun x => ?_, fun a ha => ?_⟩, ?_, ?_, ?_, ?_, ?_, ?_, ?_⟩, fun z => ?_, fun _ => a12 (by omega), fun z => ?_, fun z => ?_⟩
  · have z : (scY X).2.2.1.1 = 0 := z
    omega
  · have z : ¬ (1 ≤ (scY X).2.2.1.1 ∧ (scY X).2.2.1.1 ≤ 4) := z
    omega
  · show X.2.2.2.1.1 + 1 ≤ 20
    omega
  · show rep (src (scY X).2.2.1.1 (scY X).2.2.2.1 X.2.2.2.2) X.2.2.2.1.2.2.2 x ↔ rowE X.2.1.1 X.2.1.2.1 x ∧ (x % 256).toNat / 12 < X.2.2.2.1.1 + 1
    rw [r2 x, b4 x, pm x]
    constructor
    · rintro (⟨z1, z2⟩ | ⟨p, p1, p2, p3, p4, p5⟩)
      · exact ⟨z1, by omega⟩
      · exact ⟨⟨p, by omega, p3, p4, p5⟩, by omega⟩
    · rintro ⟨⟨p, p1, p3, p4, p5⟩, z⟩
      by_cases y : (x % 256).toNat / 12 < X.2.2.2.1.1
      · exact Or.inl ⟨⟨p, p1, p3, p4, p5⟩, y⟩
      · exact Or.inr ⟨p, by omega, by omega, p3, p4, p5⟩
  · show (a.1 % 256).toNat / 12 < X.2.2.2.1.1 + 1
    have := b5 a ha
    omega
  · rw [len]
    show _ ≤ 12 * (X.2.2.2.1.1 + 1)
    omega
  · show ∀ r ∈ (if scC X then X.2.2.2.1.2.1 ++ [isort (scO X)] else X.2.2.2.1.2.1), r.Pairwise (· < ·)
    split
    · intro r hr
      rcases List.mem_append.mp hr with z | z
      · exact c2 r z
      · rw [List.mem_singleton.mp z]
        exact isort_pw ndS
    · exact c2
  · rw [fl]
    split
    · rw [List.nodup_append] at ndO ⊢
      refine ⟨ndO.1, pw_nd (isort_pw ndS), fun x hx y hy e => ndO.2.2 x hx y ((isort_mem _).mp hy) e⟩
    · exact ndO
  · intro x hx
    rcases (mem x).mp hx with z | z
    · refine ⟨(c4 x z).1, ?_⟩
      show (x % 256).toNat / 12 < X.2.2.2.1.1 + 1
      have := (c4 x z).2
      omega
    · obtain ⟨p, p1, p2, p3, p4, p5⟩ := (pm x).mp z
      refine ⟨⟨X.2.1.2.1 p, p, by omega, by omega⟩, ?_⟩
      show (x % 256).toNat / 12 < X.2.2.2.1.1 + 1
      omega
  · intro z
    have z : (scY X).2.2.1.1 = 1 := z
    have p20 : ¬ X.2.2.2.1.1 + 1 = 20 := fun y => by
      rw [st2, if_pos y] at z
      omega
    refine ⟨?_, ?_, ?_⟩
    · show X.2.2.2.1.1 + 1 < 20
      omega
    · show (if scC X then [] else scO X).length < 24
      split
      · decide
      · next y =>
        unfold scC at y
        omega
    · show ∀ r ∈ (if scC X then X.2.2.2.1.2.1 ++ [isort (scO X)] else X.2.2.2.1.2.1), 24 ≤ r.length
      split
      · next y =>
        intro r hr
        rcases List.mem_append.mp hr with z | z
        · exact c5c r z
        · rw [List.mem_singleton.mp z, isort_len]
          unfold scC at y
          omega
      · exact c5c
  · intro z
    have z : 2 ≤ (scY X).2.2.1.1 := z
    have p20 : X.2.2.2.1.1 + 1 = 20 := by
      by_cases y : X.2.2.2.1.1 + 1 = 20
      · exact y
      · rw [st2, if_neg y] at z
        omega
    have l24 := fl_24 c5c
    rw [List.length_append] at c1
    refine ⟨p20, ?_, ?_⟩
    · show (if scC X then [] else scO X) = []
      split
      · rfl
      · next y =>
        apply List.eq_nil_of_length_eq_zero
        unfold scC at y
        omega
    · show (if scC X then X.2.2.2.1.2.1 ++ [isort (scO X)] else X.2.2.2.1.2.1).length ≤ 10
      have sl : (scO X).length = X.2.2.2.1.2.2.1.length + (pgE X.2.1.1 X.2.1.2.1 (12 * X.2.2.2.1.1) 12).length := by
        unfold scO
        rw [List.length_append]
      split
      · next y =>
        rw [List.length_append, List.length_singleton]
        unfold scC at y
        omega
      · omega
  · intro z
    have z : 3 ≤ (scY X).2.2.1.1 := z
    omega
  · have z : (scY X).2.2.1.1 = 3 := z
    omega
  · have z : (scY X).2.2.1.1 = 4 ∨ (scY X).2.2.1.1 = 5 := z
    omega
  · have z : (scY X).2.2.1.1 = 5 := z
    omega
theorem PI.merge {r1 r2 : List Int} {t : List (List Int)} (H : PI X L) (q : X.2.2.1.1 = 2) (hc : X.2.2.2.1.2.1 = r1 :: r2 :: t) : PI (mgY r1 r2 t X) L := by
  obtain ⟨a1, a2, a3, a4, a5, a6, a7, a8, a9, a10, a11, a12, a13, a14⟩ := H
  obtain ⟨⟨b1, b2, b3, b4, b5⟩, c1, c2, c3, c4, c5, c6, c7⟩ := a10 (by omega)
  rw [hc] at c1 c2 c3 c4
  have f1 : (r1 :: r2 :: t).flatten = (r1 ++ r2) ++ t.flatten := by
    rw [List.flatten_cons, List.flatten_cons, List.append_assoc]
  rw [f1] at c1 c3 c4
  have c6 := c6 (by omega)
  rw [hc] at c6
  have op := c6.2.1
  rw [op, List.append_nil] at c1 c3 c4
  have fl : (mgY r1 r2 t X).2.2.2.1.2.1.flatten ++ (mgY r1 r2 t X).2.2.2.1.2.2.1 = t.flatten ++ isort (r1 ++ r2) := by
    show (t ++ [isort (r1 ++ r2)]).flatten ++ X.2.2.2.1.2.2.1 = _
    rw [fl_app, op, List.append_nil]
  have mem : ∀ x, x ∈ t.flatten ++ isort (r1 ++ r2) ↔ x ∈ (r1 ++ r2) ++ t.flatten := by
    intro x
    rw [List.mem_append, isort_mem, List.mem_append (s := r1 ++ r2), or_comm]
  have sr : src X.2.2.1.1 (mgY r1 r2 t X).2.2.2.1 X.2.2.2.2 = src X.2.2.1.1 X.2.2.2.1 X.2.2.2.2 := by
    funext x
    apply propext
    unfold src
    rw [fl, mem, hc, f1, op, List.append_nil]
  have nd := List.nodup_append.mp c3
  refine ⟨a1, a2, a3, a4, a5, a6, fun z => ?_, a8, a9, fun _ => ⟨⟨b1, b2, ?_, ?_, b5⟩, ?_, ?_, ?_, ?_, ?_, ?_, ?_⟩, fun z => ?_, a12, fun z => ?_, fun z => ?_⟩
  · have z : ¬ (1 ≤ X.2.2.1.1 ∧ X.2.2.1.1 ≤ 4) := z
    omega
  · show vld (src X.2.2.1.1 (mgY r1 r2 t X).2.2.2.1 X.2.2.2.2) _
    rw [sr]
    exact b3
  · show ∀ x, rep (src X.2.2.1.1 (mgY r1 r2 t X).2.2.2.1 X.2.2.2.2) _ x ↔ _
    rw [sr]
    exact b4
  · rw [fl]
    show _ ≤ 12 * X.2.2.2.1.1
    rw [List.length_append, isort_len]
    rw [List.length_append] at c1
    omega
  · show ∀ r ∈ t ++ [isort (r1 ++ r2)], r.Pairwise (· < ·)
    intro r hr
    rcases List.mem_append.mp hr with z | z
    · exact c2 r (List.mem_cons_of_mem _ (List.mem_cons_of_mem _ z))
    · rw [List.mem_singleton.mp z]
      exact isort_pw nd.1
  · rw [fl, List.nodup_append]
    exact ⟨nd.2.1, pw_nd (isort_pw nd.1), fun x hx y hy e => nd.2.2 y ((isort_mem _).mp hy) x hx e.symm⟩
  · rw [fl]
    intro x hx
    exact c4 x ((mem x).mp hx)
  · intro z
    have z : X.2.2.1.1 = 1 := z
    omega
  · intro _
    refine ⟨c6.1, op, ?_⟩
    show (t ++ [isort (r1 ++ r2)]).length ≤ 10
    have := c6.2.2
    rw [List.length_cons, List.length_cons] at this
    rw [List.length_append, List.length_singleton]
    omega
  · intro z
    have z : 3 ≤ X.2.2.1.1 := z
    omega
  · have z : X.2.2.1.1 = 3 := z
    omega
  · have z : X.2.2.1.1 = 4 ∨ X.2.2.1.1 = 5 := z
    omega
  · have z : X.2.2.1.1 = 5 := z
    omega
theorem PI.begin (H : PI X L) (q : X.2.2.1.1 = 2) (hc : X.2.2.2.1.2.1.length ≤ 1) : PI (lbX X) L := by
  obtain ⟨a1, a2, a3, a4, a5, a6, a7, a8, a9, a10, a11, a12, a13, a14⟩ := H
  obtain ⟨⟨b1, b2, b3, b4, b5⟩, c1, c2, c3, c4, c5, c6, c7⟩ := a10 (by omega)
  have sr : src 3 X.2.2.2.1 X.2.2.2.2 = src X.2.2.1.1 X.2.2.2.1 X.2.2.2.2 := by
    rw [q]
    funext x
    apply propext
    unfold src
    exact ⟨fun z => z.elim (fun y => absurd y.1 (by decide)) (fun y => Or.inr ⟨by decide, y.2⟩), fun z => z.elim (fun y => absurd y.1 (by decide)) (fun y => Or.inr ⟨by decide, y.2⟩)⟩
  have z0 := a9 (by omega)
  have nn0 : nn X.2.2.2.2 = 0 := by
    unfold nn
    rw [cn_cg 64 (fun i _ => z0 i), cn_0]
  have l0 := a12 (by omega)
  refine ⟨a1, a2, by show 3 < 7; decide, a4, fun z => absurd z (by show ¬ (3 : Nat) = 0; decide), fun _ => a6 (by omega), fun z => absurd (show 1 ≤ (3 : Nat) ∧ (3 : Nat) ≤ 4 by decide) z, a8, fun z => absurd (show 3 ≤ (3 : Nat) ∧ (3 : Nat) ≤ 5 by decide) z, fun _ => ⟨⟨b1, b2, ?_, ?_, b5⟩, c1, c2, c3, c4, fun z => absurd z (by show ¬ (3 : Nat) = 1; decide), fun _ => c6 (by omega), fun _ => hc⟩, fun _ => ?_, fun z => absurd z.2 (by show ¬ (3 : Nat) ≤ 2; decide), fun z => absurd z (by show ¬ ((3 : Nat) = 4 ∨ (3 : Nat) = 5); decide), fun z => absurd z (by show ¬ (3 : Nat) = 5; decide)⟩
  · show vld (src 3 X.2.2.2.1 X.2.2.2.2) _
    rw [sr]
    exact b3
  · show ∀ x, rep (src 3 X.2.2.2.1 X.2.2.2.2) _ x ↔ _
    rw [sr]
    exact b4
  · rw [l0]
    refine ⟨fun n => ?_, fun n hn => absurd (z0 n) hn, fun a b i j k z => absurd (z0 a) z.1, fun _ => ⟨rfl, rfl, ?_, Or.inl nn0, ?_⟩, fun z => by cases z⟩
    · show ¬ nu X.2.2.2.2.1 n = 0 ↔ n < nn X.2.2.2.2
      rw [nn0, z0 n]
      exact ⟨fun z => absurd rfl z, fun z => absurd z (Nat.not_lt_zero _)⟩
    · show ∀ n, n < nn X.2.2.2.2 → _
      rw [nn0]
      exact fun n hn => absurd hn (Nat.not_lt_zero _)
    · show enL X.2.2.2.2.1 (List.range (nn X.2.2.2.2)) = List.take (6 * nn X.2.2.2.2) _
      rw [nn0]
      rfl
end STP
