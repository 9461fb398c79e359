/-! the state of both, in one set of words -/
theorem sI_21 (h : Hp) (c : Nat) (f : Nat → Int32) : (sI h c f).2.1 = h.2.1 := rfl
theorem sJ_1 (h : Hp) (c : Nat) (f : Nat → Int64) : (sJ h c f).1 = h.1 := rfl
theorem sJ_22 (h : Hp) (c : Nat) (f : Nat → Int64) : (sJ h c f).2.2 = h.2.2 := rfl
theorem sJ_at (h : Hp) (c : Nat) (f : Nat → Int64) : (sJ h c f).2.1 c = f := va_up_self _ _ _
theorem sJ_ne (h : Hp) {c d : Nat} (f : Nat → Int64) (hd : d ≠ c) : (sJ h c f).2.1 d = h.2.1 d := va_up_ne _ _ hd
theorem sW_21 (h : Hp) (k : Nat) (f : Nat → Int64) : (sW h k f).2.1 = h.2.1 := rfl
/-- cells T changed, of cell c the fields F alone -/
def fz (c : Nat) (T F : List Nat) (h h' : Hp) : Prop := fr T h h' ∧ ∀ q, q ∉ F → h'.1 c q = h.1 c q
theorem fz.rf {c : Nat} {T F : List Nat} {h : Hp} : fz c T F h h := ⟨fr.rf, fun _ _ => rfl⟩
theorem fz.tr {c : Nat} {T F : List Nat} {h h' h'' : Hp} (a : fz c T F h h') (b : fz c T F h' h'') : fz c T F h h'' := ⟨a.1.tr b.1, fun q hq => (b.2 q hq).trans (a.2 q hq)⟩
theorem fz.mono {c : Nat} {T F T' F' : List Nat} {h h' : Hp} (a : fz c T F h h') (h1 : ∀ d ∈ T, d ∈ T') (h2 : ∀ d ∈ F, d ∈ F') : fz c T' F' h h' := ⟨a.1.mono h1, fun q hq => a.2 q (fun z => hq (h2 q z))⟩
theorem fz.of {c : Nat} {T F : List Nat} {h h' : Hp} (a : fr T h h') (hc : c ∉ T) : fz c T F h h' := ⟨a, fun q _ => by rw [a.i c hc]⟩
theorem fz.up {c : Nat} {T F : List Nat} {h h' : Hp} (a : fz c T F h h') {q : Nat} {v : Int32} (hc : c ∈ T) (hq : q ∈ F) : fz c T F h (sI h' c (upd (h'.1 c) q v)) := ⟨a.1.sI hc _, fun x hx => by rw [sI_at, upd_ne _ _ (show x ≠ q from fun e => hx (e ▸ hq))]; exact a.2 x hx⟩
theorem fz.sI {c d : Nat} {T F : List Nat} {h h' : Hp} (a : fz c T F h h') (hd : d ∈ T) (hc : c ≠ d) (f : Nat → Int32) : fz c T F h (sI h' d f) := ⟨a.1.sI hd _, fun x hx => by rw [sI_ne _ _ hc]; exact a.2 x hx⟩
theorem fz.sJ {c d : Nat} {T F : List Nat} {h h' : Hp} (a : fz c T F h h') (hd : d ∈ T) (f : Nat → Int64) : fz c T F h (sJ h' d f) := ⟨a.1.sJ hd _, fun x hx => by rw [sJ_1]; exact a.2 x hx⟩
abbrev DK : Type := Int32 × Int32 × Int32 × Int32 × Int32 × Nat
abbrev TB : Type := (Nat → Int32) × (Nat → Int32) × (Nat → Int32) × (Nat → Int32)
abbrev GT : Type := Nat × Int32 × Int32 × Int32 × Int32
abbrev BT : Type := Nat × List (List Int) × List Int × List (Int × Bool)
abbrev LT : Type := Bool × Nat × Nat
abbrev WT : Type := SR × (Nat → Nat) × Nat × Nat
abbrev NT : Type := List Nat × Nat
def ent (k p : Int32) (x : Int) : Prop := k.toInt * 256 + p.toInt = x ∧ 0 ≤ p.toInt ∧ p.toInt < 256
def insr (e : Int) : List Int → List Int
  | [] => [e]
  | x :: t => if e < x then e :: x :: t else x :: insr e t
def isr : List Int → List Int → List Int
  | acc, [] => acc
  | acc, e :: t => isr (insr e acc) t
def isort (l : List Int) : List Int := isr [] l
def C_dk (D : DK) (h : Hp) : Prop := h.1 6 0 = D.1 ∧ h.1 6 1 = D.2.1 ∧ h.1 6 2 = D.2.2.1 ∧ h.1 6 3 = D.2.2.2.1 ∧ h.1 6 4 = D.2.2.2.2.1 ∧ h.1 6 5 = nI D.2.2.2.2.2
def M_dk (D : DK) (h : Hp) : Prop := h.1 27 4 = D.1 ∧ (D.1 = 0 → h.1 27 5 = D.2.1) ∧ h.1 27 6 = D.2.2.1 ∧ h.1 27 7 = D.2.2.2.1 ∧ h.1 27 8 = D.2.2.2.2.1 ∧ h.1 27 9 = nI D.2.2.2.2.2
def C_sc (G : GT) (h : Hp) : Prop := h.1 0 2 = nI G.1 ∧ h.1 0 3 = G.2.1 ∧ h.1 0 5 = G.2.2.1 ∧ h.1 0 6 = G.2.2.2.1 ∧ h.1 0 7 = G.2.2.2.2
def M_sc (G : GT) (h : Hp) : Prop := h.1 27 11 = nI G.1 ∧ (¬ G.1 = 0 → h.1 27 12 = G.2.1) ∧ h.1 27 13 = G.2.2.1 ∧ h.1 27 14 = G.2.2.2.1 ∧ h.1 27 15 = G.2.2.2.2
def C_lg (lg : List (Int × Bool)) (h : Hp) : Prop := ∃ f, f < 40 ∧ h.1 13 2 = nI f ∧ h.1 13 3 = nI lg.length ∧ ∀ i, i < lg.length → (h.2.1 14 ((f + i) % 40)).toInt = (lg.getD i (0, false)).1 ∧ h.1 15 ((f + i) % 40) = bI (lg.getD i (0, false)).2
def M_lg (lg : List (Int × Bool)) (h : Hp) : Prop := h.1 27 22 = nI lg.length ∧ ∀ i, i < lg.length → h.1 35 i = bI (lg.getD i (0, false)).2 ∧ ent (h.1 36 i) (h.1 37 i) (lg.getD i (0, false)).1
def C_rn (cl : List (List Int)) (op : List Int) (h : Hp) : Prop := h.1 7 1 = nI op.length ∧ h.1 7 4 = nI cl.flatten.length ∧ h.1 7 6 = nI cl.length ∧ (∀ i, i < op.length → (h.2.1 8 i).toInt = (isort op).getD i 0) ∧ (∀ i, i < cl.flatten.length → (h.2.1 9 i).toInt = cl.flatten.getD i 0) ∧ ∀ i, i < cl.length → h.1 11 i = nI (cl.getD i []).length
def M_rn (cl : List (List Int)) (op : List Int) (h : Hp) : Prop := h.1 27 17 = nI (cl.flatten ++ op).length ∧ h.1 27 20 = nI cl.length ∧ (∀ i, i < (cl.flatten ++ op).length → ent (h.1 32 i) (h.1 33 i) ((cl.flatten ++ op).getD i 0)) ∧ ∀ r, r < cl.length → h.1 34 r = nI (cl.take (r + 1)).flatten.length
def C_bd (B : BT) (h : Hp) : Prop := h.1 0 4 = nI B.1 ∧ C_rn B.2.1 B.2.2.1 h ∧ C_lg B.2.2.2 h
def M_bd (B : BT) (h : Hp) : Prop := h.1 27 16 = nI B.1 ∧ M_rn B.2.1 B.2.2.1 h ∧ M_lg B.2.2.2 h
def C_ld (L : LT) (N m : Nat) (h : Hp) : Prop := h.1 12 0 = bI L.1 ∧ h.1 12 1 = nI (L.2.1 + 6 * (m - L.2.2)) ∧ h.1 12 2 = nI (if L.1 = true then N else L.2.2) ∧ h.1 12 3 = nI L.2.2
def M_ld (L : LT) (m : Nat) (h : Hp) : Prop := h.1 27 27 = bI (!L.1) ∧ (L.1 = true → h.1 27 26 = nI (6 * m)) ∧ h.1 27 28 = nI (L.2.2 - L.2.1) ∧ h.1 27 30 = nI (if L.1 = true then 0 else 6 * (m - L.2.2)) ∧ h.1 27 31 = nI (m - L.2.2) ∧ (∀ k, k < L.2.2 - L.2.1 → h.1 38 k = nI (L.2.1 + k)) ∧ ∀ k, k < m - L.2.2 → h.1 39 k = nI (L.2.2 + k)
def C_tr (W : WT) (h : Hp) : Prop := C_st W.1 h ∧ h.1 16 7 = nI W.2.2.1 ∧ h.1 16 6 = nI W.2.2.2
def M_tr (st : Nat) (W : WT) (h : Hp) : Prop := M_st W.1 h ∧ (st = 4 ∨ st = 5 → h.1 27 34 = nI W.2.2.1)
def C_an (N : NT) (h : Hp) : Prop := arL (h.1 26) N.1 ∧ h.1 0 13 = nI N.1.length ∧ h.1 0 14 = nI N.2
def M_an (N : NT) (h : Hp) : Prop := arL (h.1 47) N.1 ∧ h.1 27 42 = nI N.1.length ∧ h.1 27 44 = nI N.2
def C_T (T : TB) (h : Hp) : Prop := C_tb T.1 T.2.1 T.2.2.1 T.2.2.2 h
def M_T (T : TB) (h : Hp) : Prop := M_tb T.1 T.2.1 T.2.2.1 T.2.2.2 h
def nn (W : WT) : Nat := cn (nu W.1) 64
def CI (D : DK) (T : TB) (G : GT) (B : BT) (L : LT) (W : WT) (N : NT) (h : Hp) : Prop := C_dk D h ∧ C_T T h ∧ C_sc G h ∧ C_bd B h ∧ (G.1 = 3 → C_ld L B.2.1.flatten.length (nn W) h) ∧ C_tr W h ∧ C_an N h
def MI (D : DK) (T : TB) (G : GT) (B : BT) (L : LT) (W : WT) (N : NT) (h : Hp) : Prop := M_dk D h ∧ M_T T h ∧ M_sc G h ∧ (1 ≤ G.1 ∧ G.1 ≤ 4 → M_bd B h) ∧ (1 ≤ G.1 ∧ G.1 ≤ 3 → M_ld L (nn W) h) ∧ M_tr G.1 W h ∧ M_an N h
section KEEP
variable {D : DK} {T : TB} {G : GT} {B : BT} {L : LT} {W : WT} {N : NT} {h h' : Hp} {U F : List Nat}
theorem C_dk.k (H : C_dk D h) (f : fr U h h') (a : 6 ∉ U) : C_dk D h' := by
  unfold C_dk
  rw [f.i 6 a]
  exact H
theorem C_T.k (H : C_T T h) (f : fr U h h') (a : 1 ∉ U ∧ 2 ∉ U ∧ 3 ∉ U ∧ 4 ∉ U ∧ 5 ∉ U) : C_T T h' := C_tb.fr H f a
theorem C_sc.k (H : C_sc G h) (f : fz 0 U F h h') (a : 2 ∉ F ∧ 3 ∉ F ∧ 5 ∉ F ∧ 6 ∉ F ∧ 7 ∉ F) : C_sc G h' := by
  unfold C_sc
  rw [f.2 2 a.1, f.2 3 a.2.1, f.2 5 a.2.2.1, f.2 6 a.2.2.2.1, f.2 7 a.2.2.2.2]
  exact H
theorem C_rn.k {cl : List (List Int)} {op : List Int} (H : C_rn cl op h) (f : fr U h h') (a : 7 ∉ U ∧ 8 ∉ U ∧ 9 ∉ U ∧ 11 ∉ U) : C_rn cl op h' := by
  unfold C_rn
  rw [f.i 7 a.1, f.j 8 a.2.1, f.j 9 a.2.2.1, f.i 11 a.2.2.2]
  exact H
theorem C_lg.k {lg : List (Int × Bool)} (H : C_lg lg h) (f : fr U h h') (a : 13 ∉ U ∧ 14 ∉ U ∧ 15 ∉ U) : C_lg lg h' := by
  unfold C_lg
  rw [f.i 13 a.1, f.j 14 a.2.1, f.i 15 a.2.2]
  exact H
theorem C_bd.k (H : C_bd B h) (f : fz 0 U F h h') (a : 4 ∉ F) (b : (7 ∉ U ∧ 8 ∉ U ∧ 9 ∉ U ∧ 11 ∉ U) ∧ 13 ∉ U ∧ 14 ∉ U ∧ 15 ∉ U) : C_bd B h' := ⟨by rw [f.2 4 a]; exact H.1, H.2.1.k f.1 b.1, H.2.2.k f.1 b.2⟩
theorem C_ld.k {x m : Nat} (H : C_ld L x m h) (f : fr U h h') (a : 12 ∉ U) : C_ld L x m h' := by
  unfold C_ld
  rw [f.i 12 a]
  exact H
theorem C_tr.k (H : C_tr W h) (f : fr U h h') (a : 16 ∉ U) (b : 17 ∉ U ∧ 18 ∉ U ∧ 19 ∉ U ∧ 20 ∉ U ∧ 21 ∉ U) : C_tr W h' := ⟨H.1.fr f (by rw [f.i 16 a]) b, by rw [f.i 16 a]; exact H.2.1, by rw [f.i 16 a]; exact H.2.2⟩
theorem C_an.k (H : C_an N h) (f : fz 0 U F h h') (a : 26 ∉ U) (b : 13 ∉ F ∧ 14 ∉ F) : C_an N h' := by
  unfold C_an
  rw [f.1.i 26 a, f.2 13 b.1, f.2 14 b.2]
  exact H
theorem M_dk.k (H : M_dk D h) (f : fz 27 U F h h') (a : 4 ∉ F ∧ 5 ∉ F ∧ 6 ∉ F ∧ 7 ∉ F ∧ 8 ∉ F ∧ 9 ∉ F) : M_dk D h' := by
  unfold M_dk
  rw [f.2 4 a.1, f.2 5 a.2.1, f.2 6 a.2.2.1, f.2 7 a.2.2.2.1, f.2 8 a.2.2.2.2.1, f.2 9 a.2.2.2.2.2]
  exact H
theorem M_T.k (H : M_T T h) (f : fr U h h') (a : 28 ∉ U ∧ 29 ∉ U ∧ 30 ∉ U ∧ 31 ∉ U) : M_T T h' := M_tb.fr H f a
theorem M_sc.k (H : M_sc G h) (f : fz 27 U F h h') (a : 11 ∉ F ∧ 12 ∉ F ∧ 13 ∉ F ∧ 14 ∉ F ∧ 15 ∉ F) : M_sc G h' := by
  unfold M_sc
  rw [f.2 11 a.1, f.2 12 a.2.1, f.2 13 a.2.2.1, f.2 14 a.2.2.2.1, f.2 15 a.2.2.2.2]
  exact H
theorem M_rn.k {cl : List (List Int)} {op : List Int} (H : M_rn cl op h) (f : fz 27 U F h h') (a : 17 ∉ F ∧ 20 ∉ F) (b : 32 ∉ U ∧ 33 ∉ U ∧ 34 ∉ U) : M_rn cl op h' := by
  unfold M_rn
  rw [f.2 17 a.1, f.2 20 a.2, f.1.i 32 b.1, f.1.i 33 b.2.1, f.1.i 34 b.2.2]
  exact H
theorem M_lg.k {lg : List (Int × Bool)} (H : M_lg lg h) (f : fz 27 U F h h') (a : 22 ∉ F) (b : 35 ∉ U ∧ 36 ∉ U ∧ 37 ∉ U) : M_lg lg h' := by
  unfold M_lg
  rw [f.2 22 a, f.1.i 35 b.1, f.1.i 36 b.2.1, f.1.i 37 b.2.2]
  exact H
theorem M_bd.k (H : M_bd B h) (f : fz 27 U F h h') (a : 16 ∉ F ∧ (17 ∉ F ∧ 20 ∉ F) ∧ 22 ∉ F) (b : (32 ∉ U ∧ 33 ∉ U ∧ 34 ∉ U) ∧ 35 ∉ U ∧ 36 ∉ U ∧ 37 ∉ U) : M_bd B h' := ⟨by rw [f.2 16 a.1]; exact H.1, H.2.1.k f a.2.1 b.1, H.2.2.k f a.2.2 b.2⟩
theorem M_ld.k {m : Nat} (H : M_ld L m h) (f : fz 27 U F h h') (a : 26 ∉ F ∧ 27 ∉ F ∧ 28 ∉ F ∧ 30 ∉ F ∧ 31 ∉ F) (b : 38 ∉ U ∧ 39 ∉ U) : M_ld L m h' := by
  unfold M_ld
  rw [f.2 26 a.1, f.2 27 a.2.1, f.2 28 a.2.2.1, f.2 30 a.2.2.2.1, f.2 31 a.2.2.2.2, f.1.i 38 b.1, f.1.i 39 b.2]
  exact H
theorem M_tr.k {st : Nat} (H : M_tr st W h) (f : fz 27 U F h h') (a : 33 ∉ F ∧ 34 ∉ F) (b : 40 ∉ U ∧ 41 ∉ U ∧ 42 ∉ U ∧ 43 ∉ U ∧ 44 ∉ U ∧ 45 ∉ U ∧ 46 ∉ U) : M_tr st W h' := ⟨H.1.fr f.1 (f.2 33 a.1) b, by rw [f.2 34 a.2]; exact H.2⟩
theorem M_an.k (H : M_an N h) (f : fz 27 U F h h') (a : 47 ∉ U) (b : 42 ∉ F ∧ 44 ∉ F) : M_an N h' := by
  unfold M_an
  rw [f.1.i 47 a, f.2 42 b.1, f.2 44 b.2]
  exact H
/-- what the class does leaves the reference, and the other way round -/
theorem MI.k (H : MI D T G B L W N h) (e : ∀ d, 27 ≤ d → h'.1 d = h.1 d) : MI D T G B L W N h' := by
  unfold MI M_dk M_T M_tb M_sc M_bd M_rn M_lg M_ld M_tr M_st M_an at *
  simp only [e 27 (by decide), e 28 (by decide), e 29 (by decide), e 30 (by decide), e 31 (by decide), e 32 (by decide), e 33 (by decide), e 34 (by decide), e 35 (by decide), e 36 (by decide), e 37 (by decide), e 38 (by decide), e 39 (by decide), e 40 (by decide), e 41 (by decide), e 42 (by decide), e 43 (by decide), e 44 (by decide), e 45 (by decide), e 46 (by decide), e 47 (by decide)]
  exact H
theorem CI.k (H : CI D T G B L W N h) (e : ∀ d, d < 27 → h'.1 d = h.1 d ∧ h'.2.1 d = h.2.1 d) (e2 : h'.2.2 = h.2.2) : CI D T G B L W N h' := by
  unfold CI C_dk C_T C_tb C_sc C_bd C_rn C_lg C_ld C_tr C_st C_an at *
  simp only [(e 0 (by decide)).1, (e 1 (by decide)).1, (e 2 (by decide)).1, (e 3 (by decide)).1, (e 4 (by decide)).1, (e 5 (by decide)).1, (e 6 (by decide)).1, (e 7 (by decide)).1, (e 8 (by decide)).2, (e 9 (by decide)).2, (e 11 (by decide)).1, (e 12 (by decide)).1, (e 13 (by decide)).1, (e 14 (by decide)).2, (e 15 (by decide)).1, (e 16 (by decide)).1, (e 18 (by decide)).1, (e 19 (by decide)).1, (e 20 (by decide)).1, (e 21 (by decide)).1, (e 26 (by decide)).1, e2]
  exact H
end KEEP
