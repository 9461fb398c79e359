/-! the table, the class's and the reference's -/
def cn (f : Nat → Int32) : Nat → Nat
  | 0 => 0
  | n + 1 => cn f n + (if f n = 0 then 0 else 1)
theorem cn_le (f : Nat → Int32) : ∀ n, cn f n ≤ n
  | 0 => Nat.le_refl _
  | n + 1 => by
    have := cn_le f n
    unfold cn
    split <;> omega
theorem cn_cg {f g : Nat → Int32} : ∀ n, (∀ i, i < n → f i = g i) → cn f n = cn g n
  | 0, _ => rfl
  | n + 1, h => by
    unfold cn
    rw [cn_cg n (fun i hi => h i (by omega)), h n (by omega)]
theorem cn_upd {f : Nat → Int32} {p : Nat} {v : Int32} : ∀ n, cn (upd f p v) n = if p < n then (cn f n + (if v = 0 then 0 else 1)) - (if f p = 0 then 0 else 1) else cn f n
  | 0 => by simp [cn]
  | n + 1 => by
    have ih := cn_upd (f := f) (p := p) (v := v) n
    unfold cn
    rw [ih]
    by_cases e : n = p
    · subst e
      rw [upd_at, if_neg (show ¬ n < n by omega), if_pos (show n < n + 1 by omega)]
      split <;> split <;> omega
    · rw [upd_ne _ _ e]
      have hp : f p ≠ 0 → p < n → 1 ≤ cn f n := by
        intro h1 h2
        clear ih
        induction n with
        | zero => omega
        | succ n ih2 =>
          unfold cn
          by_cases e2 : p = n
          · subst e2
            rw [if_neg h1]
            omega
          · have := ih2 (by omega) (by omega)
            omega
      by_cases h1 : p < n
      · rw [if_pos h1, if_pos (show p < n + 1 by omega)]
        by_cases h2 : f p = 0
        · rw [if_pos h2]
          omega
        · have := hp h2 h1
          rw [if_neg h2]
          omega
      · rw [if_neg h1, if_neg (show ¬ p < n + 1 by omega)]
def C_tb (tp tk tv dp : Nat → Int32) (h : Hp) : Prop := (∀ p, p < 240 → h.1 4 p = tp p ∧ h.1 2 p = tk p ∧ h.1 3 p = tv p) ∧ (∀ g, g < 20 → h.1 5 g = dp g) ∧ h.1 1 4 = nI (cn tp 240)
def M_tb (tp tk tv dp : Nat → Int32) (h : Hp) : Prop := (∀ p, p < 240 → h.1 28 p = tp p ∧ h.1 29 p = tk p ∧ h.1 30 p = tv p) ∧ (∀ g, g < 20 → h.1 31 g = dp g)
theorem C_tb.fr {tp tk tv dp : Nat → Int32} {h h' : Hp} {S : List Nat} (H : C_tb tp tk tv dp h) (f : fr S h h') (hs : 1 ∉ S ∧ 2 ∉ S ∧ 3 ∉ S ∧ 4 ∉ S ∧ 5 ∉ S) : C_tb tp tk tv dp h' := by
  obtain ⟨h1, h2, h3, h4, h5⟩ := hs
  unfold C_tb
  rw [f.i 1 h1, f.i 2 h2, f.i 3 h3, f.i 4 h4, f.i 5 h5]
  exact H
theorem M_tb.fr {tp tk tv dp : Nat → Int32} {h h' : Hp} {S : List Nat} (H : M_tb tp tk tv dp h) (f : fr S h h') (hs : 28 ∉ S ∧ 29 ∉ S ∧ 30 ∉ S ∧ 31 ∉ S) : M_tb tp tk tv dp h' := by
  obtain ⟨h1, h2, h3, h4⟩ := hs
  unfold M_tb
  rw [f.i 28 h1, f.i 29 h2, f.i 30 h3, f.i 31 h4]
  exact H
/-- a place in the script's words: one of the 240, or none -/
theorem pl_cases (x : Int32) : (∃ p : Nat, p < 240 ∧ x = nI p) ∨ (x < 0 ∨ 240 ≤ x) := by
  rcases pk_ix x (n := 240) (by decide) with h | h | ⟨j, h1, h2⟩
  · exact Or.inr (Or.inl h)
  · exact Or.inr (Or.inr h)
  · exact Or.inl ⟨j, h1, h2⟩
section TB
variable {tp tk tv dp : Nat → Int32} {h : Hp} {Q : Option AV → Hp → Prop}
theorem c_has_in (H : C_tb tp tk tv dp h) {p : Nat} (hp : p < 240) (h0 : tp p = 0 → Q (some (vI 0)) h) (h1 : ¬ tp p = 0 → Q (some (vI 1)) h) : EvM mX4_has [vR 1, vI (nI p)] h Q := by
  apply sX4_has
  simp (disch := omega) only [nt_le, nt_lt, nt_eq, nt_cl, nt_vp, nI_add, lu_le, lu_lt, lu_eq, ul_le, ul_lt, ul_eq, lu_add, ul_add, lu_sub, lu_mul, ul_mul, nt_sub, nt_m1]
  rw [(H.1 p hp).1]
  exact ⟨fun c => by omega, fun c => ⟨fun c => by omega, fun c => ⟨hp, h0, h1⟩⟩⟩
theorem c_has_out {x : Int32} (hx : x < 0 ∨ 240 ≤ x) (h0 : Q (some (vI 0)) h) : EvM mX4_has [vR 1, vI x] h Q := by
  apply sX4_has
  refine ⟨fun _ => h0, fun c => ⟨fun _ => h0, fun c2 => ?_⟩⟩
  rcases hx with hx | hx
  · exact absurd hx c
  · exact absurd hx c2
theorem c_keyAt (H : C_tb tp tk tv dp h) {p : Nat} (hp : p < 240) (ht : ¬ tp p = 0) (h0 : Q (some (vI (tk p))) h) : EvM mX4_keyAt [vR 1, vI (nI p)] h Q := by
  apply sX4_keyAt
  refine c_has_in H hp (fun e => absurd e ht) (fun _ => ⟨1, rfl, fun e => absurd e (by decide), fun _ => ?_⟩)
  simp (disch := omega) only [nt_le, nt_lt, nt_eq, nt_cl, nt_vp, nI_add, lu_le, lu_lt, lu_eq, ul_le, ul_lt, ul_eq, lu_add, ul_add, lu_sub, lu_mul, ul_mul, nt_sub, nt_m1]
  rw [(H.1 p hp).2.1]
  exact ⟨hp, h0⟩
theorem c_valueAt (H : C_tb tp tk tv dp h) {p : Nat} (hp : p < 240) (ht : ¬ tp p = 0) (h0 : Q (some (vI (tv p))) h) : EvM mX4_valueAt [vR 1, vI (nI p)] h Q := by
  apply sX4_valueAt
  refine c_has_in H hp (fun e => absurd e ht) (fun _ => ⟨1, rfl, fun e => absurd e (by decide), fun _ => ?_⟩)
  simp (disch := omega) only [nt_le, nt_lt, nt_eq, nt_cl, nt_vp, nI_add, lu_le, lu_lt, lu_eq, ul_le, ul_lt, ul_eq, lu_add, ul_add, lu_sub, lu_mul, ul_mul, nt_sub, nt_m1]
  rw [(H.1 p hp).2.2]
  exact ⟨hp, h0⟩
theorem c_firstFree (H : C_tb tp tk tv dp h) (h1 : ∀ p, ff tp 240 0 = some p → Q (some (vI (nI p))) h) (h2 : ff tp 240 0 = none → Q (some (vI (-1))) h) : EvM mX4_firstFree [vR 1] h Q := by
  apply sX4_firstFree
  exact c_firstFree_2 (fun p hp => (H.1 p hp).1) 240 0 rfl h1 h2
/-- some other row has this key -/
def rp (tp tk : Nat → Int32) (k b : Int32) (i : Nat) : Prop := ∃ p, i ≤ p ∧ p < 240 ∧ ¬ nI p = b ∧ ¬ tp p = 0 ∧ tk p = k
theorem rp_no {k b : Int32} : ¬ rp tp tk k b 240 := fun ⟨p, h1, h2, _⟩ => by omega
theorem rp_st {k b : Int32} {i : Nat} (h : nI i = b ∨ tp i = 0 ∨ ¬ tk i = k) : rp tp tk k b i ↔ rp tp tk k b (i + 1) := by
  constructor
  · intro ⟨p, h1, h2, h3, h4, h5⟩
    refine ⟨p, ?_, h2, h3, h4, h5⟩
    by_cases e : p = i
    · subst e
      rcases h with h | h | h
      · exact absurd h h3
      · exact absurd h h4
      · exact absurd h5 h
    · omega
  · intro ⟨p, h1, h2, h3⟩
    exact ⟨p, by omega, h2, h3⟩
theorem c_hasKeyBeside_2 (H : C_tb tp tk tv dp h) {k b : Int32} : ∀ n i : Nat, i + n = 240 → (rp tp tk k b i → Q (some (vI 1)) h) → (¬ rp tp tk k b i → Q (some (vI 0)) h) → Ev mX4_hasKeyBeside 2 [(0, vR 1), (1, vI k), (2, vI b), (3, vI (nI i))] [] h Q
  | 0, i, hi, h1, h2 => by
    apply sX4_hasKeyBeside_2
    have e : i = 240 := by omega
    subst e
    simp (disch := omega) only [nt_le, nt_lt, nt_eq, nt_cl, nt_vp, nI_add, lu_le, lu_lt, lu_eq, ul_le, ul_lt, ul_eq, lu_add, ul_add, lu_sub, lu_mul, ul_mul, nt_sub, nt_m1]
    exact ⟨fun _ => h2 rp_no, fun c => absurd (Nat.le_refl _) c⟩
  | n + 1, i, hi, h1, h2 => by
    apply sX4_hasKeyBeside_2
    have hl := H.1 i (by omega)
    have nx : (nI i = b ∨ tp i = 0 ∨ ¬ tk i = k) → Ev mX4_hasKeyBeside 2 [(0, vR 1), (1, vI k), (2, vI b), (3, vI (nI (i + 1)))] [] h Q := fun q =>
      c_hasKeyBeside_2 H n (i + 1) (by omega) (fun r => h1 ((rp_st q).mpr r)) (fun r => h2 (fun z => r ((rp_st q).mp z)))
    simp (disch := omega) only [nt_le, nt_lt, nt_eq, nt_cl, nt_vp, nI_add, lu_le, lu_lt, lu_eq, ul_le, ul_lt, ul_eq, lu_add, ul_add, lu_sub, lu_mul, ul_mul, nt_sub, nt_m1]
    rw [hl.1, hl.2.1]
    exact ⟨fun c => by omega, fun c => ⟨fun e => nx (Or.inl e), fun e => ⟨by omega, fun e2 => nx (Or.inr (Or.inl e2)), fun e2 => ⟨by omega, fun e3 => nx (Or.inr (Or.inr e3)), fun e3 => h1 ⟨i, Nat.le_refl _, by omega, e, e2, e3⟩⟩⟩⟩⟩
theorem c_hasKeyBeside (H : C_tb tp tk tv dp h) {k b : Int32} (h1 : rp tp tk k b 0 → Q (some (vI 1)) h) (h2 : ¬ rp tp tk k b 0 → Q (some (vI 0)) h) : EvM mX4_hasKeyBeside [vR 1, vI k, vI b] h Q := by
  apply sX4_hasKeyBeside
  exact c_hasKeyBeside_2 H 240 0 rfl h1 h2
theorem c_tput (H : C_tb tp tk tv dp h) {p : Nat} (hp : p < 240) {k v : Int32} (h1 : ∀ h', fr [1, 2, 3, 4, 5] h h' → C_tb (upd tp p (if tp p = 0 then 1 else tp p)) (upd tk p k) (upd tv p v) (upd dp (p / 12) 1) h' → Q none h') : EvM mX4_put [vR 1, vI (nI p), vI k, vI v] h Q := by
  have hd : nI p / 12 = nI (p / 12) := pk_div (a := p) (d := 12) (by omega) (by decide) (by decide)
  have key : ∀ h2 : Hp, fr [1, 2, 3, 4, 5] h h2 → C_tb (upd tp p (if tp p = 0 then 1 else tp p)) tk tv dp h2 → Ev mX4_put 38 [(0, vR 1), (1, vI (nI p)), (2, vI k), (3, vI v)] [] h2 Q := by
    intro h2 f2 H2
    apply sX4_put_38
    rw [hd]
    simp (disch := omega) only [nt_le, nt_lt, nt_eq, nt_cl, nt_vp, nI_add, lu_le, lu_lt, lu_eq, ul_le, ul_lt, ul_eq, lu_add, ul_add, lu_sub, lu_mul, ul_mul, nt_sub, nt_m1]
    refine ⟨hp, fun h3 e3 => ⟨hp, fun h4 e4 => ⟨by omega, fun h5 e5 => ?_⟩⟩⟩
    refine h1 h5 (by rw [e5, e4, e3]; exact ((f2.sI (by decide) _).sI (by decide) _).sI (by decide) _) ?_
    have a2 : h5.1 2 = upd (h2.1 2) p k := by rw [e5, sI_ne _ _ (by decide), e4, sI_ne _ _ (by decide), e3, sI_at]
    have a3 : h5.1 3 = upd (h2.1 3) p v := by rw [e5, sI_ne _ _ (by decide), e4, sI_at, e3, sI_ne _ _ (by decide)]
    have a4 : h5.1 4 = h2.1 4 := by rw [e5, sI_ne _ _ (by decide), e4, sI_ne _ _ (by decide), e3, sI_ne _ _ (by decide)]
    have a5 : h5.1 5 = upd (h2.1 5) (p / 12) 1 := by rw [e5, sI_at, e4, sI_ne _ _ (by decide), e3, sI_ne _ _ (by decide)]
    have a1 : h5.1 1 = h2.1 1 := by rw [e5, sI_ne _ _ (by decide), e4, sI_ne _ _ (by decide), e3, sI_ne _ _ (by decide)]
    refine ⟨fun i hi => ?_, fun i hi => ?_, by rw [a1]; exact H2.2.2⟩
    · rw [a2, a3, a4]
      obtain ⟨q1, q2, q3⟩ := H2.1 i hi
      refine ⟨q1, ?_, ?_⟩
      · unfold upd
        split
        · rfl
        · exact q2
      · unfold upd
        split
        · rfl
        · exact q3
    · rw [a5]
      unfold upd
      split
      · rfl
      · exact H2.2.1 i hi
  apply sX4_put
  simp (disch := omega) only [nt_le, nt_lt, nt_eq, nt_cl, nt_vp, nI_add, lu_le, lu_lt, lu_eq, ul_le, ul_lt, ul_eq, lu_add, ul_add, lu_sub, lu_mul, ul_mul, nt_sub, nt_m1]
  rw [(H.1 p hp).1]
  refine ⟨fun c => by omega, fun c => ⟨fun _ => ⟨hp, fun e => ?_, fun e => ⟨hp, fun h2 e2 h3 e3 => ?_⟩⟩, fun c => by omega⟩⟩
  · refine key h fr.rf ?_
    rw [if_neg e]
    have e9 : upd tp p (tp p) = tp := by
      funext i
      unfold upd
      split
      · next q => rw [q]
      · rfl
    rw [e9]
    exact H
  · refine key h3 (by rw [e3, e2]; exact (fr.rf.sI (by decide) _).sI (by decide) _) ?_
    rw [if_pos e]
    have a4 : h3.1 4 = upd (h.1 4) p 1 := by rw [e3, sI_ne _ _ (by decide), e2, sI_at]
    have a1 : h3.1 1 4 = h.1 1 4 + 1 := by rw [e3, sI_at, upd_at, e2, sI_ne _ _ (by decide)]
    have a2 : h3.1 2 = h.1 2 := by rw [e3, sI_ne _ _ (by decide), e2, sI_ne _ _ (by decide)]
    have a3 : h3.1 3 = h.1 3 := by rw [e3, sI_ne _ _ (by decide), e2, sI_ne _ _ (by decide)]
    have a5 : h3.1 5 = h.1 5 := by rw [e3, sI_ne _ _ (by decide), e2, sI_ne _ _ (by decide)]
    refine ⟨fun i hi => ?_, by rw [a5]; exact H.2.1, ?_⟩
    · rw [a4, a2, a3]
      obtain ⟨q1, q2, q3⟩ := H.1 i hi
      refine ⟨?_, q2, q3⟩
      unfold upd
      split
      · rfl
      · exact q1
    · rw [a1, H.2.2, cn_upd, if_pos hp, if_pos e, if_neg (by decide)]
      exact nI_1 _
theorem c_clearPlace (H : C_tb tp tk tv dp h) {p : Nat} (hp : p < 240) (ht : ¬ tp p = 0) (h1 : ∀ h', fr [1, 4, 5] h h' → C_tb (upd tp p 0) tk tv (upd dp (p / 12) 1) h' → Q none h') : EvM mX4_clearPlace [vR 1, vI (nI p)] h Q := by
  have hd : nI p / 12 = nI (p / 12) := pk_div (a := p) (d := 12) (by omega) (by decide) (by decide)
  apply sX4_clearPlace
  refine c_has_in H hp (fun e => absurd e ht) (fun _ => ⟨1, rfl, fun e => absurd e (by decide), fun _ => ?_⟩)
  rw [hd]
  simp (disch := omega) only [nt_le, nt_lt, nt_eq, nt_cl, nt_vp, nI_add, lu_le, lu_lt, lu_eq, ul_le, ul_lt, ul_eq, lu_add, ul_add, lu_sub, lu_mul, ul_mul, nt_sub, nt_m1]
  refine ⟨hp, fun h2 e2 h3 e3 => ⟨by omega, fun h4 e4 => ?_⟩⟩
  refine h1 h4 (by rw [e4, e3, e2]; exact ((fr.rf.sI (by decide) _).sI (by decide) _).sI (by decide) _) ?_
  have a4 : h4.1 4 = upd (h.1 4) p 0 := by rw [e4, sI_ne _ _ (by decide), e3, sI_ne _ _ (by decide), e2, sI_at]
  have a1 : h4.1 1 4 = h.1 1 4 - 1 := by rw [e4, sI_ne _ _ (by decide), e3, sI_at, upd_at, e2, sI_ne _ _ (by decide)]
  have a2 : h4.1 2 = h.1 2 := by rw [e4, sI_ne _ _ (by decide), e3, sI_ne _ _ (by decide), e2, sI_ne _ _ (by decide)]
  have a3 : h4.1 3 = h.1 3 := by rw [e4, sI_ne _ _ (by decide), e3, sI_ne _ _ (by decide), e2, sI_ne _ _ (by decide)]
  have a5 : h4.1 5 = upd (h.1 5) (p / 12) 1 := by rw [e4, sI_at, e3, sI_ne _ _ (by decide), e2, sI_ne _ _ (by decide)]
  have hc : 1 ≤ cn tp 240 := by
    have := cn_upd (f := tp) (p := p) (v := tp p) 240
    rw [if_pos hp, if_neg ht] at this
    have h9 : cn tp 240 ≠ 0 := by
      intro q
      have e9 : ∀ n, p < n → 1 ≤ cn tp n := by
        intro n
        induction n with
        | zero => intro q; omega
        | succ n ih =>
          intro q
          unfold cn
          by_cases e2 : p = n
          · subst e2
            rw [if_neg ht]
            omega
          · have := ih (by omega)
            omega
      have := e9 240 hp
      omega
    omega
  refine ⟨fun i hi => ?_, fun i hi => ?_, ?_⟩
  · rw [a4, a2, a3]
    obtain ⟨q1, q2, q3⟩ := H.1 i hi
    refine ⟨?_, q2, q3⟩
    unfold upd
    split
    · rfl
    · exact q1
  · rw [a5]
    unfold upd
    split
    · rfl
    · exact H.2.1 i hi
  · rw [a1, H.2.2, cn_upd, if_pos hp, if_neg ht, if_pos rfl]
    generalize cn tp 240 = z at hc ⊢
    rw [Nat.add_zero]
    exact pk_sub (a := z) (b := 1) hc
end TB
