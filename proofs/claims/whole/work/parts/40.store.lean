/-! nodes in a store: sizes, whether over nodes, what they hold, which are used, which are written since -/
abbrev SR : Type := (Nat → Nat) × (Nat → Int32) × (Nat → Nat → Int) × (Nat → Int32) × (Nat → Int32)
abbrev nz (S : SR) : Nat → Nat := S.1
abbrev nv (S : SR) : Nat → Int32 := S.2.1
abbrev nh (S : SR) : Nat → Nat → Int := S.2.2.1
abbrev nu (S : SR) : Nat → Int32 := S.2.2.2.1
abbrev nd (S : SR) : Nat → Int32 := S.2.2.2.2
def insf (f : Nat → Int) (i : Nat) (v : Int) : Nat → Int := fun k => if k < i then f k else if k = i then v else f (k - 1)
def delf (f : Nat → Int) (i : Nat) : Nat → Int := fun k => if k < i then f k else f (k + 1)
def pIn (n i : Nat) (v : Int) (S : SR) : SR := (va_up (nz S) n (nz S n + 1), nv S, va_up (nh S) n (insf (nh S n) i v), nu S, upd (nd S) n 1)
def tOut (n i : Nat) (S : SR) : SR := (va_up (nz S) n (nz S n - 1), nv S, va_up (nh S) n (delf (nh S n) i), nu S, upd (nd S) n 1)
def nNew (n : Nat) (b : Int32) (S : SR) : SR := (va_up (nz S) n 0, upd (nv S) n b, nh S, upd (nu S) n 1, upd (nd S) n 1)
def nFree (n : Nat) (S : SR) : SR := (nz S, nv S, nh S, upd (nu S) n 0, nd S)
/-- the class's tree holds this store -/
def C_st (S : SR) (h : Hp) : Prop := (∀ n, n < 64 → h.1 20 n = nu S n ∧ h.1 21 n = nd S n) ∧ h.1 16 5 = nI (cn (nu S) 64) ∧ ∀ n, n < 64 → ¬ nu S n = 0 → h.1 18 n = nI (nz S n) ∧ h.1 19 n = nv S n ∧ ∀ i, i < nz S n → (h.2.2 n i).toInt = nh S n i
theorem sW_at (h : Hp) (k : Nat) (f : Nat → Int64) : (sW h k f).2.2 k = f := va_up_self _ _ _
theorem sW_ne (h : Hp) {k d : Nat} (f : Nat → Int64) (hd : d ≠ k) : (sW h k f).2.2 d = h.2.2 d := va_up_ne _ _ hd
theorem sW_1 (h : Hp) (k : Nat) (f : Nat → Int64) : (sW h k f).1 = h.1 := rfl
theorem sI_22 (h : Hp) (c : Nat) (f : Nat → Int32) : (sI h c f).2.2 = h.2.2 := rfl
theorem uL_at (f : Nat → Int64) (k : Nat) (v : Int64) : vp_updL f k v k = v := by simp [vp_updL]
theorem uL_ne (f : Nat → Int64) {k j : Nat} (v : Int64) (h : j ≠ k) : vp_updL f k v j = f j := by simp [vp_updL, h]
theorem lg_le {x y : Int64} : lg_cmp x y ≤ 0 ↔ x.toInt ≤ y.toInt := by
  unfold lg_cmp
  rw [← Int64.le_iff_toInt_le]
  by_cases h : x > y
  · rw [if_pos h]
    constructor
    · intro q
      exact absurd q (by decide)
    · intro q
      exact absurd h (Int64.not_lt.mpr q)
  · rw [if_neg h]
    have h2 : x ≤ y := Int64.not_lt.mp h
    constructor
    · intro _
      exact h2
    · intro _
      split <;> decide
theorem lg_eq {x y : Int64} : lg_cmp x y = 0 ↔ x.toInt = y.toInt := by
  unfold lg_cmp
  rw [Int64.toInt_inj]
  by_cases h : x > y
  · rw [if_pos h]
    constructor
    · intro q
      exact absurd q (by decide)
    · intro q
      rw [q] at h
      exact absurd h (Int64.lt_irrefl)
  · rw [if_neg h]
    by_cases e : x = y
    · rw [if_pos e]
      exact ⟨fun _ => e, fun _ => rfl⟩
    · rw [if_neg e]
      exact ⟨fun q => absurd q (by decide), fun q => absurd q e⟩
theorem ff_none {f : Nat → Int32} : ∀ {n i : Nat}, ff f n i = none → ∀ j, i ≤ j → j < i + n → ¬ f j = 0
  | 0, i, h, j, h1, h2 => by omega
  | n + 1, i, h, j, h1, h2 => by
    unfold ff at h
    by_cases e : f i = 0
    · rw [if_pos e] at h
      cases h
    · rw [if_neg e] at h
      by_cases e2 : j = i
      · subst e2
        exact e
      · exact ff_none h j (by omega) (by omega)
theorem cn_full {f : Nat → Int32} : ∀ n, (∀ j, j < n → ¬ f j = 0) → cn f n = n
  | 0, _ => rfl
  | n + 1, h => by
    unfold cn
    rw [cn_full n (fun j hj => h j (by omega)), if_neg (h n (by omega))]
theorem ff_some {f : Nat → Int32} {N : Nat} (h : cn f N < N) : ∃ n, ff f N 0 = some n ∧ n < N ∧ f n = 0 := by
  cases e : ff f N 0 with
  | none =>
    have := cn_full N (fun j hj => ff_none e j (Nat.zero_le _) (by omega))
    omega
  | some n =>
    have := ff_lt e
    exact ⟨n, rfl, by omega, this.2.2.1⟩
section STC
variable {S : SR} {h : Hp} {Q : Option AV → Hp → Prop}
theorem c_newNode_2 (H : C_st S h) {b : Int32} (hb : b = 0 ∨ b = 1) : ∀ k i : Nat, i + k = 64 → (ff (nu S) k i = none → Q (some (vI (-1))) h) →
    (∀ n h', ff (nu S) k i = some n → n < 64 → fr [16, 18, 19, 20, 21] h h' → (∀ q, q ≠ 5 → h'.1 16 q = h.1 16 q) → C_st (nNew n b S) h' → Q (some (vI (nI n))) h') → Ev mX5_newNode 2 [(0, vR 16), (1, vI b), (2, vI (nI i))] [] h Q
  | 0, i, hi, h1, h2 => by
    apply sX5_newNode_2
    simp (disch := omega) only [nt_le, nt_lt, nt_eq, nt_cl, nt_vp, nI_add, lu_le, lu_lt, lu_eq, ul_le, ul_lt, ul_eq, lu_add, ul_add, lu_sub, lu_mul, ul_mul, nt_sub, nt_m1]
    exact ⟨fun _ => h1 rfl, fun c => by omega⟩
  | k + 1, i, hi, h1, h2 => by
    apply sX5_newNode_2
    simp (disch := omega) only [nt_le, nt_lt, nt_eq, nt_cl, nt_vp, nI_add, lu_le, lu_lt, lu_eq, ul_le, ul_lt, ul_eq, lu_add, ul_add, lu_sub, lu_mul, ul_mul, nt_sub, nt_m1]
    rw [(H.1 i (by omega)).1]
    refine ⟨fun c => by omega, fun c => ⟨by omega, fun e => ?_, fun e => ⟨by omega, fun h3 e3 => ⟨by omega, hb, fun h4 e4 => ⟨by omega, fun h5 e5 => ⟨by omega, fun h6 e6 h7 e7 => ?_⟩⟩⟩⟩⟩⟩
    · refine c_newNode_2 H hb k (i + 1) (by omega) (fun q => h1 (by unfold ff; rw [if_neg e, q])) (fun n h' q => h2 n h' (by unfold ff; rw [if_neg e, q]))
    · have f7 : fr [16, 18, 19, 20, 21] h h7 := by
        rw [e7, e6, e5, e4, e3]
        exact ((((fr.rf.sI (by decide) _).sI (by decide) _).sI (by decide) _).sI (by decide) _).sI (by decide) _
      refine h2 i h7 (by unfold ff; rw [if_pos e]) (by omega) f7 (fun q hq => ?_) ?_
      · rw [e7, sI_at, upd_ne _ _ hq, e6, sI_ne _ _ (by decide), e5, sI_ne _ _ (by decide), e4, sI_ne _ _ (by decide), e3, sI_ne _ _ (by decide)]
      have a18 : h7.1 18 = upd (h.1 18) i 0 := by rw [e7, sI_ne _ _ (by decide), e6, sI_at, e5, sI_ne _ _ (by decide), e4, sI_ne _ _ (by decide), e3, sI_ne _ _ (by decide)]
      have a19 : h7.1 19 = upd (h.1 19) i b := by rw [e7, sI_ne _ _ (by decide), e6, sI_ne _ _ (by decide), e5, sI_ne _ _ (by decide), e4, sI_at, e3, sI_ne _ _ (by decide)]
      have a20 : h7.1 20 = upd (h.1 20) i 1 := by rw [e7, sI_ne _ _ (by decide), e6, sI_ne _ _ (by decide), e5, sI_ne _ _ (by decide), e4, sI_ne _ _ (by decide), e3, sI_at]
      have a21 : h7.1 21 = upd (h.1 21) i 1 := by rw [e7, sI_ne _ _ (by decide), e6, sI_ne _ _ (by decide), e5, sI_at, e4, sI_ne _ _ (by decide), e3, sI_ne _ _ (by decide)]
      have a16 : h7.1 16 5 = h.1 16 5 + 1 := by rw [e7, sI_at, upd_at, e6, sI_ne _ _ (by decide), e5, sI_ne _ _ (by decide), e4, sI_ne _ _ (by decide), e3, sI_ne _ _ (by decide)]
      have arr : h7.2.2 = h.2.2 := f7.2 (by decide)
      refine ⟨fun n hn => ?_, ?_, fun n hn hu => ?_⟩
      · rw [a20, a21]
        obtain ⟨q1, q2⟩ := H.1 n hn
        constructor
        · show upd _ _ _ _ = upd _ _ _ _
          unfold upd
          split
          · rfl
          · exact q1
        · show upd _ _ _ _ = upd _ _ _ _
          unfold upd
          split
          · rfl
          · exact q2
      · rw [a16, H.2.1]
        show nI (cn (nu S) 64) + 1 = nI (cn (upd (nu S) i 1) 64)
        rw [cn_upd, if_pos (show i < 64 by omega), if_pos e, if_neg (by decide)]
        exact nI_1 _
      · rw [a18, a19, arr]
        by_cases q : n = i
        · subst q
          rw [upd_at, upd_at]
          refine ⟨?_, ?_, fun j hj => ?_⟩
          · show (0 : Int32) = nI (va_up (nz S) n 0 n)
            rw [va_up_self]
            rfl
          · show b = upd (nv S) n b n
            rw [upd_at]
          · exact absurd (show j < va_up (nz S) n 0 n from hj) (by rw [va_up_self]; omega)
        · rw [upd_ne _ _ q, upd_ne _ _ q]
          have hu2 : ¬ nu S n = 0 := by
            have : ¬ upd (nu S) i 1 n = 0 := hu
            rwa [upd_ne _ _ q] at this
          obtain ⟨q1, q2, q3⟩ := H.2.2 n hn hu2
          refine ⟨?_, ?_, fun j hj => ?_⟩
          · show _ = nI (va_up (nz S) i 0 n)
            rw [va_up_ne _ _ q]
            exact q1
          · show _ = upd (nv S) i b n
            rw [upd_ne _ _ q]
            exact q2
          · have hj2 : j < va_up (nz S) i 0 n := hj
            rw [va_up_ne _ _ q] at hj2
            exact q3 j hj2
theorem c_newNode (H : C_st S h) {b : Int32} (hb : b = 0 ∨ b = 1) (h1 : ff (nu S) 64 0 = none → Q (some (vI (-1))) h)
    (h2 : ∀ n h', ff (nu S) 64 0 = some n → n < 64 → fr [16, 18, 19, 20, 21] h h' → (∀ q, q ≠ 5 → h'.1 16 q = h.1 16 q) → C_st (nNew n b S) h' → Q (some (vI (nI n))) h') : EvM mX5_newNode [vR 16, vI b] h Q := by
  apply sX5_newNode
  exact c_newNode_2 H hb 64 0 rfl h1 h2
end STC
