/-! pure rows: numbers, frames -/
theorem nt_le {a b : Nat} (ha : a < 2147483648) (hb : b < 2147483648) : nI a ≤ nI b ↔ a ≤ b := nI_leI ha hb
theorem nt_lt {a b : Nat} (ha : a < 2147483648) (hb : b < 2147483648) : nI a < nI b ↔ a < b := nI_ltI ha hb
theorem nt_eq {a b : Nat} (ha : a < 2147483648) (hb : b < 2147483648) : nI a = nI b ↔ a = b := nI_eq ha hb
theorem nt_cl {a : Nat} (ha : a < 2147483648) : Int32.toNatClampNeg (nI a) = a := nI_clamp ha
theorem nt_vp {a n : Nat} (ha : a < 2147483648) (hn : n < 2147483648) : vp_in (nI a) n ↔ a < n := by
  constructor
  · intro h
    have := vp_lt h
    rwa [nt_cl ha] at this
  · intro h
    exact vp_in_nI h hn
theorem lu_le {k a : Nat} (hk : (OfNat.ofNat k : Nat) < 2147483648) (ha : a < 2147483648) : (no_index (OfNat.ofNat k) : Int32) ≤ nI a ↔ OfNat.ofNat k ≤ a := nI_leI hk ha
theorem ul_le {k a : Nat} (hk : (OfNat.ofNat k : Nat) < 2147483648) (ha : a < 2147483648) : nI a ≤ (no_index (OfNat.ofNat k) : Int32) ↔ a ≤ OfNat.ofNat k := nI_leI ha hk
theorem lu_lt {k a : Nat} (hk : (OfNat.ofNat k : Nat) < 2147483648) (ha : a < 2147483648) : (no_index (OfNat.ofNat k) : Int32) < nI a ↔ OfNat.ofNat k < a := nI_ltI hk ha
theorem ul_lt {k a : Nat} (hk : (OfNat.ofNat k : Nat) < 2147483648) (ha : a < 2147483648) : nI a < (no_index (OfNat.ofNat k) : Int32) ↔ a < OfNat.ofNat k := nI_ltI ha hk
theorem lu_eq {k a : Nat} (hk : (OfNat.ofNat k : Nat) < 2147483648) (ha : a < 2147483648) : (no_index (OfNat.ofNat k) : Int32) = nI a ↔ OfNat.ofNat k = a := nI_eq hk ha
theorem ul_eq {k a : Nat} (hk : (OfNat.ofNat k : Nat) < 2147483648) (ha : a < 2147483648) : nI a = (no_index (OfNat.ofNat k) : Int32) ↔ a = OfNat.ofNat k := nI_eq ha hk
theorem lu_add {k a : Nat} : (no_index (OfNat.ofNat k) : Int32) + nI a = nI (OfNat.ofNat k + a) := nI_add k a
theorem ul_add {k a : Nat} : nI a + (no_index (OfNat.ofNat k) : Int32) = nI (a + OfNat.ofNat k) := nI_add a k
theorem lu_sub {k a : Nat} (h : OfNat.ofNat k ≤ a) : nI a - (no_index (OfNat.ofNat k) : Int32) = nI (a - OfNat.ofNat k) := pk_sub h
theorem nt_sub {b a : Nat} (h : b ≤ a) : nI a - nI b = nI (a - b) := pk_sub h
theorem lu_mul {k a : Nat} : (no_index (OfNat.ofNat k) : Int32) * nI a = nI (OfNat.ofNat k * a) := pk_mul k a
theorem ul_mul {k a : Nat} : nI a * (no_index (OfNat.ofNat k) : Int32) = nI (a * OfNat.ofNat k) := pk_mul a k
theorem nt_m1 {a : Nat} (h : 0 < a) : nI a + (-1) = nI (a - 1) := sb_m1 h
/-- nothing but these cells changed (17: the rows) -/
def fr (S : List Nat) (h h' : Hp) : Prop := (∀ d, d ∉ S → h'.1 d = h.1 d ∧ h'.2.1 d = h.2.1 d) ∧ (17 ∉ S → h'.2.2 = h.2.2)
theorem fr.rf {S : List Nat} {h : Hp} : fr S h h := ⟨fun _ _ => ⟨rfl, rfl⟩, fun _ => rfl⟩
theorem fr.tr {S : List Nat} {h h' h'' : Hp} (a : fr S h h') (b : fr S h' h'') : fr S h h'' := ⟨fun d hd => ⟨(b.1 d hd).1.trans (a.1 d hd).1, (b.1 d hd).2.trans (a.1 d hd).2⟩, fun hd => (b.2 hd).trans (a.2 hd)⟩
theorem fr.mono {S S' : List Nat} {h h' : Hp} (a : fr S h h') (hs : ∀ d ∈ S, d ∈ S') : fr S' h h' := ⟨fun d hd => a.1 d (fun q => hd (hs d q)), fun hd => a.2 (fun q => hd (hs _ q))⟩
theorem fr.sI {S : List Nat} {h h' : Hp} (a : fr S h h') {c : Nat} (hc : c ∈ S) (f : Nat → Int32) : fr S h (sI h' c f) := ⟨fun d hd => ⟨(va_up_ne _ _ (show d ≠ c from fun q => hd (q ▸ hc))).trans (a.1 d hd).1, (a.1 d hd).2⟩, a.2⟩
theorem fr.sJ {S : List Nat} {h h' : Hp} (a : fr S h h') {c : Nat} (hc : c ∈ S) (f : Nat → Int64) : fr S h (sJ h' c f) := ⟨fun d hd => ⟨(a.1 d hd).1, (va_up_ne _ _ (show d ≠ c from fun q => hd (q ▸ hc))).trans (a.1 d hd).2⟩, a.2⟩
theorem fr.sW {S : List Nat} {h h' : Hp} (a : fr S h h') (hc : 17 ∈ S) (k : Nat) (f : Nat → Int64) : fr S h (sW h' k f) := ⟨a.1, fun q => absurd hc q⟩
theorem fr.i {S : List Nat} {h h' : Hp} (a : fr S h h') (d : Nat) (hd : d ∉ S) : h'.1 d = h.1 d := (a.1 d hd).1
theorem fr.j {S : List Nat} {h h' : Hp} (a : fr S h h') (d : Nat) (hd : d ∉ S) : h'.2.1 d = h.2.1 d := (a.1 d hd).2
theorem sI_at (h : Hp) (c : Nat) (f : Nat → Int32) : (sI h c f).1 c = f := va_up_self _ _ _
theorem sI_ne (h : Hp) {c d : Nat} (f : Nat → Int32) (hd : d ≠ c) : (sI h c f).1 d = h.1 d := va_up_ne _ _ hd
theorem sI_2 (h : Hp) (c : Nat) (f : Nat → Int32) : (sI h c f).2 = h.2 := rfl
theorem upd_at (f : Nat → Int32) (k : Nat) (v : Int32) : upd f k v k = v := by simp [upd]
theorem upd_ne (f : Nat → Int32) {k j : Nat} (v : Int32) (h : j ≠ k) : upd f k v j = f j := by simp [upd, h]
/-! the table: flags, keys, values, pages written -/
def ff (tp : Nat → Int32) : Nat → Nat → Option Nat
  | 0, _ => none
  | n + 1, i => if tp i = 0 then some i else ff tp n (i + 1)
theorem ff_lt {tp : Nat → Int32} : ∀ {n i p : Nat}, ff tp n i = some p → i ≤ p ∧ p < i + n ∧ tp p = 0 ∧ ∀ j, i ≤ j → j < p → ¬ tp j = 0
  | 0, i, p, h => by cases h
  | n + 1, i, p, h => by
    unfold ff at h
    by_cases e : tp i = 0
    · rw [if_pos e] at h
      cases h
      exact ⟨Nat.le_refl _, by omega, e, fun j h1 h2 => by omega⟩
    · rw [if_neg e] at h
      obtain ⟨h1, h2, h3, h4⟩ := ff_lt h
      refine ⟨by omega, by omega, h3, fun j h5 h6 => ?_⟩
      by_cases e2 : j = i
      · subst e2
        exact e
      · exact h4 j (by omega) h6
theorem c_firstFree_2 {h : Hp} {Q : Option AV → Hp → Prop} {tp : Nat → Int32} (ht : ∀ p, p < 240 → h.1 4 p = tp p) : ∀ n i : Nat, i + n = 240 → (∀ p, ff tp n i = some p → Q (some (vI (nI p))) h) → (ff tp n i = none → Q (some (vI (-1))) h) → Ev mX4_firstFree 2 [(0, vR 1), (1, vI (nI i))] [] h Q
  | 0, i, hi, h1, h2 => by
    apply sX4_firstFree_2
    simp (disch := omega) only [nt_le, nt_lt, nt_eq, nt_cl, nt_vp, nI_add, lu_le, lu_lt, lu_eq, ul_le, ul_lt, ul_eq, lu_add, ul_add, lu_sub, lu_mul, ul_mul, nt_sub, nt_m1]
    refine ⟨fun _ => h2 rfl, fun c => ?_⟩
    omega
  | n + 1, i, hi, h1, h2 => by
    apply sX4_firstFree_2
    simp (disch := omega) only [nt_le, nt_lt, nt_eq, nt_cl, nt_vp, nI_add, lu_le, lu_lt, lu_eq, ul_le, ul_lt, ul_eq, lu_add, ul_add, lu_sub, lu_mul, ul_mul, nt_sub, nt_m1]
    refine ⟨fun c => by omega, fun c => ⟨by omega, fun e => ?_, fun e => ?_⟩⟩
    · rw [ht i (by omega)] at e
      refine c_firstFree_2 ht n (i + 1) (by omega) (fun p hp => h1 p ?_) (fun hp => h2 ?_)
      · unfold ff
        rw [if_neg e, hp]
      · unfold ff
        rw [if_neg e, hp]
    · rw [ht i (by omega)] at e
      exact h1 i (by unfold ff; rw [if_pos e])
