/-! trees in a store: what stands under a node -/
def cont (S : SR) (m : Nat) : List Int := (List.range (nz S m)).map (nh S m)
def en (S : SR) : Nat → Nat → List Int
  | 0, m => cont S m
  | r + 1, m => (kids S m).flatMap (en S r)
theorem cont_len (S : SR) (m : Nat) : (cont S m).length = nz S m := by
  unfold cont
  rw [List.length_map, List.length_range]
theorem cont_at (S : SR) {m i : Nat} (h : i < (cont S m).length) : (cont S m)[i] = nh S m i := by
  simp [cont]
theorem kids_cont (S : SR) (m : Nat) : kids S m = (cont S m).map Int.toNat := by
  unfold kids cont
  rw [List.map_map]
  rfl
theorem enL_en (S : SR) : ∀ (r : Nat) (l : List Nat), enL S (rws S r l) = l.flatMap (en S r)
  | 0, l => rfl
  | r + 1, l => by
    show enL S (rws S r (rwB S l)) = _
    rw [enL_en S r]
    unfold rwB
    rw [List.flatMap_assoc]
    rfl
theorem en_rws (S : SR) (r n : Nat) : enL S (rws S r [n]) = en S r n := by
  rw [enL_en]
  simp
theorem en_cg {S T : SR} (P : Nat → Nat → Prop) (h0 : ∀ m, P 0 m → cont T m = cont S m) (h1 : ∀ r m, P (r + 1) m → cont T m = cont S m ∧ ∀ k ∈ kids S m, P r k) : ∀ r m, P r m → en T r m = en S r m
  | 0, m, h => h0 m h
  | r + 1, m, h => by
    obtain ⟨a, b⟩ := h1 r m h
    unfold en
    rw [kids_cont T, a, ← kids_cont S]
    unfold List.flatMap
    congr 1
    apply List.map_congr_left
    intro k hk
    exact en_cg P h0 h1 r k (b k hk)
/-- k is what a has at i -/
def KD (S : SR) (a i k : Nat) : Prop := ¬ nu S a = 0 ∧ ¬ nv S a = 0 ∧ i < nz S a ∧ nh S a i = k
def jn (S : SR) : Prop := ∀ a b i j k, KD S a i k → KD S b j k → a = b ∧ i = j
def pc (S : SR) (n : Nat) : Prop := ∀ m, ¬ nu S m = 0 → m = n ∨ ∃ q i, KD S q i m
def rm (S : SR) (rk : Nat → Nat) (n : Nat) : Prop := ∀ m, ¬ nu S m = 0 → m = n ∨ rk m < rk n
/-- in order, but for c -/
def okX (S : SR) (rk : Nat → Nat) (c : Nat) : Prop := ∀ n, ¬ nu S n = 0 → n < 64 ∧ nz S n ≤ 9 ∧ (n ≠ c → nz S n ≤ 8) ∧ (nv S n = 0 ∨ nv S n = 1) ∧ (nv S n = 0 → rk n = 0) ∧ (¬ nv S n = 0 → 1 ≤ rk n ∧ (n ≠ c → 1 ≤ nz S n) ∧ ∀ i, i < nz S n → ∃ k : Nat, nh S n i = k ∧ ¬ nu S k = 0 ∧ rk k + 1 = rk n ∧ (k ≠ c → 1 ≤ nz S k))
def TX (S : SR) (rk : Nat → Nat) (n c : Nat) : Prop := okX S rk c ∧ ¬ nu S n = 0 ∧ jn S ∧ pc S n ∧ rm S rk n
def TI (S : SR) (rk : Nat → Nat) (n : Nat) : Prop := okS S rk ∧ ¬ nu S n = 0 ∧ jn S ∧ pc S n ∧ rm S rk n ∧ (¬ nv S n = 0 → 2 ≤ nz S n)
theorem okX_of {S : SR} {rk : Nat → Nat} {c : Nat} (O : okS S rk) : okX S rk c := by
  intro n hu
  obtain ⟨o1, o2, o3, o4, o5⟩ := O n hu
  refine ⟨o1, by omega, fun _ => o2, o3, o4, fun hv => ?_⟩
  obtain ⟨z, k⟩ := o5 hv
  obtain ⟨x, -, -, y, -⟩ := k 0 (by omega)
  exact ⟨by omega, fun _ => z, fun i hi => by
    obtain ⟨x, a, b, c, d⟩ := k i hi
    exact ⟨x, a, b, c, fun _ => d⟩⟩
theorem okS_of {S : SR} {rk : Nat → Nat} {c : Nat} (O : okX S rk c) (h8 : nz S c ≤ 8) (h1 : 1 ≤ nz S c ∨ (nv S c = 0 ∧ ∀ a i, ¬ KD S a i c)) : okS S rk := by
  intro n hu
  obtain ⟨o1, o2, o3, o4, o5, o6⟩ := O n hu
  refine ⟨o1, ?_, o4, o5, fun hv => ?_⟩
  · by_cases e : n = c
    · rw [e]
      exact h8
    · exact o3 e
  obtain ⟨a, b, d⟩ := o6 hv
  refine ⟨?_, fun i hi => ?_⟩
  · by_cases e : n = c
    · rcases h1 with h1 | h1
      · rw [e]
        exact h1
      · rw [e] at hv
        exact absurd h1.1 hv
    · exact b e
  · obtain ⟨x, y1, y2, y3, y4⟩ := d i hi
    refine ⟨x, y1, y2, y3, ?_⟩
    by_cases e : x = c
    · rcases h1 with h1 | h1
      · rw [e]
        exact h1
      · exact absurd (show KD S n i c from ⟨hu, hv, hi, by rw [y1, e]⟩) (h1.2 n i)
    · exact y4 e
theorem KD.ok {S : SR} {rk : Nat → Nat} {c a i k : Nat} (O : okX S rk c) (h : KD S a i k) : ¬ nu S k = 0 ∧ rk k + 1 = rk a ∧ (k ≠ c → 1 ≤ nz S k) := by
  obtain ⟨h1, h2, h3, h4⟩ := h
  obtain ⟨-, -, -, -, -, o⟩ := O a h1
  obtain ⟨x, y1, y2, y3, y4⟩ := (o h2).2.2 i h3
  have e : x = k := by
    rw [h4] at y1
    exact_mod_cast y1.symm
  subst e
  exact ⟨y2, y3, y4⟩
theorem mem_kids {S : SR} {a k : Nat} (hu : ¬ nu S a = 0) (hv : ¬ nv S a = 0) {rk : Nat → Nat} {c : Nat} (O : okX S rk c) (h : k ∈ kids S a) : ∃ i, KD S a i k := by
  unfold kids at h
  rw [List.mem_map] at h
  obtain ⟨i, h1, h2⟩ := h
  rw [List.mem_range] at h1
  obtain ⟨-, -, -, -, -, o⟩ := O a hu
  obtain ⟨x, y1, y2, y3, y4⟩ := (o hv).2.2 i h1
  refine ⟨i, hu, hv, h1, ?_⟩
  rw [y1] at h2 ⊢
  rw [← h2]
  rfl
theorem cont_pIn {S : SR} {n i : Nat} {v : Int} (hi : i ≤ nz S n) (m : Nat) : cont (pIn n i v S) m = if m = n then (cont S n).take i ++ v :: (cont S n).drop i else cont S m := by
  by_cases e : m = n
  · subst e
    rw [if_pos rfl]
    apply List.ext_getElem
    · rw [cont_len]
      show va_up (nz S) m (nz S m + 1) m = _
      rw [va_up_self]
      simp [cont_len]
      omega
    · intro j h1 h2
      rw [cont_at]
      show va_up (nh S) m (insf (nh S m) i v) m j = _
      rw [va_up_self]
      rw [cont_len] at h1
      have h1 : j < va_up (nz S) m (nz S m + 1) m := h1
      rw [va_up_self] at h1
      unfold insf
      by_cases q1 : j < i
      · rw [if_pos q1, List.getElem_append_left (by simp [cont_len]; omega), List.getElem_take, cont_at]
      · rw [if_neg q1, List.getElem_append_right (by simp [cont_len]; omega)]
        have e2 : min i (cont S m).length = i := by
          rw [cont_len]
          omega
        by_cases q2 : j = i
        · rw [if_pos q2]
          simp [e2, q2]
        · rw [if_neg q2]
          simp only [List.length_take, e2]
          rw [List.getElem_cons, dif_neg (by omega), List.getElem_drop, cont_at]
          congr 1
          omega
  · rw [if_neg e]
    unfold cont
    show List.map (va_up (nh S) n _ m) (List.range (va_up (nz S) n _ m)) = _
    rw [va_up_ne _ _ e, va_up_ne _ _ e]
theorem cont_tOut {S : SR} {n i : Nat} (hi : i < nz S n) (m : Nat) : cont (tOut n i S) m = if m = n then (cont S n).take i ++ (cont S n).drop (i + 1) else cont S m := by
  by_cases e : m = n
  · subst e
    rw [if_pos rfl]
    apply List.ext_getElem
    · rw [cont_len]
      show va_up (nz S) m (nz S m - 1) m = _
      rw [va_up_self]
      simp [cont_len]
      omega
    · intro j h1 h2
      rw [cont_at]
      show va_up (nh S) m (delf (nh S m) i) m j = _
      rw [va_up_self]
      rw [cont_len] at h1
      have h1 : j < va_up (nz S) m (nz S m - 1) m := h1
      rw [va_up_self] at h1
      unfold delf
      by_cases q1 : j < i
      · rw [if_pos q1, List.getElem_append_left (by simp [cont_len]; omega), List.getElem_take, cont_at]
      · rw [if_neg q1, List.getElem_append_right (by simp [cont_len]; omega)]
        have e2 : min i (cont S m).length = i := by
          rw [cont_len]
          omega
        simp only [List.length_take, e2]
        rw [List.getElem_drop, cont_at]
        congr 1
        omega
  · rw [if_neg e]
    unfold cont
    show List.map (va_up (nh S) n _ m) (List.range (va_up (nz S) n _ m)) = _
    rw [va_up_ne _ _ e, va_up_ne _ _ e]
theorem cont_dvd {S : SR} {c w : Nat} (hz : nz S c = 9) (hcw : c ≠ w) (m : Nat) : cont (dvd c w S) m = if m = c then (cont S c).take 4 else if m = w then (cont S c).drop 4 else cont S m := by
  by_cases e : m = c
  · subst e
    rw [if_pos rfl]
    apply List.ext_getElem
    · rw [cont_len]
      show va_up (va_up (nz S) w 5) m 4 m = _
      rw [va_up_self]
      simp [cont_len, hz]
    · intro j h1 h2
      rw [cont_at, List.getElem_take, cont_at]
      show va_up (nh S) w _ m j = _
      rw [va_up_ne _ _ hcw]
  rw [if_neg e]
  by_cases e2 : m = w
  · subst e2
    rw [if_pos rfl]
    apply List.ext_getElem
    · rw [cont_len]
      show va_up (va_up (nz S) m 5) c 4 m = _
      rw [va_up_ne _ _ e, va_up_self]
      simp [cont_len, hz]
    · intro j h1 h2
      rw [cont_at, List.getElem_drop, cont_at]
      show va_up (nh S) m _ m j = _
      rw [va_up_self]
  · rw [if_neg e2]
    unfold cont
    show List.map (va_up (nh S) w _ m) (List.range (va_up (va_up (nz S) w 5) c 4 m)) = _
    rw [va_up_ne _ _ e2, va_up_ne _ _ e, va_up_ne _ _ e2]
