/-! a node is added to a loaded tree, purely -/
def adS (m : Nat) (b : Int32) (l : List Int) (S : SR) : SR := (va_up (nz S) m l.length, upd (nv S) m b, va_up (nh S) m (fun i => l.getD i 0), upd (nu S) m 1, upd (nd S) m 1)
def rgI (a n : Nat) : List Int := (List.range' a n).map (fun (k : Nat) => (k : Int))
theorem rgI_len (a n : Nat) : (rgI a n).length = n := by simp [rgI]
theorem rgI_at {a n i : Nat} (h : i < n) : (rgI a n).getD i 0 = ((a + i : Nat) : Int) := by
  rw [gD_at (by rw [rgI_len]; exact h)]
  simp [rgI]
section LOD
variable {S : SR} {rk : Nat → Nat} {m ρ : Nat} {v : Int32} {l : List Int}
theorem ad_nu (x : Nat) : nu (adS m v l S) x = upd (nu S) m 1 x := rfl
theorem ad_us (x : Nat) : ¬ nu (adS m v l S) x = 0 ↔ x = m ∨ ¬ nu S x = 0 := by
  rw [ad_nu]
  by_cases q : x = m
  · subst q
    rw [upd_at]
    exact ⟨fun _ => Or.inl rfl, fun _ => by decide⟩
  · rw [upd_ne _ _ q]
    exact ⟨Or.inr, fun z => z.resolve_left q⟩
theorem ad_m : nz (adS m v l S) m = l.length ∧ nv (adS m v l S) m = v ∧ ∀ i, nh (adS m v l S) m i = l.getD i 0 := by
  refine ⟨va_up_self _ _ _, upd_at _ _ _, fun i => ?_⟩
  show va_up (nh S) m _ m i = _
  rw [va_up_self]
theorem ad_o {x : Nat} (h : x ≠ m) : nz (adS m v l S) x = nz S x ∧ nv (adS m v l S) x = nv S x ∧ nh (adS m v l S) x = nh S x := ⟨va_up_ne _ _ h, upd_ne _ _ h, va_up_ne _ _ h⟩
theorem ad_cont (x : Nat) : cont (adS m v l S) x = if x = m then l else cont S x := by
  unfold cont
  by_cases q : x = m
  · subst q
    rw [if_pos rfl, ad_m.1]
    apply List.ext_getElem
    · simp
    · intro i h1 h2
      rw [List.getElem_map, List.getElem_range, ad_m.2.2, gD_at h2]
  · rw [if_neg q, (ad_o q).1, (ad_o q).2.2]
theorem ad_KD (h0 : nu S m = 0) {q i k : Nat} : KD (adS m v l S) q i k ↔ (q ≠ m ∧ KD S q i k) ∨ (q = m ∧ ¬ v = 0 ∧ i < l.length ∧ l.getD i 0 = k) := by
  unfold KD
  rw [ad_us]
  by_cases e : q = m
  · subst e
    rw [ad_m.1, ad_m.2.1, ad_m.2.2]
    constructor
    · rintro ⟨-, a, b, c⟩
      exact Or.inr ⟨rfl, a, b, c⟩
    · rintro (⟨a, -⟩ | ⟨-, a, b, c⟩)
      · exact absurd rfl a
      · exact ⟨Or.inl rfl, a, b, c⟩
  · rw [(ad_o e).1, (ad_o e).2.1, (ad_o e).2.2]
    constructor
    · rintro ⟨a, b, c, d⟩
      exact Or.inl ⟨e, a.resolve_left e, b, c, d⟩
    · rintro (⟨-, a, b, c, d⟩ | ⟨a, -⟩)
      · exact ⟨Or.inr a, b, c, d⟩
      · exact absurd a e
theorem ad_okS (O : okS S rk) (h0 : nu S m = 0) (hm : m < 64) (hl : l.length ≤ 8) (hv : v = 0 ∨ v = 1) (h1 : v = 0 → ρ = 0) (h2 : ¬ v = 0 → 1 ≤ l.length ∧ ∀ i, i < l.length → ∃ k : Nat, l.getD i 0 = k ∧ ¬ nu S k = 0 ∧ rk k + 1 = ρ ∧ 1 ≤ nz S k) : okS (adS m v l S) (va_up rk m ρ) := by
  have nm : ∀ k, ¬ nu S k = 0 → k ≠ m := fun k hk e => hk (by rw [e]; exact h0)
  intro n hn
  by_cases q : n = m
  · subst q
    rw [ad_m.1, ad_m.2.1, va_up_self]
    refine ⟨hm, hl, hv, h1, fun z => ⟨(h2 z).1, fun i hi => ?_⟩⟩
    obtain ⟨k, k1, k2, k3, k4⟩ := (h2 z).2 i hi
    refine ⟨k, by rw [ad_m.2.2]; exact k1, (ad_us k).mpr (Or.inr k2), by rw [va_up_ne _ _ (nm k k2)]; exact k3, by rw [(ad_o (nm k k2)).1]; exact k4⟩
  · have hn2 : ¬ nu S n = 0 := ((ad_us n).mp hn).resolve_left q
    obtain ⟨o1, o2, o3, o4, o5⟩ := O n hn2
    rw [(ad_o q).1, (ad_o q).2.1, (ad_o q).2.2, va_up_ne _ _ q]
    refine ⟨o1, o2, o3, o4, fun z => ⟨(o5 z).1, fun i hi => ?_⟩⟩
    obtain ⟨k, k1, k2, k3, k4⟩ := (o5 z).2 i hi
    exact ⟨k, k1, (ad_us k).mpr (Or.inr k2), by rw [va_up_ne _ _ (nm k k2)]; exact k3, by rw [(ad_o (nm k k2)).1]; exact k4⟩
theorem ad_en (O : okS S rk) (h0 : nu S m = 0) : ∀ r x, ¬ nu S x = 0 ∧ rk x = r → en (adS m v l S) r x = en S r x := by
  have nm : ∀ k, ¬ nu S k = 0 → k ≠ m := fun k hk e => hk (by rw [e]; exact h0)
  refine en_cg (fun r x => ¬ nu S x = 0 ∧ rk x = r) (fun x hx => ?_) (fun r x hx => ⟨?_, fun k hk => ?_⟩)
  · rw [ad_cont, if_neg (nm x hx.1)]
  · rw [ad_cont, if_neg (nm x hx.1)]
  · have hv : ¬ nv S x = 0 := fun z => by
      have := (rk_pos O hx.1).mp z
      omega
    obtain ⟨a, b, -⟩ := okS_kid O hx.1 hv hk
    exact ⟨a, by omega⟩
theorem ad_kids (x : Nat) : kids (adS m v l S) x = if x = m then l.map Int.toNat else kids S x := by
  rw [kids_cont, ad_cont]
  split
  · rfl
  · rw [kids_cont]
theorem rgI_nat (a n : Nat) : (rgI a n).map Int.toNat = List.range' a n := by
  unfold rgI
  rw [List.map_map]
  have : (Int.toNat ∘ fun (k : Nat) => (k : Int)) = id := by
    funext k
    simp
  rw [this, List.map_id]
theorem ad_cn {W : WT} {r c : Nat} {rk' : Nat → Nat} (h0 : nu W.1 m = 0) (hm : m < 64) : nn (adS m v l W.1, rk', r, c) = nn W + 1 := by
  show cn (upd (nu W.1) m 1) 64 = cn (nu W.1) 64 + 1
  rw [cn_upd, if_pos hm, if_pos h0, if_neg (by decide)]
  rfl
theorem ad_fm {r : Nat} {xs : List Nat} (O : okS S rk) (h0 : nu S m = 0) (hx : ∀ x ∈ xs, ¬ nu S x = 0 ∧ rk x = r) : xs.flatMap (en (adS m v l S) r) = xs.flatMap (en S r) := fm_cg (fun x h => ad_en O h0 r x (hx x h))
/-- a leaf is added -/
theorem LI_leaf {E0 : List Int} {W : WT} {m : Nat} {l : List Int} (H : LI E0 (true, 0, 0) W) (hN : E0.length ≤ 240) (em : m = nn W) (el : l = (E0.drop (6 * m)).take 6) : m < 40 ∧ nu W.1 m = 0 ∧ l.length ≤ 6 ∧ l.length = min 6 (E0.length - 6 * m) ∧ (6 * m + 6 < E0.length → ∀ r c, LI E0 (true, 0, 0) (adS m 0 l W.1, va_up W.2.1 m 0, r, c)) ∧ (E0.length ≤ 6 * m + 6 → ¬ m = 0 → ∀ r c, LI E0 (false, 0, m + 1) (adS m 0 l W.1, va_up W.2.1 m 0, r, c)) ∧ (E0.length ≤ 6 * m + 6 → m = 0 → E0.Pairwise (· < ·) → (∀ x ∈ E0, okR x) → wfW (adS m 0 l W.1, va_up W.2.1 m 0, m, E0.length) ∧ wE (adS m 0 l W.1, va_up W.2.1 m 0, m, E0.length) = E0) := by
  obtain ⟨a1, a2, a3, a4, -⟩ := H
  obtain ⟨-, -, b3, b4, b5⟩ := a4 rfl
  rw [← em] at a1 b3 b4 b5
  have m40 : m < 40 := by omega
  have h0 : nu W.1 m = 0 := Decidable.not_not.mp (fun z => absurd ((a1 m).mp z) (Nat.lt_irrefl _))
  have ll : l.length = min 6 (E0.length - 6 * m) := by rw [el, List.length_take, List.length_drop]
  have l6 : l.length ≤ 6 := by omega
  have O : okS (adS m 0 l W.1) (va_up W.2.1 m 0) := ad_okS a2 h0 (by omega) (by omega) (Or.inl rfl) (fun _ => rfl) (fun z => absurd rfl z)
  have us : ∀ n, ¬ nu (adS m 0 l W.1) n = 0 ↔ n < m + 1 := fun n => by
    rw [ad_us, a1]
    omega
  have kd : ∀ q i k, ¬ KD (adS m 0 l W.1) q i k := fun q i k z => by
    rcases (ad_KD h0).mp z with ⟨-, z1, z2, -⟩ | ⟨-, z, -⟩
    · exact z2 (b3 q ((a1 q).mp z1)).1
    · exact z rfl
  have J : jn (adS m 0 l W.1) := fun a b i j k z _ => absurd z (kd a i k)
  have nvz : ∀ n, n < m + 1 → nv (adS m 0 l W.1) n = 0 ∧ (1 ≤ l.length → 1 ≤ nz (adS m 0 l W.1) n) := fun n hn => by
    by_cases q : n = m
    · subst q
      rw [ad_m.1, ad_m.2.1]
      exact ⟨rfl, id⟩
    · rw [(ad_o q).1, (ad_o q).2.1]
      exact ⟨(b3 n (by omega)).1, fun _ => (b3 n (by omega)).2⟩
  have eL : enL (adS m 0 l W.1) (List.range (m + 1)) = E0.take (6 * m) ++ l := by
    have e1 := enL_en (adS m 0 l W.1) 0 (List.range (m + 1))
    have e2 := enL_en W.1 0 (List.range m)
    unfold rws at e1 e2
    rw [e1, List.range_succ, List.flatMap_append, ad_fm a2 h0 (fun x hx => ?_), ← e2, b5, List.flatMap_singleton]
    · show _ ++ cont _ m = _
      rw [ad_cont, if_pos rfl]
    · have hx := List.mem_range.mp hx
      have hu : ¬ nu W.1 x = 0 := (a1 x).mpr hx
      exact ⟨hu, (rk_pos a2 hu).mp (b3 x hx).1⟩
  have tk : E0.take (6 * m) ++ l = E0.take (6 * m + 6) := by rw [el, List.take_add]
  refine ⟨m40, h0, l6, ll, fun q r c => ?_, fun q q2 r c => ?_, fun q q2 p1 p2 => ?_⟩
  · have n1 : nn (adS m 0 l W.1, va_up W.2.1 m 0, r, c) = m + 1 := by rw [ad_cn h0 (by omega), em]
    refine ⟨fun n => by rw [n1]; exact us n, O, J, fun _ => ⟨rfl, rfl, ?_, ?_, ?_⟩, fun z => by cases z⟩
    · rw [n1]
      exact fun n hn => ⟨(nvz n hn).1, (nvz n hn).2 (by omega)⟩
    · rw [n1]
      omega
    · rw [n1]
      show enL (adS m 0 l W.1) _ = _
      rw [eL, tk]
      congr 1
  · have n1 : nn (adS m 0 l W.1, va_up W.2.1 m 0, r, c) = m + 1 := by rw [ad_cn h0 (by omega), em]
    refine ⟨fun n => by rw [n1]; exact us n, O, J, fun z => (by cases z), fun _ => ⟨0, Or.inl ⟨rfl, ?_, ?_⟩, ?_, ?_, ?_, ?_, ?_, ?_, ?_, ?_, ?_, ?_⟩⟩
    · show m + 1 - 0 ≤ 40
      omega
    · show m + 1 ≤ 40
      omega
    · show 0 + 2 ≤ m + 1
      omega
    · rw [n1]
      exact Nat.le_refl _
    · rw [n1]
      show 6 * (m + 1 - (m + 1)) < m + 1 - 0
      omega
    · intro n hn
      exact absurd hn (Nat.not_lt_zero _)
    · intro n _ hn
      have hu := (us n).mpr hn
      refine ⟨(rk_pos O hu).mp (nvz n hn).1, (nvz n hn).2 (by omega)⟩
    · rw [n1]
      intro n z1 z2
      have z1 : m + 1 ≤ n := z1
      omega
    · intro q i k z
      exact absurd z (kd q i k)
    · rw [n1]
      intro k hk
      have hk : k < 0 + 6 * (m + 1 - (m + 1)) := hk
      omega
    · show enL (adS m 0 l W.1) (List.range' 0 (m + 1 - 0)) = E0
      rw [Nat.sub_zero, ← List.range_eq_range', eL, tk]
      exact List.take_of_length_le (by omega)
    · rw [n1]
      show rwB _ (List.range' (m + 1) (m + 1 - (m + 1))) = List.range' 0 (6 * (m + 1 - (m + 1)))
      rw [Nat.sub_self]
      rfl
  · subst q2
    have e0 : l = E0 := by
      rw [el]
      show (E0.drop 0).take 6 = E0
      rw [List.drop_zero]
      exact List.take_of_length_le (by omega)
    have er : va_up W.2.1 0 0 0 = 0 := va_up_self _ _ _
    have ew : wE (adS 0 0 l W.1, va_up W.2.1 0 0, 0, E0.length) = E0 := by
      show en (adS 0 0 l W.1) (va_up W.2.1 0 0 0) 0 = E0
      rw [er]
      show cont _ 0 = _
      rw [ad_cont, if_pos rfl, e0]
    refine ⟨⟨⟨O, (us 0).mpr (by omega), J, fun n hn => ?_, fun n hn => ?_, fun z => absurd (nvz 0 (by omega)).1 z⟩, ?_, ?_, ?_, ?_⟩, ew⟩
    · have := (us n).mp hn
      exact Or.inl (by show n = 0; omega)
    · have := (us n).mp hn
      exact Or.inl (by show n = 0; omega)
    · show va_up W.2.1 0 0 0 ≤ 8
      rw [er]
      omega
    · rw [ew]
      exact p1
    · rw [ew]
      exact p2
    · rw [ew]
/-- a node over nodes is added -/
theorem LI_over {E0 : List Int} {W : WT} {a b m : Nat} {l : List Int} (H : LI E0 (false, a, b) W) (em : m = nn W) (el : l = rgI (a + 6 * (m - b)) (min 6 (b - (a + 6 * (m - b))))) : m < 60 ∧ nu W.1 m = 0 ∧ b ≤ m ∧ a + 6 * (m - b) < b ∧ b ≤ 49 ∧ (a + 6 * (m - b) + 6 < b → ∀ r c, LI E0 (false, a, b) (adS m 1 l W.1, va_up W.2.1 m (W.2.1 a + 1), r, c)) ∧ (b ≤ a + 6 * (m - b) + 6 → ¬ m = b → ∀ r c, LI E0 (false, b, m + 1) (adS m 1 l W.1, va_up W.2.1 m (W.2.1 a + 1), r, c)) ∧ (b ≤ a + 6 * (m - b) + 6 → m = b → E0.Pairwise (· < ·) → (∀ x ∈ E0, okR x) → wfW (adS m 1 l W.1, va_up W.2.1 m (W.2.1 a + 1), m, E0.length) ∧ wE (adS m 1 l W.1, va_up W.2.1 m (W.2.1 a + 1), m, E0.length) = E0) := by
  obtain ⟨a1, a2, a3, -, a5⟩ := H
  obtain ⟨ρ, b1, b2, b3, b4, b5, b6, b7, b8, b9, b10, b11⟩ := a5 rfl
  have b1 : (ρ = 0 ∧ b - a ≤ 40 ∧ b ≤ 40) ∨ (ρ = 1 ∧ b - a ≤ 7 ∧ b ≤ 47) ∨ (ρ = 2 ∧ b - a ≤ 2 ∧ b ≤ 49) := b1
  have b2 : a + 2 ≤ b := b2
  rw [← em] at a1 b3 b4 b7 b8 b9 b11
  have b3 : b ≤ m := b3
  have b4 : 6 * (m - b) < b - a := b4
  have b5 : ∀ n, n < a → W.2.1 n < ρ := b5
  have b6 : ∀ n, a ≤ n → n < b → W.2.1 n = ρ ∧ 1 ≤ nz W.1 n := b6
  have b7 : ∀ n, b ≤ n → n < m → W.2.1 n = ρ + 1 := b7
  have b8 : ∀ q i k, KD W.1 q i k → k < a + 6 * (m - b) := b8
  have b9 : ∀ k, k < a + 6 * (m - b) → ∃ q i, KD W.1 q i k := b9
  have b10 : enL W.1 (rws W.1 ρ (List.range' a (b - a))) = E0 := b10
  have b11 : rwB W.1 (List.range' b (m - b)) = List.range' a (6 * (m - b)) := b11
  rw [(b6 a (Nat.le_refl _) (by omega)).1]
  have h0 : nu W.1 m = 0 := Decidable.not_not.mp (fun z => absurd ((a1 m).mp z) (Nat.lt_irrefl _))
  have m60 : m < 60 := by omega
  have ll : l.length = min 6 (b - (a + 6 * (m - b))) := by rw [el, rgI_len]
  have lat : ∀ i, i < l.length → l.getD i 0 = ((a + 6 * (m - b) + i : Nat) : Int) := fun i hi => by
    rw [el]
    exact rgI_at (by omega)
  have O : okS (adS m 1 l W.1) (va_up W.2.1 m (ρ + 1)) := by
    refine ad_okS a2 h0 (by omega) (by omega) (Or.inr rfl) (fun z => absurd z (by decide)) (fun _ => ⟨by omega, fun i hi => ⟨a + 6 * (m - b) + i, lat i hi, (a1 _).mpr (by omega), ?_, (b6 _ (by omega) (by omega)).2⟩⟩)
    rw [(b6 (a + 6 * (m - b) + i) (by omega) (by omega)).1]
  have us : ∀ n, ¬ nu (adS m 1 l W.1) n = 0 ↔ n < m + 1 := fun n => by
    rw [ad_us, a1]
    omega
  have kd : ∀ q i k, KD (adS m 1 l W.1) q i k ↔ (q ≠ m ∧ KD W.1 q i k) ∨ (q = m ∧ i < l.length ∧ k = a + 6 * (m - b) + i) := fun q i k => by
    rw [ad_KD h0]
    constructor
    · rintro (z | ⟨z1, -, z3, z4⟩)
      · exact Or.inl z
      · rw [lat i z3] at z4
        exact Or.inr ⟨z1, z3, by omega⟩
    · rintro (z | ⟨z1, z3, z4⟩)
      · exact Or.inl z
      · exact Or.inr ⟨z1, by decide, z3, by rw [lat i z3, z4]⟩
  have J : jn (adS m 1 l W.1) := by
    intro x y i j k h1 h2
    rcases (kd _ _ _).mp h1 with ⟨c1, c2⟩ | ⟨c1, c2, c3⟩
    · rcases (kd _ _ _).mp h2 with ⟨d1, d2⟩ | ⟨d1, d2, d3⟩
      · exact a3 _ _ _ _ _ c2 d2
      · have := b8 _ _ _ c2
        omega
    · rcases (kd _ _ _).mp h2 with ⟨d1, d2⟩ | ⟨d1, d2, d3⟩
      · have := b8 _ _ _ d2
        omega
      · omega
  have kx : ∀ k, k < a + 6 * (m - b) + l.length → ∃ q i, KD (adS m 1 l W.1) q i k := fun k hk => by
    by_cases q : k < a + 6 * (m - b)
    · obtain ⟨x, i, z⟩ := b9 k q
      refine ⟨x, i, (kd _ _ _).mpr (Or.inl ⟨fun e => z.1 (by rw [e]; exact h0), z⟩)⟩
    · exact ⟨m, k - (a + 6 * (m - b)), (kd _ _ _).mpr (Or.inr ⟨rfl, by omega, by omega⟩)⟩
  have rkm : va_up W.2.1 m (ρ + 1) m = ρ + 1 := va_up_self _ _ _
  have rko : ∀ n, n < m → va_up W.2.1 m (ρ + 1) n = W.2.1 n := fun n hn => va_up_ne _ _ (by omega)
  have nzo : ∀ n, n < m → nz (adS m 1 l W.1) n = nz W.1 n := fun n hn => (ad_o (by omega)).1
  have fE : (List.range' a (b - a)).flatMap (en (adS m 1 l W.1) ρ) = E0 := by
    rw [ad_fm a2 h0 (fun x hx => ?_), ← enL_en, b10]
    have hx := List.mem_range'_1.mp hx
    exact ⟨(a1 x).mpr (by omega), (b6 x (by omega) (by omega)).1⟩
  have rB : rwB (adS m 1 l W.1) (List.range' b (m + 1 - b)) = List.range' a (6 * (m - b) + l.length) := by
    have e1 : List.range' b (m + 1 - b) = List.range' b (m - b) ++ [m] := by
      rw [show m + 1 - b = (m - b) + 1 by omega, List.range'_concat]
      congr 2
      omega
    have e2 : rwB (adS m 1 l W.1) (List.range' b (m - b)) = rwB W.1 (List.range' b (m - b)) := by
      unfold rwB
      refine fm_cg (fun x hx => ?_)
      have hx := List.mem_range'_1.mp hx
      rw [ad_kids, if_neg (by omega)]
    have e3 : kids (adS m 1 l W.1) m = List.range' (a + 6 * (m - b)) l.length := by
      rw [ad_kids, if_pos rfl]
      rw [show l.map Int.toNat = List.range' (a + 6 * (m - b)) (min 6 (b - (a + 6 * (m - b)))) by rw [el, rgI_nat], ← ll]
    rw [e1]
    show (List.range' b (m - b) ++ [m]).flatMap _ = _
    rw [List.flatMap_append]
    show rwB _ (List.range' b (m - b)) ++ _ = _
    rw [e2, b11, List.flatMap_singleton, e3, List.range'_append_1]
  refine ⟨m60, h0, b3, by omega, by omega, fun q r c => ?_, fun q q2 r c => ?_, fun q q2 p1 p2 => ?_⟩
  · have n1 : nn (adS m 1 l W.1, va_up W.2.1 m (ρ + 1), r, c) = m + 1 := by rw [ad_cn h0 (by omega), em]
    refine ⟨fun n => by rw [n1]; exact us n, O, J, fun z => (by cases z), fun _ => ⟨ρ, b1, b2, ?_, ?_, ?_, ?_, ?_, ?_, ?_, ?_, ?_⟩⟩
    · rw [n1]
      show b ≤ m + 1
      omega
    · rw [n1]
      show 6 * (m + 1 - b) < b - a
      omega
    · intro n hn
      have hn : n < a := hn
      show va_up W.2.1 m (ρ + 1) n < ρ
      rw [rko n (by omega)]
      exact b5 n hn
    · intro n h1 h2
      have h1 : a ≤ n := h1
      have h2 : n < b := h2
      show va_up W.2.1 m (ρ + 1) n = ρ ∧ 1 ≤ nz (adS m 1 l W.1) n
      rw [rko n (by omega), nzo n (by omega)]
      exact b6 n h1 h2
    · rw [n1]
      intro n h1 h2
      have h1 : b ≤ n := h1
      show va_up W.2.1 m (ρ + 1) n = ρ + 1
      by_cases e : n = m
      · rw [e, rkm]
      · rw [rko n (by omega)]
        exact b7 n h1 (by omega)
    · rw [n1]
      intro x i k z
      show k < a + 6 * (m + 1 - b)
      rcases (kd _ _ _).mp z with ⟨c1, c2⟩ | ⟨c1, c2, c3⟩
      · have := b8 _ _ _ c2
        omega
      · omega
    · rw [n1]
      intro k hk
      have hk : k < a + 6 * (m + 1 - b) := hk
      exact kx k (by omega)
    · show enL (adS m 1 l W.1) (rws (adS m 1 l W.1) ρ (List.range' a (b - a))) = E0
      rw [enL_en, fE]
    · rw [n1]
      show rwB (adS m 1 l W.1) (List.range' b (m + 1 - b)) = List.range' a (6 * (m + 1 - b))
      rw [rB]
      congr 1
      omega
  · have n1 : nn (adS m 1 l W.1, va_up W.2.1 m (ρ + 1), r, c) = m + 1 := by rw [ad_cn h0 (by omega), em]
    refine ⟨fun n => by rw [n1]; exact us n, O, J, fun z => (by cases z), fun _ => ⟨ρ + 1, ?_, ?_, ?_, ?_, ?_, ?_, ?_, ?_, ?_, ?_, ?_⟩⟩
    · show (ρ + 1 = 0 ∧ m + 1 - b ≤ 40 ∧ m + 1 ≤ 40) ∨ (ρ + 1 = 1 ∧ m + 1 - b ≤ 7 ∧ m + 1 ≤ 47) ∨ (ρ + 1 = 2 ∧ m + 1 - b ≤ 2 ∧ m + 1 ≤ 49)
      omega
    · show b + 2 ≤ m + 1
      omega
    · rw [n1]
      exact Nat.le_refl _
    · rw [n1]
      show 6 * (m + 1 - (m + 1)) < m + 1 - b
      omega
    · intro n hn
      have hn : n < b := hn
      show va_up W.2.1 m (ρ + 1) n < ρ + 1
      rw [rko n (by omega)]
      by_cases e : n < a
      · have := b5 n e
        omega
      · rw [(b6 n (by omega) hn).1]
        omega
    · intro n h1 h2
      have h1 : b ≤ n := h1
      have h2 : n < m + 1 := h2
      show va_up W.2.1 m (ρ + 1) n = ρ + 1 ∧ 1 ≤ nz (adS m 1 l W.1) n
      by_cases e : n = m
      · rw [e, rkm, ad_m.1]
        exact ⟨rfl, by omega⟩
      · have r1 := b7 n h1 (by omega)
        have hu := (a1 n).mpr (show n < m by omega)
        have hv : ¬ nv W.1 n = 0 := fun z => by
          have := (rk_pos a2 hu).mp z
          omega
        rw [rko n (by omega), nzo n (by omega)]
        exact ⟨r1, ((a2 n hu).2.2.2.2 hv).1⟩
    · rw [n1]
      intro n z1 z2
      have z1 : m + 1 ≤ n := z1
      omega
    · rw [n1]
      intro x i k z
      show k < b + 6 * (m + 1 - (m + 1))
      rcases (kd _ _ _).mp z with ⟨c1, c2⟩ | ⟨c1, c2, c3⟩
      · have := b8 _ _ _ c2
        omega
      · omega
    · rw [n1]
      intro k hk
      have hk : k < b + 6 * (m + 1 - (m + 1)) := hk
      exact kx k (by omega)
    · show enL (adS m 1 l W.1) (rws (adS m 1 l W.1) ρ (rwB (adS m 1 l W.1) (List.range' b (m + 1 - b)))) = E0
      rw [enL_en, rB, show 6 * (m - b) + l.length = b - a by omega, fE]
    · rw [n1]
      show rwB _ (List.range' (m + 1) (m + 1 - (m + 1))) = List.range' b (6 * (m + 1 - (m + 1)))
      rw [Nat.sub_self]
      rfl
  · subst q2
    have ew : wE (adS m 1 l W.1, va_up W.2.1 m (ρ + 1), m, E0.length) = E0 := by
      show en (adS m 1 l W.1) (va_up W.2.1 m (ρ + 1) m) m = E0
      rw [rkm]
      show (kids _ m).flatMap _ = _
      have e3 : kids (adS m 1 l W.1) m = List.range' a (m - a) := by
        rw [ad_kids, if_pos rfl]
        rw [show l.map Int.toNat = List.range' (a + 6 * (m - m)) (min 6 (m - (a + 6 * (m - m)))) by rw [el, rgI_nat], Nat.sub_self, show a + 6 * 0 = a by omega, show min 6 (m - a) = m - a by omega]
      rw [e3, fE]
    refine ⟨⟨⟨O, (us m).mpr (by omega), J, fun n hn => ?_, fun n hn => ?_, fun z => ?_⟩, ?_, ?_, ?_, ?_⟩, ew⟩
    · have := (us n).mp hn
      by_cases e : n = m
      · exact Or.inl e
      · exact Or.inr (kx n (by omega))
    · have := (us n).mp hn
      by_cases e : n = m
      · exact Or.inl e
      · refine Or.inr ?_
        show va_up W.2.1 m (ρ + 1) n < va_up W.2.1 m (ρ + 1) m
        rw [rkm, rko n (by omega)]
        by_cases e2 : n < a
        · have := b5 n e2
          omega
        · rw [(b6 n (by omega) (by omega)).1]
          omega
    · show 2 ≤ nz (adS m 1 l W.1) m
      rw [ad_m.1]
      omega
    · show va_up W.2.1 m (ρ + 1) m ≤ 8
      rw [rkm]
      omega
    · rw [ew]
      exact p1
    · rw [ew]
      exact p2
    · rw [ew]
end LOD
