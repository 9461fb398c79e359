/-! a division leaves what stands under the nodes; counting nodes -/
theorem fm_cg {α β : Type} {f g : α → List β} : ∀ {l : List α}, (∀ k ∈ l, f k = g k) → l.flatMap f = l.flatMap g
  | [], _ => rfl
  | x :: l, h => by
    rw [List.flatMap_cons, List.flatMap_cons, h x (List.mem_cons_self ..), fm_cg (fun k hk => h k (List.mem_cons_of_mem _ hk))]
section SP2
variable {S : SR} {rk : Nat → Nat} {n q t c w : Nat}
theorem inn {x m r : Nat} (O : okX S rk x) (hu : ¬ nu S m = 0) (hr : rk m = r + 1) : ¬ nv S m = 0 := fun e => by
  have := (O m hu).2.2.2.2.1 e
  omega
theorem sp_cont (hqc : q ≠ c) (hqw : q ≠ w) (hcw : c ≠ w) (ht : t < nz S q) (hz : nz S c = 9) (m : Nat) : cont (sp q t c w S) m = if m = q then (cont S q).take (t + 1) ++ (w : Int) :: (cont S q).drop (t + 1) else if m = c then (cont S c).take 4 else if m = w then (cont S c).drop 4 else cont S m := by
  have hd : nz (dvd c w S) q = nz S q := by
    show va_up (va_up (nz S) w 5) c 4 q = _
    rw [va_up_ne _ _ hqc, va_up_ne _ _ hqw]
  unfold sp
  rw [cont_pIn (by rw [hd]; omega), cont_dvd hz hcw, cont_dvd hz hcw, if_neg hqc, if_neg hqw]
theorem sp_low (O : okX S rk c) (hq : KD S q t c) (h0 : nu S w = 0) (hu : ¬ nu S c = 0) (hz : nz S c = 9) : ∀ r m, (¬ nu S m = 0 ∧ rk m = r ∧ r < rk c) → en (sp q t c w S) r m = en S r m := by
  have kq := hq.ok O
  have hqc : q ≠ c := fun e => by
    rw [e] at kq
    omega
  have hqw : q ≠ w := fun e => hq.1 (e ▸ h0)
  have hcw : c ≠ w := fun e => hu (e ▸ h0)
  have sm : ∀ r m, (¬ nu S m = 0 ∧ rk m = r ∧ r < rk c) → cont (sp q t c w S) m = cont S m := by
    intro r m ⟨h1, h2, h3⟩
    rw [sp_cont hqc hqw hcw hq.2.2.1 hz, if_neg (show ¬ m = q from fun e => by rw [e] at h2; omega), if_neg (show ¬ m = c from fun e => by rw [e] at h2; omega), if_neg (show ¬ m = w from fun e => h1 (e ▸ h0))]
  apply en_cg (fun r m => ¬ nu S m = 0 ∧ rk m = r ∧ r < rk c)
  · intro m h
    exact sm 0 m h
  · intro r m h
    refine ⟨sm _ m h, fun k hk => ?_⟩
    obtain ⟨i, hi⟩ := mem_kids h.1 (inn O h.1 h.2.1) O hk
    obtain ⟨y1, y2, -⟩ := hi.ok O
    exact ⟨y1, by have := h.2.1; omega, by have := h.2.2; omega⟩
theorem sp_cw (O : okX S rk c) (hq : KD S q t c) (h0 : nu S w = 0) (hu : ¬ nu S c = 0) (hz : nz S c = 9) : en (sp q t c w S) (rk c) c ++ en (sp q t c w S) (rk c) w = en S (rk c) c := by
  have kq := hq.ok O
  have hqc : q ≠ c := fun e => by
    rw [e] at kq
    omega
  have hqw : q ≠ w := fun e => hq.1 (e ▸ h0)
  have hcw : c ≠ w := fun e => hu (e ▸ h0)
  have ec : cont (sp q t c w S) c = (cont S c).take 4 := by rw [sp_cont hqc hqw hcw hq.2.2.1 hz, if_neg (Ne.symm hqc), if_pos rfl]
  have ew : cont (sp q t c w S) w = (cont S c).drop 4 := by rw [sp_cont hqc hqw hcw hq.2.2.1 hz, if_neg (Ne.symm hqw), if_neg (Ne.symm hcw), if_pos rfl]
  cases hr : rk c with
  | zero =>
    unfold en
    rw [ec, ew, List.take_append_drop]
  | succ r =>
    unfold en
    rw [kids_cont, ec, kids_cont, ew, ← List.flatMap_append, ← List.map_append, List.take_append_drop, ← kids_cont]
    apply fm_cg
    intro k hk
    obtain ⟨i, hi⟩ := mem_kids hu (inn O hu hr) O hk
    obtain ⟨y1, y2, -⟩ := hi.ok O
    exact sp_low O hq h0 hu hz r k ⟨y1, by omega, by omega⟩
theorem sp_en (O : okX S rk c) (J : jn S) (hq : KD S q t c) (h0 : nu S w = 0) (hu : ¬ nu S c = 0) (hz : nz S c = 9) : ∀ r m, ¬ nu S m = 0 → m ≠ c → rk m = r → en (sp q t c w S) r m = en S r m := by
  have kq := hq.ok O
  have hqc : q ≠ c := fun e => by
    rw [e] at kq
    omega
  have hqw : q ≠ w := fun e => hq.1 (e ▸ h0)
  have hcw : c ≠ w := fun e => hu (e ▸ h0)
  intro r
  induction r with
  | zero =>
    intro m hm hmc hr
    unfold en
    rw [sp_cont hqc hqw hcw hq.2.2.1 hz, if_neg (show ¬ m = q from fun e => by rw [e] at hr; omega), if_neg hmc, if_neg (show ¬ m = w from fun e => hm (e ▸ h0))]
  | succ r ih =>
    intro m hm hmc hr
    by_cases e : m = q
    · subst e
      have hrc : rk c = r := by omega
      obtain ⟨X, Y, k1, k2, k3⟩ := kids_split O J hq
      have e2 : kids (sp m t c w S) m = X ++ c :: w :: Y := by
        rw [kids_cont, sp_cont hqc hqw hcw hq.2.2.1 hz, if_pos rfl, List.map_append, List.map_cons, List.map_take, List.map_drop, ← kids_cont, k1, Int.toNat_natCast]
        have t1 : (X ++ c :: Y).take (t + 1) = X ++ [c] := by
          rw [← k2, List.take_append]
          simp [List.take_of_length_le]
        have t2 : (X ++ c :: Y).drop (t + 1) = Y := by
          rw [← k2, List.drop_append]
          simp
        rw [t1, t2]
        simp
      unfold en
      rw [e2, k1]
      simp only [List.flatMap_append, List.flatMap_cons]
      rw [fm_cg (l := X) (g := en S r) (fun k hk => ?_), fm_cg (l := Y) (g := en S r) (fun k hk => ?_)]
      · congr 1
        rw [← List.append_assoc]
        congr 1
        rw [← hrc]
        exact sp_cw O hq h0 hu hz
      · obtain ⟨z1, i, z2⟩ := k3 k (Or.inr hk)
        obtain ⟨y1, y2, -⟩ := z2.ok O
        exact ih k y1 z1 (by omega)
      · obtain ⟨z1, i, z2⟩ := k3 k (Or.inl hk)
        obtain ⟨y1, y2, -⟩ := z2.ok O
        exact ih k y1 z1 (by omega)
    · unfold en
      rw [kids_cont, sp_cont hqc hqw hcw hq.2.2.1 hz, if_neg e, if_neg hmc, if_neg (show ¬ m = w from fun e => hm (e ▸ h0)), ← kids_cont]
      apply fm_cg
      intro k hk
      obtain ⟨i, hi⟩ := mem_kids hm (inn O hm hr) O hk
      obtain ⟨y1, y2, -⟩ := hi.ok O
      refine ih k y1 (fun z => ?_) (by omega)
      rw [z] at hi
      exact e (J _ _ _ _ _ hi hq).1
end SP2
/-! counting -/
theorem cn_ge {f : Nat → Int32} : ∀ (N : Nat) (l : List Nat), l.Nodup → (∀ m ∈ l, m < N ∧ ¬ f m = 0) → l.length ≤ cn f N
  | 0, l, _, h => by
    cases l with
    | nil => exact Nat.le_refl _
    | cons x l => exact absurd (h x (List.mem_cons_self ..)).1 (Nat.not_lt_zero _)
  | N + 1, l, d, h => by
    unfold cn
    by_cases e : N ∈ l
    · have := cn_ge N (l.erase N) (d.erase N) (fun m hm => by
        have hm2 : m ∈ l := List.mem_of_mem_erase hm
        have hne : m ≠ N := fun q => by
          rw [q] at hm
          exact (List.Nodup.not_mem_erase d) hm
        exact ⟨by have := (h m hm2).1; omega, (h m hm2).2⟩)
      rw [List.length_erase_of_mem e] at this
      rw [if_neg (h N e).2]
      omega
    · have := cn_ge N l d (fun m hm => by
        have hne : m ≠ N := fun q => e (q ▸ hm)
        exact ⟨by have := (h m hm).1; omega, (h m hm).2⟩)
      omega
theorem kids_nd {S : SR} {rk : Nat → Nat} {x m : Nat} (O : okX S rk x) (J : jn S) (hu : ¬ nu S m = 0) (hv : ¬ nv S m = 0) : (kids S m).Nodup := by
  rw [List.nodup_iff_pairwise_ne, List.pairwise_iff_getElem]
  intro i j hi hj hij e
  rw [kids_len] at hi hj
  obtain ⟨-, -, -, -, -, o⟩ := O m hu
  obtain ⟨a, a1, -⟩ := (o hv).2.2 i hi
  obtain ⟨b, b1, -⟩ := (o hv).2.2 j hj
  have e1 := kids_at S hi
  have e2 := kids_at S hj
  rw [gD_at (by rw [kids_len]; exact hi), a1] at e1
  rw [gD_at (by rw [kids_len]; exact hj), b1] at e2
  have e1 : (kids S m)[i] = a := e1
  have e2 : (kids S m)[j] = b := e2
  have ab : a = b := by rw [← e1, ← e2]; exact e
  subst ab
  have := (J m m i j a ⟨hu, hv, hi, a1⟩ ⟨hu, hv, hj, b1⟩).2
  omega
theorem rwB_nd {S : SR} {rk : Nat → Nat} {x : Nat} (O : okX S rk x) (J : jn S) : ∀ l : List Nat, l.Nodup → (∀ m ∈ l, ¬ nu S m = 0 ∧ ¬ nv S m = 0) → (rwB S l).Nodup
  | [], _, _ => List.nodup_nil
  | m :: l, d, h => by
    unfold rwB
    rw [List.flatMap_cons, List.nodup_append]
    rw [List.nodup_cons] at d
    obtain ⟨hu, hv⟩ := h m (List.mem_cons_self ..)
    refine ⟨kids_nd O J hu hv, rwB_nd O J l d.2 (fun k hk => h k (List.mem_cons_of_mem _ hk)), fun a ha b hb e => ?_⟩
    subst e
    rw [List.mem_flatMap] at hb
    obtain ⟨m2, g1, g2⟩ := hb
    obtain ⟨u2, v2⟩ := h m2 (List.mem_cons_of_mem _ g1)
    obtain ⟨i, hi⟩ := mem_kids hu hv O ha
    obtain ⟨j, hj⟩ := mem_kids u2 v2 O g2
    have := (J _ _ _ _ _ hi hj).1
    subst this
    exact d.1 g1
/-- all nodes of so many rows -/
def aR (S : SR) : Nat → List Nat → List Nat
  | 0, l => l
  | j + 1, l => l ++ aR S j (rwB S l)
theorem rwB_mem {S : SR} {rk : Nat → Nat} {x r : Nat} (O : okX S rk x) {l : List Nat} (h : ∀ m ∈ l, ¬ nu S m = 0 ∧ rk m = r + 1) : ∀ k ∈ rwB S l, ¬ nu S k = 0 ∧ rk k = r ∧ (k ≠ x → 1 ≤ nz S k) := by
  intro k hk
  unfold rwB at hk
  rw [List.mem_flatMap] at hk
  obtain ⟨m, g1, g2⟩ := hk
  obtain ⟨u, v⟩ := h m g1
  obtain ⟨i, hi⟩ := mem_kids u (inn O u v) O g2
  obtain ⟨y1, y2, y3⟩ := hi.ok O
  exact ⟨y1, by omega, y3⟩
theorem rwB_len {S : SR} : ∀ l : List Nat, (∀ m ∈ l, 1 ≤ nz S m) → l.length ≤ (rwB S l).length
  | [], _ => Nat.le_refl _
  | m :: l, h => by
    unfold rwB
    rw [List.flatMap_cons, List.length_append, kids_len, List.length_cons]
    have := rwB_len l (fun k hk => h k (List.mem_cons_of_mem _ hk))
    have h2 := h m (List.mem_cons_self ..)
    unfold rwB at this
    omega
theorem aR_ok {S : SR} {rk : Nat → Nat} {x : Nat} (O : okX S rk x) (J : jn S) : ∀ (r : Nat) (l : List Nat), l.Nodup → r < rk x → (∀ m ∈ l, ¬ nu S m = 0 ∧ rk m = r ∧ 1 ≤ nz S m) → (aR S r l).Nodup ∧ (∀ m ∈ aR S r l, ¬ nu S m = 0 ∧ rk m ≤ r) ∧ (r + 1) * l.length ≤ (aR S r l).length
  | 0, l, d, _, h => ⟨d, fun m hm => ⟨(h m hm).1, by have := (h m hm).2.1; omega⟩, by show (0 + 1) * l.length ≤ l.length; omega⟩
  | r + 1, l, d, hx, h => by
    have hv : ∀ m ∈ l, ¬ nu S m = 0 ∧ ¬ nv S m = 0 := fun m hm => ⟨(h m hm).1, inn O (h m hm).1 (h m hm).2.1⟩
    have hm2 := rwB_mem O (l := l) (r := r) (fun m hm => ⟨(h m hm).1, (h m hm).2.1⟩)
    obtain ⟨i1, i2, i3⟩ := aR_ok O J r (rwB S l) (rwB_nd O J l d hv) (by omega) (fun k hk => by
      obtain ⟨y1, y2, y3⟩ := hm2 k hk
      exact ⟨y1, y2, y3 (fun e => by rw [e] at y2; omega)⟩)
    have hl := rwB_len (S := S) l (fun m hm => (h m hm).2.2)
    refine ⟨?_, ?_, ?_⟩
    · unfold aR
      rw [List.nodup_append]
      refine ⟨d, i1, fun a ha b hb e => ?_⟩
      subst e
      have := (h a ha).2.1
      have := (i2 a hb).2
      omega
    · intro m hm
      unfold aR at hm
      rw [List.mem_append] at hm
      rcases hm with hm | hm
      · exact ⟨(h m hm).1, by have := (h m hm).2.1; omega⟩
      · exact ⟨(i2 m hm).1, by have := (i2 m hm).2; omega⟩
    · unfold aR
      rw [List.length_append]
      have e1 : (r + 1 + 1) * l.length = (r + 1) * l.length + l.length := by rw [Nat.add_mul, Nat.one_mul]
      have e2 : (r + 1) * l.length ≤ (r + 1) * (rwB S l).length := Nat.mul_le_mul_left _ hl
      omega
/-- a root with eight or nine below it is not high -/
theorem rk_low {S : SR} {rk : Nat → Nat} {n : Nat} (O : okX S rk n) (J : jn S) (hu : ¬ nu S n = 0) (hz : 8 ≤ nz S n) : rk n ≤ 7 := by
  cases hr : rk n with
  | zero => omega
  | succ r =>
    have hv := inn O hu hr
    have hk : ∀ k ∈ kids S n, ¬ nu S k = 0 ∧ rk k = r ∧ 1 ≤ nz S k := by
      intro k hk
      obtain ⟨i, hi⟩ := mem_kids hu hv O hk
      obtain ⟨y1, y2, y3⟩ := hi.ok O
      exact ⟨y1, by omega, y3 (fun e => by rw [e] at y2; omega)⟩
    obtain ⟨i1, i2, i3⟩ := aR_ok O J r (kids S n) (kids_nd O J hu hv) (by omega) hk
    have c := cn_ge (f := nu S) 64 (n :: aR S r (kids S n)) (by
      rw [List.nodup_cons]
      refine ⟨fun hm => ?_, i1⟩
      have := (i2 n hm).2
      omega) (fun m hm => by
      rw [List.mem_cons] at hm
      rcases hm with hm | hm
      · rw [hm]
        exact ⟨(O n hu).1, hu⟩
      · exact ⟨(O m (i2 m hm).1).1, (i2 m hm).1⟩)
    have c2 := cn_le (nu S) 64
    rw [List.length_cons] at c
    rw [kids_len] at i3
    have : (r + 1) * 8 ≤ (r + 1) * nz S n := Nat.mul_le_mul_left _ hz
    omega
theorem rws_nd {S : SR} {rk : Nat → Nat} (O : okS S rk) (J : jn S) : ∀ (j r : Nat) (l : List Nat), l.Nodup → (∀ m ∈ l, ¬ nu S m = 0 ∧ rk m = r) → j ≤ r → (rws S j l).Nodup ∧ ∀ m ∈ rws S j l, ¬ nu S m = 0
  | 0, r, l, d, h, _ => ⟨d, fun m hm => (h m hm).1⟩
  | j + 1, 0, l, d, h, hj => by omega
  | j + 1, r + 1, l, d, h, hj => by
    have OX := okX_of (c := 0) O
    exact rws_nd O J j r (rwB S l) (rwB_nd OX J l d (fun m hm => ⟨(h m hm).1, inn OX (h m hm).1 (h m hm).2⟩)) (fun k hk => ⟨(rwB_mem OX h k hk).1, (rwB_mem OX h k hk).2.1⟩) (by omega)
theorem rws_64 {S : SR} {rk : Nat → Nat} {n : Nat} (O : okS S rk) (J : jn S) (hu : ¬ nu S n = 0) {j : Nat} (hj : j ≤ rk n) : (rws S j [n]).length ≤ 64 := by
  obtain ⟨a, b⟩ := rws_nd O J j (rk n) [n] (by simp) (fun m hm => by
    rw [List.mem_singleton] at hm
    rw [hm]
    exact ⟨hu, rfl⟩) hj
  have := cn_ge (f := nu S) 64 _ a (fun m hm => ⟨(O m (b m hm)).1, b m hm⟩)
  have := cn_le (nu S) 64
  omega
