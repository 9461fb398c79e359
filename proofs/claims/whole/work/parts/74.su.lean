/-! divisions all the way up -/
def wyP (S : SR) (p : List (Nat × Nat)) (n : Nat) : Nat → Nat → Prop
  | 0, c => c = n
  | k + 1, c => KD S (p.getD k (0, 0)).1 (p.getD k (0, 0)).2 c ∧ wyP S p n k (p.getD k (0, 0)).1
theorem wyP_cg {S S' : SR} {rk : Nat → Nat} {x n : Nat} {p : List (Nat × Nat)} (O : okX S rk x) : ∀ (k c : Nat), (∀ a i y, KD S a i y → rk c < rk a → KD S' a i y) → wyP S p n k c → wyP S' p n k c
  | 0, c, _, h => h
  | k + 1, c, H, h => by
    have r := (h.1.ok O).2.1
    exact ⟨H _ _ _ h.1 (by omega), wyP_cg O k _ (fun a i y g1 g2 => H a i y g1 (by omega)) h.2⟩
theorem wyP_rk {S : SR} {rk : Nat → Nat} {x n : Nat} {p : List (Nat × Nat)} (O : okX S rk x) : ∀ (k c : Nat), wyP S p n k c → ∀ j, j < k → ¬ nu S (p.getD j (0, 0)).1 = 0 ∧ rk (p.getD j (0, 0)).1 = rk c + (k - j)
  | 0, c, _, j, hj => by omega
  | k + 1, c, h, j, hj => by
    have r := (h.1.ok O).2.1
    by_cases e : j = k
    · subst e
      exact ⟨h.1.1, by omega⟩
    · obtain ⟨a, b⟩ := wyP_rk O k _ h.2 j (by omega)
      exact ⟨a, by omega⟩
theorem ff_mono {f : Nat → Int32} {x : Nat} : ∀ {n i d : Nat}, ff f n i = some x → ff f (n + d) i = some x
  | 0, i, d, h => by cases h
  | n + 1, i, d, h => by
    rw [Nat.add_right_comm]
    unfold ff at h ⊢
    by_cases e : f i = 0
    · rw [if_pos e] at h ⊢
      exact h
    · rw [if_neg e] at h ⊢
      exact ff_mono h
theorem fw_eq {S : SR} (h : cn (nu S) 64 < 64) : fw 80 S = fw 64 S := by
  have e := (fw_ok h).1
  unfold fw at e ⊢
  rw [ff_mono (d := 16) e]
  rfl
theorem suK_le {N : Nat} {p : List (Nat × Nat)} {k c : Nat} {S : SR} (h : nz S c ≤ 8) : suK N p k c S = (S, none) := by
  cases k with
  | zero => rw [suK, if_pos h]
  | succ k => rw [suK, if_pos h]
theorem nq_le8 {p : List (Nat × Nat)} {S : SR} {k z : Nat} (h : z ≤ 8) : nq p S k z = 0 := by
  cases k with
  | zero => rw [nq, if_pos h]
  | succ k => rw [nq, if_pos h]
theorem suK_0 {N : Nat} {p : List (Nat × Nat)} {c : Nat} {S : SR} (h : ¬ nz S c ≤ 8) : suK N p 0 c S = (rto c (fw N S) (fw N (dvd c (fw N S) S)) (dvd c (fw N S) S), some (fw N (dvd c (fw N S) S))) := by
  rw [suK, if_neg h]
theorem suK_s {N : Nat} {p : List (Nat × Nat)} {k c : Nat} {S : SR} (h : ¬ nz S c ≤ 8) : suK N p (k + 1) c S = suK N p k (p.getD k (0, 0)).1 (pIn (p.getD k (0, 0)).1 ((p.getD k (0, 0)).2 + 1) (fw N S) (dvd c (fw N S) S)) := by
  rw [suK, if_neg h]
theorem su_ok {p : List (Nat × Nat)} {n : Nat} : ∀ (k c : Nat) (S : SR) (rk : Nat → Nat), TX S rk n c → ¬ nu S c = 0 → 1 ≤ nz S c → (¬ nv S n = 0 → 2 ≤ nz S n) → wyP S p n k c → cn (nu S) 64 + nq p S k (nz S c) ≤ 64 →
    suK 80 p k c S = suK 64 p k c S ∧ ∃ rk', TI (suK 64 p k c S).1 rk' ((suK 64 p k c S).2.getD n) ∧ en (suK 64 p k c S).1 (rk' ((suK 64 p k c S).2.getD n)) ((suK 64 p k c S).2.getD n) = en S (rk n) n ∧ (rk n ≤ 8 → rk' ((suK 64 p k c S).2.getD n) ≤ 8)
  | 0, c, S, rk, H, hu, h1, h2, hw, hc => by
    have ecn : c = n := hw
    subst ecn
    by_cases h8 : nz S c ≤ 8
    · rw [suK_le h8, suK_le h8]
      exact ⟨rfl, rk, ⟨okS_of H.1 h8 (Or.inl h1), H.2.1, H.2.2.1, H.2.2.2.1, H.2.2.2.2, h2⟩, rfl, fun h => h⟩
    · have hz : nz S c = 9 := by
        have := (H.1 c hu).2.1
        omega
      have hn : nq p S 0 (nz S c) = 2 := by
        unfold nq
        rw [if_neg h8]
      rw [hn] at hc
      obtain ⟨w1, w2, w3⟩ := fw_ok (N := 64) (S := S) (by omega)
      have c2 : cn (nu (dvd c (fw 64 S) S)) 64 = cn (nu S) 64 + 1 := cn_new w2 w3
      obtain ⟨t1, t2, t3⟩ := fw_ok (N := 64) (S := dvd c (fw 64 S) S) (by omega)
      have e80 : fw 80 S = fw 64 S := fw_eq (by omega)
      have f80 : fw 80 (dvd c (fw 64 S) S) = fw 64 (dvd c (fw 64 S) S) := fw_eq (by omega)
      have t4 : upd (nu S) (fw 64 S) 1 (fw 64 (dvd c (fw 64 S) S)) = 0 := t3
      rw [suK_0 h8, suK_0 h8, e80, f80]
      generalize fw 64 (dvd c (fw 64 S) S) = t at *
      generalize fw 64 S = w at *
      have hwt : w ≠ t := fun e => by
        rw [e, upd_at] at t4
        exact absurd t4 (by decide)
      rw [upd_ne _ _ (Ne.symm hwt)] at t4
      refine ⟨rfl, _, rt_TI H w2 t2 w3 t4 hwt hz, ?_, fun _ => ?_⟩
      · show en (rts c w t S) (va_up _ t (rk c + 1) t) t = _
        rw [va_up_self]
        exact rt_en H.1 w3 t4 hwt hu hz
      · show va_up _ t (rk c + 1) t ≤ 8
        rw [va_up_self]
        have := rk_low H.1 H.2.2.1 hu (by omega)
        omega
  | k + 1, c, S, rk, H, hu, h1, h2, hw, hc => by
    by_cases h8 : nz S c ≤ 8
    · rw [suK_le h8, suK_le h8]
      exact ⟨rfl, rk, ⟨okS_of H.1 h8 (Or.inl h1), H.2.1, H.2.2.1, H.2.2.2.1, H.2.2.2.2, h2⟩, rfl, fun h => h⟩
    · have hz : nz S c = 9 := by
        have := (H.1 c hu).2.1
        omega
      have hn : nq p S (k + 1) (nz S c) = 1 + nq p S k (nz S (p.getD k (0, 0)).1 + 1) := by
        rw [nq, if_neg h8]
      rw [hn] at hc
      obtain ⟨w1, w2, w3⟩ := fw_ok (N := 64) (S := S) (by omega)
      have c2 : cn (upd (nu S) (fw 64 S) 1) 64 = cn (nu S) 64 + 1 := cn_new w2 w3
      have e80 : fw 80 S = fw 64 S := fw_eq (by omega)
      rw [suK_s h8, suK_s h8, e80]
      have rks := wyP_rk H.1 (k + 1) c hw
      generalize fw 64 S = w at *
      obtain ⟨hq, hw2⟩ := hw
      have kq := hq.ok H.1
      have rks2 := wyP_rk H.1 k _ hw2
      generalize (p.getD k (0, 0)).1 = q at *
      generalize (p.getD k (0, 0)).2 = t at *
      have hqc : q ≠ c := fun e => by
        rw [e] at kq
        omega
      have hqw : q ≠ w := fun e => hq.1 (e ▸ w3)
      have hcw : c ≠ w := fun e => hu (e ▸ w3)
      have hcn : c ≠ n := fun e => by
        rcases H.2.2.2.2 q hq.1 with r | r
        · rw [r, ← e] at kq
          omega
        · rw [← e] at r
          omega
      have HT := sp_TX H hq hcn w2 w3 hu hz
      have zz := sp_nz (S := S) (t := t) hqc hqw hcw
      have ih := su_ok (p := p) (n := n) k q (sp q t c w S) (va_up rk w (rk c)) HT (by rw [sp_nu, upd_ne _ _ hqw]; exact hq.1) (by rw [zz, if_pos rfl]; omega) ?_ ?_ ?_
      · obtain ⟨i0, rk', i1, i2, i3⟩ := ih
        have rn : va_up rk w (rk c) n = rk n := va_up_ne _ _ (fun e => H.2.1 (e ▸ w3))
        refine ⟨i0, rk', i1, ?_, ?_⟩
        · rw [show pIn q (t + 1) (w : Int) (dvd c w S) = sp q t c w S from rfl, i2, rn]
          exact sp_en H.1 H.2.2.1 hq w3 hu hz _ n H.2.1 (Ne.symm hcn) rfl
        · rw [rn] at i3
          exact i3
      · have hnw : n ≠ w := fun e => H.2.1 (e ▸ w3)
        rw [sp_nv, upd_ne _ _ hnw, zz]
        intro hv
        have := h2 hv
        by_cases e : n = q
        · rw [if_pos e, ← e]
          omega
        · rw [if_neg e, if_neg (Ne.symm hcn), if_neg hnw]
          exact this
      · refine wyP_cg H.1 k q (fun a i y g1 g2 => ?_) hw2
        have a1 : a ≠ q := fun e => by
          rw [e] at g2
          omega
        have a2 : a ≠ c := fun e => by
          rw [e] at g2
          omega
        have a3 : a ≠ w := fun e => g1.1 (e ▸ w3)
        unfold KD
        rw [sp_nu, sp_nv, zz, sp_nh hqw hcw, upd_ne _ _ a3, upd_ne _ _ a3, if_neg a1, if_neg a2, if_neg a3, if_neg a1, if_neg a3]
        exact g1
      · have e1 : nz (sp q t c w S) q = nz S q + 1 := by rw [zz, if_pos rfl]
        have e2 : nq p (sp q t c w S) k (nz S q + 1) = nq p S k (nz S q + 1) := by
          apply nq_cg
          intro j hj
          obtain ⟨y1, y2⟩ := rks2 j hj
          rw [zz, if_neg (fun e => ?_), if_neg (fun e => ?_), if_neg (show ¬ (p.getD j (0, 0)).1 = w from fun e => y1 (e ▸ w3))]
          · rw [e] at y2
            omega
          · rw [e] at y2
            omega
        rw [e1, e2]
        show cn (upd (nu S) w 1) 64 + _ ≤ 64
        rw [c2]
        omega
/-! how many nodes it takes -/
def wyD (S : SR) (p : List (Nat × Nat)) (k c : Nat) : Prop := ∀ j, j < k → ¬ nu S (p.getD j (0, 0)).1 = 0 ∧ (p.getD j (0, 0)).1 ≠ c ∧ ∀ i, i < j → (p.getD i (0, 0)).1 ≠ (p.getD j (0, 0)).1
theorem su_cn {N : Nat} {p : List (Nat × Nat)} : ∀ (k c : Nat) (S : SR), wyD S p k c → cn (nu S) N + nq p S k (nz S c) ≤ N → cn (nu (suK N p k c S).1) N = cn (nu S) N + nq p S k (nz S c)
  | 0, c, S, _, h => by
    by_cases h8 : nz S c ≤ 8
    · rw [suK_le h8, nq_le8 h8]
      rfl
    · rw [nq, if_neg h8] at h ⊢
      rw [suK_0 h8]
      obtain ⟨w1, w2, w3⟩ := fw_ok (N := N) (S := S) (by omega)
      have c2 : cn (nu (dvd c (fw N S) S)) N = cn (nu S) N + 1 := cn_new w2 w3
      obtain ⟨t1, t2, t3⟩ := fw_ok (N := N) (S := dvd c (fw N S) S) (by omega)
      have c3 : cn (upd (nu (dvd c (fw N S) S)) (fw N (dvd c (fw N S) S)) 1) N = cn (nu (dvd c (fw N S) S)) N + 1 := cn_new t2 t3
      show cn (upd (nu (dvd c (fw N S) S)) (fw N (dvd c (fw N S) S)) 1) N = _
      rw [c3, c2]
  | k + 1, c, S, hd, h => by
    by_cases h8 : nz S c ≤ 8
    · rw [suK_le h8, nq_le8 h8]
      rfl
    · rw [nq, if_neg h8] at h ⊢
      rw [suK_s h8]
      obtain ⟨w1, w2, w3⟩ := fw_ok (N := N) (S := S) (by omega)
      obtain ⟨d1, d2, d3⟩ := hd k (by omega)
      have c2 : cn (upd (nu S) (fw N S) 1) N = cn (nu S) N + 1 := cn_new w2 w3
      generalize fw N S = w at *
      have hd2 : ∀ j, j < k → nz (pIn (p.getD k (0, 0)).1 ((p.getD k (0, 0)).2 + 1) w (dvd c w S)) (p.getD j (0, 0)).1 = nz S (p.getD j (0, 0)).1 := by
        intro j hj
        obtain ⟨f1, f2, f3⟩ := hd j (by omega)
        show va_up (va_up (va_up (nz S) w 5) c 4) _ _ _ = _
        rw [va_up_ne _ _ (d3 j hj), va_up_ne _ _ f2, va_up_ne _ _ (show (p.getD j (0, 0)).1 ≠ w from fun e => f1 (e ▸ w3))]
      have e1 : nz (pIn (p.getD k (0, 0)).1 ((p.getD k (0, 0)).2 + 1) w (dvd c w S)) (p.getD k (0, 0)).1 = nz S (p.getD k (0, 0)).1 + 1 := by
        show va_up _ _ (va_up (va_up (nz S) w 5) c 4 _ + 1) _ = _
        rw [va_up_self, va_up_ne _ _ d2, va_up_ne _ _ (show (p.getD k (0, 0)).1 ≠ w from fun e => d1 (e ▸ w3))]
      have e2 := nq_cg (p := p) k (nz S (p.getD k (0, 0)).1 + 1) hd2
      have e3 : cn (nu (pIn (p.getD k (0, 0)).1 ((p.getD k (0, 0)).2 + 1) w (dvd c w S))) N = cn (nu S) N + 1 := c2
      rw [su_cn k _ _ (fun j hj => ?_) (by rw [e1, e2, e3]; omega), e1, e2, e3]
      · omega
      · obtain ⟨f1, f2, f3⟩ := hd j (by omega)
        refine ⟨?_, d3 j hj, f3⟩
        show ¬ upd (nu S) w 1 _ = 0
        rw [upd_ne _ _ (show (p.getD j (0, 0)).1 ≠ w from fun e => f1 (e ▸ w3))]
        exact f1
