/-! the class's letGo, whole -/
/-- the chain of first nodes from n down -/
def chC (S : SR) (rk : Nat → Nat) : Nat → Nat → Prop
  | 0, n => n < 64 ∧ ¬ nu S n = 0 ∧ nz S n ≤ 8 ∧ rk n = 0 ∧ nv S n = 0
  | r + 1, n => n < 64 ∧ ¬ nu S n = 0 ∧ nz S n ≤ 8 ∧ rk n = r + 1 ∧ ∃ k : Nat, nh S n 0 = k ∧ chC S rk r k ∧ ¬ nv S n = 0
theorem chC.hd {S : SR} {rk : Nat → Nat} : ∀ {r n : Nat}, chC S rk r n → n < 64 ∧ ¬ nu S n = 0 ∧ nz S n ≤ 8 ∧ rk n = r
  | 0, _, h => ⟨h.1, h.2.1, h.2.2.1, h.2.2.2.1⟩
  | _ + 1, _, h => ⟨h.1, h.2.1, h.2.2.1, h.2.2.2.1⟩
theorem chC.free {S : SR} {rk : Nat → Nat} {m : Nat} : ∀ {r n : Nat}, chC S rk r n → r < rk m → chC (nFree m S) rk r n
  | 0, n, h, hm => by
    obtain ⟨a, b, c, d, e⟩ := h
    refine ⟨a, ?_, c, d, e⟩
    show ¬ upd (nu S) m 0 n = 0
    rw [upd_ne _ _ (fun q => by rw [q] at d; omega)]
    exact b
  | r + 1, n, h, hm => by
    obtain ⟨a, b, c, d, k, e, f, g⟩ := h
    refine ⟨a, ?_, c, d, k, e, f.free (by omega), g⟩
    show ¬ upd (nu S) m 0 n = 0
    rw [upd_ne _ _ (fun q => by rw [q] at d; omega)]
    exact b
section CG2
variable {Q : Option AV → Hp → Prop} {rk : Nat → Nat}
theorem c_letGo_144 : ∀ (r n i : Nat) (S : SR) (h : Hp), chC S rk r n → h.1 16 7 = nI n → i + r < 64 → C_st S h →
    (∀ h', fr [16, 18, 19, 20] h h' → (∀ q, q ≠ 5 → q ≠ 7 → h'.1 16 q = h.1 16 q) → h'.1 16 7 = nI (cps r n S).2 → C_st (cps r n S).1 h' → Q none h') → Ev mX5_letGo 144 [(0, vR 16), (5, vI (nI i))] [] h Q := by
  intro r
  induction r with
  | zero =>
    intro n i S h hc hn hi H HQ
    obtain ⟨a, b, c, d, e⟩ := hc
    obtain ⟨q1, q2, q3⟩ := H.2.2 n a b
    apply sX5_letGo_144
    simp (disch := omega) only [nt_le, nt_lt, nt_eq, nt_cl, nt_vp, nI_add, lu_le, lu_lt, lu_eq, ul_le, ul_lt, ul_eq, lu_add, ul_add, lu_sub, lu_mul, ul_mul, nt_sub, nt_m1]
    rw [hn]
    simp (disch := omega) only [nt_le, nt_lt, nt_eq, nt_cl, nt_vp, nI_add, lu_le, lu_lt, lu_eq, ul_le, ul_lt, ul_eq, lu_add, ul_add, lu_sub, lu_mul, ul_mul, nt_sub, nt_m1]
    rw [q2]
    exact ⟨fun c => by omega, fun _ => ⟨a, fun _ => HQ h fr.rf (fun _ _ _ => rfl) hn H, fun c => absurd e c⟩⟩
  | succ r ih =>
    intro n i S h hc hn hi H HQ
    obtain ⟨a, b, c, d, k, e, f, g⟩ := hc
    obtain ⟨q1, q2, q3⟩ := H.2.2 n a b
    apply sX5_letGo_144
    simp (disch := omega) only [nt_le, nt_lt, nt_eq, nt_cl, nt_vp, nI_add, lu_le, lu_lt, lu_eq, ul_le, ul_lt, ul_eq, lu_add, ul_add, lu_sub, lu_mul, ul_mul, nt_sub, nt_m1]
    rw [hn]
    simp (disch := omega) only [nt_le, nt_lt, nt_eq, nt_cl, nt_vp, nI_add, lu_le, lu_lt, lu_eq, ul_le, ul_lt, ul_eq, lu_add, ul_add, lu_sub, lu_mul, ul_mul, nt_sub, nt_m1]
    rw [q2, q1]
    simp (disch := omega) only [nt_le, nt_lt, nt_eq, nt_cl, nt_vp, nI_add, lu_le, lu_lt, lu_eq, ul_le, ul_lt, ul_eq, lu_add, ul_add, lu_sub, lu_mul, ul_mul, nt_sub, nt_m1]
    refine ⟨fun c => by omega, fun _ => ⟨a, fun c => absurd c g, fun _ => ⟨a, fun c1 => ?_, fun c1 => ?_⟩⟩⟩
    · rw [cps, if_neg g, if_neg c1] at HQ
      exact HQ h fr.rf (fun _ _ _ => rfl) hn H
    · rw [cps, if_neg g, if_pos c1, e, Int.toNat_natCast] at HQ
      have fk := f.hd
      refine c_kidOf (i := 0) (k := k) H a b (by omega) (by omega) e fk.1 ⟨nI k, rfl, fun h1 e1 => ?_⟩
      have f1 : fr [16] h h1 := by rw [e1]; exact fr.rf.sI (by decide) _
      have H1 : C_st S h1 := H.fr f1 (by rw [e1, sI_at, upd_ne _ _ (by decide)]) (by decide)
      refine c_freeNode H1 a b (fun h2 f2 g2 H2 => ⟨rfl, ?_⟩)
      refine ih k (i + 1) (nFree n S) h2 (f.free (by omega)) ?_ (by omega) H2 (fun h' y1 y2 y3 y4 => HQ h' (((f1.mono (by decide)).tr f2).tr y1) (fun q a b => ?_) y3 y4)
      · rw [g2 7 (by decide), e1, sI_at, upd_at]
      · rw [y2 q a b, g2 q a, e1, sI_at, upd_ne _ _ b]
theorem c_letGo {S : SR} {h : Hp} (H : C_st S h) (O : okS S rk) {e : Int64} {n : Nat} (hn : h.1 16 7 = nI n) (hu : ¬ nu S n = 0) (hr : rk n < 60) {p : List (Nat × Nat)} {l f : Nat} (hp : pw S e.toInt (rk n) n = (p, l)) (hf : f = fnd (nh S l) e.toInt (nz S l) (nz S l) 0)
    (H0 : ¬ f < nz S l → ∀ h', fr [16, 22, 23] h h' → (∀ q, q ≠ 10 → h'.1 16 q = h.1 16 q) → Q none h')
    (hch : f < nz S l → chC (guK p (rk n) l (tOut l f S)) rk (rk n) n)
    (H1 : f < nz S l → ∀ h' T, T = cps (rk n) n (guK p (rk n) l (tOut l f S)) → fr [16, 17, 18, 19, 20, 21, 22, 23] h h' → h'.1 16 6 = h.1 16 6 - 1 → h'.1 16 7 = nI T.2 → C_st T.1 h' → Q none h') : EvM mX5_letGo [vR 16, vL e] h Q := by
  obtain ⟨i1, i2, i3, i4, i5⟩ := pw_ok (e := e.toInt) O (rk n) n rfl hu
  have hwy := pw_wy (e := e.toInt) O hu
  obtain ⟨l1, l2, l3, l4, l5⟩ := O _ i2
  apply sX5_letGo
  refine c_goDown H O hn hu hr (fun h1 f1 g1 w1 => ⟨rfl, ?_⟩)
  have H' : C_st S h1 := H.fr f1 (g1 5 (by decide)) (by decide)
  have e1 : (pw S e.toInt (rk n) n).1 = p := by rw [hp]
  have e2 : (pw S e.toInt (rk n) n).2 = l := by rw [hp]
  rw [e1] at i1 hwy
  rw [e2] at i2 hwy l1 l2
  rw [hp] at w1
  have wA : wyA p (rk n) l h1 := by
    unfold C_way at w1
    have w2 : h1.1 16 10 = nI p.length ∧ (∀ k, k < p.length → h1.1 22 k = nI (p.getD k (0, 0)).1 ∧ h1.1 23 (k + 1) = nI (p.getD k (0, 0)).2) ∧ h1.1 22 p.length = nI l := w1
    rw [i1] at w2
    exact ⟨w2.2.1, w2.2.2⟩
  have w10 : h1.1 16 10 = nI (rk n) := by
    unfold C_way at w1
    have w2 : h1.1 16 10 = nI p.length := w1.1
    rw [i1] at w2
    exact w2
  obtain ⟨q1, q2, q3⟩ := H'.2.2 l l1 i2
  rw [w10]
  simp (disch := omega) only [nt_le, nt_lt, nt_eq, nt_cl, nt_vp, nI_add, lu_le, lu_lt, lu_eq, ul_le, ul_lt, ul_eq, lu_add, ul_add, lu_sub, lu_mul, ul_mul, nt_sub, nt_m1]
  rw [wA.2]
  refine ⟨by omega, ?_⟩
  refine c_letGo_18 H' l1 i2 l2 (nz S l) 0 (by omega) ?_
  rw [← hf]
  have hfl : f ≤ nz S l := by
    have := fnd_le (nh S l) e.toInt (nz S l) (nz S l) 0
    rw [← hf] at this
    omega
  apply sX5_letGo_49
  simp (disch := omega) only [nt_le, nt_lt, nt_eq, nt_cl, nt_vp, nI_add, lu_le, lu_lt, lu_eq, ul_le, ul_lt, ul_eq, lu_add, ul_add, lu_sub, lu_mul, ul_mul, nt_sub, nt_m1]
  rw [q1]
  try simp (disch := omega) only [nt_le, nt_lt, nt_eq, nt_cl, nt_vp, nI_add, lu_le, lu_lt, lu_eq, ul_le, ul_lt, ul_eq, lu_add, ul_add, lu_sub, lu_mul, ul_mul, nt_sub, nt_m1]
  refine ⟨l1, fun c => ?_, fun c => H0 c h1 f1 g1⟩
  refine c_takeOut H' l1 i2 c (by omega) (fun h2 f2 H2 => ⟨rfl, fun h3 e3 => ?_⟩)
  have f3 : fr [16] h2 h3 := by rw [e3]; exact fr.rf.sI (by decide) _
  have H3 : C_st (tOut l f S) h3 := H2.fr f3 (by rw [e3, sI_at, upd_ne _ _ (by decide)]) (by decide)
  have s10 : h3.1 16 10 = nI (rk n) := by rw [e3, sI_at, upd_ne _ _ (by decide), f2.i 16 (by decide), w10]
  rw [s10]
  have hwy2 : wyK (tOut l f S) p (rk n) l := by
    intro j hj
    obtain ⟨a1, a2, a3, a4, a5, a6⟩ := hwy j hj
    have hz : nz (tOut l f S) (p.getD j (0, 0)).1 = nz S (p.getD j (0, 0)).1 := va_up_ne _ _ a5
    exact ⟨a1, a2, by rw [hz]; exact a3, by rw [hz]; exact a4, a5, a6⟩
  have wA2 : wyA p (rk n) l h3 := by
    unfold wyA
    rw [f3.i 22 (by decide), f3.i 23 (by decide), f2.i 22 (by decide), f2.i 23 (by decide)]
    exact wA
  have hz2 : nz (tOut l f S) l ≤ 8 := by
    show va_up (nz S) l (nz S l - 1) l ≤ 8
    rw [va_up_self]
    omega
  refine c_letGo_84 (p := p) (rk n) l (tOut l f S) h3 H3 (by omega) l1 i2 hz2 hwy2 wA2 (fun h4 f4 g4 H4 => ?_)
  have r4 : h4.1 16 7 = nI n := by rw [g4 7 (by decide), e3, sI_at, upd_ne _ _ (by decide), f2.i 16 (by decide), g1 7 (by decide), hn]
  refine c_letGo_144 (rk n) n 0 _ h4 (hch c) r4 (by omega) H4 (fun h5 f5 g5 r5 H5 => H1 c h5 _ rfl ?_ ?_ r5 H5)
  · exact ((((f1.mono (by decide)).tr (f2.mono (by decide))).tr (f3.mono (by decide))).tr (f4.mono (by decide))).tr (f5.mono (by decide))
  · rw [g5 6 (by decide) (by decide), g4 6 (by decide), e3, sI_at, upd_at, f2.i 16 (by decide), g1 6 (by decide)]
end CG2
