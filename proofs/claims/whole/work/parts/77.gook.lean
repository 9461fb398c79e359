/-! an entry goes from a tree -/
def gs (q t c : Nat) (S : SR) : SR := tOut q t (nFree c S)
section GST
variable {S : SR} {rk : Nat → Nat} {n q t c : Nat}
theorem gs_nu (m : Nat) : nu (gs q t c S) m = upd (nu S) c 0 m := rfl
theorem gs_nv (m : Nat) : nv (gs q t c S) m = nv S m := rfl
theorem gs_nz (m : Nat) : nz (gs q t c S) m = if m = q then nz S q - 1 else nz S m := by
  show va_up (nz S) q (nz S q - 1) m = _
  by_cases e : m = q
  · rw [e, va_up_self, if_pos rfl]
  · rw [va_up_ne _ _ e, if_neg e]
theorem gs_nh (m : Nat) : nh (gs q t c S) m = if m = q then delf (nh S q) t else nh S m := by
  show va_up (nh S) q (delf (nh S q) t) m = _
  by_cases e : m = q
  · rw [e, va_up_self, if_pos rfl]
  · rw [va_up_ne _ _ e, if_neg e]
theorem gs_cont (ht : t < nz S q) (m : Nat) : cont (gs q t c S) m = if m = q then (cont S q).take t ++ (cont S q).drop (t + 1) else cont S m := by
  unfold gs
  rw [cont_tOut (S := nFree c S) ht]
  rfl
theorem gs_us {m : Nat} (h : ¬ nu (gs q t c S) m = 0) : m ≠ c ∧ ¬ nu S m = 0 := by
  rw [gs_nu] at h
  by_cases e : m = c
  · rw [e, upd_at] at h
    exact absurd rfl h
  · rw [upd_ne _ _ e] at h
    exact ⟨e, h⟩
theorem gs_KD (hq : KD S q t c) {a i k : Nat} (h : KD (gs q t c S) a i k) : a ≠ c ∧ ∃ i', KD S a i' k ∧ ((a = q ∧ ((i < t ∧ i' = i) ∨ (t ≤ i ∧ i' = i + 1))) ∨ (a ≠ q ∧ i' = i)) := by
  obtain ⟨k1, k2, k3, k4⟩ := h
  obtain ⟨u1, u2⟩ := gs_us k1
  rw [gs_nv] at k2
  rw [gs_nz] at k3
  rw [gs_nh] at k4
  refine ⟨u1, ?_⟩
  by_cases e : a = q
  · subst e
    rw [if_pos rfl] at k3 k4
    unfold delf at k4
    by_cases z : i < t
    · rw [if_pos z] at k4
      exact ⟨i, ⟨u2, k2, by omega, k4⟩, Or.inl ⟨rfl, Or.inl ⟨z, rfl⟩⟩⟩
    · rw [if_neg z] at k4
      exact ⟨i + 1, ⟨u2, k2, by omega, k4⟩, Or.inl ⟨rfl, Or.inr ⟨by omega, rfl⟩⟩⟩
  · rw [if_neg e] at k3 k4
    exact ⟨i, ⟨u2, k2, k3, k4⟩, Or.inr ⟨e, rfl⟩⟩
theorem gs_DK (hq : KD S q t c) {a i k : Nat} (h : KD S a i k) (hac : a ≠ c) (hkc : k ≠ c) : ∃ i', KD (gs q t c S) a i' k := by
  obtain ⟨k1, k2, k3, k4⟩ := h
  unfold KD
  by_cases e : a = q
  · subst e
    have hit : i ≠ t := fun z => by
      rw [z, hq.2.2.2] at k4
      exact hkc (by exact_mod_cast k4.symm)
    by_cases z : i < t
    · refine ⟨i, ?_⟩
      rw [gs_nu, gs_nv, gs_nz, gs_nh, upd_ne _ _ hac, if_pos rfl, if_pos rfl]
      exact ⟨k1, k2, by have := hq.2.2.1; omega, by unfold delf; rw [if_pos z]; exact k4⟩
    · refine ⟨i - 1, ?_⟩
      rw [gs_nu, gs_nv, gs_nz, gs_nh, upd_ne _ _ hac, if_pos rfl, if_pos rfl]
      exact ⟨k1, k2, by omega, by unfold delf; rw [if_neg (by omega), show i - 1 + 1 = i by omega]; exact k4⟩
  · refine ⟨i, ?_⟩
    rw [gs_nu, gs_nv, gs_nz, gs_nh, upd_ne _ _ hac, if_neg e, if_neg e]
    exact ⟨k1, k2, k3, k4⟩
theorem gs_TX (H : TX S rk n c) (hq : KD S q t c) (hcn : c ≠ n) (hu : ¬ nu S c = 0) (hz : nz S c = 0) : TX (gs q t c S) rk n q := by
  obtain ⟨O, hn, J, P, R⟩ := H
  have kq := hq.ok O
  have hqc : q ≠ c := fun e => by
    rw [e] at kq
    omega
  have KO : ∀ a i k, KD (gs q t c S) a i k → ¬ nu (gs q t c S) k = 0 ∧ rk k + 1 = rk a ∧ (k ≠ q → 1 ≤ nz (gs q t c S) k) := by
    intro a i k h
    obtain ⟨y1, i', y2, y3⟩ := gs_KD hq h
    obtain ⟨u1, u2, u3⟩ := y2.ok O
    have hkc : k ≠ c := fun e => by
      rw [e] at y2
      obtain ⟨x1, x2⟩ := J _ _ _ _ _ y2 hq
      omega
    refine ⟨by rw [gs_nu, upd_ne _ _ hkc]; exact u1, u2, fun z => ?_⟩
    rw [gs_nz, if_neg z]
    exact u3 hkc
  refine ⟨?_, ?_, ?_, ?_, ?_⟩
  · intro m hm
    obtain ⟨m1, m2⟩ := gs_us hm
    obtain ⟨o1, o2, o3, o4, o5, o6⟩ := O m m2
    refine ⟨o1, ?_, fun z => ?_, o4, o5, fun hv => ?_⟩
    · rw [gs_nz]
      have := (O q hq.1).2.1
      split <;> omega
    · rw [gs_nz, if_neg z]
      exact o3 m1
    · obtain ⟨x1, x2, x3⟩ := o6 hv
      refine ⟨x1, fun z => by rw [gs_nz, if_neg z]; exact x2 m1, fun i hi => ?_⟩
      have ex : ∃ k : Nat, nh (gs q t c S) m i = k := by
        rw [gs_nh]
        rw [gs_nz] at hi
        by_cases e : m = q
        · rw [if_pos e] at hi ⊢
          unfold delf
          by_cases z : i < t
          · rw [if_pos z]
            obtain ⟨k, k1, -⟩ := x3 i (by rw [e]; omega)
            rw [e] at k1
            exact ⟨k, k1⟩
          · rw [if_neg z]
            obtain ⟨k, k1, -⟩ := x3 (i + 1) (by rw [e]; omega)
            rw [e] at k1
            exact ⟨k, k1⟩
        · rw [if_neg e] at hi ⊢
          obtain ⟨k, k1, -⟩ := x3 i hi
          exact ⟨k, k1⟩
      obtain ⟨k, hk⟩ := ex
      obtain ⟨y1, y2, y3⟩ := KO m i k ⟨hm, hv, hi, hk⟩
      exact ⟨k, hk, y1, y2, y3⟩
  · rw [gs_nu, upd_ne _ _ (Ne.symm hcn)]
    exact hn
  · intro a b i j k h1 h2
    obtain ⟨y1, i', y2, y3⟩ := gs_KD hq h1
    obtain ⟨z1, j', z2, z3⟩ := gs_KD hq h2
    obtain ⟨x1, x2⟩ := J _ _ _ _ _ y2 z2
    omega
  · intro m hm
    obtain ⟨m1, m2⟩ := gs_us hm
    rcases P m m2 with h | ⟨a, i, h⟩
    · exact Or.inl h
    · have hac : a ≠ c := fun e => by
        have := h.2.2.1
        rw [e, hz] at this
        omega
      obtain ⟨i', h'⟩ := gs_DK hq h hac m1
      exact Or.inr ⟨a, i', h'⟩
  · intro m hm
    exact R m (gs_us hm).2
theorem gs_en (O : okX S rk c) (J : jn S) (hq : KD S q t c) (hu : ¬ nu S c = 0) (hz : nz S c = 0) : ∀ r m, ¬ nu S m = 0 → m ≠ c → rk m = r → en (gs q t c S) r m = en S r m := by
  have kq := hq.ok O
  have c0 : cont S c = [] := by
    apply List.eq_nil_of_length_eq_zero
    rw [cont_len, hz]
  have e0 : ∀ r, en S r c = [] := by
    intro r
    cases r with
    | zero => exact c0
    | succ r =>
      rw [en, kids_cont, c0]
      rfl
  intro r
  induction r with
  | zero =>
    intro m hm hmc hr
    unfold en
    rw [gs_cont hq.2.2.1, if_neg (show ¬ m = q from fun e => by rw [e] at hr; omega)]
  | succ r ih =>
    intro m hm hmc hr
    by_cases e : m = q
    · subst e
      obtain ⟨X, Y, k1, k2, k3⟩ := kids_split O J hq
      have e2 : kids (gs m t c S) m = X ++ Y := by
        rw [kids_cont, gs_cont hq.2.2.1, if_pos rfl, List.map_append, List.map_take, List.map_drop, ← kids_cont, k1]
        have t1 : (X ++ c :: Y).take t = X := by
          rw [← k2, List.take_append]
          simp
        have t2 : (X ++ c :: Y).drop (t + 1) = Y := by
          rw [← k2, List.drop_append]
          simp
        rw [t1, t2]
      unfold en
      rw [e2, k1]
      simp only [List.flatMap_append, List.flatMap_cons]
      rw [e0, List.nil_append, fm_cg (l := X) (g := en S r) (fun k hk => ?_), fm_cg (l := Y) (g := en S r) (fun k hk => ?_)]
      · obtain ⟨z1, i, z2⟩ := k3 k (Or.inr hk)
        obtain ⟨y1, y2, -⟩ := z2.ok O
        exact ih k y1 z1 (by omega)
      · obtain ⟨z1, i, z2⟩ := k3 k (Or.inl hk)
        obtain ⟨y1, y2, -⟩ := z2.ok O
        exact ih k y1 z1 (by omega)
    · unfold en
      rw [kids_cont, gs_cont hq.2.2.1, if_neg e, ← kids_cont]
      apply fm_cg
      intro k hk
      obtain ⟨i, hi⟩ := mem_kids hm (inn O hm hr) O hk
      obtain ⟨y1, y2, -⟩ := hi.ok O
      refine ih k y1 (fun z => ?_) (by omega)
      rw [z] at hi
      exact e (J _ _ _ _ _ hi hq).1
end GST
theorem gu_ok {p : List (Nat × Nat)} {n : Nat} {rk : Nat → Nat} : ∀ (k c : Nat) (S : SR), TX S rk n c → ¬ nu S c = 0 → nz S c ≤ 8 → (¬ nv S n = 0 → 1 ≤ nz S n ∧ (n ≠ c → 2 ≤ nz S n)) → wyP S p n k c →
    okS (guK p k c S) rk ∧ ¬ nu (guK p k c S) n = 0 ∧ jn (guK p k c S) ∧ pc (guK p k c S) n ∧ rm (guK p k c S) rk n ∧ en (guK p k c S) (rk n) n = en S (rk n) n
  | 0, c, S, H, hu, h8, h2, hw => by
    have ecn : c = n := hw
    subst ecn
    refine ⟨okS_of H.1 h8 ?_, H.2.1, H.2.2.1, H.2.2.2.1, H.2.2.2.2, rfl⟩
    by_cases hv : nv S c = 0
    · refine Or.inr ⟨hv, fun a i h => ?_⟩
      have := (h.ok H.1).2.1
      rcases H.2.2.2.2 a h.1 with r | r
      · rw [r] at this
        omega
      · omega
    · exact Or.inl (h2 hv).1
  | k + 1, c, S, H, hu, h8, h2, hw => by
    unfold guK
    by_cases hz : nz S c = 0
    · rw [if_pos hz]
      obtain ⟨hq, hw2⟩ := hw
      have kq := hq.ok H.1
      generalize (p.getD k (0, 0)).1 = q at *
      generalize (p.getD k (0, 0)).2 = t at *
      have hqc : q ≠ c := fun e => by
        rw [e] at kq
        omega
      have hcn : c ≠ n := fun e => by
        rcases H.2.2.2.2 q hq.1 with r | r
        · rw [r, ← e] at kq
          omega
        · rw [← e] at r
          omega
      have HT := gs_TX H hq hcn hu hz
      have ih := gu_ok (p := p) k q (gs q t c S) HT (by rw [gs_nu, upd_ne _ _ hqc]; exact hq.1) ?_ ?_ ?_
      · obtain ⟨i1, i2, i3, i4, i5, i6⟩ := ih
        refine ⟨i1, i2, i3, i4, i5, ?_⟩
        rw [show tOut q t (nFree c S) = gs q t c S from rfl, i6]
        exact gs_en H.1 H.2.2.1 hq hu hz _ n H.2.1 (Ne.symm hcn) rfl
      · rw [gs_nz, if_pos rfl]
        have := (H.1 q hq.1).2.1
        omega
      · intro hv
        obtain ⟨x1, x2⟩ := h2 hv
        have := x2 (Ne.symm hcn)
        rw [gs_nz]
        by_cases e : n = q
        · rw [if_pos e, ← e]
          exact ⟨by omega, fun z => absurd rfl z⟩
        · rw [if_neg e]
          exact ⟨x1, fun _ => this⟩
      · refine wyP_cg H.1 k q (fun a i y g1 g2 => ?_) hw2
        have a1 : a ≠ q := fun e => by
          rw [e] at g2
          omega
        have a2 : a ≠ c := fun e => by
          rw [e] at g2
          omega
        unfold KD
        rw [gs_nu, gs_nv, gs_nz, gs_nh, upd_ne _ _ a2, if_neg a1, if_neg a1]
        exact g1
    · rw [if_neg hz]
      exact ⟨okS_of H.1 h8 (Or.inl (by omega)), H.2.1, H.2.2.1, H.2.2.2.1, H.2.2.2.2, rfl⟩
theorem okS_chC {S : SR} {rk : Nat → Nat} (O : okS S rk) : ∀ (r n : Nat), ¬ nu S n = 0 → rk n = r → chC S rk r n
  | 0, n, hu, hr => ⟨(O n hu).1, hu, (O n hu).2.1, hr, by
    have := rk_pos O hu
    exact this.mpr hr⟩
  | r + 1, n, hu, hr => by
    have hv := inn (okX_of (c := 0) O) hu hr
    obtain ⟨z1, z2⟩ := (O n hu).2.2.2.2 hv
    obtain ⟨k, k1, k2, k3, k4⟩ := z2 0 (by omega)
    exact ⟨(O n hu).1, hu, (O n hu).2.1, hr, k, k1, okS_chC O r k k2 (by omega), hv⟩
theorem en_free (S : SR) (m : Nat) : ∀ r x, en (nFree m S) r x = en S r x
  | 0, x => rfl
  | r + 1, x => by
    show (kids S x).flatMap (en (nFree m S) r) = _
    exact fm_cg (fun k _ => en_free S m r k)
theorem cp_ok {rk : Nat → Nat} : ∀ (d n : Nat) (S : SR), okS S rk → ¬ nu S n = 0 → jn S → pc S n → rm S rk n → rk n = d → TI (cps d n S).1 rk (cps d n S).2 ∧ en (cps d n S).1 (rk (cps d n S).2) (cps d n S).2 = en S (rk n) n ∧ rk (cps d n S).2 ≤ d
  | 0, n, S, O, hu, J, P, R, hd => by
    refine ⟨⟨O, hu, J, P, R, fun hv => ?_⟩, rfl, by show rk n ≤ 0; omega⟩
    exact absurd ((rk_pos O hu).mpr hd) hv
  | d + 1, n, S, O, hu, J, P, R, hd => by
    have OX := okX_of (c := 0) O
    have hv := inn OX hu hd
    obtain ⟨z1, z2⟩ := (O n hu).2.2.2.2 hv
    unfold cps
    rw [if_neg hv]
    by_cases h1 : nz S n = 1
    · rw [if_pos h1]
      obtain ⟨k, k1, k2, k3, k4⟩ := z2 0 (by omega)
      rw [k1, Int.toNat_natCast]
      have hkn : k ≠ n := fun e => by
        rw [e] at k3
        omega
      have us : ∀ m, ¬ nu (nFree n S) m = 0 → m ≠ n ∧ ¬ nu S m = 0 := by
        intro m hm
        have hm : ¬ upd (nu S) n 0 m = 0 := hm
        by_cases e : m = n
        · rw [e, upd_at] at hm
          exact absurd rfl hm
        · rw [upd_ne _ _ e] at hm
          exact ⟨e, hm⟩
      have su : ∀ m, m ≠ n → ¬ nu S m = 0 → ¬ nu (nFree n S) m = 0 := by
        intro m e hm
        show ¬ upd (nu S) n 0 m = 0
        rw [upd_ne _ _ e]
        exact hm
      have nk : ∀ a i, ¬ KD S a i n := by
        intro a i h
        have := (h.ok OX).2.1
        rcases R a h.1 with r | r
        · rw [r] at this
          omega
        · omega
      have ih := cp_ok (rk := rk) d k (nFree n S) ?_ (su k hkn k2) ?_ ?_ ?_ (by omega)
      · obtain ⟨i1, i2, i3⟩ := ih
        refine ⟨i1, ?_, by omega⟩
        rw [i2, en_free, hd, en]
        have : kids S n = [k] := by
          unfold kids
          rw [h1]
          show [(nh S n 0).toNat] = _
          rw [k1]
          rfl
        rw [this, show rk k = d by omega]
        simp
      · intro m hm
        obtain ⟨m1, m2⟩ := us m hm
        obtain ⟨o1, o2, o3, o4, o5⟩ := O m m2
        refine ⟨o1, o2, o3, o4, fun hv2 => ?_⟩
        obtain ⟨y1, y2⟩ := o5 hv2
        refine ⟨y1, fun i hi => ?_⟩
        obtain ⟨x, x1, x2, x3, x4⟩ := y2 i hi
        exact ⟨x, x1, su x (fun e => nk m i ⟨m2, hv2, hi, by rw [x1, e]⟩) x2, x3, x4⟩
      · intro a b i j y h1 h2
        exact J a b i j y ⟨(us a h1.1).2, h1.2⟩ ⟨(us b h2.1).2, h2.2⟩
      · intro m hm
        obtain ⟨m1, m2⟩ := us m hm
        rcases P m m2 with h | ⟨a, i, h⟩
        · exact absurd h m1
        · by_cases e : a = n
          · rw [e] at h
            have := h.2.2.1
            have i0 : i = 0 := by omega
            rw [i0] at h
            have := h.2.2.2
            rw [k1] at this
            exact Or.inl (by exact_mod_cast this.symm)
          · exact Or.inr ⟨a, i, su a e h.1, h.2⟩
      · intro m hm
        obtain ⟨m1, m2⟩ := us m hm
        rcases P m m2 with h | ⟨a, i, h⟩
        · exact absurd h m1
        · have r1 := (h.ok OX).2.1
          rcases R a h.1 with r | r
          · rw [r] at h
            have := h.2.2.1
            have i0 : i = 0 := by omega
            rw [i0] at h
            have := h.2.2.2
            rw [k1] at this
            exact Or.inl (by exact_mod_cast this.symm)
          · exact Or.inr (by omega)
    · rw [if_neg h1]
      exact ⟨⟨O, hu, J, P, R, fun _ => by show 2 ≤ nz S n; omega⟩, rfl, by show rk n ≤ d + 1; omega⟩
theorem fnd_sp (f : Nat → Int) (e : Int) (z : Nat) : ∀ d i, (fnd f e z d i < i + d → f (fnd f e z d i) = e) ∧ ((∃ j, i ≤ j ∧ j < i + d ∧ f j = e) → fnd f e z d i < i + d)
  | 0, i => ⟨fun h => by
    have : fnd f e z 0 i = i := rfl
    omega, fun ⟨j, h1, h2, _⟩ => by omega⟩
  | d + 1, i => by
    obtain ⟨a, b⟩ := fnd_sp f e z d (i + 1)
    unfold fnd
    by_cases h : f i = e
    · rw [if_pos h]
      exact ⟨fun _ => h, fun _ => by omega⟩
    · rw [if_neg h]
      refine ⟨fun h1 => a (by omega), fun ⟨j, h1, h2, h3⟩ => ?_⟩
      have : fnd f e z d (i + 1) < i + 1 + d := b ⟨j, by
        by_cases q : j = i
        · rw [q] at h3
          exact absurd h3 h
        · omega, by omega, h3⟩
      omega
section GOK
variable {S : SR} {rk : Nat → Nat} {n l : Nat} {e : Int}
theorem go_ok (H : TI S rk n) (hs : (en S (rk n) n).Pairwise (· < ·)) (he : e ∈ en S (rk n) n) {p : List (Nat × Nat)} (hp : pw S e (rk n) n = (p, l)) {f : Nat} (hf : f = fnd (nh S l) e (nz S l) (nz S l) 0) :
    f < nz S l ∧ chC (guK p (rk n) l (tOut l f S)) rk (rk n) n ∧ ∃ T, T = cps (rk n) n (guK p (rk n) l (tOut l f S)) ∧ TI T.1 rk T.2 ∧ rk T.2 ≤ rk n ∧
      ∃ E', en T.1 (rk T.2) T.2 = E' ∧ E'.Pairwise (· < ·) ∧ (∀ x, x ∈ E' ↔ x ≠ e ∧ x ∈ en S (rk n) n) ∧ E'.length + 1 = (en S (rk n) n).length := by
  have O := H.1
  have hu := H.2.1
  have lf := pw_ok (e := e) O (rk n) n rfl hu
  have wp := pw_wyP (e := e) O (rk n) n hu rfl
  obtain ⟨X, Y, x1, x2, x3⟩ := pw_ord (e := e) O H.2.2.1 (rk n) n hu rfl hs
  rw [hp] at lf wp x3
  obtain ⟨l1, l2, l3, l4, l5⟩ := lf
  have l2 : ¬ nu S l = 0 := l2
  have l3 : nv S l = 0 := l3
  have wp : wyP S p n (rk n) l := wp
  have x3 : ∀ S1, (∀ m, m ≠ l → cont S1 m = cont S m) → en S1 (rk n) n = X ++ (cont S1 l ++ Y) := x3
  have eS := x3 S (fun _ _ => rfl)
  have hel : ∃ j, 0 ≤ j ∧ j < 0 + nz S l ∧ nh S l j = e := by
    rw [eS, List.mem_append, List.mem_append] at he
    rcases he with he | he | he
    · have := x1 e he
      omega
    · obtain ⟨j, j1, j2⟩ := mem_cont.mp he
      exact ⟨j, by omega, by omega, j2⟩
    · have := x2 e he
      omega
  obtain ⟨f1, f2⟩ := fnd_sp (nh S l) e (nz S l) (nz S l) 0
  rw [← hf] at f1 f2
  have hfl : f < nz S l := by
    have := f2 hel
    omega
  have hfe : nh S l f = e := f1 (by omega)
  have z8 := (O l l2).2.1
  have e3 : ∀ m, m ≠ l → nz (tOut l f S) m = nz S m := fun m hm => va_up_ne _ _ hm
  have e4 : ∀ m, m ≠ l → nh (tOut l f S) m = nh S m := fun m hm => va_up_ne _ _ hm
  have ez : nz (tOut l f S) l = nz S l - 1 := va_up_self _ _ _
  have HX : TX (tOut l f S) rk n l := lf_TX H l2 l3 rfl rfl e3 e4 (by rw [ez]; omega)
  obtain ⟨g1, g2, g3, g4, g5, g6⟩ := gu_ok (p := p) (n := n) (rk n) l (tOut l f S) HX l2 (by rw [ez]; omega) (fun hv => by
    have hv : ¬ nv S n = 0 := hv
    have h2 := H.2.2.2.2.2 hv
    rw [e3 n (fun q => by rw [q] at hv; exact hv l3)]
    exact ⟨by omega, fun _ => h2⟩) (lf_wyP (S1 := tOut l f S) l3 rfl rfl e3 e4 _ _ wp)
  obtain ⟨c1, c2, c3⟩ := cp_ok (rk n) n _ g1 g2 g3 g4 g5 rfl
  refine ⟨hfl, okS_chC g1 _ _ g2 rfl, _, rfl, c1, c3, _, rfl, ?_⟩
  rw [c2, g6, x3 (tOut l f S) (fun m hm => by rw [cont_tOut hfl, if_neg hm]), cont_tOut hfl, if_pos rfl]
  have hcl : f < (cont S l).length := by
    rw [cont_len]
    exact hfl
  have hce : (cont S l)[f] = e := by
    rw [cont_at]
    exact hfe
  have e5 : X ++ (List.take f (cont S l) ++ List.drop (f + 1) (cont S l) ++ Y) = (X ++ List.take f (cont S l)) ++ (List.drop (f + 1) (cont S l) ++ Y) := by
    simp only [List.append_assoc]
  have e6 : en S (rk n) n = (X ++ List.take f (cont S l)) ++ e :: (List.drop (f + 1) (cont S l) ++ Y) := by
    have h1 := List.take_append_drop f (cont S l)
    rw [List.drop_eq_getElem_cons hcl, hce] at h1
    generalize List.take f (cont S l) = U at h1 ⊢
    generalize List.drop (f + 1) (cont S l) = V at h1 ⊢
    rw [eS, ← h1]
    simp only [List.append_assoc, List.cons_append]
  rw [e5]
  rw [e6] at hs ⊢
  generalize X ++ List.take f (cont S l) = A at *
  generalize List.drop (f + 1) (cont S l) ++ Y = B at *
  obtain ⟨p1, p2, p3⟩ := List.pairwise_append.mp hs
  rw [List.pairwise_cons] at p2
  refine ⟨List.pairwise_append.mpr ⟨p1, p2.2, fun a ha b hb => p3 a ha b (List.mem_cons_of_mem _ hb)⟩, fun x => ?_, ?_⟩
  · simp only [List.mem_append, List.mem_cons]
    constructor
    · rintro (h | h)
      · have := p3 x h e (List.mem_cons_self ..)
        exact ⟨by omega, Or.inl h⟩
      · have := p2.1 x h
        exact ⟨by omega, Or.inr (Or.inr h)⟩
    · rintro ⟨h0, h | h | h⟩
      · exact Or.inl h
      · exact absurd h h0
      · exact Or.inr h
  · simp only [List.length_append, List.length_cons]
    omega
end GOK
