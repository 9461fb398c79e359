/-! a root is divided -/
def rts (c w t : Nat) (S : SR) : SR := rto c w t (dvd c w S)
section RTS
variable {S : SR} {rk : Nat → Nat} {c w t : Nat}
theorem rt_nu (m : Nat) : nu (rts c w t S) m = upd (upd (nu S) w 1) t 1 m := rfl
theorem rt_nv (m : Nat) : nv (rts c w t S) m = upd (upd (nv S) w (nv S c)) t 1 m := rfl
theorem rt_nz (m : Nat) : nz (rts c w t S) m = if m = t then 2 else if m = c then 4 else if m = w then 5 else nz S m := by
  show va_up (va_up (va_up (va_up (va_up (nz S) w 5) c 4) t 0) t (va_up (va_up (va_up (nz S) w 5) c 4) t 0 t + 1)) t (va_up (va_up (va_up (va_up (nz S) w 5) c 4) t 0) t (va_up (va_up (va_up (nz S) w 5) c 4) t 0 t + 1) t + 1) m = _
  simp only [va_up_self]
  by_cases e1 : m = t
  · rw [e1, va_up_self, if_pos rfl]
  rw [va_up_ne _ _ e1, va_up_ne _ _ e1, va_up_ne _ _ e1, if_neg e1]
  by_cases e2 : m = c
  · rw [e2, va_up_self, if_pos rfl]
  rw [va_up_ne _ _ e2, if_neg e2]
  by_cases e3 : m = w
  · rw [e3, va_up_self, if_pos rfl]
  rw [va_up_ne _ _ e3, if_neg e3]
theorem rt_nh (m i : Nat) : nh (rts c w t S) m i = if m = t then (if i = 0 then (c : Int) else if i = 1 then (w : Int) else nh (rts c w t S) m i) else if m = w then nh S c (4 + i) else nh S m i := by
  by_cases e1 : m = t
  · rw [if_pos e1]
    by_cases e2 : i = 0
    · rw [if_pos e2, e1, e2]
      show va_up _ t (insf (va_up _ t (insf _ 0 _) t) 1 _) t 0 = _
      rw [va_up_self, va_up_self]
      rfl
    rw [if_neg e2]
    by_cases e3 : i = 1
    · rw [if_pos e3, e1, e3]
      show va_up _ t (insf (va_up _ t (insf _ 0 _) t) 1 _) t 1 = _
      rw [va_up_self, va_up_self]
      rfl
    rw [if_neg e3]
  rw [if_neg e1]
  show va_up (va_up (va_up (nh S) w (fun k => nh S c (4 + k))) t _) t _ m i = _
  rw [va_up_ne _ _ e1, va_up_ne _ _ e1]
  by_cases e3 : m = w
  · rw [e3, va_up_self, if_pos rfl]
  rw [va_up_ne _ _ e3, if_neg e3]
theorem rt_cont (hz : nz S c = 9) (hcw : c ≠ w) (hct : c ≠ t) (hwt : w ≠ t) (m : Nat) : cont (rts c w t S) m = if m = t then [(c : Int), (w : Int)] else if m = c then (cont S c).take 4 else if m = w then (cont S c).drop 4 else cont S m := by
  by_cases e1 : m = t
  · subst e1
    rw [if_pos rfl]
    unfold cont
    rw [rt_nz, if_pos rfl]
    show [_, _] = _
    rw [rt_nh m 0, if_pos rfl, if_pos rfl, rt_nh m 1, if_pos rfl, if_neg (by decide), if_pos rfl]
  rw [if_neg e1, ← cont_dvd hz hcw]
  unfold cont
  have z : nz (rts c w t S) m = nz (dvd c w S) m := by
    show va_up (va_up (va_up _ t 0) t _) t _ m = _
    rw [va_up_ne _ _ e1, va_up_ne _ _ e1, va_up_ne _ _ e1]
  rw [z]
  apply List.map_congr_left
  intro i _
  rw [rt_nh, if_neg e1]
  show _ = va_up (nh S) w (fun k => nh S c (4 + k)) m i
  by_cases e3 : m = w
  · rw [e3, va_up_self, if_pos rfl]
  rw [va_up_ne _ _ e3, if_neg e3]
theorem rt_KD (h0 : nu S w = 0) (h1 : nu S t = 0) (hwt : w ≠ t) (hu : ¬ nu S c = 0) (hz : nz S c = 9) {a i k : Nat} (h : KD (rts c w t S) a i k) : (a = t ∧ i = 0 ∧ k = c) ∨ (a = t ∧ i = 1 ∧ k = w) ∨ ∃ a' i', KD S a' i' k ∧ ((a = c ∧ a' = c ∧ i' = i ∧ i < 4) ∨ (a = w ∧ a' = c ∧ i' = 4 + i ∧ i < 5) ∨ (a ≠ c ∧ a ≠ w ∧ a ≠ t ∧ a' = a ∧ i' = i)) := by
  have hcw : c ≠ w := fun e => hu (e ▸ h0)
  have hct : c ≠ t := fun e => hu (e ▸ h1)
  obtain ⟨k1, k2, k3, k4⟩ := h
  rw [rt_nu] at k1
  rw [rt_nv] at k2
  rw [rt_nz] at k3
  rw [rt_nh] at k4
  by_cases e1 : a = t
  · subst e1
    rw [if_pos rfl] at k3 k4
    by_cases z1 : i = 0
    · rw [if_pos z1] at k4
      exact Or.inl ⟨rfl, z1, by exact_mod_cast k4.symm⟩
    · rw [if_neg z1, if_pos (show i = 1 by omega)] at k4
      exact Or.inr (Or.inl ⟨rfl, by omega, by exact_mod_cast k4.symm⟩)
  rw [if_neg e1] at k3 k4
  rw [upd_ne _ _ e1] at k1 k2
  by_cases e2 : a = c
  · subst e2
    rw [if_pos rfl] at k3
    rw [if_neg hcw] at k4
    rw [upd_ne _ _ hcw] at k2
    exact Or.inr (Or.inr ⟨a, i, ⟨hu, k2, by omega, k4⟩, Or.inl ⟨rfl, rfl, rfl, k3⟩⟩)
  rw [if_neg e2] at k3
  by_cases e3 : a = w
  · subst e3
    rw [if_pos rfl] at k3 k4
    rw [upd_at] at k2
    exact Or.inr (Or.inr ⟨c, 4 + i, ⟨hu, k2, by omega, k4⟩, Or.inr (Or.inl ⟨rfl, rfl, rfl, k3⟩)⟩)
  rw [if_neg e3] at k3 k4
  rw [upd_ne _ _ e3] at k1 k2
  exact Or.inr (Or.inr ⟨a, i, ⟨k1, k2, k3, k4⟩, Or.inr (Or.inr ⟨e2, e3, e1, rfl, rfl⟩)⟩)
theorem rt_DK (h0 : nu S w = 0) (h1 : nu S t = 0) (hwt : w ≠ t) (hu : ¬ nu S c = 0) (hz : nz S c = 9) {a i k : Nat} (h : KD S a i k) : ∃ a' i', KD (rts c w t S) a' i' k := by
  have hcw : c ≠ w := fun e => hu (e ▸ h0)
  have hct : c ≠ t := fun e => hu (e ▸ h1)
  have haw : a ≠ w := fun e => h.1 (e ▸ h0)
  have hat : a ≠ t := fun e => h.1 (e ▸ h1)
  obtain ⟨k1, k2, k3, k4⟩ := h
  unfold KD
  by_cases e2 : a = c
  · subst e2
    by_cases z : i < 4
    · refine ⟨a, i, ?_⟩
      rw [rt_nu, rt_nv, rt_nz, rt_nh, upd_ne _ _ hat, upd_ne _ _ hat, upd_ne _ _ haw, upd_ne _ _ haw, if_neg hat, if_pos rfl, if_neg hat, if_neg haw]
      exact ⟨k1, k2, z, k4⟩
    · refine ⟨w, i - 4, ?_⟩
      rw [rt_nu, rt_nv, rt_nz, rt_nh, upd_ne _ _ hwt, upd_ne _ _ hwt, upd_at, upd_at, if_neg hwt, if_neg (Ne.symm hcw), if_pos rfl, if_neg hwt, if_pos rfl]
      exact ⟨by decide, k2, by omega, by rw [show 4 + (i - 4) = i by omega]; exact k4⟩
  · refine ⟨a, i, ?_⟩
    rw [rt_nu, rt_nv, rt_nz, rt_nh, upd_ne _ _ hat, upd_ne _ _ hat, upd_ne _ _ haw, upd_ne _ _ haw, if_neg hat, if_neg e2, if_neg haw, if_neg hat, if_neg haw]
    exact ⟨k1, k2, k3, k4⟩
theorem rt_TI (H : TX S rk c c) (hw : w < 64) (ht : t < 64) (h0 : nu S w = 0) (h1 : nu S t = 0) (hwt : w ≠ t) (hz : nz S c = 9) : TI (rts c w t S) (va_up (va_up rk w (rk c)) t (rk c + 1)) t := by
  obtain ⟨O, hu, J, P, R⟩ := H
  have hcw : c ≠ w := fun e => hu (e ▸ h0)
  have hct : c ≠ t := fun e => hu (e ▸ h1)
  have nw : ∀ m, ¬ nu S m = 0 → m ≠ w := fun m hm e => hm (e ▸ h0)
  have nt : ∀ m, ¬ nu S m = 0 → m ≠ t := fun m hm e => hm (e ▸ h1)
  have oc := O c hu
  have rko : ∀ m, ¬ nu S m = 0 → va_up (va_up rk w (rk c)) t (rk c + 1) m = rk m := fun m hm => by rw [va_up_ne _ _ (nt m hm), va_up_ne _ _ (nw m hm)]
  have rkw : va_up (va_up rk w (rk c)) t (rk c + 1) w = rk c := by rw [va_up_ne _ _ hwt, va_up_self]
  have rkt : va_up (va_up rk w (rk c)) t (rk c + 1) t = rk c + 1 := va_up_self _ _ _
  have us : ∀ m, ¬ nu (rts c w t S) m = 0 → m = t ∨ m = w ∨ (m ≠ t ∧ m ≠ w ∧ ¬ nu S m = 0) := by
    intro m hm
    by_cases e1 : m = t
    · exact Or.inl e1
    by_cases e2 : m = w
    · exact Or.inr (Or.inl e2)
    rw [rt_nu, upd_ne _ _ e1, upd_ne _ _ e2] at hm
    exact Or.inr (Or.inr ⟨e1, e2, hm⟩)
  have su : ∀ m, ¬ nu S m = 0 → ¬ nu (rts c w t S) m = 0 := fun m hm => by
    rw [rt_nu, upd_ne _ _ (nt m hm), upd_ne _ _ (nw m hm)]
    exact hm
  have KO : ∀ a i k, KD (rts c w t S) a i k → ¬ nu (rts c w t S) k = 0 ∧ va_up (va_up rk w (rk c)) t (rk c + 1) k + 1 = va_up (va_up rk w (rk c)) t (rk c + 1) a ∧ 1 ≤ nz (rts c w t S) k := by
    intro a i k h
    rcases rt_KD h0 h1 hwt hu hz h with ⟨e1, e2, e3⟩ | ⟨e1, e2, e3⟩ | ⟨a', i', h2, hh⟩
    · rw [e1, e3]
      refine ⟨su c hu, by rw [rkt, rko c hu], ?_⟩
      rw [rt_nz, if_neg hct, if_pos rfl]
      omega
    · rw [e1, e3]
      refine ⟨?_, by rw [rkt, rkw], ?_⟩
      · rw [rt_nu, upd_ne _ _ hwt, upd_at]
        decide
      · rw [rt_nz, if_neg hwt, if_neg (Ne.symm hcw), if_pos rfl]
        omega
    · obtain ⟨u1, u2, u3⟩ := h2.ok O
      have ra : va_up (va_up rk w (rk c)) t (rk c + 1) a = rk a' := by
        rcases hh with ⟨z1, z2, -⟩ | ⟨z1, z2, -⟩ | ⟨z0, z1, z3, z2, -⟩
        · rw [z1, z2, rko c hu]
        · rw [z1, z2, rkw]
        · rw [z2, va_up_ne _ _ z3, va_up_ne _ _ z1]
      refine ⟨su k u1, by rw [ra, rko k u1]; exact u2, ?_⟩
      rw [rt_nz, if_neg (nt k u1)]
      by_cases x2 : k = c
      · rw [if_pos x2]
        omega
      rw [if_neg x2, if_neg (nw k u1)]
      exact u3 x2
  have zn : ∀ m, ¬ nu (rts c w t S) m = 0 → 1 ≤ nz (rts c w t S) m ∨ nv (rts c w t S) m = 0 := by
    intro m hm
    rw [rt_nz, rt_nv]
    rcases us m hm with e | e | ⟨e1, e2, e3⟩
    · rw [if_pos e]
      exact Or.inl (by omega)
    · rw [e, if_neg hwt, if_neg (Ne.symm hcw), if_pos rfl]
      exact Or.inl (by omega)
    · rw [if_neg e1, if_neg e2, upd_ne _ _ e1, upd_ne _ _ e2]
      by_cases x : m = c
      · rw [if_pos x]
        exact Or.inl (by omega)
      · rw [if_neg x]
        by_cases y : nv S m = 0
        · exact Or.inr y
        · exact Or.inl (((O m e3).2.2.2.2.2 y).2.1 x)
  refine ⟨?_, ?_, ?_, ?_, ?_, ?_⟩
  · intro m hm
    have kk : ¬ nv (rts c w t S) m = 0 → 1 ≤ nz (rts c w t S) m ∧ ∀ i, i < nz (rts c w t S) m → ∃ k : Nat, nh (rts c w t S) m i = k ∧ ¬ nu (rts c w t S) k = 0 ∧ va_up (va_up rk w (rk c)) t (rk c + 1) k + 1 = va_up (va_up rk w (rk c)) t (rk c + 1) m ∧ 1 ≤ nz (rts c w t S) k := by
      intro hv
      refine ⟨(zn m hm).resolve_right hv, fun i hi => ?_⟩
      have ex : ∃ k : Nat, nh (rts c w t S) m i = k := by
        rw [rt_nh]
        rw [rt_nz] at hi
        rw [rt_nv] at hv
        have gt : ∀ a i, ¬ nu S a = 0 → ¬ nv S a = 0 → i < nz S a → ∃ k : Nat, nh S a i = k := by
          intro a i u1 u2 u3
          obtain ⟨-, -, -, -, -, o⟩ := O a u1
          obtain ⟨y, y1, -⟩ := (o u2).2.2 i u3
          exact ⟨y, y1⟩
        rcases us m hm with e | e | ⟨e1, e2, e3⟩
        · rw [if_pos e] at hi ⊢
          by_cases z1 : i = 0
          · rw [if_pos z1]
            exact ⟨c, rfl⟩
          · rw [if_neg z1, if_pos (show i = 1 by omega)]
            exact ⟨w, rfl⟩
        · rw [e, if_neg hwt, if_neg (Ne.symm hcw), if_pos rfl] at hi
          rw [e, if_neg hwt, if_pos rfl]
          rw [e, upd_ne _ _ hwt, upd_at] at hv
          exact gt c _ hu hv (by omega)
        · rw [if_neg e1, if_neg e2] at hi
          rw [if_neg e1, if_neg e2]
          rw [upd_ne _ _ e1, upd_ne _ _ e2] at hv
          refine gt m i e3 hv ?_
          by_cases x : m = c
          · rw [x, hz]
            rw [if_pos x] at hi
            omega
          · rw [if_neg x] at hi
            exact hi
      obtain ⟨k, hk⟩ := ex
      obtain ⟨y1, y2, y3⟩ := KO m i k ⟨hm, hv, hi, hk⟩
      exact ⟨k, hk, y1, y2, y3⟩
    rcases us m hm with e | e | ⟨e1, e2, e3⟩
    · refine ⟨by rw [e]; exact ht, ?_, ?_, fun hv => ?_, kk⟩
      · rw [rt_nz, if_pos e]
        omega
      · rw [rt_nv, e, upd_at]
        exact Or.inr rfl
      · rw [rt_nv, e, upd_at] at hv
        exact absurd hv (by decide)
    · refine ⟨by rw [e]; exact hw, ?_, ?_, fun hv => ?_, kk⟩
      · rw [rt_nz, e, if_neg hwt, if_neg (Ne.symm hcw), if_pos rfl]
        omega
      · rw [rt_nv, e, upd_ne _ _ hwt, upd_at]
        exact oc.2.2.2.1
      · rw [rt_nv, e, upd_ne _ _ hwt, upd_at] at hv
        rw [e, rkw]
        exact oc.2.2.2.2.1 hv
    · obtain ⟨o1, o2, o3, o4, o5, o6⟩ := O m e3
      refine ⟨o1, ?_, ?_, fun hv => ?_, kk⟩
      · rw [rt_nz, if_neg e1, if_neg e2]
        by_cases x : m = c
        · rw [if_pos x]
          omega
        · rw [if_neg x]
          exact o3 x
      · rw [rt_nv, upd_ne _ _ e1, upd_ne _ _ e2]
        exact o4
      · rw [rt_nv, upd_ne _ _ e1, upd_ne _ _ e2] at hv
        rw [rko m e3]
        exact o5 hv
  · rw [rt_nu, upd_at]
    decide
  · intro a b i j k g1 g2
    rcases rt_KD h0 h1 hwt hu hz g1 with ⟨e1, e2, e3⟩ | ⟨e1, e2, e3⟩ | ⟨a', i', h2, hh⟩
    · rcases rt_KD h0 h1 hwt hu hz g2 with ⟨f1, f2, f3⟩ | ⟨f1, f2, f3⟩ | ⟨b', j', h3, hh3⟩
      · omega
      · omega
      · rw [e3] at h3
        have := (h3.ok O).2.1
        rcases R b' h3.1 with r | r
        · rw [r] at this
          omega
        · omega
    · rcases rt_KD h0 h1 hwt hu hz g2 with ⟨f1, f2, f3⟩ | ⟨f1, f2, f3⟩ | ⟨b', j', h3, hh3⟩
      · omega
      · omega
      · exact absurd e3 (nw k (h3.ok O).1)
    · rcases rt_KD h0 h1 hwt hu hz g2 with ⟨f1, f2, f3⟩ | ⟨f1, f2, f3⟩ | ⟨b', j', h3, hh3⟩
      · rw [f3] at h2
        have := (h2.ok O).2.1
        rcases R a' h2.1 with r | r
        · rw [r] at this
          omega
        · omega
      · exact absurd f3 (nw k (h2.ok O).1)
      · obtain ⟨x1, x2⟩ := J _ _ _ _ _ h2 h3
        omega
  · intro m hm
    have tk : ∀ i k : Nat, i < 2 → nh (rts c w t S) t i = k → KD (rts c w t S) t i k := by
      intro i k hi hk
      refine ⟨?_, ?_, ?_, hk⟩
      · rw [rt_nu, upd_at]
        decide
      · rw [rt_nv, upd_at]
        decide
      · rw [rt_nz, if_pos rfl]
        exact hi
    rcases us m hm with e | e | ⟨e1, e2, e3⟩
    · exact Or.inl e
    · refine Or.inr ⟨t, 1, tk 1 m (by omega) ?_⟩
      rw [rt_nh, if_pos rfl, if_neg (by decide), if_pos rfl, e]
    · rcases P m e3 with e | ⟨a, i, h⟩
      · refine Or.inr ⟨t, 0, tk 0 m (by omega) ?_⟩
        rw [rt_nh, if_pos rfl, if_pos rfl, e]
      · exact Or.inr (rt_DK h0 h1 hwt hu hz h)
  · intro m hm
    rcases us m hm with e | e | ⟨e1, e2, e3⟩
    · exact Or.inl e
    · rw [e, rkw, rkt]
      exact Or.inr (by omega)
    · rw [rko m e3, rkt]
      rcases R m e3 with r | r
      · rw [r]
        exact Or.inr (by omega)
      · exact Or.inr (by omega)
  · intro _
    rw [rt_nz, if_pos rfl]
    omega
theorem rt_en (O : okX S rk c) (h0 : nu S w = 0) (h1 : nu S t = 0) (hwt : w ≠ t) (hu : ¬ nu S c = 0) (hz : nz S c = 9) : en (rts c w t S) (rk c + 1) t = en S (rk c) c := by
  have hcw : c ≠ w := fun e => hu (e ▸ h0)
  have hct : c ≠ t := fun e => hu (e ▸ h1)
  have ct := rt_cont hz hcw hct hwt
  have sm : ∀ r m, (¬ nu S m = 0 ∧ rk m = r ∧ r < rk c) → cont (rts c w t S) m = cont S m := by
    intro r m ⟨q1, q2, q3⟩
    rw [ct, if_neg (show ¬ m = t from fun e => q1 (e ▸ h1)), if_neg (show ¬ m = c from fun e => by rw [e] at q2; omega), if_neg (show ¬ m = w from fun e => q1 (e ▸ h0))]
  have low : ∀ r m, (¬ nu S m = 0 ∧ rk m = r ∧ r < rk c) → en (rts c w t S) r m = en S r m := by
    apply en_cg (fun r m => ¬ nu S m = 0 ∧ rk m = r ∧ r < rk c)
    · intro m h
      exact sm 0 m h
    · intro r m h
      refine ⟨sm _ m h, fun k hk => ?_⟩
      obtain ⟨i, hi⟩ := mem_kids h.1 (inn O h.1 h.2.1) O hk
      obtain ⟨y1, y2, -⟩ := hi.ok O
      exact ⟨y1, by have := h.2.1; omega, by have := h.2.2; omega⟩
  have ec : cont (rts c w t S) c = (cont S c).take 4 := by rw [ct, if_neg hct, if_pos rfl]
  have ew : cont (rts c w t S) w = (cont S c).drop 4 := by rw [ct, if_neg hwt, if_neg (Ne.symm hcw), if_pos rfl]
  have et : kids (rts c w t S) t = [c, w] := by
    rw [kids_cont, ct, if_pos rfl]
    rfl
  show (kids (rts c w t S) t).flatMap (en (rts c w t S) (rk c)) = _
  rw [et]
  simp only [List.flatMap_cons, List.flatMap_nil, List.append_nil]
  cases hr : rk c with
  | zero =>
    unfold en
    rw [ec, ew, List.take_append_drop]
  | succ r =>
    unfold en
    rw [kids_cont, ec, kids_cont, ew, ← List.flatMap_append, ← List.map_append, List.take_append_drop, ← kids_cont]
    apply fm_cg
    intro k hk
    obtain ⟨i, hi⟩ := mem_kids hu (inn O hu hr) O hk
    obtain ⟨y1, y2, -⟩ := hi.ok O
    exact low r k ⟨y1, by omega, by omega⟩
end RTS
