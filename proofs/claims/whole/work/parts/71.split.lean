/-! a node is divided, and the node over it told -/
def sp (q t c w : Nat) (S : SR) : SR := pIn q (t + 1) w (dvd c w S)
theorem gD_at {α : Type} {l : List α} {i : Nat} {d : α} (h : i < l.length) : l.getD i d = l[i] := by
  rw [List.getD_eq_getElem?_getD, List.getElem?_eq_getElem h]
  rfl
theorem kids_pIn {S : SR} {n i : Nat} {v : Nat} (hi : i ≤ nz S n) : kids (pIn n i (v : Int) S) n = (kids S n).take i ++ v :: (kids S n).drop i := by
  rw [kids_cont, cont_pIn hi, if_pos rfl, kids_cont, List.map_append, List.map_cons, List.map_take, List.map_drop, Int.toNat_natCast]
theorem kids_split {S : SR} {rk : Nat → Nat} {x q t c : Nat} (O : okX S rk x) (J : jn S) (h : KD S q t c) : ∃ X Y, kids S q = X ++ c :: Y ∧ X.length = t ∧ ∀ k, k ∈ X ∨ k ∈ Y → k ≠ c ∧ ∃ i, KD S q i k := by
  have hl : t < (kids S q).length := by
    rw [kids_len]
    exact h.2.2.1
  have hc : (kids S q)[t] = c := by
    have e := kids_at S h.2.2.1
    rw [gD_at hl] at e
    rw [e, h.2.2.2]
    rfl
  have nc : ∀ (i : Nat) (hi : i < (kids S q).length), i ≠ t → (kids S q)[i] ≠ c ∧ ∃ i', KD S q i' (kids S q)[i] := by
    intro i hi hit
    have hi2 : i < nz S q := by
      rw [kids_len] at hi
      exact hi
    have e := kids_at S hi2
    rw [gD_at hi] at e
    obtain ⟨-, -, -, -, -, o⟩ := O q h.1
    obtain ⟨y, y1, -⟩ := (o h.2.1).2.2 i hi2
    rw [y1] at e
    have e : (kids S q)[i] = y := e
    have K : KD S q i (kids S q)[i] := by
      rw [e]
      exact ⟨h.1, h.2.1, hi2, y1⟩
    refine ⟨fun z => ?_, i, K⟩
    rw [z] at K
    exact hit (J _ _ _ _ _ K h).2
  refine ⟨(kids S q).take t, (kids S q).drop (t + 1), ?_, ?_, ?_⟩
  · rw [← hc]
    have h1 := List.take_append_drop t (kids S q)
    rw [List.drop_eq_getElem_cons hl] at h1
    exact h1.symm
  · rw [List.length_take]
    omega
  · intro k hk
    rcases hk with hk | hk
    · obtain ⟨i, hi, e⟩ := List.mem_iff_getElem.mp hk
      rw [List.getElem_take] at e
      rw [List.length_take] at hi
      have := nc i (by omega) (by omega)
      rw [e] at this
      exact this
    · obtain ⟨i, hi, e⟩ := List.mem_iff_getElem.mp hk
      rw [List.getElem_drop] at e
      rw [List.length_drop] at hi
      have := nc (t + 1 + i) (by omega) (by omega)
      rw [e] at this
      exact this
section SPL
variable {S : SR} {rk : Nat → Nat} {n q t c w : Nat}
theorem sp_nu (m : Nat) : nu (sp q t c w S) m = upd (nu S) w 1 m := rfl
theorem sp_nv (m : Nat) : nv (sp q t c w S) m = upd (nv S) w (nv S c) m := rfl
theorem sp_nz (hqc : q ≠ c) (hqw : q ≠ w) (hcw : c ≠ w) (m : Nat) : nz (sp q t c w S) m = if m = q then nz S q + 1 else if m = c then 4 else if m = w then 5 else nz S m := by
  show va_up (va_up (va_up (nz S) w 5) c 4) q (va_up (va_up (nz S) w 5) c 4 q + 1) m = _
  rw [va_up_ne _ _ hqc, va_up_ne _ _ hqw]
  by_cases e1 : m = q
  · rw [e1, va_up_self, if_pos rfl]
  rw [va_up_ne _ _ e1, if_neg e1]
  by_cases e2 : m = c
  · rw [e2, va_up_self, if_pos rfl]
  rw [va_up_ne _ _ e2, if_neg e2]
  by_cases e3 : m = w
  · rw [e3, va_up_self, if_pos rfl]
  rw [va_up_ne _ _ e3, if_neg e3]
theorem sp_nh (hqw : q ≠ w) (hcw : c ≠ w) (m : Nat) : nh (sp q t c w S) m = if m = q then insf (nh S q) (t + 1) w else if m = w then (fun k => nh S c (4 + k)) else nh S m := by
  show va_up (va_up (nh S) w _) q (insf (va_up (nh S) w _ q) (t + 1) w) m = _
  rw [va_up_ne _ _ hqw]
  by_cases e1 : m = q
  · rw [e1, va_up_self, if_pos rfl]
  rw [va_up_ne _ _ e1, if_neg e1]
  by_cases e3 : m = w
  · rw [e3, va_up_self, if_pos rfl]
  rw [va_up_ne _ _ e3, if_neg e3]
theorem sp_KD (hq : KD S q t c) (hqc : q ≠ c) (h0 : nu S w = 0) (hu : ¬ nu S c = 0) (hz : nz S c = 9) {a i k : Nat} (h : KD (sp q t c w S) a i k) : (k = w ∧ a = q ∧ i = t + 1) ∨ ∃ a' i', KD S a' i' k ∧ ((a = c ∧ a' = c ∧ i' = i ∧ i < 4) ∨ (a = w ∧ a' = c ∧ i' = 4 + i ∧ i < 5) ∨ (a = q ∧ a' = q ∧ ((i ≤ t ∧ i' = i) ∨ (t + 1 < i ∧ i = i' + 1))) ∨ (a ≠ c ∧ a ≠ w ∧ a ≠ q ∧ a' = a ∧ i' = i)) := by
  have hqw : q ≠ w := fun e => hq.1 (e ▸ h0)
  have hcw : c ≠ w := fun e => hu (e ▸ h0)
  obtain ⟨k1, k2, k3, k4⟩ := h
  rw [sp_nu] at k1
  rw [sp_nv] at k2
  rw [sp_nz hqc hqw hcw] at k3
  rw [sp_nh hqw hcw] at k4
  by_cases e1 : a = q
  · subst e1
    rw [if_pos rfl] at k3 k4
    unfold insf at k4
    by_cases z1 : i < t + 1
    · rw [if_pos z1] at k4
      exact Or.inr ⟨a, i, ⟨hq.1, hq.2.1, by have := hq.2.2.1; omega, k4⟩, Or.inr (Or.inr (Or.inl ⟨rfl, rfl, Or.inl ⟨by omega, rfl⟩⟩))⟩
    · rw [if_neg z1] at k4
      by_cases z2 : i = t + 1
      · rw [if_pos z2] at k4
        exact Or.inl ⟨by exact_mod_cast k4.symm, rfl, z2⟩
      · rw [if_neg z2] at k4
        exact Or.inr ⟨a, i - 1, ⟨hq.1, hq.2.1, by omega, k4⟩, Or.inr (Or.inr (Or.inl ⟨rfl, rfl, Or.inr ⟨by omega, by omega⟩⟩))⟩
  rw [if_neg e1] at k3 k4
  by_cases e2 : a = c
  · subst e2
    rw [if_pos rfl] at k3
    rw [if_neg hcw] at k4
    rw [upd_ne _ _ hcw] at k2
    exact Or.inr ⟨a, i, ⟨hu, k2, by omega, k4⟩, Or.inl ⟨rfl, rfl, rfl, k3⟩⟩
  rw [if_neg e2] at k3
  by_cases e3 : a = w
  · subst e3
    rw [if_pos rfl] at k3 k4
    rw [upd_at] at k2
    exact Or.inr ⟨c, 4 + i, ⟨hu, k2, by omega, k4⟩, Or.inr (Or.inl ⟨rfl, rfl, rfl, k3⟩)⟩
  rw [if_neg e3] at k3 k4
  rw [upd_ne _ _ e3] at k1 k2
  exact Or.inr ⟨a, i, ⟨k1, k2, k3, k4⟩, Or.inr (Or.inr (Or.inr ⟨e2, e3, e1, rfl, rfl⟩))⟩
theorem sp_DK (hq : KD S q t c) (hqc : q ≠ c) (h0 : nu S w = 0) (hu : ¬ nu S c = 0) (hz : nz S c = 9) {a i k : Nat} (h : KD S a i k) : ∃ a' i', KD (sp q t c w S) a' i' k := by
  have hqw : q ≠ w := fun e => hq.1 (e ▸ h0)
  have hcw : c ≠ w := fun e => hu (e ▸ h0)
  have haw : a ≠ w := fun e => h.1 (e ▸ h0)
  obtain ⟨k1, k2, k3, k4⟩ := h
  unfold KD
  simp only [sp_nu, sp_nv, sp_nz hqc hqw hcw, sp_nh hqw hcw]
  by_cases e1 : a = q
  · subst e1
    by_cases z : i ≤ t
    · refine ⟨a, i, ?_⟩
      rw [upd_ne _ _ haw, upd_ne _ _ haw, if_pos rfl, if_pos rfl]
      exact ⟨k1, k2, by omega, by unfold insf; rw [if_pos (by omega)]; exact k4⟩
    · refine ⟨a, i + 1, ?_⟩
      rw [upd_ne _ _ haw, upd_ne _ _ haw, if_pos rfl, if_pos rfl]
      exact ⟨k1, k2, by omega, by unfold insf; rw [if_neg (by omega), if_neg (by omega)]; exact k4⟩
  by_cases e2 : a = c
  · subst e2
    by_cases z : i < 4
    · refine ⟨a, i, ?_⟩
      rw [upd_ne _ _ haw, upd_ne _ _ haw, if_neg e1, if_pos rfl, if_neg e1, if_neg haw]
      exact ⟨k1, k2, z, k4⟩
    · refine ⟨w, i - 4, ?_⟩
      rw [upd_at, upd_at, if_neg (Ne.symm hqw), if_neg (Ne.symm hcw), if_pos rfl, if_neg (Ne.symm hqw), if_pos rfl]
      exact ⟨by decide, k2, by omega, by show nh S a (4 + (i - 4)) = _; rw [show 4 + (i - 4) = i by omega]; exact k4⟩
  · refine ⟨a, i, ?_⟩
    rw [upd_ne _ _ haw, upd_ne _ _ haw, if_neg e1, if_neg e2, if_neg haw, if_neg e1, if_neg haw]
    exact ⟨k1, k2, k3, k4⟩
theorem sp_ex (O : okX S rk c) (hq : KD S q t c) (hqc : q ≠ c) (h0 : nu S w = 0) (hu : ¬ nu S c = 0) (hz : nz S c = 9) {a i : Nat} (k1 : ¬ nu (sp q t c w S) a = 0) (k2 : ¬ nv (sp q t c w S) a = 0) (k3 : i < nz (sp q t c w S) a) : ∃ k, KD (sp q t c w S) a i k := by
  have hqw : q ≠ w := fun e => hq.1 (e ▸ h0)
  have hcw : c ≠ w := fun e => hu (e ▸ h0)
  have gt : ∀ a i, ¬ nu S a = 0 → ¬ nv S a = 0 → i < nz S a → ∃ k : Nat, nh S a i = k := by
    intro a i u1 u2 u3
    obtain ⟨-, -, -, -, -, o⟩ := O a u1
    obtain ⟨y, y1, -⟩ := (o u2).2.2 i u3
    exact ⟨y, y1⟩
  have z : ∃ k : Nat, nh (sp q t c w S) a i = k := by
    rw [sp_nu] at k1
    rw [sp_nv] at k2
    rw [sp_nz hqc hqw hcw] at k3
    rw [sp_nh hqw hcw]
    by_cases e1 : a = q
    · subst e1
      rw [if_pos rfl] at k3 ⊢
      unfold insf
      by_cases z1 : i < t + 1
      · rw [if_pos z1]
        exact gt a i hq.1 hq.2.1 (by have := hq.2.2.1; omega)
      · rw [if_neg z1]
        by_cases z2 : i = t + 1
        · rw [if_pos z2]
          exact ⟨w, rfl⟩
        · rw [if_neg z2]
          exact gt a _ hq.1 hq.2.1 (by omega)
    rw [if_neg e1] at k3 ⊢
    by_cases e2 : a = c
    · subst e2
      rw [if_pos rfl] at k3
      rw [if_neg hcw]
      rw [upd_ne _ _ hcw] at k2
      exact gt a i hu k2 (by omega)
    rw [if_neg e2] at k3
    by_cases e3 : a = w
    · subst e3
      rw [if_pos rfl] at k3 ⊢
      rw [upd_at] at k2
      exact gt c _ hu k2 (by omega)
    rw [if_neg e3] at k3 ⊢
    rw [upd_ne _ _ e3] at k1 k2
    exact gt a i k1 k2 k3
  obtain ⟨k, hk⟩ := z
  exact ⟨k, k1, k2, k3, hk⟩
theorem sp_TX (H : TX S rk n c) (hq : KD S q t c) (hcn : c ≠ n) (hw : w < 64) (h0 : nu S w = 0) (hu : ¬ nu S c = 0) (hz : nz S c = 9) : TX (sp q t c w S) (va_up rk w (rk c)) n q := by
  obtain ⟨O, hn, J, P, R⟩ := H
  have kq := hq.ok O
  have hqc : q ≠ c := fun e => by
    rw [e] at kq
    omega
  have hqw : q ≠ w := fun e => hq.1 (e ▸ h0)
  have hcw : c ≠ w := fun e => hu (e ▸ h0)
  have nw : ∀ m, ¬ nu S m = 0 → m ≠ w := fun m hm e => hm (e ▸ h0)
  have oc := O c hu
  have oq := O q hq.1
  have rkq : ∀ m, ¬ nu S m = 0 → va_up rk w (rk c) m = rk m := fun m hm => va_up_ne _ _ (nw m hm)
  have rkw : va_up rk w (rk c) w = rk c := va_up_self _ _ _
  have KO : ∀ a i k, KD (sp q t c w S) a i k → ¬ nu (sp q t c w S) k = 0 ∧ va_up rk w (rk c) k + 1 = va_up rk w (rk c) a ∧ 1 ≤ nz (sp q t c w S) k := by
    intro a i k h
    rcases sp_KD hq hqc h0 hu hz h with ⟨e1, e2, e3⟩ | ⟨a', i', h2, hh⟩
    · subst e1
      subst e2
      refine ⟨?_, ?_, ?_⟩
      · rw [sp_nu, upd_at]
        decide
      · rw [rkw, rkq a hq.1]
        exact kq.2.1
      · rw [sp_nz hqc hqw hcw, if_neg (Ne.symm hqw), if_neg (Ne.symm hcw), if_pos rfl]
        omega
    · obtain ⟨u1, u2, u3⟩ := h2.ok O
      have ra : va_up rk w (rk c) a = rk a' := by
        rcases hh with ⟨z1, z2, -⟩ | ⟨z1, z2, -⟩ | ⟨z1, z2, -⟩ | ⟨z0, z1, z3, z2, -⟩
        · rw [z1, z2, rkq c hu]
        · rw [z1, z2, rkw]
        · rw [z1, z2, rkq q hq.1]
        · rw [z2, va_up_ne _ _ z1]
      refine ⟨?_, ?_, ?_⟩
      · rw [sp_nu, upd_ne _ _ (nw k u1)]
        exact u1
      · rw [ra, rkq k u1]
        exact u2
      · rw [sp_nz hqc hqw hcw]
        by_cases x1 : k = q
        · rw [if_pos x1]
          omega
        rw [if_neg x1]
        by_cases x2 : k = c
        · rw [if_pos x2]
          omega
        rw [if_neg x2, if_neg (nw k u1)]
        exact u3 x2
  refine ⟨?_, ?_, ?_, ?_, ?_⟩
  · intro m hm
    have kk : ¬ nv (sp q t c w S) m = 0 → ∀ i, i < nz (sp q t c w S) m → ∃ k : Nat, nh (sp q t c w S) m i = k ∧ ¬ nu (sp q t c w S) k = 0 ∧ va_up rk w (rk c) k + 1 = va_up rk w (rk c) m ∧ (k ≠ q → 1 ≤ nz (sp q t c w S) k) := by
      intro hv i hi
      obtain ⟨k, hk⟩ := sp_ex O hq hqc h0 hu hz hm hv hi
      obtain ⟨y1, y2, y3⟩ := KO m i k hk
      exact ⟨k, hk.2.2.2, y1, y2, fun _ => y3⟩
    by_cases e3 : m = w
    · subst e3
      have z5 : nz (sp q t c m S) m = 5 := by rw [sp_nz hqc hqw hcw, if_neg (Ne.symm hqw), if_neg (Ne.symm hcw), if_pos rfl]
      have hvm : nv (sp q t c m S) m = nv S c := by rw [sp_nv, upd_at]
      refine ⟨hw, by omega, fun _ => by omega, by rw [hvm]; exact oc.2.2.2.1, fun hv => ?_, fun hv => ⟨?_, fun _ => by omega, kk hv⟩⟩
      · rw [rkw]
        rw [hvm] at hv
        exact oc.2.2.2.2.1 hv
      · rw [rkw]
        rw [hvm] at hv
        exact (oc.2.2.2.2.2 hv).1
    · have hm2 : ¬ nu S m = 0 := by
        rw [sp_nu, upd_ne _ _ e3] at hm
        exact hm
      have hvm : nv (sp q t c w S) m = nv S m := by rw [sp_nv, upd_ne _ _ e3]
      obtain ⟨o1, o2, o3, o4, o5, o6⟩ := O m hm2
      have zz := sp_nz (S := S) (t := t) hqc hqw hcw m
      rw [if_neg e3] at zz
      refine ⟨o1, ?_, fun e => ?_, by rw [hvm]; exact o4, fun hv => ?_, fun hv => ⟨?_, fun e => ?_, kk hv⟩⟩
      · rw [zz]
        split
        · have := oq.2.2.1 hqc
          omega
        · split
          · omega
          · exact o2
      · rw [zz, if_neg e]
        split
        · omega
        · exact o3 (by assumption)
      · rw [rkq m hm2]
        rw [hvm] at hv
        exact o5 hv
      · rw [rkq m hm2]
        rw [hvm] at hv
        exact (o6 hv).1
      · rw [zz, if_neg e]
        rw [hvm] at hv
        split
        · omega
        · exact (o6 hv).2.1 (by assumption)
  · rw [sp_nu, upd_ne _ _ (nw n hn)]
    exact hn
  · intro a b i j k h1 h2
    rcases sp_KD hq hqc h0 hu hz h1 with ⟨e1, e2, e3⟩ | ⟨a', i', g1, hh1⟩
    · rcases sp_KD hq hqc h0 hu hz h2 with ⟨f1, f2, f3⟩ | ⟨b', j', g2, hh2⟩
      · omega
      · exact absurd e1 (nw k (g2.ok O).1)
    · rcases sp_KD hq hqc h0 hu hz h2 with ⟨f1, f2, f3⟩ | ⟨b', j', g2, hh2⟩
      · exact absurd f1 (nw k (g1.ok O).1)
      · obtain ⟨x1, x2⟩ := J _ _ _ _ _ g1 g2
        omega
  · intro m hm
    by_cases e3 : m = w
    · refine Or.inr ⟨q, t + 1, ?_⟩
      rw [e3]
      refine ⟨?_, ?_, ?_, ?_⟩
      · rw [sp_nu, upd_ne _ _ hqw]
        exact hq.1
      · rw [sp_nv, upd_ne _ _ hqw]
        exact hq.2.1
      · rw [sp_nz hqc hqw hcw, if_pos rfl]
        have := hq.2.2.1
        omega
      · rw [sp_nh hqw hcw, if_pos rfl]
        unfold insf
        rw [if_neg (by omega), if_pos rfl]
    · have hm2 : ¬ nu S m = 0 := by
        rw [sp_nu, upd_ne _ _ e3] at hm
        exact hm
      rcases P m hm2 with h | ⟨a, i, h⟩
      · exact Or.inl h
      · exact Or.inr (sp_DK hq hqc h0 hu hz h)
  · intro m hm
    by_cases e3 : m = w
    · rw [e3, rkw, rkq n hn]
      rcases R c hu with h | h
      · exact absurd h hcn
      · exact Or.inr h
    · have hm2 : ¬ nu S m = 0 := by
        rw [sp_nu, upd_ne _ _ e3] at hm
        exact hm
      rw [rkq m hm2, rkq n hn]
      exact R m hm2
end SPL
