/-! the disk and its blocks -/
theorem sI_sI (h : Hp) (c : Nat) (f g : Nat → Int32) : sI (sI h c f) c g = sI h c g := by
  unfold sI
  dsimp only
  rw [bx_uu]
theorem sI_cg {h : Hp} {c : Nat} {f g : Nat → Int32} (e : ∀ k, f k = g k) : sI h c f = sI h c g := by
  rw [funext e]
theorem sI_self (h : Hp) (c : Nat) : sI h c (h.1 c) = h := by
  have e : va_up h.1 c (h.1 c) = h.1 := by
    funext j
    by_cases hj : j = c
    · subst hj
      rw [va_up_self]
    · rw [va_up_ne _ _ hj]
  unfold sI
  rw [e]
theorem qe {Q : Option AV → Hp → Prop} {v : Option AV} {h h' : Hp} (H : Q v h) (e : h' = h) : Q v h' := e ▸ H
/-- so many blocks: whether power stayed; what is left till it goes; how many were written -/
def wr : Nat → Int32 → Int32 → Bool × Int32 × Int32
  | 0, c, a => (true, c, a)
  | n + 1, c, a => if c = 0 then (false, 0, a + 1) else wr n (if c ≤ 0 then c else c - 1) (a + 1)
theorem c_put_2 {Q : Option AV → Hp → Prop} : ∀ (n i k : Nat) (h : Hp), i + n = k → k < 2147483648 →
    ((wr n (h.1 6 1) (h.1 6 2)).1 = true → Q (some (vI 1)) (sI h 6 (upd (upd (h.1 6) 1 (wr n (h.1 6 1) (h.1 6 2)).2.1) 2 (wr n (h.1 6 1) (h.1 6 2)).2.2))) →
    ((wr n (h.1 6 1) (h.1 6 2)).1 = false → Q (some (vI 0)) (sI h 6 (upd (upd (upd (h.1 6) 1 0) 2 (wr n (h.1 6 1) (h.1 6 2)).2.2) 0 1))) →
    Ev mX0_put 2 [(0, vR 6), (1, vI (nI k)), (2, vI (nI i))] [] h Q
  | 0, i, k, h, hi, hk, h1, h2 => by
    apply sX0_put_2
    simp (disch := omega) only [nt_le, nt_lt, nt_eq, nt_cl, nt_vp, nI_add, lu_le, lu_lt, lu_eq, ul_le, ul_lt, ul_eq, lu_add, ul_add, lu_sub, lu_mul, ul_mul, nt_sub, nt_m1]
    refine ⟨fun _ => ?_, fun c => by omega⟩
    have := h1 rfl
    rw [show sI h 6 (upd (upd (h.1 6) 1 (wr 0 (h.1 6 1) (h.1 6 2)).2.1) 2 (wr 0 (h.1 6 1) (h.1 6 2)).2.2) = sI h 6 (h.1 6) from sI_cg (fun k => by simp only [wr, upd]; split <;> simp_all), sI_self] at this
    exact this
  | n + 1, i, k, h, hi, hk, h1, h2 => by
    apply sX0_put_2
    simp (disch := omega) only [nt_le, nt_lt, nt_eq, nt_cl, nt_vp, nI_add, lu_le, lu_lt, lu_eq, ul_le, ul_lt, ul_eq, lu_add, ul_add, lu_sub, lu_mul, ul_mul, nt_sub, nt_m1]
    refine ⟨fun c => by omega, fun c => ?_⟩
    intro h3 e3
    have a1 : h3.1 6 1 = h.1 6 1 := by rw [e3, sI_at]; rfl
    have a2 : h3.1 6 2 = h.1 6 2 + 1 := by rw [e3, sI_at]; rfl
    rw [a1]
    refine ⟨fun c1 => ⟨fun c2 => ?_, fun c2 h5 e5 => ?_⟩, fun c1 h6 e6 => ?_⟩
    · have ew : wr (n + 1) (h.1 6 1) (h.1 6 2) = wr n (h3.1 6 1) (h3.1 6 2) := by
        rw [a1, a2]
        show (if _ then _ else _) = _
        rw [if_neg c1, if_pos c2]
      rw [ew] at h1 h2
      refine c_put_2 n (i + 1) k h3 (by omega) hk (fun e => ?_) (fun e => ?_)
      · refine qe (h1 e) ?_
        rw [e3, sI_sI, sI_at]
        exact sI_cg (fun k => by simp only [upd]; split <;> simp_all)
      · refine qe (h2 e) ?_
        rw [e3, sI_sI, sI_at]
        exact sI_cg (fun k => by simp only [upd]; split <;> simp_all)
    · have b1 : h5.1 6 1 = h.1 6 1 - 1 := by rw [e5, sI_at, upd_at]
      have b2 : h5.1 6 2 = h.1 6 2 + 1 := by rw [e5, sI_at, upd_ne _ _ (by decide), a2]
      have ew : wr (n + 1) (h.1 6 1) (h.1 6 2) = wr n (h5.1 6 1) (h5.1 6 2) := by
        rw [b1, b2]
        show (if _ then _ else _) = _
        rw [if_neg c1, if_neg c2]
      rw [ew] at h1 h2
      refine c_put_2 n (i + 1) k h5 (by omega) hk (fun e => ?_) (fun e => ?_)
      · refine qe (h1 e) ?_
        rw [e5, e3, sI_sI, sI_sI, sI_at, sI_at]
        exact sI_cg (fun k => by simp only [upd]; split <;> simp_all)
      · refine qe (h2 e) ?_
        rw [e5, e3, sI_sI, sI_sI, sI_at, sI_at]
        exact sI_cg (fun k => by simp only [upd]; split <;> simp_all)
    · have ew : wr (n + 1) (h.1 6 1) (h.1 6 2) = (false, 0, h.1 6 2 + 1) := by
        show (if _ then _ else _) = _
        rw [if_pos c1]
      rw [ew] at h2
      refine qe (h2 rfl) ?_
      rw [e6, e3, sI_sI, sI_at]
      refine sI_cg (fun k => ?_)
      simp only [upd]
      by_cases q0 : k = 0
      · simp [q0]
      by_cases q1 : k = 1
      · subst q1
        simp [c1]
      by_cases q2 : k = 2 <;> simp_all
theorem c_put {Q : Option AV → Hp → Prop} {n : Nat} {h : Hp} (hk : n < 2147483648)
    (h1 : (wr n (h.1 6 1) (h.1 6 2)).1 = true → Q (some (vI 1)) (sI h 6 (upd (upd (h.1 6) 1 (wr n (h.1 6 1) (h.1 6 2)).2.1) 2 (wr n (h.1 6 1) (h.1 6 2)).2.2)))
    (h2 : (wr n (h.1 6 1) (h.1 6 2)).1 = false → Q (some (vI 0)) (sI h 6 (upd (upd (upd (h.1 6) 1 0) 2 (wr n (h.1 6 1) (h.1 6 2)).2.2) 0 1))) : EvM mX0_put [vR 6, vI (nI n)] h Q := by
  apply sX0_put
  exact c_put_2 n 0 n h (by omega) hk h1 h2
