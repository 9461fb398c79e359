/-! the start -/
set_option maxHeartbeats 8000000 in
set_option maxRecDepth 100000 in
theorem whole_start {p : Program} {e : Env} {s : State} {m : MethodId} {below : List Frame} {meth : Method} {c : Code} (l : Launch) (hst : l.stackTraces = false) {b L : Nat} {xs : Nat → Int32} (hL : L ≤ 2048) (C0 : lw_At p s m meth c b L xs) : W p l e room_1 s m #[Value.ref b] below meth c s.heap [] 0 0 (lw_Z below #[Value.ref b] s) (entryFrame m ([Value.ref b] : List Value).toArray 7) := by
  obtain ⟨hx, hb, hr, hml, hown, htl, hX, hbl, hlocks, hgv⟩ := id C0
  have hown : s.vm.findClass RL = some m.cls := hown
  have hts : ∀ w ∈ wsL_law, w.before #[Value.ref b] s = true := fun w h => htl w (wsL_law_in w h)
  have hts0 : ∀ w ∈ wsL_law0, w.before #[Value.ref b] s = true := fun w h => hts w (law_in0 w h)
  have hXS := xst_of htl hgv
  obtain ⟨k0, i0, hKn0⟩ := u_known (C := RX0) (T := TX0) (N := 6) (n := 6) hts0 inlX0 (hts0 (.instantiable RX0 6) (by decide +kernel))
  obtain ⟨k1, i1, hKn1⟩ := u_known (C := RX1) (T := TX1) (N := 4) (n := 4) hts0 inlX1 (hts0 (.instantiable RX1 4) (by decide +kernel))
  obtain ⟨k2, i2, hKn2⟩ := u_known (C := RX2) (T := TX2) (N := 4) (n := 4) hts0 inlX2 (hts0 (.instantiable RX2 4) (by decide +kernel))
  obtain ⟨k3, i3, hKn3⟩ := u_known (C := RX3) (T := TX3) (N := 7) (n := 7) hts0 inlX3 (hts0 (.instantiable RX3 7) (by decide +kernel))
  obtain ⟨k4, i4, hKn4⟩ := u_known (C := RX4) (T := TX4) (N := 5) (n := 5) hts0 inlX4 (hts0 (.instantiable RX4 5) (by decide +kernel))
  obtain ⟨k5, i5, hKn5⟩ := u_known (C := RX5) (T := TX5) (N := 13) (n := 13) hts0 inlX5 (hts0 (.instantiable RX5 13) (by decide +kernel))
  obtain ⟨k6, i6, hKn6⟩ := u_known (C := RX6) (T := TX6) (N := 15) (n := 15) hts0 inlX6 (hts0 (.instantiable RX6 15) (by decide +kernel))
  obtain ⟨k7, i7, hKn7⟩ := u_known (C := RX7) (T := TX7) (N := 52) (n := 52) hts0 inlX7 (hts0 (.instantiable RX7 52) (by decide +kernel))
  obtain ⟨D, hKc⟩ : ∃ (D : va_G), ∀ (k : Nat) (q : vw_C), vwCl[k]? = some q → u_Kn s q.1 q.2.1 q.2.2 (D.1 k) (D.2 k) := by
    refine ⟨(fun k => [k0, k1, k2, k3, k4, k5, k6, k7].getD k k0, fun k => [i0, i1, i2, i3, i4, i5, i6, i7].getD k i0), ?_⟩
    intro k q hq
    match k, hq with
    | 0, hq => cases hq; exact hKn0
    | 1, hq => cases hq; exact hKn1
    | 2, hq => cases hq; exact hKn2
    | 3, hq => cases hq; exact hKn3
    | 4, hq => cases hq; exact hKn4
    | 5, hq => cases hq; exact hKn5
    | 6, hq => cases hq; exact hKn6
    | 7, hq => cases hq; exact hKn7
    | k + 8, hq => simp [vwCl] at hq
  obtain ⟨a0, kA0, comp0, f0, g0, o0⟩ := Cond.arrayClass_spec (hts0 (.arrayClass .int) (by decide +kernel))
  obtain ⟨a1, kA1, comp1, f1, g1, o1⟩ := Cond.arrayClass_spec (hts0 (.arrayClass .boolean) (by decide +kernel))
  obtain ⟨a2, kA2, comp2, f2, g2, o2⟩ := Cond.arrayClass_spec (hts0 (.arrayClass .long) (by decide +kernel))
  have hK : va_K D vwCl (ty3 (cyB a0 a1 a2)) s := by
    refine ⟨hKc, fun k q h => ?_⟩
    match k, h with
    | 0, h => cases h; exact ⟨fun N z => ⟨(fun k h => by cases h), kA0, g0, comp0, o0⟩, f0⟩
    | 1, h => cases h; exact ⟨fun N z => ⟨(fun k h => by cases h), kA1, g1, comp1, o1⟩, f1⟩
    | 2, h => cases h; exact ⟨fun N z => ⟨(fun k h => by cases h), kA2, g2, comp2, o2⟩, f2⟩
    | k + 3, h => simp at h
  have hO : va_AOA .long s := Jvm.Stand.arrayOver_alikeB (Vm.Alike.refl s.vm) (htl (.arrayOver (.array .long)) (by decide +kernel))
  have hWs : ∀ w ∈ nwI, va_Nw w s := by
    intro w hw
    have h1 := htl w (nwI_tb w hw)
    simp only [nwI, List.mem_cons, List.not_mem_nil, or_false] at hw
    rcases hw with rfl | rfl | rfl | rfl | rfl | rfl <;> exact va_Nw.of rfl h1
  have hWl : ∀ w ∈ nwL, va_Nw w s := by
    intro w hw
    have h1 := htl w (nwL_tb w hw)
    simp only [nwL, List.mem_cons, List.not_mem_nil, or_false] at hw
    rcases hw with rfl | rfl | rfl <;> exact va_Nw.of rfl h1
  have hA : ∀ q : Nat, s.heap.size ≤ q → (fun q : Nat => s.heap.size ≤ q) q := fun _ h => h
  have hS : va_S (fun q : Nat => s.heap.size ≤ q) s.heap s.heap [] := va_S.rf
  have hP : va_P D vwCl (([] : va_W) ++ []) s.heap := fun k q h => by simp at h
  have hD : va_D (fun q : Nat => s.heap.size ≤ q) (([] : va_W) ++ []) := ⟨fun i j p q h => by simp at h, fun k q h => by simp at h⟩
  have hl := lv_entry ([.ref b]) (n := 7) (Nat.le_of_ble_eq_true rfl)
  rw [lg_entry_eq]
  generalize (lg_sl ([.ref b]) ++ List.replicate (7 - (lg_sl ([.ref b])).length) Slot.unset).toArray = ls at hl ⊢
  have hl : lv_has ls 7 [(0, .ref b)] := hl
  refine nwO (X := []) (PL := []) (ci := 6) (fs := [.null, .null, .int 0, .int 0, .int 0, .int 0, .int 0, .int 0, .null, .null, .null, .null, .null, .int 0, .int 0]) (C := RX6) (T := TX6) (N := 15) (index := 8) (own := RL) hx hb hts0 inlX6 tyX6 tyX6_ok hown (by decide +kernel) hK hP hD hS hA rfl dfX6 (Nat.le_of_ble_eq_true rfl) (Nat.le_of_ble_eq_true rfl) dL_law_0 (fun q0 H hP hD hS => ?_)
  refine lv_dup hx hb dL_law_3 rfl ?_
  refine kcallW (N := mX6_init) (ci := 6) (fs := [.null, .null, .int 0, .int 0, .int 0, .int 0, .int 0, .int 0, .null, .null, .null, .null, .null, .int 0, .int 0]) (idx := 20) (own := RL) (wr := [] ++ []) (kX6_init l D (cyB a0 a1 a2)) hWs hx hb hml hown hts0 (by decide +kernel) (good_M (by decide +kernel)) ⟨rfl, rfl, rfl⟩ (by decide +kernel) ⟨by decide, by decide⟩ hK hO hP hD hS hA hl.1 (Nat.le_of_ble_eq_true rfl) dL_law_4 ⟨Nat.le_of_ble_eq_true rfl, Nat.le_of_ble_eq_true rfl⟩ (fun w1 t H locs ht hvm hpo hP hD hS => ?_)
  obtain ⟨q1, q2, q3, q4, q5, q6, q7, q8, q9, q10, q11, q12, q13, q14, q15, q16, q17, q18, q19, q20, q21, q22, q23, q24, q25, q26, cA, r, hr1, hpo, hK5⟩ := hpo
  have hK5 := va_K.moved hvm.symm hK5
  subst hpo
  have hP : va_P D vwCl (wX6 (cyB a0 a1 a2) q0 q1 q2 q3 q4 q5 q6 q7 q8 q9 q10 q11 q12 q13 q14 q15 q16 q17 q18 q19 q20 q21 q22 q23 q24 q25 q26 cA r ++ wR (cyB a0 a1 a2) r) H := hP
  have hD : va_D (fun q : Nat => s.heap.size ≤ q) (wX6 (cyB a0 a1 a2) q0 q1 q2 q3 q4 q5 q6 q7 q8 q9 q10 q11 q12 q13 q14 q15 q16 q17 q18 q19 q20 q21 q22 q23 q24 q25 q26 cA r ++ wR (cyB a0 a1 a2) r) := hD
  refine lv_astore_n (lv' := [(1, .ref q0), (0, .ref b)]) hx hb dL_law_7 rfl hl (by decide) rfl (fun ls hl => ?_)
  refine nwO (X := wX6 (cyB a0 a1 a2) q0 q1 q2 q3 q4 q5 q6 q7 q8 q9 q10 q11 q12 q13 q14 q15 q16 q17 q18 q19 q20 q21 q22 q23 q24 q25 q26 cA r) (PL := wR (cyB a0 a1 a2) r) (ci := 7) (fs := (.int 0 :: .null :: .null :: .null :: .int 0 :: .int 0 :: .int 0 :: .int 0 :: .int 0 :: .int 0 :: .null :: .int 0 :: .int 0 :: .int 0 :: .int 0 :: .int 0 :: .int 0 :: .int 0 :: .null :: .null :: .int 0 :: .null :: .int 0 :: .null :: .null :: .null :: .int 0 :: .int 0 :: .int 0 :: .null :: .int 0 :: .int 0 :: .null :: .int 0 :: .int 0 :: .null :: .null :: .null :: .null :: .null :: .null :: .null :: .int 0 :: .null :: .int 0 :: .int 0 :: .null :: .null :: .null :: .null :: .int 0 :: .null :: [])) (C := RX7) (T := TX7) (N := 52) (index := 21) (own := RL) hx hb hts0 inlX7 tyX7 tyX7_ok hown (by decide +kernel) hK hP hD hS hA rfl dfX7 (Nat.le_of_ble_eq_true rfl) (Nat.le_of_ble_eq_true rfl) dL_law_8 (fun q27 H hP hD hS => ?_)
  refine lv_dup hx hb dL_law_11 rfl ?_
  refine kcall (N := mX7_init) (ci := 7) (fs := (.int 0 :: .null :: .null :: .null :: .int 0 :: .int 0 :: .int 0 :: .int 0 :: .int 0 :: .int 0 :: .null :: .int 0 :: .int 0 :: .int 0 :: .int 0 :: .int 0 :: .int 0 :: .int 0 :: .null :: .null :: .int 0 :: .null :: .int 0 :: .null :: .null :: .null :: .int 0 :: .int 0 :: .int 0 :: .null :: .int 0 :: .int 0 :: .null :: .int 0 :: .int 0 :: .null :: .null :: .null :: .null :: .null :: .null :: .null :: .int 0 :: .null :: .int 0 :: .int 0 :: .null :: .null :: .null :: .null :: .int 0 :: .null :: [])) (idx := 23) (own := RL) (wr := wX6 (cyB a0 a1 a2) q0 q1 q2 q3 q4 q5 q6 q7 q8 q9 q10 q11 q12 q13 q14 q15 q16 q17 q18 q19 q20 q21 q22 q23 q24 q25 q26 cA r ++ wR (cyB a0 a1 a2) r) (kX7_init l D (cyB a0 a1 a2)) hx hb hml hown hts0 (by decide +kernel) (good_M (by decide +kernel)) ⟨rfl, rfl, rfl⟩ (by decide +kernel) ⟨by decide, by decide⟩ hK hO hP hD hS hA hl.1 (Nat.le_of_ble_eq_true rfl) dL_law_12 ⟨Nat.le_of_ble_eq_true rfl, Nat.le_of_ble_eq_true rfl⟩ (fun w1 t H locs ht hvm hpo hP hD hS => ?_)
  obtain ⟨q28, q29, q30, q31, q32, q33, q34, q35, q36, q37, q38, q39, q40, q41, q42, q43, q44, q45, q46, q47, q48, q49, q50, q51, q52, hpo⟩ := hpo
  subst hpo
  have hP := hP.swap
  have hD := hD.swap
  refine lv_astore_n (lv' := [(2, .ref q27), (1, .ref q0), (0, .ref b)]) hx hb dL_law_15 rfl hl (by decide) rfl (fun ls hl => ?_)
  refine lv_iconst (v := 1) hx hb dL_law_16 (by decide) ?_
  refine nwP (atype := .long) (ty := .long) (n := 1) (N' := 1) (X := wX6 (cyB a0 a1 a2) q0 q1 q2 q3 q4 q5 q6 q7 q8 q9 q10 q11 q12 q13 q14 q15 q16 q17 q18 q19 q20 q21 q22 q23 q24 q25 q26 cA r ++ (wX7 (cyB a0 a1 a2) q27 q28 q29 q30 q31 q32 q33 q34 q35 q36 q37 q38 q39 q40 q41 q42 q43 q44 q45 q46 q47 q48 q49 q50 q51 q52 ++ [])) (PL := wR (cyB a0 a1 a2) r) (a0 := (1, .inr (.inl (fun _ => 0)))) (t0 := 2) hx hb (hts0 (.arrayClass .long) (by decide +kernel)) rfl hK rfl (fun _ a b => ra_long a b) hP hD hS hA (fun _ => rfl) (by decide) (by decide) (by decide) (Nat.le_of_ble_eq_true rfl) (Nat.le_of_ble_eq_true rfl) dL_law_17 (fun q53 H hP hD hS => ?_)
  refine lv_astore_n (lv' := [(3, .ref q53), (2, .ref q27), (1, .ref q0), (0, .ref b)]) hx hb dL_law_19 rfl hl (by decide) rfl (fun ls hl => ?_)
  refine lv_iconst (v := 0) hx hb dL_law_20 (by decide) ?_
  refine lv_istore (lv' := [(4, .int 0), (3, .ref q53), (2, .ref q27), (1, .ref q0), (0, .ref b)]) hx hb dL_law_21 hl (by decide) rfl (fun ls hl => ?_)
  refine W.widen (k := 118) (n := 7698) (Nat.le_of_ble_eq_true rfl) (Nat.le_of_ble_eq_true rfl) ?_
  have hP2 := w_P (l := l) (b := b) hP
  obtain ⟨hg, kA⟩ := w_D (l := l) (D := D) (b := b) hD
  have hl2 : lv_has ls 7 (lm (ad (qL q0 q1 q2 q3 q4 q5 q6 q7 q8 q9 q10 q11 q12 q13 q14 q15 q16 q17 q18 q19 q20 q21 q22 q23 q24 q25 q26 q27 q28 q29 q30 q31 q32 q33 q34 q35 q36 q37 q38 q39 q40 q41 q42 q43 q44 q45 q46 q47 q48 q49 q50 q51 q52 q53) r b) [(0, vR 200), (1, vR 0), (2, vR 27), (3, vR 53), (4, vI (nI 0))]) := lv_sub hl [4, 3, 2, 1, 0] rfl
  exact law_loop (xs := xs) hL 513 0 118 7698 h00 (by omega) (by omega) (by omega) (by omega) h00_I ((l, D, ad (qL q0 q1 q2 q3 q4 q5 q6 q7 q8 q9 q10 q11 q12 q13 q14 q15 q16 q17 q18 q19 q20 q21 q22 q23 q24 q25 q26 q27 q28 q29 q30 q31 q32 q33 q34 q35 q36 q37 q38 q39 q40 q41 q42 q43 q44 q45 q46 q47 q48 q49 q50 q51 q52 q53) r b, cyF a0 a1 a2 cA) : GG) hg p e s m #[Value.ref b] below meth c ⟨hx, hb, hr, hlocks, hml, hown, hts0, hK5, hWl⟩ kA ⟨Nat.le_of_ble_eq_true rfl, Nat.le_of_ble_eq_true rfl⟩ ⟨hst, hts, hXS, rfl, hX, hbl⟩ H locs ls hP2 hS hl2
