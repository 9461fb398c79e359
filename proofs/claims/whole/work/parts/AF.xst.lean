/-! the law, from its entry -/
theorem xst_of {s : State} {b : Nat} (hts : ∀ w ∈ lw_tbl, w.before #[Value.ref b] s = true) (hgv : (Jvm.Cond.and given_1 narrow_1).before #[Value.ref b] s = true) : XSt (fun a => s.heap.size ≤ a) s := by
  have hs := flat_of_before _ hgv
  have hA : ∀ a : Nat, a < s.heap.size → ¬ (fun a : Nat => s.heap.size ≤ a) a := fun a h => Nat.not_le.mpr h
  refine ⟨vx_Zqof (hts (.laysStatic Bundle.tN "UNASSIGNED_STACK" Bundle.steD) (by decide +kernel)) (hts (.initialized Bundle.tN) (by decide +kernel)) (hs (.isRef (.static Bundle.tN "UNASSIGNED_STACK" Bundle.steD)) (by decide +kernel)) hA, vx_Zqof (hts (.laysStatic Bundle.tN "SUPPRESSED_SENTINEL" Bundle.listD) (by decide +kernel)) (hts (.initialized Bundle.tN) (by decide +kernel)) (hs (.isRef (.static Bundle.tN "SUPPRESSED_SENTINEL" Bundle.listD)) (by decide +kernel)) hA, ?_, ?_, ?_, va_Nc.of (hs (.not (.castable nIAE nISE)) (by decide +kernel)), va_Nw.of rfl (hts (.castable nISE nISE) (by decide +kernel)), va_Nw.of rfl (hts (.castable nIAE nIAE) (by decide +kernel)), va_Nw.of rfl (hts (.declares (Bundle.initS "java/lang/RuntimeException")) (by decide +kernel)), va_Nw.of rfl (hts (.declares (Bundle.initS "java/lang/Exception")) (by decide +kernel)), va_Nw.of rfl (hts (.declares (Bundle.initS Bundle.tN)) (by decide +kernel))⟩
  · obtain ⟨a, -, -, -, ha, -⟩ := Cond.exactly_spec (hs (.exactly (.string RX6 122) "java/lang/String") (by decide +kernel))
    exact ⟨a, vk_R.of (hts (.stringRef RX6 122 "there is no power") (by decide +kernel)) ha⟩
  · obtain ⟨a, -, -, -, ha, -⟩ := Cond.exactly_spec (hs (.exactly (.string RX6 129) "java/lang/String") (by decide +kernel))
    exact ⟨a, vk_R.of (hts (.stringRef RX6 129 "there is no row") (by decide +kernel)) ha⟩
  · obtain ⟨a, -, -, -, ha, -⟩ := Cond.exactly_spec (hs (.exactly (.string RX6 188) "java/lang/String") (by decide +kernel))
    exact ⟨a, vk_R.of (hts (.stringRef RX6 188 "there is no such entry") (by decide +kernel)) ha⟩
theorem nwI_tb : ∀ w ∈ nwI, w ∈ lw_tbl := by decide +kernel
theorem nwL_tb : ∀ w ∈ nwL, w ∈ lw_tbl := by decide +kernel
