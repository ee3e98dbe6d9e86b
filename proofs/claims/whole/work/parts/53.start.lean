/-! From the law's entry to its end. -/
theorem arr_known {s : State} {args : Array Value} {ty : FieldType} (h : (Cond.arrayClass ty).before args s = true) : ∃ cA : ClassId, ArrOfT s cA ty ∧ s.vm.findClass ("[" ++ ty.toString) = some cA := by
  obtain ⟨cA, kA, comp, h1, h2, h3⟩ := Cond.arrayClass_spec h
  exact ⟨cA, fun n z => ⟨fun k h => (by cases h), kA, h2, comp, h3⟩, h1⟩
abbrev msT : Term := .static "TallShips" "MOST_SETTING" "[I"
theorem lt_of_start {w : Cond} (i : Nat) (h : lw_tbl[i]? = some w) : w ∈ lw_tbl := List.mem_of_getElem? h
theorem start_Ez {s : State} {b : Nat} (hts : ∀ w ∈ lw_tbl, w.before #[Value.ref b] s = true) (hgv : (Jvm.Cond.and given_1 narrow_1).before #[Value.ref b] s = true) : ∃ t : Nat, Ez t (fun q : Nat => s.heap.size ≤ q) s s.heap := by
  have hs := flat_of_before _ hgv
  have hA : ∀ a : Nat, a < s.heap.size → ¬ (fun q : Nat => s.heap.size ≤ q) a := fun a h => Nat.not_le.mpr h
  obtain ⟨t, htv, hT⟩ := va_Tof (tm := msT) (ty := .int) (N := 5) (f := fMS) (by decide) (hs (.arrayOf msT .int) (by decide +kernel)) (va_eqt (hs (.eq (.length msT) (.int 5)) (by decide +kernel)))
    (fun j hj => by
      have h5 : j = 0 ∨ j = 1 ∨ j = 2 ∨ j = 3 ∨ j = 4 := by omega
      rcases h5 with rfl | rfl | rfl | rfl | rfl
      · exact va_eqt (hs (.eq (.elem msT (.int 0)) (.int 200)) (by decide +kernel))
      · exact va_eqt (hs (.eq (.elem msT (.int 1)) (.int 900)) (by decide +kernel))
      · exact va_eqt (hs (.eq (.elem msT (.int 2)) (.int 20)) (by decide +kernel))
      · exact va_eqt (hs (.eq (.elem msT (.int 3)) (.int 100)) (by decide +kernel))
      · exact va_eqt (hs (.eq (.elem msT (.int 4)) (.int 100)) (by decide +kernel))) hA
  exact ⟨t, va_Zref (hts _ (lt_of_start 209 (by decide +kernel))) (hts (.initialized "TallShips") (by decide +kernel)) htv hA, hT⟩
theorem start_Et {s : State} {b : Nat} (hts : ∀ w ∈ lw_tbl, w.before #[Value.ref b] s = true) (hgv : (Jvm.Cond.and given_1 narrow_1).before #[Value.ref b] s = true) : ∃ sa : Nat, Et sa (fun q : Nat => s.heap.size ≤ q) s s.heap := by
  have hs := flat_of_before _ hgv
  have hA : ∀ a : Nat, a < s.heap.size → ¬ (fun q : Nat => s.heap.size ≤ q) a := fun a h => Nat.not_le.mpr h
  obtain ⟨sa, _, _, _, he, -⟩ := Cond.exactly_spec (hs (.exactly (.string "TallShips" 147) "java/lang/String") (by decide +kernel))
  exact ⟨sa, ⟨vk_R.of (hts (.stringRef RX3 147 "no such ship") (lt_of_start 512 (by decide +kernel))) he, va_Nw.of rfl (hts _ (lt_of_start 477 (by decide +kernel))), va_Nw.of rfl (hts _ (lt_of_start 479 (by decide +kernel))), va_Nw.of rfl (hts _ (lt_of_start 481 (by decide +kernel))), va_Nw.of rfl (hts _ (lt_of_start 475 (by decide +kernel)))⟩,
    vx_Zqof (hts _ (lt_of_start 500 (by decide +kernel))) (hts (.initialized Bundle.tN) (by decide +kernel)) (hs _ (by decide +kernel)) hA, vx_Zqof (hts _ (lt_of_start 502 (by decide +kernel))) (hts (.initialized Bundle.tN) (by decide +kernel)) (hs _ (by decide +kernel)) hA⟩
