/-! the law's entry -/
theorem sc_ex {s : State} {args : Array Value} {b L : Nat} {xs : Nat → Int32} (hts : ∀ w ∈ lw_tbl, w.before args s = true) (hg : (Jvm.Cond.and given_1 narrow_1).before args s = true) (hX : va_X b L xs s s.heap) (hb : b < s.heap.size) : ∃ G : GT, SC G s s.heap ∧ gL G = L ∧ gb G = b ∧ gz G = s.heap.size := by
  have hs := flat_of_before _ hg
  have hA : ∀ a : Nat, a < s.heap.size → ¬ (fun q => s.heap.size ≤ q) a := fun a h q => absurd h (Nat.not_lt.mpr q)
  obtain ⟨D, hD⟩ := cl_ex hts
  obtain ⟨TA, hTA⟩ := ty_ex hts
  obtain ⟨adK, adV, hS, hev⟩ := st_ex hg hA
  have u5 : ∀ j, j < 6 → (flatC (Jvm.Cond.and given_1 narrow_1))[12 + j]? = some (Cond.eq (.elem (.static "ListenerIsTired" "UNDER" "[I") (.int (Int32.ofNat j))) (.int (undr j))) := by decide +kernel
  obtain ⟨u, hu, hUT⟩ := va_Tof (tm := .static "ListenerIsTired" "UNDER" "[I") (ty := .int) (N := 6) (f := fun j => .int (undr j)) (A := fun q => s.heap.size ≤ q) (by decide) (hs (.arrayOf (.static "ListenerIsTired" "UNDER" "[I") .int) (by decide +kernel)) (va_eqt (hs (.eq (.length (.static "ListenerIsTired" "UNDER" "[I")) (.int 6)) (by decide +kernel))) (fun j hj => va_eqt (hs _ (List.mem_of_getElem? (u5 j hj)))) hA
  have hZU := va_Zref (hts (.laysStatic "ListenerIsTired" "UNDER" "[I") (by decide +kernel)) (hts (.initialized "ListenerIsTired") (by decide +kernel)) hu hA
  have hZC := va_Zof (v := .int 1) (hts (.laysStatic "java/lang/String" "COMPACT_STRINGS" "Z") (by decide +kernel)) (hts (.initialized "java/lang/String") (by decide +kernel)) (va_eqt (hs (.eq (.static "java/lang/String" "COMPACT_STRINGS" "Z") (.int 1)) (by decide +kernel))) hA
  have hZF : ∃ o : Option Nat, va_Z "jdk/internal/util/Preconditions" "SIOOBE_FORMATTER" "Ljava/util/function/BiFunction;" (va_rf o) (fun q => s.heap.size ≤ q) s s.heap := by
    rcases va_Zqof (hts (.laysStatic "jdk/internal/util/Preconditions" "SIOOBE_FORMATTER" "Ljava/util/function/BiFunction;") (by decide +kernel)) (hts (.initialized "jdk/internal/util/Preconditions") (by decide +kernel)) (hs (.isRef (.static "jdk/internal/util/Preconditions" "SIOOBE_FORMATTER" "Ljava/util/function/BiFunction;")) (by decide +kernel)) hA with h | ⟨t, h⟩
    · exact ⟨none, h⟩
    · exact ⟨some t, h⟩
  obtain ⟨gf, hZF⟩ := hZF
  have hr : ∀ i, i < 14 → Cond.stringRef "ListenerIsTired$Tape" ((strIdx[i]?).getD 0) ((strTx[i]?).getD "") ∈ lw_tbl := by decide +kernel
  refine ⟨(s.heap.size, ((fun c => (D c).1), ((fun c => (D c).2), (TA, (u, (adK, (adV, (gf, (b, (L, xs)))))))))), ⟨⟨fun c q hq => hD c q hq, fun k q hq => hTA k q hq⟩, fun w hw => ?_, hZU, hUT, hZC, hZF, hS, fun i hi => vk_R.of (hts _ (hr i hi)) (hev i hi), ⟨va_AO.of (hts (.arrayOver (.object "ListenerIsTired$Rule")) (by decide +kernel)), va_AO.of (hts (.arrayOver (.object "ListenerIsTired$Sheet")) (by decide +kernel)), va_AO.of (hts (.arrayOver (.object "ListenerIsTired$Person")) (by decide +kernel))⟩, hX, fun h => absurd hb (Nat.not_lt.mpr h), Nat.le_refl _⟩, rfl, rfl, rfl⟩
  have hw2 := in_of_ix _ NW_in w hw
  unfold NW at hw
  obtain ⟨q, -, rfl⟩ := List.mem_map.mp hw
  exact va_Nw.of rfl (hts _ hw2)
