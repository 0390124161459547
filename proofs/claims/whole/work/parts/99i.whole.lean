/-- YOUR PART: from the entry, for every script of at most 3072 ints, the law comes to its end with true -/
theorem whole_start {p : Program} {e : Env} {s : State} {m : MethodId} {below : List Frame} {meth : Method} {c : Code} (l : Launch) (hflags : l.flags = flags0) {b L : Nat} {xs : Nat → Int32} (hL : L ≤ 3072) (C0 : lw_At p s m meth c b L xs) : W p l e room_1 s m #[Value.ref b] below meth c s.heap [] 0 0 (lw_Z below #[Value.ref b] s) (entryFrame m ([Value.ref b] : List Value).toArray 4) := by
  obtain ⟨hx, hcb, hr, hml, hown, hts, hX, hbl, hlocks, hgv⟩ := C0
  obtain ⟨G, hSC, hGL, hGb, hGz⟩ := sc_ex hts hgv hX hbl
  have F : FC G p s m #[Value.ref b] meth c code 8 false 4 80 := ⟨hx, hcb, hml, hown, fun w hw => hts w (WS_in w hw), hSC, Nat.le_refl _, fun h => by cases h⟩
  have hsl : slN 80 ≤ 7302250 := by decide +kernel
  have rc : RC G p l e room_1 s m #[Value.ref b] below meth c 0 80 (lw_Z below #[Value.ref b] s) code 1 (fun r _ => r = some (.inl 1)) := by
    refine ⟨?_, ?_, ?_, ?_⟩
    · intro n pc a h H locs ls b1 b2 b3 b4 b5 b6 b7 b8 b9
      injection b9 with b9
      injection b9 with b9
      subst b9 b8
      refine va_forget (fun q hq => ?_) ?_
      · have := b5.2.2 q hq
        rw [← hGz]
        exact this
      · exact fun T hT X => lw_ret hx hcb hr hlocks b6 T hT (stand_widen X (by decide) (Nat.le_trans (Nat.sub_le _ _) hsl))
    · intro n pc a h H locs ls b1 b2 b3 b4 b5 b6 b7
      exact absurd b7 (by decide)
    · intro n pc a h H locs ls b1 b2 b3 b3' b4 b5 b6 b7
      exact absurd b7 (by decide)
    · intro n pc h H locs ls b1 b2 b3 b4 b5 b6 b7
      exact absurd b7 (by decide)
  have hcl := Cl_of (l := l) (e := e) (R := room_1) (below := below) (rt := 1) (d := 102) (Q := fun r _ => r = some (.inl 1)) (tb := mkT 1121 tL_law) F rc kL_at (fun _ => by rw [hGz]; exact Nat.le_refl _) ⟨by decide, by decide, by decide, Nat.le_trans (Nat.sub_le _ _) hsl⟩
  have hkw := law_walk hcl (by rw [hGL]; exact hL) (fun _ => rfl) (mkD I0 none D0)
  have hen := lv_entry ([vR 50 0 0].map (cv G)) (n := 4) (by show 1 ≤ 4; decide)
  have hcv : [vR 50 0 0].map (cv G) = [Value.ref b] := by rw [← hGb]; rfl
  rw [hcv] at hen
  rw [lg_entry_eq]
  have hok : okH 0 (mkD I0 none D0) := by
    intro k i j hk ho
    exfalso
    rcases ho with h | h | h | h | h | h
    · exact absurd h.2.1 (Nat.not_lt_zero _)
    · have := show k = 40 from h.1; omega
    · have := show k = 41 from h.1; omega
    · have := show k = 42 from h.1; omega
    · have := show k = 43 from h.1; omega
    · have := show k = 50 from h.1; omega
  have hres := hkw (Nat.le_refl _) (Nat.zero_le _) rfl (fun v hv => by
      have hv : v = vR 50 0 0 := by simpa using hv
      subst hv
      intro o ho
      injection ho with ho
      injection ho with ho
      injection ho with ho
      subst ho
      exact Or.inr (Or.inr (Or.inr (Or.inr (Or.inr ⟨rfl, rfl⟩))))) (fun v hv => by cases hv) hok s.heap [] _ (fun i q hq => by cases hq) va_S.rf (by
      show lv_has _ 4 [(0, cv G (vR 50 0 0))]
      rw [show cv G (vR 50 0 0) = Value.ref b by rw [← hGb]; rfl]
      exact hen)
  exact hres
