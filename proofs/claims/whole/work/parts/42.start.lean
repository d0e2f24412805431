theorem xarrC {s : State} {args : Array Value} {ty : FieldType} (hprim : ∀ C, ty ≠ .object C) (h : (Cond.arrayClass ty).before args s = true) : ∃ cA : ClassId, ArrOfT s cA ty ∧ va_RA s cA ty := by
  obtain ⟨cA, kA, comp, h1, h2, h3⟩ := Cond.arrayClass_spec h
  refine ⟨cA, fun n z => ⟨fun k h => (by cases h), kA, h2, comp, h3⟩, ?_⟩
  cases ty <;> first | exact absurd rfl (hprim _) | exact h1
set_option maxHeartbeats 1000000 in
set_option maxRecDepth 100000 in
theorem xstart {p : Program} {s : State} {m : MethodId} {meth : Method} {c : Code} {b L : Nat} {xs : Nat → Int32} (C0 : lw_At p s m meth c b L xs) : ∃ g : xG, vx g p s m #[Value.ref b] meth c code ret 4 ⟨RL, meth.name, ""⟩ wsL_law (fun q : Nat => s.heap.size ≤ q) := by
  obtain ⟨hx, hb, hr, hml, hown, hts, hX, hbl, hlocks, hgv⟩ := id C0
  have htl : ∀ w ∈ wsL_law, w.before #[Value.ref b] s = true := fun w h => hts w (wsL_law_in w h)
  obtain ⟨c0, i0, k0⟩ := u_known (C := RX0) (T := TX0) (N := 1) (n := 1) htl inlX0 (hts (.instantiable RX0 1) (by decide +kernel))
  obtain ⟨c1, i1, k1⟩ := u_known (C := RX1) (T := TX1) (N := 3) (n := 3) htl inlX1 (hts (.instantiable RX1 3) (by decide +kernel))
  obtain ⟨c2, i2, k2⟩ := u_known (C := RX2) (T := TX2) (N := 4) (n := 4) htl inlX2 (hts (.instantiable RX2 4) (by decide +kernel))
  obtain ⟨c3, i3, k3⟩ := u_known (C := RX3) (T := TX3) (N := 5) (n := 5) htl inlX3 (hts (.instantiable RX3 5) (by decide +kernel))
  obtain ⟨c4, i4, k4⟩ := u_known (C := RX4) (T := TX4) (N := 10) (n := 10) htl inlX4 (hts (.instantiable RX4 10) (by decide +kernel))
  obtain ⟨c5, i5, k5⟩ := u_known (C := RX5) (T := TX5) (N := 12) (n := 12) htl inlX5 (hts (.instantiable RX5 12) (by decide +kernel))
  obtain ⟨c6, i6, k6⟩ := u_known (C := RX6) (T := TX6) (N := 10) (n := 10) htl inlX6 (hts (.instantiable RX6 10) (by decide +kernel))
  obtain ⟨c7, i7, k7⟩ := u_known (C := RX7) (T := TX7) (N := 21) (n := 21) htl inlX7 (hts (.instantiable RX7 21) (by decide +kernel))
  obtain ⟨cI, aI, rI⟩ := xarrC (ty := .int) (fun _ q => by cases q) (hts (.arrayClass .int) (by decide +kernel))
  obtain ⟨cJ, aJ, rJ⟩ := xarrC (ty := .long) (fun _ q => by cases q) (hts (.arrayClass .long) (by decide +kernel))
  obtain ⟨cB, aB, rB⟩ := xarrC (ty := .byte) (fun _ q => by cases q) (hts (.arrayClass .byte) (by decide +kernel))
  have hs := flat_of_before _ hgv
  have hnA : ∀ a : Nat, a < s.heap.size → ¬ (fun q : Nat => s.heap.size ≤ q) a := fun a h => Nat.not_le.mpr h
  obtain ⟨tS, eS, TS⟩ := va_Tof (s := s) (args := #[Value.ref b]) (tm := .static "RandomModels$Things" "SHIFTS" "[I") (ty := .int) (N := 7) (f := fun j => .int (cSH j)) (A := fun q : Nat => s.heap.size ≤ q) (by decide) (hs _ (by decide +kernel)) (va_eqt (hs (.eq (.length (.static "RandomModels$Things" "SHIFTS" "[I")) (.int 7)) (by decide +kernel)))
    (fun j hj => by
      rcases (show j = 0 ∨ j = 1 ∨ j = 2 ∨ j = 3 ∨ j = 4 ∨ j = 5 ∨ j = 6 by omega) with rfl | rfl | rfl | rfl | rfl | rfl | rfl
      · exact va_eqt (hs (.eq (.elem (.static "RandomModels$Things" "SHIFTS" "[I") (.int 0)) (.int 0)) (by decide +kernel))
      · exact va_eqt (hs (.eq (.elem (.static "RandomModels$Things" "SHIFTS" "[I") (.int 1)) (.int 4)) (by decide +kernel))
      · exact va_eqt (hs (.eq (.elem (.static "RandomModels$Things" "SHIFTS" "[I") (.int 2)) (.int 9)) (by decide +kernel))
      · exact va_eqt (hs (.eq (.elem (.static "RandomModels$Things" "SHIFTS" "[I") (.int 3)) (.int 15)) (by decide +kernel))
      · exact va_eqt (hs (.eq (.elem (.static "RandomModels$Things" "SHIFTS" "[I") (.int 4)) (.int 18)) (by decide +kernel))
      · exact va_eqt (hs (.eq (.elem (.static "RandomModels$Things" "SHIFTS" "[I") (.int 5)) (.int 21)) (by decide +kernel))
      · exact va_eqt (hs (.eq (.elem (.static "RandomModels$Things" "SHIFTS" "[I") (.int 6)) (.int 27)) (by decide +kernel))) hnA
  obtain ⟨tM, eM, TM⟩ := va_Tof (s := s) (args := #[Value.ref b]) (tm := .static "RandomModels$Things" "MASKS" "[I") (ty := .int) (N := 7) (f := fun j => .int (cMA j)) (A := fun q : Nat => s.heap.size ≤ q) (by decide) (hs _ (by decide +kernel)) (va_eqt (hs (.eq (.length (.static "RandomModels$Things" "MASKS" "[I")) (.int 7)) (by decide +kernel)))
    (fun j hj => by
      rcases (show j = 0 ∨ j = 1 ∨ j = 2 ∨ j = 3 ∨ j = 4 ∨ j = 5 ∨ j = 6 by omega) with rfl | rfl | rfl | rfl | rfl | rfl | rfl
      · exact va_eqt (hs (.eq (.elem (.static "RandomModels$Things" "MASKS" "[I") (.int 0)) (.int 15)) (by decide +kernel))
      · exact va_eqt (hs (.eq (.elem (.static "RandomModels$Things" "MASKS" "[I") (.int 1)) (.int 31)) (by decide +kernel))
      · exact va_eqt (hs (.eq (.elem (.static "RandomModels$Things" "MASKS" "[I") (.int 2)) (.int 63)) (by decide +kernel))
      · exact va_eqt (hs (.eq (.elem (.static "RandomModels$Things" "MASKS" "[I") (.int 3)) (.int 7)) (by decide +kernel))
      · exact va_eqt (hs (.eq (.elem (.static "RandomModels$Things" "MASKS" "[I") (.int 4)) (.int 7)) (by decide +kernel))
      · exact va_eqt (hs (.eq (.elem (.static "RandomModels$Things" "MASKS" "[I") (.int 5)) (.int 63)) (by decide +kernel))
      · exact va_eqt (hs (.eq (.elem (.static "RandomModels$Things" "MASKS" "[I") (.int 6)) (.int 7)) (by decide +kernel))) hnA
  refine ⟨((fun k => if k = 0 then c0 else if k = 1 then c1 else if k = 2 then c2 else if k = 3 then c3 else if k = 4 then c4 else if k = 5 then c5 else if k = 6 then c6 else c7, fun k => if k = 0 then i0 else if k = 1 then i1 else if k = 2 then i2 else if k = 3 then i3 else if k = 4 then i4 else if k = 5 then i5 else if k = 6 then i6 else i7), cI, cJ, cB, tS, tM), hx, hb, hr, hml, hown, rfl, htl, hlocks, fun q h => h, ⟨?_, ?_⟩, ⟨va_Zref (hts (.laysStatic "RandomModels$Things" "SHIFTS" "[I") (by decide +kernel)) (hts (.initialized "RandomModels$Things") (by decide +kernel)) eS hnA, TS⟩, va_Zref (hts (.laysStatic "RandomModels$Things" "MASKS" "[I") (by decide +kernel)) (hts (.initialized "RandomModels$Things") (by decide +kernel)) eM hnA, TM, va_Nw.of rfl (hts (.methodLinkNest RX6 36 yX0_init RX6) (by decide +kernel))⟩
  · intro k q hq
    match k, hq with
    | 0, hq => cases hq; exact k0
    | 1, hq => cases hq; exact k1
    | 2, hq => cases hq; exact k2
    | 3, hq => cases hq; exact k3
    | 4, hq => cases hq; exact k4
    | 5, hq => cases hq; exact k5
    | 6, hq => cases hq; exact k6
    | 7, hq => cases hq; exact k7
    | k + 8, hq => simp [vwCl] at hq
  · intro k q hq
    match k, hq with
    | 0, hq => cases hq; exact ⟨aI, rI⟩
    | 1, hq => cases hq; exact ⟨aJ, rJ⟩
    | 2, hq => cases hq; exact ⟨aB, rB⟩
    | k + 3, hq => simp [xT] at hq
