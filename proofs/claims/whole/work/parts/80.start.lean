section STATS
variable {s : State} {b : Nat} {A : Nat → Prop}
set_option maxRecDepth 100000 in
theorem sta_0 (hts : ∀ w ∈ lw_tbl, w.before #[Value.ref b] s = true) (hgv : (Jvm.Cond.and given_1 narrow_1).before #[Value.ref b] s = true) (hA : ∀ a : Nat, a < s.heap.size → ¬ A a) : ∃ t : Nat, va_Z (stC 0) (stN 0) "[I" (.ref t) A s s.heap ∧ va_T .int t (stL 0) (fun j => .int (stV 0 j)) A s s.heap := by
  have hs := flat_of_before _ hgv
  have hel : ∀ j : Nat, j < 6 → (Term.elem (.static "EvenStride$Rule" "AT_FIRST" "[I") (.int (Int32.ofNat j))).eval #[Value.ref b] s none [] s = some (.int (stV 0 j)) := by
    intro j hj
    rcases (show j = 0 ∨ j = 1 ∨ j = 2 ∨ j = 3 ∨ j = 4 ∨ j = 5 by omega) with rfl | rfl | rfl | rfl | rfl | rfl
    · exact va_eqt (hs (.eq (.elem (.static "EvenStride$Rule" "AT_FIRST" "[I") (.int 0)) (.int 1)) (by decide +kernel))
    · exact va_eqt (hs (.eq (.elem (.static "EvenStride$Rule" "AT_FIRST" "[I") (.int 1)) (.int 1)) (by decide +kernel))
    · exact va_eqt (hs (.eq (.elem (.static "EvenStride$Rule" "AT_FIRST" "[I") (.int 2)) (.int 1)) (by decide +kernel))
    · exact va_eqt (hs (.eq (.elem (.static "EvenStride$Rule" "AT_FIRST" "[I") (.int 3)) (.int 1)) (by decide +kernel))
    · exact va_eqt (hs (.eq (.elem (.static "EvenStride$Rule" "AT_FIRST" "[I") (.int 4)) (.int 200)) (by decide +kernel))
    · exact va_eqt (hs (.eq (.elem (.static "EvenStride$Rule" "AT_FIRST" "[I") (.int 5)) (.int 200)) (by decide +kernel))
  obtain ⟨t, h1, h2⟩ := va_Tof (tm := (.static "EvenStride$Rule" "AT_FIRST" "[I")) (ty := .int) (N := 6) (f := fun j => .int (stV 0 j)) (A := A) (by decide) (hs (.arrayOf (.static "EvenStride$Rule" "AT_FIRST" "[I") .int) (by decide +kernel)) (va_eqt (hs (.eq (.length (.static "EvenStride$Rule" "AT_FIRST" "[I")) (.int 6)) (by decide +kernel))) hel hA
  exact ⟨t, va_Zof (hts (.laysStatic "EvenStride$Rule" "AT_FIRST" "[I") (by decide +kernel)) (hts (.initialized "EvenStride$Rule") (by decide +kernel)) h1 hA, h2⟩
set_option maxRecDepth 100000 in
theorem sta_1 (hts : ∀ w ∈ lw_tbl, w.before #[Value.ref b] s = true) (hgv : (Jvm.Cond.and given_1 narrow_1).before #[Value.ref b] s = true) (hA : ∀ a : Nat, a < s.heap.size → ¬ A a) : ∃ t : Nat, va_Z (stC 1) (stN 1) "[I" (.ref t) A s s.heap ∧ va_T .int t (stL 1) (fun j => .int (stV 1 j)) A s s.heap := by
  have hs := flat_of_before _ hgv
  have hel : ∀ j : Nat, j < 6 → (Term.elem (.static "EvenStride" "SET_MOST" "[I") (.int (Int32.ofNat j))).eval #[Value.ref b] s none [] s = some (.int (stV 1 j)) := by
    intro j hj
    rcases (show j = 0 ∨ j = 1 ∨ j = 2 ∨ j = 3 ∨ j = 4 ∨ j = 5 by omega) with rfl | rfl | rfl | rfl | rfl | rfl
    · exact va_eqt (hs (.eq (.elem (.static "EvenStride" "SET_MOST" "[I") (.int 0)) (.int 2)) (by decide +kernel))
    · exact va_eqt (hs (.eq (.elem (.static "EvenStride" "SET_MOST" "[I") (.int 1)) (.int 9)) (by decide +kernel))
    · exact va_eqt (hs (.eq (.elem (.static "EvenStride" "SET_MOST" "[I") (.int 2)) (.int 20)) (by decide +kernel))
    · exact va_eqt (hs (.eq (.elem (.static "EvenStride" "SET_MOST" "[I") (.int 3)) (.int 20)) (by decide +kernel))
    · exact va_eqt (hs (.eq (.elem (.static "EvenStride" "SET_MOST" "[I") (.int 4)) (.int 20)) (by decide +kernel))
    · exact va_eqt (hs (.eq (.elem (.static "EvenStride" "SET_MOST" "[I") (.int 5)) (.int 200)) (by decide +kernel))
  obtain ⟨t, h1, h2⟩ := va_Tof (tm := (.static "EvenStride" "SET_MOST" "[I")) (ty := .int) (N := 6) (f := fun j => .int (stV 1 j)) (A := A) (by decide) (hs (.arrayOf (.static "EvenStride" "SET_MOST" "[I") .int) (by decide +kernel)) (va_eqt (hs (.eq (.length (.static "EvenStride" "SET_MOST" "[I")) (.int 6)) (by decide +kernel))) hel hA
  exact ⟨t, va_Zof (hts (.laysStatic "EvenStride" "SET_MOST" "[I") (by decide +kernel)) (hts (.initialized "EvenStride") (by decide +kernel)) h1 hA, h2⟩
set_option maxRecDepth 100000 in
theorem sta_2 (hts : ∀ w ∈ lw_tbl, w.before #[Value.ref b] s = true) (hgv : (Jvm.Cond.and given_1 narrow_1).before #[Value.ref b] s = true) (hA : ∀ a : Nat, a < s.heap.size → ¬ A a) : ∃ t : Nat, va_Z (stC 2) (stN 2) "[I" (.ref t) A s s.heap ∧ va_T .int t (stL 2) (fun j => .int (stV 2 j)) A s s.heap := by
  have hs := flat_of_before _ hgv
  have hel : ∀ j : Nat, j < 6 → (Term.elem (.static "EvenStride" "SET_LEAST" "[I") (.int (Int32.ofNat j))).eval #[Value.ref b] s none [] s = some (.int (stV 2 j)) := by
    intro j hj
    rcases (show j = 0 ∨ j = 1 ∨ j = 2 ∨ j = 3 ∨ j = 4 ∨ j = 5 by omega) with rfl | rfl | rfl | rfl | rfl | rfl
    · exact va_eqt (hs (.eq (.elem (.static "EvenStride" "SET_LEAST" "[I") (.int 0)) (.int 0)) (by decide +kernel))
    · exact va_eqt (hs (.eq (.elem (.static "EvenStride" "SET_LEAST" "[I") (.int 1)) (.int (-9))) (by decide +kernel))
    · exact va_eqt (hs (.eq (.elem (.static "EvenStride" "SET_LEAST" "[I") (.int 2)) (.int (-20))) (by decide +kernel))
    · exact va_eqt (hs (.eq (.elem (.static "EvenStride" "SET_LEAST" "[I") (.int 3)) (.int (-20))) (by decide +kernel))
    · exact va_eqt (hs (.eq (.elem (.static "EvenStride" "SET_LEAST" "[I") (.int 4)) (.int (-20))) (by decide +kernel))
    · exact va_eqt (hs (.eq (.elem (.static "EvenStride" "SET_LEAST" "[I") (.int 5)) (.int 0)) (by decide +kernel))
  obtain ⟨t, h1, h2⟩ := va_Tof (tm := (.static "EvenStride" "SET_LEAST" "[I")) (ty := .int) (N := 6) (f := fun j => .int (stV 2 j)) (A := A) (by decide) (hs (.arrayOf (.static "EvenStride" "SET_LEAST" "[I") .int) (by decide +kernel)) (va_eqt (hs (.eq (.length (.static "EvenStride" "SET_LEAST" "[I")) (.int 6)) (by decide +kernel))) hel hA
  exact ⟨t, va_Zof (hts (.laysStatic "EvenStride" "SET_LEAST" "[I") (by decide +kernel)) (hts (.initialized "EvenStride") (by decide +kernel)) h1 hA, h2⟩
set_option maxRecDepth 100000 in
theorem sta_3 (hts : ∀ w ∈ lw_tbl, w.before #[Value.ref b] s = true) (hgv : (Jvm.Cond.and given_1 narrow_1).before #[Value.ref b] s = true) (hA : ∀ a : Nat, a < s.heap.size → ¬ A a) : ∃ t : Nat, va_Z (stC 3) (stN 3) "[I" (.ref t) A s s.heap ∧ va_T .int t (stL 3) (fun j => .int (stV 3 j)) A s s.heap := by
  have hs := flat_of_before _ hgv
  have hel : ∀ j : Nat, j < 3 → (Term.elem (.static "EvenStride" "TUNE_MOST" "[I") (.int (Int32.ofNat j))).eval #[Value.ref b] s none [] s = some (.int (stV 3 j)) := by
    intro j hj
    rcases (show j = 0 ∨ j = 1 ∨ j = 2 by omega) with rfl | rfl | rfl
    · exact va_eqt (hs (.eq (.elem (.static "EvenStride" "TUNE_MOST" "[I") (.int 0)) (.int 5)) (by decide +kernel))
    · exact va_eqt (hs (.eq (.elem (.static "EvenStride" "TUNE_MOST" "[I") (.int 1)) (.int 50)) (by decide +kernel))
    · exact va_eqt (hs (.eq (.elem (.static "EvenStride" "TUNE_MOST" "[I") (.int 2)) (.int 50)) (by decide +kernel))
  obtain ⟨t, h1, h2⟩ := va_Tof (tm := (.static "EvenStride" "TUNE_MOST" "[I")) (ty := .int) (N := 3) (f := fun j => .int (stV 3 j)) (A := A) (by decide) (hs (.arrayOf (.static "EvenStride" "TUNE_MOST" "[I") .int) (by decide +kernel)) (va_eqt (hs (.eq (.length (.static "EvenStride" "TUNE_MOST" "[I")) (.int 3)) (by decide +kernel))) hel hA
  exact ⟨t, va_Zof (hts (.laysStatic "EvenStride" "TUNE_MOST" "[I") (by decide +kernel)) (hts (.initialized "EvenStride") (by decide +kernel)) h1 hA, h2⟩
set_option maxRecDepth 100000 in
theorem sta_4 (hts : ∀ w ∈ lw_tbl, w.before #[Value.ref b] s = true) (hgv : (Jvm.Cond.and given_1 narrow_1).before #[Value.ref b] s = true) (hA : ∀ a : Nat, a < s.heap.size → ¬ A a) : ∃ t : Nat, va_Z (stC 4) (stN 4) "[I" (.ref t) A s s.heap ∧ va_T .int t (stL 4) (fun j => .int (stV 4 j)) A s s.heap := by
  have hs := flat_of_before _ hgv
  have hel : ∀ j : Nat, j < 7 → (Term.elem (.static "EvenStride" "KIND_TRACE" "[I") (.int (Int32.ofNat j))).eval #[Value.ref b] s none [] s = some (.int (stV 4 j)) := by
    intro j hj
    rcases (show j = 0 ∨ j = 1 ∨ j = 2 ∨ j = 3 ∨ j = 4 ∨ j = 5 ∨ j = 6 by omega) with rfl | rfl | rfl | rfl | rfl | rfl | rfl
    · exact va_eqt (hs (.eq (.elem (.static "EvenStride" "KIND_TRACE" "[I") (.int 0)) (.int 1)) (by decide +kernel))
    · exact va_eqt (hs (.eq (.elem (.static "EvenStride" "KIND_TRACE" "[I") (.int 1)) (.int 10)) (by decide +kernel))
    · exact va_eqt (hs (.eq (.elem (.static "EvenStride" "KIND_TRACE" "[I") (.int 2)) (.int 100)) (by decide +kernel))
    · exact va_eqt (hs (.eq (.elem (.static "EvenStride" "KIND_TRACE" "[I") (.int 3)) (.int 1000)) (by decide +kernel))
    · exact va_eqt (hs (.eq (.elem (.static "EvenStride" "KIND_TRACE" "[I") (.int 4)) (.int 10000)) (by decide +kernel))
    · exact va_eqt (hs (.eq (.elem (.static "EvenStride" "KIND_TRACE" "[I") (.int 5)) (.int 100000)) (by decide +kernel))
    · exact va_eqt (hs (.eq (.elem (.static "EvenStride" "KIND_TRACE" "[I") (.int 6)) (.int 1000000)) (by decide +kernel))
  obtain ⟨t, h1, h2⟩ := va_Tof (tm := (.static "EvenStride" "KIND_TRACE" "[I")) (ty := .int) (N := 7) (f := fun j => .int (stV 4 j)) (A := A) (by decide) (hs (.arrayOf (.static "EvenStride" "KIND_TRACE" "[I") .int) (by decide +kernel)) (va_eqt (hs (.eq (.length (.static "EvenStride" "KIND_TRACE" "[I")) (.int 7)) (by decide +kernel))) hel hA
  exact ⟨t, va_Zof (hts (.laysStatic "EvenStride" "KIND_TRACE" "[I") (by decide +kernel)) (hts (.initialized "EvenStride") (by decide +kernel)) h1 hA, h2⟩
set_option maxRecDepth 100000 in
theorem sta_5 (hts : ∀ w ∈ lw_tbl, w.before #[Value.ref b] s = true) (hgv : (Jvm.Cond.and given_1 narrow_1).before #[Value.ref b] s = true) (hA : ∀ a : Nat, a < s.heap.size → ¬ A a) : ∃ t : Nat, va_Z (stC 5) (stN 5) "[I" (.ref t) A s s.heap ∧ va_T .int t (stL 5) (fun j => .int (stV 5 j)) A s s.heap := by
  have hs := flat_of_before _ hgv
  have hel : ∀ j : Nat, j < 7 → (Term.elem (.static "EvenStride" "KIND_ABOVE" "[I") (.int (Int32.ofNat j))).eval #[Value.ref b] s none [] s = some (.int (stV 5 j)) := by
    intro j hj
    rcases (show j = 0 ∨ j = 1 ∨ j = 2 ∨ j = 3 ∨ j = 4 ∨ j = 5 ∨ j = 6 by omega) with rfl | rfl | rfl | rfl | rfl | rfl | rfl
    · exact va_eqt (hs (.eq (.elem (.static "EvenStride" "KIND_ABOVE" "[I") (.int 0)) (.int 0)) (by decide +kernel))
    · exact va_eqt (hs (.eq (.elem (.static "EvenStride" "KIND_ABOVE" "[I") (.int 1)) (.int 0)) (by decide +kernel))
    · exact va_eqt (hs (.eq (.elem (.static "EvenStride" "KIND_ABOVE" "[I") (.int 2)) (.int 0)) (by decide +kernel))
    · exact va_eqt (hs (.eq (.elem (.static "EvenStride" "KIND_ABOVE" "[I") (.int 3)) (.int 2)) (by decide +kernel))
    · exact va_eqt (hs (.eq (.elem (.static "EvenStride" "KIND_ABOVE" "[I") (.int 4)) (.int 0)) (by decide +kernel))
    · exact va_eqt (hs (.eq (.elem (.static "EvenStride" "KIND_ABOVE" "[I") (.int 5)) (.int 0)) (by decide +kernel))
    · exact va_eqt (hs (.eq (.elem (.static "EvenStride" "KIND_ABOVE" "[I") (.int 6)) (.int 3)) (by decide +kernel))
  obtain ⟨t, h1, h2⟩ := va_Tof (tm := (.static "EvenStride" "KIND_ABOVE" "[I")) (ty := .int) (N := 7) (f := fun j => .int (stV 5 j)) (A := A) (by decide) (hs (.arrayOf (.static "EvenStride" "KIND_ABOVE" "[I") .int) (by decide +kernel)) (va_eqt (hs (.eq (.length (.static "EvenStride" "KIND_ABOVE" "[I")) (.int 7)) (by decide +kernel))) hel hA
  exact ⟨t, va_Zof (hts (.laysStatic "EvenStride" "KIND_ABOVE" "[I") (by decide +kernel)) (hts (.initialized "EvenStride") (by decide +kernel)) h1 hA, h2⟩
end STATS
theorem arI {s : State} {args : Array Value} {ty : FieldType} (h : (Cond.arrayClass ty).before args s = true) (hno : ∀ (cA : ClassId), s.vm.findClass ("[" ++ ty.toString) = some cA → va_RA s cA ty) (hk : ∀ (k : FieldType), ty = .array k → False) (harr : ∀ (cA : ClassId) (kA : Class) (comp : ClassId), s.vm.classes[cA]? = some kA → kA.kind = .array comp ty → ArrOfT s cA ty) : ∃ cA : ClassId, ArrOfT s cA ty ∧ va_RA s cA ty := by
  obtain ⟨cA, kA, comp, h1, h2, h3⟩ := Cond.arrayClass_spec h
  exact ⟨cA, harr cA kA comp h2 h3, hno cA h1⟩
theorem arQ {s : State} {args : Array Value} {C : String} (h : (Cond.arrayOver (.object C)).before args s = true) : ∃ cA : ClassId, ArrOfT s cA (.object C) ∧ va_RA s cA (.object C) := by
  obtain ⟨comp, cA, kA, h1, h2, h3, h4, h5⟩ := Cond.arrayOver_spec h
  exact ⟨cA, fun N z => ⟨(fun k h => by cases h), kA, h3, comp, h4⟩, kA, comp, h3, h4, h1, h5⟩
set_option maxHeartbeats 8000000 in
set_option maxRecDepth 100000 in
/-- THE LAW, from its entry -/
theorem whole_start {p : Program} {e : Env} {s : State} {m : MethodId} {below : List Frame} {meth : Method} {c : Code} (l : Launch) {b L : Nat} {xs : Nat → Int32} (hL : L ≤ 2048) (C0 : lw_At p s m meth c b L xs) : W p l e room_1 s m #[Value.ref b] below meth c s.heap [] 0 0 (lw_Z below #[Value.ref b] s) (entryFrame m ([Value.ref b] : List Value).toArray 4) := by
  obtain ⟨hx, hb, hr, hml, hown, hts, hX, hbl, hlocks, hgv⟩ := id C0
  have hG : ∀ w ∈ wG, w.before #[Value.ref b] s = true := fun w h => hts w (List.mem_filter.mp h).1
  have hA0 : ∀ a : Nat, a < s.heap.size → ¬ (fun q : Nat => s.heap.size ≤ q) a := fun a h => Nat.not_le.mpr h
  obtain ⟨c0, i0, hk0⟩ := u_known (C := RX0) (T := TX0) (N := 6) (n := 6) hG uw_0 (hG _ ins_0)
  obtain ⟨c1, i1, hk1⟩ := u_known (C := RX1) (T := TX1) (N := 5) (n := 5) hG uw_1 (hG _ ins_1)
  obtain ⟨c2, i2, hk2⟩ := u_known (C := RX2) (T := TX2) (N := 1) (n := 1) hG uw_2 (hG _ ins_2)
  obtain ⟨c3, i3, hk3⟩ := u_known (C := RX3) (T := TX3) (N := 7) (n := 7) hG uw_3 (hG _ ins_3)
  obtain ⟨c4, i4, hk4⟩ := u_known (C := RX4) (T := TX4) (N := 8) (n := 8) hG uw_4 (hG _ ins_4)
  obtain ⟨c5, i5, hk5⟩ := u_known (C := RX5) (T := TX5) (N := 8) (n := 8) hG uw_5 (hG _ ins_5)
  obtain ⟨c6, i6, hk6⟩ := u_known (C := RX6) (T := TX6) (N := 5) (n := 5) hG uw_6 (hG _ ins_6)
  obtain ⟨c7, i7, hk7⟩ := u_known (C := RX7) (T := TX7) (N := 15) (n := 15) hG uw_7 (hG _ ins_7)
  obtain ⟨c8, i8, hk8⟩ := u_known (C := RX8) (T := TX8) (N := 25) (n := 25) hG uw_8 (hG _ ins_8)
  obtain ⟨t0, ha0, hra0⟩ := arI (ty := .int) (hG _ aci) (fun _ h => h) (fun _ h => by cases h) (fun cA kA comp h2 h3 n z => ⟨fun k h => (by cases h), kA, h2, comp, h3⟩)
  obtain ⟨t1, ha1, hra1⟩ := arI (ty := .long) (hG _ acl) (fun _ h => h) (fun _ h => by cases h) (fun cA kA comp h2 h3 n z => ⟨fun k h => (by cases h), kA, h2, comp, h3⟩)
  obtain ⟨t2, ha2, hra2⟩ := arI (ty := .boolean) (hG _ acz) (fun _ h => h) (fun _ h => by cases h) (fun cA kA comp h2 h3 n z => ⟨fun k h => (by cases h), kA, h2, comp, h3⟩)
  have hoR : (Cond.arrayOver (.object RX4)).before #[Value.ref b] s = true := hts _ (by decide +kernel)
  have hoY : (Cond.arrayOver (.object RX6)).before #[Value.ref b] s = true := hts _ (by decide +kernel)
  obtain ⟨t3, ha3, hra3⟩ := arQ hoR
  obtain ⟨t4, ha4, hra4⟩ := arQ hoY
  obtain ⟨g0, hz0, hw0⟩ := sta_0 (A := fun q : Nat => s.heap.size ≤ q) hts hgv hA0
  obtain ⟨g1, hz1, hw1⟩ := sta_1 (A := fun q : Nat => s.heap.size ≤ q) hts hgv hA0
  obtain ⟨g2, hz2, hw2⟩ := sta_2 (A := fun q : Nat => s.heap.size ≤ q) hts hgv hA0
  obtain ⟨g3, hz3, hw3⟩ := sta_3 (A := fun q : Nat => s.heap.size ≤ q) hts hgv hA0
  obtain ⟨g4, hz4, hw4⟩ := sta_4 (A := fun q : Nat => s.heap.size ≤ q) hts hgv hA0
  obtain ⟨g5, hz5, hw5⟩ := sta_5 (A := fun q : Nat => s.heap.size ≤ q) hts hgv hA0
  generalize hg : ((fun k => match k with | 0 => c0 | 1 => c1 | 2 => c2 | 3 => c3 | 4 => c4 | 5 => c5 | 6 => c6 | 7 => c7 | _ => c8, fun k => match k with | 0 => i0 | 1 => i1 | 2 => i2 | 3 => i3 | 4 => i4 | 5 => i5 | 6 => i6 | 7 => i7 | _ => i8, fun _ _ => 0, (fun q : Nat => s.heap.size ≤ q), fun k => match k with | 0 => t0 | 1 => t1 | 2 => t2 | 3 => t3 | _ => t4, fun k => match k with | 0 => g0 | 1 => g1 | 2 => g2 | 3 => g3 | 4 => g4 | _ => g5) : Geo) = g
  have hgA : gA g = fun q : Nat => s.heap.size ≤ q := by rw [← hg]
  have hK : GK g s := by
    rw [← hg]
    refine ⟨⟨fun k q hq => ?_, fun k q hq => ?_⟩, fun q hq => va_Nw.of rfl (hts _ (nest_in q hq))⟩
    · match k, hq with
      | 0, hq => cases hq; exact hk0
      | 1, hq => cases hq; exact hk1
      | 2, hq => cases hq; exact hk2
      | 3, hq => cases hq; exact hk3
      | 4, hq => cases hq; exact hk4
      | 5, hq => cases hq; exact hk5
      | 6, hq => cases hq; exact hk6
      | 7, hq => cases hq; exact hk7
      | 8, hq => cases hq; exact hk8
      | k + 9, hq => simp [vwCl] at hq
    · match k, hq with
      | 0, hq => cases hq; exact ⟨ha0, hra0⟩
      | 1, hq => cases hq; exact ⟨ha1, hra1⟩
      | 2, hq => cases hq; exact ⟨ha2, hra2⟩
      | 3, hq => cases hq; exact ⟨ha3, hra3⟩
      | 4, hq => cases hq; exact ⟨ha4, hra4⟩
      | k + 5, hq => simp [gtys] at hq
  have hZ : GZ g s s.heap := by
    rw [← hg]
    intro k hk
    match k, hk with
    | 0, _ => exact ⟨hz0, hw0⟩
    | 1, _ => exact ⟨hz1, hw1⟩
    | 2, _ => exact ⟨hz2, hw2⟩
    | 3, _ => exact ⟨hz3, hw3⟩
    | 4, _ => exact ⟨hz4, hw4⟩
    | 5, _ => exact ⟨hz5, hw5⟩
    | k + 6, h => omega
  have Z : Zx g p s m #[Value.ref b] meth c cL_law 4 RL (gA g) := by
    refine ⟨hx, hb, hml, hown, hG, ⟨hK, va_AO.of hoR, va_AO.of hoY⟩, hZ 0 (by decide), fun q h => by rw [hgA]; exact h, hlocks, fun h => absurd rfl h⟩
  have hl := lv_entry ([.ref b]) (n := 4) (Nat.le_of_ble_eq_true rfl)
  rw [lg_entry_eq]
  generalize (lg_sl ([.ref b]) ++ List.replicate (4 - (lg_sl ([.ref b])).length) Slot.unset).toArray = ls at hl ⊢
  have hl : lv_has ls 4 [(0, .ref b)] := hl
  have main : Wz p l e room_1 s m #[Value.ref b] below meth c (lw_Z below #[Value.ref b] s) g (gA g) [] 0 0 (F0 m 0 ls []) := by
    refine z_new (C := RX7) (T := TX7) (N := 15) (ci := 7) (fs := [.null, .null, .null, .null, .null, .null, .null, .null, .null, .null, .null, .null, .null, .int 0, .long 0]) Z uw_7 tyX7 tyX7_ok cl_RL_7 ins_7 ini_7 rfl df_7 ?_ ?_ dL_law_0 [] [] (fun h7 => ?_)
    · exact Nat.le_of_ble_eq_true rfl
    · exact Nat.le_of_ble_eq_true rfl
    refine z_p (fun _ _ k => lv_dup hx hb dL_law_3 rfl k) ?_
    refine z_callI (w0 := [(h7, .inr (7, [.null, .null, .null, .null, .null, .null, .null, .null, .null, .null, .null, .null, .null, .int 0, .long 0]))]) Z (k_X7 h7) ok_X7_init im_X7_init rfl kw_RL_9 ?_ hl.1 ?_ dL_law_4 ?_ [] [] (fun w1 hw1 => ?_)
    · exact ⟨Nat.le_of_ble_eq_true rfl, Nat.le_of_ble_eq_true rfl⟩
    · exact Nat.le_of_ble_eq_true rfl
    · exact ⟨Nat.le_of_ble_eq_true rfl, Nat.le_of_ble_eq_true rfl⟩
    refine z_pl (fun _ _ k => lv_astore_n (lv' := [(1, .ref h7), (0, .ref b)]) hx hb dL_law_7 rfl hl (by decide) rfl k) (fun ls hl => ?_)
    refine z_new (C := RX8) (T := TX8) (N := 25) (ci := 8) (fs := [.int 0, .long 0, .null, .null, .null, .null, .null, .null, .int 0, .int 0, .int 0, .int 0, .int 0, .int 0, .int 0, .null, .null, .null, .null, .int 0, .null, .null, .null, .null, .long 0]) Z uw_8 tyX8 tyX8_ok cl_RL_10 ins_8 ini_8 rfl df_8 ?_ ?_ dL_law_8 [] (w1 ++ []) (fun h8 => ?_)
    · exact Nat.le_of_ble_eq_true rfl
    · exact Nat.le_of_ble_eq_true rfl
    refine z_p (fun _ _ k => lv_dup hx hb dL_law_11 rfl k) ?_
    refine z_callI (w0 := [(h8, .inr (8, [.int 0, .long 0, .null, .null, .null, .null, .null, .null, .int 0, .int 0, .int 0, .int 0, .int 0, .int 0, .int 0, .null, .null, .null, .null, .int 0, .null, .null, .null, .null, .long 0]))]) Z (k_X8 h8) ok_X8_init im_X8_init rfl kw_RL_12 ?_ hl.1 ?_ dL_law_12 ?_ [] (w1 ++ []) (fun w2 hw2 => ?_)
    · exact ⟨Nat.le_of_ble_eq_true rfl, Nat.le_of_ble_eq_true rfl⟩
    · exact Nat.le_of_ble_eq_true rfl
    · exact ⟨Nat.le_of_ble_eq_true rfl, Nat.le_of_ble_eq_true rfl⟩
    refine z_pl (fun _ _ k => lv_astore_n (lv' := [(2, .ref h8), (1, .ref h7), (0, .ref b)]) hx hb dL_law_15 rfl hl (by decide) rfl k) (fun ls hl => ?_)
    refine z_p (fun _ _ k => lv_iconst (v := 0) hx hb dL_law_16 (by decide) k) ?_
    refine z_pl (fun _ _ k => lv_istore_n (lv' := [(3, .int 0), (2, .ref h8), (1, .ref h7), (0, .ref b)]) hx hb dL_law_17 rfl hl (by decide) rfl k) (fun ls hl => ?_)
    refine z_wd (k := 117) (n := 1796) (Nat.le_of_ble_eq_true rfl) (Nat.le_of_ble_eq_true rfl) ?_
    obtain ⟨ya, yr, rs, ts, fs, im, tu, tx, tb, l0, m0, l1, m1, ln, lt, lf, fi, f1, f2, f3, sb, s1, s2, hu, hn, a1, a2, a3, rfl⟩ := hw1
    obtain ⟨q1, q2, q3, q4, q5, q6, q7, q8, q9, q10, q11, q12, q13, q14, fr, rfl, hfr⟩ := hw2
    intro H locs hP hD hS
    generalize had : gadF h8 h7 ya yr rs ts fs im tu tx tb l0 m0 l1 m1 ln lt lf fi f1 f2 f3 sb s1 s2 hu hn a1 a2 a3 q1 q2 q3 q4 q5 q6 q7 q8 q9 q10 q11 q12 q13 q14 = ad
    have h6 : ∀ r, ad 6 r = ya r := fun r => by rw [← had]; rfl
    have h4 : ∀ y, y < 3 → ∀ k, k < 8 → ad 4 (8 * y + k) = rs y k := by
      intro y hy k hk
      have e1 : (8 * y + k) / 8 = y := by omega
      have e2 : (8 * y + k) % 8 = k := by omega
      have e3 : 8 * y + k ≠ 24 := by omega
      have key : ∀ (x : Nat) (F : Nat → Nat → Nat), (match 8 * y + k with | 24 => x | _ => F ((8 * y + k) / 8) ((8 * y + k) % 8)) = F y k := by
        intro x F
        rw [e1, e2]
        split
        · rename_i h; exact absurd h e3
        · rfl
      rw [← had]
      exact key ln rs
    have ce := CE.app (CE.rf (g := g) (ws := mdL g h8 q1 q2 q3 q4 q5 q6 q7 q8 q9 q10 q11 q12 q13 q14 (upd (fun _ => 0) 169 1) (upd (upd (upd (fun _ => 0) 0 2) 1 3) 2 10) fr (upd (upd (fun _ => 0) 0 1) 5 1))) (W7_ce (g := g) (h7 := h7) (ya := ya) (yr := yr) (rs := rs) (ts := ts) (fs := fs) (im := im) (tu := tu) (tx := tx) (tb := tb) (l0 := l0) (m0 := m0) (l1 := l1) (m1 := m1) (ln := ln) (lt := lt) (lf := lf) (fi := fi) (f1 := f1) (f2 := f2) (f3 := f3) (sb := sb) (s1 := s1) (s2 := s2) (hu := hu) (hn := hn) (a1 := a1) (a2 := a2) (a3 := a3) h6 h4)
    rw [W_all (g := g) (fr := fr) had.symm] at ce
    rw [List.nil_append, List.append_nil] at hP hD
    have pm := keysP_pm.map (fun q : Nat × Nat => (ad q.1 q.2, cel (reG g ad) (I0 fr) J0 q.1 q.2))
    have hP1 : va_P (gD g) vwCl (wl (reG g ad) (I0 fr) J0) H := (ce.1 H hP).perm pm
    have hD1 : va_D (gA g) (wl (reG g ad) (I0 fr) J0) := (ce.D hD).perm pm
    have hGD : GD (reG g ad) := by
      refine ⟨fun q hq q' hq' eq => ?_, fun q hq => ?_⟩
      · obtain ⟨k1, e1⟩ := List.mem_iff_getElem?.mp hq
        obtain ⟨k2, e2⟩ := List.mem_iff_getElem?.mp hq'
        have := hD1.1 k1 k2 _ _ (wl_get (g := reG g ad) (I := I0 fr) (J := J0) (t := q.1) (r := q.2) e1) (wl_get (g := reG g ad) (I := I0 fr) (J := J0) (t := q'.1) (r := q'.2) e2) eq
        subst this
        exact Option.some.inj (e1.symm.trans e2)
      · obtain ⟨k1, e1⟩ := List.mem_iff_getElem?.mp hq
        exact hD1.2 k1 _ (wl_get (g := reG g ad) (I := I0 fr) (J := J0) (t := q.1) (r := q.2) e1)
    have X : LX (reG g ad) p s m #[Value.ref b] meth c b L xs 117 1796 := by
      refine ⟨⟨hx, hb, hml, hown, hG, hK, hZ, hGD, hlocks, hr⟩, hX, hbl, ?_, hL, Nat.le_of_ble_eq_true rfl, Nat.le_of_ble_eq_true rfl⟩
      show ¬ gA g b
      rw [hgA]
      exact Nat.not_le.mpr hbl
    have a8 : ad 8 0 = h8 := by rw [← had]; rfl
    have a7 : ad 7 0 = h7 := by rw [← had]; rfl
    have hl' : lv_has ls 4 [(3, .int (nI 0)), (2, .ref (gad (reG g ad) 8 0)), (1, .ref (gad (reG g ad) 7 0)), (0, .ref b)] := by
      show lv_has ls 4 [(3, .int (nI 0)), (2, .ref (ad 8 0)), (1, .ref (ad 7 0)), (0, .ref b)]
      rw [a8, a7]
      exact hl
    exact law_loop X (fun q h => by have h' : gA g q := h; rw [hgA] at h'; exact h') (by decide) (by decide) (L + 1) 0 (I0 fr) J0 ls (by omega) (Nat.zero_le _) (Inv_0 hfr) hl' H locs hP1 hS
  exact main s.heap [] (fun k q h => by simp at h) ⟨fun i j p q h => by simp at h, fun k q h => by simp at h⟩ va_S.rf
