section EASY3
variable {I : MI} {J : MJ}
theorem nlit (n : Nat) : (OfNat.ofNat n : Int32) = nI n := rfl
theorem m21 (k c : Nat) : 21 * nI k + nI c = nI (21 * k + c) := by rw [show (21 : Int32) = nI 21 from rfl, pk_mul, nI_add]
theorem here_ex {n : Nat} (hn : n ≤ 8) {x : Int32} (c : 0 ≤ x ∧ x < nI n) : ∃ k, k < n ∧ x = nI k := nI_ne c.1 c.2 (by omega)
theorem here_iff2 {n : Nat} (hn : n ≤ 1000) (x : Int32) : (0 ≤ x ∧ x ≤ nI n - 1) ↔ (0 ≤ x ∧ x < nI n) := by
  obtain ⟨a, rfl, ha, hb⟩ := iz_ex x
  rw [iz_nI, zl0, zl1, iz_sub, iz_le (by omega) (by omega) (by omega) (by omega), iz_le (by omega) (by omega) (by omega) (by omega), iz_lt (by omega) (by omega) (by omega) (by omega)]
  omega
theorem here_ex2 {n : Nat} (hn : n ≤ 1000) {x : Int32} (c : 0 ≤ x ∧ x ≤ nI n - 1) : ∃ k, k < n ∧ x = nI k := nI_ne c.1 ((here_iff2 hn x).mp c).2 (by omega)
theorem pr_about (h : Inv I J) (x y : Int32) : wp_X7_about (fun r I1 J1 => wp_X8_about (fun r2 I2 J2 => r = r2 ∧ Inv I2 J2) I1 J1 x y) I J x y := by
  obtain ⟨n, hn, e1, -, -, -, hr⟩ := id h.1
  have e2 : up3 I 8 0 0 0 25 0 168 = nI n := by rw [up3_t (by decide)]; exact h.1.choose_spec.2.2.1.trans (by rw [← e1, ← h.1.choose_spec.2.1])
  unfold wp_X7_about wp_X8_about
  rw [q_isHere, e1]
  simp only [q_run hn e2, q_in, bi_0, decide_eq_false_iff_not]
  have hT := h.thrown
  refine two (fun c => ?_) (fun c => twn c ⟨trivial, hT⟩)
  obtain ⟨k, hk, rfl⟩ := here_ex hn c
  have hv : vp_in (nI k) 8 := vp_in_nI (by omega) (by decide)
  refine ⟨hv, ?_⟩
  obtain ⟨⟨a1, a2, a3, a4, a5, a6⟩, -⟩ := hr k hk
  have m : ∀ c, c < 21 → vp_in (21 * nI k + nI c) 171 ∧ (21 * nI k + nI c).toNatClampNeg = 21 * k + c := fun c hc => by
    rw [m21]
    exact ⟨vp_in_nI (by omega) (by decide), nI_clamp (by omega)⟩
  have m0 := m 0 (by decide)
  have m1 := m 1 (by decide)
  have m2 := m 2 (by decide)
  have m3 := m 3 (by decide)
  have m7 := m 7 (by decide)
  have m8 := m 8 (by decide)
  have t25 : up3 I 8 0 0 0 25 = I 25 := up3_t (by decide)
  rw [nI_clamp (by omega), t25]
  simp only [Nat.zero_add] at a1 a2 a3 a4 a5 a6
  by_cases c0 : y = 0
  · exact onp c0 (twp c (twp (by rw [c0]; decide) (onp c0 ⟨m0.1, by rw [show (0 : Int32) = nI 0 from rfl, m0.2]; exact a1.symm, hT⟩)))
  refine onn c0 ?_
  by_cases c1 : y = 1
  · exact onp c1 (twp c (twp (by rw [c1]; decide) (onn c0 (onp c1 ⟨m1.1, by rw [show (1 : Int32) = nI 1 from rfl, m1.2]; exact a2.symm, hT⟩))))
  refine onn c1 ?_
  by_cases c2 : y = 2
  · exact onp c2 (twp c (twp (by rw [c2]; decide) (onn c0 (onn c1 (onp c2 ⟨m2.1, by rw [show (2 : Int32) = nI 2 from rfl, m2.2]; exact a3.symm, hT⟩)))))
  refine onn c2 ?_
  by_cases c3 : y = 3
  · exact onp c3 (twp c (twp (by rw [c3]; decide) (onn c0 (onn c1 (onn c2 (onp c3 ⟨m3.1, by rw [show (3 : Int32) = nI 3 from rfl, m3.2]; exact a4.symm, hT⟩))))))
  refine onn c3 ?_
  by_cases c4 : y = 4
  · exact onp c4 (twp c (twp (by rw [c4]; decide) (onn c0 (onn c1 (onn c2 (onn c3 (onp c4 ⟨m7.1, by rw [show (7 : Int32) = nI 7 from rfl, m7.2]; exact a5.symm, hT⟩)))))))
  refine onn c4 ?_
  by_cases c5 : y = 5
  · exact onp c5 (twp c (twp (by rw [c5]; decide) (onn c0 (onn c1 (onn c2 (onn c3 (onn c4 ⟨m8.1, by rw [show (8 : Int32) = nI 8 from rfl, m8.2]; exact a6.symm, hT⟩)))))))
  refine onn c5 (twp c (twn ?_ ⟨trivial, hT⟩))
  intro q
  obtain ⟨j, hj, rfl⟩ := nI_le_ex (j := 5) rfl q.1 q.2 (by decide)
  rcases (show j = 0 ∨ j = 1 ∨ j = 2 ∨ j = 3 ∨ j = 4 ∨ j = 5 by omega) with rfl | rfl | rfl | rfl | rfl | rfl
  · exact c0 rfl
  · exact c1 rfl
  · exact c2 rfl
  · exact c3 rfl
  · exact c4 rfl
  · exact c5 rfl
theorem pr_figure (h : Inv I J) (x y : Int32) : wp_X7_figure (fun r I1 J1 => wp_X8_figure (fun r2 I2 J2 => r = r2 ∧ Inv I2 J2) I1 J1 x y) I J x y := by
  obtain ⟨n, hn, e1, e3, -, -, hr⟩ := id h.1
  have e2 : up3 I 8 0 0 0 25 0 168 = nI n := by rw [up3_t (by decide)]; exact e3
  unfold wp_X7_figure wp_X8_figure
  rw [q_isHere, e1]
  simp only [q_run hn e2, q_in, q_within, bi_0, decide_eq_false_iff_not]
  have hT := h.thrown
  refine two (fun c => ?_) (fun c => twn c ⟨trivial, hT⟩)
  obtain ⟨k, hk, rfl⟩ := here_ex hn c
  have hv : vp_in (nI k) 8 := vp_in_nI (by omega) (by decide)
  obtain ⟨⟨-, -, -, -, -, a6⟩, -, ⟨q, hq, eq, hf⟩, -⟩ := hr k hk
  have t25 : up3 I 8 0 0 0 25 = I 25 := up3_t (by decide)
  have e8 : 21 * nI k + 8 = nI (21 * k + 8) := m21 k 8
  have e9 : 21 * nI k + 9 = nI (21 * k + 9) := m21 k 9
  simp only [Nat.mul_zero, Nat.zero_add] at a6 hf eq
  rw [nI_clamp (by omega), t25, e8, nI_clamp (by omega), e9]
  simp only [Nat.mul_zero, Nat.zero_add]
  rw [a6, eq]
  refine ⟨hv, two (fun c2 => ?_) (fun c2 => twp c ⟨vp_in_nI (by omega) (by decide), twn c2 ⟨trivial, hT⟩⟩)⟩
  obtain ⟨j, hj, rfl⟩ : ∃ j, j < q ∧ y = nI j := here_ex2 (n := q) (by omega) c2
  refine ⟨hv, vp_in_nI (by omega) (by decide), twp c ⟨vp_in_nI (by omega) (by decide), twp c2 ⟨by rw [nI_add]; exact vp_in_nI (by omega) (by decide), ?_, hT⟩⟩⟩
  rw [nI_add, nI_clamp (by omega), nI_clamp (by omega)]
  exact (hf j hj).1.symm
theorem pr_shown (h : Inv I J) (x y : Int32) : wp_X7_shown (fun r I1 J1 => wp_X8_shown (fun r2 I2 J2 => r = r2 ∧ Inv I2 J2) I1 J1 x y) I J x y := by
  obtain ⟨n, hn, e1, e3, -, -, hr⟩ := id h.1
  have e2 : up3 I 8 0 0 0 25 0 168 = nI n := by rw [up3_t (by decide)]; exact e3
  unfold wp_X7_shown wp_X8_shown
  rw [q_isHere, e1]
  simp only [q_run hn e2, q_in, q_isOf, q_has, bi_0, decide_eq_false_iff_not]
  have hT := h.thrown
  obtain ⟨l1, l2⟩ := h.2.2.2.2.2.1
  have t31 : up3 I 8 0 0 0 31 = I 31 := up3_t (by decide)
  have t8 : up3 I 8 0 0 0 8 0 14 = I 7 0 13 := by rw [up3_n (by decide)]; exact l1
  rw [t8, t31]
  refine two (fun c => ?_) (fun c => twn c ⟨trivial, hT⟩)
  refine two (fun c1 => ?_) (fun c1 => twp c (twn c1 ⟨trivial, hT⟩))
  obtain ⟨k, hk, rfl⟩ := here_ex hn c
  have hv : vp_in (nI k) 8 := vp_in_nI (by omega) (by decide)
  obtain ⟨s0, s1, s2⟩ := l2 k (by omega) c1
  have m : ∀ j, j < 3 → vp_in (3 * nI k + nI j) 24 ∧ (3 * nI k + nI j).toNatClampNeg = 3 * k + j := fun j hj => by
    rw [show (3 : Int32) = nI 3 from rfl, pk_mul, nI_add]
    exact ⟨vp_in_nI (by omega) (by decide), nI_clamp (by omega)⟩
  rw [nI_clamp (by omega)]
  by_cases c0 : y = 0
  · have e : y = nI 0 := c0
    exact onp c0 ⟨hv, twp c (twp c1 (twp (by rw [c0]; decide) ⟨by rw [e]; exact (m 0 (by decide)).1, by rw [e, (m 0 (by decide)).2]; exact s0.symm, hT⟩))⟩
  refine onn c0 ?_
  by_cases c2 : y = 1
  · have e : y = nI 1 := c2
    exact onp c2 ⟨hv, twp c (twp c1 (twp (by rw [c2]; decide) ⟨by rw [e]; exact (m 1 (by decide)).1, by rw [e, (m 1 (by decide)).2]; exact s1.symm, hT⟩))⟩
  refine onn c2 ?_
  by_cases c3 : y = 2
  · have e : y = nI 2 := c3
    exact onp c3 ⟨hv, twp c (twp c1 (twp (by rw [c3]; decide) ⟨by rw [e]; exact (m 2 (by decide)).1, by rw [e, (m 2 (by decide)).2]; exact s2.symm, hT⟩))⟩
  refine onn c3 (twp c (twp c1 (twn ?_ ⟨trivial, hT⟩)))
  intro q
  obtain ⟨j, hj, rfl⟩ := nI_le_ex (j := 2) rfl q.1 q.2 (by decide)
  rcases (show j = 0 ∨ j = 1 ∨ j = 2 by omega) with rfl | rfl | rfl
  · exact c0 rfl
  · exact c2 rfl
  · exact c3 rfl
/-- one number of a runner of the yard is set on both sides -/
theorem Inv.setR (h : Inv I J) {n : Nat} (hn : n ≤ 8) (e1 : I 6 0 1 = nI n) {k : Nat} (hk : k < n) {I2 : MI} (ho : Only [4, 15, 8, 25] I I2) (h8 : I2 8 0 8 = I 8 0 8 ∧ I2 8 0 14 = I 8 0 14) (ho4 : ∀ r, r ≠ k → I2 4 r = I 4 r ∧ I2 15 r = I 15 r) (h25 : ∀ j, ¬ (21 * k ≤ j ∧ j < 21 * k + 21) → I2 25 0 j = I 25 0 j) (hR : RR I2 k 25 (21 * k)) : Inv I2 J := by
  obtain ⟨hy, hi, ht, hu, hx, hl, hc, hh, hj⟩ := h
  refine ⟨?_, ?_, ho.t ht (by decide), ho.u hu (by decide), ho.x hx (by decide) h8.1, ho.l hl (by decide) h8.2, ho.c hc (by decide), ho.h hh (by decide), hj⟩
  · obtain ⟨n', y1, y2, y3, y4, y5, y6⟩ := hy
    refine ⟨n', y1, by rw [ho 6 (by decide)]; exact y2, ?_, ?_, ?_, fun j hj => ?_⟩
    · rw [h25 _ (by omega)]; exact y3
    · rw [h25 _ (by omega), ho 6 (by decide)]; exact y4
    · rw [h25 _ (by omega), ho 6 (by decide)]; exact y5
    · by_cases e : j = k
      · subst e
        simp only [Nat.mul_zero, Nat.zero_add]
        exact hR
      · obtain ⟨⟨a1, a2, a3, a4, a5, a6⟩, b, ⟨q, c1, c2, c3⟩, d⟩ := y6 j hj
        simp only [Nat.mul_zero, Nat.zero_add] at a1 a2 a3 a4 a5 a6 b c1 c2 c3 d ⊢
        have f4 := ho4 j e
        have f16 : I2 16 = I 16 := ho 16 (by decide)
        have hj8 : j < 8 := by omega
        have g : ∀ c, c < 21 → I2 25 0 (21 * j + c) = I 25 0 (21 * j + c) := fun c hc => h25 _ (by omega)
        unfold RR
        rw [f4.1, f4.2, f16]
        refine ⟨⟨?_, ?_, ?_, ?_, ?_, ?_⟩, fun i hi => ?_, ⟨q, c1, c2, fun i hi => ?_⟩, d⟩
        · have := g 0 (by decide); rw [Nat.add_zero] at this; rw [this]; exact a1
        · rw [g 1 (by decide)]; exact a2
        · rw [g 2 (by decide)]; exact a3
        · rw [g 3 (by decide)]; exact a4
        · rw [g 7 (by decide)]; exact a5
        · rw [g 8 (by decide)]; exact a6
        · have := g (4 + i) (by omega); rw [← Nat.add_assoc] at this; rw [this]; exact b i hi
        · have := g (9 + i) (by omega); rw [← Nat.add_assoc] at this; rw [this]; exact c3 i hi
  · intro b hb
    obtain ⟨i1, i2, i3⟩ := hi b hb
    rw [ho 27 (by decide), ho 6 (by decide)]
    refine ⟨i1, i2, fun q => ?_⟩
    obtain ⟨n', z1, z2, z3, z4, z5, z6⟩ := i3 q
    refine ⟨n', z1, by rw [ho 6 (by decide)]; exact z2, by rw [ho 26 (by decide)]; exact z3, by rw [ho 26 (by decide), ho 6 (by decide)]; exact z4, by rw [ho 26 (by decide), ho 6 (by decide)]; exact z5, fun j hj => ?_⟩
    have f4 := ho4 (8 * (1 + b) + j) (by omega)
    exact (z6 j hj).congr f4.1 f4.2 (by rw [ho 16 (by decide)]) (by rw [ho 26 (by decide)])
end EASY3
