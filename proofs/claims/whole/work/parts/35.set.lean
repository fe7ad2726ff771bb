section SETT
variable {I : MI} {J : MJ}
theorem Inv.setF (h : Inv I J) {n : Nat} (hn : n ≤ 8) (e1 : I 6 0 1 = nI n) {k : Nat} (hk : k < n) {sl c : Nat} {z : Int32} (hs : (sl = 4 ∧ c = 2 ∧ bd z 0 2) ∨ (sl = 5 ∧ c = 3 ∧ bd z (-9) 9) ∨ (sl = 3 ∧ c = 1 ∧ bd z 0 200)) : I 4 k sl = up3 (up3 I 4 k sl z) 8 0 0 0 25 0 (21 * k + c) ∧ Inv (up3 (up3 (up3 I 4 k sl z) 8 0 0 0) 25 0 (21 * k + c) z) J := by
  obtain ⟨n', y1, y2, y3, y4, y5, y6⟩ := id h.1
  obtain rfl : n' = n := (nI_eq (by omega) (by omega)).mp (y2.symm.trans e1)
  obtain ⟨⟨a1, a2, a3, a4, a5, a6⟩, b, ⟨q, c1, c2, c3⟩, d1, d2, d3, d4⟩ := y6 k hk
  simp only [Nat.mul_zero, Nat.zero_add] at a1 a2 a3 a4 a5 a6 b c1 c2 c3 d1 d2 d3 d4
  have hc : 1 ≤ c ∧ c < 4 := by omega
  refine ⟨?_, h.setR hn e1 hk (((Only.rf.up (by decide)).up (by decide)).up (by decide)) ⟨?_, ?_⟩ (fun r hr => ⟨?_, ?_⟩) (fun j hj => ?_) ?_⟩
  · rw [up3_t (by decide), up3_t (by decide)]
    rcases hs with ⟨rfl, rfl, -⟩ | ⟨rfl, rfl, -⟩ | ⟨rfl, rfl, -⟩
    · exact a3.symm
    · exact a4.symm
    · exact a2.symm
  · rw [up3_t (by decide), up3_n (by decide), up3_t (by decide)]
  · rw [up3_t (by decide), up3_n (by decide), up3_t (by decide)]
  · rw [up3_t (by decide), up3_t (by decide), up3_o (by omega)]
  · rw [up3_t (by decide), up3_t (by decide), up3_t (by decide)]
  · rw [up3_n (by omega), up3_t (by decide), up3_t (by decide)]
  · have g25 : ∀ j, j ≠ 21 * k + c → up3 (up3 (up3 I 4 k sl z) 8 0 0 0) 25 0 (21 * k + c) z 25 0 j = I 25 0 j := fun j hj => by rw [up3_n (by omega), up3_t (by decide), up3_t (by decide)]
    have g4 : ∀ j, j ≠ sl → up3 (up3 (up3 I 4 k sl z) 8 0 0 0) 25 0 (21 * k + c) z 4 k j = I 4 k j := fun j hj => by rw [up3_t (by decide), up3_t (by decide), up3_n (by omega)]
    have v4 : up3 (up3 (up3 I 4 k sl z) 8 0 0 0) 25 0 (21 * k + c) z 4 k sl = z := by rw [up3_t (by decide), up3_t (by decide), up3_y]
    have v25 : up3 (up3 (up3 I 4 k sl z) 8 0 0 0) 25 0 (21 * k + c) z 25 0 (21 * k + c) = z := up3_y
    have g15 : up3 (up3 (up3 I 4 k sl z) 8 0 0 0) 25 0 (21 * k + c) z 15 = I 15 := by rw [up3_t (by decide), up3_t (by decide), up3_t (by decide)]
    have g16 : up3 (up3 (up3 I 4 k sl z) 8 0 0 0) 25 0 (21 * k + c) z 16 = I 16 := by rw [up3_t (by decide), up3_t (by decide), up3_t (by decide)]
    unfold RR
    rw [g15, g16]
    refine ⟨?_, fun j hj => ?_, ⟨q, c1, ?_, fun j hj => ?_⟩, ?_⟩
    · rcases hs with ⟨rfl, rfl, -⟩ | ⟨rfl, rfl, -⟩ | ⟨rfl, rfl, -⟩
      · rw [v25, v4, g25 _ (by omega), g25 _ (by omega), g25 _ (by omega), g25 _ (by omega), g25 _ (by omega), g4 2 (by decide), g4 3 (by decide), g4 5 (by decide), g4 6 (by decide), g4 7 (by decide)]
        exact ⟨a1, a2, rfl, a4, a5, a6⟩
      · rw [v25, v4, g25 _ (by omega), g25 _ (by omega), g25 _ (by omega), g25 _ (by omega), g25 _ (by omega), g4 2 (by decide), g4 3 (by decide), g4 4 (by decide), g4 6 (by decide), g4 7 (by decide)]
        exact ⟨a1, a2, a3, rfl, a5, a6⟩
      · rw [v25, v4, g25 _ (by omega), g25 _ (by omega), g25 _ (by omega), g25 _ (by omega), g25 _ (by omega), g4 2 (by decide), g4 4 (by decide), g4 5 (by decide), g4 6 (by decide), g4 7 (by decide)]
        exact ⟨a1, rfl, a3, a4, a5, a6⟩
    · rw [g25 _ (by omega)]; exact b j hj
    · rw [g4 7 (by omega)]; exact c2
    · rw [g25 _ (by omega)]; exact c3 j hj
    · rcases hs with ⟨rfl, rfl, hb⟩ | ⟨rfl, rfl, hb⟩ | ⟨rfl, rfl, hb⟩
      · rw [v4, g4 2 (by decide), g4 3 (by decide), g4 5 (by decide)]; exact ⟨d1, d2, hb, d4⟩
      · rw [v4, g4 2 (by decide), g4 3 (by decide), g4 4 (by decide)]; exact ⟨d1, d2, d3, hb⟩
      · rw [v4, g4 2 (by decide), g4 4 (by decide), g4 5 (by decide)]; exact ⟨d1, hb, d3, d4⟩
theorem Inv.setT (h : Inv I J) {n : Nat} (hn : n ≤ 8) (e1 : I 6 0 1 = nI n) {k : Nat} (hk : k < n) {c : Nat} (hc : c < 3) {z : Int32} (hz : bd z (-20) 20) : I 15 k c = up3 (up3 I 15 k c z) 8 0 0 0 25 0 (21 * k + (4 + c)) ∧ Inv (up3 (up3 (up3 I 15 k c z) 8 0 0 0) 25 0 (21 * k + (4 + c)) z) J := by
  obtain ⟨n', y1, y2, y3, y4, y5, y6⟩ := id h.1
  obtain rfl : n' = n := (nI_eq (by omega) (by omega)).mp (y2.symm.trans e1)
  obtain ⟨a, b, ⟨q, c1, c2, c3⟩, d⟩ := y6 k hk
  simp only [Nat.mul_zero, Nat.zero_add] at a b c1 c2 c3 d
  refine ⟨?_, h.setR hn e1 hk (((Only.rf.up (by decide)).up (by decide)).up (by decide)) ⟨?_, ?_⟩ (fun r hr => ⟨?_, ?_⟩) (fun j hj => ?_) ?_⟩
  · rw [up3_t (by decide), up3_t (by decide), ← Nat.add_assoc]; exact (b c hc).1.symm
  · rw [up3_t (by decide), up3_n (by decide), up3_t (by decide)]
  · rw [up3_t (by decide), up3_n (by decide), up3_t (by decide)]
  · rw [up3_t (by decide), up3_t (by decide), up3_t (by decide)]
  · rw [up3_t (by decide), up3_t (by decide), up3_o (by omega)]
  · rw [up3_n (by omega), up3_t (by decide), up3_t (by decide)]
  · have g25 : ∀ j, j ≠ 21 * k + (4 + c) → up3 (up3 (up3 I 15 k c z) 8 0 0 0) 25 0 (21 * k + (4 + c)) z 25 0 j = I 25 0 j := fun j hj => by rw [up3_n (by omega), up3_t (by decide), up3_t (by decide)]
    have g4 : up3 (up3 (up3 I 15 k c z) 8 0 0 0) 25 0 (21 * k + (4 + c)) z 4 = I 4 := by rw [up3_t (by decide), up3_t (by decide), up3_t (by decide)]
    have g16 : up3 (up3 (up3 I 15 k c z) 8 0 0 0) 25 0 (21 * k + (4 + c)) z 16 = I 16 := by rw [up3_t (by decide), up3_t (by decide), up3_t (by decide)]
    unfold RR
    rw [g4, g16, g25 _ (by omega), g25 _ (by omega), g25 _ (by omega), g25 _ (by omega), g25 _ (by omega), g25 _ (by omega)]
    refine ⟨a, fun j hj => ?_, ⟨q, c1, c2, fun j hj => ?_⟩, d⟩
    · by_cases e : j = c
      · subst e
        rw [Nat.add_assoc, up3_y, up3_t (by decide), up3_t (by decide), up3_y]
        exact ⟨rfl, hz⟩
      · rw [g25 _ (by omega), up3_t (by decide), up3_t (by decide), up3_n (by omega)]
        exact b j hj
    · rw [g25 _ (by omega)]; exact c3 j hj
theorem pr_set (h : Inv I J) (x y z : Int32) : wp_X7_set (fun r I1 J1 => wp_X8_set (fun r2 I2 J2 => r = r2 ∧ Inv I2 J2) I1 J1 x y z) I J x y z := by
  obtain ⟨n, hn, e1, e3, -, -, -⟩ := id h.1
  unfold wp_X7_set
  rw [q_isHere, e1]
  simp only [q_within, wp_X4_change, wp_X4_turnTo, bi_0, decide_eq_false_iff_not, show (6 - 1 : Int32) = 5 from rfl]
  have hT := h.thrown
  have em : ∀ I1 : MI, I1 25 0 168 = nI n → ∀ r : Int32, wp_X8_set (fun r2 I2 J2 => r = r2 ∧ Inv I2 J2) I1 J x y z ↔ wp_X8_set (fun r2 I2 J2 => r = r2 ∧ Inv I2 J2) I1 J x y z := fun _ _ _ => Iff.rfl
  have eM : ∀ (r : Int32) (I1 : MI), I1 25 0 168 = nI n → (wp_X8_set (fun r2 I2 J2 => r = r2 ∧ Inv I2 J2) I1 J x y z ↔ ((¬ (0 ≤ x ∧ x < nI n) → r = -1000000 ∧ Inv (up3 I1 8 0 0 0) J) ∧ (¬ ¬ (0 ≤ x ∧ x < nI n) → (¬ (0 ≤ y ∧ y ≤ 5) → r = -1000000 ∧ Inv (up3 I1 8 0 0 0) J) ∧ (¬ ¬ (0 ≤ y ∧ y ≤ 5) →
      (y = 0 → J_X8_set_78 (fun r2 I2 J2 => r = r2 ∧ Inv I2 J2) (up3 I1 8 0 0 0) J x y z (bi (decide (0 ≤ z ∧ z ≤ 2)))) ∧ (¬ y = 0 → (y = 1 → J_X8_set_78 (fun r2 I2 J2 => r = r2 ∧ Inv I2 J2) (up3 I1 8 0 0 0) J x y z (bi (decide (-9 ≤ z ∧ z ≤ 9)))) ∧ (¬ y = 1 → (y = 5 → J_X8_set_78 (fun r2 I2 J2 => r = r2 ∧ Inv I2 J2) (up3 I1 8 0 0 0) J x y z (bi (decide (0 ≤ z ∧ z ≤ 200)))) ∧ (¬ y = 5 → J_X8_set_78 (fun r2 I2 J2 => r = r2 ∧ Inv I2 J2) (up3 I1 8 0 0 0) J x y z (bi (decide (-20 ≤ z ∧ z ≤ 20)))))))))) := by
    intro r I1 he
    have e2 : up3 I1 8 0 0 0 25 0 168 = nI n := by rw [up3_t (by decide)]; exact he
    unfold wp_X8_set
    simp only [q_run hn e2, q_in, bi_0, decide_eq_false_iff_not]
  refine two (fun c => ?_) (fun c => (eM _ I e3).mpr (twn c ⟨rfl, hT⟩))
  refine two (fun c2 => ?_) (fun c2 => (eM _ I e3).mpr (twp c (twn c2 ⟨rfl, hT⟩)))
  obtain ⟨k, hk, rfl⟩ := here_ex hn c
  obtain ⟨j, hj, rfl⟩ := nI_le_ex (j := 5) rfl c2.1 c2.2 (by decide)
  have hv : vp_in (nI k) 8 := vp_in_nI (by omega) (by decide)
  have hv6 : vp_in (nI j) 6 := vp_in_nI (by omega) (by decide)
  refine ⟨hv6, hv6, ?_⟩
  rw [nI_clamp (by omega), nI_clamp (by omega)]
  simp only [Nat.mul_zero, Nat.zero_add]
  have st : ∀ (r : Int32) (I1 : MI) (c : Nat), c < 21 → (r = up3 I1 8 0 0 0 25 0 (21 * k + c) ∧ Inv (up3 (up3 I1 8 0 0 0) 25 0 (21 * k + c) z) J) → J_X8_set_123 (fun r2 I2 J2 => r = r2 ∧ Inv I2 J2) (up3 I1 8 0 0 0) J z (nI c) (21 * nI k) := by
    intro r I1 c hc hh
    have e : 21 * nI k + nI c = nI (21 * k + c) := m21 k c
    unfold J_X8_set_123
    rw [e, nI_clamp (by omega)]
    have hw : vp_in (nI (21 * k + c)) 171 := vp_in_nI (by omega) (by decide)
    exact ⟨hw, fun v hv => ⟨hw, by rw [hv]; exact hh.1, hh.2⟩⟩
  have rj : ∀ (p : Prop) [Decidable p], ¬ p → J_X8_set_78 (fun r2 I2 J2 => (-1000000 : Int32) = r2 ∧ Inv I2 J2) (up3 I 8 0 0 0) J (nI k) (nI j) z (bi (decide p)) := by
    intro p _ hp
    unfold J_X8_set_78
    rw [decide_eq_false hp]
    exact onp rfl ⟨rfl, hT⟩
  rcases (show j = 0 ∨ j = 1 ∨ j = 5 ∨ (2 ≤ j ∧ j < 5) by omega) with rfl | rfl | rfl | hj2
  · refine two (fun c3 => ⟨hv, onp rfl ((eM _ _ (by rw [up3_t (by decide)]; exact e3)).mpr (twp c (twp c2 (onp rfl ?_))))⟩) (fun c3 => (eM _ I e3).mpr (twp c (twp c2 (onp rfl (rj _ c3)))))
    unfold J_X8_set_78
    rw [show decide (0 ≤ z ∧ z ≤ 2) = true from decide_eq_true c3]
    exact onn (by decide) (onp rfl (st _ _ 2 (by decide) (h.setF hn e1 hk (Or.inl ⟨rfl, rfl, (bd_le (by decide) (by decide) (by decide) (by decide)).mpr c3⟩))))
  · refine two (fun c3 => ⟨hv, onn (by decide) (onp rfl ((eM _ _ (by rw [up3_t (by decide)]; exact e3)).mpr (twp c (twp c2 (onn (by decide) (onp rfl ?_))))))⟩) (fun c3 => (eM _ I e3).mpr (twp c (twp c2 (onn (by decide) (onp rfl (rj _ c3))))))
    unfold J_X8_set_78
    rw [show decide (-9 ≤ z ∧ z ≤ 9) = true from decide_eq_true c3]
    exact onn (by decide) (onn (by decide) (onp rfl (st _ _ 3 (by decide) (h.setF hn e1 hk (Or.inr (Or.inl ⟨rfl, rfl, (bd_le (by decide) (by decide) (by decide) (by decide)).mpr c3⟩))))))
  · refine two (fun c3 => ⟨hv, onn (by decide) (onn (by decide) (onp rfl ((eM _ _ (by rw [up3_t (by decide)]; exact e3)).mpr (twp c (twp c2 (onn (by decide) (onn (by decide) (onp rfl ?_))))))))⟩) (fun c3 => (eM _ I e3).mpr (twp c (twp c2 (onn (by decide) (onn (by decide) (onp rfl (rj _ c3)))))))
    unfold J_X8_set_78
    rw [show decide (0 ≤ z ∧ z ≤ 200) = true from decide_eq_true c3]
    exact onn (by decide) (onn (by decide) (onn (by decide) (onp rfl (st _ _ 1 (by decide) (h.setF hn e1 hk (Or.inr (Or.inr ⟨rfl, rfl, (bd_le (by decide) (by decide) (by decide) (by decide)).mpr c3⟩)))))))
  · have s2 : stV 2 j = -20 := by rcases (show j = 2 ∨ j = 3 ∨ j = 4 by omega) with rfl | rfl | rfl <;> rfl
    have s1 : stV 1 j = 20 := by rcases (show j = 2 ∨ j = 3 ∨ j = 4 by omega) with rfl | rfl | rfl <;> rfl
    have n0 : ¬ nI j = 0 := fun q => absurd ((nI_eq (b := 0) (by omega) (by omega)).mp q) (by omega)
    have n1 : ¬ nI j = 1 := fun q => absurd ((nI_eq (b := 1) (by omega) (by omega)).mp q) (by omega)
    have n5 : ¬ nI j = 5 := fun q => absurd ((nI_eq (b := 5) (by omega) (by omega)).mp q) (by omega)
    have ej : nI j - 2 = nI (j - 2) := pk_sub (b := 2) (by omega)
    have e4 : 4 + nI j - 2 = nI (4 + (j - 2)) := by
      rw [show (4 : Int32) = nI 4 from rfl, nI_add, show (2 : Int32) = nI 2 from rfl, pk_sub (by omega)]
      congr 1
      omega
    have hin : 0 ≤ nI (j - 2) ∧ nI (j - 2) ≤ 2 := ⟨nI_pos' (by omega), (nI_leI (b := 2) (by omega) (by omega)).mpr (by omega)⟩
    have hv3 : vp_in (nI (j - 2)) 3 := vp_in_nI (by omega) (by decide)
    rw [s2, s1, ej, nI_clamp (by omega)]
    refine two (fun c3 => ⟨hv, onn n0 (onn n1 (onn n5 (twp hin ⟨hv3, hv3, (eM _ _ (by rw [up3_t (by decide)]; exact e3)).mpr (twp c (twp c2 (onn n0 (onn n1 (onn n5 ?_)))))⟩)))⟩) (fun c3 => (eM _ I e3).mpr (twp c (twp c2 (onn n0 (onn n1 (onn n5 (rj _ c3)))))))
    unfold J_X8_set_78
    rw [show decide (-20 ≤ z ∧ z ≤ 20) = true from decide_eq_true c3]
    refine onn (by decide) (onn n0 (onn n1 (onn n5 ?_)))
    rw [e4]
    exact st _ _ (4 + (j - 2)) (by omega) (h.setT hn e1 hk (by omega) ((bd_le (by decide) (by decide) (by decide) (by decide)).mpr c3))
end SETT
