section RDG
variable {I : MI} {J : MJ} {Q : Int32 → MI → MJ → Prop} {d r : Nat}
theorem ra_0 (h : Q (I 4 r 3) I (up3L J 7 0 14 (J 7 0 14 + 1))) : wd_X7_readAs (d + 1) Q I J 0 r := by
  show E_X7_readAs (wd_X7_readAs d) Q I J 0 r
  unfold E_X7_readAs
  rw [show (stV 4 ((0 : Int32).toNatClampNeg)).toInt64 = 1 by decide]
  exact ⟨vin_k (by decide), onp rfl h⟩
theorem ra_s {x y : Int32} {c : Int64} {q : Int32 → MI → MJ → Prop} (hx : vp_in x 7) (h0 : ¬ x = 0) (hc : (stV 4 x.toNatClampNeg).toInt64 = c) (hy : stV 5 x.toNatClampNeg = y)
    (hq : (fun r4 I4 J4 => (x = 1 → Q (r4 + (I4 21 0 0)) I4 J4) ∧ (¬ (x = 1) → (x = 2 → Q (r4 + (I4 21 0 1)) I4 J4) ∧ (¬ (x = 2) → (x = 3 → Q ((2 * r4) - (I4 21 0 2)) I4 J4) ∧ (¬ (x = 3) → (x = 4 → Q (r4 + (I4 15 r 0)) I4 J4) ∧ (¬ (x = 4) → (x = 5 → Q (r4 + (5 * (I4 4 r 5))) I4 J4) ∧ (¬ (x = 5) → Q (r4 / 2) I4 J4)))))) = q)
    (h : wd_X7_readAs d q I (up3L J 7 0 14 (J 7 0 14 + c)) y r) : wd_X7_readAs (d + 1) Q I J x r := by
  show E_X7_readAs (wd_X7_readAs d) Q I J x r
  unfold E_X7_readAs
  rw [hc, hy, hq]
  exact ⟨hx, onn h0 ⟨hx, h⟩⟩
theorem ra_1 (h : Q (I 4 r 3 + I 21 0 0) I (up3L (up3L J 7 0 14 (J 7 0 14 + 10)) 7 0 14 ((up3L J 7 0 14 (J 7 0 14 + 10)) 7 0 14 + 1))) : wd_X7_readAs (d + 2) Q I J 1 r :=
  ra_s (q := fun r4 I4 J4 => Q (r4 + I4 21 0 0) I4 J4) (vin_k (by decide)) (by decide) (by decide) rfl (by funext a b c; simp) (ra_0 h)
theorem ra_2 (h : Q (I 4 r 3 + I 21 0 1) I (up3L (up3L J 7 0 14 (J 7 0 14 + 100)) 7 0 14 ((up3L J 7 0 14 (J 7 0 14 + 100)) 7 0 14 + 1))) : wd_X7_readAs (d + 2) Q I J 2 r :=
  ra_s (q := fun r4 I4 J4 => Q (r4 + I4 21 0 1) I4 J4) (vin_k (by decide)) (by decide) (by decide) rfl (by funext a b c; simp) (ra_0 h)
theorem ra_4 (h : Q (I 4 r 3 + I 15 r 0) I (up3L (up3L J 7 0 14 (J 7 0 14 + 10000)) 7 0 14 ((up3L J 7 0 14 (J 7 0 14 + 10000)) 7 0 14 + 1))) : wd_X7_readAs (d + 2) Q I J 4 r :=
  ra_s (q := fun r4 I4 J4 => Q (r4 + I4 15 r 0) I4 J4) (vin_k (by decide)) (by decide) (by decide) rfl (by funext a b c; simp) (ra_0 h)
theorem ra_5 (h : Q (I 4 r 3 + 5 * I 4 r 5) I (up3L (up3L J 7 0 14 (J 7 0 14 + 100000)) 7 0 14 ((up3L J 7 0 14 (J 7 0 14 + 100000)) 7 0 14 + 1))) : wd_X7_readAs (d + 2) Q I J 5 r :=
  ra_s (q := fun r4 I4 J4 => Q (r4 + 5 * I4 4 r 5) I4 J4) (vin_k (by decide)) (by decide) (by decide) rfl (by funext a b c; simp) (ra_0 h)
theorem ra_3 {J1 : MJ} (e : J1 = up3L J 7 0 14 (J 7 0 14 + 1000)) (h : Q (2 * (I 4 r 3 + I 21 0 1) - I 21 0 2) I (up3L (up3L J1 7 0 14 (J1 7 0 14 + 100)) 7 0 14 ((up3L J1 7 0 14 (J1 7 0 14 + 100)) 7 0 14 + 1))) : wd_X7_readAs (d + 3) Q I J 3 r :=
  ra_s (c := 1000) (q := fun r4 I4 J4 => Q (2 * r4 - I4 21 0 2) I4 J4) (vin_k (by decide)) (by decide) (by decide) rfl (by funext a b c; simp) (by rw [← e]; exact ra_2 h)
theorem ra_6 {J0 J1 : MJ} (e0 : J0 = up3L J 7 0 14 (J 7 0 14 + 1000000)) (e : J1 = up3L J0 7 0 14 (J0 7 0 14 + 1000)) (h : Q ((2 * (I 4 r 3 + I 21 0 1) - I 21 0 2) / 2) I (up3L (up3L J1 7 0 14 (J1 7 0 14 + 100)) 7 0 14 ((up3L J1 7 0 14 (J1 7 0 14 + 100)) 7 0 14 + 1))) : wd_X7_readAs (d + 4) Q I J 6 r :=
  ra_s (c := 1000000) (q := fun r4 I4 J4 => Q (r4 / 2) I4 J4) (vin_k (by decide)) (by decide) (by decide) rfl (by funext a b c; simp) (by rw [← e0]; exact ra_3 e h)
theorem u3L_y {J : MJ} {t r k : Nat} {v : Int64} : up3L J t r k v t r k = v := if_pos ⟨rfl, rfl, rfl⟩
theorem u3L_n {J : MJ} {t r k t' r' k' : Nat} {v : Int64} (h : ¬ (t' = t ∧ r' = r ∧ k' = k)) : up3L J t r k v t' r' k' = J t' r' k' := if_neg h
theorem pr_reading (h : Inv I J) (x y : Int32) : wp_X7_reading (fun r I1 J1 => wp_X8_reading (fun r2 I2 J2 => r = r2 ∧ Inv I2 J2) I1 J1 x y) I J x y := by
  obtain ⟨n, hn, e1, e3, -, -, hr⟩ := id h.1
  have e2 : up3 I 8 0 0 0 25 0 168 = nI n := by rw [up3_t (by decide)]; exact e3
  have hT := h.thrown
  -- the model's side, once for every count
  have eM : ∀ (r : Int32) (J1 : MJ), wp_X8_reading (fun r2 I2 J2 => r = r2 ∧ Inv I2 J2) I J1 x y ↔ ((¬ (0 ≤ x ∧ x ≤ 6) → r = -1000000 ∧ Inv (up3 I 8 0 0 0) J1) ∧ (¬ ¬ (0 ≤ x ∧ x ≤ 6) → (¬ (0 ≤ y ∧ y < nI n) → r = -1000000 ∧ Inv (up3 I 8 0 0 0) J1) ∧ (¬ ¬ (0 ≤ y ∧ y < nI n) → vp_in (21 * y + 1) 171 ∧ (∀ v6 : Int32, v6 = I 25 0 ((21 * y + 1).toNatClampNeg) → (∀ v7 : Int32, v7 = (2 * (v6 + I 28 0 1)) - I 28 0 2 → ((x = 0 → J_X8_reading_132 (fun r2 I2 J2 => r = r2 ∧ Inv I2 J2) (up3 I 8 0 0 0) J1 x y v6 (v6 + I 28 0 1) v7 1 (J1 8 0 1)) ∧
  (¬ (x = 0) → (x = 1 → J_X8_reading_132 (fun r2 I2 J2 => r = r2 ∧ Inv I2 J2) (up3 I 8 0 0 0) J1 x y v6 (v6 + I 28 0 1) v7 11 (J1 8 0 1)) ∧
  (¬ (x = 1) → (x = 2 → J_X8_reading_132 (fun r2 I2 J2 => r = r2 ∧ Inv I2 J2) (up3 I 8 0 0 0) J1 x y v6 (v6 + I 28 0 1) v7 101 (J1 8 0 1)) ∧
  (¬ (x = 2) → (x = 3 → J_X8_reading_132 (fun r2 I2 J2 => r = r2 ∧ Inv I2 J2) (up3 I 8 0 0 0) J1 x y v6 (v6 + I 28 0 1) v7 1101 (J1 8 0 1)) ∧
  (¬ (x = 3) → (x = 4 → J_X8_reading_132 (fun r2 I2 J2 => r = r2 ∧ Inv I2 J2) (up3 I 8 0 0 0) J1 x y v6 (v6 + I 28 0 1) v7 10001 (J1 8 0 1)) ∧
  (¬ (x = 4) → (x = 5 → J_X8_reading_132 (fun r2 I2 J2 => r = r2 ∧ Inv I2 J2) (up3 I 8 0 0 0) J1 x y v6 (v6 + I 28 0 1) v7 100001 (J1 8 0 1)) ∧
  (¬ (x = 5) → J_X8_reading_132 (fun r2 I2 J2 => r = r2 ∧ Inv I2 J2) (up3 I 8 0 0 0) J1 x y v6 (v6 + I 28 0 1) v7 1001101 (J1 8 0 1))))))))))))) := by
    intro r J1
    unfold wp_X8_reading
    simp only [q_run hn e2, q_in, bi_0, decide_eq_false_iff_not, up3_t (I := I) (t := 8) (t' := 25) (by decide), up3_t (I := I) (t := 8) (t' := 28) (by decide)]
  unfold wp_X7_reading
  simp only [q_within, q_isHere, e1, bi_0, decide_eq_false_iff_not]
  refine two (fun c => ?_) (fun c => (eM _ J).mpr (twn c ⟨rfl, hT⟩))
  refine two (fun c2 => ?_) (fun c2 => (eM _ J).mpr (twp c (twn c2 ⟨rfl, hT⟩)))
  obtain ⟨k, hk, rfl⟩ := here_ex hn c2
  obtain ⟨j, hj, rfl⟩ := nI_le_ex (j := 6) rfl c.1 c.2 (by decide)
  refine ⟨vp_in_nI (by omega) (by decide), ?_⟩
  rw [nI_clamp (by omega)]
  obtain ⟨⟨a1, a2, a3, a4, a5, a6⟩, b, -⟩ := hr k hk
  simp only [Nat.mul_zero, Nat.zero_add] at a1 a2 a3 a4 a5 a6 b ⊢
  obtain ⟨t1, -⟩ := h.2.2.1
  have u0 := t1 0 (by decide)
  have u1 := t1 1 (by decide)
  have u2 := t1 2 (by decide)
  have ev1 : vp_in (21 * nI k + 1) 171 := by rw [show 21 * nI k + 1 = nI (21 * k + 1) from m21 k 1]; exact vp_in_nI (by omega) (by decide)
  have em1 : I 25 0 ((21 * nI k + 1).toNatClampNeg) = I 4 k 3 := by rw [show 21 * nI k + 1 = nI (21 * k + 1) from m21 k 1, nI_clamp (by omega)]; exact a2
  have ev4 : vp_in (21 * nI k + 4) 171 := by rw [show 21 * nI k + 4 = nI (21 * k + 4) from m21 k 4]; exact vp_in_nI (by omega) (by decide)
  have em4 : I 25 0 ((21 * nI k + 4).toNatClampNeg) = I 15 k 0 := by rw [show 21 * nI k + 4 = nI (21 * k + 4) from m21 k 4, nI_clamp (by omega)]; exact (b 0 (by decide)).1
  have ev3 : vp_in (21 * nI k + 3) 171 := by rw [show 21 * nI k + 3 = nI (21 * k + 3) from m21 k 3]; exact vp_in_nI (by omega) (by decide)
  have em3 : I 25 0 ((21 * nI k + 3).toNatClampNeg) = I 4 k 5 := by rw [show 21 * nI k + 3 = nI (21 * k + 3) from m21 k 3, nI_clamp (by omega)]; exact a4
  have t25 : up3 I 8 0 0 0 25 = I 25 := up3_t (by decide)
  have t28 : up3 I 8 0 0 0 28 = I 28 := up3_t (by decide)
  have hJ := h.2.2.2.2.2.2.2.2
  have fin : ∀ (J1 : MJ) (c : Int64), J1 8 0 1 = J 8 0 1 → J1 7 0 14 = J 7 0 14 + c → Inv (up3 I 8 0 0 0) (up3L J1 8 0 1 (J1 8 0 1 + c)) := by
    intro J1 c g1 g2
    obtain ⟨q1, q2, q3, q4, q5, q6, q7, q8, -⟩ := hT
    refine ⟨q1, q2, q3, q4, q5, q6, q7, q8, ?_⟩
    rw [u3L_y, u3L_n (by decide), g1, g2, hJ]
  unfold wp_X7_readAs
  rcases (show j = 0 ∨ j = 1 ∨ j = 2 ∨ j = 3 ∨ j = 4 ∨ j = 5 ∨ j = 6 by omega) with rfl | rfl | rfl | rfl | rfl | rfl | rfl
  · refine ra_0 ((eM _ _).mpr (twp c (twp c2 ⟨ev1, fun v6 w6 v7 w7 => onp rfl (onp rfl ⟨w6.symm ▸ em1.symm, fin _ 1 (u3L_n (by decide)) u3L_y⟩)⟩)))
  · refine ra_1 ((eM _ _).mpr (twp c (twp c2 ⟨ev1, fun v6 w6 v7 w7 => onn (by decide) (onp rfl (onn (by decide) (onp rfl ⟨?_, fin _ 11 ?_ ?_⟩)))⟩)))
    · rw [w6, em1, t28, u0]
    · rw [u3L_n (by decide), u3L_n (by decide)]
    · rw [u3L_y, u3L_y, Int64.add_assoc]; rfl
  · refine ra_2 ((eM _ _).mpr (twp c (twp c2 ⟨ev1, fun v6 w6 v7 w7 => onn (by decide) (onn (by decide) (onp rfl (onn (by decide) (onn (by decide) (onp rfl ⟨?_, fin _ 101 ?_ ?_⟩)))))⟩)))
    · rw [w6, em1, u1]
    · rw [u3L_n (by decide), u3L_n (by decide)]
    · rw [u3L_y, u3L_y, Int64.add_assoc]; rfl
  · refine ra_3 rfl ((eM _ _).mpr (twp c (twp c2 ⟨ev1, fun v6 w6 v7 w7 => onn (by decide) (onn (by decide) (onn (by decide) (onp rfl (onn (by decide) (onn (by decide) (onn (by decide) (onp rfl ⟨?_, fin _ 1101 ?_ ?_⟩)))))))⟩)))
    · rw [w7, w6, em1, u1, u2]
    · rw [u3L_n (by decide), u3L_n (by decide), u3L_n (by decide)]
    · rw [u3L_y, u3L_y, u3L_y, Int64.add_assoc, Int64.add_assoc]; rfl
  · refine ra_4 ((eM _ _).mpr (twp c (twp c2 ⟨ev1, fun v6 w6 v7 w7 => onn (by decide) (onn (by decide) (onn (by decide) (onn (by decide) (onp rfl (onn (by decide) (onn (by decide) (onn (by decide) (onn (by decide) (onp rfl ⟨ev4, ?_, fin _ 10001 ?_ ?_⟩)))))))))⟩)))
    · rw [w6, em1, t25, em4]
    · rw [u3L_n (by decide), u3L_n (by decide)]
    · rw [u3L_y, u3L_y, Int64.add_assoc]; rfl
  · refine ra_5 ((eM _ _).mpr (twp c (twp c2 ⟨ev1, fun v6 w6 v7 w7 => onn (by decide) (onn (by decide) (onn (by decide) (onn (by decide) (onn (by decide) (onp rfl (onn (by decide) (onn (by decide) (onn (by decide) (onn (by decide) (onn (by decide) (onp rfl ⟨ev3, ?_, fin _ 100001 ?_ ?_⟩)))))))))))⟩)))
    · rw [w6, em1, t25, em3]
    · rw [u3L_n (by decide), u3L_n (by decide)]
    · rw [u3L_y, u3L_y, Int64.add_assoc]; rfl
  · refine ra_6 rfl rfl ((eM _ _).mpr (twp c (twp c2 ⟨ev1, fun v6 w6 v7 w7 => onn (by decide) (onn (by decide) (onn (by decide) (onn (by decide) (onn (by decide) (onn (by decide) (onn (by decide) (onn (by decide) (onn (by decide) (onn (by decide) (onn (by decide) (onn (by decide) ⟨?_, fin _ 1001101 ?_ ?_⟩)))))))))))⟩)))
    · rw [w7, w6, em1, u1, u2]
    · rw [u3L_n (by decide), u3L_n (by decide), u3L_n (by decide), u3L_n (by decide)]
    · rw [u3L_y, u3L_y, u3L_y, u3L_y, Int64.add_assoc, Int64.add_assoc, Int64.add_assoc]; rfl
end RDG
