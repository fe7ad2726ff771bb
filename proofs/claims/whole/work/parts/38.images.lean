section IMG
variable {I : MI} {J : MJ}
/-- runner r0 of I' is runner r1 of I -/
def RC (I I' : MI) (r0 r1 : Nat) : Prop := (∀ k, 2 ≤ k → k ≤ 7 → I' 4 r0 k = I 4 r1 k) ∧ (∀ j, j < 3 → I' 15 r0 j = I 15 r1 j) ∧ ∀ j, j < 12 → I' 16 r0 j = I 16 r1 j
theorem s_become4 {Q : MI → MJ → Prop} {n0 n1 : Nat} (hne : n0 ≠ n1) (hQ : ∀ I', RC I I' n0 n1 → (∀ t r, ¬ (r = n0 ∧ (t = 4 ∨ t = 15 ∨ t = 16)) → I' t r = I t r) → Q I' J) : wp_X4_become Q I J n0 n1 := by
  intro I1 e1 I2 e2 I3 e3
  have o1 : ∀ r, r ≠ n0 → I1 4 r = I 4 r := fun r hr => by rw [e1, up3_o (by omega), up3_o (by omega), up3_o (by omega)]
  have o2 : ∀ r, r ≠ n0 → I2 4 r = I 4 r := fun r hr => by rw [e2, up3_o (by omega), up3_o (by omega), up3_o (by omega)]; exact o1 r hr
  have a2 : I1 4 n0 2 = I 4 n1 2 := by rw [e1, up3_n (by simp), up3_n (by simp), up3_y]
  have a3 : I1 4 n0 3 = I 4 n1 3 := by rw [e1, up3_n (by simp), up3_y, up3_o (by omega)]
  have a4 : I1 4 n0 4 = I 4 n1 4 := by rw [e1, up3_y, up3_o (by omega), up3_o (by omega)]
  have b5 : I2 4 n0 5 = I 4 n1 5 := by rw [e2, up3_n (by simp), up3_n (by simp), up3_y, o1 n1 (by omega)]
  have b6 : I2 4 n0 6 = I 4 n1 6 := by rw [e2, up3_n (by simp), up3_y, up3_o (by omega), o1 n1 (by omega)]
  have b7 : I2 4 n0 7 = I 4 n1 7 := by rw [e2, up3_y, up3_o (by omega), up3_o (by omega), o1 n1 (by omega)]
  have b2 : I2 4 n0 2 = I 4 n1 2 := by rw [e2, up3_n (by simp), up3_n (by simp), up3_n (by simp)]; exact a2
  have b3 : I2 4 n0 3 = I 4 n1 3 := by rw [e2, up3_n (by simp), up3_n (by simp), up3_n (by simp)]; exact a3
  have b4 : I2 4 n0 4 = I 4 n1 4 := by rw [e2, up3_n (by simp), up3_n (by simp), up3_n (by simp)]; exact a4
  have ot : ∀ t, t ≠ 4 → I2 t = I t := fun t ht => by rw [e2, up3_t ht, up3_t ht, up3_t ht, e1, up3_t ht, up3_t ht, up3_t ht]
  refine hQ I3 ⟨fun k h1 h2 => ?_, fun j hj => ?_, fun j hj => ?_⟩ (fun t r h => ?_)
  · rw [e3, row3_t (by decide), row3_t (by decide)]
    rcases (show k = 2 ∨ k = 3 ∨ k = 4 ∨ k = 5 ∨ k = 6 ∨ k = 7 by omega) with rfl | rfl | rfl | rfl | rfl | rfl
    · exact b2
    · exact b3
    · exact b4
    · exact b5
    · exact b6
    · exact b7
  · rw [e3, row3_t (by decide), row3_r, pk_cpy_in (by omega) (by omega), ot 15 (by decide)]
    congr 1
    omega
  · rw [e3, row3_r, pk_cpy_in (by omega) (by omega), row3_t (by decide), ot 16 (by decide)]
    congr 1
    omega
  · rw [e3, row3_o (by omega), row3_o (by omega)]
    by_cases h4 : t = 4
    · subst h4
      exact o2 r (by omega)
    · rw [ot t h4]
/-- yard n0 of I' is yard n1 of I -/
def YB (I I' : MI) (n0 n1 n : Nat) : Prop := I' 6 n0 1 = I 6 n1 1 ∧ I' 6 n0 2 = I 6 n1 2 ∧ I' 6 n0 3 = I 6 n1 3 ∧ I' 6 n0 4 = I 6 n0 4 ∧ (∀ k, k < n → RC I I' (8 * n0 + k) (8 * n1 + k)) ∧ ∀ t r, ¬ (t = 6 ∧ r = n0) → ¬ ((t = 4 ∨ t = 15 ∨ t = 16) ∧ 8 * n0 ≤ r ∧ r < 8 * n0 + 8) → I' t r = I t r
theorem s_become6 {Q : MI → MJ → Prop} {n0 n1 n : Nat} (hne : n0 ≠ n1) (hn : n ≤ 8) (en : I 6 n1 1 = nI n) (hQ : ∀ I', YB I I' n0 n1 n → Q I' J) : wp_X6_become Q I J n0 n1 := by
  intro I1 e1
  have o6 : ∀ t r, ¬ (t = 6 ∧ r = n0) → I1 t r = I t r := fun t r h => by rw [e1, up3_o h, up3_o h, up3_o h]
  have a1 : I1 6 n0 1 = nI n := by rw [e1, up3_n (by simp), up3_n (by simp), up3_y]; exact en
  have a2 : I1 6 n0 2 = I 6 n1 2 := by rw [e1, up3_n (by simp), up3_y, up3_o (by omega)]
  have a3 : I1 6 n0 3 = I 6 n1 3 := by rw [e1, up3_y, up3_o (by omega), up3_o (by omega)]
  have a4 : I1 6 n0 4 = I 6 n0 4 := by rw [e1, up3_n (by simp), up3_n (by simp), up3_n (by simp)]
  have key : ∀ (k j : Nat) (I' : MI), j + k = n → (∀ i, i < j → RC I I' (8 * n0 + i) (8 * n1 + i)) → (∀ t r, ¬ ((t = 4 ∨ t = 15 ∨ t = 16) ∧ 8 * n0 ≤ r ∧ r < 8 * n0 + 8) → I' t r = I1 t r) → L_X6_become_26 Q (k + 1) I' J n0 n1 (nI j) := by
    intro k
    induction k with
    | zero =>
      intro j I' e h1 h2
      obtain rfl : j = n := by omega
      have h6 : I' 6 n0 = I1 6 n0 := h2 6 n0 (by omega)
      refine onp (by rw [h6, a1]; exact nI_le (Nat.le_refl _) (by omega)) (hQ I' ⟨by rw [h6, a1, en], by rw [h6]; exact a2, by rw [h6]; exact a3, by rw [h6]; exact a4, h1, fun t r q1 q2 => by rw [h2 t r q2, o6 t r q1]⟩)
    | succ k ih =>
      intro j I' e h1 h2
      have h6 : I' 6 n0 = I1 6 n0 := h2 6 n0 (by omega)
      have hj : j < n := by omega
      have hv : vp_in (nI j) 8 := vp_in_nI (by omega) (by decide)
      refine onn (by rw [h6, a1]; exact nI_ge hj (by omega)) ⟨hv, hv, ?_⟩
      rw [nI_clamp (by omega), nI_1]
      refine s_become4 (by omega) (fun I'' g1 g2 => ih (j + 1) I'' (by omega) (fun i hi => ?_) (fun t r q => ?_))
      · by_cases ei : i = j
        · subst ei
          obtain ⟨q1, q2, q3⟩ := g1
          have f : ∀ t, t ≠ 6 → I' t (8 * n1 + i) = I t (8 * n1 + i) := fun t ht => by rw [h2 t _ (by omega), o6 t _ (by omega)]
          exact ⟨fun k r1 r2 => by rw [q1 k r1 r2, f 4 (by decide)], fun k r1 => by rw [q2 k r1, f 15 (by decide)], fun k r1 => by rw [q3 k r1, f 16 (by decide)]⟩
        · obtain ⟨q1, q2, q3⟩ := h1 i (by omega)
          have f : ∀ t, I'' t (8 * n0 + i) = I' t (8 * n0 + i) := fun t => g2 t _ (by omega)
          exact ⟨fun k r1 r2 => by rw [f 4]; exact q1 k r1 r2, fun k r1 => by rw [f 15]; exact q2 k r1, fun k r1 => by rw [f 16]; exact q3 k r1⟩
      · rw [g2 t r (by omega)]
        exact h2 t r q
  exact ⟨n + 1, key n 0 I1 (by omega) (fun i hi => absurd hi (by omega)) (fun _ _ _ => rfl)⟩
/-- a tie moves with its runner and its block -/
theorem RR.move {I' : MI} {r0 r1 T T' C C' : Nat} (h : RR I r1 T C) (hc : RC I I' r0 r1) (hT : ∀ j, j < 21 → I' T' 0 (C' + j) = I T 0 (C + j)) : RR I' r0 T' C' := by
  obtain ⟨⟨a1, a2, a3, a4, a5, a6⟩, b, ⟨q, c1, c2, c3⟩, d1, d2, d3, d4⟩ := h
  obtain ⟨f, f2, f3⟩ := hc
  have v2 := f 2 (by decide) (by decide)
  have v3 := f 3 (by decide) (by decide)
  have v4 := f 4 (by decide) (by decide)
  have v5 := f 5 (by decide) (by decide)
  have v6 := f 6 (by decide) (by decide)
  have v7 := f 7 (by decide) (by decide)
  refine ⟨⟨?_, ?_, ?_, ?_, ?_, ?_⟩, fun j hj => ?_, ⟨q, c1, by rw [v7]; exact c2, fun j hj => ?_⟩, by rw [v2]; exact d1, by rw [v3]; exact d2, by rw [v4]; exact d3, by rw [v5]; exact d4⟩
  · rw [v2]; exact Eq.trans (hT 0 (by decide)) a1
  · rw [v3, hT 1 (by decide)]; exact a2
  · rw [v4, hT 2 (by decide)]; exact a3
  · rw [v5, hT 3 (by decide)]; exact a4
  · rw [v6, hT 7 (by decide)]; exact a5
  · rw [v7, hT 8 (by decide)]; exact a6
  · rw [Nat.add_assoc, hT (4 + j) (by omega), f2 j hj, ← Nat.add_assoc]; exact b j hj
  · rw [Nat.add_assoc, hT (9 + j) (by omega), f3 j (by omega), ← Nat.add_assoc]; exact c3 j hj
theorem YR.move {I' : MI} {n0 n1 T T' B B' n : Nat} (h : YR I n1 T B) (hn : n ≤ 8) (en : I 6 n1 1 = nI n) (hb : YB I I' n0 n1 n) {I2 : MI} (h6 : I2 6 n0 1 = I' 6 n0 1 ∧ I2 6 n0 2 = I' 6 n0 2 ∧ I2 6 n0 3 = I' 6 n0 3) (hk : ∀ r, 8 * n0 ≤ r → r < 8 * n0 + 8 → I2 4 r = I' 4 r ∧ I2 15 r = I' 15 r ∧ I2 16 r = I' 16 r) (hT : ∀ j, j < 171 → I2 T' 0 (B' + j) = I T 0 (B + j)) : YR I2 n0 T' B' := by
  obtain ⟨n', y1, y2, y3, y4, y5, y6⟩ := h
  obtain rfl : n' = n := (nI_eq (by omega) (by omega)).mp (y2.symm.trans en)
  obtain ⟨b1, b2, b3, -, b5, -⟩ := hb
  refine ⟨n', hn, by rw [h6.1, b1]; exact en, by rw [hT 168 (by decide)]; exact y3, by rw [hT 169 (by decide), h6.2.1, b2]; exact y4, by rw [hT 170 (by decide), h6.2.2, b3]; exact y5, fun k hk' => (y6 k hk').move ?_ (fun j hj => ?_)⟩
  · obtain ⟨q1, q2, q3⟩ := b5 k hk'
    obtain ⟨f1, f2, f3⟩ := hk (8 * n0 + k) (by omega) (by omega)
    exact ⟨fun i r1 r2 => by rw [f1]; exact q1 i r1 r2, fun i r1 => by rw [f2]; exact q2 i r1, fun i r1 => by rw [f3]; exact q3 i r1⟩
  · rw [Nat.add_assoc, hT (21 * k + j) (by omega), ← Nat.add_assoc]
theorem s_mkeep {Q : Int32 → MI → MJ → Prop} {b : Nat} (hb : b < 2) (hQ : ∀ I', (∀ j, j < 171 → I' 26 0 (171 * b + j) = I 25 0 j) → (∀ j, ¬ (171 * b ≤ j ∧ j < 171 * b + 171) → I' 26 0 j = I 26 0 j) → (∀ t, t ≠ 26 → I' t = I t) → Q (I' 25 0 170) (up3 I' 27 0 b 1) J) : ∃ m : Nat, L_X8_keep_18 Q m I J (nI b) 0 := by
  have key : ∀ (k j : Nat) (I' : MI), j + k = 171 → (∀ i, i < j → I' 26 0 (171 * b + i) = I 25 0 i) → (∀ i, ¬ (171 * b ≤ i ∧ i < 171 * b + j) → I' 26 0 i = I 26 0 i) → (∀ t, t ≠ 26 → I' t = I t) → L_X8_keep_18 Q (k + 1) I' J (nI b) (nI j) := by
    intro k
    induction k with
    | zero =>
      intro j I' e h1 h2 h3
      obtain rfl : j = 171 := by omega
      refine onp (by decide) ⟨vp_in_nI (by omega) (by decide), ?_⟩
      rw [nI_clamp (by omega), up3_t (by decide)]
      exact hQ I' h1 h2 h3
    | succ k ih =>
      intro j I' e h1 h2 h3
      have ei : 171 * nI b + nI j = nI (171 * b + j) := by rw [show (171 : Int32) = nI 171 from rfl, pk_mul, nI_add]
      refine onn (fun q => absurd ((nI_leI (a := 171) (by omega) (by omega)).mp q) (by omega)) ⟨vp_in_nI (by omega) (by decide), by rw [ei]; exact vp_in_nI (by omega) (by decide), ?_⟩
      rw [ei, nI_clamp (by omega), nI_clamp (by omega), nI_1]
      refine ih (j + 1) _ (by omega) (fun i hi => ?_) (fun i hi => ?_) (fun t ht => ?_)
      · by_cases e2 : i = j
        · rw [e2, up3_y, h3 25 (by decide)]
        · rw [up3_n (by omega)]; exact h1 i (by omega)
      · rw [up3_n (by omega)]; exact h2 i (by omega)
      · rw [up3_t ht]; exact h3 t ht
  exact ⟨172, key 171 0 I (by omega) (fun i hi => absurd hi (by omega)) (fun _ _ => rfl) (fun _ _ => rfl)⟩
theorem s_mback {Q : Int32 → MI → MJ → Prop} {b : Nat} (hb : b < 2) (hQ : ∀ I', (∀ j, j < 171 → I' 25 0 j = I 26 0 (171 * b + j)) → (∀ t, t ≠ 25 → I' t = I t) → Q (I' 25 0 170) (up3 I' 8 0 14 0) J) : ∃ m : Nat, L_X8_back_30 Q m I J (nI b) 0 := by
  have key : ∀ (k j : Nat) (I' : MI), j + k = 171 → (∀ i, i < j → I' 25 0 i = I 26 0 (171 * b + i)) → (∀ t, t ≠ 25 → I' t = I t) → L_X8_back_30 Q (k + 1) I' J (nI b) (nI j) := by
    intro k
    induction k with
    | zero =>
      intro j I' e h1 h3
      obtain rfl : j = 171 := by omega
      refine onp (by decide) ?_
      rw [up3_t (by decide)]
      exact hQ I' h1 h3
    | succ k ih =>
      intro j I' e h1 h3
      have ei : 171 * nI b + nI j = nI (171 * b + j) := by rw [show (171 : Int32) = nI 171 from rfl, pk_mul, nI_add]
      refine onn (fun q => absurd ((nI_leI (a := 171) (by omega) (by omega)).mp q) (by omega)) ⟨by rw [ei]; exact vp_in_nI (by omega) (by decide), vp_in_nI (by omega) (by decide), ?_⟩
      rw [ei, nI_clamp (by omega), nI_clamp (by omega), nI_1]
      refine ih (j + 1) _ (by omega) (fun i hi => ?_) (fun t ht => ?_)
      · by_cases e2 : i = j
        · rw [e2, up3_y, h3 26 (by decide)]
        · rw [up3_n (by omega)]; exact h1 i (by omega)
      · rw [up3_t ht]; exact h3 t ht
  exact ⟨172, key 171 0 I (by omega) (fun i hi => absurd hi (by omega)) (fun _ _ => rfl)⟩
theorem pr_keep (h : Inv I J) (x : Int32) : wp_X7_keep (fun r I1 J1 => wp_X8_keep (fun r2 I2 J2 => r = r2 ∧ Inv I2 J2) I1 J1 x) I J x := by
  have hT := h.thrown
  unfold wp_X7_keep wp_X8_keep
  simp only [q_within, q_in, bi_0, decide_eq_false_iff_not]
  refine two (fun c => ?_) (fun c => twn c ⟨trivial, hT⟩)
  obtain ⟨b, hb, rfl⟩ := nI_le_ex (j := 1) rfl c.1 c.2 (by decide)
  have hv : vp_in (nI b) 2 := vp_in_nI (by omega) (by decide)
  obtain ⟨n, hn, en, -⟩ := id h.1
  rw [nI_clamp (by omega)]
  refine ⟨hv, s_become6 (by omega) hn en (fun I1 hY => ⟨hv, twp c (s_mkeep (by omega) (fun I2 m1 m2 m3 => ?_))⟩)⟩
  obtain ⟨b1, b2, b3, b4, b5, bo⟩ := id hY
  -- the memory behind both
  generalize hI3 : up3 (up3 I1 6 (1 + b) 4 1) 8 0 0 0 = I3 at m1 m2 m3
  have q3 : ∀ t r, t ≠ 6 → t ≠ 8 → ¬ ((t = 4 ∨ t = 15 ∨ t = 16) ∧ 8 * (1 + b) ≤ r ∧ r < 8 * (1 + b) + 8) → I3 t r = I t r := fun t r r1 r2 r3 => by rw [← hI3, up3_t r2, up3_t r1, bo t r (by omega) r3]
  have q36 : ∀ r, r ≠ 1 + b → I3 6 r = I 6 r := fun r hr => by rw [← hI3, up3_t (by decide), up3_o (by omega), bo 6 r (by omega) (by omega)]
  have q38 : ∀ j, j ≠ 0 → I3 8 0 j = I 8 0 j := fun j hj => by rw [← hI3, up3_n (by omega), up3_t (by decide), bo 8 0 (by omega) (by omega)]
  have q3r : ∀ t r, t = 4 ∨ t = 15 ∨ t = 16 → I3 t r = I1 t r := fun t r ht => by rw [← hI3, up3_t (by omega), up3_t (by omega)]
  have z : ∀ t, t ≠ 26 → t ≠ 27 → up3 I2 27 0 b 1 t = I3 t := fun t r1 r2 => by rw [up3_t r2, m3 t r1]
  have z26 : up3 I2 27 0 b 1 26 = I2 26 := up3_t (by decide)
  obtain ⟨hy, hi, ht, hu, hx, hl, hc, hh, hj⟩ := h
  have w : ∀ t, t ≠ 26 → t ≠ 27 → t ≠ 6 → t ≠ 8 → t ≠ 4 → t ≠ 15 → t ≠ 16 → up3 I2 27 0 b 1 t = I t := fun t r1 r2 r3 r4 r5 r6 r7 => by rw [z t r1 r2]; funext r; exact q3 t r r3 r4 (by omega)
  have wr : ∀ t r, (t = 4 ∨ t = 15 ∨ t = 16) → ¬ (8 * (1 + b) ≤ r ∧ r < 8 * (1 + b) + 8) → up3 I2 27 0 b 1 t r = I t r := fun t r r1 r2 => by rw [z t (by omega) (by omega), q3 t r (by omega) (by omega) (by omega)]
  have wY : YR (up3 I2 27 0 b 1) 0 25 0 := by
    obtain ⟨n', y1, y2, y3, y4, y5, y6⟩ := hy
    have e6 : up3 I2 27 0 b 1 6 0 = I 6 0 := by rw [z 6 (by decide) (by decide), q36 0 (by omega)]
    have e25 : up3 I2 27 0 b 1 25 = I 25 := w 25 (by decide) (by decide) (by decide) (by decide) (by decide) (by decide) (by decide)
    exact ⟨n', y1, by rw [e6]; exact y2, by rw [e25]; exact y3, by rw [e25, e6]; exact y4, by rw [e25, e6]; exact y5, fun k hk => (y6 k hk).congr (wr 4 _ (by omega) (by omega)) (wr 15 _ (by omega) (by omega)) (wr 16 _ (by omega) (by omega)) (by rw [e25])⟩
  refine ⟨?_, wY, fun b' hb' => ?_, ht.congr (w _ (by decide) (by decide) (by decide) (by decide) (by decide) (by decide) (by decide)) (w _ (by decide) (by decide) (by decide) (by decide) (by decide) (by decide) (by decide)), hu.congr (fun _ _ => by rw [w 29 (by decide) (by decide) (by decide) (by decide) (by decide) (by decide) (by decide)]) (by rw [w 13 (by decide) (by decide) (by decide) (by decide) (by decide) (by decide) (by decide)]), hx.congr (by rw [w 3 (by decide) (by decide) (by decide) (by decide) (by decide) (by decide) (by decide)]) (by rw [z 8 (by decide) (by decide), q38 8 (by decide)]) (w _ (by decide) (by decide) (by decide) (by decide) (by decide) (by decide) (by decide)) (w _ (by decide) (by decide) (by decide) (by decide) (by decide) (by decide) (by decide)), hl.congr (by rw [z 8 (by decide) (by decide), q38 14 (by decide)]) (w _ (by decide) (by decide) (by decide) (by decide) (by decide) (by decide) (by decide)) (w _ (by decide) (by decide) (by decide) (by decide) (by decide) (by decide) (by decide)) (w _ (by decide) (by decide) (by decide) (by decide) (by decide) (by decide) (by decide)) (w _ (by decide) (by decide) (by decide) (by decide) (by decide) (by decide) (by decide)) (w _ (by decide) (by decide) (by decide) (by decide) (by decide) (by decide) (by decide)), hc.congr (w _ (by decide) (by decide) (by decide) (by decide) (by decide) (by decide) (by decide)) (w _ (by decide) (by decide) (by decide) (by decide) (by decide) (by decide) (by decide)) (w _ (by decide) (by decide) (by decide) (by decide) (by decide) (by decide) (by decide)), hh.congr (w _ (by decide) (by decide) (by decide) (by decide) (by decide) (by decide) (by decide)) (w _ (by decide) (by decide) (by decide) (by decide) (by decide) (by decide) (by decide)), hj⟩
  · have y5 : I 25 0 (0 + 170) = I 6 0 3 := by obtain ⟨-, -, -, -, -, y5, -⟩ := hy; exact y5
    rw [up3_o (by omega), bo 6 0 (by omega) (by omega), m3 25 (by decide), q3 25 0 (by decide) (by decide) (by omega)]
    exact y5.symm
  · obtain ⟨i1, i2, i3⟩ := hi b' hb'
    by_cases eb : b' = b
    · subst eb
      rw [up3_y, z 6 (by decide) (by decide)]
      refine ⟨Or.inr rfl, by rw [← hI3, up3_t (by decide), up3_y], fun _ => ?_⟩
      refine hy.move hn en hY ⟨?_, ?_, ?_⟩ (fun r r1 r2 => ⟨?_, ?_, ?_⟩) (fun j hj => ?_)
      · rw [z 6 (by decide) (by decide), ← hI3, up3_t (by decide), up3_n (by omega)]
      · rw [z 6 (by decide) (by decide), ← hI3, up3_t (by decide), up3_n (by omega)]
      · rw [z 6 (by decide) (by decide), ← hI3, up3_t (by decide), up3_n (by omega)]
      · rw [z 4 (by decide) (by decide), q3r 4 r (by omega)]
      · rw [z 15 (by decide) (by decide), q3r 15 r (by omega)]
      · rw [z 16 (by decide) (by decide), q3r 16 r (by omega)]
      · rw [z26, m1 j hj, q3 25 0 (by decide) (by decide) (by omega), Nat.zero_add]
    · have e27 : up3 I2 27 0 b 1 27 0 b' = I 27 0 b' := by rw [up3_n (by omega), m3 27 (by decide), q3 27 0 (by decide) (by decide) (by omega)]
      have e6 : up3 I2 27 0 b 1 6 (1 + b') = I 6 (1 + b') := by rw [z 6 (by decide) (by decide), q36 _ (by omega)]
      rw [e27, e6]
      refine ⟨i1, i2, fun q => ?_⟩
      obtain ⟨n', z1, z2, z3, z4, z5, z6⟩ := i3 q
      have e26 : ∀ j, j < 171 → up3 I2 27 0 b 1 26 0 (171 * b' + j) = I 26 0 (171 * b' + j) := fun j hj => by rw [z26, m2 _ (by omega), q3 26 0 (by decide) (by decide) (by omega)]
      refine ⟨n', z1, by rw [e6]; exact z2, by rw [e26 168 (by decide)]; exact z3, by rw [e26 169 (by decide), e6]; exact z4, by rw [e26 170 (by decide), e6]; exact z5, fun k hk => (z6 k hk).move ⟨fun i _ _ => by rw [wr 4 _ (by omega) (by omega)], fun i _ => by rw [wr 15 _ (by omega) (by omega)], fun i _ => by rw [wr 16 _ (by omega) (by omega)]⟩ (fun j hj => ?_)⟩
      rw [Nat.add_assoc, e26 _ (by omega)]
end IMG
