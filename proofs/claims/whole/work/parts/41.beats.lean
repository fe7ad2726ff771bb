section BEATS
variable {I : MI} {J : MJ}
/-- a sum of three lengths, hull number j of 1728 -/
def h3 (f : Nat → Int32) (o j : Nat) : Int32 := f o * nI (j / 144 + 1) + f (o + 1) * nI (j / 12 % 12 + 1) + f (o + 2) * nI (j % 12 + 1)
/-- the best of the first j hulls, and its speed -/
def bst (f : Nat → Int32) (lim : Int32) : Nat → Int32 × Int32
  | 0 => (-9, 0)
  | j + 1 => if lim < h3 f 0 j then bst f lim j else if (bst f lim j).1 = -9 then (nI j, h3 f 3 j) else if h3 f 3 j ≤ (bst f lim j).2 then bst f lim j else (nI j, h3 f 3 j)
theorem bst_in (f : Nat → Int32) (lim : Int32) : ∀ j, j ≤ 1728 → (bst f lim j).1 = -9 ∨ ∃ i, i < j ∧ (bst f lim j).1 = nI i := by
  intro j
  induction j with
  | zero => intro _; exact Or.inl rfl
  | succ j ih =>
    intro hj
    have e : bst f lim (j + 1) = if lim < h3 f 0 j then bst f lim j else if (bst f lim j).1 = -9 then (nI j, h3 f 3 j) else if h3 f 3 j ≤ (bst f lim j).2 then bst f lim j else (nI j, h3 f 3 j) := rfl
    have old : (bst f lim j).1 = -9 ∨ ∃ i, i < j + 1 ∧ (bst f lim j).1 = nI i := (ih (by omega)).elim Or.inl (fun ⟨i, a, b⟩ => Or.inr ⟨i, by omega, b⟩)
    rw [e]
    by_cases c1 : lim < h3 f 0 j
    · rw [if_pos c1]; exact old
    · rw [if_neg c1]
      by_cases c2 : (bst f lim j).1 = -9
      · rw [if_pos c2]; exact Or.inr ⟨j, by omega, rfl⟩
      · rw [if_neg c2]
        by_cases c3 : h3 f 3 j ≤ (bst f lim j).2
        · rw [if_pos c3]; exact old
        · rw [if_neg c3]; exact Or.inr ⟨j, by omega, rfl⟩
theorem d144 {j : Nat} (hj : j < 1728) : nI j / 144 + 1 = nI (j / 144 + 1) := by rw [show (144 : Int32) = nI 144 from rfl, pk_div (by omega) (by decide) (by decide), nI_1]
theorem d12 {j : Nat} (hj : j < 1728) : ((nI j / 12) - (nI j / 12) / 12 * 12) + 1 = nI (j / 12 % 12 + 1) := by
  rw [show (12 : Int32) = nI 12 from rfl, pk_div (by omega) (by decide) (by decide), pk_rem (by omega) (by decide) (by decide), nI_1]
theorem d1 {j : Nat} (hj : j < 1728) : (nI j - nI j / 12 * 12) + 1 = nI (j % 12 + 1) := by
  rw [show (12 : Int32) = nI 12 from rfl, pk_rem (by omega) (by decide) (by decide), nI_1]
theorem nI_n9 {i : Nat} (hi : i < 1728) : ¬ nI i = -9 := by
  rw [iz_nI, show (-9 : Int32) = iz (-9) from rfl, iz_eq (by omega) (by omega) (by omega) (by omega)]
  omega
theorem s_mbeats {Q : Int32 → MI → MJ → Prop} {lim w : Int32} (hQ : (bst (I 33 0) lim 1728).1 = -9 → Q (-1000000) I J) (hQ2 : ∀ i, i < 1728 → (bst (I 33 0) lim 1728).1 = nI i → (w = 0 → Q (nI (i / 144 + 1)) I J) ∧ (¬ w = 0 → (w = 1 → Q (nI (i / 12 % 12 + 1)) I J) ∧ (¬ w = 1 → (w = 2 → Q (nI (i % 12 + 1)) I J) ∧ (¬ w = 2 → Q (bst (I 33 0) lim 1728).2 I J)))) : ∃ n : Nat, L_X8_beats_39 Q n I J lim w (-9) 0 0 := by
  have key : ∀ (k j : Nat), j + k = 1728 → L_X8_beats_39 Q (k + 1) I J lim w (bst (I 33 0) lim j).1 (bst (I 33 0) lim j).2 (nI j) := by
    intro k
    induction k with
    | zero =>
      intro j e
      obtain rfl : j = 1728 := by omega
      refine onp (by decide) ?_
      rcases bst_in (I 33 0) lim 1728 (by omega) with c | ⟨i, hi, c⟩
      · exact onp c (hQ c)
      · have hq := hQ2 i hi c
        rw [c, d144 hi, d12 hi, d1 hi]
        exact onn (nI_n9 hi) hq
    | succ k ih =>
      intro j e
      have hj : j < 1728 := by omega
      refine onn (fun q => absurd ((nI_leI (a := 1728) (by omega) (by omega)).mp q) (by omega)) (fun v10 e10 v11 e11 => ?_)
      rw [d12 hj] at e10
      rw [d144 hj, d1 hj, e10] at e11
      rw [d144 hj, d1 hj, e10]
      have hi := ih (j + 1) (by omega)
      have eb : bst (I 33 0) lim (j + 1) = if lim < h3 (I 33 0) 0 j then bst (I 33 0) lim j else if (bst (I 33 0) lim j).1 = -9 then (nI j, h3 (I 33 0) 3 j) else if h3 (I 33 0) 3 j ≤ (bst (I 33 0) lim j).2 then bst (I 33 0) lim j else (nI j, h3 (I 33 0) 3 j) := rfl
      rw [eb] at hi
      have e0 : (I 33 0 0 * nI (j / 144 + 1)) + (I 33 0 1 * nI (j / 12 % 12 + 1)) + (I 33 0 2 * nI (j % 12 + 1)) = h3 (I 33 0) 0 j := rfl
      have e3 : v11 = h3 (I 33 0) 3 j := e11
      rw [e0, e3, nI_1]
      unfold J_X8_beats_155
      rw [nI_1]
      by_cases c1 : lim < h3 (I 33 0) 0 j
      · rw [if_pos c1] at hi; exact onp c1 hi
      · rw [if_neg c1] at hi
        refine onn c1 ?_
        by_cases c2 : (bst (I 33 0) lim j).1 = -9
        · rw [if_pos c2] at hi; exact onp c2 hi
        · rw [if_neg c2] at hi
          refine onn c2 ?_
          by_cases c3 : h3 (I 33 0) 3 j ≤ (bst (I 33 0) lim j).2
          · rw [if_pos c3] at hi; exact onp c3 hi
          · rw [if_neg c3] at hi; exact onn c3 hi
  exact ⟨1729, key 1728 0 (by omega)⟩
/-- what the system holds behind the first j hulls -/
def CM (I I' : MI) (lim : Int32) (j : Nat) (x : Int32) : Prop := (∀ t, t ≠ 1 → I' t = I t) ∧ (((bst (I 12 0) lim j).1 = -9 ∧ x = 0) ∨ ∃ i, i < j ∧ (bst (I 12 0) lim j).1 = nI i ∧ x = 1 ∧ I' 1 0 1 = nI (i / 144 + 1) ∧ I' 1 0 2 = nI (i / 12 % 12 + 1) ∧ I' 1 0 3 = nI (i % 12 + 1) ∧ I' 1 0 4 = (bst (I 12 0) lim j).2)
theorem s_sum {Q : Int32 → MI → MJ → Prop} {x y z : Int32} (h : Q (I 12 0 0 * x + I 12 0 1 * y + I 12 0 2 * z) I J) : wp_X1_sum Q I J 0 x y z := by
  unfold wp_X1_sum
  rw [show (0 : Int32).toNatClampNeg = 0 by decide, show (0 + 1 : Int32).toNatClampNeg = 1 by decide, show (0 + 2 : Int32).toNatClampNeg = 2 by decide]
  exact ⟨vin_k (by decide), vin_k (by decide), vin_k (by decide), h⟩
theorem s_sum3 {Q : Int32 → MI → MJ → Prop} {x y z : Int32} (h : Q (I 12 0 3 * x + I 12 0 4 * y + I 12 0 5 * z) I J) : wp_X1_sum Q I J 3 x y z := by
  unfold wp_X1_sum
  rw [show (3 : Int32).toNatClampNeg = 3 by decide, show (3 + 1 : Int32).toNatClampNeg = 4 by decide, show (3 + 2 : Int32).toNatClampNeg = 5 by decide]
  exact ⟨vin_k (by decide), vin_k (by decide), vin_k (by decide), h⟩
theorem s_seek {Q : Int32 → MI → MJ → Prop} {lim : Int32} (hQ : ∀ I' x, CM I I' lim 1728 x → Q x I' J) : wp_X1_seek Q I J lim := by
  -- the innermost loop
  have key3 : ∀ (C4 : MI → MJ → Int32 → Int32 → Int32 → Prop) (C13 : MI → MJ → Int32 → Int32 → Int32 → Int32 → Prop) (x y : Nat), x < 12 → y < 12 → (∀ I' a, CM I I' lim (144 * x + 12 * y + 12) a → C13 I' J lim a (nI (x + 1)) (nI (y + 1) + 1)) → ∀ (k z : Nat) (I' : MI) (a : Int32), z + k = 12 → CM I I' lim (144 * x + 12 * y + z) a → L_X1_seek_23 Q C4 C13 (k + 1) I' J lim a (nI (x + 1)) (nI (y + 1)) (nI (z + 1)) := by
    intro C4 C13 x y hx hy hC k
    induction k with
    | zero =>
      intro z I' a e h
      obtain rfl : z = 12 := by omega
      exact onp (by decide) (hC I' a h)
    | succ k ih =>
      intro z I' a e h
      have hz : z < 12 := by omega
      refine onn (fun q => absurd ((nI_ltI (a := 12) (by omega) (by omega)).mp q) (by omega)) (s_sum3 (s_sum ?_))
      generalize hj : 144 * x + 12 * y + z = j at h
      have ja : j / 144 = x := by omega
      have jb : j / 12 % 12 = y := by omega
      have jc : j % 12 = z := by omega
      have e12 : I' 12 = I 12 := h.1 12 (by decide)
      have e0 : I' 12 0 0 * nI (x + 1) + I' 12 0 1 * nI (y + 1) + I' 12 0 2 * nI (z + 1) = h3 (I 12 0) 0 j := by rw [e12]; unfold h3; rw [ja, jb, jc]
      have e3 : I' 12 0 3 * nI (x + 1) + I' 12 0 4 * nI (y + 1) + I' 12 0 5 * nI (z + 1) = h3 (I 12 0) 3 j := by rw [e12]; unfold h3; rw [ja, jb, jc]
      rw [e0, e3, nI_1]
      have eb : bst (I 12 0) lim (j + 1) = if lim < h3 (I 12 0) 0 j then bst (I 12 0) lim j else if (bst (I 12 0) lim j).1 = -9 then (nI j, h3 (I 12 0) 3 j) else if h3 (I 12 0) 3 j ≤ (bst (I 12 0) lim j).2 then bst (I 12 0) lim j else (nI j, h3 (I 12 0) 3 j) := rfl
      have go : ∀ I'' a', CM I I'' lim (j + 1) a' → L_X1_seek_23 Q C4 C13 (k + 1) I'' J lim a' (nI (x + 1)) (nI (y + 1)) (nI (z + 1 + 1)) := fun I'' a' q => ih (z + 1) I'' a' (by omega) (by rw [show 144 * x + 12 * y + (z + 1) = j + 1 by omega]; exact q)
      have new : bst (I 12 0) lim (j + 1) = (nI j, h3 (I 12 0) 3 j) → J_X1_seek_69 Q C4 C13 (L_X1_seek_23 Q C4 C13 (k + 1)) I' J lim (nI (x + 1)) (nI (y + 1)) (nI (z + 1)) (h3 (I 12 0) 3 j) := by
        intro en
        unfold J_X1_seek_69 wp_X1_hold
        rw [nI_1]
        refine go _ _ ⟨fun t ht => by rw [up3_t ht, up3_t ht, up3_t ht, up3_t ht]; exact h.1 t ht, Or.inr ⟨j, by omega, by rw [en], rfl, ?_, ?_, ?_, ?_⟩⟩
        · rw [up3_n (by decide), up3_n (by decide), up3_n (by decide), up3_y, ja]
        · rw [up3_n (by decide), up3_n (by decide), up3_y, jb]
        · rw [up3_n (by decide), up3_y, jc]
        · rw [up3_y, en]
      have same : bst (I 12 0) lim (j + 1) = bst (I 12 0) lim j → CM I I' lim (j + 1) a := by
        intro es
        refine ⟨h.1, ?_⟩
        rw [es]
        exact h.2.elim Or.inl (fun ⟨i, a1, a2⟩ => Or.inr ⟨i, by omega, a2⟩)
      by_cases c1 : lim < h3 (I 12 0) 0 j
      · rw [if_pos c1] at eb
        exact onp c1 (go I' a (same eb))
      rw [if_neg c1] at eb
      refine onn c1 ?_
      rcases h.2 with ⟨c2, ca⟩ | ⟨i, hi, c2, ca, -, -, -, m4⟩
      · rw [if_pos c2] at eb
        exact onp ca (new eb)
      · have hj2 : j < 1728 := by omega
        rw [if_neg (by rw [c2]; exact nI_n9 (by omega))] at eb
        refine onn (by rw [ca]; decide) ?_
        rw [m4]
        by_cases c3 : h3 (I 12 0) 3 j ≤ (bst (I 12 0) lim j).2
        · rw [if_pos c3] at eb
          exact onp c3 (go I' a (same eb))
        · rw [if_neg c3] at eb
          exact onn c3 (new eb)
  have key2 : ∀ (C4 : MI → MJ → Int32 → Int32 → Int32 → Prop) (x : Nat), x < 12 → (∀ I' a, CM I I' lim (144 * x + 144) a → C4 I' J lim a (nI (x + 1) + 1)) → ∀ (k y : Nat) (I' : MI) (a : Int32), y + k = 12 → CM I I' lim (144 * x + 12 * y) a → L_X1_seek_13 Q C4 (k + 1) I' J lim a (nI (x + 1)) (nI (y + 1)) := by
    intro C4 x hx hC k
    induction k with
    | zero =>
      intro y I' a e h
      obtain rfl : y = 12 := by omega
      exact onp (by decide) (hC I' a h)
    | succ k ih =>
      intro y I' a e h
      refine onn (fun q => absurd ((nI_ltI (a := 12) (by omega) (by omega)).mp q) (by omega)) ⟨13, ?_⟩
      exact key3 C4 _ x y hx (by omega) (fun I'' a' q => by rw [nI_1]; exact ih (y + 1) I'' a' (by omega) (by rw [show 144 * x + 12 * (y + 1) = 144 * x + 12 * y + 12 by omega]; exact q)) 12 0 I' a (by omega) h
  have key1 : ∀ (k x : Nat) (I' : MI) (a : Int32), x + k = 12 → CM I I' lim (144 * x) a → L_X1_seek_4 Q (k + 1) I' J lim a (nI (x + 1)) := by
    intro k
    induction k with
    | zero =>
      intro x I' a e h
      obtain rfl : x = 12 := by omega
      refine onp (by decide) ⟨?_, hQ I' a h⟩
      rcases h.2 with ⟨-, q⟩ | ⟨-, -, -, q, -⟩
      · exact Or.inl q
      · exact Or.inr q
    | succ k ih =>
      intro x I' a e h
      refine onn (fun q => absurd ((nI_ltI (a := 12) (by omega) (by omega)).mp q) (by omega)) ⟨13, ?_⟩
      exact key2 _ x (by omega) (fun I'' a' q => by rw [nI_1]; exact ih (x + 1) I'' a' (by omega) (by rw [show 144 * (x + 1) = 144 * x + 144 by omega]; exact q)) 12 0 I' a (by omega) h
  exact ⟨13, key1 12 0 I 0 (by omega) ⟨fun _ _ => rfl, Or.inl ⟨rfl, rfl⟩⟩⟩
theorem h3_congr {f g : Nat → Int32} (e : ∀ k, k < 6 → f k = g k) (o j : Nat) (ho : o + 2 < 6) : h3 f o j = h3 g o j := by
  unfold h3
  rw [e o (by omega), e (o + 1) (by omega), e (o + 2) (by omega)]
theorem bst_congr {f g : Nat → Int32} (e : ∀ k, k < 6 → f k = g k) (lim : Int32) : ∀ j, bst f lim j = bst g lim j := by
  intro j
  induction j with
  | zero => rfl
  | succ j ih =>
    show (if lim < h3 f 0 j then bst f lim j else if (bst f lim j).1 = -9 then (nI j, h3 f 3 j) else if h3 f 3 j ≤ (bst f lim j).2 then bst f lim j else (nI j, h3 f 3 j)) = (if lim < h3 g 0 j then bst g lim j else if (bst g lim j).1 = -9 then (nI j, h3 g 3 j) else if h3 g 3 j ≤ (bst g lim j).2 then bst g lim j else (nI j, h3 g 3 j))
    rw [ih, h3_congr e 0 j (by decide), h3_congr e 3 j (by decide)]
theorem pr_beats (h : Inv I J) (x y : Int32) : wp_X7_beats (fun r I1 J1 => wp_X8_beats (fun r2 I2 J2 => r = r2 ∧ Inv I2 J2) I1 J1 x y) I J x y := by
  have hT := h.thrown
  have eM : ∀ (r : Int32) (I1 : MI), wp_X8_beats (fun r2 I2 J2 => r = r2 ∧ Inv I2 J2) I1 J x y ↔ ((¬ (-500 ≤ x ∧ x ≤ 500) → r = -1000000 ∧ Inv (up3 I1 8 0 0 0) J) ∧ (¬ ¬ (-500 ≤ x ∧ x ≤ 500) → (¬ (0 ≤ y ∧ y ≤ 3) → r = -1000000 ∧ Inv (up3 I1 8 0 0 0) J) ∧ (¬ ¬ (0 ≤ y ∧ y ≤ 3) → ∃ n : Nat, L_X8_beats_39 (fun r2 I2 J2 => r = r2 ∧ Inv I2 J2) n (up3 I1 8 0 0 0) J x y (-9) 0 0))) := by
    intro r I1
    unfold wp_X8_beats
    simp only [q_in, bi_0, decide_eq_false_iff_not]
  unfold wp_X7_beats
  simp only [q_within, bi_0, decide_eq_false_iff_not]
  refine two (fun c => ?_) (fun c => (eM _ I).mpr (twn c ⟨rfl, hT⟩))
  refine two (fun c2 => ?_) (fun c2 => (eM _ I).mpr (twp c (twn c2 ⟨rfl, hT⟩)))
  refine s_seek (fun I1 a hc => ?_)
  have hK : Keep I I1 := ⟨fun t ht => hc.1 t (fun e => by rw [e] at ht; exact absurd ht (by decide)), fun r _ => ⟨by rw [hc.1 4 (by decide)], by rw [hc.1 15 (by decide)], by rw [hc.1 16 (by decide)]⟩, by rw [hc.1 13 (by decide)], fun j _ => by rw [hc.1 29 (by decide)], by rw [hc.1 3 (by decide)], by rw [hc.1 8 (by decide)], by rw [hc.1 8 (by decide)]⟩
  have h1 : Inv (up3 I1 8 0 0 0) J := (h.keep hK ⟨rfl, rfl⟩).thrown
  have eb : bst (up3 I1 8 0 0 0 33 0) x 1728 = bst (I 12 0) x 1728 := by
    rw [up3_t (by decide), hc.1 33 (by decide)]
    exact bst_congr (fun k hk => (h.2.2.2.2.2.2.2.1 k hk).1) x 1728
  rcases hc.2 with ⟨q, ea⟩ | ⟨i, hi, q, ea, m1, m2, m3, m4⟩
  · refine onp ea ((eM _ I1).mpr (twp c (twp c2 (s_mbeats (fun _ => ⟨rfl, h1⟩) (fun i hi qi => ?_)))))
    rw [eb, q] at qi
    exact absurd qi.symm (nI_n9 hi)
  · refine onn (by rw [ea]; decide) ?_
    have fin : ∀ r : Int32, ((y = 0 → r = nI (i / 144 + 1)) ∧ (¬ y = 0 → (y = 1 → r = nI (i / 12 % 12 + 1)) ∧ (¬ y = 1 → (y = 2 → r = nI (i % 12 + 1)) ∧ (¬ y = 2 → r = (bst (I 12 0) x 1728).2)))) → wp_X8_beats (fun r2 I2 J2 => r = r2 ∧ Inv I2 J2) I1 J x y := by
      intro r hr
      refine (eM _ I1).mpr (twp c (twp c2 (s_mbeats (fun q2 => ?_) (fun i2 hi2 qi => ?_))))
      · rw [eb, q] at q2
        exact absurd q2 (nI_n9 hi)
      · rw [eb, q] at qi
        obtain rfl : i = i2 := (nI_eq (by omega) (by omega)).mp qi
        rw [eb]
        exact ⟨fun z => ⟨hr.1 z, h1⟩, fun z => ⟨fun z2 => ⟨(hr.2 z).1 z2, h1⟩, fun z2 => ⟨fun z3 => ⟨((hr.2 z).2 z2).1 z3, h1⟩, fun z3 => ⟨((hr.2 z).2 z2).2 z3, h1⟩⟩⟩⟩
    rw [m1, m2, m3, m4]
    by_cases c0 : y = 0
    · exact onp c0 (fin _ (onp c0 rfl))
    refine onn c0 ?_
    by_cases c1 : y = 1
    · exact onp c1 (fin _ (onn c0 (onp c1 rfl)))
    refine onn c1 ?_
    by_cases c3 : y = 2
    · exact onp c3 (fin _ (onn c0 (onn c1 (onp c3 rfl))))
    · exact onn c3 (fin _ (onn c0 (onn c1 (onn c3 rfl))))
end BEATS
