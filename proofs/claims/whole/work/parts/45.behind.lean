section BHD
variable {I : MI} {J : MJ}
/-- a lone runner behind j races: strength, mark, figures -/
def bh (u : Nat → Int32) (x g : Int32) : Nat → Int32 × Int32 × (Nat → Int32)
  | 0 => (x, x, fun _ => 0)
  | j + 1 => (clI ((bh u x g j).1 + g) 0 200, newM u (bh u x g j).2.1 (Fg (fun i => if i = 0 then (bh u x g j).1 else (bh u x g j).2.2 (i - 1))) (min 12 (j + 1)), fun i => if i = 0 then (bh u x g j).1 else (bh u x g j).2.2 (i - 1))
theorem bh_bd {u : Nat → Int32} {x g : Int32} (hx : bd x 0 200) : ∀ j, bd (bh u x g j).1 0 200 ∧ bd (bh u x g j).2.1 0 200 ∧ ∀ i, i < j → bd ((bh u x g j).2.2 i) 0 200 := by
  intro j
  induction j with
  | zero => exact ⟨hx, hx, fun i hi => absurd hi (by omega)⟩
  | succ j ih =>
    refine ⟨clI_bd _, newM_bd _ _ _ _, fun i hi => ?_⟩
    show bd (if i = 0 then (bh u x g j).1 else (bh u x g j).2.2 (i - 1)) 0 200
    by_cases e : i = 0
    · rw [if_pos e]; exact ih.1
    · rw [if_neg e]; exact ih.2.2 (i - 1) (by omega)
theorem s_cbehind {Q : Int32 → MI → MJ → Prop} {x g : Int32} {n : Nat} (hn : n ≤ 40) (hx : bd x 0 200) (hu : RuB (I 13 0)) (h2 : I 4 24 2 = x) (h3 : I 4 24 3 = x) (h5 : I 4 24 5 = g) (h7 : I 4 24 7 = 0) (hQ : ∀ I', Keep I I' → Q ((bh (I 13 0) x g n).1 - (bh (I 13 0) x g n).2.1) I' J) : ∃ k : Nat, L_X7_behind_54 Q k I J (nI n) 0 := by
  have key : ∀ (k j : Nat) (I' : MI), j + k = n → Keep I I' → I' 4 24 2 = (bh (I 13 0) x g j).1 → I' 4 24 3 = (bh (I 13 0) x g j).2.1 → I' 4 24 5 = g → I' 4 24 7 = nI (min 12 j) → (∀ i, i < min 12 j → I' 16 24 i = (bh (I 13 0) x g j).2.2 i) → L_X7_behind_54 Q (k + 1) I' J (nI n) (nI j) := by
    intro k
    induction k with
    | zero =>
      intro j I' e hK a2 a3 a5 a7 af
      obtain rfl : j = n := by omega
      refine onp (nI_le (Nat.le_refl _) (by omega)) ?_
      rw [a2, a3]
      exact hQ I' hK
    | succ k ih =>
      intro j I' e hK a2 a3 a5 a7 af
      obtain ⟨b1, b2, b3⟩ := bh_bd (u := I 13 0) (g := g) hx j
      have e13 : I' 13 0 = I 13 0 := hK.2.2.1
      refine onn (nI_ge (by omega) (by omega)) (s_finish (q := min 12 j) (by omega) a7 (by rw [e13]; exact hu) (by rw [a3]; exact b2) (by rw [a2]; exact bd_w b1 (by decide) (by decide)) (fun i hi => by rw [af i hi]; exact bd_w (b3 i (by omega)) (by decide) (by decide)) (fun I'' hF => ?_))
      obtain ⟨f0, fj, f7, f6, f3, f2, f4, f5, fo⟩ := hF
      rw [nI_1]
      have em : min 12 (min 12 j + 1) = min 12 (j + 1) := by omega
      have efig : ∀ i, i < min 12 (j + 1) → I'' 16 24 i = (fun i => if i = 0 then (bh (I 13 0) x g j).1 else (bh (I 13 0) x g j).2.2 (i - 1)) i := by
        intro i hi
        show I'' 16 24 i = if i = 0 then (bh (I 13 0) x g j).1 else (bh (I 13 0) x g j).2.2 (i - 1)
        by_cases e0 : i = 0
        · rw [if_pos e0, e0, f0, a2]
        · rw [if_neg e0, fj i (by omega) (by omega), af (i - 1) (by omega)]
      refine ih (j + 1) I'' (by omega) (hK.tr ⟨fun t ht => ?_, fun r hr => ⟨fo 4 r (by omega), fo 15 r (by omega), fo 16 r (by omega)⟩, fo 13 0 (by omega), fun j _ => by rw [fo 29 0 (by omega)], by rw [fo 3 0 (by omega)], by rw [fo 8 0 (by omega)], by rw [fo 8 0 (by omega)]⟩) ?_ ?_ ?_ ?_ efig
      · funext r
        refine fo t r (fun q => ?_)
        rcases q.2 with e | e <;> rw [e] at ht <;> exact absurd ht (by decide)
      · rw [f2, a2, a5]; rfl
      · rw [f3, e13, a3, em]
        exact newM_congr (fun _ _ => rfl) (fun i hi => congrArg Int32.toInt (efig i hi))
      · rw [f5]; exact a5
      · rw [f7, em]
  exact ⟨n + 1, key n 0 I (by omega) Keep.rf h2 h3 h5 h7 (fun i hi => absurd hi (by omega))⟩
theorem s_mbehind {Q : Int32 → MI → MJ → Prop} {x g : Int32} {n : Nat} (hn : n ≤ 40) (hx : bd x 0 200) (hu : RuB (I 29 0)) (h19 : I 8 0 19 = 0) (hQ : ∀ I', Keep I I' → Q ((bh (I 29 0) x g n).1 - (bh (I 29 0) x g n).2.1) I' J) : ∃ k : Nat, L_X8_behind_54 Q k I J g (nI n) x x 0 := by
  have key : ∀ (k j : Nat) (I' : MI), j + k = n → Keep I I' → I' 29 = I 29 → I' 8 0 19 = nI (min 12 j) → (∀ i, i < min 12 j → I' 34 0 i = (bh (I 29 0) x g j).2.2 i) → L_X8_behind_54 Q (k + 1) I' J g (nI n) (bh (I 29 0) x g j).1 (bh (I 29 0) x g j).2.1 (nI j) := by
    intro k
    induction k with
    | zero =>
      intro j I' e hK e29 a7 af
      obtain rfl : j = n := by omega
      exact onp (nI_le (Nat.le_refl _) (by omega)) (hQ I' hK)
    | succ k ih =>
      intro j I' e hK e29 a7 af
      obtain ⟨b1, b2, b3⟩ := bh_bd (u := I 29 0) (g := g) hx j
      refine onn (nI_ge (by omega) (by omega)) (s_mmoved (q := min 12 j) (by omega) a7 (by rw [e29]; exact hu) b2 (bd_w b1 (by decide) (by decide)) (fun i hi => by rw [af i hi]; exact bd_w (b3 i (by omega)) (by decide) (by decide)) (fun I'' hF => ?_))
      obtain ⟨f0, fj, f7, f8, fo⟩ := hF
      rw [q_mwithin, nI_1, e29]
      have em : min 12 (min 12 j + 1) = min 12 (j + 1) := by omega
      have efig : ∀ i, i < min 12 (j + 1) → I'' 34 0 i = (fun i => if i = 0 then (bh (I 29 0) x g j).1 else (bh (I 29 0) x g j).2.2 (i - 1)) i := by
        intro i hi
        show I'' 34 0 i = if i = 0 then (bh (I 29 0) x g j).1 else (bh (I 29 0) x g j).2.2 (i - 1)
        by_cases e0 : i = 0
        · rw [if_pos e0, e0, f0]
        · rw [if_neg e0, fj i (by omega) (by omega), af (i - 1) (by omega)]
      have en : newM (I 29 0) (bh (I 29 0) x g j).2.1 (Fg (I'' 34 0)) (min 12 (min 12 j + 1)) = (bh (I 29 0) x g (j + 1)).2.1 := by
        rw [em]
        exact newM_congr (fun _ _ => rfl) (fun i hi => congrArg Int32.toInt (efig i hi))
      rw [en]
      refine ih (j + 1) I'' (by omega) (hK.tr ⟨fun t ht => fo t (fun q => ?_) (fun q => ?_) (fun q => ?_), fun r hr => ⟨by rw [fo 4 (by decide) (by decide) (by decide)], by rw [fo 15 (by decide) (by decide) (by decide)], by rw [fo 16 (by decide) (by decide) (by decide)]⟩, by rw [fo 13 (by decide) (by decide) (by decide)], fun j _ => by rw [fo 29 (by decide) (by decide) (by decide)], by rw [fo 3 (by decide) (by decide) (by decide)], f8 8 (by decide), f8 14 (by decide)⟩) ?_ ?_ efig
      · rw [q] at ht; exact absurd ht (by decide)
      · rw [q] at ht; exact absurd ht (by decide)
      · rw [q] at ht; exact absurd ht (by decide)
      · rw [fo 29 (by decide) (by decide) (by decide)]; exact e29
      · rw [f7, em]
  exact ⟨n + 1, key n 0 I (by omega) Keep.rf rfl h19 (fun i hi => absurd hi (by omega))⟩
theorem bh_congr {u u' : Nat → Int32} (hu : ∀ j, j < 6 → u j = u' j) (x g : Int32) : ∀ j, bh u x g j = bh u' x g j := by
  intro j
  induction j with
  | zero => rfl
  | succ j ih =>
    show (clI ((bh u x g j).1 + g) 0 200, newM u (bh u x g j).2.1 (Fg (fun i => if i = 0 then (bh u x g j).1 else (bh u x g j).2.2 (i - 1))) (min 12 (j + 1)), fun i => if i = 0 then (bh u x g j).1 else (bh u x g j).2.2 (i - 1)) = (clI ((bh u' x g j).1 + g) 0 200, newM u' (bh u' x g j).2.1 (Fg (fun i => if i = 0 then (bh u' x g j).1 else (bh u' x g j).2.2 (i - 1))) (min 12 (j + 1)), fun i => if i = 0 then (bh u' x g j).1 else (bh u' x g j).2.2 (i - 1))
    rw [ih, newM_congr hu (fun _ _ => rfl)]
theorem pr_behind (h : Inv I J) (x y z : Int32) : wp_X7_behind (fun r I1 J1 => wp_X8_behind (fun r2 I2 J2 => r = r2 ∧ Inv I2 J2) I1 J1 x y z) I J x y z := by
  have hT := h.thrown
  have eM : ∀ (r : Int32) (I1 : MI), wp_X8_behind (fun r2 I2 J2 => r = r2 ∧ Inv I2 J2) I1 J x y z ↔ ((¬ (0 ≤ x ∧ x ≤ 200) → r = -1000000 ∧ Inv (up3 I1 8 0 0 0) J) ∧ (¬ ¬ (0 ≤ x ∧ x ≤ 200) → (¬ (-9 ≤ y ∧ y ≤ 9) → r = -1000000 ∧ Inv (up3 I1 8 0 0 0) J) ∧ (¬ ¬ (-9 ≤ y ∧ y ≤ 9) → (¬ (0 ≤ z ∧ z ≤ 40) → r = -1000000 ∧ Inv (up3 I1 8 0 0 0) J) ∧ (¬ ¬ (0 ≤ z ∧ z ≤ 40) → ∃ n : Nat, L_X8_behind_54 (fun r2 I2 J2 => r = r2 ∧ Inv I2 J2) n (up3 (up3 I1 8 0 0 0) 8 0 19 0) J y z x x 0)))) := by
    intro r I1
    unfold wp_X8_behind
    simp only [q_in, bi_0, decide_eq_false_iff_not]
  unfold wp_X7_behind
  simp only [q_within, bi_0, decide_eq_false_iff_not]
  refine two (fun c => ?_) (fun c => (eM _ I).mpr (twn c ⟨rfl, hT⟩))
  refine two (fun c2 => ?_) (fun c2 => (eM _ I).mpr (twp c (twn c2 ⟨rfl, hT⟩)))
  refine two (fun c3 => ?_) (fun c3 => (eM _ I).mpr (twp c (twp c2 (twn c3 ⟨rfl, hT⟩))))
  obtain ⟨n, hn, rfl⟩ := nI_le_ex (j := 40) rfl c3.1 c3.2 (by decide)
  have hx : bd x 0 200 := (bd_le (by decide) (by decide) (by decide) (by decide)).mpr c
  obtain ⟨u1, u2⟩ := h.2.2.2.1
  refine s_begin (fun I1 hb => ?_)
  obtain ⟨b2, b3, b4, b5, b6, b7, b15, bo⟩ := hb
  have K1 : Keep I (up3 I1 4 24 5 y) := Keep.up (Or.inr (Or.inr (Or.inr (Or.inr (Or.inr ⟨Or.inl rfl, rfl⟩))))) ⟨fun t ht => by
      funext r
      refine bo t r (fun q => ?_)
      rcases q.2 with e | e <;> rw [e] at ht <;> exact absurd ht (by decide), fun r hr => ⟨bo 4 r (by omega), bo 15 r (by omega), bo 16 r (by omega)⟩, bo 13 0 (by omega), fun j _ => by rw [bo 29 0 (by omega)], by rw [bo 3 0 (by omega)], by rw [bo 8 0 (by omega)], by rw [bo 8 0 (by omega)]⟩
  have e13 : up3 I1 4 24 5 y 13 0 = I 13 0 := K1.2.2.1
  refine s_cbehind hn hx (by rw [e13]; exact u2) ?_ ?_ up3_y ?_ (fun I2 K2 => ?_)
  · rw [up3_n (by decide)]; exact b2
  · rw [up3_n (by decide)]; exact b3
  · rw [up3_n (by decide)]; exact b7
  have K12 := K1.tr K2
  rw [e13]
  refine (eM _ I2).mpr (twp c (twp c2 (twp c3 ?_)))
  have K3 : Keep I (up3 (up3 I2 8 0 0 0) 8 0 19 0) := Keep.up (Or.inr (Or.inr (Or.inl ⟨rfl, by decide, by decide⟩))) (Keep.up (Or.inr (Or.inr (Or.inl ⟨rfl, by decide, by decide⟩))) K12)
  have e29 : ∀ j, j < 6 → up3 (up3 I2 8 0 0 0) 8 0 19 0 29 0 j = I 13 0 j := fun j hj => by rw [K3.2.2.2.1 j hj]; exact u1 j hj
  refine s_mbehind hn hx ?_ up3_y (fun I3 K4 => ⟨?_, h.keep (K3.tr K4) ⟨rfl, rfl⟩⟩)
  · obtain ⟨r0, r1, r2, r3, r4, r5, r6, r7⟩ := u2
    unfold RuB
    rw [e29 0 (by decide), e29 1 (by decide), e29 2 (by decide), e29 3 (by decide), e29 4 (by decide), e29 5 (by decide)]
    exact ⟨r0, r1, r2, r3, r4, r5, r6, r7⟩
  · rw [bh_congr e29]
end BHD
