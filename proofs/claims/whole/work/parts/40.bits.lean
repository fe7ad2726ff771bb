section BITSX
variable {I : MI} {J : MJ}
theorem sh31 : ∀ i, i < 31 → ((nI i &&& 31).toBitVec.smod 32).toNat = i := by decide
theorem bit_i {s i : Nat} (hs : s < 2 ^ 31) (hi : i < 31) : ((nI s >>> (nI i &&& 31)) &&& 1) = nI (s / 2 ^ i % 2) := by
  rw [pk_shrN hs _ i (sh31 i hi), pk_andN (k := 1) (Nat.lt_of_le_of_lt (Nat.div_le_self _ _) (by omega)) (by decide)]
theorem bit_0 {s i : Nat} (hs : s < 2 ^ 31) (hi : i < 31) : ((nI s >>> (nI i &&& 31)) &&& 1) = 0 ↔ s / 2 ^ i % 2 = 0 := by
  rw [bit_i hs hi, show (0 : Int32) = nI 0 from rfl, nI_eq (by omega) (by omega)]
theorem hasB_i {s i : Nat} (hs : s < 2 ^ 31) (hi : i < 31) : hasB (nI s) i ↔ s / 2 ^ i % 2 = 1 := by
  unfold hasB
  rw [bit_0 hs hi]
  omega
def bcf (x0 : Int32) : Int32 :=
  let v1 := x0 - (((x0.toUInt32 >>> ((1 : Int32).toUInt32 &&& Int32.toUInt32 31)).toInt32) &&& 1431655765)
  let v2 := (v1 &&& 858993459) + (((v1.toUInt32 >>> ((2 : Int32).toUInt32 &&& Int32.toUInt32 31)).toInt32) &&& 858993459)
  let v3 := (v2 + ((v2.toUInt32 >>> ((4 : Int32).toUInt32 &&& Int32.toUInt32 31)).toInt32)) &&& 252645135
  let v4 := v3 + ((v3.toUInt32 >>> ((8 : Int32).toUInt32 &&& Int32.toUInt32 31)).toInt32)
  let v5 := v4 + ((v4.toUInt32 >>> ((16 : Int32).toUInt32 &&& Int32.toUInt32 31)).toInt32)
  v5 &&& 63
theorem q_bitCount {Q : Int32 → MI → MJ → Prop} (x : Int32) : wp_J6_bitCount_0f7a4 Q I J x ↔ Q (bcf x) I J := by
  unfold wp_J6_bitCount_0f7a4
  exact ⟨fun h => h _ rfl _ rfl _ rfl _ rfl _ rfl, fun h v1 e1 v2 e2 v3 e3 v4 e4 v5 e5 => by subst e1; subst e2; subst e3; subst e4; subst e5; exact h⟩
/-- how many ones, of the first j places -/
def pcn (s : Nat) : Nat → Nat
  | 0 => 0
  | j + 1 => pcn s j + s / 2 ^ j % 2
theorem bcf_pc : ∀ s, s < 1024 → bcf (nI s) = nI (pcn s 10) := by decide +kernel
theorem pcn_hi {s n : Nat} (h : s < 2 ^ n) : ∀ m, n ≤ m → pcn s m = pcn s n := by
  intro m
  induction m with
  | zero => intro h0; obtain rfl : n = 0 := by omega
            rfl
  | succ m ih =>
    intro hm
    by_cases e : n = m + 1
    · rw [e]
    · have hz : s / 2 ^ m = 0 := Nat.div_eq_of_lt (Nat.lt_of_lt_of_le h (Nat.pow_le_pow_right (by decide) (by omega)))
      show pcn s m + s / 2 ^ m % 2 = _
      rw [hz, ih (by omega)]
      rfl
theorem pcn_le (s n : Nat) : pcn s n ≤ n := by
  induction n with
  | zero => exact Nat.le_refl _
  | succ n ih =>
    show pcn s n + s / 2 ^ n % 2 ≤ n + 1
    omega
theorem s_ones {Q : Int32 → MI → MJ → Prop} {s : Nat} (hs : s < 2 ^ 31) (hQ : Q (nI (pcn s 8)) I J) : wp_X8_ones Q I J (nI s) := by
  have key : ∀ (k j : Nat), j + k = 8 → L_X8_ones_4 Q (k + 1) I J (nI s) (nI (pcn s j)) (nI j) := by
    intro k
    induction k with
    | zero =>
      intro j e
      obtain rfl : j = 8 := by omega
      exact onp (by decide) hQ
    | succ k ih =>
      intro j e
      refine onn (fun q => absurd ((nI_leI (a := 8) (by omega) (by omega)).mp q) (by omega)) (fun v hv => ?_)
      rw [bit_i hs (by omega), nI_add] at hv
      rw [hv, nI_1]
      exact ih (j + 1) (by omega)
  exact ⟨9, key 8 0 (by omega)⟩
/-- a set of at least two of n -/
def FOK (n : Nat) (x : Int32) : Prop := ∃ s, s < 2 ^ n ∧ x = nI s ∧ 2 ≤ pcn s n
theorem shl_n : ∀ n, n ≤ 8 → ((1 : Int32) <<< (nI n &&& 31)) - 1 = nI (2 ^ n - 1) := by decide
theorem p28 {n : Nat} (hn : n ≤ 8) : 2 ^ n ≤ 256 := Nat.le_trans (Nat.pow_le_pow_right (by decide) hn) (by decide)
theorem p20 (n : Nat) : 1 ≤ 2 ^ n := Nat.one_le_two_pow
theorem s_canRace {Q : Int32 → MI → MJ → Prop} {n : Nat} (hn : n ≤ 8) (en : I 6 0 1 = nI n) {g x : Int32} (h1 : 0 ≤ g ∧ g ≤ 2 → FOK n x → Q 1 I J) (h0 : ¬ ((0 ≤ g ∧ g ≤ 2) ∧ FOK n x) → Q 0 I J) : wp_X7_canRace Q I J g x := by
  unfold wp_X7_canRace
  simp only [q_within, q_bitCount, bi_0, decide_eq_false_iff_not]
  rw [en, shl_n n hn]
  refine two (fun c => ?_) (fun c => h0 (fun q => c q.1))
  have hp := p28 hn
  have hp1 := p20 n
  refine two (fun c2 => ?_) (fun c2 => h0 (fun q => c2 ?_))
  · obtain ⟨s, hs, rfl⟩ := nI_le_ex rfl c2.1 c2.2 (by omega)
    have hs' : s < 2 ^ n := by omega
    have e : bcf (nI s) = nI (pcn s n) := by rw [bcf_pc s (by omega), pcn_hi hs' 10 (by omega)]
    have hle := pcn_le s n
    rw [e]
    by_cases c3 : pcn s n < 2
    · refine onp ((nI_ltI (b := 2) (by omega) (by omega)).mpr c3) (h0 (fun q => ?_))
      obtain ⟨-, s', a1, a2, a3⟩ := q
      obtain rfl : s = s' := (nI_eq (by omega) (by omega)).mp a2
      omega
    · exact onn (fun q => c3 ((nI_ltI (b := 2) (by omega) (by omega)).mp q)) (h1 c ⟨s, hs', rfl, by omega⟩)
  · obtain ⟨-, s, a1, rfl, -⟩ := q
    exact ⟨nI_pos' (by omega), (nI_leI (by omega) (by omega)).mpr (by omega)⟩
theorem s_isField {Q : Int32 → MI → MJ → Prop} {n : Nat} (hn : n ≤ 8) (en : I 25 0 168 = nI n) {x : Int32} (h1 : FOK n x → Q 1 I J) (h0 : ¬ FOK n x → Q 0 I J) : wp_X8_isField Q I J x := by
  unfold wp_X8_isField
  simp only [q_in, bi_0, decide_eq_false_iff_not]
  rw [en, shl_n n hn]
  have hp := p28 hn
  have hp1 := p20 n
  refine two (fun c2 => ?_) (fun c2 => h0 (fun q => c2 ?_))
  · obtain ⟨s, hs, rfl⟩ := nI_le_ex rfl c2.1 c2.2 (by omega)
    have hs' : s < 2 ^ n := by omega
    refine s_ones (by omega) ?_
    rw [pcn_hi hs' 8 hn]
    have hle := pcn_le s n
    by_cases c3 : pcn s n ≤ 1
    · refine onp ((nI_leI (b := 1) (by omega) (by omega)).mpr c3) (h0 (fun q => ?_))
      obtain ⟨s', a1, a2, a3⟩ := q
      obtain rfl : s = s' := (nI_eq (by omega) (by omega)).mp a2
      omega
    · exact onn (fun q => c3 ((nI_leI (b := 1) (by omega) (by omega)).mp q)) (h1 ⟨s, hs', rfl, by omega⟩)
  · obtain ⟨s, a1, rfl, -⟩ := q
    exact ⟨nI_pos' (by omega), (nI_leI (by omega) (by omega)).mpr (by omega)⟩
/-- the least of f over the set s, of the first j, a before all -/
def lmn (f : Nat → Int32) (s : Nat) (a : Int32) : Nat → Int32
  | 0 => a
  | j + 1 => if s / 2 ^ j % 2 = 1 then (if f j < lmn f s a j then f j else lmn f s a j) else lmn f s a j
theorem lmn_two {f : Nat → Int32} {s n : Nat} (hf : ∀ j, j < n → f j ≤ 200) : ∀ j, j ≤ n → (pcn s j = 0 ∧ lmn f s 200 j = 200 ∧ lmn f s 999 j = 999) ∨ (lmn f s 200 j = lmn f s 999 j ∧ lmn f s 200 j ≤ 200) := by
  intro j
  induction j with
  | zero => intro _; exact Or.inl ⟨rfl, rfl, rfl⟩
  | succ j ih =>
    intro hj
    have hfj := hf j (by omega)
    have e2 : ∀ a, lmn f s a (j + 1) = if s / 2 ^ j % 2 = 1 then (if f j < lmn f s a j then f j else lmn f s a j) else lmn f s a j := fun _ => rfl
    have ep : pcn s (j + 1) = pcn s j + s / 2 ^ j % 2 := rfl
    rw [e2, e2, ep]
    by_cases c : s / 2 ^ j % 2 = 1
    · rw [if_pos c, if_pos c]
      right
      rcases ih (by omega) with ⟨-, a1, a2⟩ | ⟨a1, a2⟩
      · rw [a1, a2, if_pos (show f j < 999 from Int32.lt_of_le_of_lt hfj (by decide))]
        by_cases c2 : f j < 200
        · rw [if_pos c2]; exact ⟨rfl, hfj⟩
        · rw [if_neg c2]; exact ⟨Int32.le_antisymm (Int32.not_lt.mp c2) hfj, Int32.le_refl _⟩
      · rw [← a1]
        by_cases c2 : f j < lmn f s 200 j
        · rw [if_pos c2]; exact ⟨rfl, hfj⟩
        · rw [if_neg c2]; exact ⟨rfl, a2⟩
    · rw [if_neg c, if_neg c, show s / 2 ^ j % 2 = 0 by omega]
      exact ih (by omega)
theorem s_leastMark {Q : Int32 → MI → MJ → Prop} {n s : Nat} (hn : n ≤ 8) (en : I 6 0 1 = nI n) (hs : s < 2 ^ 31) (hQ : Q (lmn (fun j => I 4 j 3) s 200 n) I J) : wp_X7_leastMark Q I J (nI s) := by
  have key : ∀ (k j : Nat), j + k = n → L_X7_leastMark_6 Q (k + 1) I J (nI s) (lmn (fun j => I 4 j 3) s 200 j) (nI j) := by
    intro k
    induction k with
    | zero =>
      intro j e
      obtain rfl : j = n := by omega
      exact onp (by rw [en]; exact nI_le (Nat.le_refl _) (by omega)) hQ
    | succ k ih =>
      intro j e
      refine onn (by rw [en]; exact nI_ge (by omega) (by omega)) ?_
      have e2 : lmn (fun j => I 4 j 3) s 200 (j + 1) = if s / 2 ^ j % 2 = 1 then (if I 4 j 3 < lmn (fun j => I 4 j 3) s 200 j then I 4 j 3 else lmn (fun j => I 4 j 3) s 200 j) else lmn (fun j => I 4 j 3) s 200 j := rfl
      have hi := ih (j + 1) (by omega)
      rw [e2] at hi
      simp only [q_isOf, q_min, bi_0, decide_eq_false_iff_not]
      rw [bit_0 hs (by omega), nI_1, nI_clamp (by omega)]
      simp only [Nat.mul_zero, Nat.zero_add]
      by_cases c : s / 2 ^ j % 2 = 1
      · rw [if_pos c] at hi
        exact twp (by omega) ⟨vp_in_nI (by omega) (by decide), hi⟩
      · rw [if_neg c] at hi
        exact twn (by omega) hi
  exact ⟨n + 1, key n 0 (by omega)⟩
theorem s_weighs {Q : MI → MJ → Prop} {n s : Nat} (hn : n ≤ 8) (en : I 25 0 168 = nI n) (hs : s < 2 ^ 31) (hQ : ∀ I', (∀ j, j < n → I' 36 0 j = I 25 0 (21 * j + 1) - lmn (fun j => I 25 0 (21 * j + 1)) s 999 n) → (∀ t, t ≠ 36 → I' t = I t) → Q I' J) : wp_X8_weighs Q I J (nI s) := by
  have key2 : ∀ (k j : Nat) (I' : MI), j + k = n → (∀ i, i < j → I' 36 0 i = I 25 0 (21 * i + 1) - lmn (fun j => I 25 0 (21 * j + 1)) s 999 n) → (∀ t, t ≠ 36 → I' t = I t) → L_X8_weighs_60 Q (k + 1) I' J (lmn (fun j => I 25 0 (21 * j + 1)) s 999 n) (nI j) := by
    intro k
    induction k with
    | zero =>
      intro j I' e h1 h2
      obtain rfl : j = n := by omega
      exact onp (by rw [h2 25 (by decide), en]; exact nI_le (Nat.le_refl _) (by omega)) (hQ I' h1 h2)
    | succ k ih =>
      intro j I' e h1 h2
      have ei : 21 * nI j + 1 = nI (21 * j + 1) := m21 j 1
      refine onn (by rw [h2 25 (by decide), en]; exact nI_ge (by omega) (by omega)) ⟨by rw [ei]; exact vp_in_nI (by omega) (by decide), vp_in_nI (by omega) (by decide), ?_⟩
      rw [ei, nI_clamp (by omega), nI_clamp (by omega), nI_1, h2 25 (by decide)]
      refine ih (j + 1) _ (by omega) (fun i hi => ?_) (fun t ht => by rw [up3_t ht]; exact h2 t ht)
      by_cases e2 : i = j
      · rw [e2, up3_y]
      · rw [up3_n (by omega)]; exact h1 i (by omega)
  have key : ∀ (k j : Nat), j + k = n → L_X8_weighs_6 Q (k + 1) I J (nI s) (lmn (fun j => I 25 0 (21 * j + 1)) s 999 j) (nI j) := by
    intro k
    induction k with
    | zero =>
      intro j e
      obtain rfl : j = n := by omega
      exact onp (by rw [en]; exact nI_le (Nat.le_refl _) (by omega)) ⟨j + 1, key2 j 0 I (by omega) (fun i hi => absurd hi (by omega)) (fun _ _ => rfl)⟩
    | succ k ih =>
      intro j e
      have ei : 21 * nI j + 1 = nI (21 * j + 1) := m21 j 1
      refine onn (by rw [en]; exact nI_ge (by omega) (by omega)) ⟨by rw [ei]; exact vp_in_nI (by omega) (by decide), fun v hv => ?_⟩
      rw [ei, nI_clamp (by omega)] at hv
      have e2 : lmn (fun j => I 25 0 (21 * j + 1)) s 999 (j + 1) = if s / 2 ^ j % 2 = 1 then (if I 25 0 (21 * j + 1) < lmn (fun j => I 25 0 (21 * j + 1)) s 999 j then I 25 0 (21 * j + 1) else lmn (fun j => I 25 0 (21 * j + 1)) s 999 j) else lmn (fun j => I 25 0 (21 * j + 1)) s 999 j := rfl
      have hi := ih (j + 1) (by omega)
      rw [e2, ← hv] at hi
      rw [q_has]
      simp only [bi_0, decide_eq_false_iff_not]
      rw [bit_0 hs (by omega), nI_1]
      by_cases c : s / 2 ^ j % 2 = 1
      · rw [if_pos c] at hi
        refine twp (by omega) ?_
        by_cases c2 : v < lmn (fun j => I 25 0 (21 * j + 1)) s 999 j
        · rw [if_pos c2] at hi
          exact onn (Int32.not_le.mpr c2) hi
        · rw [if_neg c2] at hi
          exact onp (Int32.not_lt.mp c2) hi
      · rw [if_neg c] at hi
        exact twn (by omega) hi
  exact ⟨n + 1, key n 0 (by omega)⟩
theorem lmn_congr {f g : Nat → Int32} {s : Nat} {a : Int32} : ∀ n, (∀ j, j < n → f j = g j) → lmn f s a n = lmn g s a n := by
  intro n
  induction n with
  | zero => intro _; rfl
  | succ n ih =>
    intro h
    show (if s / 2 ^ n % 2 = 1 then (if f n < lmn f s a n then f n else lmn f s a n) else lmn f s a n) = (if s / 2 ^ n % 2 = 1 then (if g n < lmn g s a n then g n else lmn g s a n) else lmn g s a n)
    rw [ih (fun j hj => h j (by omega)), h n (by omega)]
/-- the least mark is one for both sides -/
theorem Inv.least (h : Inv I J) {n s : Nat} (hn : n ≤ 8) (en : I 6 0 1 = nI n) (hs : s < 2 ^ n) (hp : 2 ≤ pcn s n) : lmn (fun j => I 25 0 (21 * j + 1)) s 999 n = lmn (fun j => I 4 j 3) s 200 n ∧ n ≤ 8 ∧ I 25 0 168 = nI n ∧ ∀ j, j < n → I 25 0 (21 * j + 1) = I 4 j 3 := by
  obtain ⟨n', y1, y2, y3, y4, y5, y6⟩ := id h.1
  obtain rfl : n' = n := (nI_eq (by omega) (by omega)).mp (y2.symm.trans en)
  have e : ∀ j, j < n' → I 25 0 (21 * j + 1) = I 4 j 3 := fun j hj => by
    obtain ⟨⟨-, a2, -⟩, -⟩ := y6 j hj
    simp only [Nat.mul_zero, Nat.zero_add] at a2
    exact a2
  have hf : ∀ j, j < n' → I 4 j 3 ≤ 200 := fun j hj => by
    obtain ⟨-, -, -, -, d2, -⟩ := y6 j hj
    simp only [Nat.mul_zero, Nat.zero_add] at d2
    exact ((bd_le (by decide) (by decide) (by decide) (by decide)).mp d2).2
  refine ⟨?_, y1, y3, e⟩
  rw [lmn_congr n' e]
  rcases lmn_two (f := fun j => I 4 j 3) (s := s) (n := n') hf n' (Nat.le_refl _) with ⟨q, -, -⟩ | ⟨q, -⟩
  · omega
  · exact q.symm
theorem pr_weight (h : Inv I J) (x y : Int32) : wp_X7_weight (fun r I1 J1 => wp_X8_weight (fun r2 I2 J2 => r = r2 ∧ Inv I2 J2) I1 J1 x y) I J x y := by
  obtain ⟨n, hn, e1, e3, -, -, -⟩ := id h.1
  have hT := h.thrown
  have e2 : up3 I 8 0 0 0 25 0 168 = nI n := by rw [up3_t (by decide)]; exact e3
  have bad : ∀ r : Int32, r = -1 → (¬ FOK n y ∨ ¬ (0 ≤ x ∧ x < nI n) ∨ ((y >>> (x &&& 31)) &&& 1) = 0) → wp_X8_weight (fun r2 I2 J2 => r = r2 ∧ Inv I2 J2) I J x y := by
    intro r hr hb
    unfold wp_X8_weight
    refine s_isField hn e2 (fun c => onn (by decide) ?_) (fun c => onp rfl ⟨hr, hT⟩)
    simp only [q_run hn e2, q_has, bi_0, decide_eq_false_iff_not]
    refine two (fun c2 => ?_) (fun c2 => ⟨hr, hT⟩)
    refine twn (fun q => ?_) ⟨hr, hT⟩
    rcases hb with q1 | q1 | q1
    · exact q1 c
    · exact q1 c2
    · exact q q1
  unfold wp_X7_weight
  refine s_canRace hn e1 (fun _ c => onn (by decide) ?_) (fun c => onp rfl (bad _ rfl (Or.inl (fun q => c ⟨by decide, q⟩))))
  simp only [q_isHere, e1, q_isOf, bi_0, decide_eq_false_iff_not]
  refine two (fun c2 => ?_) (fun c2 => bad _ rfl (Or.inr (Or.inl c2)))
  refine two (fun c3 => ?_) (fun c3 => bad _ rfl (Or.inr (Or.inr (Classical.not_not.mp c3))))
  obtain ⟨k, hk, rfl⟩ := here_ex hn c2
  obtain ⟨s, hs, rfl, hp⟩ := id c
  obtain ⟨el, -, -, em⟩ := h.least hn e1 hs hp
  have hp8 := p28 hn
  have hv : vp_in (nI k) 8 := vp_in_nI (by omega) (by decide)
  refine ⟨hv, s_leastMark hn e1 (by omega) ?_⟩
  unfold wp_X8_weight
  refine s_isField hn e2 (fun _ => onn (by decide) ?_) (fun q => absurd c q)
  simp only [q_run hn e2, q_has, bi_0, decide_eq_false_iff_not]
  refine twp c2 (twp c3 (s_weighs hn e2 (by omega) (fun I2 g1 g2 => ⟨hv, ?_, ?_⟩)))
  · rw [nI_clamp (by omega), g1 k hk, up3_t (by decide), em k hk, el]
    simp only [Nat.mul_zero, Nat.zero_add]
  · refine hT.keep ⟨fun t ht => g2 t (fun e => by rw [e] at ht; exact absurd ht (by decide)), fun r _ => ⟨by rw [g2 4 (by decide)], by rw [g2 15 (by decide)], by rw [g2 16 (by decide)]⟩, by rw [g2 13 (by decide)], fun j _ => by rw [g2 29 (by decide)], by rw [g2 3 (by decide)], by rw [g2 8 (by decide)], by rw [g2 8 (by decide)]⟩ ⟨rfl, rfl⟩
end BITSX
