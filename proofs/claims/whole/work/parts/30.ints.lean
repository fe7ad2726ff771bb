/-! whole numbers behind Int32 -/
def iz (a : Int) : Int32 := Int32.ofInt a
theorem iz_of (x : Int32) : iz x.toInt = x := Int32.ofInt_toInt x
theorem iz_ex (x : Int32) : ∃ a : Int, x = iz a ∧ -2147483648 ≤ a ∧ a ≤ 2147483647 := ⟨x.toInt, (iz_of x).symm, by have := Int32.le_toInt x; omega, by have := Int32.toInt_lt x; omega⟩
theorem iz_toInt {a : Int} (h1 : -2147483648 ≤ a) (h2 : a ≤ 2147483647) : (iz a).toInt = a := Int32.toInt_ofInt_of_le (by omega) (by omega)
theorem iz_add (a b : Int) : iz a + iz b = iz (a + b) := (Int32.ofInt_add a b).symm
theorem iz_sub (a b : Int) : iz a - iz b = iz (a - b) := (Int32.ofInt_sub a b).symm
theorem iz_mul (a b : Int) : iz a * iz b = iz (a * b) := (Int32.ofInt_mul a b).symm
theorem iz_neg (a : Int) : -iz a = iz (-a) := (Int32.ofInt_neg a).symm
theorem iz_nI (n : Nat) : nI n = iz (n : Int) := (Int32.ofInt_eq_ofNat (n := n)).symm
theorem iz_le {a b : Int} (h1 : -2147483648 ≤ a) (h2 : a ≤ 2147483647) (h3 : -2147483648 ≤ b) (h4 : b ≤ 2147483647) : iz a ≤ iz b ↔ a ≤ b := by rw [Int32.le_iff_toInt_le, iz_toInt h1 h2, iz_toInt h3 h4]
theorem iz_lt {a b : Int} (h1 : -2147483648 ≤ a) (h2 : a ≤ 2147483647) (h3 : -2147483648 ≤ b) (h4 : b ≤ 2147483647) : iz a < iz b ↔ a < b := by rw [Int32.lt_iff_toInt_lt, iz_toInt h1 h2, iz_toInt h3 h4]
theorem iz_eq {a b : Int} (h1 : -2147483648 ≤ a) (h2 : a ≤ 2147483647) (h3 : -2147483648 ≤ b) (h4 : b ≤ 2147483647) : iz a = iz b ↔ a = b := by rw [← Int32.toInt_inj, iz_toInt h1 h2, iz_toInt h3 h4]
theorem iz_cl {a : Int} (h1 : -2147483648 ≤ a) (h2 : a ≤ 2147483647) : (iz a).toNatClampNeg = a.toNat := by rw [← Int32.toNat_toInt, iz_toInt h1 h2]
theorem iz_in {a : Int} {n : Nat} (h1 : -2147483648 ≤ a) (h2 : a ≤ 2147483647) : vp_in (iz a) n ↔ 0 ≤ a ∧ a < n := by rw [vp_in_iff, iz_toInt h1 h2]
theorem iz_inj {a b : Int} (h : a = b) : iz a = iz b := by rw [h]
theorem iz_div {a b : Int} (h1 : -2147483648 < a) (h2 : a ≤ 2147483647) (h3 : -2147483648 ≤ b) (h4 : b ≤ 2147483647) : iz a / iz b = iz (a.tdiv b) := by
  apply Int32.toInt_inj.mp
  have hm : iz a ≠ Int32.minValue := by
    intro h
    have e := congrArg Int32.toInt h
    rw [iz_toInt (by omega) h2] at e
    have : Int32.minValue.toInt = -2147483648 := by decide
    omega
  rw [Int32.toInt_div_of_ne_left _ _ hm, iz_toInt (by omega) h2, iz_toInt h3 h4]
  have hb : (a.tdiv b).natAbs ≤ a.natAbs := by rw [Int.natAbs_tdiv]; exact Nat.div_le_self _ _
  rw [iz_toInt (by omega) (by omega)]
theorem zl0 : (0 : Int32) = iz 0 := rfl
theorem zl1 : (1 : Int32) = iz 1 := rfl
theorem zl2 : (2 : Int32) = iz 2 := rfl
theorem zl3 : (3 : Int32) = iz 3 := rfl
theorem zl4 : (4 : Int32) = iz 4 := rfl
theorem zl5 : (5 : Int32) = iz 5 := rfl
theorem zl6 : (6 : Int32) = iz 6 := rfl
theorem zl7 : (7 : Int32) = iz 7 := rfl
theorem zl8 : (8 : Int32) = iz 8 := rfl
theorem zl9 : (9 : Int32) = iz 9 := rfl
theorem zl10 : (10 : Int32) = iz 10 := rfl
theorem zl11 : (11 : Int32) = iz 11 := rfl
theorem zl12 : (12 : Int32) = iz 12 := rfl
theorem zl20 : (20 : Int32) = iz 20 := rfl
theorem zl21 : (21 : Int32) = iz 21 := rfl
theorem zl24 : (24 : Int32) = iz 24 := rfl
theorem zl40 : (40 : Int32) = iz 40 := rfl
theorem zl50 : (50 : Int32) = iz 50 := rfl
theorem zl171 : (171 : Int32) = iz 171 := rfl
theorem zl200 : (200 : Int32) = iz 200 := rfl
theorem zl999 : (999 : Int32) = iz 999 := rfl
theorem zl1000 : (1000 : Int32) = iz 1000 := rfl
/-- a truth as the machine has it -/
def bi (p : Bool) : Int32 := if p then 1 else 0
theorem bi_t : bi true = 1 := rfl
theorem bi_f : bi false = 0 := rfl
theorem bi_0 (p : Bool) : bi p = 0 ↔ p = false := by cases p <;> decide
theorem bi_1 (p : Bool) : bi p = 1 ↔ p = true := by cases p <;> decide
theorem bi_01 (p : Bool) : bi p = 0 ∨ bi p = 1 := by cases p <;> decide
section WQ
variable {Q : Int32 → MI → MJ → Prop} {I : MI} {J : MJ}
theorem q_within (x a b : Int32) : wp_X7_within Q I J x a b ↔ Q (bi (decide (a ≤ x ∧ x ≤ b))) I J := by
  unfold wp_X7_within
  by_cases h1 : x < a <;> by_cases h2 : b < x <;> simp [h1, h2, bi, ← Int32.not_lt]
theorem q_in (x a b : Int32) : wp_X8_in Q I J x a b ↔ Q (bi (decide (a ≤ x ∧ x ≤ b))) I J := by
  unfold wp_X8_in
  by_cases h1 : x < a <;> by_cases h2 : b < x <;> simp [h1, h2, bi, ← Int32.not_lt]
theorem q_isHere (x : Int32) : wp_X7_isHere Q I J x ↔ Q (bi (decide (0 ≤ x ∧ x < I 6 0 1))) I J := by
  unfold wp_X7_isHere
  by_cases h1 : x < 0 <;> by_cases h2 : I 6 0 1 ≤ x <;> simp [h1, h2, bi, ← Int32.not_lt, ← Int32.not_le]
theorem q_isRunner (x : Int32) : wp_X8_isRunner Q I J x ↔ Q (bi (decide (0 ≤ x ∧ x ≤ I 25 0 168 - 1))) I J := by
  unfold wp_X8_isRunner
  rw [q_in]
  exact ⟨fun h => h.2, fun h => ⟨bi_01 _, h⟩⟩
theorem q_isOf (x y : Int32) : wp_X7_isOf Q I J x y ↔ Q (bi (decide (¬ ((x >>> (y &&& 31)) &&& 1) = 0))) I J := by
  unfold wp_X7_isOf
  by_cases h1 : ((x >>> (y &&& 31)) &&& 1) = 0 <;> simp [h1, bi]
theorem and1 (x : Int32) : x &&& 1 = 0 ∨ x &&& 1 = 1 := by
  obtain ⟨j, hj, e⟩ := pk_andE x (m := 1) 1 (by decide)
  rw [e]
  rcases (show j = 0 ∨ j = 1 by omega) with rfl | rfl
  · exact Or.inl rfl
  · exact Or.inr rfl
theorem q_has (x y : Int32) : wp_X8_has Q I J x y ↔ Q (bi (decide (¬ ((x >>> (y &&& 31)) &&& 1) = 0))) I J := by
  unfold wp_X8_has
  rcases and1 (x >>> (y &&& 31)) with h1 | h1 <;> simp [h1, bi]
theorem q_clamp (x a b : Int32) : wp_X7_clamp Q I J x a b ↔ Q (if x < a then a else if b < x then b else x) I J := by
  unfold wp_X7_clamp
  by_cases h1 : x < a <;> by_cases h2 : b < x <;> simp [h1, h2, ← Int32.not_lt]
theorem q_mwithin (x a b : Int32) : wp_X8_within Q I J x a b ↔ Q (if x < a then a else if b < x then b else x) I J := by
  unfold wp_X8_within
  by_cases h1 : x < a <;> by_cases h2 : b < x <;> simp [h1, h2, ← Int32.not_lt]
theorem q_min (x y : Int32) : wp_J9_min_7cf53 Q I J x y ↔ Q (if y < x then y else x) I J := by
  unfold wp_J9_min_7cf53
  by_cases h1 : y < x <;> simp [h1]
theorem q_max (x y : Int32) : wp_J9_max_7cf53 Q I J x y ↔ Q (if x < y then y else x) I J := by
  unfold wp_J9_max_7cf53
  by_cases h1 : x < y <;> simp [h1]
end WQ
