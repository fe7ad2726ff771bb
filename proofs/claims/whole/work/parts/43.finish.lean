section FIN
variable {I : MI} {J : MJ}
def clI (x a b : Int32) : Int32 := if x < a then a else if b < x then b else x
/-- the mark that a rule moves to an aim -/
def mvA (u : Nat → Int32) (m aim : Int32) : Int32 := clI (m + clI ((u 2 * (aim - m)) / u 3) (-(u 4)) (u 4)) 0 200
theorem clI_bd (x : Int32) : bd (clI x 0 200) 0 200 := by
  rw [bd_le (by decide) (by decide) (by decide) (by decide)]
  show 0 ≤ clI x 0 200 ∧ clI x 0 200 ≤ 200
  unfold clI
  by_cases h1 : x < 0
  · rw [if_pos h1]; decide
  · rw [if_neg h1]
    by_cases h2 : 200 < x
    · rw [if_pos h2]; decide
    · rw [if_neg h2]; exact ⟨Int32.not_lt.mp h1, Int32.not_lt.mp h2⟩
theorem msb_iff (x : Int32) : 0 ≤ x ↔ x.toBitVec.msb = false := by
  rw [Int32.le_iff_toInt_le, BitVec.msb_eq_toInt]
  show (0 : Int) ≤ x.toInt ↔ decide (x.toInt < 0) = false
  rw [decide_eq_false_iff_not]
  omega
theorem xor_iff (x y : Int32) (hy : 0 ≤ y) : 0 ≤ x ^^^ y ↔ 0 ≤ x := by
  rw [msb_iff] at hy
  rw [msb_iff, msb_iff, Int32.toBitVec_xor, BitVec.msb_xor, hy, Bool.xor_false]
/-- what both floors come to -/
theorem fl_core {S b : Int} (hb : 0 < b) : S.tdiv b = S / b + (if 0 ≤ S ∨ S % b = 0 then 0 else 1) := by
  rw [Int.tdiv_eq_ediv]
  by_cases h : 0 ≤ S ∨ b ∣ S
  · rw [if_pos h, if_pos (h.imp id Int.emod_eq_zero_of_dvd)]
  · rw [if_neg h, if_neg (fun q => h (q.imp id Int.dvd_of_emod_eq_zero)), Int.sign_eq_one_of_pos hb]
theorem fl_rng {S : Int} {b : Nat} (h1 : -1000000 ≤ S) (h2 : S ≤ 1000000) (hb : 1 ≤ b) : -1000000 ≤ S / (b : Int) ∧ S / (b : Int) ≤ 1000000 := by
  constructor
  · exact Int.le_ediv_of_mul_le (by omega) (by have : (-1000000 : Int) * b ≤ -1000000 * 1 := Int.mul_le_mul_of_nonpos_left (by omega) (by omega); omega)
  · by_cases h : 0 ≤ S
    · exact Int.le_trans (Int.ediv_le_self _ h) h2
    · have : S / (b : Int) < 0 := Int.ediv_neg_of_neg_of_pos (by omega) (by omega)
      omega
theorem s_floorDiv {Q : Int32 → MI → MJ → Prop} {S : Int} {b : Nat} (h1 : -1000000 ≤ S) (h2 : S ≤ 1000000) (hb : 1 ≤ b) (hb2 : b ≤ 12) (hQ : Q (iz (S / (b : Int))) I J) : wp_J9_floorDiv_7cf53 Q I J (iz S) (nI b) := by
  have hr := fl_rng h1 h2 hb
  have hc := fl_core (S := S) (b := (b : Int)) (by omega)
  have e1 : iz S / nI b = iz (S.tdiv b) := by rw [iz_nI, iz_div (by omega) (by omega) (by omega) (by omega)]
  have hm : S % (b : Int) = S - b * (S / b) := Int.emod_def S b
  have hm0 := Int.emod_nonneg S (b := (b : Int)) (by omega)
  have hm1 := Int.emod_lt_of_pos S (b := (b : Int)) (by omega)
  unfold wp_J9_floorDiv_7cf53
  refine ⟨nI_ne0 (by omega) (by omega), ?_⟩
  rw [xor_iff _ _ (nI_pos' (by omega)), e1, zl0, iz_le (by omega) (by omega) (by omega) (by omega)]
  by_cases c : 0 ≤ S
  · rw [if_pos (Or.inl c), Int.add_zero] at hc
    rw [hc]
    exact onp c hQ
  · refine onn c ?_
    rw [iz_nI, iz_mul]
    by_cases c2 : S % (b : Int) = 0
    · rw [if_pos (Or.inr c2), Int.add_zero] at hc
      rw [hc]
      refine onp ?_ hQ
      rw [Int.mul_comm]
      exact iz_inj (by omega)
    · rw [if_neg (by omega)] at hc
      have e3 : S.tdiv b * b = S - S % b + b := by rw [hc, Int.add_mul, Int.mul_comm (S / b) b]; omega
      rw [e3, hc]
      refine onn ?_ ?_
      · rw [iz_eq (by omega) (by omega) (by omega) (by omega)]; omega
      · rw [zl1, iz_sub, show S / (b : Int) + 1 - 1 = S / b by omega]; exact hQ
theorem s_mfloor {Q : Int32 → MI → MJ → Prop} {S : Int} {b : Nat} (h1 : -1000000 ≤ S) (h2 : S ≤ 1000000) (hb : 1 ≤ b) (hb2 : b ≤ 12) (hQ : Q (iz (S / (b : Int))) I J) : wp_X8_floor Q I J (iz S) (nI b) := by
  have hr := fl_rng h1 h2 hb
  have hc := fl_core (S := S) (b := (b : Int)) (by omega)
  have e1 : iz S / nI b = iz (S.tdiv b) := by rw [iz_nI, iz_div (by omega) (by omega) (by omega) (by omega)]
  have hm : S % (b : Int) = S - b * (S / b) := Int.emod_def S b
  have hm0 := Int.emod_nonneg S (b := (b : Int)) (by omega)
  have hm1 := Int.emod_lt_of_pos S (b := (b : Int)) (by omega)
  unfold wp_X8_floor
  have hz : ¬ nI b = 0 := nI_ne0 (by omega) (by omega)
  refine ⟨hz, hz, ?_⟩
  rw [e1, iz_nI, iz_mul, iz_sub, zl0]
  by_cases c : 0 ≤ S ∨ S % (b : Int) = 0
  · rw [if_pos c, Int.add_zero] at hc
    have e3 : S - S.tdiv b * b = S % b := by rw [hc, Int.mul_comm (S / b) b]; omega
    rw [e3, hc, iz_le (by omega) (by omega) (by omega) (by omega)]
    exact onp hm0 hQ
  · rw [if_neg c] at hc
    have e3 : S - S.tdiv b * b = S % b - b := by rw [hc, Int.add_mul, Int.mul_comm (S / b) b]; omega
    rw [e3, hc, iz_le (by omega) (by omega) (by omega) (by omega)]
    refine onn (by omega) ?_
    rw [zl1, iz_sub, show S / (b : Int) + 1 - 1 = S / b by omega]
    exact hQ
theorem s_moved2 {Q : Int32 → MI → MJ → Prop} {r0 : Nat} {m : Int32} {S : Int} {b : Nat} (h1 : -1000000 ≤ S) (h2 : S ≤ 1000000) (hb : 1 ≤ b) (hb2 : b ≤ 12) (h3 : bd (I 13 r0 3) 1 20) (hQ : Q (mvA (I 13 r0) m (iz (S / (b : Int)))) I J) : wp_X2_moved Q I J r0 m (iz S) (nI b) := by
  unfold wp_X2_moved
  have h3' := (bd_le (by decide) (by decide) (by decide) (by decide)).mp h3
  refine onn (fun q => absurd ((nI_ltI (b := 1) (by omega) (by omega)).mp q) (by omega)) (onp h3'.1 (s_floorDiv h1 h2 hb hb2 ⟨?_, fun v hv => ?_⟩))
  · intro q
    rw [q] at h3'
    exact absurd h3'.1 (by decide)
  · rw [q_clamp, q_clamp, hv]
    exact hQ
/-- the figures as whole numbers -/
def Fg (f : Nat → Int32) (j : Nat) : Int := (f j).toInt
theorem s_better {Q : Int32 → MI → MJ → Prop} {r k n : Nat} (hk : k < n) (hn : n ≤ 12) (hQ : Q (nI (rk (Fg (I 16 r)) n k)) I J) : wp_X4_betterThan Q I J r (nI k) (nI n) := by
  have key : ∀ (d j : Nat), j + d = n → L_X4_betterThan_5 Q (d + 1) I J r (nI k) (nI n) (nI (cn (fun o => pre (Fg (I 16 r)) o k) j)) (nI j) := by
    intro d
    induction d with
    | zero =>
      intro j e
      obtain rfl : j = n := by omega
      exact onp (nI_le (Nat.le_refl _) (by omega)) hQ
    | succ d ih =>
      intro j e
      have hv : vp_in (nI j) 12 := vp_in_nI (by omega) (by decide)
      have hvk : vp_in (nI k) 12 := vp_in_nI (by omega) (by decide)
      refine onn (nI_ge (by omega) (by omega)) ⟨hv, hvk, ?_⟩
      rw [nI_clamp (by omega), nI_clamp (by omega), nI_1, nI_1]
      have hi := ih (j + 1) (by omega)
      have es : cn (fun o => pre (Fg (I 16 r)) o k) (j + 1) = cn (fun o => pre (Fg (I 16 r)) o k) j + (if pre (Fg (I 16 r)) j k = true then 1 else 0) := rfl
      rw [es] at hi
      by_cases c1 : I 16 r k < I 16 r j
      · rw [if_pos (pre_iff.mpr (Or.inl (Int32.lt_iff_toInt_lt.mp c1)))] at hi
        exact onp c1 hi
      refine onn c1 ⟨hv, hvk, ?_⟩
      have c1' : ¬ Fg (I 16 r) k < Fg (I 16 r) j := fun q => c1 (Int32.lt_iff_toInt_lt.mpr q)
      by_cases c2 : I 16 r j = I 16 r k
      · have c2' : Fg (I 16 r) j = Fg (I 16 r) k := congrArg Int32.toInt c2
        refine onp c2 ?_
        by_cases c3 : k ≤ j
        · rw [if_neg (fun q => by rw [pre_iff] at q; omega), Nat.add_zero] at hi
          exact onp (nI_le c3 (by omega)) hi
        · rw [if_pos (pre_iff.mpr (Or.inr ⟨c2', by omega⟩))] at hi
          exact onn (nI_ge (by omega) (by omega)) hi
      · have c2' : ¬ Fg (I 16 r) j = Fg (I 16 r) k := fun q => c2 (Int32.toInt_inj.mp q)
        rw [if_neg (fun q => by rw [pre_iff] at q; omega), Nat.add_zero] at hi
        exact onn c2 hi
  exact ⟨n + 1, key n 0 (by omega)⟩
theorem toInt_min (x y : Int32) : (if y < x then y else x) = iz (min x.toInt y.toInt) := by
  by_cases h : y < x
  · have := Int32.lt_iff_toInt_lt.mp h
    rw [if_pos h, show min x.toInt y.toInt = y.toInt by omega, iz_of]
  · have : ¬ y.toInt < x.toInt := fun q => h (Int32.lt_iff_toInt_lt.mpr q)
    rw [if_neg h, show min x.toInt y.toInt = x.toInt by omega, iz_of]
theorem s_bestSum {Q : Int32 → MI → MJ → Prop} {r n b : Nat} {c : Int32} (hn : n ≤ 12) (hb : b ≤ 12) (hQ : Q (iz (topS (Fg (I 16 r)) (fun k => min (Fg (I 16 r) k) c.toInt) n b)) I J) : wp_X4_bestSum Q I J r (nI n) (nI b) c := by
  have key : ∀ (d j : Nat), j + d = n → L_X4_bestSum_6 Q (d + 1) I J r (nI n) (nI b) c (iz (sm (fun k => decide (rk (Fg (I 16 r)) n k < b)) (fun k => min (Fg (I 16 r) k) c.toInt) j)) (nI j) := by
    intro d
    induction d with
    | zero =>
      intro j e
      obtain rfl : j = n := by omega
      exact onp (nI_le (Nat.le_refl _) (by omega)) hQ
    | succ d ih =>
      intro j e
      have hi := ih (j + 1) (by omega)
      have es : sm (fun k => decide (rk (Fg (I 16 r)) n k < b)) (fun k => min (Fg (I 16 r) k) c.toInt) (j + 1) = sm (fun k => decide (rk (Fg (I 16 r)) n k < b)) (fun k => min (Fg (I 16 r) k) c.toInt) j + (if decide (rk (Fg (I 16 r)) n j < b) = true then min (Fg (I 16 r) j) c.toInt else 0) := rfl
      rw [es] at hi
      refine onn (nI_ge (by omega) (by omega)) (s_better (by omega) hn ?_)
      have hrk := rk_b (F := Fg (I 16 r)) (n := n) (k := j) (by omega)
      rw [nI_1]
      by_cases c1 : rk (Fg (I 16 r)) n j < b
      · rw [if_pos (decide_eq_true c1)] at hi
        refine onn (nI_ge c1 (by omega)) ⟨vp_in_nI (by omega) (by decide), ?_⟩
        rw [q_min, nI_clamp (by omega), toInt_min, iz_add]
        exact hi
      · rw [if_neg (fun q => c1 (of_decide_eq_true q)), Int.add_zero] at hi
        exact onp (nI_le (by omega) (by omega)) hi
  exact ⟨n + 1, key n 0 (by omega)⟩
/-- how many of the last, how many of the best -/
def lst (u : Nat → Int32) (q : Nat) : Nat := min (u 1).toNatClampNeg q
def bsf (u : Nat → Int32) (q : Nat) : Nat := min (u 0).toNatClampNeg (lst u q)
def smF (u : Nat → Int32) (m : Int32) (F : Nat → Int) (q : Nat) : Int := topS F (fun k => min (F k) (m + u 5).toInt) (lst u q) (bsf u q)
/-- the mark behind a race: u the rule, m the mark, F the figures (the new one first), q how many -/
def newM (u : Nat → Int32) (m : Int32) (F : Nat → Int) (q : Nat) : Int32 := mvA u m (iz (smF u m F q / (bsf u q : Int)))
theorem sm_bd {P : Nat → Bool} {w : Nat → Int} {c : Int} (hc : 0 ≤ c) : ∀ n, (∀ k, k < n → -c ≤ w k ∧ w k ≤ c) → -(c * n) ≤ sm P w n ∧ sm P w n ≤ c * n := by
  intro n
  induction n with
  | zero => intro _; show -(c * 0) ≤ 0 ∧ (0 : Int) ≤ c * 0; omega
  | succ n ih =>
    intro h
    have h1 := ih (fun k hk => h k (by omega))
    have h2 := h n (by omega)
    have e : c * ((n + 1 : Nat) : Int) = c * n + c := by rw [Int.natCast_add, Int.mul_add]; omega
    show -(c * ((n + 1 : Nat) : Int)) ≤ sm P w n + (if P n = true then w n else 0) ∧ sm P w n + (if P n = true then w n else 0) ≤ c * ((n + 1 : Nat) : Int)
    rw [e]
    split <;> omega
theorem bd_nat {x : Int32} {a b : Int} (h : bd x a b) (ha : 0 ≤ a) : x = nI x.toNatClampNeg ∧ a ≤ (x.toNatClampNeg : Int) ∧ (x.toNatClampNeg : Int) ≤ b := by
  have e : (x.toNatClampNeg : Int) = x.toInt := by rw [← Int32.toNat_toInt]; have := h.1; omega
  refine ⟨?_, by rw [e]; exact h.1, by rw [e]; exact h.2⟩
  rw [iz_nI, e, iz_of]
theorem mn_nI {a b : Nat} (ha : a < 2 ^ 31) (hb : b < 2 ^ 31) : (if nI b < nI a then nI b else nI a) = nI (min a b) := by
  by_cases h : b < a
  · rw [if_pos ((nI_ltI hb ha).mpr h), show min a b = b by omega]
  · rw [if_neg (fun q => h ((nI_ltI hb ha).mp q)), show min a b = a by omega]
/-- a race of its own is over -/
def Fin (I I' : MI) (r : Nat) (x : Int32) (q : Nat) : Prop := I' 16 r 0 = x ∧ (∀ j, 1 ≤ j → j < 12 → I' 16 r j = I 16 r (j - 1)) ∧ I' 4 r 7 = nI (min 12 (q + 1)) ∧ I' 4 r 6 = I 4 r 6 + 1 ∧ I' 4 r 3 = newM (I 13 0) (I 4 r 3) (Fg (I' 16 r)) (min 12 (q + 1)) ∧ I' 4 r 2 = clI (I 4 r 2 + I 4 r 5) 0 200 ∧ I' 4 r 4 = I 4 r 4 ∧ I' 4 r 5 = I 4 r 5 ∧ ∀ t r', ¬ (r' = r ∧ (t = 4 ∨ t = 16)) → I' t r' = I t r'
theorem s_finish {Q : MI → MJ → Prop} {r q : Nat} {x : Int32} (hq : q ≤ 12) (e7 : I 4 r 7 = nI q) (hu : RuB (I 13 0)) (hm : bd (I 4 r 3) 0 200) (hx : bd x (-1000) 1000) (hf : ∀ j, j < q → bd (I 16 r j) (-1000) 1000) (hQ : ∀ I', Fin I I' r x q → Q I' J) : wp_X4_finish Q I J r x 0 := by
  unfold wp_X4_finish
  generalize hI1 : up3 (row3 I 16 r (va_cpy (I 16 r) (I 16 r) 0 1 11)) 16 r 0 x = I1
  have o1 : ∀ t r', ¬ (t = 16 ∧ r' = r) → I1 t r' = I t r' := fun t r' h => by rw [← hI1, up3_o h, row3_o h]
  have f0 : I1 16 r 0 = x := by rw [← hI1, up3_y]
  have fj : ∀ j, 1 ≤ j → j < 12 → I1 16 r j = I 16 r (j - 1) := fun j h1 h2 => by
    rw [← hI1, up3_n (by omega), row3_r, pk_cpy_in (by omega) (by omega), Nat.zero_add]
  rw [q_min, o1 4 r (by omega), e7, nI_1, show (12 : Int32) = nI 12 from rfl, mn_nI (by omega) (by omega)]
  generalize hI2 : up3 (up3 I1 4 r 7 (nI (min 12 (q + 1)))) 4 r 6 (up3 I1 4 r 7 (nI (min 12 (q + 1))) 4 r 6 + 1) = I2
  have o2 : ∀ t r', ¬ (t = 4 ∧ r' = r) → I2 t r' = I1 t r' := fun t r' h => by rw [← hI2, up3_o h, up3_o h]
  have g7 : I2 4 r 7 = nI (min 12 (q + 1)) := by rw [← hI2, up3_n (by simp), up3_y]
  have g6 : I2 4 r 6 = I 4 r 6 + 1 := by rw [← hI2, up3_y, up3_n (by simp), o1 4 r (by omega)]
  have g : ∀ k, k ≠ 6 → k ≠ 7 → I2 4 r k = I 4 r k := fun k h1 h2 => by rw [← hI2, up3_n (by omega), up3_n (by omega), o1 4 r (by omega)]
  have u13 : I2 13 = I 13 := by funext r'; rw [o2 13 r' (by omega), o1 13 r' (by omega)]
  have f16 : I2 16 r = I1 16 r := o2 16 r (by omega)
  obtain ⟨b0, b1, b2, b3, b4, b5, -, -⟩ := id hu
  obtain ⟨n0, l0, k0⟩ := bd_nat b0 (by decide)
  obtain ⟨n1, l1, k1⟩ := bd_nat b1 (by decide)
  generalize hq1 : min 12 (q + 1) = q1 at g7 ⊢
  have hq1' : 1 ≤ q1 ∧ q1 ≤ 12 := by omega
  have hl : lst (I 13 0) q1 = min (I 13 0 1).toNatClampNeg q1 := rfl
  have hb : bsf (I 13 0) q1 = min (I 13 0 0).toNatClampNeg (lst (I 13 0) q1) := rfl
  have hl1 : 1 ≤ lst (I 13 0) q1 ∧ lst (I 13 0) q1 ≤ 12 ∧ lst (I 13 0) q1 ≤ q1 := by omega
  have hb1 : 1 ≤ bsf (I 13 0) q1 ∧ bsf (I 13 0) q1 ≤ 12 := by omega
  unfold wp_X2_lastOf wp_X2_bestOf wp_X2_ceiling
  rw [q_min, g7, u13, n1, mn_nI (by omega) (by omega), ← hl]
  try dsimp only
  rw [q_min, u13, n0, mn_nI (by omega) (by omega), ← hb]
  try dsimp only
  rw [g 3 (by decide) (by decide)]
  refine s_bestSum (by omega) (by omega) ?_
  have hFb : ∀ j, j < lst (I 13 0) q1 → -1000 ≤ Fg (I2 16 r) j ∧ Fg (I2 16 r) j ≤ 1000 := by
    intro j hj
    unfold Fg
    rw [f16]
    by_cases e : j = 0
    · rw [e, f0]; exact hx
    · rw [fj j (by omega) (by omega)]; exact hf (j - 1) (by omega)
  have hcb : 0 ≤ (I 4 r 3 + I 13 0 5).toInt ∧ (I 4 r 3 + I 13 0 5).toInt ≤ 400 := by
    obtain ⟨a, ea, a1, a2⟩ := bd_ex hm
    obtain ⟨c, ec, c1, c2⟩ := bd_ex b5
    rw [ea, ec, iz_add, iz_toInt (by omega) (by omega)]
    omega
  have hS := sm_bd (P := fun k => decide (rk (Fg (I2 16 r)) (lst (I 13 0) q1) k < bsf (I 13 0) q1)) (w := fun k => min (Fg (I2 16 r) k) (I 4 r 3 + I 13 0 5).toInt) (c := 1000) (by decide) (lst (I 13 0) q1) (fun k hk => by have := hFb k hk; show -1000 ≤ min _ _ ∧ min _ _ ≤ 1000; omega)
  have hS' : -1000000 ≤ topS (Fg (I2 16 r)) (fun k => min (Fg (I2 16 r) k) (I 4 r 3 + I 13 0 5).toInt) (lst (I 13 0) q1) (bsf (I 13 0) q1) ∧ topS (Fg (I2 16 r)) (fun k => min (Fg (I2 16 r) k) (I 4 r 3 + I 13 0 5).toInt) (lst (I 13 0) q1) (bsf (I 13 0) q1) ≤ 1000000 := by
    unfold topS; omega
  refine s_moved2 hS'.1 hS'.2 hb1.1 hb1.2 (by rw [u13]; exact b3) ?_
  rw [q_clamp, up3_n (by simp), up3_n (by simp), g 2 (by decide) (by decide), g 5 (by decide) (by decide), u13]
  refine hQ _ ⟨?_, fun j h1 h2 => ?_, ?_, ?_, ?_, ?_, ?_, ?_, fun t r' h => ?_⟩
  · rw [up3_t (by decide), up3_t (by decide), f16, f0]
  · rw [up3_t (by decide), up3_t (by decide), f16, fj j h1 h2]
  · rw [up3_n (by simp), up3_n (by simp), g7, hq1]
  · rw [up3_n (by simp), up3_n (by simp), g6]
  · rw [up3_n (by simp), up3_y, up3_t (by decide), up3_t (by decide), hq1]
    rfl
  · rw [up3_y]; rfl
  · rw [up3_n (by simp), up3_n (by simp), g 4 (by decide) (by decide)]
  · rw [up3_n (by simp), up3_n (by simp), g 5 (by decide) (by decide)]
  · rw [up3_o (by omega), up3_o (by omega), o2 t r' (by omega), o1 t r' (by omega)]
end FIN
