/-! the plan: what both sides count -/
def pF (S pl : Int) (s r : Nat) (k : Nat) : Int := if s / 2 ^ (r - k) % 2 = 1 then S - pl else S
def pMk (u : Nat → Int32) (S pl : Int) (s : Nat) : Nat → Int32
  | 0 => iz S
  | r + 1 => newM u (pMk u S pl s r) (pF S pl s r) (r + 1)
def wv (S sp m b p : Int) : Int := p * min (max (sp + 1 + S - b - max 0 (m - b)) 0) (2 * sp + 1)
def pW (u : Nat → Int32) (S pl sp : Int) (bar prize : Nat → Int32) (s : Nat) : Nat → Int
  | 0 => 0
  | r + 1 => pW u S pl sp bar prize s r + (if s / 2 ^ r % 2 = 1 then 0 else wv S sp (pMk u S pl s r).toInt (bar r).toInt (prize r).toInt)
theorem wv_bd {S sp m b p : Int} (h1 : 0 ≤ p) (h2 : p ≤ 200) (h3 : 0 ≤ sp) (h4 : sp ≤ 5) : 0 ≤ wv S sp m b p ∧ wv S sp m b p ≤ 2200 := by
  unfold wv
  generalize hx : min (max (sp + 1 + S - b - max 0 (m - b)) 0) (2 * sp + 1) = x
  have hx0 : 0 ≤ x ∧ x ≤ 11 := by omega
  refine ⟨Int.mul_nonneg h1 hx0.1, ?_⟩
  have : p * x ≤ 200 * 11 := Int.mul_le_mul h2 hx0.2 hx0.1 (by decide)
  omega
theorem pMk_bd {u : Nat → Int32} {S pl : Int} {s : Nat} (h1 : 0 ≤ S) (h2 : S ≤ 200) : ∀ r, bd (pMk u S pl s r) 0 200 := by
  intro r
  cases r with
  | zero => exact bd_iz h1 h2 (by omega) (by omega)
  | succ r => exact newM_bd _ _ _ _
theorem pMk_low {u : Nat → Int32} {S pl : Int} {s s' : Nat} : ∀ r, (∀ i, i < r → s / 2 ^ i % 2 = s' / 2 ^ i % 2) → pMk u S pl s r = pMk u S pl s' r := by
  intro r
  induction r with
  | zero => intro _; rfl
  | succ r ih =>
    intro h
    show newM u (pMk u S pl s r) (pF S pl s r) (r + 1) = newM u (pMk u S pl s' r) (pF S pl s' r) (r + 1)
    rw [ih (fun i hi => h i (by omega))]
    refine newM_congr (fun _ _ => rfl) (fun j hj => ?_)
    unfold pF
    rw [h (r - j) (by omega)]
theorem pW_low {u : Nat → Int32} {S pl sp : Int} {bar prize : Nat → Int32} {s s' : Nat} : ∀ r, (∀ i, i < r → s / 2 ^ i % 2 = s' / 2 ^ i % 2) → pW u S pl sp bar prize s r = pW u S pl sp bar prize s' r := by
  intro r
  induction r with
  | zero => intro _; rfl
  | succ r ih =>
    intro h
    show pW u S pl sp bar prize s r + (if s / 2 ^ r % 2 = 1 then 0 else wv S sp (pMk u S pl s r).toInt (bar r).toInt (prize r).toInt) = pW u S pl sp bar prize s' r + (if s' / 2 ^ r % 2 = 1 then 0 else wv S sp (pMk u S pl s' r).toInt (bar r).toInt (prize r).toInt)
    rw [ih (fun i hi => h i (by omega)), h r (by omega), pMk_low r (fun i hi => h i (by omega))]
theorem pW_bd {u : Nat → Int32} {S pl sp : Int} {bar prize : Nat → Int32} {s n : Nat} (h3 : 0 ≤ sp) (h4 : sp ≤ 5) (hp : ∀ r, r < n → bd (prize r) 0 200) : ∀ r, r ≤ n → 0 ≤ pW u S pl sp bar prize s r ∧ pW u S pl sp bar prize s r ≤ 2200 * r := by
  intro r
  induction r with
  | zero => intro _; exact ⟨Int.le_refl _, by show (0 : Int) ≤ 2200 * ((0 : Nat) : Int); omega⟩
  | succ r ih =>
    intro hr
    have h1 := ih (by omega)
    have h2 := wv_bd (S := S) (m := (pMk u S pl s r).toInt) (b := (bar r).toInt) (hp r (by omega)).1 (hp r (by omega)).2 h3 h4
    show 0 ≤ pW u S pl sp bar prize s r + (if s / 2 ^ r % 2 = 1 then 0 else wv S sp (pMk u S pl s r).toInt (bar r).toInt (prize r).toInt) ∧ pW u S pl sp bar prize s r + (if s / 2 ^ r % 2 = 1 then 0 else wv S sp (pMk u S pl s r).toInt (bar r).toInt (prize r).toInt) ≤ 2200 * ((r + 1 : Nat) : Int)
    split <;> omega
/-- the score of a set; the best of all that can still be chosen with k races left -/
def psc (w : Nat → Int) (p : Nat) : Int := w p * 1024 + 1023 - p
def bsc (n : Nat) (sc : Nat → Int) (mp : Bool) : Nat → Nat → Int
  | 0, p => sc p
  | k + 1, p => if mp = true then max (bsc n sc mp k p) (bsc n sc mp k (p + 2 ^ (n - (k + 1)))) else bsc n sc mp k p
theorem bsc_max {n : Nat} {sc : Nat → Int} : ∀ k p, k ≤ n → (∀ t, t < 2 ^ k → sc (p + 2 ^ (n - k) * t) ≤ bsc n sc true k p) ∧ ∃ t, t < 2 ^ k ∧ bsc n sc true k p = sc (p + 2 ^ (n - k) * t) := by
  intro k
  induction k with
  | zero =>
    intro p _
    refine ⟨fun t ht => ?_, 0, by decide, by rw [Nat.mul_zero]; rfl⟩
    obtain rfl : t = 0 := by have : 2 ^ 0 = 1 := rfl; omega
    rw [Nat.mul_zero]
    exact Int.le_refl _
  | succ k ih =>
    intro p hk
    obtain ⟨a1, t1, a2, a3⟩ := ih p (by omega)
    obtain ⟨b1, t2, b2, b3⟩ := ih (p + 2 ^ (n - (k + 1))) (by omega)
    have ep : 2 ^ (n - k) = 2 * 2 ^ (n - (k + 1)) := by rw [show n - k = (n - (k + 1)) + 1 by omega, Nat.pow_succ, Nat.mul_comm]
    have eb : bsc n sc true (k + 1) p = max (bsc n sc true k p) (bsc n sc true k (p + 2 ^ (n - (k + 1)))) := rfl
    have ek : 2 ^ (k + 1) = 2 * 2 ^ k := by rw [Nat.pow_succ, Nat.mul_comm]
    rw [ep] at a1 a3 b1 b3
    generalize 2 ^ (n - (k + 1)) = w at *
    have e0 : ∀ t, p + w * (2 * t) = p + 2 * w * t := fun t => by rw [← Nat.mul_assoc, Nat.mul_comm w 2]
    have e1 : ∀ t, p + w * (2 * t + 1) = p + w + 2 * w * t := fun t => by rw [Nat.mul_add, ← Nat.mul_assoc, Nat.mul_comm w 2, Nat.mul_one]; omega
    rw [eb, ek]
    refine ⟨fun t ht => ?_, ?_⟩
    · rcases (show t = 2 * (t / 2) ∨ t = 2 * (t / 2) + 1 by omega) with e | e
      · rw [e, e0]
        have := a1 (t / 2) (by omega)
        omega
      · rw [e, e1]
        have := b1 (t / 2) (by omega)
        omega
    · by_cases c : bsc n sc true k p ≤ bsc n sc true k (p + w)
      · exact ⟨2 * t2 + 1, by omega, by rw [e1, ← b3]; omega⟩
      · exact ⟨2 * t1, by omega, by rw [e0, ← a3]; omega⟩
theorem bsc_no {n : Nat} {sc : Nat → Int} : ∀ k p, bsc n sc false k p = sc p := by
  intro k
  induction k with
  | zero => intro p; rfl
  | succ k ih => intro p; exact ih p
theorem bit_lo {p r i : Nat} (h : i < r) : (p + 2 ^ r) / 2 ^ i % 2 = p / 2 ^ i % 2 := by
  have e : 2 ^ r = 2 ^ i * 2 ^ (r - i) := by rw [← Nat.pow_add]; congr 1; omega
  have e2 : 2 ^ (r - i) = 2 * 2 ^ (r - i - 1) := by rw [show r - i = (r - i - 1) + 1 by omega, Nat.pow_succ, Nat.mul_comm, Nat.add_sub_cancel]
  rw [Nat.add_comm, e, Nat.mul_add_div (Nat.two_pow_pos i), e2]
  omega
theorem bit_hi {p r : Nat} (h : p < 2 ^ r) : (p + 2 ^ r) / 2 ^ r % 2 = 1 := by
  rw [Nat.add_div_right _ (Nat.two_pow_pos r), Nat.div_eq_of_lt h]
theorem bit_z {p r : Nat} (h : p < 2 ^ r) : p / 2 ^ r % 2 = 0 := by rw [Nat.div_eq_of_lt h]
theorem cn_shift (f : Nat → Bool) : ∀ n, cn f (n + 1) = (if f 0 = true then 1 else 0) + cn (fun k => f (k + 1)) n := by
  intro n
  induction n with
  | zero => show cn f 0 + (if f 0 = true then 1 else 0) = _; show 0 + (if f 0 = true then 1 else 0) = (if f 0 = true then 1 else 0) + 0; omega
  | succ n ih =>
    show cn f (n + 1) + (if f (n + 1) = true then 1 else 0) = (if f 0 = true then 1 else 0) + (cn (fun k => f (k + 1)) n + (if f (n + 1) = true then 1 else 0))
    rw [ih]
    omega
theorem cn_rev (f : Nat → Bool) : ∀ n, cn (fun k => f (n - 1 - k)) n = cn f n := by
  intro n
  induction n generalizing f with
  | zero => rfl
  | succ n ih =>
    rw [cn_shift f n, ← ih (fun k => f (k + 1))]
    show cn (fun k => f (n + 1 - 1 - k)) n + (if f (n + 1 - 1 - n) = true then 1 else 0) = _
    rw [show n + 1 - 1 - n = 0 by omega, cn_congr (P := fun k => f (n + 1 - 1 - k)) (P' := fun k => f (n - 1 - k + 1)) n (fun k hk => by rw [show n + 1 - 1 - k = n - 1 - k + 1 by omega])]
    omega
theorem pcn_cn (s : Nat) : ∀ n, pcn s n = cn (fun i => decide (s / 2 ^ i % 2 = 1)) n := by
  intro n
  induction n with
  | zero => rfl
  | succ n ih =>
    show pcn s n + s / 2 ^ n % 2 = cn (fun i => decide (s / 2 ^ i % 2 = 1)) n + (if decide (s / 2 ^ n % 2 = 1) = true then 1 else 0)
    rw [ih]
    by_cases c : s / 2 ^ n % 2 = 1
    · rw [if_pos (decide_eq_true c), c]
    · rw [if_neg (fun q => c (of_decide_eq_true q)), show s / 2 ^ n % 2 = 0 by omega]
/-- how many of the last were pulled -/
theorem pcn_last {p r last : Nat} (hp : p < 2 ^ (r + 1)) (hl : last ≤ r + 1) (hr : r < 10) : pcn (p / 2 ^ (r + 1 - last)) 10 = cn (fun k => decide (p / 2 ^ (r - k) % 2 = 1)) last := by
  have h1 : p / 2 ^ (r + 1 - last) < 2 ^ last := by
    apply Nat.div_lt_of_lt_mul
    rw [← Nat.pow_add, show r + 1 - last + last = r + 1 by omega]
    exact hp
  rw [pcn_hi h1 10 (by omega), pcn_cn, ← cn_rev]
  refine cn_congr last (fun k hk => ?_)
  show decide (p / 2 ^ (r + 1 - last) / 2 ^ (last - 1 - k) % 2 = 1) = _
  rw [Nat.div_div_eq_div_mul, ← Nat.pow_add, show r + 1 - last + (last - 1 - k) = r - k by omega]
/-- two figures alone: the best b by how many are the greater -/
theorem topS_two {n b : Nat} {B : Nat → Bool} {S pl c : Int} (hb : b ≤ n) (hpl : 0 ≤ pl) : topS (fun k => if B k = true then S - pl else S) (fun k => min (if B k = true then S - pl else S) c) n b = ((min b (n - cn B n) : Nat) : Int) * min S c + (((b : Int) - (min b (n - cn B n) : Nat)) * min (S - pl) c) := by
  generalize hF : (fun k => if B k = true then S - pl else S) = F
  have eF : ∀ k, F k = if B k = true then S - pl else S := fun k => by rw [← hF]
  unfold topS
  generalize hP : (fun k => decide (rk F n k < b)) = P
  have eP : ∀ k, P k = true ↔ rk F n k < b := fun k => by rw [← hP]; exact decide_eq_true_iff
  have cP : cn P n = b := by rw [← hP]; exact bij_cn (fun k hk => rk_b hk) (fun k o hk ho => rk_inj hk ho) b hb
  have hs : ∀ m, sm P (fun k => min (if B k = true then S - pl else S) c) m = (cn (fun k => P k && !B k) m : Int) * min S c + (cn (fun k => P k && B k) m : Int) * min (S - pl) c := by
    intro m
    induction m with
    | zero => show (0 : Int) = ((0 : Nat) : Int) * _ + ((0 : Nat) : Int) * _; simp
    | succ m ih =>
      show sm P (fun k => min (if B k = true then S - pl else S) c) m + (if P m = true then min (if B m = true then S - pl else S) c else 0) = ((cn (fun k => P k && !B k) m + (if (P m && !B m) = true then 1 else 0) : Nat) : Int) * min S c + ((cn (fun k => P k && B k) m + (if (P m && B m) = true then 1 else 0) : Nat) : Int) * min (S - pl) c
      rw [ih]
      cases hPm : P m <;> cases hBm : B m
      · simp
      · simp
      · simp [Int.add_mul]; omega
      · simp [Int.add_mul]; omega
  have hsum : cn (fun k => P k && !B k) n + cn (fun k => P k && B k) n = b := by
    rw [← cP]
    refine (cn_add n (fun k hk => ?_)).symm
    cases P k <;> cases B k <;> rfl
  have hnB : cn (fun k => !B k) n + cn B n = n := by
    have h1 := cn_add (P := fun _ => true) (P1 := fun k => !B k) (P2 := B) n (fun k hk => by cases B k <;> rfl)
    rw [cn_all] at h1
    omega
  have hle : cn (fun k => P k && !B k) n ≤ cn (fun k => !B k) n := cn_mono n (fun k _ h => by rw [Bool.and_eq_true] at h; exact h.2)
  rw [hs n]
  generalize hx : cn (fun k => P k && !B k) n = x at *
  generalize hy : cn (fun k => P k && B k) n = y at *
  by_cases c0 : pl = 0
  · rw [c0, Int.sub_zero, ← Int.add_mul, ← Int.add_mul]
    congr 1
    omega
  · have hxe : x = min b (n - cn B n) := by
      by_cases hA : ∃ k, k < n ∧ ¬ B k = true ∧ ¬ P k = true
      · obtain ⟨k0, g1, g2, g3⟩ := hA
        have hy0 : y = 0 := by
          rw [← hy]
          refine cn_none n (fun k hk h => ?_)
          rw [Bool.and_eq_true] at h
          have h1 := (eP k).mp h.1
          have h2 : ¬ rk F n k0 < b := fun q => g3 ((eP k0).mpr q)
          have h3 := rk_lt (F := F) (n := n) (o := k0) (k := k) g1 (pre_iff.mpr (Or.inl (by rw [eF, eF, if_pos h.2, if_neg g2]; omega)))
          omega
        omega
      · have : cn (fun k => !B k) n ≤ x := by
          rw [← hx]
          refine cn_mono n (fun k hk h => ?_)
          have hB : ¬ B k = true := by
            intro q
            rw [q] at h
            exact absurd h (by decide)
          have : P k = true := Classical.byContradiction fun q => hA ⟨k, hk, hB, q⟩
          rw [this]
          exact h
        omega
    have hye : (y : Int) = (b : Int) - (x : Int) := by omega
    rw [← hxe, hye]
theorem clz {z c : Int} (h1 : -2147483648 ≤ z) (h2 : z ≤ 2147483647) (h3 : 0 ≤ c) (h4 : c ≤ 2147483647) : (if iz z < 0 then 0 else if iz c < iz z then iz c else iz z) = iz (min (max z 0) c) := by
  have l1 : iz z < 0 ↔ z < 0 := iz_lt (b := 0) h1 h2 (by omega) (by omega)
  have l2 : iz c < iz z ↔ c < z := iz_lt (by omega) (by omega) h1 h2
  by_cases c1 : z < 0
  · rw [if_pos (l1.mpr c1), zl0]; exact iz_inj (by omega)
  · rw [if_neg (fun q => c1 (l1.mp q))]
    by_cases c2 : c < z
    · rw [if_pos (l2.mpr c2)]; exact iz_inj (by omega)
    · rw [if_neg (fun q => c2 (l2.mp q))]; exact iz_inj (by omega)
theorem or_bit : ∀ r, r < 10 → ∀ p, p < 2 ^ r → nI p ||| ((1 : Int32) <<< (nI r &&& 31)) = nI (p + 2 ^ r) := by decide +kernel
section PLANC
variable {I : MI} {J : MJ}
theorem s_wonAt {Q : Int32 → MI → MJ → Prop} {r : Nat} {S sp : Int} {m : Int32} (hr : r < 10) (e3 : I 5 0 3 = iz S) (e5 : I 5 0 5 = iz sp) (hS1 : 0 ≤ S) (hS2 : S ≤ 200) (hs1 : 0 ≤ sp) (hs2 : sp ≤ 5) (hm : bd m 0 200) (hb : bd (I 17 0 r) 0 200) (hQ : Q (iz (wv S sp m.toInt (I 17 0 r).toInt (I 18 0 r).toInt)) I J) : wp_X5_wonAt Q I J (nI r) m := by
  unfold wp_X5_wonAt
  have hv : vp_in (nI r) 10 := vp_in_nI hr (by decide)
  refine ⟨hv, ?_⟩
  rw [q_max, nI_clamp (by omega)]
  refine ⟨hv, fun v hw => ⟨hv, ?_⟩⟩
  rw [e3] at hw
  rw [q_clamp, e5]
  obtain ⟨b, eb, b1, b2⟩ := bd_ex hb
  obtain ⟨z, ez, z1, z2⟩ := bd_ex hm
  have emx : (if (0 : Int32) < m - I 17 0 r then m - I 17 0 r else 0) = iz (max 0 (z - b)) := by
    rw [ez, eb, iz_sub]
    have l1 : 0 < iz (z - b) ↔ 0 < z - b := iz_lt (a := 0) (by omega) (by omega) (by omega) (by omega)
    by_cases c : 0 < z - b
    · rw [if_pos (l1.mpr c)]; exact iz_inj (by omega)
    · rw [if_neg (fun q => c (l1.mp q)), zl0]; exact iz_inj (by omega)
  rw [emx, eb, iz_add, iz_sub] at hw
  have ezt : m.toInt = z := by rw [ez, iz_toInt (by omega) (by omega)]
  have ebt : (I 17 0 r).toInt = b := by rw [eb, iz_toInt (by omega) (by omega)]
  rw [ezt, ebt] at hQ
  have e1 : (iz sp - v) + 1 = iz (sp + 1 + S - b - max 0 (z - b)) := by rw [hw, iz_sub, zl1, iz_add]; exact iz_inj (by omega)
  have e2 : (2 * iz sp) + 1 = iz (2 * sp + 1) := by rw [zl2, iz_mul, zl1, iz_add]
  rw [e1, e2, clz (by omega) (by omega) (by omega) (by omega)]
  unfold wv at hQ
  rw [← iz_mul, iz_of] at hQ
  exact hQ
theorem s_markAfter {Q : Int32 → MI → MJ → Prop} {r p : Nat} {S pl : Int} {m : Int32} (hr : r < 10) (hp : p < 2 ^ (r + 1)) (e7 : I 5 0 7 = 1) (e3 : I 5 0 3 = iz S) (e6 : I 5 0 6 = iz pl) (hS1 : 0 ≤ S) (hS2 : S ≤ 200) (hl1 : 0 ≤ pl) (hl2 : pl ≤ 50) (hu : RuB (I 13 0)) (hm : bd m 0 200) (hQ : Q (newM (I 13 0) m (pF S pl p r) (r + 1)) I J) : wp_X5_markAfter Q I J (nI r) m (nI p) := by
  obtain ⟨b0, b1, b2, b3, b4, b5, -, -⟩ := id hu
  obtain ⟨n0, l0, k0⟩ := bd_nat b0 (by decide)
  obtain ⟨n1, l1, k1⟩ := bd_nat b1 (by decide)
  have hl : lst (I 13 0) (r + 1) = min (I 13 0 1).toNatClampNeg (r + 1) := rfl
  have hb : bsf (I 13 0) (r + 1) = min (I 13 0 0).toNatClampNeg (lst (I 13 0) (r + 1)) := rfl
  have hl' : 1 ≤ lst (I 13 0) (r + 1) ∧ lst (I 13 0) (r + 1) ≤ 12 ∧ lst (I 13 0) (r + 1) ≤ r + 1 := by omega
  have hb' : 1 ≤ bsf (I 13 0) (r + 1) ∧ bsf (I 13 0) (r + 1) ≤ 12 ∧ bsf (I 13 0) (r + 1) ≤ lst (I 13 0) (r + 1) := by omega
  have h7 : ¬ I 5 0 7 = 0 := by rw [e7]; decide
  have hcb : 0 ≤ (m + I 13 0 5).toInt ∧ (m + I 13 0 5).toInt ≤ 400 := by
    obtain ⟨a, ea, a1, a2⟩ := bd_ex hm
    obtain ⟨c, ec, c1, c2⟩ := bd_ex b5
    rw [ea, ec, iz_add, iz_toInt (by omega) (by omega)]
    omega
  have eL : (if nI (r + 1) < I 13 0 1 then nI (r + 1) else I 13 0 1) = nI (lst (I 13 0) (r + 1)) := by rw [n1, mn_nI (by omega) (by omega), hl]
  have eB : (if nI (lst (I 13 0) (r + 1)) < I 13 0 0 then nI (lst (I 13 0) (r + 1)) else I 13 0 0) = nI (bsf (I 13 0) (r + 1)) := by rw [n0, mn_nI (by omega) (by omega), hb]
  unfold wp_X5_markAfter wp_X2_lastOf wp_X2_bestOf wp_X2_ceiling
  refine onn h7 ⟨h7, ?_⟩
  rw [q_min, nI_1, eL]
  refine ⟨h7, ?_⟩
  rw [q_min, eB]
  try dsimp only
  rw [q_bitCount, pk_sub hl'.2.2]
  try dsimp only
  have h1024 : 2 ^ (r + 1) ≤ 2 ^ 10 := Nat.pow_le_pow_right (by decide) (by omega)
  have hdl : p / 2 ^ (r + 1 - lst (I 13 0) (r + 1)) ≤ p := Nat.div_le_self _ _
  rw [pk_shrN (by omega) _ _ (sh31 _ (by omega)), bcf_pc _ (by omega), pcn_last hp hl'.2.2 hr]
  try dsimp only
  have hcl := cn_le (fun k => decide (p / 2 ^ (r - k) % 2 = 1)) (lst (I 13 0) (r + 1))
  rw [pk_sub hcl, q_min, mn_nI (by omega) (by omega)]
  try dsimp only
  refine ⟨h7, ?_⟩
  rw [q_min, e3, toInt_min, iz_toInt (by omega) (by omega)]
  try dsimp only
  rw [q_min, e6, iz_sub, toInt_min, iz_toInt (by omega) (by omega)]
  refine fun v hv => ⟨h7, ?_⟩
  have ht := topS_two (n := lst (I 13 0) (r + 1)) (b := bsf (I 13 0) (r + 1)) (B := fun k => decide (p / 2 ^ (r - k) % 2 = 1)) (S := S) (pl := pl) (c := (m + I 13 0 5).toInt) hb'.2.2 hl1
  simp only [decide_eq_true_eq] at ht
  have hsm : smF (I 13 0) m (pF S pl p r) (r + 1) = topS (fun k => if p / 2 ^ (r - k) % 2 = 1 then S - pl else S) (fun k => min (if p / 2 ^ (r - k) % 2 = 1 then S - pl else S) (m + I 13 0 5).toInt) (lst (I 13 0) (r + 1)) (bsf (I 13 0) (r + 1)) := rfl
  rw [iz_nI, iz_nI, iz_sub, iz_mul, iz_mul, iz_add, ← ht, ← hsm] at hv
  have hS := sm_bd (P := fun k => decide (rk (pF S pl p r) (lst (I 13 0) (r + 1)) k < bsf (I 13 0) (r + 1))) (w := fun k => min (pF S pl p r k) (m + I 13 0 5).toInt) (c := 1000) (by decide) (lst (I 13 0) (r + 1)) (fun k hk => by
    show -1000 ≤ min (pF S pl p r k) _ ∧ min (pF S pl p r k) _ ≤ 1000
    unfold pF
    split <;> omega)
  have hS' : -1000000 ≤ smF (I 13 0) m (pF S pl p r) (r + 1) ∧ smF (I 13 0) m (pF S pl p r) (r + 1) ≤ 1000000 := by
    unfold smF topS; omega
  rw [hv]
  exact s_moved2 hS'.1 hS'.2 hb'.1 hb'.2.1 b3 hQ
end PLANC
