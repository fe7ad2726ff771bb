/-! whole numbers behind Int64; the field of the system -/
def lz (a : Int) : Int64 := Int64.ofInt a
theorem lz_toInt {a : Int} (h1 : -9223372036854775808 ≤ a) (h2 : a ≤ 9223372036854775807) : (lz a).toInt = a := Int64.toInt_ofInt_of_le (by omega) (by omega)
theorem lz_add (a b : Int) : lz a + lz b = lz (a + b) := (Int64.ofInt_add a b).symm
theorem lz_sub (a b : Int) : lz a - lz b = lz (a - b) := (Int64.ofInt_sub a b).symm
theorem lz_mul (a b : Int) : lz a * lz b = lz (a * b) := (Int64.ofInt_mul a b).symm
theorem lz_neg (a : Int) : -lz a = lz (-a) := (Int64.ofInt_neg a).symm
theorem iz_l {a : Int} (h1 : -2147483648 ≤ a) (h2 : a ≤ 2147483647) : (iz a).toInt64 = lz a := by
  apply Int64.toInt_inj.mp
  rw [Int32.toInt_toInt64, iz_toInt h1 h2, lz_toInt (by omega) (by omega)]
theorem lz_le {a b : Int} (h1 : -9223372036854775808 ≤ a) (h2 : a ≤ 9223372036854775807) (h3 : -9223372036854775808 ≤ b) (h4 : b ≤ 9223372036854775807) : lz a ≤ lz b ↔ a ≤ b := by rw [Int64.le_iff_toInt_le, lz_toInt h1 h2, lz_toInt h3 h4]
theorem lz_lt {a b : Int} (h1 : -9223372036854775808 ≤ a) (h2 : a ≤ 9223372036854775807) (h3 : -9223372036854775808 ≤ b) (h4 : b ≤ 9223372036854775807) : lz a < lz b ↔ a < b := by rw [Int64.lt_iff_toInt_lt, lz_toInt h1 h2, lz_toInt h3 h4]
theorem lz_eq {a b : Int} (h1 : -9223372036854775808 ≤ a) (h2 : a ≤ 9223372036854775807) (h3 : -9223372036854775808 ≤ b) (h4 : b ≤ 9223372036854775807) : lz a = lz b ↔ a = b := by rw [← Int64.toInt_inj, lz_toInt h1 h2, lz_toInt h3 h4]
theorem cmp_eq {a b : Int} (h1 : -9223372036854775808 ≤ a) (h2 : a ≤ 9223372036854775807) (h3 : -9223372036854775808 ≤ b) (h4 : b ≤ 9223372036854775807) : lg_cmp (lz a) (lz b) = if b < a then 1 else if a = b then 0 else -1 := by
  unfold lg_cmp
  simp only [gt_iff_lt, lz_lt h3 h4 h1 h2, lz_eq h1 h2 h3 h4]
theorem cmp_le {a b : Int} (h1 : -9223372036854775808 ≤ a) (h2 : a ≤ 9223372036854775807) (h3 : -9223372036854775808 ≤ b) (h4 : b ≤ 9223372036854775807) : lg_cmp (lz a) (lz b) ≤ 0 ↔ a ≤ b := by
  rw [cmp_eq h1 h2 h3 h4]
  split
  · exact ⟨fun q => absurd q (by decide), fun q => by omega⟩
  · split
    · exact ⟨fun _ => by omega, fun _ => by decide⟩
    · exact ⟨fun _ => by omega, fun _ => by decide⟩
theorem cmp_ge {a b : Int} (h1 : -9223372036854775808 ≤ a) (h2 : a ≤ 9223372036854775807) (h3 : -9223372036854775808 ≤ b) (h4 : b ≤ 9223372036854775807) : 0 ≤ lg_cmp (lz a) (lz b) ↔ b ≤ a := by
  rw [cmp_eq h1 h2 h3 h4]
  split
  · exact ⟨fun _ => by omega, fun _ => by decide⟩
  · split
    · exact ⟨fun _ => by omega, fun _ => by decide⟩
    · exact ⟨fun q => absurd q (by decide), fun q => by omega⟩
theorem cmp_0 {a b : Int} (h1 : -9223372036854775808 ≤ a) (h2 : a ≤ 9223372036854775807) (h3 : -9223372036854775808 ≤ b) (h4 : b ≤ 9223372036854775807) : lg_cmp (lz a) (lz b) = 0 ↔ a = b := by
  rw [cmp_eq h1 h2 h3 h4]
  split
  · exact ⟨fun q => absurd q (by decide), fun q => by omega⟩
  · split
    · exact ⟨fun _ => by omega, fun _ => rfl⟩
    · exact ⟨fun q => absurd q (by decide), fun q => by omega⟩
theorem ll0 : (0 : Int64) = lz 0 := rfl
theorem ll1 : (1 : Int64) = lz 1 := rfl
theorem clZ_bd (x : Int) (t : Nat) : 0 ≤ clZ x t ∧ clZ x t ≤ 2 * t + 1 := by
  unfold clZ
  split
  · omega
  · split <;> omega
theorem clZ_mono {x y : Int} {t : Nat} (h : x ≤ y) : clZ x t ≤ clZ y t := by
  unfold clZ
  split <;> split <;> (try split) <;> (try split) <;> omega
theorem wq_bd {a b : Nat → Int} {c : Int} {p : Nat} (hc : 1 ≤ c) (ha : ∀ o, 0 ≤ a o ∧ a o ≤ c) (hb : ∀ o, 0 ≤ b o ∧ b o ≤ c) : ∀ o, 0 ≤ wq a b p o ∧ wq a b p o ≤ c ^ o := by
  intro o
  induction o with
  | zero => exact ⟨by show (0 : Int) ≤ 1; decide, by rw [Int.pow_zero]; exact Int.le_refl _⟩
  | succ o ih =>
    have hf : 0 ≤ (if o = p then 1 else if o < p then b o else a o) ∧ (if o = p then 1 else if o < p then b o else a o) ≤ c := by
      split
      · exact ⟨by decide, hc⟩
      · split
        · exact hb o
        · exact ha o
    show 0 ≤ wq a b p o * (if o = p then 1 else if o < p then b o else a o) ∧ wq a b p o * (if o = p then 1 else if o < p then b o else a o) ≤ c ^ (o + 1)
    exact ⟨Int.mul_nonneg ih.1 hf.1, by rw [Int.pow_succ]; exact Int.mul_le_mul ih.2 hf.2 hf.1 (Int.le_trans ih.1 ih.2)⟩
theorem wq_zero {a b : Nat → Int} {p j : Nat} (h : wq a b p j = 0) : ∀ d, wq a b p (j + d) = 0 := by
  intro d
  induction d with
  | zero => exact h
  | succ d ih => show wq a b p (j + d) * _ = 0; rw [ih, Int.zero_mul]
theorem pw_bd {t m : Nat} (ht : t ≤ 5) (hm : m ≤ 8) : (1 : Int) ≤ ((2 * t + 1 : Nat) : Int) ^ m ∧ ((2 * t + 1 : Nat) : Int) ^ m ≤ 214358881 := by
  have h1 : (2 * t + 1) ^ m ≤ 11 ^ 8 := Nat.le_trans (Nat.pow_le_pow_left (by omega) m) (Nat.pow_le_pow_right (by decide) hm)
  have h2 : 0 < (2 * t + 1) ^ m := Nat.pow_pos (by omega)
  have e : (11 : Nat) ^ 8 = 214358881 := by decide
  rw [← Int.natCast_pow]
  omega
section FLD
variable {I : MI} {J : MJ}
/-- the field as it stands: m of them, spread t, at the levels l -/
def FS (I : MI) (m t : Nat) (l : Nat → Int) : Prop := m ≤ 8 ∧ t ≤ 5 ∧ I 0 0 4 = nI m ∧ I 0 0 5 = nI t ∧ ∀ p, p < m → I 10 0 p = iz (l p) ∧ -10000 ≤ l p ∧ l p ≤ 10000
theorem two_t (t : Nat) : 2 * nI t + 1 = nI (2 * t + 1) := by rw [show (2 : Int32) = nI 2 from rfl, pk_mul, nI_1]
theorem s_allRows {Q : Int64 → MI → MJ → Prop} {m t : Nat} {l : Nat → Int} (h : FS I m t l) (hQ : Q (lz (((2 * t + 1 : Nat) : Int) ^ m)) I J) : wp_X0_allRows Q I J := by
  obtain ⟨hm, ht, e4, e5, -⟩ := h
  have key : ∀ (d j : Nat), j + d = m → L_X0_allRows_4 Q (d + 1) I J (lz (((2 * t + 1 : Nat) : Int) ^ j)) (nI j) := by
    intro d
    induction d with
    | zero =>
      intro j e
      obtain rfl : j = m := by omega
      exact onp (by rw [e4]; exact nI_le (Nat.le_refl _) (by omega)) hQ
    | succ d ih =>
      intro j e
      refine onn (by rw [e4]; exact nI_ge (by omega) (by omega)) (fun v hv => ?_)
      rw [e5, two_t, iz_nI, iz_l (by omega) (by omega), lz_mul, ← Int.pow_succ] at hv
      rw [hv, nI_1]
      exact ih (j + 1) (by omega)
  exact ⟨m + 1, key m 0 (by omega)⟩
theorem s_ways {Q : Int64 → MI → MJ → Prop} {m t p : Nat} {l : Nat → Int} {v : Int} (h : FS I m t l) (hp : p < m) (hv : -20000 ≤ v ∧ v ≤ 20000) (hQ : Q (lz (wy t l m p v)) I J) : wp_X0_waysOfOthers Q I J (nI p) (iz v) := by
  obtain ⟨hm, ht, e4, e5, hl⟩ := h
  generalize ha : (fun o => Gv t (l o) v) = a
  generalize hb : (fun o => Gv t (l o) (v - 1)) = b
  have hw : ∀ j, wq (fun o => Gv t (l o) v) (fun o => Gv t (l o) (v - 1)) p j = wq a b p j := fun j => by rw [ha, hb]
  have ea : ∀ o, a o = clZ (v - l o + t + 1) t := fun o => by rw [← ha]; rfl
  have eb : ∀ o, b o = clZ (v - 1 - l o + t + 1) t := fun o => by rw [← hb]; rfl
  have bnd := wq_bd (a := a) (b := b) (c := ((2 * t + 1 : Nat) : Int)) (p := p) (by omega) (fun o => by rw [ea]; have := clZ_bd (v - l o + t + 1) t; omega) (fun o => by rw [eb]; have := clZ_bd (v - 1 - l o + t + 1) t; omega)
  have bj : ∀ j, j ≤ m → 0 ≤ wq a b p j ∧ wq a b p j ≤ 214358881 := fun j hj => ⟨(bnd j).1, Int.le_trans (bnd j).2 (pw_bd ht (by omega)).2⟩
  have hQ' : Q (lz (wq a b p m)) I J := by rw [← hw]; exact hQ
  have key : ∀ (d j : Nat), j + d = m → L_X0_waysOfOthers_5 Q (d + 1) I J (nI p) (iz v) (lz (wq a b p j)) (nI j) := by
    intro d
    induction d with
    | zero =>
      intro j e
      obtain rfl : j = m := by omega
      exact onp (by rw [e4]; exact nI_le (Nat.le_refl _) (by omega)) hQ'
    | succ d ih =>
      intro j e
      have hj := bj j (by omega)
      refine onn (by rw [e4]; exact nI_ge (by omega) (by omega)) ?_
      rw [ll0, cmp_le (by omega) (by omega) (by omega) (by omega)]
      by_cases c0 : wq a b p j ≤ 0
      · have z : wq a b p j = 0 := by omega
        have z2 := wq_zero z (m - j)
        rw [show j + (m - j) = m by omega] at z2
        rw [z2] at hQ'
        rw [z]
        exact onp (by omega) hQ'
      refine onn c0 ?_
      have hi := ih (j + 1) (by omega)
      have es : wq a b p (j + 1) = wq a b p j * (if j = p then 1 else if j < p then b j else a j) := rfl
      rw [es] at hi
      by_cases c1 : j = p
      · rw [if_pos c1, Int.mul_one] at hi
        subst c1
        rw [nI_1]
        exact onp rfl hi
      refine onn (fun q => c1 ((nI_eq (by omega) (by omega)).mp q)) ?_
      rw [if_neg c1] at hi
      obtain ⟨el, l1, l2⟩ := hl j (by omega)
      have go : ∀ s0 : Nat, s0 ≤ 1 → (if j < p then b j else a j) = clZ (v - l j + t + s0) t → J_X0_waysOfOthers_37 Q (L_X0_waysOfOthers_5 Q (d + 1)) I J (nI p) (iz v) (lz (wq a b p j)) (nI j) (nI s0) := by
        intro s0 hs0 ef
        refine ⟨vp_in_nI (by omega) (by decide), ?_⟩
        rw [q_clamp, nI_clamp (by omega), el, e5, two_t, iz_nI t, iz_nI s0, iz_nI (2 * t + 1), iz_sub, iz_add, iz_add, zl0]
        have ec : (if iz (v - l j + t + s0) < iz 0 then iz 0 else if iz ((2 * t + 1 : Nat) : Int) < iz (v - l j + t + s0) then iz ((2 * t + 1 : Nat) : Int) else iz (v - l j + t + s0)) = iz (clZ (v - l j + t + s0) t) := by
          simp only [iz_lt (show -2147483648 ≤ v - l j + t + s0 by omega) (show v - l j + t + s0 ≤ 2147483647 by omega) (show (-2147483648 : Int) ≤ 0 by decide) (show (0 : Int) ≤ 2147483647 by decide), iz_lt (show -2147483648 ≤ ((2 * t + 1 : Nat) : Int) by omega) (show ((2 * t + 1 : Nat) : Int) ≤ 2147483647 by omega) (show -2147483648 ≤ v - l j + t + s0 by omega) (show v - l j + t + s0 ≤ 2147483647 by omega)]
          unfold clZ
          by_cases q1 : v - l j + t + s0 < 0
          · rw [if_pos q1, if_pos q1]
          · rw [if_neg q1, if_neg q1]
            by_cases q2 : ((2 * t + 1 : Nat) : Int) < v - l j + t + s0
            · rw [if_pos q2, if_pos (show (2 * (t : Int) + 1) < v - l j + t + s0 by omega)]
              exact iz_inj (by omega)
            · rw [if_neg q2, if_neg (show ¬ (2 * (t : Int) + 1) < v - l j + t + s0 by omega)]
        rw [ec]
        have cb := clZ_bd (v - l j + t + s0) t
        rw [iz_l (by omega) (by omega), lz_mul, nI_1, ← ef]
        exact hi
      by_cases c2 : j < p
      · refine onp (nI_le (by omega) (by omega)) (go 0 (by decide) ?_)
        rw [if_pos c2, eb]
        congr 1
        omega
      · refine onn (nI_ge (by omega) (by omega)) (go 1 (by decide) ?_)
        rw [if_neg c2, ea]
        rfl
  exact ⟨m + 1, key m 0 (by omega)⟩
end FLD
