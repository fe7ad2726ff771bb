section CRC
variable {I : MI} {J : MJ}
/-- the luck out of a lot L at spread t -/
def lcU (L t : Int32) : Int32 := (((L.toUInt32 >>> ((16 : Int32).toUInt32 &&& Int32.toUInt32 31)).toInt32) - ((L.toUInt32 >>> ((16 : Int32).toUInt32 &&& Int32.toUInt32 31)).toInt32) / ((2 * t) + 1) * ((2 * t) + 1)) - t
/-- the lot behind the first j of the set s -/
def ltS (s : Nat) (a : Int32) : Nat → Int32
  | 0 => a
  | j + 1 => if s / 2 ^ j % 2 = 1 then ltS s a j * 1103515245 + 12345 else ltS s a j
theorem lcU_bd {L t : Int32} (ht : bd t 0 5) : bd (lcU L t) (-5) 5 := by
  obtain ⟨e, l, k⟩ := bd_nat ht (by decide)
  generalize t.toNatClampNeg = q at e l k
  subst e
  have hu := pk_ushr L 16 16 (by decide)
  have hlt : L.toBitVec.toNat / 2 ^ 16 < 65536 := by have := L.toBitVec.isLt; omega
  have eu : (L.toUInt32 >>> ((16 : Int32).toUInt32 &&& Int32.toUInt32 31)).toInt32 = nI (L.toBitVec.toNat / 2 ^ 16) := by
    apply Int32.toBitVec_inj.mp
    apply BitVec.eq_of_toNat_eq
    rw [hu, pk_tn (by omega)]
  unfold lcU
  rw [eu, show (2 : Int32) = nI 2 from rfl, pk_mul, nI_1, pk_rem (by omega) (by omega) (by omega), iz_nI, iz_nI, iz_sub]
  have hm := Nat.mod_lt (L.toBitVec.toNat / 2 ^ 16) (show 0 < 2 * q + 1 by omega)
  exact bd_iz (by omega) (by omega) (by omega) (by omega)
/-- what a runner shows without luck and weight -/
def brV (I : MI) (k g : Nat) : Int32 := (I 4 k 2 + I 15 k g) - (if I 4 k 4 = 1 then I 21 0 1 else if I 4 k 4 = 2 then I 21 0 2 else 0)
theorem s_bare {Q : Int32 → MI → MJ → Prop} {k g : Nat} (hg : g < 3) (hQ : Q (brV I k g) I J) : wp_X7_bareLevel Q I J k (nI g) := by
  have hv : vp_in (nI g) 3 := vp_in_nI (by omega) (by decide)
  unfold wp_X7_bareLevel J_X7_bareLevel_35
  rw [nI_clamp (by omega)]
  unfold brV at hQ
  by_cases c1 : I 4 k 4 = 1
  · rw [if_pos c1] at hQ; exact onp c1 ⟨hv, hQ⟩
  · rw [if_neg c1] at hQ
    by_cases c2 : I 4 k 4 = 2
    · rw [if_pos c2] at hQ; exact onn c1 (onp c2 ⟨hv, hQ⟩)
    · rw [if_neg c2] at hQ; exact onn c1 (onn c2 ⟨hv, hQ⟩)
theorem brV_bd {k g : Nat} (h2 : bd (I 4 k 2) 0 200) (h15 : bd (I 15 k g) (-20) 20) (ht : It I) : bd (brV I k g) (-100) 300 := by
  obtain ⟨a, ea, a1, a2⟩ := bd_ex h2
  obtain ⟨b, eb, b1, b2⟩ := bd_ex h15
  obtain ⟨c, ec, c1, c2⟩ := bd_ex ht.2.2.1
  obtain ⟨d, ed, d1, d2⟩ := bd_ex ht.2.2.2
  unfold brV
  rw [ea, eb, ec, ed, zl0, iz_add]
  by_cases q1 : I 4 k 4 = 1
  · rw [if_pos q1, iz_sub]; exact bd_iz (by omega) (by omega) (by omega) (by omega)
  · rw [if_neg q1]
    by_cases q2 : I 4 k 4 = 2
    · rw [if_pos q2, iz_sub]; exact bd_iz (by omega) (by omega) (by omega) (by omega)
    · rw [if_neg q2, iz_sub]; exact bd_iz (by omega) (by omega) (by omega) (by omega)
/-- runner r of I' is runner r of I behind a race with the figure x -/
def FR (I I' : MI) (r : Nat) (x : Int32) (q : Nat) : Prop := I' 16 r 0 = x ∧ (∀ j, 1 ≤ j → j < 12 → I' 16 r j = I 16 r (j - 1)) ∧ I' 4 r 7 = nI (min 12 (q + 1)) ∧ I' 4 r 6 = I 4 r 6 + 1 ∧ I' 4 r 3 = newM (I 13 0) (I 4 r 3) (Fg (I' 16 r)) (min 12 (q + 1)) ∧ I' 4 r 2 = clI (I 4 r 2 + I 4 r 5) 0 200 ∧ I' 4 r 4 = I 4 r 4 ∧ I' 4 r 5 = I 4 r 5
theorem FR.congr {I I0 I' I'' : MI} {r : Nat} {x : Int32} {q : Nat} (h : FR I I' r x q) (h16 : I0 16 r = I 16 r) (h4 : I0 4 r = I 4 r) (h13 : I0 13 0 = I 13 0) (g16 : I'' 16 r = I' 16 r) (g4 : I'' 4 r = I' 4 r) : FR I0 I'' r x q := by
  unfold FR at h ⊢
  rw [h16, h4, h13, g16, g4]
  exact h
theorem izz_add3 {a b c : Int32} : (a - b) + b = a := Int32.sub_add_cancel a b
/-- one runner runs -/
def RO (I I' : MI) (k g : Nat) (least x : Int32) (q : Nat) : Prop := I' 6 0 2 = I 6 0 2 * 1103515245 + 12345 ∧ (∀ j, j ≠ 2 → I' 6 0 j = I 6 0 j) ∧ x = brV I k g + lcU (I 6 0 2 * 1103515245 + 12345) (I 21 0 0) ∧ I' 24 0 k = lcU (I 6 0 2 * 1103515245 + 12345) (I 21 0 0) ∧ I' 23 0 k = I 4 k 3 - least ∧ I' 22 0 k = x - (I 4 k 3 - least) ∧ (∀ t j, t = 22 ∨ t = 23 ∨ t = 24 → j ≠ k → I' t 0 j = I t 0 j) ∧ FR I I' k x q ∧ ∀ t r, ¬ (t = 6 ∧ r = 0) → ¬ ((t = 22 ∨ t = 23 ∨ t = 24) ∧ r = 0) → ¬ (r = k ∧ (t = 4 ∨ t = 16)) → I' t r = I t r
theorem s_runOne {Q : MI → MJ → Prop} {k g q : Nat} {least : Int32} (hk : k < 8) (hg : g < 3) (hq : q ≤ 12) (e7 : I 4 k 7 = nI q) (hu : RuB (I 13 0)) (hit : It I) (h2 : bd (I 4 k 2) 0 200) (h3 : bd (I 4 k 3) 0 200) (h15 : bd (I 15 k g) (-20) 20) (hf : ∀ j, j < q → bd (I 16 k j) (-1000) 1000) (hQ : ∀ I' x, RO I I' k g least x q → Q I' J) : wp_X7_runOne Q I J (nI k) (nI g) least := by
  have hv : vp_in (nI k) 8 := vp_in_nI (by omega) (by decide)
  unfold wp_X7_runOne wp_X6_nextLot
  rw [nI_clamp (by omega), up3_y]
  simp only [Nat.mul_zero, Nat.zero_add]
  generalize hL : I 6 0 2 * 1103515245 + 12345 = L
  have ht0 := hit.2.1
  refine ⟨hv, ?_, hv, fun I5 e5 => ⟨hv, s_bare hg ⟨hv, fun x ex => ⟨hv, hv, ?_⟩⟩⟩⟩
  · obtain ⟨a, ea, a1, a2⟩ := bd_ex ht0
    rw [ea, zl2, zl1, zl0, iz_mul, iz_add, iz_eq (by omega) (by omega) (by omega) (by omega)]
    omega
  have e5' : I5 = up3 (up3 I 6 0 2 L) 24 0 k (lcU L (I 21 0 0)) := e5
  generalize hI6 : up3 I5 23 0 k (I5 4 k 3 - least) = I6 at ex ⊢
  have o6 : ∀ t r, ¬ (t = 6 ∧ r = 0) → ¬ ((t = 22 ∨ t = 23 ∨ t = 24) ∧ r = 0) → I6 t r = I t r := fun t r r1 r2 => by rw [← hI6, up3_o (by omega), e5', up3_o (by omega), up3_o (by omega)]
  have v24 : I6 24 0 k = lcU L (I 21 0 0) := by rw [← hI6, up3_t (by decide), e5', up3_y]
  have v23 : I6 23 0 k = I 4 k 3 - least := by rw [← hI6, up3_y, e5', up3_t (by decide), up3_t (by decide)]
  have eb : brV I6 k g = brV I k g := by unfold brV; rw [o6 4 k (by omega) (by omega), o6 15 k (by omega) (by omega), o6 21 0 (by omega) (by omega)]
  rw [eb, v24] at ex
  rw [v23]
  generalize hI7 : up3 I6 22 0 k (x - (I 4 k 3 - least)) = I7
  have o7 : ∀ t r, ¬ (t = 6 ∧ r = 0) → ¬ ((t = 22 ∨ t = 23 ∨ t = 24) ∧ r = 0) → I7 t r = I t r := fun t r r1 r2 => by rw [← hI7, up3_o (by omega), o6 t r r1 r2]
  have f4 : I7 4 k = I 4 k := o7 4 k (by omega) (by omega)
  have f16 : I7 16 k = I 16 k := o7 16 k (by omega) (by omega)
  have f13 : I7 13 0 = I 13 0 := o7 13 0 (by omega) (by omega)
  have bx : bd x (-1000) 1000 := by
    obtain ⟨a, ea, a1, a2⟩ := bd_ex (brV_bd (g := g) h2 h15 hit)
    obtain ⟨b, eb2, b1, b2⟩ := bd_ex (lcU_bd (L := L) ht0)
    rw [ex, ea, eb2, iz_add]
    exact bd_iz (by omega) (by omega) (by omega) (by omega)
  refine s_finish hq (by rw [f4]; exact e7) (by rw [f13]; exact hu) (by rw [f4]; exact h3) bx (fun j hj => by rw [f16]; exact hf j hj) (fun I8 hF => hQ I8 x ?_)
  obtain ⟨p1, p2, p3, p4, p5, p6, p7, p8, po⟩ := hF
  have g7 : ∀ t r, ¬ (r = k ∧ (t = 4 ∨ t = 16)) → I8 t r = I7 t r := po
  refine ⟨?_, fun j hj => ?_, by rw [hL]; exact ex, ?_, ?_, ?_, fun t j ht hj => ?_, FR.congr (I := I7) (I' := I8) ⟨p1, p2, p3, p4, p5, p6, p7, p8⟩ f16.symm f4.symm f13.symm rfl rfl, fun t r r1 r2 r3 => by rw [g7 t r r3, o7 t r r1 r2]⟩
  · rw [g7 6 0 (by omega), ← hI7, up3_t (by decide), ← hI6, up3_t (by decide), e5', up3_t (by decide), up3_y, hL]
  · rw [g7 6 0 (by omega), ← hI7, up3_t (by decide), ← hI6, up3_t (by decide), e5', up3_t (by decide), up3_n (by omega)]
  · rw [g7 24 0 (by omega), ← hI7, up3_t (by decide), v24, hL]
  · rw [g7 23 0 (by omega), ← hI7, up3_t (by decide), v23]
  · rw [g7 22 0 (by omega), ← hI7, up3_y]
  · rw [g7 t 0 (by omega), ← hI7, up3_n (by omega), ← hI6, up3_n (by omega), e5', up3_n (by omega), up3_t (by omega)]
/-- who is first of the first j, by what is shown -/
def fsS (s : Nat) (sh : Nat → Int32) : Nat → Option Nat
  | 0 => none
  | j + 1 => if s / 2 ^ j % 2 = 1 then (match fsS s sh j with
      | none => some j
      | some k => if sh j ≤ sh k then some k else some j) else fsS s sh j
def opI (d : Int32) (o : Option Nat) : Int32 := match o with
  | none => d
  | some k => nI k
theorem fsS_in {s : Nat} {sh : Nat → Int32} : ∀ j k, fsS s sh j = some k → k < j ∧ s / 2 ^ k % 2 = 1 := by
  intro j
  induction j with
  | zero => intro k h; exact absurd h (by simp [fsS])
  | succ j ih =>
    intro k h
    have e : fsS s sh (j + 1) = if s / 2 ^ j % 2 = 1 then (match fsS s sh j with
      | none => some j
      | some k => if sh j ≤ sh k then some k else some j) else fsS s sh j := rfl
    rw [e] at h
    by_cases c : s / 2 ^ j % 2 = 1
    · rw [if_pos c] at h
      cases hf : fsS s sh j with
      | none =>
        rw [hf] at h
        obtain rfl : j = k := Option.some.inj h
        exact ⟨by omega, c⟩
      | some i =>
        rw [hf] at h
        have hi := ih i hf
        by_cases c2 : sh j ≤ sh i
        · have : some i = some k := by simpa [c2] using h
          obtain rfl : i = k := Option.some.inj this
          exact ⟨by omega, hi.2⟩
        · have : some j = some k := by simpa [c2] using h
          obtain rfl : j = k := Option.some.inj this
          exact ⟨by omega, c⟩
    · rw [if_neg c] at h
      have := ih k h
      exact ⟨by omega, this.2⟩
theorem fsS_some {s : Nat} {sh : Nat → Int32} : ∀ j, 0 < pcn s j → ∃ k, fsS s sh j = some k := by
  intro j
  induction j with
  | zero => intro h; exact absurd h (by simp [pcn])
  | succ j ih =>
    intro h
    have e : fsS s sh (j + 1) = if s / 2 ^ j % 2 = 1 then (match fsS s sh j with
      | none => some j
      | some k => if sh j ≤ sh k then some k else some j) else fsS s sh j := rfl
    have ep : pcn s (j + 1) = pcn s j + s / 2 ^ j % 2 := rfl
    rw [e]
    by_cases c : s / 2 ^ j % 2 = 1
    · rw [if_pos c]
      cases fsS s sh j with
      | none => exact ⟨j, rfl⟩
      | some i =>
        by_cases c2 : sh j ≤ sh i
        · exact ⟨i, by simp [c2]⟩
        · exact ⟨j, by simp [c2]⟩
    · rw [if_neg c]
      exact ih (by omega)
end CRC
