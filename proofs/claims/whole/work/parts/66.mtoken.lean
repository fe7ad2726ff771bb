def mt (t : Nat) : Nat := if t = 1 then 5 else if 5 ≤ t then 1 else t
def mw (t : Nat) : Nat := if t = 5 then 0 else if t = 7 then 1 else if t = 8 then 2 else if t = 9 then 3 else 4
def mv (b : Nat → Nat) (q : Nat) : Nat → Nat
  | 0 => 0
  | j + 1 => if 999 < mv b q j then mv b q j else 10 * mv b q j + (b (q + j) - 48)
theorem nv_mv (b : Nat → Nat) (q : Nat) : ∀ j, nv b q j = min 1000 (mv b q j) := by
  intro j
  induction j with
  | zero => rfl
  | succ j ih =>
    show min 1000 (10 * nv b q j + (b (q + j) - 48)) = min 1000 (if 999 < mv b q j then mv b q j else 10 * mv b q j + (b (q + j) - 48))
    rw [ih]
    by_cases c : 999 < mv b q j
    · rw [if_pos c]; omega
    · rw [if_neg c]; omega
theorem mv_bd {b : Nat → Nat} {q : Nat} : ∀ j, (∀ i, i < j → isD (b (q + i))) → mv b q j ≤ 9999 := by
  intro j
  induction j with
  | zero => intro _; exact Nat.zero_le _
  | succ j ih =>
    intro h
    have h1 := ih (fun i hi => h i (by omega))
    have h2 : 48 ≤ b (q + j) ∧ b (q + j) ≤ 57 := h j (by omega)
    show (if 999 < mv b q j then mv b q j else 10 * mv b q j + (b (q + j) - 48)) ≤ 9999
    split <;> omega
theorem wf_lo {b : Nat → Nat} {q : Nat} : ∀ j, (∀ i, i < j + 1 → isL (b (q + i))) → 97 * 256 ^ j ≤ wf b q (j + 1) := by
  intro j
  induction j with
  | zero =>
    intro h
    have h2 : 97 ≤ b (q + 0) ∧ b (q + 0) ≤ 122 := h 0 (by omega)
    show 97 * 1 ≤ 256 * 0 + b (q + 0)
    omega
  | succ j ih =>
    intro h
    have h1 := ih (fun i hi => h i (by omega))
    show 97 * 256 ^ (j + 1) ≤ 256 * wf b q (j + 1) + b (q + (j + 1))
    rw [Nat.pow_succ]
    omega
def wo (w : Nat) : Int32 := if w = 1650815860 then 0 else if w = 1836021349 then 1 else if w = 6513008 then 2 else if w = 1870030194 then 3 else if w = 28518 then 4 else -9
/-- what the model knows of a word is what the class knows -/
theorem wo_wt {b : Nat → Nat} {q len : Nat} (h0 : 1 ≤ len) (h : ∀ i, i < len → isL (b (q + i))) : (wt len (wf b q len) = 1 ∧ wo (wf b q (min len 6)) = -9) ∨ (5 ≤ wt len (wf b q len) ∧ ¬ wo (wf b q (min len 6)) = -9 ∧ wo (wf b q (min len 6)) = nI (mw (wt len (wf b q len)))) := by
  by_cases c : len ≤ 4
  · rw [show min len 6 = len by omega]
    unfold wt wo
    rw [if_pos c]
    generalize wf b q len = w
    by_cases c1 : w = 28518
    · subst c1; right; decide
    by_cases c2 : w = 6513008
    · subst c2; right; decide
    by_cases c3 : w = 1650815860
    · subst c3; right; decide
    by_cases c4 : w = 1836021349
    · subst c4; right; decide
    by_cases c5 : w = 1870030194
    · subst c5; right; decide
    left
    rw [if_neg c1, if_neg c2, if_neg c3, if_neg c4, if_neg c5, if_neg c3, if_neg c4, if_neg c2, if_neg c5, if_neg c1]
    exact ⟨rfl, rfl⟩
  · left
    have h1 := wf_lo (b := b) (q := q) (min len 6 - 1) (fun i hi => h i (by omega))
    rw [show min len 6 - 1 + 1 = min len 6 by omega] at h1
    have h2 : 256 ^ 4 ≤ 256 ^ (min len 6 - 1) := Nat.pow_le_pow_right (by decide) (by omega)
    unfold wt wo
    rw [if_neg c]
    generalize wf b q (min len 6) = w at *
    refine ⟨rfl, ?_⟩
    rw [if_neg (by omega), if_neg (by omega), if_neg (by omega), if_neg (by omega), if_neg (by omega)]
section TOKM
variable {I : MI} {J : MJ}
def Mtx (I : MI) (b : Nat → Nat) (n : Nat) : Prop := n ≤ 200 ∧ I 8 0 8 = nI n ∧ ∀ j, j < n → I 30 0 j = nI (b j) ∧ b j < 256
def Ms (I : MI) (s : Nat × Nat × Nat × Nat) : Prop := I 8 0 9 = nI s.1 ∧ I 8 0 11 = nI s.2.1 ∧ I 8 0 10 = nI (mt s.2.2.1) ∧ (s.2.2.1 = 2 → I 8 0 12 = nI s.2.2.2) ∧ (5 ≤ s.2.2.1 → I 8 0 12 = nI (mw s.2.2.1))
def MK (I I' : MI) : Prop := (∀ t, t ≠ 8 → I' t = I t) ∧ I' 8 0 8 = I 8 0 8 ∧ I' 8 0 13 = I 8 0 13 ∧ I' 8 0 14 = I 8 0 14
theorem MK.rf {I : MI} : MK I I := ⟨fun _ _ => rfl, rfl, rfl, rfl⟩
theorem MK.tr {I I' I'' : MI} (h : MK I I') (h' : MK I' I'') : MK I I'' := ⟨fun t ht => (h'.1 t ht).trans (h.1 t ht), h'.2.1.trans h.2.1, h'.2.2.1.trans h.2.2.1, h'.2.2.2.trans h.2.2.2⟩
theorem MK.up {I I' : MI} {k : Nat} {v : Int32} (h : MK I I') (h1 : k ≠ 8 ∧ k ≠ 13 ∧ k ≠ 14) : MK I (up3 I' 8 0 k v) := h.tr ⟨fun t ht => up3_t ht, up3_n (by omega), up3_n (by omega), up3_n (by omega)⟩
theorem Mtx.mk {b : Nat → Nat} {n : Nat} {I' : MI} (h : Mtx I b n) (k : MK I I') : Mtx I' b n := ⟨h.1, by rw [k.2.1]; exact h.2.1, fun j hj => by rw [k.1 30 (by decide)]; exact h.2.2 j hj⟩
def btA (b : Nat → Nat) (n p : Nat) : Int32 := if p < n then nI (b p) else -1
theorem btA_y {b : Nat → Nat} {n p : Nat} (h : p < n) : btA b n p = nI (b p) := if_pos h
theorem btA_n {b : Nat → Nat} {n p : Nat} (h : ¬ p < n) : btA b n p = -1 := if_neg h
theorem s_byteAt {Q : Int32 → MI → MJ → Prop} {b : Nat → Nat} {n p : Nat} (hx : Mtx I b n) (hp : p ≤ n) (hQ : Q (btA b n p) I J) : wp_X8_byteAt Q I J (nI p) := by
  obtain ⟨h1, h2, h3⟩ := hx
  unfold wp_X8_byteAt
  rw [h2]
  by_cases c : p < n
  · refine onn (nI_ge c (by omega)) ⟨vp_in_nI (by omega) (by decide), ?_⟩
    rw [nI_clamp (by omega), (h3 p c).1, ← btA_y c]
    exact hQ
  · refine onp (nI_le (by omega) (by omega)) ?_
    rw [← btA_n c (b := b)]
    exact hQ
theorem btA_L {b : Nat → Nat} {n p : Nat} (hb : ∀ j, j < n → b j < 256) : (97 ≤ btA b n p ∧ btA b n p ≤ 122) ↔ (p < n ∧ isL (b p)) := by
  by_cases c : p < n
  · have h := hb p c
    rw [btA_y c, show (97 : Int32) = nI 97 from rfl, show (122 : Int32) = nI 122 from rfl, nI_leI (by omega) (by omega), nI_leI (by omega) (by omega)]
    exact ⟨fun q => ⟨c, q⟩, fun q => q.2⟩
  · rw [btA_n c]
    exact ⟨fun q => absurd q (by decide), fun q => absurd q.1 c⟩
theorem btA_D {b : Nat → Nat} {n p : Nat} (hb : ∀ j, j < n → b j < 256) : (48 ≤ btA b n p ∧ btA b n p ≤ 57) ↔ (p < n ∧ isD (b p)) := by
  by_cases c : p < n
  · have h := hb p c
    rw [btA_y c, show (48 : Int32) = nI 48 from rfl, show (57 : Int32) = nI 57 from rfl, nI_leI (by omega) (by omega), nI_leI (by omega) (by omega)]
    exact ⟨fun q => ⟨c, q⟩, fun q => q.2⟩
  · rw [btA_n c]
    exact ⟨fun q => absurd q (by decide), fun q => absurd q.1 c⟩
theorem btA_32 {b : Nat → Nat} {n p : Nat} (hb : ∀ j, j < n → b j < 256) : btA b n p = 32 ↔ (p < n ∧ b p = 32) := by
  by_cases c : p < n
  · have h := hb p c
    rw [btA_y c, show (32 : Int32) = nI 32 from rfl, nI_eq (by omega) (by omega)]
    exact ⟨fun q => ⟨c, q⟩, fun q => q.2⟩
  · rw [btA_n c]
    exact ⟨fun q => absurd q (by decide), fun q => absurd q.1 c⟩
theorem s_wordOf {Q : Int32 → MI → MJ → Prop} {w : Nat} (hw : w < 2 ^ 63) (hQ : Q (wo w) I J) : wp_X8_wordOf Q I J (lN w) := by
  have n4 : ∀ {Q : Int64 → MI → MJ → Prop} {a b c d : Int32}, ¬ c = 0 → ¬ d = 0 → Q ((256 * ((256 * ((256 * (a.toInt64)) + (b.toInt64))) + (c.toInt64))) + (d.toInt64)) I J → wp_X8_named Q I J a b c d := by
    intro Q a b c d hc hd hQ v1 h
    rw [h]
    exact onn hc (onn hd hQ)
  have n3 : ∀ {Q : Int64 → MI → MJ → Prop} {a b c d : Int32}, ¬ c = 0 → d = 0 → Q ((256 * ((256 * (a.toInt64)) + (b.toInt64))) + (c.toInt64)) I J → wp_X8_named Q I J a b c d := by
    intro Q a b c d hc hd hQ v1 h
    rw [h]
    exact onn hc (onp hd hQ)
  have n2 : ∀ {Q : Int64 → MI → MJ → Prop} {a b c d : Int32}, c = 0 → d = 0 → Q ((256 * (a.toInt64)) + (b.toInt64)) I J → wp_X8_named Q I J a b c d := by
    intro Q a b c d hc hd hQ v1 h
    rw [h]
    exact onp hc (onp hd hQ)
  have eq : ∀ {x : Int64} (k : Nat), x = lN k → k < 2 ^ 63 → (lg_cmp (lN w) x = 0 ↔ w = k) := by
    intro x k hx hk
    rw [lg_cmp_eq, hx, pk_lEQ hw hk]
  unfold wo at hQ
  unfold wp_X8_wordOf
  refine n4 (by decide) (by decide) ?_
  rw [eq 1650815860 (by decide) (by omega)]
  by_cases c1 : w = 1650815860
  · rw [if_pos c1] at hQ; exact onp c1 hQ
  rw [if_neg c1] at hQ
  refine onn c1 (n4 (by decide) (by decide) ?_)
  rw [eq 1836021349 (by decide) (by omega)]
  by_cases c2 : w = 1836021349
  · rw [if_pos c2] at hQ; exact onp c2 hQ
  rw [if_neg c2] at hQ
  refine onn c2 (n3 (by decide) (by decide) ?_)
  rw [eq 6513008 (by decide) (by omega)]
  by_cases c3 : w = 6513008
  · rw [if_pos c3] at hQ; exact onp c3 hQ
  rw [if_neg c3] at hQ
  refine onn c3 (n4 (by decide) (by decide) ?_)
  rw [eq 1870030194 (by decide) (by omega)]
  by_cases c4 : w = 1870030194
  · rw [if_pos c4] at hQ; exact onp c4 hQ
  rw [if_neg c4] at hQ
  refine onn c4 (n2 (by decide) (by decide) ?_)
  rw [eq 28518 (by decide) (by omega)]
  by_cases c5 : w = 28518
  · rw [if_pos c5] at hQ; exact onp c5 hQ
  rw [if_neg c5] at hQ
  exact onn c5 hQ
theorem s_mword {Q : MI → MJ → Prop} {b : Nat → Nat} {n q e v : Nat} (hx : Mtx I b n) (hqn : q < n) (hqL : isL (b q)) (h9 : I 8 0 9 = nI q) (h11 : I 8 0 11 = nI q) (he : Rn (fun j => isL (b j)) n q e) (hQ : ∀ I', MK I I' → Ms I' (e, q, wt (e - q) (wf b q (e - q)), v) → Q I' J) : ∃ m : Nat, L_X8_advances_68 Q m I J 0 := by
  obtain ⟨e1, e2, e3, e4⟩ := he
  have hen := e2 (by omega)
  have hn := hx.1
  have hb : ∀ j, j < n → b j < 256 := fun j hj => (hx.2.2 j hj).2
  have hqe : q < e := Classical.byContradiction fun c => e4 ⟨by omega, by rw [show e = q by omega]; exact hqL⟩
  have hL : ∀ i, i < e - q → isL (b (q + i)) := fun i hi => (e3 (q + i) (by omega) (by omega)).2
  have hwb : ∀ j, j ≤ e - q → wf b q (min j 6) < 2 ^ 50 := by
    intro j hj
    rcases wf_bd (b := b) (q := q) (min j 6) (fun i hi => hL i (by omega)) with h | h
    · have : 256 ^ (min j 6 - 1) ≤ 256 ^ 5 := Nat.pow_le_pow_right (by decide) (by omega)
      omega
    · rw [h]; exact Nat.two_pow_pos 50
  have key : ∀ (k j : Nat) (I' : MI), q + j + k = e → MK I I' → I' 8 0 9 = nI (q + j) → I' 8 0 11 = nI q → L_X8_advances_68 Q (k + 1) I' J (lN (wf b q (min j 6))) := by
    intro k
    induction k with
    | zero =>
      intro j I' ee ck g9 g11
      have hx' := hx.mk ck
      show B_X8_advances_68 Q _ I' J _
      unfold B_X8_advances_68
      rw [g9]
      refine s_byteAt hx' (by omega) ?_
      rw [q_in]
      have hno : ¬ (97 ≤ btA b n (q + j) ∧ btA b n (q + j) ≤ 122) := by
        rw [btA_L hb, show q + j = e by omega]; exact e4
      rw [decide_eq_false hno]
      obtain rfl : j = e - q := by omega
      refine onp rfl (s_wordOf (Nat.lt_of_lt_of_le (hwb _ (Nat.le_refl _)) (by decide)) ?_)
      rw [up3_y]
      have e9 : q + (e - q) = e := by omega
      rw [e9] at g9
      rcases wo_wt (b := b) (q := q) (len := e - q) (by omega) hL with ⟨w1, w2⟩ | ⟨w1, w2, w3⟩
      · refine onp w2 (hQ _ ((ck.up (by decide)).up (by decide)) ⟨?_, ?_, ?_, fun q1 => ?_, fun q1 => ?_⟩)
        · show _ = nI e; rw [up3_n (by decide), up3_n (by decide), g9]
        · show _ = nI q; rw [up3_n (by decide), up3_n (by decide), g11]
        · show _ = nI (mt (wt (e - q) (wf b q (e - q)))); rw [up3_y, w1]; rfl
        · have q1 : wt (e - q) (wf b q (e - q)) = 2 := q1; omega
        · have q1 : 5 ≤ wt (e - q) (wf b q (e - q)) := q1; omega
      · refine onn w2 (hQ _ ((ck.up (by decide)).up (by decide)) ⟨?_, ?_, ?_, fun q1 => ?_, fun q1 => ?_⟩)
        · show _ = nI e; rw [up3_n (by decide), up3_n (by decide), g9]
        · show _ = nI q; rw [up3_n (by decide), up3_n (by decide), g11]
        · show _ = nI (mt (wt (e - q) (wf b q (e - q))))
          rw [up3_y]
          unfold mt
          rw [if_neg (by omega), if_pos w1]
          rfl
        · have q1 : wt (e - q) (wf b q (e - q)) = 2 := q1; omega
        · show _ = nI (mw (wt (e - q) (wf b q (e - q))))
          rw [up3_n (by decide), up3_y]; exact w3
    | succ k ih =>
      intro j I' ee ck g9 g11
      have hx' := hx.mk ck
      obtain ⟨a1, a2⟩ := e3 (q + j) (by omega) (by omega)
      show B_X8_advances_68 Q _ I' J _
      unfold B_X8_advances_68
      rw [g9]
      refine s_byteAt hx' (by omega) ?_
      rw [q_in, decide_eq_true ((btA_L hb).mpr ⟨a1, a2⟩), g9, g11]
      refine onn (by decide) ?_
      rw [pk_sub (by omega), show q + j - q = j by omega]
      have go : ∀ x : Int64, x = lN (wf b q (min (j + 1) 6)) → J_X8_advances_119 Q (L_X8_advances_68 Q (k + 1)) I' J x := by
        intro x ex
        unfold J_X8_advances_119
        rw [g9, nI_1, ex]
        exact ih (j + 1) _ (by omega) (ck.up (by decide)) up3_y (by rw [up3_n (by decide)]; exact g11)
      by_cases c : 6 ≤ j
      · refine onp (nI_le (a := 6) c (by omega)) (go _ ?_)
        rw [show min j 6 = min (j + 1) 6 by omega]
      · refine onn (nI_ge (b := 6) (by omega) (by omega)) (s_byteAt hx' (by omega) (go _ ?_))
        have hbj := hb _ a1
        rw [btA_y a1, nI_l (by omega), show (256 : Int64) = lN 256 from rfl, lN_mul, lN_add, show min j 6 = j by omega, show min (j + 1) 6 = j + 1 by omega]
        rfl
  exact ⟨e - q + 1, key (e - q) 0 I (by omega) MK.rf h9 h11⟩
theorem s_mnumber {Q : MI → MJ → Prop} {b : Nat → Nat} {n q e v t : Nat} (hx : Mtx I b n) (hqn : q < n) (h9 : I 8 0 9 = nI q) (h11 : I 8 0 11 = nI q) (h12 : I 8 0 12 = 0) (he : Rn (fun j => isD (b j)) n q e) (hv : v = nv b q (e - q)) (ht : t = if (b q = 48 ∧ 1 < e - q) ∨ 999 < nv b q (e - q) then 1 else 2) (hQ : ∀ I', MK I I' → Ms I' (e, q, t, v) → Q I' J) : ∃ m : Nat, L_X8_advances_178 Q m I J (nI (b q)) := by
  obtain ⟨e1, e2, e3, e4⟩ := he
  have hen := e2 (by omega)
  have hn := hx.1
  have hb : ∀ j, j < n → b j < 256 := fun j hj => (hx.2.2 j hj).2
  have hD : ∀ i, i < e - q → isD (b (q + i)) := fun i hi => (e3 (q + i) (by omega) (by omega)).2
  have key : ∀ (k j : Nat) (I' : MI), q + j + k = e → MK I I' → I' 8 0 9 = nI (q + j) → I' 8 0 11 = nI q → I' 8 0 12 = nI (mv b q j) → L_X8_advances_178 Q (k + 1) I' J (nI (b q)) := by
    intro k
    induction k with
    | zero =>
      intro j I' ee ck g9 g11 g12
      have hx' := hx.mk ck
      have hbq := hb q hqn
      show B_X8_advances_178 Q _ I' J _
      unfold B_X8_advances_178
      rw [g9]
      refine s_byteAt hx' (by omega) ?_
      have hno : ¬ (48 ≤ btA b n (q + j) ∧ btA b n (q + j) ≤ 57) := by
        rw [btA_D hb, show q + j = e by omega]; exact e4
      rw [q_in, decide_eq_false hno]
      refine onp rfl ?_
      obtain rfl : j = e - q := by omega
      have e9 : q + (e - q) = e := by omega
      rw [e9] at g9
      have hmb := mv_bd (b := b) (q := q) (e - q) hD
      have hnm := nv_mv b q (e - q)
      have fin : ∀ x : Nat, x = mt t → (t = 2 → v = mv b q (e - q)) → t < 5 → Q (up3 I' 8 0 10 (nI x)) J := by
        intro x ex hvv h5
        refine hQ _ (ck.up (by decide)) ⟨?_, ?_, ?_, fun q1 => ?_, fun q1 => ?_⟩
        · show _ = nI e; rw [up3_n (by decide), g9]
        · show _ = nI q; rw [up3_n (by decide), g11]
        · show _ = nI (mt t); rw [up3_y, ex]
        · show _ = nI v; rw [up3_n (by decide), g12, hvv q1]
        · have q1 : 5 ≤ t := q1; omega
      rw [g9, g11, g12, pk_sub e1, lkG (x := 999) (k := 999) rfl (by omega) (by omega), lkE (x := 48) (k := 48) rfl (by omega) (by omega), lkLe (x := 1) (k := 1) rfl (by omega) (by omega)]
      have bad : t = 1 → Q (up3 I' 8 0 10 5) J := fun q1 => fin 5 (by rw [q1]; rfl) (fun q2 => by omega) (by omega)
      have good : t = 2 → mv b q (e - q) ≤ 999 → Q (up3 I' 8 0 10 2) J := fun q1 q3 => fin 2 (by rw [q1]; rfl) (fun q2 => by omega) (by omega)
      by_cases c1 : 999 < mv b q (e - q)
      · exact onp c1 (bad (by rw [ht, if_pos (by omega)]))
      refine onn c1 ?_
      by_cases c2 : b q = 48
      · refine onp c2 ?_
        by_cases c3 : e - q ≤ 1
        · exact onp c3 (good (by rw [ht, if_neg (by omega)]) (by omega))
        · exact onn c3 (bad (by rw [ht, if_pos (by omega)]))
      · exact onn c2 (good (by rw [ht, if_neg (by omega)]) (by omega))
    | succ k ih =>
      intro j I' ee ck g9 g11 g12
      have hx' := hx.mk ck
      obtain ⟨a1, a2⟩ := e3 (q + j) (by omega) (by omega)
      have a2' : 48 ≤ b (q + j) ∧ b (q + j) ≤ 57 := a2
      have hmb := mv_bd (b := b) (q := q) j (fun i hi => hD i (by omega))
      show B_X8_advances_178 Q _ I' J _
      unfold B_X8_advances_178
      rw [g9]
      refine s_byteAt hx' (by omega) ?_
      rw [q_in, decide_eq_true ((btA_D hb).mpr ⟨a1, a2⟩)]
      refine onn (by decide) ?_
      rw [g12, lkLe (x := 999) (k := 999) rfl (by omega) (by omega), g9]
      have go : ∀ x : Int32, x = nI (mv b q (j + 1)) → J_X8_advances_233 Q (L_X8_advances_178 Q (k + 1)) I' J (nI (b q)) x := by
        intro x ex
        unfold J_X8_advances_233
        rw [up3_n (by decide), g9, nI_1, ex]
        exact ih (j + 1) _ (by omega) ((ck.up (by decide)).up (by decide)) (by rw [up3_y, Nat.add_assoc]) (by rw [up3_n (by decide), up3_n (by decide)]; exact g11) (by rw [up3_n (by decide), up3_y])
      have em : mv b q (j + 1) = if 999 < mv b q j then mv b q j else 10 * mv b q j + (b (q + j) - 48) := rfl
      by_cases c : mv b q j ≤ 999
      · refine onp c (s_byteAt hx' (by omega) (go _ ?_))
        rw [em, if_neg (by omega), btA_y a1, show (10 : Int32) = nI 10 from rfl, pk_mul, nI_add, show (48 : Int32) = nI 48 from rfl, pk_sub (by omega)]
        congr 1
        omega
      · refine onn c (go _ ?_)
        rw [em, if_pos (by omega)]
  exact ⟨e - q + 1, key (e - q) 0 I (by omega) MK.rf h9 h11 h12⟩
theorem s_adv {Q : MI → MJ → Prop} {b : Nat → Nat} {n p : Nat} (hx : Mtx I b n) (hp : p ≤ n) (h9 : I 8 0 9 = nI p) (hQ : ∀ I', MK I I' → Ms I' (tk b n p) → Q I' J) : wp_X8_advances Q I J := by
  have hT := tk_ok b n p
  have hbd := hT.bd hp
  generalize tk b n p = s at *
  obtain ⟨e, q, t, v⟩ := s
  obtain ⟨⟨r1, r2, r3, r4⟩, hT⟩ := hT
  have r1 : p ≤ q := r1
  have r3 : ∀ j, p ≤ j → j < q → j < n ∧ b j = 32 := r3
  have r4 : ¬ (q < n ∧ b q = 32) := r4
  have hbd : e ≤ n ∧ q ≤ n ∧ t ≤ 9 ∧ (t = 2 → v ≤ 999) := hbd
  have hn := hx.1
  have hb : ∀ j, j < n → b j < 256 := fun j hj => (hx.2.2 j hj).2
  have key : ∀ (k j : Nat) (I' : MI), p + j + k = q → MK I I' → I' 8 0 9 = nI (p + j) → L_X8_advances_0 Q (k + 1) I' J := by
    intro k
    induction k with
    | zero =>
      intro j I' ee ck g9
      obtain rfl : q = p + j := by omega
      have hx' := hx.mk ck
      show B_X8_advances_0 Q _ I' J
      unfold B_X8_advances_0
      rw [g9]
      refine s_byteAt hx' (by omega) ?_
      refine onn (fun q1 => r4 ((btA_32 hb).mp q1)) ?_
      rw [g9]
      generalize hI4 : up3 I' 8 0 11 (nI (p + j)) = I4
      have k4 : MK I I4 := by rw [← hI4]; exact ck.up (by decide)
      have f9 : I4 8 0 9 = nI (p + j) := by rw [← hI4, up3_n (by decide)]; exact g9
      have f11 : I4 8 0 11 = nI (p + j) := by rw [← hI4, up3_y]
      have hx4 := hx.mk k4
      rw [f9]
      refine s_byteAt hx4 (by omega) ?_
      rcases hT with ⟨g1, g2', g3⟩ | ⟨g1, g2', g3, g4⟩ | ⟨g1, g2', g3, g4, g5, g6⟩ | ⟨g1, g2', g3, g4, g5⟩
      · have g1 : ¬ p + j < n := g1
        have g2' : e = p + j := g2'
        have g3 : t = 0 := g3
        rw [btA_n g1]
        refine onn (by decide) (hQ _ (k4.up (by decide)) ⟨?_, ?_, ?_, fun q1 => ?_, fun q1 => ?_⟩)
        · show _ = nI e; rw [up3_n (by decide), f9, g2']
        · show _ = nI (p + j); rw [up3_n (by decide), f11]
        · show _ = nI (mt t); rw [up3_y, g3]; rfl
        · have q1 : t = 2 := q1; omega
        · have q1 : 5 ≤ t := q1; omega
      all_goals
        have g1 : p + j < n := g1
        have hbq := hb _ g1
        have h0 : 0 ≤ btA b n (p + j) := by rw [btA_y g1]; exact nI_pos' (by omega)
        refine onp h0 ?_
        rw [q_in]
      · have g4 : t = wt (e - (p + j)) (wf b (p + j) (e - (p + j))) := g4
        rw [decide_eq_true ((btA_L hb).mpr ⟨g1, g2'⟩)]
        refine onn (by decide) (s_mword (v := v) hx4 g1 g2' f9 f11 g3 (fun I5 k5 ms => hQ I5 (k4.tr k5) ?_))
        rw [g4]
        exact ms
      · rw [decide_eq_false (fun q1 => g2' ((btA_L hb).mp q1).2)]
        refine onp rfl ?_
        rw [q_in, decide_eq_true ((btA_D hb).mpr ⟨g1, g3⟩), btA_y g1]
        refine onn (by decide) (s_mnumber (v := v) (t := t) (hx4.mk (MK.rf.up (by decide))) g1 (by rw [up3_n (by decide)]; exact f9) (by rw [up3_n (by decide)]; exact f11) up3_y g4 g5 g6 (fun I5 k5 ms => hQ I5 ((k4.up (by decide)).tr k5) ms))
      · have g4 : e = p + j + 1 := g4
        have g5 : t = if b (p + j) = 47 then 3 else if b (p + j) = 59 then 4 else 1 := g5
        rw [decide_eq_false (fun q1 => g2' ((btA_L hb).mp q1).2)]
        refine onp rfl ?_
        rw [q_in, decide_eq_false (fun q1 => g3 ((btA_D hb).mp q1).2), btA_y g1]
        refine onp rfl ?_
        rw [lkE (x := 47) (k := 47) rfl (by omega) (by omega), lkE (x := 59) (k := 59) rfl (by omega) (by omega), f9, nI_1]
        have last : ∀ x y : Nat, t = y → x = mt y → y ≠ 2 → y < 5 → Q (up3 (up3 I4 8 0 9 (nI (p + j + 1))) 8 0 10 (nI x)) J := by
          intro x y ey ex h2 h5
          refine hQ _ ((k4.up (by decide)).up (by decide)) ⟨?_, ?_, ?_, fun q1 => ?_, fun q1 => ?_⟩
          · show _ = nI e; rw [up3_n (by decide), up3_y, g4]
          · show _ = nI (p + j); rw [up3_n (by decide), up3_n (by decide), f11]
          · show _ = nI (mt t); rw [up3_y, ex, ey]
          · have q1 : t = 2 := q1; omega
          · have q1 : 5 ≤ t := q1; omega
        by_cases c : b (p + j) = 47
        · rw [if_pos c] at g5; exact onp c (last 3 3 g5 rfl (by decide) (by decide))
        · rw [if_neg c] at g5
          refine onn c ?_
          by_cases c2 : b (p + j) = 59
          · rw [if_pos c2] at g5; exact onp c2 (last 4 4 g5 rfl (by decide) (by decide))
          · rw [if_neg c2] at g5; exact onn c2 (last 5 1 g5 rfl (by decide) (by decide))
    | succ k ih =>
      intro j I' ee ck g9
      have hx' := hx.mk ck
      obtain ⟨a1, a2⟩ := r3 (p + j) (by omega) (by omega)
      show B_X8_advances_0 Q _ I' J
      unfold B_X8_advances_0
      rw [g9]
      refine s_byteAt hx' (by omega) (onp ((btA_32 hb).mpr ⟨a1, a2⟩) ?_)
      rw [g9, nI_1]
      exact ih (j + 1) _ (by omega) (ck.up (by decide)) up3_y
  exact ⟨q - p + 1, key (q - p) 0 I (by omega) MK.rf h9⟩
end TOKM
