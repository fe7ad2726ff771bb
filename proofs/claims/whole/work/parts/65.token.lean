/-! the tokens of the text, as both sides see them -/
theorem lkL {c k : Nat} {x : Int32} (hx : x = nI k) (hc : c < 2 ^ 31) (hk : k < 2 ^ 31) : nI c < x ↔ c < k := by rw [hx]; exact nI_ltI hc hk
theorem lkG {c k : Nat} {x : Int32} (hx : x = nI k) (hc : c < 2 ^ 31) (hk : k < 2 ^ 31) : x < nI c ↔ k < c := by rw [hx]; exact nI_ltI hk hc
theorem lkE {c k : Nat} {x : Int32} (hx : x = nI k) (hc : c < 2 ^ 31) (hk : k < 2 ^ 31) : nI c = x ↔ c = k := by rw [hx]; exact nI_eq hc hk
theorem lkLe {c k : Nat} {x : Int32} (hx : x = nI k) (hc : c < 2 ^ 31) (hk : k < 2 ^ 31) : nI c ≤ x ↔ c ≤ k := by rw [hx]; exact nI_leI hc hk
/-- from p on, all of [p, e) have P, and e is the end of that -/
def Rn (P : Nat → Prop) (n p e : Nat) : Prop := p ≤ e ∧ (p ≤ n → e ≤ n) ∧ (∀ j, p ≤ j → j < e → j < n ∧ P j) ∧ ¬ (e < n ∧ P e)
theorem rn_ex (P : Nat → Prop) (n : Nat) : ∀ k p, n - p ≤ k → ∃ e, Rn P n p e := by
  intro k
  induction k with
  | zero => intro p h; exact ⟨p, Nat.le_refl _, fun h => h, fun j h1 h2 => absurd h2 (by omega), fun q => absurd q.1 (by omega)⟩
  | succ k ih =>
    intro p h
    by_cases c : p < n ∧ P p
    · obtain ⟨e, h1, h2, h3, h4⟩ := ih (p + 1) (by omega)
      refine ⟨e, by omega, fun _ => h2 (by omega), fun j g1 g2 => ?_, h4⟩
      by_cases ej : j = p
      · rw [ej]; exact c
      · exact h3 j (by omega) g2
    · exact ⟨p, Nat.le_refl _, fun h => h, fun j h1 h2 => absurd h2 (by omega), c⟩
def isL (c : Nat) : Prop := 97 ≤ c ∧ c ≤ 122
def isD (c : Nat) : Prop := 48 ≤ c ∧ c ≤ 57
/-- letters as a number; digits as a number, at most 1000 -/
def wf (b : Nat → Nat) (q : Nat) : Nat → Nat
  | 0 => 0
  | j + 1 => 256 * wf b q j + b (q + j)
def nv (b : Nat → Nat) (q : Nat) : Nat → Nat
  | 0 => 0
  | j + 1 => min 1000 (10 * nv b q j + (b (q + j) - 48))
def wt (len w : Nat) : Nat := if len ≤ 4 then (if w = 28518 then 6 else if w = 6513008 then 8 else if w = 1650815860 then 5 else if w = 1836021349 then 7 else if w = 1870030194 then 9 else 1) else 1
/-- a token: s = (next, place, kind, value) -/
def Tk (b : Nat → Nat) (n p : Nat) (s : Nat × Nat × Nat × Nat) : Prop :=
  Rn (fun j => b j = 32) n p s.2.1 ∧
  ((¬ s.2.1 < n ∧ s.1 = s.2.1 ∧ s.2.2.1 = 0) ∨
   (s.2.1 < n ∧ isL (b s.2.1) ∧ Rn (fun j => isL (b j)) n s.2.1 s.1 ∧ s.2.2.1 = wt (s.1 - s.2.1) (wf b s.2.1 (s.1 - s.2.1))) ∨
   (s.2.1 < n ∧ ¬ isL (b s.2.1) ∧ isD (b s.2.1) ∧ Rn (fun j => isD (b j)) n s.2.1 s.1 ∧ s.2.2.2 = nv b s.2.1 (s.1 - s.2.1) ∧ s.2.2.1 = if (b s.2.1 = 48 ∧ 1 < s.1 - s.2.1) ∨ 999 < nv b s.2.1 (s.1 - s.2.1) then 1 else 2) ∨
   (s.2.1 < n ∧ ¬ isL (b s.2.1) ∧ ¬ isD (b s.2.1) ∧ s.1 = s.2.1 + 1 ∧ s.2.2.1 = if b s.2.1 = 47 then 3 else if b s.2.1 = 59 then 4 else 1))
theorem tk_ex (b : Nat → Nat) (n p : Nat) : ∃ s, Tk b n p s := by
  obtain ⟨q, hq⟩ := rn_ex (fun j => b j = 32) n (n - p) p (Nat.le_refl _)
  by_cases c1 : q < n
  · by_cases c2 : isL (b q)
    · obtain ⟨e, he⟩ := rn_ex (fun j => isL (b j)) n (n - q) q (Nat.le_refl _)
      exact ⟨(e, q, wt (e - q) (wf b q (e - q)), 0), hq, Or.inr (Or.inl ⟨c1, c2, he, rfl⟩)⟩
    · by_cases c3 : isD (b q)
      · obtain ⟨e, he⟩ := rn_ex (fun j => isD (b j)) n (n - q) q (Nat.le_refl _)
        exact ⟨(e, q, if (b q = 48 ∧ 1 < e - q) ∨ 999 < nv b q (e - q) then 1 else 2, nv b q (e - q)), hq, Or.inr (Or.inr (Or.inl ⟨c1, c2, c3, he, rfl, rfl⟩))⟩
      · exact ⟨(q + 1, q, if b q = 47 then 3 else if b q = 59 then 4 else 1, 0), hq, Or.inr (Or.inr (Or.inr ⟨c1, c2, c3, rfl, rfl⟩))⟩
  · exact ⟨(q, q, 0, 0), hq, Or.inl ⟨c1, rfl, rfl⟩⟩
noncomputable def tk (b : Nat → Nat) (n p : Nat) : Nat × Nat × Nat × Nat := Classical.choose (tk_ex b n p)
theorem tk_ok (b : Nat → Nat) (n p : Nat) : Tk b n p (tk b n p) := Classical.choose_spec (tk_ex b n p)
theorem wt_bd (l w : Nat) : wt l w ≤ 9 ∧ ¬ wt l w = 0 ∧ ¬ wt l w = 2 ∧ ¬ wt l w = 3 ∧ ¬ wt l w = 4 := by
  unfold wt
  repeat' split
  all_goals decide
theorem nv_bd (b : Nat → Nat) (q : Nat) : ∀ j, nv b q j ≤ 1000 := by
  intro j
  cases j with
  | zero => exact Nat.zero_le _
  | succ j => exact Nat.min_le_left _ _
theorem Tk.bd {b : Nat → Nat} {n p : Nat} {s : Nat × Nat × Nat × Nat} (h : Tk b n p s) (hp : p ≤ n) : s.1 ≤ n ∧ s.2.1 ≤ n ∧ s.2.2.1 ≤ 9 ∧ (s.2.2.1 = 2 → s.2.2.2 ≤ 999) := by
  obtain ⟨⟨h1, h2, -, -⟩, h⟩ := h
  have hq := h2 hp
  rcases h with ⟨g1, g2, g3⟩ | ⟨g1, g2, g3, g4⟩ | ⟨g1, g2, g3, g4, g5, g6⟩ | ⟨g1, g2, g3, g4, g5⟩
  · exact ⟨by omega, hq, by omega, fun q => by omega⟩
  · have := wt_bd (s.1 - s.2.1) (wf b s.2.1 (s.1 - s.2.1))
    rw [← g4] at this
    exact ⟨g3.2.1 hq, hq, this.1, fun q => absurd q this.2.2.1⟩
  · refine ⟨g4.2.1 hq, hq, ?_, fun q => ?_⟩
    · rw [g6]; split <;> decide
    · rw [g6] at q
      by_cases c : (b s.2.1 = 48 ∧ 1 < s.1 - s.2.1) ∨ 999 < nv b s.2.1 (s.1 - s.2.1)
      · rw [if_pos c] at q; exact absurd q (by decide)
      · rw [g5]; omega
  · refine ⟨by omega, hq, ?_, fun q => ?_⟩
    · rw [g5]; repeat' split
      all_goals decide
    · rw [g5] at q
      by_cases c : b s.2.1 = 47
      · rw [if_pos c] at q; exact absurd q (by decide)
      · rw [if_neg c] at q
        by_cases c2 : b s.2.1 = 59
        · rw [if_pos c2] at q; exact absurd q (by decide)
        · rw [if_neg c2] at q; exact absurd q (by decide)
theorem wf_bd {b : Nat → Nat} {q : Nat} : ∀ j, (∀ i, i < j → isL (b (q + i))) → wf b q j < 123 * 256 ^ (j - 1) ∨ j = 0 := by
  intro j
  induction j with
  | zero => intro _; exact Or.inr rfl
  | succ j ih =>
    intro h
    left
    have hb := h j (by omega)
    unfold isL at hb
    show 256 * wf b q j + b (q + j) < 123 * 256 ^ (j + 1 - 1)
    rw [Nat.add_sub_cancel]
    rcases ih (fun i hi => h i (by omega)) with h1 | h1
    · cases j with
      | zero => show 256 * 0 + b (q + 0) < 123 * 1; have : wf b q 0 = 0 := rfl; omega
      | succ j =>
        rw [Nat.add_sub_cancel] at h1
        rw [Nat.pow_succ]
        omega
    · subst h1
      show 256 * 0 + b (q + 0) < 123 * 1
      omega
theorem shl_or {w c : Nat} (hw : w < 2 ^ 23) (hc : c < 256) : (nI w <<< ((8 : Int32) &&& 31)) ||| nI c = nI (256 * w + c) := by
  rw [pk_shlN (n := w) ((8 : Int32) &&& 31) 8 (by decide) (by omega)]
  apply Int32.toBitVec_inj.mp
  apply BitVec.eq_of_toNat_eq
  rw [Int32.toBitVec_or, BitVec.toNat_or, pk_tn (by omega), pk_tn (by omega), pk_tn (by omega), Nat.mul_comm w, ← Nat.two_pow_add_eq_or_of_lt (i := 8) hc w]
section TOKC
variable {I : MI} {J : MJ}
/-- the class's text and its token -/
def Ctx (I : MI) (b : Nat → Nat) (n : Nat) : Prop := n ≤ 200 ∧ I 3 0 1 = nI n ∧ ∀ j, j < n → I 14 0 j = nI (b j) ∧ b j < 256
def Cs (I : MI) (s : Nat × Nat × Nat × Nat) : Prop := I 3 0 2 = nI s.1 ∧ I 3 0 3 = nI s.2.1 ∧ I 3 0 4 = nI s.2.2.1 ∧ (s.2.2.1 = 2 → I 3 0 5 = nI s.2.2.2)
/-- only the reading's own places have changed -/
def CK (I I' : MI) : Prop := (∀ t, t ≠ 3 → I' t = I t) ∧ I' 3 0 1 = I 3 0 1 ∧ I' 3 0 6 = I 3 0 6
theorem CK.rf {I : MI} : CK I I := ⟨fun _ _ => rfl, rfl, rfl⟩
theorem CK.tr {I I' I'' : MI} (h : CK I I') (h' : CK I' I'') : CK I I'' := ⟨fun t ht => (h'.1 t ht).trans (h.1 t ht), h'.2.1.trans h.2.1, h'.2.2.trans h.2.2⟩
theorem CK.up {I I' : MI} {k : Nat} {v : Int32} (h : CK I I') (h1 : k ≠ 1) (h6 : k ≠ 6) : CK I (up3 I' 3 0 k v) := h.tr ⟨fun t ht => up3_t ht, up3_n (by omega), up3_n (by omega)⟩
theorem q_isL {Q : Int32 → MI → MJ → Prop} {c : Nat} (hc : c < 256) (h1 : isL c → Q 1 I J) (h0 : ¬ isL c → Q 0 I J) : wp_X3_isLetter Q I J (nI c) := by
  unfold wp_X3_isLetter
  unfold isL at h1 h0
  rw [lkL (x := 97) (k := 97) rfl (by omega) (by omega), lkG (x := 122) (k := 122) rfl (by omega) (by omega)]
  exact ⟨fun q => h0 (by omega), fun q => ⟨fun q2 => h0 (by omega), fun q2 => h1 (by omega)⟩⟩
theorem q_isD {Q : Int32 → MI → MJ → Prop} {c : Nat} (hc : c < 256) (h1 : isD c → Q 1 I J) (h0 : ¬ isD c → Q 0 I J) : wp_X3_isDigit Q I J (nI c) := by
  unfold wp_X3_isDigit
  unfold isD at h1 h0
  rw [lkL (x := 48) (k := 48) rfl (by omega) (by omega), lkG (x := 57) (k := 57) rfl (by omega) (by omega)]
  exact ⟨fun q => h0 (by omega), fun q => ⟨fun q2 => h0 (by omega), fun q2 => h1 (by omega)⟩⟩
theorem Ctx.ck {b : Nat → Nat} {n : Nat} {I' : MI} (h : Ctx I b n) (k : CK I I') : Ctx I' b n := ⟨h.1, by rw [k.2.1]; exact h.2.1, fun j hj => by rw [k.1 14 (by decide)]; exact h.2.2 j hj⟩
theorem s_word {Q : Int32 → MI → MJ → Prop} {b : Nat → Nat} {n q e : Nat} (hx : Ctx I b n) (hqn : q ≤ n) (h2 : I 3 0 2 = nI q) (h3 : I 3 0 3 = nI q) (he : Rn (fun j => isL (b j)) n q e) (hQ : ∀ I', CK I I' → I' 3 0 2 = nI e → I' 3 0 3 = nI q → Q (nI (wt (e - q) (wf b q (e - q)))) I' J) : wp_X3_wordToken Q I J := by
  obtain ⟨e1, e2, e3, e4⟩ := he
  have hen := e2 hqn
  have hn := hx.1
  have fin : ∀ (I' : MI) (x : Int32), CK I I' → I' 3 0 2 = nI e → I' 3 0 3 = nI q → (e - q ≤ 4 → x = nI (wf b q (e - q))) → J_X3_wordToken_56 Q I' J x := by
    intro I' x k g2 g3 gx
    have hq := hQ I' k g2 g3
    unfold J_X3_wordToken_56
    rw [g2, g3, pk_sub e1, lkLe (x := 4) (k := 4) rfl (by omega) (by omega)]
    unfold wt at hq
    by_cases c : e - q ≤ 4
    · rw [if_pos c] at hq
      refine onp c ?_
      have hw : wf b q (e - q) < 2 ^ 31 := by
        rcases wf_bd (b := b) (q := q) (e - q) (fun i hi => (e3 (q + i) (by omega) (by omega)).2) with h | h
        · have : 256 ^ (e - q - 1) ≤ 256 ^ 3 := Nat.pow_le_pow_right (by decide) (by omega)
          omega
        · rw [h]; exact Nat.two_pow_pos 31
      rw [gx c]
      generalize wf b q (e - q) = w at *
      rw [lkE (x := 28518) (k := 28518) rfl hw (by omega), lkE (x := 6513008) (k := 6513008) rfl hw (by omega), lkE (x := 1650815860) (k := 1650815860) rfl hw (by omega), lkE (x := 1836021349) (k := 1836021349) rfl hw (by omega), lkE (x := 1870030194) (k := 1870030194) rfl hw (by omega)]
      by_cases c1 : w = 28518
      · rw [if_pos c1] at hq; exact onp c1 hq
      rw [if_neg c1] at hq
      refine onn c1 ?_
      by_cases c2 : w = 6513008
      · rw [if_pos c2] at hq; exact onp c2 hq
      rw [if_neg c2] at hq
      refine onn c2 ?_
      by_cases c3 : w = 1650815860
      · rw [if_pos c3] at hq; exact onp c3 hq
      rw [if_neg c3] at hq
      refine onn c3 ?_
      by_cases c4 : w = 1836021349
      · rw [if_pos c4] at hq; exact onp c4 hq
      rw [if_neg c4] at hq
      refine onn c4 ?_
      by_cases c5 : w = 1870030194
      · rw [if_pos c5] at hq; exact onp c5 hq
      rw [if_neg c5] at hq
      exact onn c5 hq
    · rw [if_neg c] at hq
      exact onn c hq
  have key : ∀ (k j : Nat) (I' : MI) (x : Int32), q + j + k = e → CK I I' → I' 3 0 2 = nI (q + j) → I' 3 0 3 = nI q → (j ≤ 4 → x = nI (wf b q j)) → L_X3_wordToken_2 Q (k + 1) I' J x := by
    intro k
    induction k with
    | zero =>
      intro j I' x ee ck g2 g3 gx
      have f := fin I' x ck (by rw [g2]; congr 1) g3 (fun c => by rw [gx (by omega)]; congr 2; omega)
      have hx' := hx.ck ck
      show B_X3_wordToken_2 Q _ I' J x
      unfold B_X3_wordToken_2
      rw [hx'.2.1, g2]
      by_cases c : n ≤ q + j
      · exact onp (nI_le c (by omega)) f
      · refine onn (nI_ge (by omega) (by omega)) ⟨vp_in_nI (by omega) (by decide), ?_⟩
        obtain ⟨b1, b2⟩ := hx'.2.2 (q + j) (by omega)
        rw [nI_clamp (by omega), b1]
        refine q_isL b2 (fun q1 => absurd ⟨by omega, by rw [show e = q + j by omega]; exact q1⟩ e4) (fun q1 => onp rfl f)
    | succ k ih =>
      intro j I' x ee ck g2 g3 gx
      have hx' := hx.ck ck
      obtain ⟨a1, a2⟩ := e3 (q + j) (by omega) (by omega)
      obtain ⟨b1, b2⟩ := hx'.2.2 (q + j) a1
      show B_X3_wordToken_2 Q _ I' J x
      unfold B_X3_wordToken_2
      rw [hx'.2.1, g2]
      refine onn (nI_ge (by omega) (by omega)) ⟨vp_in_nI (by omega) (by decide), ?_⟩
      rw [nI_clamp (by omega), b1]
      refine q_isL b2 (fun _ => onn (by decide) ⟨by rw [g2]; exact vp_in_nI (by omega) (by decide), fun v hv => ?_⟩) (fun q1 => absurd a2 q1)
      rw [g2, nI_clamp (by omega), b1] at hv
      rw [g2, nI_1]
      refine ih (j + 1) _ v (by omega) (ck.up (by decide) (by decide)) up3_y (by rw [up3_n (by decide)]; exact g3) (fun c => ?_)
      rw [hv, gx (by omega)]
      refine shl_or ?_ b2
      rcases wf_bd (b := b) (q := q) j (fun i hi => (e3 (q + i) (by omega) (by omega)).2) with h | h
      · have : 256 ^ (j - 1) ≤ 256 ^ 2 := Nat.pow_le_pow_right (by decide) (by omega)
        omega
      · rw [h]; exact Nat.two_pow_pos 23
  exact ⟨e - q + 1, key (e - q) 0 I 0 (by omega) CK.rf h2 h3 (fun _ => rfl)⟩
theorem s_number {Q : Int32 → MI → MJ → Prop} {b : Nat → Nat} {n q e : Nat} (hx : Ctx I b n) (hqn : q < n) (h2 : I 3 0 2 = nI q) (h3 : I 3 0 3 = nI q) (he : Rn (fun j => isD (b j)) n q e) (hQ : ∀ I', CK I I' → I' 3 0 2 = nI e → I' 3 0 3 = nI q → I' 3 0 5 = nI (nv b q (e - q)) → Q (nI (if (b q = 48 ∧ 1 < e - q) ∨ 999 < nv b q (e - q) then 1 else 2)) I' J) : wp_X3_numberToken Q I J := by
  obtain ⟨e1, e2, e3, e4⟩ := he
  have hen := e2 (by omega)
  have hn := hx.1
  have fin : ∀ (I' : MI), CK I I' → I' 3 0 2 = nI e → I' 3 0 3 = nI q → I' 3 0 5 = nI (nv b q (e - q)) → J_X3_numberToken_74 Q I' J := by
    intro I' k g2 g3 g5
    have hq := hQ I' k g2 g3 g5
    have hb := nv_bd b q (e - q)
    obtain ⟨b1, b2⟩ := (hx.ck k).2.2 q hqn
    have f0 : ¬ (b q = 48 ∧ 1 < e - q) → J_X3_numberToken_106 Q I' J 0 := by
      intro c
      refine onp rfl ?_
      rw [g5, lkLe (x := 999) (k := 999) rfl (by omega) (by omega)]
      by_cases c2 : nv b q (e - q) ≤ 999
      · rw [if_neg (by omega)] at hq; exact onp c2 hq
      · rw [if_pos (Or.inr (by omega))] at hq; exact onn c2 hq
    unfold J_X3_numberToken_74 J_X3_numberToken_105
    rw [g3, g2, nI_clamp (by omega), b1, pk_sub e1, lkLe (x := 1) (k := 1) rfl (by omega) (by omega), lkE (x := 48) (k := 48) rfl (by omega) (by omega)]
    refine ⟨vp_in_nI (by omega) (by decide), ?_⟩
    by_cases c : b q = 48
    · refine onp c ?_
      by_cases c2 : e - q ≤ 1
      · exact onp c2 (f0 (by omega))
      · refine onn c2 (onn (by decide) ?_)
        rw [if_pos (Or.inl ⟨c, by omega⟩)] at hq
        exact hq
    · exact onn c (f0 (fun q1 => c q1.1))
  have key : ∀ (k j : Nat) (I' : MI), q + j + k = e → CK I I' → I' 3 0 2 = nI (q + j) → I' 3 0 3 = nI q → I' 3 0 5 = nI (nv b q j) → L_X3_numberToken_5 Q (k + 1) I' J := by
    intro k
    induction k with
    | zero =>
      intro j I' ee ck g2 g3 g5
      have f := fin I' ck (by rw [g2]; congr 1) g3 (by rw [g5]; congr 2; omega)
      have hx' := hx.ck ck
      show B_X3_numberToken_5 Q _ I' J
      unfold B_X3_numberToken_5
      rw [hx'.2.1, g2]
      by_cases c : n ≤ q + j
      · exact onp (nI_le c (by omega)) f
      · refine onn (nI_ge (by omega) (by omega)) ⟨vp_in_nI (by omega) (by decide), ?_⟩
        obtain ⟨b1, b2⟩ := hx'.2.2 (q + j) (by omega)
        rw [nI_clamp (by omega), b1]
        refine q_isD b2 (fun q1 => absurd ⟨by omega, by rw [show e = q + j by omega]; exact q1⟩ e4) (fun q1 => onp rfl f)
    | succ k ih =>
      intro j I' ee ck g2 g3 g5
      have hx' := hx.ck ck
      obtain ⟨a1, a2⟩ := e3 (q + j) (by omega) (by omega)
      obtain ⟨b1, b2⟩ := hx'.2.2 (q + j) a1
      have a2' : 48 ≤ b (q + j) ∧ b (q + j) ≤ 57 := a2
      have hnb := nv_bd b q j
      show B_X3_numberToken_5 Q _ I' J
      unfold B_X3_numberToken_5
      rw [hx'.2.1, g2]
      refine onn (nI_ge (by omega) (by omega)) ⟨vp_in_nI (by omega) (by decide), ?_⟩
      rw [nI_clamp (by omega), b1]
      refine q_isD b2 (fun _ => onn (by decide) ⟨by rw [g2]; exact vp_in_nI (by omega) (by decide), ?_⟩) (fun q1 => absurd a2 q1)
      have ev : ((10 * nI (nv b q j)) + nI (b (q + j))) - 48 = nI (10 * nv b q j + (b (q + j) - 48)) := by
        rw [show (10 : Int32) = nI 10 from rfl, pk_mul, nI_add, show (48 : Int32) = nI 48 from rfl, pk_sub (by omega)]
        congr 1
        omega
      rw [q_min, g2, g5, nI_clamp (by omega), b1, ev, show (1000 : Int32) = nI 1000 from rfl, mn_nI (by omega) (by omega)]
      refine ih (j + 1) _ (by omega) ((ck.up (by decide) (by decide)).up (by decide) (by decide)) ?_ ?_ ?_
      · rw [up3_y, up3_n (by decide), g2, nI_1, Nat.add_assoc]
      · rw [up3_n (by decide), up3_n (by decide)]; exact g3
      · rw [up3_n (by decide), up3_y]; rfl
  exact ⟨e - q + 1, key (e - q) 0 (up3 I 3 0 5 0) (by omega) (CK.rf.up (by decide) (by decide)) (by rw [up3_n (by decide)]; exact h2) (by rw [up3_n (by decide)]; exact h3) up3_y⟩
theorem s_next3 {Q : MI → MJ → Prop} {b : Nat → Nat} {n p : Nat} (hx : Ctx I b n) (hp : p ≤ n) (h2 : I 3 0 2 = nI p) (hQ : ∀ I', CK I I' → Cs I' (tk b n p) → Q I' J) : wp_X3_next Q I J := by
  have hT := tk_ok b n p
  have hbd := hT.bd hp
  generalize tk b n p = s at *
  obtain ⟨e, q, t, v⟩ := s
  obtain ⟨⟨r1, r2, r3, r4⟩, hT⟩ := hT
  have r1 : p ≤ q := r1
  have r3 : ∀ j, p ≤ j → j < q → j < n ∧ b j = 32 := r3
  have r4 : ¬ (q < n ∧ b q = 32) := r4
  have hbd : e ≤ n ∧ q ≤ n ∧ t ≤ 9 ∧ (t = 2 → v ≤ 999) := hbd
  have hn := hx.1
  have fin : ∀ (I' : MI), CK I I' → I' 3 0 2 = nI q → J_X3_next_38 Q I' J := by
    intro I' k g2
    unfold J_X3_next_38
    generalize hI4 : up3 I' 3 0 3 (I' 3 0 2) = I4
    have k4 : CK I I4 := by rw [← hI4]; exact k.up (by decide) (by decide)
    have f2 : I4 3 0 2 = nI q := by rw [← hI4, up3_n (by decide)]; exact g2
    have f3 : I4 3 0 3 = nI q := by rw [← hI4, up3_y]; exact g2
    have hx4 := hx.ck k4
    rw [f2, hx4.2.1]
    rcases hT with ⟨g1, g2', g3⟩ | ⟨g1, g2', g3, g4⟩ | ⟨g1, g2', g3, g4, g5, g6⟩ | ⟨g1, g2', g3, g4, g5⟩
    · have g1 : ¬ q < n := g1
      have g2' : e = q := g2'
      have g3 : t = 0 := g3
      refine onn (nI_nlt (by omega) (by omega)) (hQ _ (k4.up (by decide) (by decide)) ⟨?_, ?_, ?_, fun q1 => ?_⟩)
      · show _ = nI e; rw [up3_n (by decide), f2, g2']
      · show _ = nI q; rw [up3_n (by decide), f3]
      · show _ = nI t; rw [up3_y, g3]; rfl
      · have q1 : t = 2 := q1; omega
    all_goals
      have g1 : q < n := g1
      obtain ⟨b1, b2⟩ := hx4.2.2 q g1
      refine onp (nI_lt (by omega) (by omega)) ⟨vp_in_nI (by omega) (by decide), ?_⟩
      rw [nI_clamp (by omega), b1]
    · have g4 : t = wt (e - q) (wf b q (e - q)) := g4
      refine q_isL b2 (fun _ => onn (by decide) ?_) (fun q1 => absurd g2' q1)
      refine s_word hx4 (by omega) f2 f3 g3 (fun I5 k5 c2 c3 => hQ _ ((k4.tr k5).up (by decide) (by decide)) ⟨?_, ?_, ?_, fun q1 => ?_⟩)
      · show _ = nI e; rw [up3_n (by decide), c2]
      · show _ = nI q; rw [up3_n (by decide), c3]
      · show _ = nI t; rw [up3_y, g4]
      · have q1 : t = 2 := q1
        exact absurd (g4.symm.trans q1) (wt_bd _ _).2.2.1
    · have g5 : v = nv b q (e - q) := g5
      have g6 : t = if (b q = 48 ∧ 1 < e - q) ∨ 999 < nv b q (e - q) then 1 else 2 := g6
      refine q_isL b2 (fun q1 => absurd q1 g2') (fun _ => onp rfl ⟨by rw [f2]; exact vp_in_nI (by omega) (by decide), ?_⟩)
      rw [f2, nI_clamp (by omega), b1]
      refine q_isD b2 (fun _ => onn (by decide) ?_) (fun q1 => absurd g3 q1)
      refine s_number hx4 g1 f2 f3 g4 (fun I5 k5 c2 c3 c5 => hQ _ ((k4.tr k5).up (by decide) (by decide)) ⟨?_, ?_, ?_, fun q1 => ?_⟩)
      · show _ = nI e; rw [up3_n (by decide), c2]
      · show _ = nI q; rw [up3_n (by decide), c3]
      · show _ = nI t; rw [up3_y, g6]
      · show _ = nI v; rw [up3_n (by decide), c5, g5]
    · have g4 : e = q + 1 := g4
      have g5 : t = if b q = 47 then 3 else if b q = 59 then 4 else 1 := g5
      refine q_isL b2 (fun q1 => absurd q1 g2') (fun _ => onp rfl ⟨by rw [f2]; exact vp_in_nI (by omega) (by decide), ?_⟩)
      rw [f2, nI_clamp (by omega), b1]
      refine q_isD b2 (fun q1 => absurd q1 g3) (fun _ => onp rfl ⟨by rw [f2]; exact vp_in_nI (by omega) (by decide), ?_⟩)
      rw [f2, nI_clamp (by omega), b1, lkE (x := 47) (k := 47) rfl (by omega) (by omega), lkE (x := 59) (k := 59) rfl (by omega) (by omega)]
      have last : ∀ x : Nat, t = x → x ≠ 2 → J_X3_next_155 Q I4 J (nI x) := by
        intro x ex hx2
        refine hQ _ ((k4.up (by decide) (by decide)).up (by decide) (by decide)) ⟨?_, ?_, ?_, fun q1 => absurd (ex.symm.trans q1) hx2⟩
        · show _ = nI e; rw [up3_y, up3_n (by decide), f2, nI_1, g4]
        · show _ = nI q; rw [up3_n (by decide), up3_n (by decide), f3]
        · show _ = nI t; rw [up3_n (by decide), up3_y, ex]
      by_cases c : b q = 47
      · rw [if_pos c] at g5; exact onp c (last 3 g5 (by decide))
      · rw [if_neg c] at g5
        refine onn c ⟨vp_in_nI (by omega) (by decide), ?_⟩
        by_cases c2 : b q = 59
        · rw [if_pos c2] at g5; exact onp c2 (last 4 g5 (by decide))
        · rw [if_neg c2] at g5; exact onn c2 (last 1 g5 (by decide))
  have key : ∀ (k j : Nat) (I' : MI), p + j + k = q → CK I I' → I' 3 0 2 = nI (p + j) → L_X3_next_0 Q (k + 1) I' J := by
    intro k
    induction k with
    | zero =>
      intro j I' ee ck g2
      have f := fin I' ck (by rw [g2]; congr 1)
      have hx' := hx.ck ck
      show B_X3_next_0 Q _ I' J
      unfold B_X3_next_0
      rw [hx'.2.1, g2]
      by_cases c : n ≤ p + j
      · exact onp (nI_le c (by omega)) f
      · obtain ⟨b1, b2⟩ := hx'.2.2 (p + j) (by omega)
        refine onn (nI_ge (by omega) (by omega)) ⟨vp_in_nI (by omega) (by decide), ?_⟩
        rw [nI_clamp (by omega), b1, lkE (x := 32) (k := 32) rfl (by omega) (by omega)]
        exact onn (fun q1 => r4 ⟨by omega, by rw [show q = p + j by omega]; exact q1⟩) f
    | succ k ih =>
      intro j I' ee ck g2
      have hx' := hx.ck ck
      obtain ⟨a1, a2⟩ := r3 (p + j) (by omega) (by omega)
      obtain ⟨b1, b2⟩ := hx'.2.2 (p + j) a1
      show B_X3_next_0 Q _ I' J
      unfold B_X3_next_0
      rw [hx'.2.1, g2]
      refine onn (nI_ge (by omega) (by omega)) ⟨vp_in_nI (by omega) (by decide), ?_⟩
      rw [nI_clamp (by omega), b1, a2]
      refine onp rfl ?_
      rw [nI_1]
      exact ih (j + 1) _ (by omega) (ck.up (by decide) (by decide)) up3_y
  exact ⟨q - p + 1, key (q - p) 0 I (by omega) CK.rf h2⟩
end TOKC
