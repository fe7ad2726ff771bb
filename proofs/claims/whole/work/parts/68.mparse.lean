theorem mt_2 : ∀ t, t ≤ 9 → (mt t = 2 ↔ t = 2) ∧ (mt t = 3 ↔ t = 3) ∧ (mt t = 4 ↔ t = 4) ∧ (mt t = 0 ↔ t = 0) ∧ (mt t = 1 ↔ 5 ≤ t) ∧ mt t ≤ 9 := by decide
theorem mw_kd : ∀ t, t ≤ 9 → 5 ≤ t → kd t = mw t ∧ (mw t = 4 ↔ t = 6) ∧ mw t ≤ 4 := by decide
theorem mM_bit : ∀ M, M < 16 → ∀ k, k < 4 → M / 2 ^ k % 2 = 0 → nI M ||| ((1 : Int32) <<< (nI k &&& 31)) = nI (M + 2 ^ k) := by decide +kernel
section PARM
variable {I I0 : MI} {J : MJ} {b : Nat → Nat} {n : Nat}
def ML (I I' : MI) : Prop := (∀ t, t ≠ 8 → t ≠ 29 → I' t = I t) ∧ I' 8 0 8 = I 8 0 8 ∧ I' 8 0 14 = I 8 0 14 ∧ ∀ j, j < 6 → I' 29 0 j = I 29 0 j
theorem ML.tr {I I' I'' : MI} (h : ML I I') (h' : ML I' I'') : ML I I'' := ⟨fun t a c => (h'.1 t a c).trans (h.1 t a c), h'.2.1.trans h.2.1, h'.2.2.1.trans h.2.2.1, fun j hj => (h'.2.2.2 j hj).trans (h.2.2.2 j hj)⟩
theorem MK.ml {I I' : MI} (h : MK I I') : ML I I' := ⟨fun t a _ => h.1 t a, h.2.1, h.2.2.2, fun j _ => by rw [h.1 29 (by decide)]⟩
/-- the model reads on; the model has met a fault -/
def MS (I0 I : MI) (b : Nat → Nat) (n : Nat) (D : Nat → Nat) (s : Tks) : Prop := ML I0 I ∧ Mtx I b n ∧ (∀ j, j < 6 → I 29 0 (6 + j) = nI (D j)) ∧ Ms I s ∧ Ws n s ∧ I 8 0 13 = -1
def MFt (I0 I : MI) (q : Nat) : Prop := ML I0 I ∧ I 8 0 13 = nI q ∧ q ≤ 200
theorem MFt.up {I0 I : MI} {q j : Nat} {v : Int32} (h : MFt I0 I q) (hj : 6 ≤ j) : MFt I0 (up3 I 29 0 j v) q := ⟨h.1.tr ⟨fun t _ c => up3_t c, up3_n (by omega), up3_n (by omega), fun k hk => up3_n (by omega)⟩, by rw [up3_n (by omega)]; exact h.2.1, h.2.2⟩
theorem MS.up {I0 I : MI} {D : Nat → Nat} {s : Tks} {i v : Nat} {x : Int32} {j : Nat} (h : MS I0 I b n D s) (hx : x = nI v) (hj : j = 6 + i) (hi : i < 6) : MS I0 (up3 I 29 0 j x) b n (dset D i v) s := by
  obtain ⟨k1, k2, k3, k4, k5, k6⟩ := h
  subst hj
  refine ⟨k1.tr ⟨fun t _ c => up3_t c, up3_n (by omega), up3_n (by omega), fun k hk => up3_n (by omega)⟩, ⟨k2.1, by rw [up3_n (by omega)]; exact k2.2.1, fun j hj => by rw [up3_n (by omega)]; exact k2.2.2 j hj⟩, fun j hj => ?_, ⟨by rw [up3_n (by omega)]; exact k4.1, by rw [up3_n (by omega)]; exact k4.2.1, by rw [up3_n (by omega)]; exact k4.2.2.1, fun q => by rw [up3_n (by omega)]; exact k4.2.2.2.1 q, fun q => by rw [up3_n (by omega)]; exact k4.2.2.2.2 q⟩, k5, by rw [up3_n (by omega)]; exact k6⟩
  unfold dset
  by_cases ej : j = i
  · rw [if_pos ej, ej, up3_y, hx]
  · rw [if_neg ej, up3_n (by omega)]; exact k3 j hj
theorem s_wellF {Q : Int32 → MI → MJ → Prop} {q : Nat} (h : MFt I0 I q) (hQ : Q 0 I J) : wp_X8_isWell Q I J := by
  unfold wp_X8_isWell
  rw [h.2.1]
  exact onp (nI_pos' (by have := h.2.2; omega)) hQ
theorem s_wellS {Q : Int32 → MI → MJ → Prop} {D : Nat → Nat} {s : Tks} (h : MS I0 I b n D s) (hQ : Q 1 I J) : wp_X8_isWell Q I J := by
  unfold wp_X8_isWell
  rw [h.2.2.2.2.2]
  exact onn (by decide) hQ
theorem s_takesF {Q : Int32 → MI → MJ → Prop} {q : Nat} {x : Int32} (h : MFt I0 I q) (hQ : Q 0 I J) : wp_X8_takes Q I J x := s_wellF h (onp rfl hQ)
theorem s_tnumF {Q : Int32 → MI → MJ → Prop} {q : Nat} {x y : Int32} (h : MFt I0 I q) (hQ : Q 0 I J) : wp_X8_takesNumber Q I J x y := by
  unfold wp_X8_takesNumber
  rw [q_in]
  exact ⟨fun _ => ⟨fun _ => s_takesF h hQ, fun _ => s_takesF h hQ⟩, fun _ => s_takesF h hQ⟩
theorem s_takes1 {Q : Int32 → MI → MJ → Prop} {D : Nat → Nat} {s : Tks} (h : MS I0 I b n D s) (hQ : ∀ I', MS I0 I' b n D (nx b n s) → Q (I 8 0 12) I' J) : wp_X8_takes Q I J 1 := by
  refine s_wellS h (onn (by decide) (onn (by decide) ?_))
  obtain ⟨k1, k2, k3, k4, k5, k6⟩ := h
  exact s_adv k2 k5.1 k4.1 (fun I' k c => hQ I' ⟨k1.tr k.ml, k2.mk k, fun j hj => by rw [k.1 29 (by decide)]; exact k3 j hj, c, k5.nx, by rw [k.2.2.1]; exact k6⟩)
theorem s_takes0 {Q : Int32 → MI → MJ → Prop} {D : Nat → Nat} {s : Tks} (h : MS I0 I b n D s) (hQ : ∀ I', MFt I0 I' s.2.1 → Q 0 I' J) : wp_X8_takes Q I J 0 := by
  refine s_wellS h (onn (by decide) (onp rfl ?_))
  obtain ⟨k1, k2, k3, k4, k5, k6⟩ := h
  refine hQ _ ⟨k1.tr ⟨fun t c _ => up3_t c, up3_n (by decide), up3_n (by decide), fun j _ => by rw [up3_t (by decide)]⟩, by rw [up3_y]; exact k4.2.1, by have := k5.2.1; have := k2.1; omega⟩
theorem s_tnum {Q : Int32 → MI → MJ → Prop} {D : Nat → Nat} {s : Tks} {lo hi : Nat} {x y : Int32} (ex : x = nI lo) (ey : y = nI hi) (hlo : lo < 2000) (hhi : hi < 2000) (h : MS I0 I b n D s) (h1 : nmOk s lo hi → ∀ I', MS I0 I' b n D (nx b n s) → Q (nI s.2.2.2) I' J) (h0 : ¬ nmOk s lo hi → ∀ I', MFt I0 I' s.2.1 → Q 0 I' J) : wp_X8_takesNumber Q I J x y := by
  subst ex ey
  have h9 := h.2.2.2.2.1.2.2.1
  have hm := mt_2 s.2.2.1 h9
  have e12 := h.2.2.2.1.2.2.2.1
  unfold wp_X8_takesNumber J_X8_takesNumber_25 J_X8_takesNumber_26
  rw [h.2.2.2.1.2.2.1, lkE (x := 2) (k := 2) rfl (by omega) (by omega), hm.1]
  by_cases c : s.2.2.1 = 2
  · have hv := h.2.2.2.2.1.2.2.2 c
    have e12 := e12 c
    refine onp c ?_
    have hin : (nI lo ≤ nI s.2.2.2 ∧ nI s.2.2.2 ≤ nI hi) ↔ (lo ≤ s.2.2.2 ∧ s.2.2.2 ≤ hi) := by rw [nI_leI (by omega) (by omega), nI_leI (by omega) (by omega)]
    rw [q_in, e12]
    by_cases c2 : lo ≤ s.2.2.2 ∧ s.2.2.2 ≤ hi
    · rw [decide_eq_true (hin.mpr c2)]
      refine onn (by decide) (s_takes1 h (fun I' h' => ?_))
      rw [e12]
      exact h1 ⟨c, c2⟩ I' h'
    · rw [decide_eq_false (fun q => c2 (hin.mp q))]
      exact onp rfl (s_takes0 h (fun I' h' => h0 (fun q => c2 q.2) I' h'))
  · exact onn c (s_takes0 h (fun I' h' => h0 (fun q => c q.1) I' h'))
/-- what an item comes to, for the model -/
def MRs (I0 : MI) (J : MJ) (b : Nat → Nat) (n : Nat) (R : Nat ⊕ ((Nat → Nat) × Tks)) (C : MI → MJ → Int32 → Int32 → Prop) (x1 x2 : Int32) : Prop := (∀ q, R = .inl q → ∀ I' x, MFt I0 I' q → C I' J (x1 + 1) x) ∧ (∀ r, R = .inr r → ∀ I', MS I0 I' b n r.1 r.2 → C I' J (x1 + 1) x2)
theorem m_228F {Q : Int32 → MI → MJ → Prop} {C : MI → MJ → Int32 → Int32 → Prop} {q : Nat} {x1 x2 : Int32} (h : MFt I0 I q) (hC : C I J (x1 + 1) x2) : J_X8_rule_228 Q C I J x1 x2 := ⟨fun _ => s_takesF h hC, fun _ => s_takesF h hC⟩
theorem m_228 {Q : Int32 → MI → MJ → Prop} {C : MI → MJ → Int32 → Int32 → Prop} {D : Nat → Nat} {s : Tks} {x1 x2 : Int32} (h : MS I0 I b n D s) (hR : MRs I0 J b n (pFin b n D s) C x1 x2) : J_X8_rule_228 Q C I J x1 x2 := by
  have hm := mt_2 s.2.2.1 h.2.2.2.2.1.2.2.1
  unfold pFin at hR
  unfold J_X8_rule_228 J_X8_rule_242
  rw [h.2.2.2.1.2.2.1, lkE (x := 4) (k := 4) rfl (by omega) (by omega), hm.2.2.1]
  by_cases c : s.2.2.1 = 4
  · rw [if_pos c] at hR
    exact onp c (s_takes1 h (fun I' h' => hR.2 _ rfl I' h'))
  · rw [if_neg c] at hR
    exact onn c (s_takes0 h (fun I' h' => hR.1 _ rfl I' _ h'))
/-- the second half of an item of two numbers: its sign, its second number -/
theorem m_half {Q : Int32 → MI → MJ → Prop} {C : MI → MJ → Int32 → Int32 → Prop} {D : Nat → Nat} {s : Tks} {x1 x2 y : Int32} {i hi v : Nat} (hv : D i = v) (hv' : v < 2000) (hi6 : i + 1 < 6) (hhi : hi < 2000) (ey : y = nI hi) (sg : Nat) (h : MS I0 I b n D s) (hR : MRs I0 J b n (if s.2.2.1 = sg then (if nmOk (nx b n s) v hi then pFin b n (dset D (i + 1) (nx b n s).2.2.2) (nx b n (nx b n s)) else .inl (nx b n s).2.1) else .inl s.2.1) C x1 x2) (x : Int32) (e1 : s.2.2.1 = sg → x = 1) (e0 : ¬ s.2.2.1 = sg → x = 0) :
    wp_X8_takes (fun r26 I26 J26 => wp_X8_takesNumber (fun r27 I27 J27 => J_X8_rule_228 Q C (up3 I27 29 0 (6 + (i + 1)) r27) J27 x1 x2) I26 J26 (I26 29 0 (6 + i)) y) I J x := by
  by_cases c : s.2.2.1 = sg
  · rw [e1 c]
    rw [if_pos c] at hR
    refine s_takes1 h (fun I1 h1 => ?_)
    refine s_tnum (by rw [h1.2.2.1 i (by omega), hv]) ey hv' hhi h1 (fun c2 I2 h2 => ?_) (fun c2 I2 h2 => ?_)
    · rw [if_pos c2] at hR
      exact m_228 (h2.up rfl rfl hi6) hR
    · rw [if_neg c2] at hR
      have h3 := h2.up (j := 6 + (i + 1)) (v := 0) (by omega)
      exact m_228F h3 (hR.1 _ rfl _ _ h3)
  · rw [e0 c]
    rw [if_neg c] at hR
    refine s_takes0 h (fun I1 h1 => s_tnumF h1 ?_)
    have h3 := h1.up (j := 6 + (i + 1)) (v := 0) (by omega)
    exact m_228F h3 (hR.1 _ rfl _ _ h3)
theorem m_halfF {Q : Int32 → MI → MJ → Prop} {C : MI → MJ → Int32 → Int32 → Prop} {x1 x2 y y2 : Int32} {i q : Nat} (h : MFt I0 I q) (hC : ∀ I' x, MFt I0 I' q → C I' J (x1 + 1) x) (x : Int32) : wp_X8_takes (fun r26 I26 J26 => wp_X8_takesNumber (fun r27 I27 J27 => J_X8_rule_228 Q C (up3 I27 29 0 (6 + i) r27) J27 x1 x2) I26 J26 (I26 29 0 y2.toNatClampNeg) y) I J x :=
  s_takesF h (s_tnumF h (m_228F (h.up (by omega)) (hC _ _ (h.up (by omega)))))
theorem m_74 {Q : Int32 → MI → MJ → Prop} {C : MI → MJ → Int32 → Int32 → Prop} {D : Nat → Nat} {M : Nat} {s : Tks} {x1 x : Int32} (hM : M < 16) (h : MS I0 I b n D s) (hR : MRs I0 J b n (pItem b n D M s) C x1 (nI (M + 2 ^ kd s.2.2.1))) (e1 : kd s.2.2.1 < 4 ∧ M / 2 ^ kd s.2.2.1 % 2 = 0 → x = 1) (e0 : ¬ (kd s.2.2.1 < 4 ∧ M / 2 ^ kd s.2.2.1 % 2 = 0) → x = 0) : J_X8_rule_74 Q C I J x1 (nI M) x := by
  have h9 := h.2.2.2.2.1.2.2.1
  have hk := kd_4 h9
  unfold pItem at hR
  unfold J_X8_rule_74 J_X8_rule_123 J_X8_rule_124 J_X8_rule_184
  by_cases c : kd s.2.2.1 < 4 ∧ M / 2 ^ kd s.2.2.1 % 2 = 0
  · rw [e1 c]
    rw [if_pos c] at hR
    refine s_takes1 h (fun I1 h1 v hv => ?_)
    have hmk := mw_kd s.2.2.1 h9 (by omega)
    have e12 := h.2.2.2.1.2.2.2.2 (by omega)
    rw [← hmk.1] at e12
    rw [e12] at hv ⊢
    rw [mM_bit M hM _ c.1 c.2] at hv
    subst hv
    have m9 := fun (s' : Tks) (h' : s'.2.2.1 ≤ 9) => mt_2 s'.2.2.1 h'
    by_cases c5 : s.2.2.1 = 5
    · rw [if_pos c5] at hR
      refine onp (by rw [c5]; rfl) ?_
      unfold pB2 at hR
      refine s_tnum (lo := 1) (hi := 12) rfl rfl (by decide) (by decide) h1 (fun c2 I2 h2 => ?_) (fun c2 I2 h2 => ?_)
      · rw [if_pos c2] at hR
        have h3 := h2.up (i := 0) (j := 6) (v := (nx b n s).2.2.2) rfl rfl (by decide)
        have k9 := h3.2.2.2.2.1.2.2.1
        have hm := m9 _ k9
        have key := fun (x : Int32) => m_half (Q := Q) (C := C) (x1 := x1) (x2 := nI (M + 2 ^ kd s.2.2.1)) (y := 12) (i := 0) (hi := 12) (v := (nx b n s).2.2.2) (by unfold dset; rw [if_pos rfl]) (by have := c2.2.2; omega) (by decide) (by decide) rfl 6 h3 hR x
        rw [h3.2.2.2.1.2.2.1, lkE (x := 1) (k := 1) rfl (by omega) (by omega), hm.2.2.2.2.1]
        by_cases c3 : 5 ≤ (nx b n (nx b n s)).2.2.1
        · have hw := mw_kd _ k9 c3
          rw [h3.2.2.2.1.2.2.2.2 c3, lkE (x := 4) (k := 4) rfl (by omega) (by omega), hw.2.1]
          refine onp c3 ⟨fun q => key 1 (fun _ => rfl) (fun q2 => absurd q q2), fun q => key 0 (fun q2 => absurd q2 q) (fun _ => rfl)⟩
        · exact onn c3 (key 0 (fun q2 => by omega) (fun _ => rfl))
      · rw [if_neg c2] at hR
        have h3 := h2.up (j := 6) (v := 0) (by omega)
        have key := fun (x : Int32) => m_halfF (Q := Q) (C := C) (x1 := x1) (x2 := nI (M + 2 ^ kd s.2.2.1)) (y := 12) (y2 := 6) (i := 1) h3 (fun I' x h' => hR.1 _ rfl I' x h') x
        exact ⟨fun _ => ⟨fun _ => key 1, fun _ => key 0⟩, fun _ => key 0⟩
    rw [if_neg c5] at hR
    have n0 : ¬ nI (kd s.2.2.1) = 0 := by
      have : ∀ t, t ≤ 9 → kd t < 4 → ¬ t = 5 → ¬ nI (kd t) = 0 := by decide
      exact this _ h9 c.1 c5
    refine onn n0 ?_
    by_cases c7 : s.2.2.1 = 7
    · rw [if_pos c7] at hR
      refine onp (by rw [c7]; rfl) ?_
      unfold pB2 at hR
      refine s_tnum (lo := 1) (hi := 20) rfl rfl (by decide) (by decide) h1 (fun c2 I2 h2 => ?_) (fun c2 I2 h2 => ?_)
      · rw [if_pos c2] at hR
        have h3 := h2.up (i := 2) (j := 8) (v := (nx b n s).2.2.2) rfl rfl (by decide)
        have k9 := h3.2.2.2.2.1.2.2.1
        have hm := m9 _ k9
        have key := fun (x : Int32) => m_half (Q := Q) (C := C) (x1 := x1) (x2 := nI (M + 2 ^ kd s.2.2.1)) (y := 20) (i := 2) (hi := 20) (v := (nx b n s).2.2.2) (by unfold dset; rw [if_pos rfl]) (by have := c2.2.2; omega) (by decide) (by decide) rfl 3 h3 hR x
        rw [h3.2.2.2.1.2.2.1, lkE (x := 3) (k := 3) rfl (by omega) (by omega), hm.2.1]
        exact ⟨fun q => key 1 (fun _ => rfl) (fun q2 => absurd q q2), fun q => key 0 (fun q2 => absurd q2 q) (fun _ => rfl)⟩
      · rw [if_neg c2] at hR
        have h3 := h2.up (j := 8) (v := 0) (by omega)
        have key := fun (x : Int32) => m_halfF (Q := Q) (C := C) (x1 := x1) (x2 := nI (M + 2 ^ kd s.2.2.1)) (y := 20) (y2 := 8) (i := 3) h3 (fun I' x h' => hR.1 _ rfl I' x h') x
        exact ⟨fun _ => key 1, fun _ => key 0⟩
    rw [if_neg c7] at hR
    have n1 : ¬ nI (kd s.2.2.1) = 1 := by
      have : ∀ t, t ≤ 9 → kd t < 4 → ¬ t = 7 → ¬ nI (kd t) = 1 := by decide
      exact this _ h9 c.1 c7
    refine onn n1 ?_
    have one : ∀ (i : Nat) (hi : i = 4 ∨ i = 5) (k : Int32), 8 + k = nI (6 + i) → MRs I0 J b n (pB1 b n D (nx b n s) i) C x1 (nI (M + 2 ^ kd s.2.2.1)) → wp_X8_takesNumber (fun r16 I16 J16 => vp_in (8 + k) 12 ∧ (J_X8_rule_228 Q C (up3 I16 29 0 ((8 + k).toNatClampNeg) r16) J16 x1 (nI (M + 2 ^ kd s.2.2.1)))) I1 J 0 200 := by
      intro i hi k ek hR
      have hv : vp_in (8 + k) 12 := by rw [ek]; exact vp_in_nI (by omega) (by decide)
      rw [ek, nI_clamp (by omega)]
      rw [ek] at hv
      unfold pB1 at hR
      refine s_tnum (lo := 0) (hi := 200) rfl rfl (by decide) (by decide) h1 (fun c2 I2 h2 => ⟨hv, ?_⟩) (fun c2 I2 h2 => ⟨hv, ?_⟩)
      · rw [if_pos c2] at hR
        exact m_228 (h2.up rfl rfl (by omega)) hR
      · rw [if_neg c2] at hR
        have h3 := h2.up (j := 6 + i) (v := 0) (by omega)
        exact m_228F h3 (hR.1 _ rfl _ _ h3)
    by_cases c8 : s.2.2.1 = 8
    · rw [if_pos c8] at hR
      exact one 4 (Or.inl rfl) _ (by rw [c8]; rfl) hR
    · rw [if_neg c8] at hR
      have c9 : s.2.2.1 = 9 := by omega
      exact one 5 (Or.inr rfl) _ (by rw [c9]; rfl) hR
  · rw [e0 c]
    rw [if_neg c] at hR
    refine s_takes0 h (fun I1 h1 v hv => onp rfl (s_tnumF h1 ?_))
    have h3 := h1.up (j := 6) (v := 0) (by omega)
    have key := fun (x : Int32) => m_halfF (Q := Q) (C := C) (x1 := x1) (x2 := v) (y := 12) (y2 := 6) (i := 1) h3 (fun I' x h' => hR.1 _ rfl I' x h') x
    exact ⟨fun _ => ⟨fun _ => key 1, fun _ => key 0⟩, fun _ => key 0⟩
theorem m_items {Q : Int32 → MI → MJ → Prop} (hn : n ≤ 200) : ∀ (k it : Nat) (I : MI) (D : Nat → Nat) (M : Nat) (s : Tks), k + it = 5 → M < 16 → pcn M 4 = it → MS I0 I b n D s → (∀ q, pRule b n k D M s it = .inl q → ∀ I', ML I0 I' → Q (iz (-10 - (q : Int))) I' J) → (∀ r, pRule b n k D M s it = .inr r → ∀ I', ML I0 I' → (∀ j, j < 6 → I' 29 0 (6 + j) = nI (r.1 j)) → ∃ m : Nat, L_X8_rule_269 Q m I' J (nI r.2) 0) → L_X8_rule_27 Q (k + 1) I J (nI it) (nI M) := by
  intro k
  induction k with
  | zero => intro it I D M s e hM hp; have := pcn_le M 4; omega
  | succ k ih =>
    intro it I D M s e hM hp h hF hS
    have h9 := h.2.2.2.2.1.2.2.1
    have hm := mt_2 _ h9
    rw [pRule_s] at hF hS
    show B_X8_rule_27 Q _ I J (nI it) (nI M)
    unfold B_X8_rule_27
    refine s_wellS h (onn (by decide) ?_)
    rw [h.2.2.2.1.2.2.1, lkE (x := 0) (k := 0) rfl (by omega) (by omega), lkE (x := 1) (k := 1) rfl (by omega) (by omega), hm.2.2.2.1, hm.2.2.2.2.1]
    by_cases c0 : s.2.2.1 = 0
    · rw [if_pos c0] at hS
      exact onp c0 (s_wellS h (onn (by decide) (hS _ rfl I h.1 h.2.2.1)))
    rw [if_neg c0] at hF hS
    refine onn c0 ?_
    have hR : MRs I0 J b n (pItem b n D M s) (L_X8_rule_27 Q (k + 1)) (nI it) (nI (M + 2 ^ kd s.2.2.1)) := by
      refine ⟨fun q e1 I' x h' => ?_, fun r e1 I' h' => ?_⟩
      · rw [e1] at hF
        show B_X8_rule_27 Q _ I' J _ _
        unfold B_X8_rule_27
        refine s_wellF h' (onp rfl (s_wellF h' (onp rfl ?_)))
        rw [h'.2.1, iz_nI, show (-10 : Int32) = iz (-10) from rfl, iz_sub]
        exact hF q rfl I' h'.1
      · rw [e1] at hF hS
        have hk : kd s.2.2.1 < 4 ∧ M / 2 ^ kd s.2.2.1 % 2 = 0 := by
          unfold pItem at e1
          by_cases c : kd s.2.2.1 < 4 ∧ M / 2 ^ kd s.2.2.1 % 2 = 0
          · exact c
          · rw [if_neg c] at e1; exact absurd e1 (by intro q; cases q)
        have hpc := pc_or M hM _ hk.1 hk.2
        rw [nI_1]
        exact ih (it + 1) I' r.1 (M + 2 ^ kd s.2.2.1) r.2 (by omega) hpc.1 (by omega) h' hF hS
    have hk4 := kd_4 h9
    by_cases c5 : 5 ≤ s.2.2.1
    · refine onp c5 ?_
      have hw := mw_kd _ h9 c5
      rw [h.2.2.2.1.2.2.2.2 c5, ← hw.1]
      have hw1 := hw.1
      by_cases c4 : 4 ≤ kd s.2.2.1
      · exact onp (nI_le (a := 4) c4 (by omega)) (m_74 hM h hR (fun q => by omega) (fun _ => rfl))
      · refine onn (nI_ge (b := 4) (by omega) (by omega)) ?_
        rw [bit_0 (by omega) (by omega)]
        exact ⟨fun q => m_74 hM h hR (fun _ => rfl) (fun q2 => absurd ⟨by omega, q⟩ q2), fun q => m_74 hM h hR (fun q2 => absurd q2.2 q) (fun _ => rfl)⟩
    · exact onn c5 (m_74 hM h hR (fun q => by omega) (fun _ => rfl))
theorem m_copy {Q : Int32 → MI → MJ → Prop} {x : Int32} (hQ : ∀ I', (∀ j, j < 6 → I' 29 0 j = I 29 0 (6 + j)) → (∀ t, t ≠ 8 → t ≠ 29 → I' t = I t) → I' 8 0 8 = 0 → I' 8 0 14 = I 8 0 14 → Q x I' J) : ∃ m : Nat, L_X8_rule_269 Q m I J x 0 := by
  have key : ∀ (k i : Nat) (I' : MI), i + k = 6 → (∀ j, j < i → I' 29 0 j = I 29 0 (6 + j)) → (∀ j, i ≤ j → I' 29 0 j = I 29 0 j) → (∀ t, t ≠ 29 → I' t = I t) → L_X8_rule_269 Q (k + 1) I' J x (nI i) := by
    intro k
    induction k with
    | zero =>
      intro i I' e h1 h2 h3
      obtain rfl : i = 6 := by omega
      refine onp (by decide) (hQ _ (fun j hj => by rw [up3_n (by omega)]; exact h1 j hj) (fun t a c => by rw [up3_t a]; exact h3 t c) up3_y (by rw [up3_n (by decide), h3 8 (by decide)]))
    | succ k ih =>
      intro i I' e h1 h2 h3
      have e6 : 6 + nI i = nI (6 + i) := by rw [show (6 : Int32) = nI 6 from rfl, nI_add]
      refine onn (nI_ge (b := 6) (by omega) (by omega)) ⟨by rw [e6]; exact vp_in_nI (by omega) (by decide), vp_in_nI (by omega) (by decide), ?_⟩
      rw [e6, nI_clamp (by omega), nI_clamp (by omega), nI_1]
      refine ih (i + 1) _ (by omega) (fun j hj => ?_) (fun j hj => by rw [up3_n (by omega)]; exact h2 j (by omega)) (fun t c => by rw [up3_t c]; exact h3 t c)
      by_cases ej : j = i
      · rw [ej, up3_y]; exact h2 _ (by omega)
      · rw [up3_n (by omega)]; exact h1 j (by omega)
  exact ⟨7, key 6 0 I rfl (fun j hj => absurd hj (by omega)) (fun _ _ => rfl) (fun _ _ => rfl)⟩
theorem s_mrule {Q : Int32 → MI → MJ → Prop} (hx : Mtx I b n) (hF : ∀ q, pRule b n 5 D0 0 (tk b n 0) 0 = .inl q → ∀ I', ML I I' → Q (iz (-10 - (q : Int))) I' J) (hS : ∀ r, pRule b n 5 D0 0 (tk b n 0) 0 = .inr r → ∀ I', ML I I' → (∀ j, j < 6 → I' 29 0 (6 + j) = nI (r.1 j)) → ∃ m : Nat, L_X8_rule_269 Q m I' J (nI r.2) 0) : wp_X8_rule Q I J := by
  unfold wp_X8_rule wp_X8_begins
  generalize hI1 : up3 (up3 (up3 I 8 0 0 0) 8 0 13 ((-1))) 8 0 9 0 = I1
  have o1 : ∀ t, t ≠ 8 → I1 t = I t := fun t h => by rw [← hI1, up3_t h, up3_t h, up3_t h]
  have a9 : I1 8 0 9 = 0 := by rw [← hI1, up3_y]
  have a13 : I1 8 0 13 = -1 := by rw [← hI1, up3_n (by decide), up3_y]
  have a8 : I1 8 0 8 = I 8 0 8 := by rw [← hI1, up3_n (by decide), up3_n (by decide), up3_n (by decide)]
  have a14 : I1 8 0 14 = I 8 0 14 := by rw [← hI1, up3_n (by decide), up3_n (by decide), up3_n (by decide)]
  generalize hI2 : up3 (up3 (up3 (up3 (up3 (up3 I1 29 0 6 1) 29 0 7 1) 29 0 8 1) 29 0 9 1) 29 0 10 200) 29 0 11 200 = I2
  have o2 : ∀ t, t ≠ 29 → I2 t = I1 t := fun t h => by rw [← hI2, up3_t h, up3_t h, up3_t h, up3_t h, up3_t h, up3_t h]
  have ml : ML I I2 := ⟨fun t a c => by rw [o2 t c, o1 t a], by rw [o2 8 (by decide)]; exact a8, by rw [o2 8 (by decide)]; exact a14, fun j hj => by rw [← hI2, up3_n (by omega), up3_n (by omega), up3_n (by omega), up3_n (by omega), up3_n (by omega), up3_n (by omega), o1 29 (by decide)]⟩
  have hx2 : Mtx I2 b n := ⟨hx.1, by rw [ml.2.1]; exact hx.2.1, fun j hj => by rw [ml.1 30 (by decide) (by decide)]; exact hx.2.2 j hj⟩
  have hD : ∀ j, j < 6 → I2 29 0 (6 + j) = nI (D0 j) := by
    intro j hj
    rw [← hI2]
    rcases (show j = 0 ∨ j = 1 ∨ j = 2 ∨ j = 3 ∨ j = 4 ∨ j = 5 by omega) with rfl | rfl | rfl | rfl | rfl | rfl
    · rw [up3_n (by decide), up3_n (by decide), up3_n (by decide), up3_n (by decide), up3_n (by decide), up3_y]; rfl
    · rw [up3_n (by decide), up3_n (by decide), up3_n (by decide), up3_n (by decide), up3_y]; rfl
    · rw [up3_n (by decide), up3_n (by decide), up3_n (by decide), up3_y]; rfl
    · rw [up3_n (by decide), up3_n (by decide), up3_y]; rfl
    · rw [up3_n (by decide), up3_y]; rfl
    · rw [up3_y]; rfl
  refine s_adv (p := 0) hx2 (by omega) (by rw [o2 8 (by decide), a9]; rfl) (fun I3 k3 c3 => ⟨6, ?_⟩)
  refine m_items hx.1 5 0 I3 D0 0 (tk b n 0) rfl (by decide) rfl ⟨ml.tr k3.ml, hx2.mk k3, fun j hj => by rw [k3.1 29 (by decide)]; exact hD j hj, c3, (tk_ok b n 0).bd (by omega), by rw [k3.2.2.1, o2 8 (by decide)]; exact a13⟩ hF hS
end PARM
