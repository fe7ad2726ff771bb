/-! what stays -/
def Only (ts : List Nat) (I I' : MI) : Prop := ∀ t, t ∉ ts → I' t = I t
theorem Only.rf {ts : List Nat} {I : MI} : Only ts I I := fun _ _ => rfl
theorem Only.up {ts : List Nat} {I I' : MI} {t r k : Nat} {v : Int32} (h : Only ts I I') (ht : t ∈ ts) : Only ts I (up3 I' t r k v) := fun t' h' => by
  rw [up3_t (fun (e : t' = t) => h' (by rw [e]; exact ht))]
  exact h t' h'
theorem Only.row {ts : List Nat} {I I' : MI} {t r : Nat} {f : Nat → Int32} (h : Only ts I I') (ht : t ∈ ts) : Only ts I (row3 I' t r f) := fun t' h' => by
  rw [row3_t (fun (e : t' = t) => h' (by rw [e]; exact ht))]
  exact h t' h'
theorem Only.tr {ts : List Nat} {I I' I'' : MI} (h : Only ts I I') (h' : Only ts I' I'') : Only ts I I'' := fun t ht => (h' t ht).trans (h t ht)
theorem Only.wide {ts ts' : List Nat} {I I' : MI} (h : Only ts I I') (hs : ∀ t ∈ ts, t ∈ ts') : Only ts' I I' := fun t ht => h t (fun q => ht (hs t q))
theorem YR.cg {I I' : MI} {y T B : Nat} (hy : y < 3) (h6 : I' 6 y = I 6 y) (hr : ∀ r, r < 24 → I' 4 r = I 4 r ∧ I' 15 r = I 15 r ∧ I' 16 r = I 16 r) (hT : I' T 0 = I T 0) (h : YR I y T B) : YR I' y T B := by
  obtain ⟨n, h1, h2, h3, h5, h7, h8⟩ := h
  refine ⟨n, h1, by rw [h6]; exact h2, by rw [hT]; exact h3, by rw [hT, h6]; exact h5, by rw [hT, h6]; exact h7, fun k hk => ?_⟩
  obtain ⟨e1, e2, e3⟩ := hr (8 * y + k) (by omega)
  exact (h8 k hk).congr e1 e2 e3 hT
theorem Ii.cg {I I' : MI} (h6 : ∀ b, b < 2 → I' 6 (1 + b) = I 6 (1 + b)) (hr : ∀ r, r < 24 → I' 4 r = I 4 r ∧ I' 15 r = I 15 r ∧ I' 16 r = I 16 r) (h26 : I' 26 = I 26) (h27 : I' 27 = I 27) (h : Ii I) : Ii I' := fun b hb => by
  obtain ⟨h1, h2, h3⟩ := h b hb
  rw [h27, h6 b hb]
  exact ⟨h1, h2, fun q => (h3 q).cg (by omega) (h6 b hb) hr (by rw [h26])⟩
section ONLY
variable {ts : List Nat} {I I' : MI}
theorem Only.y (ho : Only ts I I') (h : YR I 0 25 0) (ht : 4 ∉ ts ∧ 6 ∉ ts ∧ 15 ∉ ts ∧ 16 ∉ ts ∧ 25 ∉ ts) : YR I' 0 25 0 := h.congr (by rw [ho _ ht.2.1]) (ho _ ht.1) (ho _ ht.2.2.1) (ho _ ht.2.2.2.1) (by rw [ho _ ht.2.2.2.2])
theorem Only.i (ho : Only ts I I') (h : Ii I) (ht : 4 ∉ ts ∧ 6 ∉ ts ∧ 15 ∉ ts ∧ 16 ∉ ts ∧ 26 ∉ ts ∧ 27 ∉ ts) : Ii I' := h.congr (fun _ _ => by rw [ho _ ht.2.1]) (ho _ ht.1) (ho _ ht.2.2.1) (ho _ ht.2.2.2.1) (ho _ ht.2.2.2.2.1) (ho _ ht.2.2.2.2.2)
theorem Only.t (ho : Only ts I I') (h : It I) (ht : 28 ∉ ts ∧ 21 ∉ ts) : It I' := h.congr (ho _ ht.1) (ho _ ht.2)
theorem Only.u (ho : Only ts I I') (h : Iu I) (ht : 29 ∉ ts ∧ 13 ∉ ts) : Iu I' := h.congr (fun _ _ => by rw [ho _ ht.1]) (by rw [ho _ ht.2])
theorem Only.x (ho : Only ts I I') (h : Ix I) (ht : 3 ∉ ts ∧ 30 ∉ ts ∧ 14 ∉ ts) (h8 : I' 8 0 8 = I 8 0 8) : Ix I' := h.congr (by rw [ho _ ht.1]) h8 (ho _ ht.2.1) (ho _ ht.2.2)
theorem Only.l (ho : Only ts I I') (h : Il I) (ht : 7 ∉ ts ∧ 31 ∉ ts ∧ 22 ∉ ts ∧ 23 ∉ ts ∧ 24 ∉ ts) (h8 : I' 8 0 14 = I 8 0 14) : Il I' := h.congr h8 (ho _ ht.1) (ho _ ht.2.1) (ho _ ht.2.2.1) (ho _ ht.2.2.2.1) (ho _ ht.2.2.2.2)
theorem Only.c (ho : Only ts I I') (h : Ic I) (ht : 32 ∉ ts ∧ 17 ∉ ts ∧ 18 ∉ ts) : Ic I' := h.congr (ho _ ht.1) (ho _ ht.2.1) (ho _ ht.2.2)
theorem Only.h (ho : Only ts I I') (h : Ih I) (ht : 33 ∉ ts ∧ 12 ∉ ts) : Ih I' := h.congr (ho _ ht.1) (ho _ ht.2)
end ONLY
/-- nothing of the tie has changed -/
def Keep (I I' : MI) : Prop := (∀ t, t ∈ [6, 7, 12, 14, 17, 18, 21, 22, 23, 24, 25, 26, 27, 28, 30, 31, 32, 33] → I' t = I t) ∧ (∀ r, r < 24 → I' 4 r = I 4 r ∧ I' 15 r = I 15 r ∧ I' 16 r = I 16 r) ∧ I' 13 0 = I 13 0 ∧ (∀ j, j < 6 → I' 29 0 j = I 29 0 j) ∧ I' 3 0 1 = I 3 0 1 ∧ I' 8 0 8 = I 8 0 8 ∧ I' 8 0 14 = I 8 0 14
theorem Keep.rf {I : MI} : Keep I I := ⟨fun _ _ => rfl, fun _ _ => ⟨rfl, rfl, rfl⟩, rfl, fun _ _ => rfl, rfl, rfl, rfl⟩
theorem Keep.tr {I I' I'' : MI} (h : Keep I I') (h' : Keep I' I'') : Keep I I'' :=
  ⟨fun t ht => (h'.1 t ht).trans (h.1 t ht), fun r hr => ⟨((h'.2.1 r hr).1).trans (h.2.1 r hr).1, ((h'.2.1 r hr).2.1).trans (h.2.1 r hr).2.1, ((h'.2.1 r hr).2.2).trans (h.2.1 r hr).2.2⟩, h'.2.2.1.trans h.2.2.1, fun j hj => (h'.2.2.2.1 j hj).trans (h.2.2.2.1 j hj), h'.2.2.2.2.1.trans h.2.2.2.2.1, h'.2.2.2.2.2.1.trans h.2.2.2.2.2.1, h'.2.2.2.2.2.2.trans h.2.2.2.2.2.2⟩
/-- places that are no part of the tie -/
def scr (t r k : Nat) : Prop := t ∈ [0, 1, 2, 5, 9, 10, 11, 34, 35, 36, 37, 38] ∨ (t = 3 ∧ k ≠ 1) ∨ (t = 8 ∧ k ≠ 8 ∧ k ≠ 14) ∨ (t = 13 ∧ r = 1) ∨ (t = 29 ∧ 6 ≤ k) ∨ ((t = 4 ∨ t = 15 ∨ t = 16) ∧ r = 24)
theorem scr_no {t r k : Nat} (h : scr t r k) : t ∉ [6, 7, 12, 14, 17, 18, 21, 22, 23, 24, 25, 26, 27, 28, 30, 31, 32, 33] := by
  unfold scr at h
  simp only [List.mem_cons, List.not_mem_nil, or_false] at h ⊢
  omega
theorem Keep.up {I I' : MI} {t r k : Nat} {v : Int32} (hs : scr t r k) (h : Keep I I') : Keep I (up3 I' t r k v) := by
  have hno := scr_no hs
  unfold scr at hs
  simp only [List.mem_cons, List.not_mem_nil, or_false] at hs
  refine h.tr ⟨fun t' ht' => up3_t (fun (e : t' = t) => hno (by rw [← e]; exact ht')), fun r' hr' => ⟨up3_o (by omega), up3_o (by omega), up3_o (by omega)⟩, up3_o (by omega), fun j hj => up3_n (by omega), up3_n (by omega), up3_n (by omega), up3_n (by omega)⟩
theorem Keep.row {I I' : MI} {t r : Nat} {f : Nat → Int32} (hs : t ∈ [0, 1, 2, 5, 9, 10, 11, 34, 35, 36, 37, 38] ∨ (t = 13 ∧ r = 1) ∨ ((t = 4 ∨ t = 15 ∨ t = 16) ∧ r = 24)) (h : Keep I I') : Keep I (row3 I' t r f) := by
  have hno : t ∉ [6, 7, 12, 14, 17, 18, 21, 22, 23, 24, 25, 26, 27, 28, 30, 31, 32, 33] := by
    simp only [List.mem_cons, List.not_mem_nil, or_false] at hs ⊢
    omega
  simp only [List.mem_cons, List.not_mem_nil, or_false] at hs
  exact h.tr ⟨fun t' ht' => row3_t (fun (e : t' = t) => hno (by rw [← e]; exact ht')), fun r' hr' => ⟨row3_o (by omega), row3_o (by omega), row3_o (by omega)⟩, row3_o (by omega), fun j hj => by rw [row3_o (by omega)], by rw [row3_o (by omega)], by rw [row3_o (by omega)], by rw [row3_o (by omega)]⟩
theorem Inv.keep {I I' : MI} {J J' : MJ} (h : Inv I J) (k : Keep I I') (hJ : J' 8 0 1 = J 8 0 1 ∧ J' 7 0 14 = J 7 0 14) : Inv I' J' := by
  obtain ⟨k1, k2, k3, k4, k5, k6, k7⟩ := k
  refine ⟨h.1.cg (by decide) (by rw [k1 6 (by decide)]) k2 (by rw [k1 25 (by decide)]), h.2.1.cg (fun _ _ => by rw [k1 6 (by decide)]) k2 (k1 26 (by decide)) (k1 27 (by decide)), h.2.2.1.congr (k1 28 (by decide)) (k1 21 (by decide)), h.2.2.2.1.congr k4 k3, h.2.2.2.2.1.congr k5 k6 (k1 30 (by decide)) (k1 14 (by decide)), h.2.2.2.2.2.1.congr k7 (k1 7 (by decide)) (k1 31 (by decide)) (k1 22 (by decide)) (k1 23 (by decide)) (k1 24 (by decide)), h.2.2.2.2.2.2.1.congr (k1 32 (by decide)) (k1 17 (by decide)) (k1 18 (by decide)), h.2.2.2.2.2.2.2.1.congr (k1 33 (by decide)) (k1 12 (by decide)), ?_⟩
  rw [hJ.1, hJ.2]
  exact h.2.2.2.2.2.2.2.2
section EASY2
variable {I : MI} {J : MJ}
theorem pr_trace (h : Inv I J) : wp_X7_trace (fun r I1 J1 => wp_X8_trace (fun r2 I2 J2 => r = r2 ∧ Inv I2 J2) I1 J1) I J := ⟨h.2.2.2.2.2.2.2.2.symm, h.thrown⟩
theorem pr_clear (h : Inv I J) : wp_X7_clear (fun r I1 J1 => wp_X8_clear (fun r2 I2 J2 => r = r2 ∧ Inv I2 J2) I1 J1) I J := by
  obtain ⟨hy, hi, ht, hu, ⟨n, x1, x2, x3, x4⟩, hl, hc, hh, hj⟩ := h
  have ho : Only [3, 8] I (up3 (up3 (up3 I 3 0 1 0) 8 0 0 0) 8 0 8 0) := ((Only.rf.up (by decide)).up (by decide)).up (by decide)
  refine ⟨?_, ho.y hy (by decide), ho.i hi (by decide), ho.t ht (by decide), ho.u hu (by decide), ⟨0, by decide, ?_, up3_y, fun j hj => absurd hj (by omega)⟩, ho.l hl (by decide) ?_, ho.c hc (by decide), ho.h hh (by decide), hj⟩
  · rw [up3_n (by decide), up3_t (by decide), x2, x3]
  · rw [up3_t (by decide), up3_t (by decide), up3_y]; rfl
  · rw [up3_n (by decide), up3_n (by decide), up3_t (by decide)]
theorem pr_count (h : Inv I J) (x : Int32) : wp_X7_count (fun r I1 J1 => wp_X8_count (fun r2 I2 J2 => r = r2 ∧ Inv I2 J2) I1 J1 x) I J x := by
  obtain ⟨n, y1, y2, y3, y4, y5, y6⟩ := h.1
  obtain ⟨n', x1, x2, x3, x4⟩ := h.2.2.2.2.1
  simp only [wp_X7_count, wp_X8_count]
  have t25 : up3 I 8 0 0 0 25 = I 25 := up3_t (by decide)
  have t8 : up3 I 8 0 0 0 8 0 8 = I 8 0 8 := up3_n (by decide)
  rw [t25, t8]
  have hT := h.thrown
  by_cases c0 : x = 0
  · exact onp c0 (onp c0 ⟨y2.trans y3.symm, hT⟩)
  refine onn c0 ?_
  by_cases c1 : x = 1
  · exact onp c1 (onn c0 (onp c1 ⟨y5.symm, hT⟩))
  refine onn c1 ?_
  by_cases c2 : x = 2
  · exact onp c2 (onn c0 (onn c1 (onp c2 ⟨x2.trans x3.symm, hT⟩)))
  refine onn c2 ?_
  by_cases c3 : x = 3
  · exact onp c3 (onn c0 (onn c1 (onn c2 (onp c3 ⟨y4.symm, hT⟩))))
  · exact onn c3 (onn c0 (onn c1 (onn c2 (onn c3 ⟨trivial, hT⟩))))
theorem pr_told (h : Inv I J) (x : Int32) : wp_X7_told (fun r I1 J1 => wp_X8_told (fun r2 I2 J2 => r = r2 ∧ Inv I2 J2) I1 J1 x) I J x := by
  simp only [wp_X7_told, wp_X8_told, q_within, q_in, bi_0, decide_eq_false_iff_not]
  refine two (fun c => ?_) (fun c => twn c ⟨trivial, h.thrown⟩)
  obtain ⟨k, hk, rfl⟩ := nI_le_ex (j := 5) rfl c.1 c.2 (by decide)
  refine ⟨vp_in_nI (by omega) (by decide), twp c ⟨vp_in_nI (by omega) (by decide), ?_, h.thrown⟩⟩
  rw [nI_clamp (by omega), up3_t (by decide)]
  exact (h.2.2.2.1.1 k (by omega)).symm
theorem pr_hull (h : Inv I J) (x y : Int32) : wp_X7_hull (fun r I1 J1 => wp_X8_hull (fun r2 I2 J2 => r = r2 ∧ Inv I2 J2) I1 J1 x y) I J x y := by
  simp only [wp_X7_hull, wp_X8_hull, q_within, q_in, bi_0, decide_eq_false_iff_not]
  refine two (fun c => ?_) (fun c => twn c ⟨trivial, h.thrown⟩)
  refine two (fun c2 => ?_) (fun c2 => twp c (twn c2 ⟨trivial, h.thrown⟩))
  obtain ⟨k, hk, rfl⟩ := nI_le_ex (j := 5) rfl c.1 c.2 (by decide)
  have hv : vp_in (nI k) 6 := vp_in_nI (by omega) (by decide)
  refine ⟨hv, hv, twp c (twp c2 ⟨hv, hv, ?_⟩)⟩
  rw [nI_clamp (by omega)]
  obtain ⟨hy, hi, ht, hu, hx, hl, hc, hh, hj⟩ := h
  have ho : Only [12, 8, 33] I (up3 (up3 (up3 I 12 0 k y) 8 0 0 0) 33 0 k y) := ((Only.rf.up (by decide)).up (by decide)).up (by decide)
  refine ⟨?_, ho.y hy (by decide), ho.i hi (by decide), ho.t ht (by decide), ho.u hu (by decide), ho.x hx (by decide) ?_, ho.l hl (by decide) ?_, ho.c hc (by decide), ?_, hj⟩
  · rw [up3_t (by decide), up3_t (by decide)]; exact (hh k (by omega)).1.symm
  · rw [up3_t (by decide), up3_n (by decide), up3_t (by decide)]
  · rw [up3_t (by decide), up3_n (by decide), up3_t (by decide)]
  · intro j hj
    by_cases e : j = k
    · subst e
      rw [up3_y, up3_t (by decide), up3_t (by decide), up3_y]
      exact ⟨rfl, (bd_le (by decide) (by decide) (by decide) (by decide)).mpr c2⟩
    · rw [up3_n (by omega), up3_t (by decide), up3_t (by decide), up3_t (by decide), up3_t (by decide), up3_n (by omega)]
      exact hh j hj
theorem pr_card (h : Inv I J) (x y z : Int32) : wp_X7_card (fun r I1 J1 => wp_X8_card (fun r2 I2 J2 => r = r2 ∧ Inv I2 J2) I1 J1 x y z) I J x y z := by
  simp only [wp_X7_card, wp_X8_card, J_X7_card_53, J_X7_card_53v1, q_within, q_in, bi_0, decide_eq_false_iff_not]
  refine two (fun c => ?_) (fun c => twn c ⟨trivial, h.thrown⟩)
  refine two (fun c2 => ?_) (fun c2 => twp c (twn c2 ⟨trivial, h.thrown⟩))
  refine two (fun c3 => ?_) (fun c3 => twp c (twp c2 (twn c3 ⟨trivial, h.thrown⟩)))
  obtain ⟨k, hk, rfl⟩ := nI_le_ex (j := 9) rfl c.1 c.2 (by decide)
  obtain ⟨b, hb, rfl⟩ := nI_le_ex (j := 1) rfl c2.1 c2.2 (by decide)
  have hv : vp_in (nI k) 10 := vp_in_nI (by omega) (by decide)
  have e2 : 2 * nI k + nI b = nI (2 * k + b) := by rw [show (2 : Int32) = nI 2 from rfl, pk_mul, nI_add]
  have hv2 : vp_in (2 * nI k + nI b) 20 := by rw [e2]; exact vp_in_nI (by omega) (by decide)
  have hcl : (2 * nI k + nI b).toNatClampNeg = 2 * k + b := by rw [e2, nI_clamp (by omega)]
  rw [nI_clamp (by omega), hcl]
  have hb3 : bd z 0 200 := (bd_le (by decide) (by decide) (by decide) (by decide)).mpr c3
  obtain ⟨hy, hi, ht, hu, hx, hl, hc, hh, hj⟩ := h
  rcases (show b = 0 ∨ b = 1 by omega) with rfl | rfl
  · refine ⟨fun _ => ⟨hv, hv, twp c (twp c2 (twp c3 ⟨hv2, fun v hw => ⟨hv2, ?_⟩⟩))⟩, fun q => absurd rfl q⟩
    have ho : Only [17, 8, 32] I (up3 (up3 (up3 I 17 0 k z) 8 0 0 0) 32 0 (2 * k + 0) z) := ((Only.rf.up (by decide)).up (by decide)).up (by decide)
    refine ⟨?_, ho.y hy (by decide), ho.i hi (by decide), ho.t ht (by decide), ho.u hu (by decide), ho.x hx (by decide) ?_, ho.l hl (by decide) ?_, ?_, ho.h hh (by decide), hj⟩
    · rw [hw, up3_t (by decide), up3_t (by decide)]; exact (hc k (by omega)).1.symm
    · rw [up3_t (by decide), up3_n (by decide), up3_t (by decide)]
    · rw [up3_t (by decide), up3_n (by decide), up3_t (by decide)]
    · intro j hj
      obtain ⟨a1, a2, a3, a4⟩ := hc j hj
      by_cases e : j = k
      · subst e
        refine ⟨?_, ?_, ?_, ?_⟩
        · rw [Nat.add_zero, up3_y, up3_t (by decide), up3_t (by decide), up3_y]
        · rw [up3_n (by omega), up3_t (by decide), up3_t (by decide), up3_t (by decide), up3_t (by decide), up3_t (by decide)]; exact a2
        · rw [up3_t (by decide), up3_t (by decide), up3_y]; exact hb3
        · rw [up3_t (by decide), up3_t (by decide), up3_t (by decide)]; exact a4
      · refine ⟨?_, ?_, ?_, ?_⟩
        · rw [up3_n (by omega), up3_t (by decide), up3_t (by decide), up3_t (by decide), up3_t (by decide), up3_n (by omega)]; exact a1
        · rw [up3_n (by omega), up3_t (by decide), up3_t (by decide), up3_t (by decide), up3_t (by decide), up3_t (by decide)]; exact a2
        · rw [up3_t (by decide), up3_t (by decide), up3_n (by omega)]; exact a3
        · rw [up3_t (by decide), up3_t (by decide), up3_t (by decide)]; exact a4
  · refine ⟨fun q => absurd q (by decide), fun _ => ⟨hv, hv, twp c (twp c2 (twp c3 ⟨hv2, fun v hw => ⟨hv2, ?_⟩⟩))⟩⟩
    have ho : Only [18, 8, 32] I (up3 (up3 (up3 I 18 0 k z) 8 0 0 0) 32 0 (2 * k + 1) z) := ((Only.rf.up (by decide)).up (by decide)).up (by decide)
    refine ⟨?_, ho.y hy (by decide), ho.i hi (by decide), ho.t ht (by decide), ho.u hu (by decide), ho.x hx (by decide) ?_, ho.l hl (by decide) ?_, ?_, ho.h hh (by decide), hj⟩
    · rw [hw, up3_t (by decide), up3_t (by decide)]; exact (hc k (by omega)).2.1.symm
    · rw [up3_t (by decide), up3_n (by decide), up3_t (by decide)]
    · rw [up3_t (by decide), up3_n (by decide), up3_t (by decide)]
    · intro j hj
      obtain ⟨a1, a2, a3, a4⟩ := hc j hj
      by_cases e : j = k
      · subst e
        refine ⟨?_, ?_, ?_, ?_⟩
        · rw [up3_n (by omega), up3_t (by decide), up3_t (by decide), up3_t (by decide), up3_t (by decide), up3_t (by decide)]; exact a1
        · rw [up3_y, up3_t (by decide), up3_t (by decide), up3_y]
        · rw [up3_t (by decide), up3_t (by decide), up3_t (by decide)]; exact a3
        · rw [up3_t (by decide), up3_t (by decide), up3_y]; exact hb3
      · refine ⟨?_, ?_, ?_, ?_⟩
        · rw [up3_n (by omega), up3_t (by decide), up3_t (by decide), up3_t (by decide), up3_t (by decide), up3_t (by decide)]; exact a1
        · rw [up3_n (by omega), up3_t (by decide), up3_t (by decide), up3_t (by decide), up3_t (by decide), up3_n (by omega)]; exact a2
        · rw [up3_t (by decide), up3_t (by decide), up3_t (by decide)]; exact a3
        · rw [up3_t (by decide), up3_t (by decide), up3_n (by omega)]; exact a4
theorem pr_tune (h : Inv I J) (x y : Int32) : wp_X7_tune (fun r I1 J1 => wp_X8_tune (fun r2 I2 J2 => r = r2 ∧ Inv I2 J2) I1 J1 x y) I J x y := by
  simp only [wp_X7_tune, wp_X8_tune, J_X8_tune_26, q_within, q_in, bi_0, decide_eq_false_iff_not, show (3 - 1 : Int32) = 2 from rfl]
  refine two (fun c => ?_) (fun c => twn c ⟨trivial, h.thrown⟩)
  obtain ⟨k, hk, rfl⟩ := nI_le_ex (j := 2) rfl c.1 c.2 (by decide)
  have hv : vp_in (nI k) 3 := vp_in_nI (by omega) (by decide)
  refine ⟨hv, ?_⟩
  rw [nI_clamp (by omega)]
  have key : ∀ M : Int32, M = stV 3 k → (¬ (0 ≤ y ∧ y ≤ M) → (¬ (0 ≤ y ∧ y ≤ M) → True ∧ Inv (up3 I 8 0 0 0) J) ∧ (¬ ¬ (0 ≤ y ∧ y ≤ M) → vp_in (nI k) 3 ∧ vp_in (nI k) 3 ∧ -1 = up3 I 8 0 0 0 28 0 k ∧ Inv (up3 (up3 I 8 0 0 0) 28 0 k y) J)) ∧ ((0 ≤ y ∧ y ≤ M) → Inv (up3 (up3 (up3 I 21 0 k y) 8 0 0 0) 28 0 k y) J) := by
    intro M hM
    refine ⟨fun c2 => twn c2 ⟨trivial, h.thrown⟩, fun c2 => ?_⟩
    obtain ⟨hy, hi, ht, hu, hx, hl, hc, hh, hj⟩ := h
    have ho : Only [21, 8, 28] I (up3 (up3 (up3 I 21 0 k y) 8 0 0 0) 28 0 k y) := ((Only.rf.up (by decide)).up (by decide)).up (by decide)
    refine ⟨ho.y hy (by decide), ho.i hi (by decide), ?_, ho.u hu (by decide), ho.x hx (by decide) ?_, ho.l hl (by decide) ?_, ho.c hc (by decide), ho.h hh (by decide), hj⟩
    · have e21 : ∀ j, up3 (up3 (up3 I 21 0 k y) 8 0 0 0) 28 0 k y 21 0 j = if j = k then y else I 21 0 j := fun j => by
        rw [up3_t (by decide), up3_t (by decide)]
        by_cases e : j = k
        · rw [if_pos e, e, up3_y]
        · rw [if_neg e, up3_n (by omega)]
      refine ⟨fun j hj => ?_, ?_⟩
      · rw [e21]
        by_cases e : j = k
        · rw [if_pos e, e, up3_y]
        · rw [if_neg e, up3_n (by omega), up3_t (by decide), up3_t (by decide)]
          exact ht.1 j hj
      · rw [e21, e21, e21]
        obtain ⟨-, t0, t1, t2⟩ := ht
        rcases (show k = 0 ∨ k = 1 ∨ k = 2 by omega) with rfl | rfl | rfl
        · exact ⟨(bd_le (by decide) (by decide) (by decide) (by decide)).mpr (by rw [hM] at c2; exact c2), t1, t2⟩
        · exact ⟨t0, (bd_le (by decide) (by decide) (by decide) (by decide)).mpr (by rw [hM] at c2; exact c2), t2⟩
        · exact ⟨t0, t1, (bd_le (by decide) (by decide) (by decide) (by decide)).mpr (by rw [hM] at c2; exact c2)⟩
    · rw [up3_t (by decide), up3_n (by decide), up3_t (by decide)]
    · rw [up3_t (by decide), up3_n (by decide), up3_t (by decide)]
  have hr : I 21 0 k = up3 (up3 I 21 0 k y) 8 0 0 0 28 0 k := by rw [up3_t (by decide), up3_t (by decide)]; exact (h.2.2.1.1 k (by omega)).symm
  by_cases k0 : k = 0
  · subst k0
    have e5 : stV 3 0 = 5 := rfl
    rw [e5]
    exact two (fun c2 => ⟨hv, hv, twp c ⟨fun _ => twp c2 ⟨hv, hv, hr, (key 5 rfl).2 c2⟩, fun q => absurd rfl q⟩⟩) (fun c2 => twp c ⟨fun _ => (key 5 rfl).1 c2, fun q => absurd rfl q⟩)
  · have e50 : stV 3 k = 50 := by rcases (show k = 1 ∨ k = 2 by omega) with rfl | rfl <;> rfl
    have n0 : ¬ nI k = 0 := nI_ne0 (by omega) (by omega)
    rw [e50]
    exact two (fun c2 => ⟨hv, hv, twp c ⟨fun q => absurd q n0, fun _ => twp c2 ⟨hv, hv, hr, (key 50 e50.symm).2 c2⟩⟩⟩) (fun c2 => twp c ⟨fun q => absurd q n0, fun _ => (key 50 e50.symm).1 c2⟩)
end EASY2
