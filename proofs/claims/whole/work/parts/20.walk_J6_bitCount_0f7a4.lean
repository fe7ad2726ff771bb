def wp_J6_bitCount_0f7a4 (Q : Int32 → MI → MJ → Prop) (I : MI) (J : MJ) (x0 : Int32) : Prop :=
  ∀ v1 : Int32, v1 = x0 - (((x0.toUInt32 >>> ((1 : Int32).toUInt32 &&& Int32.toUInt32 31)).toInt32) &&& 1431655765) → (∀ v2 : Int32, v2 = (v1 &&& 858993459) + (((v1.toUInt32 >>> ((2 : Int32).toUInt32 &&& Int32.toUInt32 31)).toInt32) &&& 858993459) → (∀ v3 : Int32, v3 = (v2 + ((v2.toUInt32 >>> ((4 : Int32).toUInt32 &&& Int32.toUInt32 31)).toInt32)) &&& 252645135 → (∀ v4 : Int32, v4 = v3 + ((v3.toUInt32 >>> ((8 : Int32).toUInt32 &&& Int32.toUInt32 31)).toInt32) → (∀ v5 : Int32, v5 = v4 + ((v4.toUInt32 >>> ((16 : Int32).toUInt32 &&& Int32.toUInt32 31)).toInt32) → (Q (v5 &&& 63) I J)))))
set_option maxRecDepth 20000 in
theorem c_J6_bitCount_0f7a4 {l : Launch} {g : Geo} {Q : Int32 → MI → MJ → Prop} {I : MI} {J : MJ} {x0 : Int32} (h : wp_J6_bitCount_0f7a4 Q I J x0) : Ct g l yJ6_bitCount_0f7a4 cJ6_bitCount_0f7a4 1 (some .int) 0 0 [.int x0] I J (PI Q) := by
  refine Ct.ofF (by decide +kernel) ?_
  intro p e s m below meth c C
  have hR : 0 ≤ (Rm 0 0).frames ∧ 0 ≤ (Rm 0 0).locals := ⟨Nat.le_refl _, Nat.le_refl _⟩
  generalize Rm 0 0 = R at hR ⊢
  have hl := lv_entry ([.int x0]) (n := 1) (Nat.le_of_ble_eq_true rfl)
  rw [lg_entry_eq]
  generalize (lg_sl ([.int x0]) ++ List.replicate (1 - (lg_sl ([.int x0])).length) Slot.unset).toArray = ls at hl ⊢
  have hl : lv_has ls 1 [(0, .int x0)] := hl
  refine f_iload_n C dJ6_bitCount_0f7a4_0 rfl (lv_at hl 0 rfl) ?_
  refine f_iload_n C dJ6_bitCount_0f7a4_1 rfl (lv_at hl 0 rfl) ?_
  refine f_iconst (v := 1) C dJ6_bitCount_0f7a4_2 (by decide) ?_
  refine f_iushr (v := (x0.toUInt32 >>> ((1 : Int32).toUInt32 &&& Int32.toUInt32 31)).toInt32) C dJ6_bitCount_0f7a4_3 rfl ?_
  refine f_ldcw C kc_RJ6_265 dJ6_bitCount_0f7a4_4 ?_
  refine f_iand C dJ6_bitCount_0f7a4_7 ?_
  refine f_isub C dJ6_bitCount_0f7a4_8 ?_
  generalize hv1 : x0 - (((x0.toUInt32 >>> ((1 : Int32).toUInt32 &&& Int32.toUInt32 31)).toInt32) &&& 1431655765) = v1
  replace h := h v1 hv1.symm
  refine f_istore_n (lv' := [(0, .int v1)]) C dJ6_bitCount_0f7a4_9 rfl hl (by decide) rfl (fun ls hl => ?_)
  refine f_iload_n C dJ6_bitCount_0f7a4_10 rfl (lv_at hl 0 rfl) ?_
  refine f_ldcw C kc_RJ6_266 dJ6_bitCount_0f7a4_11 ?_
  refine f_iand C dJ6_bitCount_0f7a4_14 ?_
  refine f_iload_n C dJ6_bitCount_0f7a4_15 rfl (lv_at hl 0 rfl) ?_
  refine f_iconst (v := 2) C dJ6_bitCount_0f7a4_16 (by decide) ?_
  refine f_iushr (v := (v1.toUInt32 >>> ((2 : Int32).toUInt32 &&& Int32.toUInt32 31)).toInt32) C dJ6_bitCount_0f7a4_17 rfl ?_
  refine f_ldcw C kc_RJ6_266 dJ6_bitCount_0f7a4_18 ?_
  refine f_iand C dJ6_bitCount_0f7a4_21 ?_
  refine f_iadd C dJ6_bitCount_0f7a4_22 ?_
  generalize hv2 : (v1 &&& 858993459) + (((v1.toUInt32 >>> ((2 : Int32).toUInt32 &&& Int32.toUInt32 31)).toInt32) &&& 858993459) = v2
  replace h := h v2 hv2.symm
  refine f_istore_n (lv' := [(0, .int v2)]) C dJ6_bitCount_0f7a4_23 rfl hl (by decide) rfl (fun ls hl => ?_)
  refine f_iload_n C dJ6_bitCount_0f7a4_24 rfl (lv_at hl 0 rfl) ?_
  refine f_iload_n C dJ6_bitCount_0f7a4_25 rfl (lv_at hl 0 rfl) ?_
  refine f_iconst (v := 4) C dJ6_bitCount_0f7a4_26 (by decide) ?_
  refine f_iushr (v := (v2.toUInt32 >>> ((4 : Int32).toUInt32 &&& Int32.toUInt32 31)).toInt32) C dJ6_bitCount_0f7a4_27 rfl ?_
  refine f_iadd C dJ6_bitCount_0f7a4_28 ?_
  refine f_ldcw C kc_RJ6_267 dJ6_bitCount_0f7a4_29 ?_
  refine f_iand C dJ6_bitCount_0f7a4_32 ?_
  generalize hv3 : (v2 + ((v2.toUInt32 >>> ((4 : Int32).toUInt32 &&& Int32.toUInt32 31)).toInt32)) &&& 252645135 = v3
  replace h := h v3 hv3.symm
  refine f_istore_n (lv' := [(0, .int v3)]) C dJ6_bitCount_0f7a4_33 rfl hl (by decide) rfl (fun ls hl => ?_)
  refine f_iload_n C dJ6_bitCount_0f7a4_34 rfl (lv_at hl 0 rfl) ?_
  refine f_iload_n C dJ6_bitCount_0f7a4_35 rfl (lv_at hl 0 rfl) ?_
  refine f_bipush (v := 8) C dJ6_bitCount_0f7a4_36 (by decide) ?_
  refine f_iushr (v := (v3.toUInt32 >>> ((8 : Int32).toUInt32 &&& Int32.toUInt32 31)).toInt32) C dJ6_bitCount_0f7a4_38 rfl ?_
  refine f_iadd C dJ6_bitCount_0f7a4_39 ?_
  generalize hv4 : v3 + ((v3.toUInt32 >>> ((8 : Int32).toUInt32 &&& Int32.toUInt32 31)).toInt32) = v4
  replace h := h v4 hv4.symm
  refine f_istore_n (lv' := [(0, .int v4)]) C dJ6_bitCount_0f7a4_40 rfl hl (by decide) rfl (fun ls hl => ?_)
  refine f_iload_n C dJ6_bitCount_0f7a4_41 rfl (lv_at hl 0 rfl) ?_
  refine f_iload_n C dJ6_bitCount_0f7a4_42 rfl (lv_at hl 0 rfl) ?_
  refine f_bipush (v := 16) C dJ6_bitCount_0f7a4_43 (by decide) ?_
  refine f_iushr (v := (v4.toUInt32 >>> ((16 : Int32).toUInt32 &&& Int32.toUInt32 31)).toInt32) C dJ6_bitCount_0f7a4_45 rfl ?_
  refine f_iadd C dJ6_bitCount_0f7a4_46 ?_
  generalize hv5 : v4 + ((v4.toUInt32 >>> ((16 : Int32).toUInt32 &&& Int32.toUInt32 31)).toInt32) = v5
  replace h := h v5 hv5.symm
  refine f_istore_n (lv' := [(0, .int v5)]) C dJ6_bitCount_0f7a4_47 rfl hl (by decide) rfl (fun ls hl => ?_)
  refine f_iload_n C dJ6_bitCount_0f7a4_48 rfl (lv_at hl 0 rfl) ?_
  refine f_bipush (v := 63) C dJ6_bitCount_0f7a4_49 (by decide) ?_
  refine f_iand C dJ6_bitCount_0f7a4_51 ?_
  exact f_iret C h dJ6_bitCount_0f7a4_52

def wp_J9_floorDiv_7cf53 (Q : Int32 → MI → MJ → Prop) (I : MI) (J : MJ) (x0 : Int32) (x1 : Int32) : Prop :=
  ¬ x1 = 0 ∧ ((0 ≤ (x0 ^^^ x1) → Q (x0 / x1) I J) ∧
  (¬ (0 ≤ (x0 ^^^ x1)) → (((x0 / x1) * x1) = x0 → Q (x0 / x1) I J) ∧
  (¬ (((x0 / x1) * x1) = x0) → Q ((x0 / x1) - 1) I J)))
set_option maxRecDepth 20000 in
theorem c_J9_floorDiv_7cf53 {l : Launch} {g : Geo} {Q : Int32 → MI → MJ → Prop} {I : MI} {J : MJ} {x0 : Int32} {x1 : Int32} (h : wp_J9_floorDiv_7cf53 Q I J x0 x1) : Ct g l yJ9_floorDiv_7cf53 cJ9_floorDiv_7cf53 3 (some .int) 0 0 [.int x0, .int x1] I J (PI Q) := by
  refine Ct.ofF (by decide +kernel) ?_
  intro p e s m below meth c C
  have hR : 0 ≤ (Rm 0 0).frames ∧ 0 ≤ (Rm 0 0).locals := ⟨Nat.le_refl _, Nat.le_refl _⟩
  generalize Rm 0 0 = R at hR ⊢
  have hl := lv_entry ([.int x0, .int x1]) (n := 3) (Nat.le_of_ble_eq_true rfl)
  rw [lg_entry_eq]
  generalize (lg_sl ([.int x0, .int x1]) ++ List.replicate (3 - (lg_sl ([.int x0, .int x1])).length) Slot.unset).toArray = ls at hl ⊢
  have hl : lv_has ls 3 [(0, .int x0), (1, .int x1)] := hl
  refine f_iload_n C dJ9_floorDiv_7cf53_0 rfl (lv_at hl 0 rfl) ?_
  refine f_iload_n C dJ9_floorDiv_7cf53_1 rfl (lv_at hl 1 rfl) ?_
  obtain ⟨hz1, h⟩ := h
  refine f_idiv C dJ9_floorDiv_7cf53_2 hz1 ?_
  refine f_istore_n (lv' := [(2, .int (x0 / x1)), (0, .int x0), (1, .int x1)]) C dJ9_floorDiv_7cf53_3 rfl hl (by decide) rfl (fun ls hl => ?_)
  refine f_iload_n C dJ9_floorDiv_7cf53_4 rfl (lv_at hl 1 rfl) ?_
  refine f_iload_n C dJ9_floorDiv_7cf53_5 rfl (lv_at hl 2 rfl) ?_
  refine f_ixor C dJ9_floorDiv_7cf53_6 ?_
  refine f_if_ge (tgt := 21) C dJ9_floorDiv_7cf53_7 (by decide) (fun c2 => ?_) (fun c2 => ?_)
  · replace h := h.1 c2
    refine f_iload_n C dJ9_floorDiv_7cf53_21 rfl (lv_at hl 0 rfl) ?_
    exact f_iret C h dJ9_floorDiv_7cf53_22
  · replace h := h.2 c2
    refine f_iload_n C dJ9_floorDiv_7cf53_10 rfl (lv_at hl 0 rfl) ?_
    refine f_iload_n C dJ9_floorDiv_7cf53_11 rfl (lv_at hl 2 rfl) ?_
    refine f_imul C dJ9_floorDiv_7cf53_12 ?_
    refine f_iload_n C dJ9_floorDiv_7cf53_13 rfl (lv_at hl 1 rfl) ?_
    refine f_icmp_eq (tgt := 21) C dJ9_floorDiv_7cf53_14 (by decide) (fun c3 => ?_) (fun c3 => ?_)
    · replace h := h.1 c3
      refine f_iload_n C dJ9_floorDiv_7cf53_21 rfl (lv_at hl 0 rfl) ?_
      exact f_iret C h dJ9_floorDiv_7cf53_22
    · replace h := h.2 c3
      refine f_iload_n C dJ9_floorDiv_7cf53_17 rfl (lv_at hl 0 rfl) ?_
      refine f_iconst (v := 1) C dJ9_floorDiv_7cf53_18 (by decide) ?_
      refine f_isub C dJ9_floorDiv_7cf53_19 ?_
      exact f_iret C h dJ9_floorDiv_7cf53_20

def wp_J9_abs_067f4 (Q : Int64 → MI → MJ → Prop) (I : MI) (J : MJ) (x0 : Int64) : Prop :=
  (0 ≤ (lg_cmp x0 0) → Q x0 I J) ∧
  (¬ (0 ≤ (lg_cmp x0 0)) → Q (-x0) I J)
set_option maxRecDepth 20000 in
theorem c_J9_abs_067f4 {l : Launch} {g : Geo} {Q : Int64 → MI → MJ → Prop} {I : MI} {J : MJ} {x0 : Int64} (h : wp_J9_abs_067f4 Q I J x0) : Ct g l yJ9_abs_067f4 cJ9_abs_067f4 2 (some .long) 0 0 [.long x0] I J (PL Q) := by
  refine Ct.ofF (by decide +kernel) ?_
  intro p e s m below meth c C
  have hR : 0 ≤ (Rm 0 0).frames ∧ 0 ≤ (Rm 0 0).locals := ⟨Nat.le_refl _, Nat.le_refl _⟩
  generalize Rm 0 0 = R at hR ⊢
  have hl := lv_entry ([.long x0]) (n := 2) (Nat.le_of_ble_eq_true rfl)
  rw [lg_entry_eq]
  generalize (lg_sl ([.long x0]) ++ List.replicate (2 - (lg_sl ([.long x0])).length) Slot.unset).toArray = ls at hl ⊢
  have hl : lv_has ls 2 [(0, .long x0)] := hl
  refine f_lload_n C dJ9_abs_067f4_0 rfl (lv_at hl 0 rfl) ?_
  refine f_lconst (v := 0) C dJ9_abs_067f4_1 (by decide) ?_
  refine f_lcmp C dJ9_abs_067f4_2 ?_
  refine f_if_ge (tgt := 11) C dJ9_abs_067f4_3 (by decide) (fun c1 => ?_) (fun c1 => ?_)
  · replace h := h.1 c1
    refine f_lload_n C dJ9_abs_067f4_11 rfl (lv_at hl 0 rfl) ?_
    exact f_lret C h dJ9_abs_067f4_12
  · replace h := h.2 c1
    refine f_lload_n C dJ9_abs_067f4_6 rfl (lv_at hl 0 rfl) ?_
    refine f_lneg C dJ9_abs_067f4_7 ?_
    refine f_goto (tgt := 12) C dJ9_abs_067f4_8 (by decide) ?_
    exact f_lret C h dJ9_abs_067f4_12

def wp_J9_max_7cf53 (Q : Int32 → MI → MJ → Prop) (I : MI) (J : MJ) (x0 : Int32) (x1 : Int32) : Prop :=
  (x0 < x1 → Q x1 I J) ∧
  (¬ (x0 < x1) → Q x0 I J)
set_option maxRecDepth 20000 in
theorem c_J9_max_7cf53 {l : Launch} {g : Geo} {Q : Int32 → MI → MJ → Prop} {I : MI} {J : MJ} {x0 : Int32} {x1 : Int32} (h : wp_J9_max_7cf53 Q I J x0 x1) : Ct g l yJ9_max_7cf53 cJ9_max_7cf53 2 (some .int) 0 0 [.int x0, .int x1] I J (PI Q) := by
  refine Ct.ofF (by decide +kernel) ?_
  intro p e s m below meth c C
  have hR : 0 ≤ (Rm 0 0).frames ∧ 0 ≤ (Rm 0 0).locals := ⟨Nat.le_refl _, Nat.le_refl _⟩
  generalize Rm 0 0 = R at hR ⊢
  have hl := lv_entry ([.int x0, .int x1]) (n := 2) (Nat.le_of_ble_eq_true rfl)
  rw [lg_entry_eq]
  generalize (lg_sl ([.int x0, .int x1]) ++ List.replicate (2 - (lg_sl ([.int x0, .int x1])).length) Slot.unset).toArray = ls at hl ⊢
  have hl : lv_has ls 2 [(0, .int x0), (1, .int x1)] := hl
  refine f_iload_n C dJ9_max_7cf53_0 rfl (lv_at hl 0 rfl) ?_
  refine f_iload_n C dJ9_max_7cf53_1 rfl (lv_at hl 1 rfl) ?_
  refine f_icmp_lt (tgt := 9) C dJ9_max_7cf53_2 (by decide) (fun c1 => ?_) (fun c1 => ?_)
  · replace h := h.1 c1
    refine f_iload_n C dJ9_max_7cf53_9 rfl (lv_at hl 1 rfl) ?_
    exact f_iret C h dJ9_max_7cf53_10
  · replace h := h.2 c1
    refine f_iload_n C dJ9_max_7cf53_5 rfl (lv_at hl 0 rfl) ?_
    refine f_goto (tgt := 10) C dJ9_max_7cf53_6 (by decide) ?_
    exact f_iret C h dJ9_max_7cf53_10

def wp_J9_min_7cf53 (Q : Int32 → MI → MJ → Prop) (I : MI) (J : MJ) (x0 : Int32) (x1 : Int32) : Prop :=
  (x1 < x0 → Q x1 I J) ∧
  (¬ (x1 < x0) → Q x0 I J)
set_option maxRecDepth 20000 in
theorem c_J9_min_7cf53 {l : Launch} {g : Geo} {Q : Int32 → MI → MJ → Prop} {I : MI} {J : MJ} {x0 : Int32} {x1 : Int32} (h : wp_J9_min_7cf53 Q I J x0 x1) : Ct g l yJ9_min_7cf53 cJ9_min_7cf53 2 (some .int) 0 0 [.int x0, .int x1] I J (PI Q) := by
  refine Ct.ofF (by decide +kernel) ?_
  intro p e s m below meth c C
  have hR : 0 ≤ (Rm 0 0).frames ∧ 0 ≤ (Rm 0 0).locals := ⟨Nat.le_refl _, Nat.le_refl _⟩
  generalize Rm 0 0 = R at hR ⊢
  have hl := lv_entry ([.int x0, .int x1]) (n := 2) (Nat.le_of_ble_eq_true rfl)
  rw [lg_entry_eq]
  generalize (lg_sl ([.int x0, .int x1]) ++ List.replicate (2 - (lg_sl ([.int x0, .int x1])).length) Slot.unset).toArray = ls at hl ⊢
  have hl : lv_has ls 2 [(0, .int x0), (1, .int x1)] := hl
  refine f_iload_n C dJ9_min_7cf53_0 rfl (lv_at hl 0 rfl) ?_
  refine f_iload_n C dJ9_min_7cf53_1 rfl (lv_at hl 1 rfl) ?_
  refine f_icmp_gt (tgt := 9) C dJ9_min_7cf53_2 (by decide) (fun c1 => ?_) (fun c1 => ?_)
  · replace h := h.1 c1
    refine f_iload_n C dJ9_min_7cf53_9 rfl (lv_at hl 1 rfl) ?_
    exact f_iret C h dJ9_min_7cf53_10
  · replace h := h.2 c1
    refine f_iload_n C dJ9_min_7cf53_5 rfl (lv_at hl 0 rfl) ?_
    refine f_goto (tgt := 10) C dJ9_min_7cf53_6 (by decide) ?_
    exact f_iret C h dJ9_min_7cf53_10

def wp_X0_begin (Q : MI → MJ → Prop) (I : MI) (J : MJ) (x1 : Int32) : Prop :=
  Q (up3 (up3 I 0 0 4 0) 0 0 5 x1) J
set_option maxRecDepth 20000 in
theorem c_X0_begin {l : Launch} {g : Geo} {Q : MI → MJ → Prop} {I : MI} {J : MJ} {x1 : Int32} (h : wp_X0_begin Q I J x1) : Ct g l yX0_begin cX0_begin 2 none 0 0 [.ref (gad g 0 0), .int x1] I J (PV Q) := by
  refine Ct.of (by decide) ?_
  intro p e s m below meth c C
  have hR : 0 ≤ (Rm 0 0).frames ∧ 0 ≤ (Rm 0 0).locals := ⟨Nat.le_refl _, Nat.le_refl _⟩
  generalize Rm 0 0 = R at hR ⊢
  have hl := lv_entry ([.ref (gad g 0 0), .int x1]) (n := 2) (Nat.le_of_ble_eq_true rfl)
  rw [lg_entry_eq]
  generalize (lg_sl ([.ref (gad g 0 0), .int x1]) ++ List.replicate (2 - (lg_sl ([.ref (gad g 0 0), .int x1])).length) Slot.unset).toArray = ls at hl ⊢
  have hl : lv_has ls 2 [(0, .ref (gad g 0 0)), (1, .int x1)] := hl
  refine f_aload_n C dX0_begin_0 rfl (lv_at hl 0 rfl) ?_
  refine f_iconst (v := 0) C dX0_begin_1 (by decide) ?_
  refine pu_RX0_21 C (by decide) dX0_begin_2 ?_
  refine f_aload_n C dX0_begin_5 rfl (lv_at hl 0 rfl) ?_
  refine f_iload_n C dX0_begin_6 rfl (lv_at hl 1 rfl) ?_
  refine pu_RX0_25 C (by decide) dX0_begin_7 ?_
  exact f_vret C h dX0_begin_10

def wp_X0_add (Q : MI → MJ → Prop) (I : MI) (J : MJ) (x1 : Int32) (x2 : Int32) : Prop :=
  (8 ≤ (I 0 0 4) → Q I J) ∧
  (¬ (8 ≤ (I 0 0 4)) → vp_in (I 0 0 4) 8 ∧ (vp_in ((up3 I 9 0 ((I 0 0 4).toNatClampNeg) x1) 0 0 4) 8 ∧ (∀ I4 : MI, I4 = up3 (up3 I 9 0 ((I 0 0 4).toNatClampNeg) x1) 10 0 (((up3 I 9 0 ((I 0 0 4).toNatClampNeg) x1) 0 0 4).toNatClampNeg) (x1 - x2) → (Q (up3 I4 0 0 4 ((I4 0 0 4) + 1)) J))))
set_option maxRecDepth 20000 in
theorem c_X0_add {l : Launch} {g : Geo} {Q : MI → MJ → Prop} {I : MI} {J : MJ} {x1 : Int32} {x2 : Int32} (h : wp_X0_add Q I J x1 x2) : Ct g l yX0_add cX0_add 3 none 0 0 [.ref (gad g 0 0), .int x1, .int x2] I J (PV Q) := by
  refine Ct.of (by decide) ?_
  intro p e s m below meth c C
  have hR : 0 ≤ (Rm 0 0).frames ∧ 0 ≤ (Rm 0 0).locals := ⟨Nat.le_refl _, Nat.le_refl _⟩
  generalize Rm 0 0 = R at hR ⊢
  have hl := lv_entry ([.ref (gad g 0 0), .int x1, .int x2]) (n := 3) (Nat.le_of_ble_eq_true rfl)
  rw [lg_entry_eq]
  generalize (lg_sl ([.ref (gad g 0 0), .int x1, .int x2]) ++ List.replicate (3 - (lg_sl ([.ref (gad g 0 0), .int x1, .int x2])).length) Slot.unset).toArray = ls at hl ⊢
  have hl : lv_has ls 3 [(0, .ref (gad g 0 0)), (1, .int x1), (2, .int x2)] := hl
  refine f_aload_n C dX0_add_0 rfl (lv_at hl 0 rfl) ?_
  refine ge_RX0_21 C (by decide) dX0_add_1 ?_
  refine f_bipush (v := 8) C dX0_add_4 (by decide) ?_
  refine f_icmp_ge (tgt := 41) C dX0_add_6 (by decide) (fun c1 => ?_) (fun c1 => ?_)
  · replace h := h.1 c1
    exact f_vret C h dX0_add_41
  · replace h := h.2 c1
    refine f_aload_n C dX0_add_9 rfl (lv_at hl 0 rfl) ?_
    refine ge_RX0_9 C (by decide) dX0_add_10 ?_
    refine f_aload_n C dX0_add_13 rfl (lv_at hl 0 rfl) ?_
    refine ge_RX0_21 C (by decide) dX0_add_14 ?_
    refine f_iload_n C dX0_add_17 rfl (lv_at hl 1 rfl) ?_
    obtain ⟨hi2, h⟩ := h
    refine as_k (n := 8) (k := (I 0 0 4).toNatClampNeg) C (by decide) (fun _ => rfl) rfl hi2 dX0_add_18 ?_
    refine f_aload_n C dX0_add_19 rfl (lv_at hl 0 rfl) ?_
    refine ge_RX0_15 C (by decide) dX0_add_20 ?_
    refine f_aload_n C dX0_add_23 rfl (lv_at hl 0 rfl) ?_
    refine ge_RX0_21 C (by decide) dX0_add_24 ?_
    refine f_iload_n C dX0_add_27 rfl (lv_at hl 1 rfl) ?_
    refine f_iload_n C dX0_add_28 rfl (lv_at hl 2 rfl) ?_
    refine f_isub C dX0_add_29 ?_
    obtain ⟨hi3, h⟩ := h
    refine as_k (n := 8) (k := ((up3 I 9 0 ((I 0 0 4).toNatClampNeg) x1) 0 0 4).toNatClampNeg) C (by decide) (fun _ => rfl) rfl hi3 dX0_add_30 ?_
    generalize hI4 : up3 (up3 I 9 0 ((I 0 0 4).toNatClampNeg) x1) 10 0 (((up3 I 9 0 ((I 0 0 4).toNatClampNeg) x1) 0 0 4).toNatClampNeg) (x1 - x2) = I4
    replace h := h I4 hI4.symm
    refine f_aload_n C dX0_add_31 rfl (lv_at hl 0 rfl) ?_
    refine f_dup C dX0_add_32 rfl ?_
    refine ge_RX0_21 C (by decide) dX0_add_33 ?_
    refine f_iconst (v := 1) C dX0_add_36 (by decide) ?_
    refine f_iadd C dX0_add_37 ?_
    refine pu_RX0_21 C (by decide) dX0_add_38 ?_
    exact f_vret C h dX0_add_41

def B_X0_allRows_4 (Q : Int64 → MI → MJ → Prop) (C4 : MI → MJ → Int64 → Int32 → Prop) (I : MI) (J : MJ) (x1 : Int64) (x3 : Int32) : Prop :=
  ((I 0 0 4) ≤ x3 → Q x1 I J) ∧
  (¬ ((I 0 0 4) ≤ x3) → ∀ v2 : Int64, v2 = x1 * (((2 * (I 0 0 5)) + 1).toInt64) → (C4 I J v2 (x3 + 1)))
set_option maxRecDepth 20000 in
theorem b_X0_allRows_4 {p : Program} {l : Launch} {e : Env} {R : Room} {s : State} {m : MethodId} {args : Array Value} {below : List Frame} {meth : Method} {c : Code} {g : Geo} (C : Cx g p s m args meth c cX0_allRows 4 RX0 (some .long)) (hR : 0 ≤ R.frames ∧ 0 ≤ R.locals) {Q : Int64 → MI → MJ → Prop} {C4 : MI → MJ → Int64 → Int32 → Prop} (hC4 : ∀ (I : MI) (J : MJ) (x1 : Int64) (x3 : Int32), C4 I J x1 x3 → ∀ ls : Array Slot, lv_has ls 4 [(0, .ref (gad g 0 0)), (1, .long x1), (3, .int x3)] → Wf p l e R s m args below meth c (MQ below (Qg g (PL Q)) args s 0 0 (gA g)) g I J (F0 m 4 ls [])) {I : MI} {J : MJ} {x1 : Int64} {x3 : Int32} (h : B_X0_allRows_4 Q C4 I J x1 x3) (ls : Array Slot) (hl : lv_has ls 4 [(0, .ref (gad g 0 0)), (1, .long x1), (3, .int x3)]) : Wf p l e R s m args below meth c (MQ below (Qg g (PL Q)) args s 0 0 (gA g)) g I J (F0 m 4 ls []) := by
  refine f_iload_n C dX0_allRows_4 rfl (lv_at hl 2 rfl) ?_
  refine f_aload_n C dX0_allRows_5 rfl (lv_at hl 0 rfl) ?_
  refine ge_RX0_21 C (by decide) dX0_allRows_6 ?_
  refine f_icmp_ge (tgt := 30) C dX0_allRows_9 (by decide) (fun c1 => ?_) (fun c1 => ?_)
  · replace h := h.1 c1
    refine f_lload_n C dX0_allRows_30 rfl (lv_at hl 1 rfl) ?_
    exact f_lret C h dX0_allRows_31
  · replace h := h.2 c1
    refine f_lload_n C dX0_allRows_12 rfl (lv_at hl 1 rfl) ?_
    refine f_iconst (v := 2) C dX0_allRows_13 (by decide) ?_
    refine f_aload_n C dX0_allRows_14 rfl (lv_at hl 0 rfl) ?_
    refine ge_RX0_25 C (by decide) dX0_allRows_15 ?_
    refine f_imul C dX0_allRows_18 ?_
    refine f_iconst (v := 1) C dX0_allRows_19 (by decide) ?_
    refine f_iadd C dX0_allRows_20 ?_
    refine f_i2l (v := ((2 * (I 0 0 5)) + 1).toInt64) C dX0_allRows_21 rfl ?_
    refine f_lmul C dX0_allRows_22 ?_
    generalize hv2 : x1 * (((2 * (I 0 0 5)) + 1).toInt64) = v2
    replace h := h v2 hv2.symm
    refine f_lstore_n (lv' := [(1, .long v2), (0, .ref (gad g 0 0)), (3, .int x3)]) C dX0_allRows_23 rfl hl (by decide) rfl (fun ls hl => ?_)
    refine f_iinc (v := x3 + 1) (lv' := [(3, .int (x3 + 1)), (1, .long v2), (0, .ref (gad g 0 0))]) C dX0_allRows_24 hl (k := 2) rfl rfl (by decide) rfl (fun ls hl => ?_)
    refine f_goto (tgt := 4) C dX0_allRows_27 (by decide) ?_
    exact hC4 _ _ _ _ h ls (lv_sub hl [2, 1, 0] rfl)

def L_X0_allRows_4 (Q : Int64 → MI → MJ → Prop) : Nat → MI → MJ → Int64 → Int32 → Prop
  | 0 => fun _ _ _ _ => False
  | n + 1 => fun I J x1 x3 => B_X0_allRows_4 Q (L_X0_allRows_4 Q n) I J x1 x3
theorem t_X0_allRows_4 {p : Program} {l : Launch} {e : Env} {R : Room} {s : State} {m : MethodId} {args : Array Value} {below : List Frame} {meth : Method} {c : Code} {g : Geo} (C : Cx g p s m args meth c cX0_allRows 4 RX0 (some .long)) (hR : 0 ≤ R.frames ∧ 0 ≤ R.locals) {Q : Int64 → MI → MJ → Prop} : ∀ (n : Nat), ∀ (I : MI) (J : MJ) (x1 : Int64) (x3 : Int32), L_X0_allRows_4 Q n I J x1 x3 → ∀ ls : Array Slot, lv_has ls 4 [(0, .ref (gad g 0 0)), (1, .long x1), (3, .int x3)] → Wf p l e R s m args below meth c (MQ below (Qg g (PL Q)) args s 0 0 (gA g)) g I J (F0 m 4 ls []) := by
  intro n
  induction n with
  | zero => intro I J x1 x3 h; exact h.elim
  | succ n ih => intro I J x1 x3 h ls hl; exact b_X0_allRows_4 C hR ih h ls hl
def wp_X0_allRows (Q : Int64 → MI → MJ → Prop) (I : MI) (J : MJ) : Prop :=
  ∃ n : Nat, L_X0_allRows_4 Q n I J 1 0
set_option maxRecDepth 20000 in
theorem c_X0_allRows {l : Launch} {g : Geo} {Q : Int64 → MI → MJ → Prop} {I : MI} {J : MJ} (h : wp_X0_allRows Q I J) : Ct g l yX0_allRows cX0_allRows 4 (some .long) 0 0 [.ref (gad g 0 0)] I J (PL Q) := by
  refine Ct.of (by decide) ?_
  intro p e s m below meth c C
  have hR : 0 ≤ (Rm 0 0).frames ∧ 0 ≤ (Rm 0 0).locals := ⟨Nat.le_refl _, Nat.le_refl _⟩
  generalize Rm 0 0 = R at hR ⊢
  have hl := lv_entry ([.ref (gad g 0 0)]) (n := 4) (Nat.le_of_ble_eq_true rfl)
  rw [lg_entry_eq]
  generalize (lg_sl ([.ref (gad g 0 0)]) ++ List.replicate (4 - (lg_sl ([.ref (gad g 0 0)])).length) Slot.unset).toArray = ls at hl ⊢
  have hl : lv_has ls 4 [(0, .ref (gad g 0 0))] := hl
  refine f_lconst (v := 1) C dX0_allRows_0 (by decide) ?_
  refine f_lstore_n (lv' := [(1, .long 1), (0, .ref (gad g 0 0))]) C dX0_allRows_1 rfl hl (by decide) rfl (fun ls hl => ?_)
  refine f_iconst (v := 0) C dX0_allRows_2 (by decide) ?_
  refine f_istore_n (lv' := [(3, .int 0), (1, .long 1), (0, .ref (gad g 0 0))]) C dX0_allRows_3 rfl hl (by decide) rfl (fun ls hl => ?_)
  obtain ⟨n, h⟩ := h
  exact t_X0_allRows_4 C hR n _ _ _ _ h ls (lv_sub hl [2, 1, 0] rfl)

def wp_X7_clamp (Q : Int32 → MI → MJ → Prop) (I : MI) (J : MJ) (x0 : Int32) (x1 : Int32) (x2 : Int32) : Prop :=
  (x1 ≤ x0 → (x0 ≤ x2 → Q x0 I J) ∧
  (¬ (x0 ≤ x2) → Q x2 I J)) ∧
  (¬ (x1 ≤ x0) → Q x1 I J)
set_option maxRecDepth 20000 in
theorem c_X7_clamp {l : Launch} {g : Geo} {Q : Int32 → MI → MJ → Prop} {I : MI} {J : MJ} {x0 : Int32} {x1 : Int32} {x2 : Int32} (h : wp_X7_clamp Q I J x0 x1 x2) : Ct g l yX7_clamp cX7_clamp 3 (some .int) 0 0 [.int x0, .int x1, .int x2] I J (PI Q) := by
  refine Ct.of (by decide) ?_
  intro p e s m below meth c C
  have hR : 0 ≤ (Rm 0 0).frames ∧ 0 ≤ (Rm 0 0).locals := ⟨Nat.le_refl _, Nat.le_refl _⟩
  generalize Rm 0 0 = R at hR ⊢
  have hl := lv_entry ([.int x0, .int x1, .int x2]) (n := 3) (Nat.le_of_ble_eq_true rfl)
  rw [lg_entry_eq]
  generalize (lg_sl ([.int x0, .int x1, .int x2]) ++ List.replicate (3 - (lg_sl ([.int x0, .int x1, .int x2])).length) Slot.unset).toArray = ls at hl ⊢
  have hl : lv_has ls 3 [(0, .int x0), (1, .int x1), (2, .int x2)] := hl
  refine f_iload_n C dX7_clamp_0 rfl (lv_at hl 0 rfl) ?_
  refine f_iload_n C dX7_clamp_1 rfl (lv_at hl 1 rfl) ?_
  refine f_icmp_ge (tgt := 9) C dX7_clamp_2 (by decide) (fun c1 => ?_) (fun c1 => ?_)
  · replace h := h.1 c1
    refine f_iload_n C dX7_clamp_9 rfl (lv_at hl 0 rfl) ?_
    refine f_iload_n C dX7_clamp_10 rfl (lv_at hl 2 rfl) ?_
    refine f_icmp_le (tgt := 18) C dX7_clamp_11 (by decide) (fun c2 => ?_) (fun c2 => ?_)
    · replace h := h.1 c2
      refine f_iload_n C dX7_clamp_18 rfl (lv_at hl 0 rfl) ?_
      exact f_iret C h dX7_clamp_19
    · replace h := h.2 c2
      refine f_iload_n C dX7_clamp_14 rfl (lv_at hl 2 rfl) ?_
      refine f_goto (tgt := 19) C dX7_clamp_15 (by decide) ?_
      exact f_iret C h dX7_clamp_19
  · replace h := h.2 c1
    refine f_iload_n C dX7_clamp_5 rfl (lv_at hl 1 rfl) ?_
    refine f_goto (tgt := 19) C dX7_clamp_6 (by decide) ?_
    exact f_iret C h dX7_clamp_19

def J_X0_waysOfOthers_37 (Q : Int64 → MI → MJ → Prop) (C5 : MI → MJ → Int32 → Int32 → Int64 → Int32 → Prop) (I : MI) (J : MJ) (x1 : Int32) (x2 : Int32) (x3 : Int64) (x5 : Int32) (s0 : Int32) : Prop :=
  vp_in x5 8 ∧ (wp_X7_clamp (fun r6 I6 J6 => C5 I6 J6 x1 x2 (x3 * (r6.toInt64)) (x5 + 1)) I J (((x2 - (I 10 0 (x5.toNatClampNeg))) + (I 0 0 5)) + s0) 0 ((2 * (I 0 0 5)) + 1))
set_option maxRecDepth 20000 in
theorem t_X0_waysOfOthers_37 {p : Program} {l : Launch} {e : Env} {R : Room} {s : State} {m : MethodId} {args : Array Value} {below : List Frame} {meth : Method} {c : Code} {g : Geo} (C : Cx g p s m args meth c cX0_waysOfOthers 7 RX0 (some .long)) (hR : 1 ≤ R.frames ∧ 22 ≤ R.locals) {Q : Int64 → MI → MJ → Prop} {C5 : MI → MJ → Int32 → Int32 → Int64 → Int32 → Prop} (hC5 : ∀ (I : MI) (J : MJ) (x1 : Int32) (x2 : Int32) (x3 : Int64) (x5 : Int32), C5 I J x1 x2 x3 x5 → ∀ ls : Array Slot, lv_has ls 7 [(0, .ref (gad g 0 0)), (1, .int x1), (2, .int x2), (3, .long x3), (5, .int x5)] → Wf p l e R s m args below meth c (MQ below (Qg g (PL Q)) args s 0 0 (gA g)) g I J (F0 m 5 ls [])) {I : MI} {J : MJ} {x1 : Int32} {x2 : Int32} {x3 : Int64} {x5 : Int32} {s0 : Int32} (h : J_X0_waysOfOthers_37 Q C5 I J x1 x2 x3 x5 s0) (ls : Array Slot) (hl : lv_has ls 7 [(0, .ref (gad g 0 0)), (1, .int x1), (2, .int x2), (3, .long x3), (5, .int x5)]) : Wf p l e R s m args below meth c (MQ below (Qg g (PL Q)) args s 0 0 (gA g)) g I J (F0 m 37 ls [.int s0]) := by
  refine f_istore (lv' := [(6, .int s0), (0, .ref (gad g 0 0)), (1, .int x1), (2, .int x2), (3, .long x3), (5, .int x5)]) C dX0_waysOfOthers_37 hl (by decide) rfl (fun ls hl => ?_)
  refine f_lload_n C dX0_waysOfOthers_39 rfl (lv_at hl 4 rfl) ?_
  refine f_iload_n C dX0_waysOfOthers_40 rfl (lv_at hl 3 rfl) ?_
  refine f_aload_n C dX0_waysOfOthers_41 rfl (lv_at hl 1 rfl) ?_
  refine ge_RX0_15 C (by decide) dX0_waysOfOthers_42 ?_
  refine f_iload C dX0_waysOfOthers_45 (lv_at hl 5 rfl) ?_
  obtain ⟨hi5, h⟩ := h
  refine al_k (n := 8) (k := x5.toNatClampNeg) C (by decide) rfl rfl hi5 dX0_waysOfOthers_47 ?_
  refine f_isub C dX0_waysOfOthers_48 ?_
  refine f_aload_n C dX0_waysOfOthers_49 rfl (lv_at hl 1 rfl) ?_
  refine ge_RX0_25 C (by decide) dX0_waysOfOthers_50 ?_
  refine f_iadd C dX0_waysOfOthers_53 ?_
  refine f_iload C dX0_waysOfOthers_54 (lv_at hl 0 rfl) ?_
  refine f_iadd C dX0_waysOfOthers_56 ?_
  refine f_iconst (v := 0) C dX0_waysOfOthers_57 (by decide) ?_
  refine f_iconst (v := 2) C dX0_waysOfOthers_58 (by decide) ?_
  refine f_aload_n C dX0_waysOfOthers_59 rfl (lv_at hl 1 rfl) ?_
  refine ge_RX0_25 C (by decide) dX0_waysOfOthers_60 ?_
  refine f_imul C dX0_waysOfOthers_63 ?_
  refine f_iconst (v := 1) C dX0_waysOfOthers_64 (by decide) ?_
  refine f_iadd C dX0_waysOfOthers_65 ?_
  refine f_cNi (As := [.int (((x2 - (I 10 0 (x5.toNatClampNeg))) + (I 0 0 5)) + s0), .int 0, .int ((2 * (I 0 0 5)) + 1)]) (rest := [.long x3]) (n := 3) C (c_X7_clamp h) ok_X7_clamp sm_X7_clamp kn_RX0_32 ⟨Nat.le_trans (by decide) hR.1, Nat.le_trans (by decide) hR.2⟩ rfl hl.1 (Nat.le_of_ble_eq_true rfl) dX0_waysOfOthers_66 (fun r6 I6 J6 h => ?_)
  refine f_i2l (v := r6.toInt64) C dX0_waysOfOthers_69 rfl ?_
  refine f_lmul C dX0_waysOfOthers_70 ?_
  refine f_lstore_n (lv' := [(3, .long (x3 * (r6.toInt64))), (6, .int s0), (0, .ref (gad g 0 0)), (1, .int x1), (2, .int x2), (5, .int x5)]) C dX0_waysOfOthers_71 rfl hl (by decide) rfl (fun ls hl => ?_)
  refine f_iinc (v := x5 + 1) (lv' := [(5, .int (x5 + 1)), (3, .long (x3 * (r6.toInt64))), (6, .int s0), (0, .ref (gad g 0 0)), (1, .int x1), (2, .int x2)]) C dX0_waysOfOthers_72 hl (k := 5) rfl rfl (by decide) rfl (fun ls hl => ?_)
  refine f_goto (tgt := 5) C dX0_waysOfOthers_75 (by decide) ?_
  exact hC5 _ _ _ _ _ _ h ls (lv_sub hl [3, 4, 5, 1, 0] rfl)

def B_X0_waysOfOthers_5 (Q : Int64 → MI → MJ → Prop) (C5 : MI → MJ → Int32 → Int32 → Int64 → Int32 → Prop) (I : MI) (J : MJ) (x1 : Int32) (x2 : Int32) (x3 : Int64) (x5 : Int32) : Prop :=
  ((I 0 0 4) ≤ x5 → Q x3 I J) ∧
  (¬ ((I 0 0 4) ≤ x5) → ((lg_cmp x3 0) ≤ 0 → Q x3 I J) ∧
  (¬ ((lg_cmp x3 0) ≤ 0) → (x5 = x1 → C5 I J x1 x2 x3 (x5 + 1)) ∧
  (¬ (x5 = x1) → (x5 ≤ x1 → J_X0_waysOfOthers_37 Q C5 I J x1 x2 x3 x5 0) ∧
  (¬ (x5 ≤ x1) → J_X0_waysOfOthers_37 Q C5 I J x1 x2 x3 x5 1))))
set_option maxRecDepth 20000 in
theorem b_X0_waysOfOthers_5 {p : Program} {l : Launch} {e : Env} {R : Room} {s : State} {m : MethodId} {args : Array Value} {below : List Frame} {meth : Method} {c : Code} {g : Geo} (C : Cx g p s m args meth c cX0_waysOfOthers 7 RX0 (some .long)) (hR : 1 ≤ R.frames ∧ 22 ≤ R.locals) {Q : Int64 → MI → MJ → Prop} {C5 : MI → MJ → Int32 → Int32 → Int64 → Int32 → Prop} (hC5 : ∀ (I : MI) (J : MJ) (x1 : Int32) (x2 : Int32) (x3 : Int64) (x5 : Int32), C5 I J x1 x2 x3 x5 → ∀ ls : Array Slot, lv_has ls 7 [(0, .ref (gad g 0 0)), (1, .int x1), (2, .int x2), (3, .long x3), (5, .int x5)] → Wf p l e R s m args below meth c (MQ below (Qg g (PL Q)) args s 0 0 (gA g)) g I J (F0 m 5 ls [])) {I : MI} {J : MJ} {x1 : Int32} {x2 : Int32} {x3 : Int64} {x5 : Int32} (h : B_X0_waysOfOthers_5 Q C5 I J x1 x2 x3 x5) (ls : Array Slot) (hl : lv_has ls 7 [(0, .ref (gad g 0 0)), (1, .int x1), (2, .int x2), (3, .long x3), (5, .int x5)]) : Wf p l e R s m args below meth c (MQ below (Qg g (PL Q)) args s 0 0 (gA g)) g I J (F0 m 5 ls []) := by
  refine f_iload C dX0_waysOfOthers_5 (lv_at hl 4 rfl) ?_
  refine f_aload_n C dX0_waysOfOthers_7 rfl (lv_at hl 0 rfl) ?_
  refine ge_RX0_21 C (by decide) dX0_waysOfOthers_8 ?_
  refine f_icmp_ge (tgt := 78) C dX0_waysOfOthers_11 (by decide) (fun c1 => ?_) (fun c1 => ?_)
  · replace h := h.1 c1
    refine f_lload_n C dX0_waysOfOthers_78 rfl (lv_at hl 3 rfl) ?_
    exact f_lret C h dX0_waysOfOthers_79
  · replace h := h.2 c1
    refine f_lload_n C dX0_waysOfOthers_14 rfl (lv_at hl 3 rfl) ?_
    refine f_lconst (v := 0) C dX0_waysOfOthers_15 (by decide) ?_
    refine f_lcmp C dX0_waysOfOthers_16 ?_
    refine f_if_le (tgt := 78) C dX0_waysOfOthers_17 (by decide) (fun c2 => ?_) (fun c2 => ?_)
    · replace h := h.1 c2
      refine f_lload_n C dX0_waysOfOthers_78 rfl (lv_at hl 3 rfl) ?_
      exact f_lret C h dX0_waysOfOthers_79
    · replace h := h.2 c2
      refine f_iload C dX0_waysOfOthers_20 (lv_at hl 4 rfl) ?_
      refine f_iload_n C dX0_waysOfOthers_22 rfl (lv_at hl 1 rfl) ?_
      refine f_icmp_eq (tgt := 72) C dX0_waysOfOthers_23 (by decide) (fun c3 => ?_) (fun c3 => ?_)
      · replace h := h.1 c3
        refine f_iinc (v := x5 + 1) (lv' := [(5, .int (x5 + 1)), (0, .ref (gad g 0 0)), (1, .int x1), (2, .int x2), (3, .long x3)]) C dX0_waysOfOthers_72 hl (k := 4) rfl rfl (by decide) rfl (fun ls hl => ?_)
        refine f_goto (tgt := 5) C dX0_waysOfOthers_75 (by decide) ?_
        exact hC5 _ _ _ _ _ _ h ls (lv_sub hl [1, 2, 3, 4, 0] rfl)
      · replace h := h.2 c3
        refine f_iload C dX0_waysOfOthers_26 (lv_at hl 4 rfl) ?_
        refine f_iload_n C dX0_waysOfOthers_28 rfl (lv_at hl 1 rfl) ?_
        refine f_icmp_le (tgt := 36) C dX0_waysOfOthers_29 (by decide) (fun c4 => ?_) (fun c4 => ?_)
        · replace h := h.1 c4
          refine f_iconst (v := 0) C dX0_waysOfOthers_36 (by decide) ?_
          exact t_X0_waysOfOthers_37 C hR hC5 h ls (lv_sub hl [0, 1, 2, 3, 4] rfl)
        · replace h := h.2 c4
          refine f_iconst (v := 1) C dX0_waysOfOthers_32 (by decide) ?_
          refine f_goto (tgt := 37) C dX0_waysOfOthers_33 (by decide) ?_
          exact t_X0_waysOfOthers_37 C hR hC5 h ls (lv_sub hl [0, 1, 2, 3, 4] rfl)

def L_X0_waysOfOthers_5 (Q : Int64 → MI → MJ → Prop) : Nat → MI → MJ → Int32 → Int32 → Int64 → Int32 → Prop
  | 0 => fun _ _ _ _ _ _ => False
  | n + 1 => fun I J x1 x2 x3 x5 => B_X0_waysOfOthers_5 Q (L_X0_waysOfOthers_5 Q n) I J x1 x2 x3 x5
theorem t_X0_waysOfOthers_5 {p : Program} {l : Launch} {e : Env} {R : Room} {s : State} {m : MethodId} {args : Array Value} {below : List Frame} {meth : Method} {c : Code} {g : Geo} (C : Cx g p s m args meth c cX0_waysOfOthers 7 RX0 (some .long)) (hR : 1 ≤ R.frames ∧ 22 ≤ R.locals) {Q : Int64 → MI → MJ → Prop} : ∀ (n : Nat), ∀ (I : MI) (J : MJ) (x1 : Int32) (x2 : Int32) (x3 : Int64) (x5 : Int32), L_X0_waysOfOthers_5 Q n I J x1 x2 x3 x5 → ∀ ls : Array Slot, lv_has ls 7 [(0, .ref (gad g 0 0)), (1, .int x1), (2, .int x2), (3, .long x3), (5, .int x5)] → Wf p l e R s m args below meth c (MQ below (Qg g (PL Q)) args s 0 0 (gA g)) g I J (F0 m 5 ls []) := by
  intro n
  induction n with
  | zero => intro I J x1 x2 x3 x5 h; exact h.elim
  | succ n ih => intro I J x1 x2 x3 x5 h ls hl; exact b_X0_waysOfOthers_5 C hR ih h ls hl
def wp_X0_waysOfOthers (Q : Int64 → MI → MJ → Prop) (I : MI) (J : MJ) (x1 : Int32) (x2 : Int32) : Prop :=
  ∃ n : Nat, L_X0_waysOfOthers_5 Q n I J x1 x2 1 0
set_option maxRecDepth 20000 in
theorem c_X0_waysOfOthers {l : Launch} {g : Geo} {Q : Int64 → MI → MJ → Prop} {I : MI} {J : MJ} {x1 : Int32} {x2 : Int32} (h : wp_X0_waysOfOthers Q I J x1 x2) : Ct g l yX0_waysOfOthers cX0_waysOfOthers 7 (some .long) 1 22 [.ref (gad g 0 0), .int x1, .int x2] I J (PL Q) := by
  refine Ct.of (by decide) ?_
  intro p e s m below meth c C
  have hR : 1 ≤ (Rm 1 22).frames ∧ 22 ≤ (Rm 1 22).locals := ⟨Nat.le_refl _, Nat.le_refl _⟩
  generalize Rm 1 22 = R at hR ⊢
  have hl := lv_entry ([.ref (gad g 0 0), .int x1, .int x2]) (n := 7) (Nat.le_of_ble_eq_true rfl)
  rw [lg_entry_eq]
  generalize (lg_sl ([.ref (gad g 0 0), .int x1, .int x2]) ++ List.replicate (7 - (lg_sl ([.ref (gad g 0 0), .int x1, .int x2])).length) Slot.unset).toArray = ls at hl ⊢
  have hl : lv_has ls 7 [(0, .ref (gad g 0 0)), (1, .int x1), (2, .int x2)] := hl
  refine f_lconst (v := 1) C dX0_waysOfOthers_0 (by decide) ?_
  refine f_lstore_n (lv' := [(3, .long 1), (0, .ref (gad g 0 0)), (1, .int x1), (2, .int x2)]) C dX0_waysOfOthers_1 rfl hl (by decide) rfl (fun ls hl => ?_)
  refine f_iconst (v := 0) C dX0_waysOfOthers_2 (by decide) ?_
  refine f_istore (lv' := [(5, .int 0), (3, .long 1), (0, .ref (gad g 0 0)), (1, .int x1), (2, .int x2)]) C dX0_waysOfOthers_3 hl (by decide) rfl (fun ls hl => ?_)
  obtain ⟨n, h⟩ := h
  exact t_X0_waysOfOthers_5 C hR n _ _ _ _ _ _ h ls (lv_sub hl [2, 3, 4, 1, 0] rfl)

def B_X0_rowsFirst_8 (Q : Int64 → MI → MJ → Prop) (C8 : MI → MJ → Int32 → Int64 → Int32 → Prop) (I : MI) (J : MJ) (x1 : Int32) (x2 : Int64) (x4 : Int32) : Prop :=
  (x4 < (-(I 0 0 5)) → Q x2 I J) ∧
  (¬ (x4 < (-(I 0 0 5))) → vp_in x1 8 ∧ (wp_X0_waysOfOthers (fun r3 I3 J3 => ((lg_cmp r3 0) = 0 → Q x2 I3 J3) ∧
  (¬ ((lg_cmp r3 0) = 0) → C8 I3 J3 x1 (x2 + r3) (x4 + (-1)))) I J x1 ((I 10 0 (x1.toNatClampNeg)) + x4)))
set_option maxRecDepth 20000 in
theorem b_X0_rowsFirst_8 {p : Program} {l : Launch} {e : Env} {R : Room} {s : State} {m : MethodId} {args : Array Value} {below : List Frame} {meth : Method} {c : Code} {g : Geo} (C : Cx g p s m args meth c cX0_rowsFirst 7 RX0 (some .long)) (hR : 2 ≤ R.frames ∧ 48 ≤ R.locals) {Q : Int64 → MI → MJ → Prop} {C8 : MI → MJ → Int32 → Int64 → Int32 → Prop} (hC8 : ∀ (I : MI) (J : MJ) (x1 : Int32) (x2 : Int64) (x4 : Int32), C8 I J x1 x2 x4 → ∀ ls : Array Slot, lv_has ls 7 [(0, .ref (gad g 0 0)), (1, .int x1), (2, .long x2), (4, .int x4)] → Wf p l e R s m args below meth c (MQ below (Qg g (PL Q)) args s 0 0 (gA g)) g I J (F0 m 8 ls [])) {I : MI} {J : MJ} {x1 : Int32} {x2 : Int64} {x4 : Int32} (h : B_X0_rowsFirst_8 Q C8 I J x1 x2 x4) (ls : Array Slot) (hl : lv_has ls 7 [(0, .ref (gad g 0 0)), (1, .int x1), (2, .long x2), (4, .int x4)]) : Wf p l e R s m args below meth c (MQ below (Qg g (PL Q)) args s 0 0 (gA g)) g I J (F0 m 8 ls []) := by
  refine f_iload C dX0_rowsFirst_8 (lv_at hl 3 rfl) ?_
  refine f_aload_n C dX0_rowsFirst_10 rfl (lv_at hl 0 rfl) ?_
  refine ge_RX0_25 C (by decide) dX0_rowsFirst_11 ?_
  refine f_ineg C dX0_rowsFirst_14 ?_
  refine f_icmp_lt (tgt := 54) C dX0_rowsFirst_15 (by decide) (fun c1 => ?_) (fun c1 => ?_)
  · replace h := h.1 c1
    refine f_lload_n C dX0_rowsFirst_54 rfl (lv_at hl 2 rfl) ?_
    exact f_lret C h dX0_rowsFirst_55
  · replace h := h.2 c1
    refine f_aload_n C dX0_rowsFirst_18 rfl (lv_at hl 0 rfl) ?_
    refine f_iload_n C dX0_rowsFirst_19 rfl (lv_at hl 1 rfl) ?_
    refine f_aload_n C dX0_rowsFirst_20 rfl (lv_at hl 0 rfl) ?_
    refine ge_RX0_15 C (by decide) dX0_rowsFirst_21 ?_
    refine f_iload_n C dX0_rowsFirst_24 rfl (lv_at hl 1 rfl) ?_
    obtain ⟨hi2, h⟩ := h
    refine al_k (n := 8) (k := x1.toNatClampNeg) C (by decide) rfl rfl hi2 dX0_rowsFirst_25 ?_
    refine f_iload C dX0_rowsFirst_26 (lv_at hl 3 rfl) ?_
    refine f_iadd C dX0_rowsFirst_28 ?_
    refine f_cVl (As := [.int x1, .int ((I 10 0 (x1.toNatClampNeg)) + x4)]) (rest := []) (n := 2) (T0 := TX0) (N := 6) C (c_X0_waysOfOthers h) ok_X0_waysOfOthers im_X0_waysOfOthers se_X0_waysOfOthers kw_RX0_28 ⟨Nat.le_trans (by decide) hR.1, Nat.le_trans (by decide) hR.2⟩ (by decide) rfl rfl rfl hl.1 (Nat.le_of_ble_eq_true rfl) dX0_rowsFirst_29 (fun r3 I3 J3 h => ?_)
    refine f_lstore (lv' := [(5, .long r3), (0, .ref (gad g 0 0)), (1, .int x1), (2, .long x2), (4, .int x4)]) C dX0_rowsFirst_32 hl (by decide) rfl (fun ls hl => ?_)
    refine f_lload C dX0_rowsFirst_34 (lv_at hl 0 rfl) ?_
    refine f_lconst (v := 0) C dX0_rowsFirst_36 (by decide) ?_
    refine f_lcmp C dX0_rowsFirst_37 ?_
    refine f_if_ne (tgt := 43) C dX0_rowsFirst_38 (by decide) (fun c4 => ?_) (fun c4 => ?_)
    · replace h := h.2 c4
      refine f_lload_n C dX0_rowsFirst_43 rfl (lv_at hl 3 rfl) ?_
      refine f_lload C dX0_rowsFirst_44 (lv_at hl 0 rfl) ?_
      refine f_ladd C dX0_rowsFirst_46 ?_
      refine f_lstore_n (lv' := [(2, .long (x2 + r3)), (5, .long r3), (0, .ref (gad g 0 0)), (1, .int x1), (4, .int x4)]) C dX0_rowsFirst_47 rfl hl (by decide) rfl (fun ls hl => ?_)
      refine f_iinc (v := x4 + (-1)) (lv' := [(4, .int (x4 + (-1))), (2, .long (x2 + r3)), (5, .long r3), (0, .ref (gad g 0 0)), (1, .int x1)]) C dX0_rowsFirst_48 hl (k := 4) rfl rfl (by decide) rfl (fun ls hl => ?_)
      refine f_goto (tgt := 8) C dX0_rowsFirst_51 (by decide) ?_
      exact hC8 _ _ _ _ _ h ls (lv_sub hl [3, 4, 1, 0] rfl)
    · replace h := h.1 c4
      refine f_lload_n C dX0_rowsFirst_41 rfl (lv_at hl 3 rfl) ?_
      exact f_lret C h dX0_rowsFirst_42

def L_X0_rowsFirst_8 (Q : Int64 → MI → MJ → Prop) : Nat → MI → MJ → Int32 → Int64 → Int32 → Prop
  | 0 => fun _ _ _ _ _ => False
  | n + 1 => fun I J x1 x2 x4 => B_X0_rowsFirst_8 Q (L_X0_rowsFirst_8 Q n) I J x1 x2 x4
theorem t_X0_rowsFirst_8 {p : Program} {l : Launch} {e : Env} {R : Room} {s : State} {m : MethodId} {args : Array Value} {below : List Frame} {meth : Method} {c : Code} {g : Geo} (C : Cx g p s m args meth c cX0_rowsFirst 7 RX0 (some .long)) (hR : 2 ≤ R.frames ∧ 48 ≤ R.locals) {Q : Int64 → MI → MJ → Prop} : ∀ (n : Nat), ∀ (I : MI) (J : MJ) (x1 : Int32) (x2 : Int64) (x4 : Int32), L_X0_rowsFirst_8 Q n I J x1 x2 x4 → ∀ ls : Array Slot, lv_has ls 7 [(0, .ref (gad g 0 0)), (1, .int x1), (2, .long x2), (4, .int x4)] → Wf p l e R s m args below meth c (MQ below (Qg g (PL Q)) args s 0 0 (gA g)) g I J (F0 m 8 ls []) := by
  intro n
  induction n with
  | zero => intro I J x1 x2 x4 h; exact h.elim
  | succ n ih => intro I J x1 x2 x4 h ls hl; exact b_X0_rowsFirst_8 C hR ih h ls hl
def wp_X0_rowsFirst (Q : Int64 → MI → MJ → Prop) (I : MI) (J : MJ) (x1 : Int32) : Prop :=
  ∃ n : Nat, L_X0_rowsFirst_8 Q n I J x1 0 (I 0 0 5)
set_option maxRecDepth 20000 in
theorem c_X0_rowsFirst {l : Launch} {g : Geo} {Q : Int64 → MI → MJ → Prop} {I : MI} {J : MJ} {x1 : Int32} (h : wp_X0_rowsFirst Q I J x1) : Ct g l yX0_rowsFirst cX0_rowsFirst 7 (some .long) 2 48 [.ref (gad g 0 0), .int x1] I J (PL Q) := by
  refine Ct.of (by decide) ?_
  intro p e s m below meth c C
  have hR : 2 ≤ (Rm 2 48).frames ∧ 48 ≤ (Rm 2 48).locals := ⟨Nat.le_refl _, Nat.le_refl _⟩
  generalize Rm 2 48 = R at hR ⊢
  have hl := lv_entry ([.ref (gad g 0 0), .int x1]) (n := 7) (Nat.le_of_ble_eq_true rfl)
  rw [lg_entry_eq]
  generalize (lg_sl ([.ref (gad g 0 0), .int x1]) ++ List.replicate (7 - (lg_sl ([.ref (gad g 0 0), .int x1])).length) Slot.unset).toArray = ls at hl ⊢
  have hl : lv_has ls 7 [(0, .ref (gad g 0 0)), (1, .int x1)] := hl
  refine f_lconst (v := 0) C dX0_rowsFirst_0 (by decide) ?_
  refine f_lstore_n (lv' := [(2, .long 0), (0, .ref (gad g 0 0)), (1, .int x1)]) C dX0_rowsFirst_1 rfl hl (by decide) rfl (fun ls hl => ?_)
  refine f_aload_n C dX0_rowsFirst_2 rfl (lv_at hl 1 rfl) ?_
  refine ge_RX0_25 C (by decide) dX0_rowsFirst_3 ?_
  refine f_istore (lv' := [(4, .int (I 0 0 5)), (2, .long 0), (0, .ref (gad g 0 0)), (1, .int x1)]) C dX0_rowsFirst_6 hl (by decide) rfl (fun ls hl => ?_)
  obtain ⟨n, h⟩ := h
  exact t_X0_rowsFirst_8 C hR n _ _ _ _ _ h ls (lv_sub hl [2, 3, 1, 0] rfl)

def J_X0_distance_52 (Q : Int64 → MI → MJ → Prop) (C14 : MI → MJ → Int64 → Int64 → Int64 → Int64 → Int32 → Prop) (I : MI) (J : MJ) (x1 : Int64) (x3 : Int64) (x5 : Int64) (x7 : Int64) (x9 : Int32) (s0 : Int64) : Prop :=
  wp_J9_abs_067f4 (fun r6 I6 J6 => C14 I6 J6 x1 x3 (x5 - s0) (x7 + r6) (x9 + 1)) I J ((((I 0 0 4).toInt64) * s0) - x3)
set_option maxRecDepth 20000 in
theorem t_X0_distance_52 {p : Program} {l : Launch} {e : Env} {R : Room} {s : State} {m : MethodId} {args : Array Value} {below : List Frame} {meth : Method} {c : Code} {g : Geo} (C : Cx g p s m args meth c cX0_distance 12 RX0 (some .long)) (hR : 3 ≤ R.frames ∧ 74 ≤ R.locals) {Q : Int64 → MI → MJ → Prop} {C14 : MI → MJ → Int64 → Int64 → Int64 → Int64 → Int32 → Prop} (hC14 : ∀ (I : MI) (J : MJ) (x1 : Int64) (x3 : Int64) (x5 : Int64) (x7 : Int64) (x9 : Int32), C14 I J x1 x3 x5 x7 x9 → ∀ ls : Array Slot, lv_has ls 12 [(0, .ref (gad g 0 0)), (1, .long x1), (3, .long x3), (5, .long x5), (7, .long x7), (9, .int x9)] → Wf p l e R s m args below meth c (MQ below (Qg g (PL Q)) args s 0 0 (gA g)) g I J (F0 m 14 ls [])) {I : MI} {J : MJ} {x1 : Int64} {x3 : Int64} {x5 : Int64} {x7 : Int64} {x9 : Int32} {s0 : Int64} (h : J_X0_distance_52 Q C14 I J x1 x3 x5 x7 x9 s0) (ls : Array Slot) (hl : lv_has ls 12 [(0, .ref (gad g 0 0)), (1, .long x1), (3, .long x3), (5, .long x5), (7, .long x7), (9, .int x9)]) : Wf p l e R s m args below meth c (MQ below (Qg g (PL Q)) args s 0 0 (gA g)) g I J (F0 m 52 ls [.long s0]) := by
  refine f_lstore (lv' := [(10, .long s0), (0, .ref (gad g 0 0)), (1, .long x1), (3, .long x3), (5, .long x5), (7, .long x7), (9, .int x9)]) C dX0_distance_52 hl (by decide) rfl (fun ls hl => ?_)
  refine f_lload C dX0_distance_54 (lv_at hl 4 rfl) ?_
  refine f_lload C dX0_distance_56 (lv_at hl 0 rfl) ?_
  refine f_lsub C dX0_distance_58 ?_
  refine f_lstore (lv' := [(5, .long (x5 - s0)), (10, .long s0), (0, .ref (gad g 0 0)), (1, .long x1), (3, .long x3), (7, .long x7), (9, .int x9)]) C dX0_distance_59 hl (by decide) rfl (fun ls hl => ?_)
  refine f_lload C dX0_distance_61 (lv_at hl 5 rfl) ?_
  refine f_aload_n C dX0_distance_63 rfl (lv_at hl 2 rfl) ?_
  refine ge_RX0_21 C (by decide) dX0_distance_64 ?_
  refine f_i2l (v := (I 0 0 4).toInt64) C dX0_distance_67 rfl ?_
  refine f_lload C dX0_distance_68 (lv_at hl 1 rfl) ?_
  refine f_lmul C dX0_distance_70 ?_
  refine f_lload_n C dX0_distance_71 rfl (lv_at hl 4 rfl) ?_
  refine f_lsub C dX0_distance_72 ?_
  refine f_cSl (As := [.long ((((I 0 0 4).toInt64) * s0) - x3)]) (rest := [.long x7]) (n := 1) C (c_J9_abs_067f4 h) ok_J9_abs_067f4 sm_J9_abs_067f4 kw_RX0_44 ⟨Nat.le_trans (by decide) hR.1, Nat.le_trans (by decide) hR.2⟩ rfl hl.1 (Nat.le_of_ble_eq_true rfl) dX0_distance_73 (fun r6 I6 J6 h => ?_)
  refine f_ladd C dX0_distance_76 ?_
  refine f_lstore (lv' := [(7, .long (x7 + r6)), (5, .long (x5 - s0)), (10, .long s0), (0, .ref (gad g 0 0)), (1, .long x1), (3, .long x3), (9, .int x9)]) C dX0_distance_77 hl (by decide) rfl (fun ls hl => ?_)
  refine f_iinc (v := x9 + 1) (lv' := [(9, .int (x9 + 1)), (7, .long (x7 + r6)), (5, .long (x5 - s0)), (10, .long s0), (0, .ref (gad g 0 0)), (1, .long x1), (3, .long x3)]) C dX0_distance_79 hl (k := 6) rfl rfl (by decide) rfl (fun ls hl => ?_)
  refine f_goto (tgt := 14) C dX0_distance_82 (by decide) ?_
  exact hC14 _ _ _ _ _ _ _ h ls (lv_sub hl [4, 5, 6, 2, 1, 0] rfl)

def B_X0_distance_14 (Q : Int64 → MI → MJ → Prop) (C14 : MI → MJ → Int64 → Int64 → Int64 → Int64 → Int32 → Prop) (I : MI) (J : MJ) (x1 : Int64) (x3 : Int64) (x5 : Int64) (x7 : Int64) (x9 : Int32) : Prop :=
  ((I 0 0 4) ≤ x9 → Q x7 I J) ∧
  (¬ ((I 0 0 4) ≤ x9) → (0 ≤ (lg_cmp x7 x1) → Q x7 I J) ∧
  (¬ (0 ≤ (lg_cmp x7 x1)) → (x9 = ((I 0 0 4) - 1) → J_X0_distance_52 Q C14 I J x1 x3 x5 x7 x9 x5) ∧
  (¬ (x9 = ((I 0 0 4) - 1)) → wp_X0_rowsFirst (fun r5 I5 J5 => J_X0_distance_52 Q C14 I5 J5 x1 x3 x5 x7 x9 r5) I J x9)))
set_option maxRecDepth 20000 in
theorem b_X0_distance_14 {p : Program} {l : Launch} {e : Env} {R : Room} {s : State} {m : MethodId} {args : Array Value} {below : List Frame} {meth : Method} {c : Code} {g : Geo} (C : Cx g p s m args meth c cX0_distance 12 RX0 (some .long)) (hR : 3 ≤ R.frames ∧ 74 ≤ R.locals) {Q : Int64 → MI → MJ → Prop} {C14 : MI → MJ → Int64 → Int64 → Int64 → Int64 → Int32 → Prop} (hC14 : ∀ (I : MI) (J : MJ) (x1 : Int64) (x3 : Int64) (x5 : Int64) (x7 : Int64) (x9 : Int32), C14 I J x1 x3 x5 x7 x9 → ∀ ls : Array Slot, lv_has ls 12 [(0, .ref (gad g 0 0)), (1, .long x1), (3, .long x3), (5, .long x5), (7, .long x7), (9, .int x9)] → Wf p l e R s m args below meth c (MQ below (Qg g (PL Q)) args s 0 0 (gA g)) g I J (F0 m 14 ls [])) {I : MI} {J : MJ} {x1 : Int64} {x3 : Int64} {x5 : Int64} {x7 : Int64} {x9 : Int32} (h : B_X0_distance_14 Q C14 I J x1 x3 x5 x7 x9) (ls : Array Slot) (hl : lv_has ls 12 [(0, .ref (gad g 0 0)), (1, .long x1), (3, .long x3), (5, .long x5), (7, .long x7), (9, .int x9)]) : Wf p l e R s m args below meth c (MQ below (Qg g (PL Q)) args s 0 0 (gA g)) g I J (F0 m 14 ls []) := by
  refine f_iload C dX0_distance_14 (lv_at hl 5 rfl) ?_
  refine f_aload_n C dX0_distance_16 rfl (lv_at hl 0 rfl) ?_
  refine ge_RX0_21 C (by decide) dX0_distance_17 ?_
  refine f_icmp_ge (tgt := 85) C dX0_distance_20 (by decide) (fun c2 => ?_) (fun c2 => ?_)
  · replace h := h.1 c2
    refine f_lload C dX0_distance_85 (lv_at hl 4 rfl) ?_
    exact f_lret C h dX0_distance_87
  · replace h := h.2 c2
    refine f_lload C dX0_distance_23 (lv_at hl 4 rfl) ?_
    refine f_lload_n C dX0_distance_25 rfl (lv_at hl 1 rfl) ?_
    refine f_lcmp C dX0_distance_26 ?_
    refine f_if_ge (tgt := 85) C dX0_distance_27 (by decide) (fun c3 => ?_) (fun c3 => ?_)
    · replace h := h.1 c3
      refine f_lload C dX0_distance_85 (lv_at hl 4 rfl) ?_
      exact f_lret C h dX0_distance_87
    · replace h := h.2 c3
      refine f_iload C dX0_distance_30 (lv_at hl 5 rfl) ?_
      refine f_aload_n C dX0_distance_32 rfl (lv_at hl 0 rfl) ?_
      refine ge_RX0_21 C (by decide) dX0_distance_33 ?_
      refine f_iconst (v := 1) C dX0_distance_36 (by decide) ?_
      refine f_isub C dX0_distance_37 ?_
      refine f_icmp_ne (tgt := 46) C dX0_distance_38 (by decide) (fun c4 => ?_) (fun c4 => ?_)
      · replace h := h.2 c4
        refine f_aload_n C dX0_distance_46 rfl (lv_at hl 0 rfl) ?_
        refine f_iload C dX0_distance_47 (lv_at hl 5 rfl) ?_
        refine f_cVl (As := [.int x9]) (rest := []) (n := 1) (T0 := TX0) (N := 6) C (c_X0_rowsFirst h) ok_X0_rowsFirst im_X0_rowsFirst se_X0_rowsFirst kw_RX0_40 ⟨Nat.le_trans (by decide) hR.1, Nat.le_trans (by decide) hR.2⟩ (by decide) rfl rfl rfl hl.1 (Nat.le_of_ble_eq_true rfl) dX0_distance_49 (fun r5 I5 J5 h => ?_)
        exact t_X0_distance_52 C hR hC14 h ls (lv_sub hl [0, 1, 2, 3, 4, 5] rfl)
      · replace h := h.1 c4
        refine f_lload C dX0_distance_41 (lv_at hl 3 rfl) ?_
        refine f_goto (tgt := 52) C dX0_distance_43 (by decide) ?_
        exact t_X0_distance_52 C hR hC14 h ls (lv_sub hl [0, 1, 2, 3, 4, 5] rfl)

def L_X0_distance_14 (Q : Int64 → MI → MJ → Prop) : Nat → MI → MJ → Int64 → Int64 → Int64 → Int64 → Int32 → Prop
  | 0 => fun _ _ _ _ _ _ _ => False
  | n + 1 => fun I J x1 x3 x5 x7 x9 => B_X0_distance_14 Q (L_X0_distance_14 Q n) I J x1 x3 x5 x7 x9
theorem t_X0_distance_14 {p : Program} {l : Launch} {e : Env} {R : Room} {s : State} {m : MethodId} {args : Array Value} {below : List Frame} {meth : Method} {c : Code} {g : Geo} (C : Cx g p s m args meth c cX0_distance 12 RX0 (some .long)) (hR : 3 ≤ R.frames ∧ 74 ≤ R.locals) {Q : Int64 → MI → MJ → Prop} : ∀ (n : Nat), ∀ (I : MI) (J : MJ) (x1 : Int64) (x3 : Int64) (x5 : Int64) (x7 : Int64) (x9 : Int32), L_X0_distance_14 Q n I J x1 x3 x5 x7 x9 → ∀ ls : Array Slot, lv_has ls 12 [(0, .ref (gad g 0 0)), (1, .long x1), (3, .long x3), (5, .long x5), (7, .long x7), (9, .int x9)] → Wf p l e R s m args below meth c (MQ below (Qg g (PL Q)) args s 0 0 (gA g)) g I J (F0 m 14 ls []) := by
  intro n
  induction n with
  | zero => intro I J x1 x3 x5 x7 x9 h; exact h.elim
  | succ n ih => intro I J x1 x3 x5 x7 x9 h ls hl; exact b_X0_distance_14 C hR ih h ls hl
def wp_X0_distance (Q : Int64 → MI → MJ → Prop) (I : MI) (J : MJ) (x1 : Int64) : Prop :=
  wp_X0_allRows (fun r1 I1 J1 => ∃ n : Nat, L_X0_distance_14 Q n I1 J1 x1 r1 r1 0 0) I J
set_option maxRecDepth 20000 in
theorem c_X0_distance {l : Launch} {g : Geo} {Q : Int64 → MI → MJ → Prop} {I : MI} {J : MJ} {x1 : Int64} (h : wp_X0_distance Q I J x1) : Ct g l yX0_distance cX0_distance 12 (some .long) 3 74 [.ref (gad g 0 0), .long x1] I J (PL Q) := by
  refine Ct.of (by decide) ?_
  intro p e s m below meth c C
  have hR : 3 ≤ (Rm 3 74).frames ∧ 74 ≤ (Rm 3 74).locals := ⟨Nat.le_refl _, Nat.le_refl _⟩
  generalize Rm 3 74 = R at hR ⊢
  have hl := lv_entry ([.ref (gad g 0 0), .long x1]) (n := 12) (Nat.le_of_ble_eq_true rfl)
  rw [lg_entry_eq]
  generalize (lg_sl ([.ref (gad g 0 0), .long x1]) ++ List.replicate (12 - (lg_sl ([.ref (gad g 0 0), .long x1])).length) Slot.unset).toArray = ls at hl ⊢
  have hl : lv_has ls 12 [(0, .ref (gad g 0 0)), (1, .long x1)] := hl
  refine f_aload_n C dX0_distance_0 rfl (lv_at hl 0 rfl) ?_
  refine f_cVl (As := []) (rest := []) (n := 0) (T0 := TX0) (N := 6) C (c_X0_allRows h) ok_X0_allRows im_X0_allRows se_X0_allRows kw_RX0_36 ⟨Nat.le_trans (by decide) hR.1, Nat.le_trans (by decide) hR.2⟩ (by decide) rfl rfl rfl hl.1 (Nat.le_of_ble_eq_true rfl) dX0_distance_1 (fun r1 I1 J1 h => ?_)
  refine f_lstore_n (lv' := [(3, .long r1), (0, .ref (gad g 0 0)), (1, .long x1)]) C dX0_distance_4 rfl hl (by decide) rfl (fun ls hl => ?_)
  refine f_lload_n C dX0_distance_5 rfl (lv_at hl 0 rfl) ?_
  refine f_lstore (lv' := [(5, .long r1), (3, .long r1), (0, .ref (gad g 0 0)), (1, .long x1)]) C dX0_distance_6 hl (by decide) rfl (fun ls hl => ?_)
  refine f_lconst (v := 0) C dX0_distance_8 (by decide) ?_
  refine f_lstore (lv' := [(7, .long 0), (5, .long r1), (3, .long r1), (0, .ref (gad g 0 0)), (1, .long x1)]) C dX0_distance_9 hl (by decide) rfl (fun ls hl => ?_)
  refine f_iconst (v := 0) C dX0_distance_11 (by decide) ?_
  refine f_istore (lv' := [(9, .int 0), (7, .long 0), (5, .long r1), (3, .long r1), (0, .ref (gad g 0 0)), (1, .long x1)]) C dX0_distance_12 hl (by decide) rfl (fun ls hl => ?_)
  obtain ⟨n, h⟩ := h
  exact t_X0_distance_14 C hR n _ _ _ _ _ _ _ h ls (lv_sub hl [4, 5, 3, 2, 1, 0] rfl)

def wp_X0_thirdWeights (Q : Int32 → MI → MJ → Prop) (I : MI) (J : MJ) (x1 : Int32) : Prop :=
  ((I 0 0 4) ≤ 2 → (x1 = 0 → Q 0 I J) ∧
  (¬ (x1 = 0) → Q 1 I J)) ∧
  (¬ ((I 0 0 4) ≤ 2) → (x1 = 0 → Q 1 I J) ∧
  (¬ (x1 = 0) → Q 21 I J))
set_option maxRecDepth 20000 in
theorem c_X0_thirdWeights {l : Launch} {g : Geo} {Q : Int32 → MI → MJ → Prop} {I : MI} {J : MJ} {x1 : Int32} (h : wp_X0_thirdWeights Q I J x1) : Ct g l yX0_thirdWeights cX0_thirdWeights 2 (some .int) 0 0 [.ref (gad g 0 0), .int x1] I J (PI Q) := by
  refine Ct.of (by decide) ?_
  intro p e s m below meth c C
  have hR : 0 ≤ (Rm 0 0).frames ∧ 0 ≤ (Rm 0 0).locals := ⟨Nat.le_refl _, Nat.le_refl _⟩
  generalize Rm 0 0 = R at hR ⊢
  have hl := lv_entry ([.ref (gad g 0 0), .int x1]) (n := 2) (Nat.le_of_ble_eq_true rfl)
  rw [lg_entry_eq]
  generalize (lg_sl ([.ref (gad g 0 0), .int x1]) ++ List.replicate (2 - (lg_sl ([.ref (gad g 0 0), .int x1])).length) Slot.unset).toArray = ls at hl ⊢
  have hl : lv_has ls 2 [(0, .ref (gad g 0 0)), (1, .int x1)] := hl
  refine f_aload_n C dX0_thirdWeights_0 rfl (lv_at hl 0 rfl) ?_
  refine ge_RX0_21 C (by decide) dX0_thirdWeights_1 ?_
  refine f_iconst (v := 2) C dX0_thirdWeights_4 (by decide) ?_
  refine f_icmp_le (tgt := 19) C dX0_thirdWeights_5 (by decide) (fun c1 => ?_) (fun c1 => ?_)
  · replace h := h.1 c1
    refine f_iload_n C dX0_thirdWeights_19 rfl (lv_at hl 1 rfl) ?_
    refine f_if_eq (tgt := 27) C dX0_thirdWeights_20 (by decide) (fun c2 => ?_) (fun c2 => ?_)
    · replace h := h.1 c2
      refine f_iconst (v := 0) C dX0_thirdWeights_27 (by decide) ?_
      exact f_iret C h dX0_thirdWeights_28
    · replace h := h.2 c2
      refine f_iconst (v := 1) C dX0_thirdWeights_23 (by decide) ?_
      refine f_goto (tgt := 28) C dX0_thirdWeights_24 (by decide) ?_
      exact f_iret C h dX0_thirdWeights_28
  · replace h := h.2 c1
    refine f_iload_n C dX0_thirdWeights_8 rfl (lv_at hl 1 rfl) ?_
    refine f_if_eq (tgt := 17) C dX0_thirdWeights_9 (by decide) (fun c3 => ?_) (fun c3 => ?_)
    · replace h := h.1 c3
      refine f_iconst (v := 1) C dX0_thirdWeights_17 (by decide) ?_
      exact f_iret C h dX0_thirdWeights_18
    · replace h := h.2 c3
      refine f_bipush (v := 21) C dX0_thirdWeights_12 (by decide) ?_
      refine f_goto (tgt := 18) C dX0_thirdWeights_14 (by decide) ?_
      exact f_iret C h dX0_thirdWeights_18

def wp_X0_tryWeights (Q : MI → MJ → Prop) (I : MI) (J : MJ) (x1 : Int32) (x2 : Int32) (x3 : Int32) : Prop :=
  ∀ I1 : MI, I1 = up3 (up3 (up3 I 10 0 0 ((I 9 0 0) - x1)) 10 0 1 (((up3 I 10 0 0 ((I 9 0 0) - x1)) 9 0 1) - x2)) 10 0 2 (((up3 (up3 I 10 0 0 ((I 9 0 0) - x1)) 10 0 1 (((up3 I 10 0 0 ((I 9 0 0) - x1)) 9 0 1) - x2)) 9 0 2) - x3) → (wp_X0_distance (fun r2 I2 J2 => (0 ≤ (lg_cmp r2 (J2 0 0 3)) → Q I2 J2) ∧
  (¬ (0 ≤ (lg_cmp r2 (J2 0 0 3))) → Q (up3 (up3 (up3 I2 11 0 0 x1) 11 0 1 x2) 11 0 2 x3) (up3L J2 0 0 3 r2))) I1 J (J 0 0 3))
set_option maxRecDepth 20000 in
theorem c_X0_tryWeights {l : Launch} {g : Geo} {Q : MI → MJ → Prop} {I : MI} {J : MJ} {x1 : Int32} {x2 : Int32} {x3 : Int32} (h : wp_X0_tryWeights Q I J x1 x2 x3) : Ct g l yX0_tryWeights cX0_tryWeights 6 none 4 105 [.ref (gad g 0 0), .int x1, .int x2, .int x3] I J (PV Q) := by
  refine Ct.of (by decide) ?_
  intro p e s m below meth c C
  have hR : 4 ≤ (Rm 4 105).frames ∧ 105 ≤ (Rm 4 105).locals := ⟨Nat.le_refl _, Nat.le_refl _⟩
  generalize Rm 4 105 = R at hR ⊢
  have hl := lv_entry ([.ref (gad g 0 0), .int x1, .int x2, .int x3]) (n := 6) (Nat.le_of_ble_eq_true rfl)
  rw [lg_entry_eq]
  generalize (lg_sl ([.ref (gad g 0 0), .int x1, .int x2, .int x3]) ++ List.replicate (6 - (lg_sl ([.ref (gad g 0 0), .int x1, .int x2, .int x3])).length) Slot.unset).toArray = ls at hl ⊢
  have hl : lv_has ls 6 [(0, .ref (gad g 0 0)), (1, .int x1), (2, .int x2), (3, .int x3)] := hl
  refine f_aload_n C dX0_tryWeights_0 rfl (lv_at hl 0 rfl) ?_
  refine ge_RX0_15 C (by decide) dX0_tryWeights_1 ?_
  refine f_iconst (v := 0) C dX0_tryWeights_4 (by decide) ?_
  refine f_aload_n C dX0_tryWeights_5 rfl (lv_at hl 0 rfl) ?_
  refine ge_RX0_9 C (by decide) dX0_tryWeights_6 ?_
  refine f_iconst (v := 0) C dX0_tryWeights_9 (by decide) ?_
  refine al_k (n := 8) (k := 0) C (by decide) rfl (by decide) (vin_k (by decide)) dX0_tryWeights_10 ?_
  refine f_iload_n C dX0_tryWeights_11 rfl (lv_at hl 1 rfl) ?_
  refine f_isub C dX0_tryWeights_12 ?_
  refine as_k (n := 8) (k := 0) C (by decide) (fun _ => rfl) (by decide) (vin_k (by decide)) dX0_tryWeights_13 ?_
  refine f_aload_n C dX0_tryWeights_14 rfl (lv_at hl 0 rfl) ?_
  refine ge_RX0_15 C (by decide) dX0_tryWeights_15 ?_
  refine f_iconst (v := 1) C dX0_tryWeights_18 (by decide) ?_
  refine f_aload_n C dX0_tryWeights_19 rfl (lv_at hl 0 rfl) ?_
  refine ge_RX0_9 C (by decide) dX0_tryWeights_20 ?_
  refine f_iconst (v := 1) C dX0_tryWeights_23 (by decide) ?_
  refine al_k (n := 8) (k := 1) C (by decide) rfl (by decide) (vin_k (by decide)) dX0_tryWeights_24 ?_
  refine f_iload_n C dX0_tryWeights_25 rfl (lv_at hl 2 rfl) ?_
  refine f_isub C dX0_tryWeights_26 ?_
  refine as_k (n := 8) (k := 1) C (by decide) (fun _ => rfl) (by decide) (vin_k (by decide)) dX0_tryWeights_27 ?_
  refine f_aload_n C dX0_tryWeights_28 rfl (lv_at hl 0 rfl) ?_
  refine ge_RX0_15 C (by decide) dX0_tryWeights_29 ?_
  refine f_iconst (v := 2) C dX0_tryWeights_32 (by decide) ?_
  refine f_aload_n C dX0_tryWeights_33 rfl (lv_at hl 0 rfl) ?_
  refine ge_RX0_9 C (by decide) dX0_tryWeights_34 ?_
  refine f_iconst (v := 2) C dX0_tryWeights_37 (by decide) ?_
  refine al_k (n := 8) (k := 2) C (by decide) rfl (by decide) (vin_k (by decide)) dX0_tryWeights_38 ?_
  refine f_iload_n C dX0_tryWeights_39 rfl (lv_at hl 3 rfl) ?_
  refine f_isub C dX0_tryWeights_40 ?_
  refine as_k (n := 8) (k := 2) C (by decide) (fun _ => rfl) (by decide) (vin_k (by decide)) dX0_tryWeights_41 ?_
  generalize hI1 : up3 (up3 (up3 I 10 0 0 ((I 9 0 0) - x1)) 10 0 1 (((up3 I 10 0 0 ((I 9 0 0) - x1)) 9 0 1) - x2)) 10 0 2 (((up3 (up3 I 10 0 0 ((I 9 0 0) - x1)) 10 0 1 (((up3 I 10 0 0 ((I 9 0 0) - x1)) 9 0 1) - x2)) 9 0 2) - x3) = I1
  replace h := h I1 hI1.symm
  refine f_aload_n C dX0_tryWeights_42 rfl (lv_at hl 0 rfl) ?_
  refine f_aload_n C dX0_tryWeights_43 rfl (lv_at hl 0 rfl) ?_
  refine ge_RX0_52 C (by decide) dX0_tryWeights_44 ?_
  refine f_cVl (As := [.long (J 0 0 3)]) (rest := []) (n := 1) (T0 := TX0) (N := 6) C (c_X0_distance h) ok_X0_distance im_X0_distance se_X0_distance kw_RX0_64 ⟨Nat.le_trans (by decide) hR.1, Nat.le_trans (by decide) hR.2⟩ (by decide) rfl rfl rfl hl.1 (Nat.le_of_ble_eq_true rfl) dX0_tryWeights_47 (fun r2 I2 J2 h => ?_)
  refine f_lstore (lv' := [(4, .long r2), (0, .ref (gad g 0 0)), (1, .int x1), (2, .int x2), (3, .int x3)]) C dX0_tryWeights_50 hl (by decide) rfl (fun ls hl => ?_)
  refine f_lload C dX0_tryWeights_52 (lv_at hl 0 rfl) ?_
  refine f_aload_n C dX0_tryWeights_54 rfl (lv_at hl 1 rfl) ?_
  refine ge_RX0_52 C (by decide) dX0_tryWeights_55 ?_
  refine f_lcmp C dX0_tryWeights_58 ?_
  refine f_if_ge (tgt := 89) C dX0_tryWeights_59 (by decide) (fun c3 => ?_) (fun c3 => ?_)
  · replace h := h.1 c3
    exact f_vret C h dX0_tryWeights_89
  · replace h := h.2 c3
    refine f_aload_n C dX0_tryWeights_62 rfl (lv_at hl 1 rfl) ?_
    refine f_lload C dX0_tryWeights_63 (lv_at hl 0 rfl) ?_
    refine pu_RX0_52 C (by decide) dX0_tryWeights_65 ?_
    refine f_aload_n C dX0_tryWeights_68 rfl (lv_at hl 1 rfl) ?_
    refine ge_RX0_18 C (by decide) dX0_tryWeights_69 ?_
    refine f_iconst (v := 0) C dX0_tryWeights_72 (by decide) ?_
    refine f_iload_n C dX0_tryWeights_73 rfl (lv_at hl 2 rfl) ?_
    refine as_k (n := 3) (k := 0) C (by decide) (fun _ => rfl) (by decide) (vin_k (by decide)) dX0_tryWeights_74 ?_
    refine f_aload_n C dX0_tryWeights_75 rfl (lv_at hl 1 rfl) ?_
    refine ge_RX0_18 C (by decide) dX0_tryWeights_76 ?_
    refine f_iconst (v := 1) C dX0_tryWeights_79 (by decide) ?_
    refine f_iload_n C dX0_tryWeights_80 rfl (lv_at hl 3 rfl) ?_
    refine as_k (n := 3) (k := 1) C (by decide) (fun _ => rfl) (by decide) (vin_k (by decide)) dX0_tryWeights_81 ?_
    refine f_aload_n C dX0_tryWeights_82 rfl (lv_at hl 1 rfl) ?_
    refine ge_RX0_18 C (by decide) dX0_tryWeights_83 ?_
    refine f_iconst (v := 2) C dX0_tryWeights_86 (by decide) ?_
    refine f_iload_n C dX0_tryWeights_87 rfl (lv_at hl 4 rfl) ?_
    refine as_k (n := 3) (k := 2) C (by decide) (fun _ => rfl) (by decide) (vin_k (by decide)) dX0_tryWeights_88 ?_
    exact f_vret C h dX0_tryWeights_89

def B_X0_seekEven_44 (Q : MI → MJ → Prop) (C9 : MI → MJ → Int32 → Prop) (C17 : MI → MJ → Int32 → Int32 → Prop) (C44 : MI → MJ → Int32 → Int32 → Int32 → Int32 → Prop) (I : MI) (J : MJ) (x1 : Int32) (x2 : Int32) (x3 : Int32) (x4 : Int32) : Prop :=
  (x3 ≤ x4 → C17 I J x1 (x2 + 1)) ∧
  (¬ (x3 ≤ x4) → wp_X0_tryWeights (fun I6 J6 => C44 I6 J6 x1 x2 x3 (x4 + 1)) I J x1 x2 x4)
set_option maxRecDepth 20000 in
theorem b_X0_seekEven_44 {p : Program} {l : Launch} {e : Env} {R : Room} {s : State} {m : MethodId} {args : Array Value} {below : List Frame} {meth : Method} {c : Code} {g : Geo} (C : Cx g p s m args meth c cX0_seekEven 5 RX0 none) (hR : 5 ≤ R.frames ∧ 130 ≤ R.locals) {Q : MI → MJ → Prop} {C9 : MI → MJ → Int32 → Prop} {C17 : MI → MJ → Int32 → Int32 → Prop} (hC9 : ∀ (I : MI) (J : MJ) (x1 : Int32), C9 I J x1 → ∀ ls : Array Slot, lv_has ls 5 [(0, .ref (gad g 0 0)), (1, .int x1)] → Wf p l e R s m args below meth c (MQ below (Qg g (PV Q)) args s 0 0 (gA g)) g I J (F0 m 9 ls [])) (hC17 : ∀ (I : MI) (J : MJ) (x1 : Int32) (x2 : Int32), C17 I J x1 x2 → ∀ ls : Array Slot, lv_has ls 5 [(0, .ref (gad g 0 0)), (1, .int x1), (2, .int x2)] → Wf p l e R s m args below meth c (MQ below (Qg g (PV Q)) args s 0 0 (gA g)) g I J (F0 m 17 ls [])) {C44 : MI → MJ → Int32 → Int32 → Int32 → Int32 → Prop} (hC44 : ∀ (I : MI) (J : MJ) (x1 : Int32) (x2 : Int32) (x3 : Int32) (x4 : Int32), C44 I J x1 x2 x3 x4 → ∀ ls : Array Slot, lv_has ls 5 [(0, .ref (gad g 0 0)), (1, .int x1), (2, .int x2), (3, .int x3), (4, .int x4)] → Wf p l e R s m args below meth c (MQ below (Qg g (PV Q)) args s 0 0 (gA g)) g I J (F0 m 44 ls [])) {I : MI} {J : MJ} {x1 : Int32} {x2 : Int32} {x3 : Int32} {x4 : Int32} (h : B_X0_seekEven_44 Q C9 C17 C44 I J x1 x2 x3 x4) (ls : Array Slot) (hl : lv_has ls 5 [(0, .ref (gad g 0 0)), (1, .int x1), (2, .int x2), (3, .int x3), (4, .int x4)]) : Wf p l e R s m args below meth c (MQ below (Qg g (PV Q)) args s 0 0 (gA g)) g I J (F0 m 44 ls []) := by
  refine f_iload C dX0_seekEven_44 (lv_at hl 4 rfl) ?_
  refine f_iload_n C dX0_seekEven_46 rfl (lv_at hl 3 rfl) ?_
  refine f_icmp_ge (tgt := 64) C dX0_seekEven_47 (by decide) (fun c5 => ?_) (fun c5 => ?_)
  · replace h := h.1 c5
    refine f_iinc (v := x2 + 1) (lv' := [(2, .int (x2 + 1)), (0, .ref (gad g 0 0)), (1, .int x1), (3, .int x3), (4, .int x4)]) C dX0_seekEven_64 hl (k := 2) rfl rfl (by decide) rfl (fun ls hl => ?_)
    refine f_goto (tgt := 17) C dX0_seekEven_67 (by decide) ?_
    exact hC17 _ _ _ _ h ls (lv_sub hl [1, 2, 0] rfl)
  · replace h := h.2 c5
    refine f_aload_n C dX0_seekEven_50 rfl (lv_at hl 0 rfl) ?_
    refine f_iload_n C dX0_seekEven_51 rfl (lv_at hl 1 rfl) ?_
    refine f_iload_n C dX0_seekEven_52 rfl (lv_at hl 2 rfl) ?_
    refine f_iload C dX0_seekEven_53 (lv_at hl 4 rfl) ?_
    refine f_cVv (As := [.int x1, .int x2, .int x4]) (rest := []) (n := 3) (T0 := TX0) (N := 6) C (c_X0_tryWeights h) ok_X0_tryWeights im_X0_tryWeights se_X0_tryWeights kw_RX0_60 ⟨Nat.le_trans (by decide) hR.1, Nat.le_trans (by decide) hR.2⟩ (by decide) rfl rfl rfl hl.1 (Nat.le_of_ble_eq_true rfl) dX0_seekEven_55 (fun I6 J6 h => ?_)
    refine f_iinc (v := x4 + 1) (lv' := [(4, .int (x4 + 1)), (0, .ref (gad g 0 0)), (1, .int x1), (2, .int x2), (3, .int x3)]) C dX0_seekEven_58 hl (k := 4) rfl rfl (by decide) rfl (fun ls hl => ?_)
    refine f_goto (tgt := 44) C dX0_seekEven_61 (by decide) ?_
    exact hC44 _ _ _ _ _ _ h ls (lv_sub hl [1, 2, 3, 4, 0] rfl)

def L_X0_seekEven_44 (Q : MI → MJ → Prop) (C9 : MI → MJ → Int32 → Prop) (C17 : MI → MJ → Int32 → Int32 → Prop) : Nat → MI → MJ → Int32 → Int32 → Int32 → Int32 → Prop
  | 0 => fun _ _ _ _ _ _ => False
  | n + 1 => fun I J x1 x2 x3 x4 => B_X0_seekEven_44 Q C9 C17 (L_X0_seekEven_44 Q C9 C17 n) I J x1 x2 x3 x4
theorem t_X0_seekEven_44 {p : Program} {l : Launch} {e : Env} {R : Room} {s : State} {m : MethodId} {args : Array Value} {below : List Frame} {meth : Method} {c : Code} {g : Geo} (C : Cx g p s m args meth c cX0_seekEven 5 RX0 none) (hR : 5 ≤ R.frames ∧ 130 ≤ R.locals) {Q : MI → MJ → Prop} {C9 : MI → MJ → Int32 → Prop} {C17 : MI → MJ → Int32 → Int32 → Prop} (hC9 : ∀ (I : MI) (J : MJ) (x1 : Int32), C9 I J x1 → ∀ ls : Array Slot, lv_has ls 5 [(0, .ref (gad g 0 0)), (1, .int x1)] → Wf p l e R s m args below meth c (MQ below (Qg g (PV Q)) args s 0 0 (gA g)) g I J (F0 m 9 ls [])) (hC17 : ∀ (I : MI) (J : MJ) (x1 : Int32) (x2 : Int32), C17 I J x1 x2 → ∀ ls : Array Slot, lv_has ls 5 [(0, .ref (gad g 0 0)), (1, .int x1), (2, .int x2)] → Wf p l e R s m args below meth c (MQ below (Qg g (PV Q)) args s 0 0 (gA g)) g I J (F0 m 17 ls [])) : ∀ (n : Nat), ∀ (I : MI) (J : MJ) (x1 : Int32) (x2 : Int32) (x3 : Int32) (x4 : Int32), L_X0_seekEven_44 Q C9 C17 n I J x1 x2 x3 x4 → ∀ ls : Array Slot, lv_has ls 5 [(0, .ref (gad g 0 0)), (1, .int x1), (2, .int x2), (3, .int x3), (4, .int x4)] → Wf p l e R s m args below meth c (MQ below (Qg g (PV Q)) args s 0 0 (gA g)) g I J (F0 m 44 ls []) := by
  intro n
  induction n with
  | zero => intro I J x1 x2 x3 x4 h; exact h.elim
  | succ n ih => intro I J x1 x2 x3 x4 h ls hl; exact b_X0_seekEven_44 C hR hC9 hC17 ih h ls hl
def J_X0_seekEven_37 (Q : MI → MJ → Prop) (C9 : MI → MJ → Int32 → Prop) (C17 : MI → MJ → Int32 → Int32 → Prop) (I : MI) (J : MJ) (x1 : Int32) (x2 : Int32) (s0 : Int32) : Prop :=
  wp_X0_thirdWeights (fun r4 I4 J4 => ∃ n : Nat, L_X0_seekEven_44 Q C9 C17 n I4 J4 x1 x2 r4 0) I J s0
set_option maxRecDepth 20000 in
theorem t_X0_seekEven_37 {p : Program} {l : Launch} {e : Env} {R : Room} {s : State} {m : MethodId} {args : Array Value} {below : List Frame} {meth : Method} {c : Code} {g : Geo} (C : Cx g p s m args meth c cX0_seekEven 5 RX0 none) (hR : 5 ≤ R.frames ∧ 130 ≤ R.locals) {Q : MI → MJ → Prop} {C9 : MI → MJ → Int32 → Prop} {C17 : MI → MJ → Int32 → Int32 → Prop} (hC9 : ∀ (I : MI) (J : MJ) (x1 : Int32), C9 I J x1 → ∀ ls : Array Slot, lv_has ls 5 [(0, .ref (gad g 0 0)), (1, .int x1)] → Wf p l e R s m args below meth c (MQ below (Qg g (PV Q)) args s 0 0 (gA g)) g I J (F0 m 9 ls [])) (hC17 : ∀ (I : MI) (J : MJ) (x1 : Int32) (x2 : Int32), C17 I J x1 x2 → ∀ ls : Array Slot, lv_has ls 5 [(0, .ref (gad g 0 0)), (1, .int x1), (2, .int x2)] → Wf p l e R s m args below meth c (MQ below (Qg g (PV Q)) args s 0 0 (gA g)) g I J (F0 m 17 ls [])) {I : MI} {J : MJ} {x1 : Int32} {x2 : Int32} {s0 : Int32} (h : J_X0_seekEven_37 Q C9 C17 I J x1 x2 s0) (ls : Array Slot) (hl : lv_has ls 5 [(0, .ref (gad g 0 0)), (1, .int x1), (2, .int x2)]) : Wf p l e R s m args below meth c (MQ below (Qg g (PV Q)) args s 0 0 (gA g)) g I J (F0 m 37 ls [.int s0, .ref (gad g 0 0)]) := by
  refine f_cVi (As := [.int s0]) (rest := []) (n := 1) (T0 := TX0) (N := 6) C (c_X0_thirdWeights h) ok_X0_thirdWeights im_X0_thirdWeights se_X0_thirdWeights kw_RX0_56 ⟨Nat.le_trans (by decide) hR.1, Nat.le_trans (by decide) hR.2⟩ (by decide) rfl rfl rfl hl.1 (Nat.le_of_ble_eq_true rfl) dX0_seekEven_37 (fun r4 I4 J4 h => ?_)
  refine f_istore_n (lv' := [(3, .int r4), (0, .ref (gad g 0 0)), (1, .int x1), (2, .int x2)]) C dX0_seekEven_40 rfl hl (by decide) rfl (fun ls hl => ?_)
  refine f_iconst (v := 0) C dX0_seekEven_41 (by decide) ?_
  refine f_istore (lv' := [(4, .int 0), (3, .int r4), (0, .ref (gad g 0 0)), (1, .int x1), (2, .int x2)]) C dX0_seekEven_42 hl (by decide) rfl (fun ls hl => ?_)
  obtain ⟨n, h⟩ := h
  exact t_X0_seekEven_44 C hR hC9 hC17 n _ _ _ _ _ _ h ls (lv_sub hl [2, 3, 4, 1, 0] rfl)

def J_X0_seekEven_32 (Q : MI → MJ → Prop) (C9 : MI → MJ → Int32 → Prop) (C17 : MI → MJ → Int32 → Int32 → Prop) (I : MI) (J : MJ) (x1 : Int32) (x2 : Int32) : Prop :=
  J_X0_seekEven_37 Q C9 C17 I J x1 x2 1
set_option maxRecDepth 20000 in
theorem t_X0_seekEven_32 {p : Program} {l : Launch} {e : Env} {R : Room} {s : State} {m : MethodId} {args : Array Value} {below : List Frame} {meth : Method} {c : Code} {g : Geo} (C : Cx g p s m args meth c cX0_seekEven 5 RX0 none) (hR : 5 ≤ R.frames ∧ 130 ≤ R.locals) {Q : MI → MJ → Prop} {C9 : MI → MJ → Int32 → Prop} {C17 : MI → MJ → Int32 → Int32 → Prop} (hC9 : ∀ (I : MI) (J : MJ) (x1 : Int32), C9 I J x1 → ∀ ls : Array Slot, lv_has ls 5 [(0, .ref (gad g 0 0)), (1, .int x1)] → Wf p l e R s m args below meth c (MQ below (Qg g (PV Q)) args s 0 0 (gA g)) g I J (F0 m 9 ls [])) (hC17 : ∀ (I : MI) (J : MJ) (x1 : Int32) (x2 : Int32), C17 I J x1 x2 → ∀ ls : Array Slot, lv_has ls 5 [(0, .ref (gad g 0 0)), (1, .int x1), (2, .int x2)] → Wf p l e R s m args below meth c (MQ below (Qg g (PV Q)) args s 0 0 (gA g)) g I J (F0 m 17 ls [])) {I : MI} {J : MJ} {x1 : Int32} {x2 : Int32} (h : J_X0_seekEven_32 Q C9 C17 I J x1 x2) (ls : Array Slot) (hl : lv_has ls 5 [(0, .ref (gad g 0 0)), (1, .int x1), (2, .int x2)]) : Wf p l e R s m args below meth c (MQ below (Qg g (PV Q)) args s 0 0 (gA g)) g I J (F0 m 32 ls [.ref (gad g 0 0)]) := by
  refine f_iconst (v := 1) C dX0_seekEven_32 (by decide) ?_
  refine f_goto (tgt := 37) C dX0_seekEven_33 (by decide) ?_
  exact t_X0_seekEven_37 C hR hC9 hC17 h ls (lv_sub hl [0, 1, 2] rfl)

def B_X0_seekEven_17 (Q : MI → MJ → Prop) (C9 : MI → MJ → Int32 → Prop) (C17 : MI → MJ → Int32 → Int32 → Prop) (I : MI) (J : MJ) (x1 : Int32) (x2 : Int32) : Prop :=
  (20 < x2 → C9 I J (x1 + 1)) ∧
  (¬ (20 < x2) → (x1 = 0 → J_X0_seekEven_32 Q C9 C17 I J x1 x2) ∧
  (¬ (x1 = 0) → (x2 = 0 → J_X0_seekEven_32 Q C9 C17 I J x1 x2) ∧
  (¬ (x2 = 0) → J_X0_seekEven_37 Q C9 C17 I J x1 x2 0)))
set_option maxRecDepth 20000 in
theorem b_X0_seekEven_17 {p : Program} {l : Launch} {e : Env} {R : Room} {s : State} {m : MethodId} {args : Array Value} {below : List Frame} {meth : Method} {c : Code} {g : Geo} (C : Cx g p s m args meth c cX0_seekEven 5 RX0 none) (hR : 5 ≤ R.frames ∧ 130 ≤ R.locals) {Q : MI → MJ → Prop} {C9 : MI → MJ → Int32 → Prop} (hC9 : ∀ (I : MI) (J : MJ) (x1 : Int32), C9 I J x1 → ∀ ls : Array Slot, lv_has ls 5 [(0, .ref (gad g 0 0)), (1, .int x1)] → Wf p l e R s m args below meth c (MQ below (Qg g (PV Q)) args s 0 0 (gA g)) g I J (F0 m 9 ls [])) {C17 : MI → MJ → Int32 → Int32 → Prop} (hC17 : ∀ (I : MI) (J : MJ) (x1 : Int32) (x2 : Int32), C17 I J x1 x2 → ∀ ls : Array Slot, lv_has ls 5 [(0, .ref (gad g 0 0)), (1, .int x1), (2, .int x2)] → Wf p l e R s m args below meth c (MQ below (Qg g (PV Q)) args s 0 0 (gA g)) g I J (F0 m 17 ls [])) {I : MI} {J : MJ} {x1 : Int32} {x2 : Int32} (h : B_X0_seekEven_17 Q C9 C17 I J x1 x2) (ls : Array Slot) (hl : lv_has ls 5 [(0, .ref (gad g 0 0)), (1, .int x1), (2, .int x2)]) : Wf p l e R s m args below meth c (MQ below (Qg g (PV Q)) args s 0 0 (gA g)) g I J (F0 m 17 ls []) := by
  refine f_iload_n C dX0_seekEven_17 rfl (lv_at hl 2 rfl) ?_
  refine f_bipush (v := 20) C dX0_seekEven_18 (by decide) ?_
  refine f_icmp_gt (tgt := 70) C dX0_seekEven_20 (by decide) (fun c2 => ?_) (fun c2 => ?_)
  · replace h := h.1 c2
    refine f_iinc (v := x1 + 1) (lv' := [(1, .int (x1 + 1)), (0, .ref (gad g 0 0)), (2, .int x2)]) C dX0_seekEven_70 hl (k := 1) rfl rfl (by decide) rfl (fun ls hl => ?_)
    refine f_goto (tgt := 9) C dX0_seekEven_73 (by decide) ?_
    exact hC9 _ _ _ h ls (lv_sub hl [1, 0] rfl)
  · replace h := h.2 c2
    refine f_aload_n C dX0_seekEven_23 rfl (lv_at hl 0 rfl) ?_
    refine f_iload_n C dX0_seekEven_24 rfl (lv_at hl 1 rfl) ?_
    refine f_if_eq (tgt := 32) C dX0_seekEven_25 (by decide) (fun c3 => ?_) (fun c3 => ?_)
    · replace h := h.1 c3
      exact t_X0_seekEven_32 C hR hC9 hC17 h ls (lv_sub hl [0, 1, 2] rfl)
    · replace h := h.2 c3
      refine f_iload_n C dX0_seekEven_28 rfl (lv_at hl 2 rfl) ?_
      refine f_if_ne (tgt := 36) C dX0_seekEven_29 (by decide) (fun c7 => ?_) (fun c7 => ?_)
      · replace h := h.2 c7
        refine f_iconst (v := 0) C dX0_seekEven_36 (by decide) ?_
        exact t_X0_seekEven_37 C hR hC9 hC17 h ls (lv_sub hl [0, 1, 2] rfl)
      · replace h := h.1 c7
        exact t_X0_seekEven_32 C hR hC9 hC17 h ls (lv_sub hl [0, 1, 2] rfl)

def L_X0_seekEven_17 (Q : MI → MJ → Prop) (C9 : MI → MJ → Int32 → Prop) : Nat → MI → MJ → Int32 → Int32 → Prop
  | 0 => fun _ _ _ _ => False
  | n + 1 => fun I J x1 x2 => B_X0_seekEven_17 Q C9 (L_X0_seekEven_17 Q C9 n) I J x1 x2
theorem t_X0_seekEven_17 {p : Program} {l : Launch} {e : Env} {R : Room} {s : State} {m : MethodId} {args : Array Value} {below : List Frame} {meth : Method} {c : Code} {g : Geo} (C : Cx g p s m args meth c cX0_seekEven 5 RX0 none) (hR : 5 ≤ R.frames ∧ 130 ≤ R.locals) {Q : MI → MJ → Prop} {C9 : MI → MJ → Int32 → Prop} (hC9 : ∀ (I : MI) (J : MJ) (x1 : Int32), C9 I J x1 → ∀ ls : Array Slot, lv_has ls 5 [(0, .ref (gad g 0 0)), (1, .int x1)] → Wf p l e R s m args below meth c (MQ below (Qg g (PV Q)) args s 0 0 (gA g)) g I J (F0 m 9 ls [])) : ∀ (n : Nat), ∀ (I : MI) (J : MJ) (x1 : Int32) (x2 : Int32), L_X0_seekEven_17 Q C9 n I J x1 x2 → ∀ ls : Array Slot, lv_has ls 5 [(0, .ref (gad g 0 0)), (1, .int x1), (2, .int x2)] → Wf p l e R s m args below meth c (MQ below (Qg g (PV Q)) args s 0 0 (gA g)) g I J (F0 m 17 ls []) := by
  intro n
  induction n with
  | zero => intro I J x1 x2 h; exact h.elim
  | succ n ih => intro I J x1 x2 h ls hl; exact b_X0_seekEven_17 C hR hC9 ih h ls hl
def B_X0_seekEven_9 (Q : MI → MJ → Prop) (C9 : MI → MJ → Int32 → Prop) (I : MI) (J : MJ) (x1 : Int32) : Prop :=
  (20 < x1 → Q I J) ∧
  (¬ (20 < x1) → ∃ n : Nat, L_X0_seekEven_17 Q C9 n I J x1 0)
set_option maxRecDepth 20000 in
theorem b_X0_seekEven_9 {p : Program} {l : Launch} {e : Env} {R : Room} {s : State} {m : MethodId} {args : Array Value} {below : List Frame} {meth : Method} {c : Code} {g : Geo} (C : Cx g p s m args meth c cX0_seekEven 5 RX0 none) (hR : 5 ≤ R.frames ∧ 130 ≤ R.locals) {Q : MI → MJ → Prop} {C9 : MI → MJ → Int32 → Prop} (hC9 : ∀ (I : MI) (J : MJ) (x1 : Int32), C9 I J x1 → ∀ ls : Array Slot, lv_has ls 5 [(0, .ref (gad g 0 0)), (1, .int x1)] → Wf p l e R s m args below meth c (MQ below (Qg g (PV Q)) args s 0 0 (gA g)) g I J (F0 m 9 ls [])) {I : MI} {J : MJ} {x1 : Int32} (h : B_X0_seekEven_9 Q C9 I J x1) (ls : Array Slot) (hl : lv_has ls 5 [(0, .ref (gad g 0 0)), (1, .int x1)]) : Wf p l e R s m args below meth c (MQ below (Qg g (PV Q)) args s 0 0 (gA g)) g I J (F0 m 9 ls []) := by
  refine f_iload_n C dX0_seekEven_9 rfl (lv_at hl 1 rfl) ?_
  refine f_bipush (v := 20) C dX0_seekEven_10 (by decide) ?_
  refine f_icmp_gt (tgt := 76) C dX0_seekEven_12 (by decide) (fun c1 => ?_) (fun c1 => ?_)
  · replace h := h.1 c1
    exact f_vret C h dX0_seekEven_76
  · replace h := h.2 c1
    refine f_iconst (v := 0) C dX0_seekEven_15 (by decide) ?_
    refine f_istore_n (lv' := [(2, .int 0), (0, .ref (gad g 0 0)), (1, .int x1)]) C dX0_seekEven_16 rfl hl (by decide) rfl (fun ls hl => ?_)
    obtain ⟨n, h⟩ := h
    exact t_X0_seekEven_17 C hR hC9 n _ _ _ _ h ls (lv_sub hl [1, 2, 0] rfl)

def L_X0_seekEven_9 (Q : MI → MJ → Prop) : Nat → MI → MJ → Int32 → Prop
  | 0 => fun _ _ _ => False
  | n + 1 => fun I J x1 => B_X0_seekEven_9 Q (L_X0_seekEven_9 Q n) I J x1
theorem t_X0_seekEven_9 {p : Program} {l : Launch} {e : Env} {R : Room} {s : State} {m : MethodId} {args : Array Value} {below : List Frame} {meth : Method} {c : Code} {g : Geo} (C : Cx g p s m args meth c cX0_seekEven 5 RX0 none) (hR : 5 ≤ R.frames ∧ 130 ≤ R.locals) {Q : MI → MJ → Prop} : ∀ (n : Nat), ∀ (I : MI) (J : MJ) (x1 : Int32), L_X0_seekEven_9 Q n I J x1 → ∀ ls : Array Slot, lv_has ls 5 [(0, .ref (gad g 0 0)), (1, .int x1)] → Wf p l e R s m args below meth c (MQ below (Qg g (PV Q)) args s 0 0 (gA g)) g I J (F0 m 9 ls []) := by
  intro n
  induction n with
  | zero => intro I J x1 h; exact h.elim
  | succ n ih => intro I J x1 h ls hl; exact b_X0_seekEven_9 C hR ih h ls hl
def wp_X0_seekEven (Q : MI → MJ → Prop) (I : MI) (J : MJ) : Prop :=
  ∃ n : Nat, L_X0_seekEven_9 Q n I (up3L J 0 0 3 1152921504606846976) 0
set_option maxRecDepth 20000 in
theorem c_X0_seekEven {l : Launch} {g : Geo} {Q : MI → MJ → Prop} {I : MI} {J : MJ} (h : wp_X0_seekEven Q I J) : Ct g l yX0_seekEven cX0_seekEven 5 none 5 130 [.ref (gad g 0 0)] I J (PV Q) := by
  refine Ct.of (by decide) ?_
  intro p e s m below meth c C
  have hR : 5 ≤ (Rm 5 130).frames ∧ 130 ≤ (Rm 5 130).locals := ⟨Nat.le_refl _, Nat.le_refl _⟩
  generalize Rm 5 130 = R at hR ⊢
  have hl := lv_entry ([.ref (gad g 0 0)]) (n := 5) (Nat.le_of_ble_eq_true rfl)
  rw [lg_entry_eq]
  generalize (lg_sl ([.ref (gad g 0 0)]) ++ List.replicate (5 - (lg_sl ([.ref (gad g 0 0)])).length) Slot.unset).toArray = ls at hl ⊢
  have hl : lv_has ls 5 [(0, .ref (gad g 0 0))] := hl
  refine f_aload_n C dX0_seekEven_0 rfl (lv_at hl 0 rfl) ?_
  refine f_ldc2 C kc_RX0_50 dX0_seekEven_1 ?_
  refine pu_RX0_52 C (by decide) dX0_seekEven_4 ?_
  refine f_iconst (v := 0) C dX0_seekEven_7 (by decide) ?_
  refine f_istore_n (lv' := [(1, .int 0), (0, .ref (gad g 0 0))]) C dX0_seekEven_8 rfl hl (by decide) rfl (fun ls hl => ?_)
  obtain ⟨n, h⟩ := h
  exact t_X0_seekEven_9 C hR n _ _ _ h ls (lv_sub hl [1, 0] rfl)

def wp_X1_sum (Q : Int32 → MI → MJ → Prop) (I : MI) (J : MJ) (x1 : Int32) (x2 : Int32) (x3 : Int32) (x4 : Int32) : Prop :=
  vp_in x1 6 ∧ (vp_in (x1 + 1) 6 ∧ (vp_in (x1 + 2) 6 ∧ (Q ((((I 12 0 (x1.toNatClampNeg)) * x2) + ((I 12 0 ((x1 + 1).toNatClampNeg)) * x3)) + ((I 12 0 ((x1 + 2).toNatClampNeg)) * x4)) I J)))
set_option maxRecDepth 20000 in
theorem c_X1_sum {l : Launch} {g : Geo} {Q : Int32 → MI → MJ → Prop} {I : MI} {J : MJ} {x1 : Int32} {x2 : Int32} {x3 : Int32} {x4 : Int32} (h : wp_X1_sum Q I J x1 x2 x3 x4) : Ct g l yX1_sum cX1_sum 5 (some .int) 0 0 [.ref (gad g 1 0), .int x1, .int x2, .int x3, .int x4] I J (PI Q) := by
  refine Ct.of (by decide) ?_
  intro p e s m below meth c C
  have hR : 0 ≤ (Rm 0 0).frames ∧ 0 ≤ (Rm 0 0).locals := ⟨Nat.le_refl _, Nat.le_refl _⟩
  generalize Rm 0 0 = R at hR ⊢
  have hl := lv_entry ([.ref (gad g 1 0), .int x1, .int x2, .int x3, .int x4]) (n := 5) (Nat.le_of_ble_eq_true rfl)
  rw [lg_entry_eq]
  generalize (lg_sl ([.ref (gad g 1 0), .int x1, .int x2, .int x3, .int x4]) ++ List.replicate (5 - (lg_sl ([.ref (gad g 1 0), .int x1, .int x2, .int x3, .int x4])).length) Slot.unset).toArray = ls at hl ⊢
  have hl : lv_has ls 5 [(0, .ref (gad g 1 0)), (1, .int x1), (2, .int x2), (3, .int x3), (4, .int x4)] := hl
  refine f_aload_n C dX1_sum_0 rfl (lv_at hl 0 rfl) ?_
  refine ge_RX1_7 C (by decide) dX1_sum_1 ?_
  refine f_iload_n C dX1_sum_4 rfl (lv_at hl 1 rfl) ?_
  obtain ⟨hi1, h⟩ := h
  refine al_k (n := 6) (k := x1.toNatClampNeg) C (by decide) rfl rfl hi1 dX1_sum_5 ?_
  refine f_iload_n C dX1_sum_6 rfl (lv_at hl 2 rfl) ?_
  refine f_imul C dX1_sum_7 ?_
  refine f_aload_n C dX1_sum_8 rfl (lv_at hl 0 rfl) ?_
  refine ge_RX1_7 C (by decide) dX1_sum_9 ?_
  refine f_iload_n C dX1_sum_12 rfl (lv_at hl 1 rfl) ?_
  refine f_iconst (v := 1) C dX1_sum_13 (by decide) ?_
  refine f_iadd C dX1_sum_14 ?_
  obtain ⟨hi2, h⟩ := h
  refine al_k (n := 6) (k := (x1 + 1).toNatClampNeg) C (by decide) rfl rfl hi2 dX1_sum_15 ?_
  refine f_iload_n C dX1_sum_16 rfl (lv_at hl 3 rfl) ?_
  refine f_imul C dX1_sum_17 ?_
  refine f_iadd C dX1_sum_18 ?_
  refine f_aload_n C dX1_sum_19 rfl (lv_at hl 0 rfl) ?_
  refine ge_RX1_7 C (by decide) dX1_sum_20 ?_
  refine f_iload_n C dX1_sum_23 rfl (lv_at hl 1 rfl) ?_
  refine f_iconst (v := 2) C dX1_sum_24 (by decide) ?_
  refine f_iadd C dX1_sum_25 ?_
  obtain ⟨hi3, h⟩ := h
  refine al_k (n := 6) (k := (x1 + 2).toNatClampNeg) C (by decide) rfl rfl hi3 dX1_sum_26 ?_
  refine f_iload C dX1_sum_27 (lv_at hl 4 rfl) ?_
  refine f_imul C dX1_sum_29 ?_
  refine f_iadd C dX1_sum_30 ?_
  exact f_iret C h dX1_sum_31

def wp_X1_hold (Q : MI → MJ → Prop) (I : MI) (J : MJ) (x1 : Int32) (x2 : Int32) (x3 : Int32) (x4 : Int32) : Prop :=
  Q (up3 (up3 (up3 (up3 I 1 0 1 x1) 1 0 2 x2) 1 0 3 x3) 1 0 4 x4) J
set_option maxRecDepth 20000 in
theorem c_X1_hold {l : Launch} {g : Geo} {Q : MI → MJ → Prop} {I : MI} {J : MJ} {x1 : Int32} {x2 : Int32} {x3 : Int32} {x4 : Int32} (h : wp_X1_hold Q I J x1 x2 x3 x4) : Ct g l yX1_hold cX1_hold 5 none 0 0 [.ref (gad g 1 0), .int x1, .int x2, .int x3, .int x4] I J (PV Q) := by
  refine Ct.of (by decide) ?_
  intro p e s m below meth c C
  have hR : 0 ≤ (Rm 0 0).frames ∧ 0 ≤ (Rm 0 0).locals := ⟨Nat.le_refl _, Nat.le_refl _⟩
  generalize Rm 0 0 = R at hR ⊢
  have hl := lv_entry ([.ref (gad g 1 0), .int x1, .int x2, .int x3, .int x4]) (n := 5) (Nat.le_of_ble_eq_true rfl)
  rw [lg_entry_eq]
  generalize (lg_sl ([.ref (gad g 1 0), .int x1, .int x2, .int x3, .int x4]) ++ List.replicate (5 - (lg_sl ([.ref (gad g 1 0), .int x1, .int x2, .int x3, .int x4])).length) Slot.unset).toArray = ls at hl ⊢
  have hl : lv_has ls 5 [(0, .ref (gad g 1 0)), (1, .int x1), (2, .int x2), (3, .int x3), (4, .int x4)] := hl
  refine f_aload_n C dX1_hold_0 rfl (lv_at hl 0 rfl) ?_
  refine f_iload_n C dX1_hold_1 rfl (lv_at hl 1 rfl) ?_
  refine pu_RX1_25 C (by decide) dX1_hold_2 ?_
  refine f_aload_n C dX1_hold_5 rfl (lv_at hl 0 rfl) ?_
  refine f_iload_n C dX1_hold_6 rfl (lv_at hl 2 rfl) ?_
  refine pu_RX1_28 C (by decide) dX1_hold_7 ?_
  refine f_aload_n C dX1_hold_10 rfl (lv_at hl 0 rfl) ?_
  refine f_iload_n C dX1_hold_11 rfl (lv_at hl 3 rfl) ?_
  refine pu_RX1_31 C (by decide) dX1_hold_12 ?_
  refine f_aload_n C dX1_hold_15 rfl (lv_at hl 0 rfl) ?_
  refine f_iload C dX1_hold_16 (lv_at hl 4 rfl) ?_
  refine pu_RX1_17 C (by decide) dX1_hold_18 ?_
  exact f_vret C h dX1_hold_21

def J_X1_seek_69 (Q : Int32 → MI → MJ → Prop) (C4 : MI → MJ → Int32 → Int32 → Int32 → Prop) (C13 : MI → MJ → Int32 → Int32 → Int32 → Int32 → Prop) (C23 : MI → MJ → Int32 → Int32 → Int32 → Int32 → Int32 → Prop) (I : MI) (J : MJ) (x1 : Int32) (x3 : Int32) (x4 : Int32) (x5 : Int32) (x6 : Int32) : Prop :=
  wp_X1_hold (fun I9 J9 => C23 I9 J9 x1 1 x3 x4 (x5 + 1)) I J x3 x4 x5 x6
set_option maxRecDepth 20000 in
theorem t_X1_seek_69 {p : Program} {l : Launch} {e : Env} {R : Room} {s : State} {m : MethodId} {args : Array Value} {below : List Frame} {meth : Method} {c : Code} {g : Geo} (C : Cx g p s m args meth c cX1_seek 7 RX1 (some .boolean)) (hR : 1 ≤ R.frames ∧ 24 ≤ R.locals) {Q : Int32 → MI → MJ → Prop} {C4 : MI → MJ → Int32 → Int32 → Int32 → Prop} {C13 : MI → MJ → Int32 → Int32 → Int32 → Int32 → Prop} {C23 : MI → MJ → Int32 → Int32 → Int32 → Int32 → Int32 → Prop} (hC4 : ∀ (I : MI) (J : MJ) (x1 : Int32) (x2 : Int32) (x3 : Int32), C4 I J x1 x2 x3 → ∀ ls : Array Slot, lv_has ls 7 [(0, .ref (gad g 1 0)), (1, .int x1), (2, .int x2), (3, .int x3)] → Wf p l e R s m args below meth c (MQ below (Qg g (PI Q)) args s 0 0 (gA g)) g I J (F0 m 4 ls [])) (hC13 : ∀ (I : MI) (J : MJ) (x1 : Int32) (x2 : Int32) (x3 : Int32) (x4 : Int32), C13 I J x1 x2 x3 x4 → ∀ ls : Array Slot, lv_has ls 7 [(0, .ref (gad g 1 0)), (1, .int x1), (2, .int x2), (3, .int x3), (4, .int x4)] → Wf p l e R s m args below meth c (MQ below (Qg g (PI Q)) args s 0 0 (gA g)) g I J (F0 m 13 ls [])) (hC23 : ∀ (I : MI) (J : MJ) (x1 : Int32) (x2 : Int32) (x3 : Int32) (x4 : Int32) (x5 : Int32), C23 I J x1 x2 x3 x4 x5 → ∀ ls : Array Slot, lv_has ls 7 [(0, .ref (gad g 1 0)), (1, .int x1), (2, .int x2), (3, .int x3), (4, .int x4), (5, .int x5)] → Wf p l e R s m args below meth c (MQ below (Qg g (PI Q)) args s 0 0 (gA g)) g I J (F0 m 23 ls [])) {I : MI} {J : MJ} {x1 : Int32} {x3 : Int32} {x4 : Int32} {x5 : Int32} {x6 : Int32} (h : J_X1_seek_69 Q C4 C13 C23 I J x1 x3 x4 x5 x6) (ls : Array Slot) (hl : lv_has ls 7 [(0, .ref (gad g 1 0)), (1, .int x1), (3, .int x3), (4, .int x4), (5, .int x5), (6, .int x6)]) : Wf p l e R s m args below meth c (MQ below (Qg g (PI Q)) args s 0 0 (gA g)) g I J (F0 m 69 ls []) := by
  refine f_iconst (v := 1) C dX1_seek_69 (by decide) ?_
  refine f_istore_n (lv' := [(2, .int 1), (0, .ref (gad g 1 0)), (1, .int x1), (3, .int x3), (4, .int x4), (5, .int x5), (6, .int x6)]) C dX1_seek_70 rfl hl (by decide) rfl (fun ls hl => ?_)
  refine f_aload_n C dX1_seek_71 rfl (lv_at hl 1 rfl) ?_
  refine f_iload_n C dX1_seek_72 rfl (lv_at hl 3 rfl) ?_
  refine f_iload C dX1_seek_73 (lv_at hl 4 rfl) ?_
  refine f_iload C dX1_seek_75 (lv_at hl 5 rfl) ?_
  refine f_iload C dX1_seek_77 (lv_at hl 6 rfl) ?_
  refine f_cVv (As := [.int x3, .int x4, .int x5, .int x6]) (rest := []) (n := 4) (T0 := TX1) (N := 5) C (c_X1_hold h) ok_X1_hold im_X1_hold se_X1_hold kw_RX1_21 ⟨Nat.le_trans (by decide) hR.1, Nat.le_trans (by decide) hR.2⟩ (by decide) rfl rfl rfl hl.1 (Nat.le_of_ble_eq_true rfl) dX1_seek_79 (fun I9 J9 h => ?_)
  refine f_iinc (v := x5 + 1) (lv' := [(5, .int (x5 + 1)), (2, .int 1), (0, .ref (gad g 1 0)), (1, .int x1), (3, .int x3), (4, .int x4), (6, .int x6)]) C dX1_seek_82 hl (k := 5) rfl rfl (by decide) rfl (fun ls hl => ?_)
  refine f_goto (tgt := 23) C dX1_seek_85 (by decide) ?_
  exact hC23 _ _ _ _ _ _ _ h ls (lv_sub hl [2, 3, 1, 4, 5, 0] rfl)

def B_X1_seek_23 (Q : Int32 → MI → MJ → Prop) (C4 : MI → MJ → Int32 → Int32 → Int32 → Prop) (C13 : MI → MJ → Int32 → Int32 → Int32 → Int32 → Prop) (C23 : MI → MJ → Int32 → Int32 → Int32 → Int32 → Int32 → Prop) (I : MI) (J : MJ) (x1 : Int32) (x2 : Int32) (x3 : Int32) (x4 : Int32) (x5 : Int32) : Prop :=
  (12 < x5 → C13 I J x1 x2 x3 (x4 + 1)) ∧
  (¬ (12 < x5) → wp_X1_sum (fun r5 I5 J5 => wp_X1_sum (fun r6 I6 J6 => (x1 < r6 → C23 I6 J6 x1 x2 x3 x4 (x5 + 1)) ∧
  (¬ (x1 < r6) → (x2 = 0 → J_X1_seek_69 Q C4 C13 C23 I6 J6 x1 x3 x4 x5 r5) ∧
  (¬ (x2 = 0) → (r5 ≤ (I6 1 0 4) → C23 I6 J6 x1 x2 x3 x4 (x5 + 1)) ∧
  (¬ (r5 ≤ (I6 1 0 4)) → J_X1_seek_69 Q C4 C13 C23 I6 J6 x1 x3 x4 x5 r5)))) I5 J5 0 x3 x4 x5) I J 3 x3 x4 x5)
set_option maxRecDepth 20000 in
theorem b_X1_seek_23 {p : Program} {l : Launch} {e : Env} {R : Room} {s : State} {m : MethodId} {args : Array Value} {below : List Frame} {meth : Method} {c : Code} {g : Geo} (C : Cx g p s m args meth c cX1_seek 7 RX1 (some .boolean)) (hR : 1 ≤ R.frames ∧ 24 ≤ R.locals) {Q : Int32 → MI → MJ → Prop} {C4 : MI → MJ → Int32 → Int32 → Int32 → Prop} {C13 : MI → MJ → Int32 → Int32 → Int32 → Int32 → Prop} (hC4 : ∀ (I : MI) (J : MJ) (x1 : Int32) (x2 : Int32) (x3 : Int32), C4 I J x1 x2 x3 → ∀ ls : Array Slot, lv_has ls 7 [(0, .ref (gad g 1 0)), (1, .int x1), (2, .int x2), (3, .int x3)] → Wf p l e R s m args below meth c (MQ below (Qg g (PI Q)) args s 0 0 (gA g)) g I J (F0 m 4 ls [])) (hC13 : ∀ (I : MI) (J : MJ) (x1 : Int32) (x2 : Int32) (x3 : Int32) (x4 : Int32), C13 I J x1 x2 x3 x4 → ∀ ls : Array Slot, lv_has ls 7 [(0, .ref (gad g 1 0)), (1, .int x1), (2, .int x2), (3, .int x3), (4, .int x4)] → Wf p l e R s m args below meth c (MQ below (Qg g (PI Q)) args s 0 0 (gA g)) g I J (F0 m 13 ls [])) {C23 : MI → MJ → Int32 → Int32 → Int32 → Int32 → Int32 → Prop} (hC23 : ∀ (I : MI) (J : MJ) (x1 : Int32) (x2 : Int32) (x3 : Int32) (x4 : Int32) (x5 : Int32), C23 I J x1 x2 x3 x4 x5 → ∀ ls : Array Slot, lv_has ls 7 [(0, .ref (gad g 1 0)), (1, .int x1), (2, .int x2), (3, .int x3), (4, .int x4), (5, .int x5)] → Wf p l e R s m args below meth c (MQ below (Qg g (PI Q)) args s 0 0 (gA g)) g I J (F0 m 23 ls [])) {I : MI} {J : MJ} {x1 : Int32} {x2 : Int32} {x3 : Int32} {x4 : Int32} {x5 : Int32} (h : B_X1_seek_23 Q C4 C13 C23 I J x1 x2 x3 x4 x5) (ls : Array Slot) (hl : lv_has ls 7 [(0, .ref (gad g 1 0)), (1, .int x1), (2, .int x2), (3, .int x3), (4, .int x4), (5, .int x5)]) : Wf p l e R s m args below meth c (MQ below (Qg g (PI Q)) args s 0 0 (gA g)) g I J (F0 m 23 ls []) := by
  refine f_iload C dX1_seek_23 (lv_at hl 5 rfl) ?_
  refine f_bipush (v := 12) C dX1_seek_25 (by decide) ?_
  refine f_icmp_gt (tgt := 88) C dX1_seek_27 (by decide) (fun c4 => ?_) (fun c4 => ?_)
  · replace h := h.1 c4
    refine f_iinc (v := x4 + 1) (lv' := [(4, .int (x4 + 1)), (0, .ref (gad g 1 0)), (1, .int x1), (2, .int x2), (3, .int x3), (5, .int x5)]) C dX1_seek_88 hl (k := 4) rfl rfl (by decide) rfl (fun ls hl => ?_)
    refine f_goto (tgt := 13) C dX1_seek_91 (by decide) ?_
    exact hC13 _ _ _ _ _ _ h ls (lv_sub hl [1, 2, 3, 4, 0] rfl)
  · replace h := h.2 c4
    refine f_aload_n C dX1_seek_30 rfl (lv_at hl 0 rfl) ?_
    refine f_iconst (v := 3) C dX1_seek_31 (by decide) ?_
    refine f_iload_n C dX1_seek_32 rfl (lv_at hl 3 rfl) ?_
    refine f_iload C dX1_seek_33 (lv_at hl 4 rfl) ?_
    refine f_iload C dX1_seek_35 (lv_at hl 5 rfl) ?_
    refine f_cVi (As := [.int 3, .int x3, .int x4, .int x5]) (rest := []) (n := 4) (T0 := TX1) (N := 5) C (c_X1_sum h) ok_X1_sum im_X1_sum se_X1_sum kw_RX1_13 ⟨Nat.le_trans (by decide) hR.1, Nat.le_trans (by decide) hR.2⟩ (by decide) rfl rfl rfl hl.1 (Nat.le_of_ble_eq_true rfl) dX1_seek_37 (fun r5 I5 J5 h => ?_)
    refine f_istore (lv' := [(6, .int r5), (0, .ref (gad g 1 0)), (1, .int x1), (2, .int x2), (3, .int x3), (4, .int x4), (5, .int x5)]) C dX1_seek_40 hl (by decide) rfl (fun ls hl => ?_)
    refine f_aload_n C dX1_seek_42 rfl (lv_at hl 1 rfl) ?_
    refine f_iconst (v := 0) C dX1_seek_43 (by decide) ?_
    refine f_iload_n C dX1_seek_44 rfl (lv_at hl 4 rfl) ?_
    refine f_iload C dX1_seek_45 (lv_at hl 5 rfl) ?_
    refine f_iload C dX1_seek_47 (lv_at hl 6 rfl) ?_
    refine f_cVi (As := [.int 0, .int x3, .int x4, .int x5]) (rest := []) (n := 4) (T0 := TX1) (N := 5) C (c_X1_sum h) ok_X1_sum im_X1_sum se_X1_sum kw_RX1_13 ⟨Nat.le_trans (by decide) hR.1, Nat.le_trans (by decide) hR.2⟩ (by decide) rfl rfl rfl hl.1 (Nat.le_of_ble_eq_true rfl) dX1_seek_49 (fun r6 I6 J6 h => ?_)
    refine f_iload_n C dX1_seek_52 rfl (lv_at hl 2 rfl) ?_
    refine f_icmp_gt (tgt := 82) C dX1_seek_53 (by decide) (fun c7 => ?_) (fun c7 => ?_)
    · replace h := h.1 c7
      refine f_iinc (v := x5 + 1) (lv' := [(5, .int (x5 + 1)), (6, .int r5), (0, .ref (gad g 1 0)), (1, .int x1), (2, .int x2), (3, .int x3), (4, .int x4)]) C dX1_seek_82 hl (k := 6) rfl rfl (by decide) rfl (fun ls hl => ?_)
      refine f_goto (tgt := 23) C dX1_seek_85 (by decide) ?_
      exact hC23 _ _ _ _ _ _ _ h ls (lv_sub hl [2, 3, 4, 5, 6, 0] rfl)
    · replace h := h.2 c7
      refine f_iload_n C dX1_seek_56 rfl (lv_at hl 3 rfl) ?_
      refine f_if_eq (tgt := 69) C dX1_seek_57 (by decide) (fun c8 => ?_) (fun c8 => ?_)
      · replace h := h.1 c8
        exact t_X1_seek_69 C hR hC4 hC13 hC23 h ls (lv_sub hl [1, 2, 4, 5, 6, 0] rfl)
      · replace h := h.2 c8
        refine f_iload C dX1_seek_60 (lv_at hl 0 rfl) ?_
        refine f_aload_n C dX1_seek_62 rfl (lv_at hl 1 rfl) ?_
        refine ge_RX1_17 C (by decide) dX1_seek_63 ?_
        refine f_icmp_le (tgt := 82) C dX1_seek_66 (by decide) (fun c10 => ?_) (fun c10 => ?_)
        · replace h := h.1 c10
          refine f_iinc (v := x5 + 1) (lv' := [(5, .int (x5 + 1)), (6, .int r5), (0, .ref (gad g 1 0)), (1, .int x1), (2, .int x2), (3, .int x3), (4, .int x4)]) C dX1_seek_82 hl (k := 6) rfl rfl (by decide) rfl (fun ls hl => ?_)
          refine f_goto (tgt := 23) C dX1_seek_85 (by decide) ?_
          exact hC23 _ _ _ _ _ _ _ h ls (lv_sub hl [2, 3, 4, 5, 6, 0] rfl)
        · replace h := h.2 c10
          exact t_X1_seek_69 C hR hC4 hC13 hC23 h ls (lv_sub hl [1, 2, 4, 5, 6, 0] rfl)

def L_X1_seek_23 (Q : Int32 → MI → MJ → Prop) (C4 : MI → MJ → Int32 → Int32 → Int32 → Prop) (C13 : MI → MJ → Int32 → Int32 → Int32 → Int32 → Prop) : Nat → MI → MJ → Int32 → Int32 → Int32 → Int32 → Int32 → Prop
  | 0 => fun _ _ _ _ _ _ _ => False
  | n + 1 => fun I J x1 x2 x3 x4 x5 => B_X1_seek_23 Q C4 C13 (L_X1_seek_23 Q C4 C13 n) I J x1 x2 x3 x4 x5
theorem t_X1_seek_23 {p : Program} {l : Launch} {e : Env} {R : Room} {s : State} {m : MethodId} {args : Array Value} {below : List Frame} {meth : Method} {c : Code} {g : Geo} (C : Cx g p s m args meth c cX1_seek 7 RX1 (some .boolean)) (hR : 1 ≤ R.frames ∧ 24 ≤ R.locals) {Q : Int32 → MI → MJ → Prop} {C4 : MI → MJ → Int32 → Int32 → Int32 → Prop} {C13 : MI → MJ → Int32 → Int32 → Int32 → Int32 → Prop} (hC4 : ∀ (I : MI) (J : MJ) (x1 : Int32) (x2 : Int32) (x3 : Int32), C4 I J x1 x2 x3 → ∀ ls : Array Slot, lv_has ls 7 [(0, .ref (gad g 1 0)), (1, .int x1), (2, .int x2), (3, .int x3)] → Wf p l e R s m args below meth c (MQ below (Qg g (PI Q)) args s 0 0 (gA g)) g I J (F0 m 4 ls [])) (hC13 : ∀ (I : MI) (J : MJ) (x1 : Int32) (x2 : Int32) (x3 : Int32) (x4 : Int32), C13 I J x1 x2 x3 x4 → ∀ ls : Array Slot, lv_has ls 7 [(0, .ref (gad g 1 0)), (1, .int x1), (2, .int x2), (3, .int x3), (4, .int x4)] → Wf p l e R s m args below meth c (MQ below (Qg g (PI Q)) args s 0 0 (gA g)) g I J (F0 m 13 ls [])) : ∀ (n : Nat), ∀ (I : MI) (J : MJ) (x1 : Int32) (x2 : Int32) (x3 : Int32) (x4 : Int32) (x5 : Int32), L_X1_seek_23 Q C4 C13 n I J x1 x2 x3 x4 x5 → ∀ ls : Array Slot, lv_has ls 7 [(0, .ref (gad g 1 0)), (1, .int x1), (2, .int x2), (3, .int x3), (4, .int x4), (5, .int x5)] → Wf p l e R s m args below meth c (MQ below (Qg g (PI Q)) args s 0 0 (gA g)) g I J (F0 m 23 ls []) := by
  intro n
  induction n with
  | zero => intro I J x1 x2 x3 x4 x5 h; exact h.elim
  | succ n ih => intro I J x1 x2 x3 x4 x5 h ls hl; exact b_X1_seek_23 C hR hC4 hC13 ih h ls hl
def B_X1_seek_13 (Q : Int32 → MI → MJ → Prop) (C4 : MI → MJ → Int32 → Int32 → Int32 → Prop) (C13 : MI → MJ → Int32 → Int32 → Int32 → Int32 → Prop) (I : MI) (J : MJ) (x1 : Int32) (x2 : Int32) (x3 : Int32) (x4 : Int32) : Prop :=
  (12 < x4 → C4 I J x1 x2 (x3 + 1)) ∧
  (¬ (12 < x4) → ∃ n : Nat, L_X1_seek_23 Q C4 C13 n I J x1 x2 x3 x4 1)
set_option maxRecDepth 20000 in
theorem b_X1_seek_13 {p : Program} {l : Launch} {e : Env} {R : Room} {s : State} {m : MethodId} {args : Array Value} {below : List Frame} {meth : Method} {c : Code} {g : Geo} (C : Cx g p s m args meth c cX1_seek 7 RX1 (some .boolean)) (hR : 1 ≤ R.frames ∧ 24 ≤ R.locals) {Q : Int32 → MI → MJ → Prop} {C4 : MI → MJ → Int32 → Int32 → Int32 → Prop} (hC4 : ∀ (I : MI) (J : MJ) (x1 : Int32) (x2 : Int32) (x3 : Int32), C4 I J x1 x2 x3 → ∀ ls : Array Slot, lv_has ls 7 [(0, .ref (gad g 1 0)), (1, .int x1), (2, .int x2), (3, .int x3)] → Wf p l e R s m args below meth c (MQ below (Qg g (PI Q)) args s 0 0 (gA g)) g I J (F0 m 4 ls [])) {C13 : MI → MJ → Int32 → Int32 → Int32 → Int32 → Prop} (hC13 : ∀ (I : MI) (J : MJ) (x1 : Int32) (x2 : Int32) (x3 : Int32) (x4 : Int32), C13 I J x1 x2 x3 x4 → ∀ ls : Array Slot, lv_has ls 7 [(0, .ref (gad g 1 0)), (1, .int x1), (2, .int x2), (3, .int x3), (4, .int x4)] → Wf p l e R s m args below meth c (MQ below (Qg g (PI Q)) args s 0 0 (gA g)) g I J (F0 m 13 ls [])) {I : MI} {J : MJ} {x1 : Int32} {x2 : Int32} {x3 : Int32} {x4 : Int32} (h : B_X1_seek_13 Q C4 C13 I J x1 x2 x3 x4) (ls : Array Slot) (hl : lv_has ls 7 [(0, .ref (gad g 1 0)), (1, .int x1), (2, .int x2), (3, .int x3), (4, .int x4)]) : Wf p l e R s m args below meth c (MQ below (Qg g (PI Q)) args s 0 0 (gA g)) g I J (F0 m 13 ls []) := by
  refine f_iload C dX1_seek_13 (lv_at hl 4 rfl) ?_
  refine f_bipush (v := 12) C dX1_seek_15 (by decide) ?_
  refine f_icmp_gt (tgt := 94) C dX1_seek_17 (by decide) (fun c3 => ?_) (fun c3 => ?_)
  · replace h := h.1 c3
    refine f_iinc (v := x3 + 1) (lv' := [(3, .int (x3 + 1)), (0, .ref (gad g 1 0)), (1, .int x1), (2, .int x2), (4, .int x4)]) C dX1_seek_94 hl (k := 3) rfl rfl (by decide) rfl (fun ls hl => ?_)
    refine f_goto (tgt := 4) C dX1_seek_97 (by decide) ?_
    exact hC4 _ _ _ _ _ h ls (lv_sub hl [1, 2, 3, 0] rfl)
  · replace h := h.2 c3
    refine f_iconst (v := 1) C dX1_seek_20 (by decide) ?_
    refine f_istore (lv' := [(5, .int 1), (0, .ref (gad g 1 0)), (1, .int x1), (2, .int x2), (3, .int x3), (4, .int x4)]) C dX1_seek_21 hl (by decide) rfl (fun ls hl => ?_)
    obtain ⟨n, h⟩ := h
    exact t_X1_seek_23 C hR hC4 hC13 n _ _ _ _ _ _ _ h ls (lv_sub hl [1, 2, 3, 4, 5, 0] rfl)

def L_X1_seek_13 (Q : Int32 → MI → MJ → Prop) (C4 : MI → MJ → Int32 → Int32 → Int32 → Prop) : Nat → MI → MJ → Int32 → Int32 → Int32 → Int32 → Prop
  | 0 => fun _ _ _ _ _ _ => False
  | n + 1 => fun I J x1 x2 x3 x4 => B_X1_seek_13 Q C4 (L_X1_seek_13 Q C4 n) I J x1 x2 x3 x4
theorem t_X1_seek_13 {p : Program} {l : Launch} {e : Env} {R : Room} {s : State} {m : MethodId} {args : Array Value} {below : List Frame} {meth : Method} {c : Code} {g : Geo} (C : Cx g p s m args meth c cX1_seek 7 RX1 (some .boolean)) (hR : 1 ≤ R.frames ∧ 24 ≤ R.locals) {Q : Int32 → MI → MJ → Prop} {C4 : MI → MJ → Int32 → Int32 → Int32 → Prop} (hC4 : ∀ (I : MI) (J : MJ) (x1 : Int32) (x2 : Int32) (x3 : Int32), C4 I J x1 x2 x3 → ∀ ls : Array Slot, lv_has ls 7 [(0, .ref (gad g 1 0)), (1, .int x1), (2, .int x2), (3, .int x3)] → Wf p l e R s m args below meth c (MQ below (Qg g (PI Q)) args s 0 0 (gA g)) g I J (F0 m 4 ls [])) : ∀ (n : Nat), ∀ (I : MI) (J : MJ) (x1 : Int32) (x2 : Int32) (x3 : Int32) (x4 : Int32), L_X1_seek_13 Q C4 n I J x1 x2 x3 x4 → ∀ ls : Array Slot, lv_has ls 7 [(0, .ref (gad g 1 0)), (1, .int x1), (2, .int x2), (3, .int x3), (4, .int x4)] → Wf p l e R s m args below meth c (MQ below (Qg g (PI Q)) args s 0 0 (gA g)) g I J (F0 m 13 ls []) := by
  intro n
  induction n with
  | zero => intro I J x1 x2 x3 x4 h; exact h.elim
  | succ n ih => intro I J x1 x2 x3 x4 h ls hl; exact b_X1_seek_13 C hR hC4 ih h ls hl
def B_X1_seek_4 (Q : Int32 → MI → MJ → Prop) (C4 : MI → MJ → Int32 → Int32 → Int32 → Prop) (I : MI) (J : MJ) (x1 : Int32) (x2 : Int32) (x3 : Int32) : Prop :=
  (12 < x3 → (x2 = 0 ∨ x2 = 1) ∧ Q x2 I J) ∧
  (¬ (12 < x3) → ∃ n : Nat, L_X1_seek_13 Q C4 n I J x1 x2 x3 1)
set_option maxRecDepth 20000 in
theorem b_X1_seek_4 {p : Program} {l : Launch} {e : Env} {R : Room} {s : State} {m : MethodId} {args : Array Value} {below : List Frame} {meth : Method} {c : Code} {g : Geo} (C : Cx g p s m args meth c cX1_seek 7 RX1 (some .boolean)) (hR : 1 ≤ R.frames ∧ 24 ≤ R.locals) {Q : Int32 → MI → MJ → Prop} {C4 : MI → MJ → Int32 → Int32 → Int32 → Prop} (hC4 : ∀ (I : MI) (J : MJ) (x1 : Int32) (x2 : Int32) (x3 : Int32), C4 I J x1 x2 x3 → ∀ ls : Array Slot, lv_has ls 7 [(0, .ref (gad g 1 0)), (1, .int x1), (2, .int x2), (3, .int x3)] → Wf p l e R s m args below meth c (MQ below (Qg g (PI Q)) args s 0 0 (gA g)) g I J (F0 m 4 ls [])) {I : MI} {J : MJ} {x1 : Int32} {x2 : Int32} {x3 : Int32} (h : B_X1_seek_4 Q C4 I J x1 x2 x3) (ls : Array Slot) (hl : lv_has ls 7 [(0, .ref (gad g 1 0)), (1, .int x1), (2, .int x2), (3, .int x3)]) : Wf p l e R s m args below meth c (MQ below (Qg g (PI Q)) args s 0 0 (gA g)) g I J (F0 m 4 ls []) := by
  refine f_iload_n C dX1_seek_4 rfl (lv_at hl 3 rfl) ?_
  refine f_bipush (v := 12) C dX1_seek_5 (by decide) ?_
  refine f_icmp_gt (tgt := 100) C dX1_seek_7 (by decide) (fun c1 => ?_) (fun c1 => ?_)
  · replace h := h.1 c1
    refine f_iload_n C dX1_seek_100 rfl (lv_at hl 2 rfl) ?_
    obtain ⟨hb2, h⟩ := h
    exact f_zret C hb2 h dX1_seek_101
  · replace h := h.2 c1
    refine f_iconst (v := 1) C dX1_seek_10 (by decide) ?_
    refine f_istore (lv' := [(4, .int 1), (0, .ref (gad g 1 0)), (1, .int x1), (2, .int x2), (3, .int x3)]) C dX1_seek_11 hl (by decide) rfl (fun ls hl => ?_)
    obtain ⟨n, h⟩ := h
    exact t_X1_seek_13 C hR hC4 n _ _ _ _ _ _ h ls (lv_sub hl [1, 2, 3, 4, 0] rfl)

def L_X1_seek_4 (Q : Int32 → MI → MJ → Prop) : Nat → MI → MJ → Int32 → Int32 → Int32 → Prop
  | 0 => fun _ _ _ _ _ => False
  | n + 1 => fun I J x1 x2 x3 => B_X1_seek_4 Q (L_X1_seek_4 Q n) I J x1 x2 x3
theorem t_X1_seek_4 {p : Program} {l : Launch} {e : Env} {R : Room} {s : State} {m : MethodId} {args : Array Value} {below : List Frame} {meth : Method} {c : Code} {g : Geo} (C : Cx g p s m args meth c cX1_seek 7 RX1 (some .boolean)) (hR : 1 ≤ R.frames ∧ 24 ≤ R.locals) {Q : Int32 → MI → MJ → Prop} : ∀ (n : Nat), ∀ (I : MI) (J : MJ) (x1 : Int32) (x2 : Int32) (x3 : Int32), L_X1_seek_4 Q n I J x1 x2 x3 → ∀ ls : Array Slot, lv_has ls 7 [(0, .ref (gad g 1 0)), (1, .int x1), (2, .int x2), (3, .int x3)] → Wf p l e R s m args below meth c (MQ below (Qg g (PI Q)) args s 0 0 (gA g)) g I J (F0 m 4 ls []) := by
  intro n
  induction n with
  | zero => intro I J x1 x2 x3 h; exact h.elim
  | succ n ih => intro I J x1 x2 x3 h ls hl; exact b_X1_seek_4 C hR ih h ls hl
def wp_X1_seek (Q : Int32 → MI → MJ → Prop) (I : MI) (J : MJ) (x1 : Int32) : Prop :=
  ∃ n : Nat, L_X1_seek_4 Q n I J x1 0 1
set_option maxRecDepth 20000 in
theorem c_X1_seek {l : Launch} {g : Geo} {Q : Int32 → MI → MJ → Prop} {I : MI} {J : MJ} {x1 : Int32} (h : wp_X1_seek Q I J x1) : Ct g l yX1_seek cX1_seek 7 (some .boolean) 1 24 [.ref (gad g 1 0), .int x1] I J (PI Q) := by
  refine Ct.of (by decide) ?_
  intro p e s m below meth c C
  have hR : 1 ≤ (Rm 1 24).frames ∧ 24 ≤ (Rm 1 24).locals := ⟨Nat.le_refl _, Nat.le_refl _⟩
  generalize Rm 1 24 = R at hR ⊢
  have hl := lv_entry ([.ref (gad g 1 0), .int x1]) (n := 7) (Nat.le_of_ble_eq_true rfl)
  rw [lg_entry_eq]
  generalize (lg_sl ([.ref (gad g 1 0), .int x1]) ++ List.replicate (7 - (lg_sl ([.ref (gad g 1 0), .int x1])).length) Slot.unset).toArray = ls at hl ⊢
  have hl : lv_has ls 7 [(0, .ref (gad g 1 0)), (1, .int x1)] := hl
  refine f_iconst (v := 0) C dX1_seek_0 (by decide) ?_
  refine f_istore_n (lv' := [(2, .int 0), (0, .ref (gad g 1 0)), (1, .int x1)]) C dX1_seek_1 rfl hl (by decide) rfl (fun ls hl => ?_)
  refine f_iconst (v := 1) C dX1_seek_2 (by decide) ?_
  refine f_istore_n (lv' := [(3, .int 1), (2, .int 0), (0, .ref (gad g 1 0)), (1, .int x1)]) C dX1_seek_3 rfl hl (by decide) rfl (fun ls hl => ?_)
  obtain ⟨n, h⟩ := h
  exact t_X1_seek_4 C hR n _ _ _ _ _ h ls (lv_sub hl [2, 3, 1, 0] rfl)

def wp_X2_forget (Q : MI → MJ → Prop) (I : MI) (J : MJ) (n0 : Nat) : Prop :=
  Q (row3 I 13 n0 (va_cpy (stV 0) (I 13 n0) 0 0 6)) J
set_option maxRecDepth 20000 in
theorem c_X2_forget {l : Launch} {g : Geo} {Q : MI → MJ → Prop} {I : MI} {J : MJ} {n0 : Nat} (hn0 : n0 < 2) (h : wp_X2_forget Q I J n0) : Ct g l yX2_forget cX2_forget 1 none 1 60 [.ref (gad g 2 n0)] I J (PV Q) := by
  refine Ct.of (by decide) ?_
  intro p e s m below meth c C
  have hR : 1 ≤ (Rm 1 60).frames ∧ 60 ≤ (Rm 1 60).locals := ⟨Nat.le_refl _, Nat.le_refl _⟩
  generalize Rm 1 60 = R at hR ⊢
  have hl := lv_entry ([.ref (gad g 2 n0)]) (n := 1) (Nat.le_of_ble_eq_true rfl)
  rw [lg_entry_eq]
  generalize (lg_sl ([.ref (gad g 2 n0)]) ++ List.replicate (1 - (lg_sl ([.ref (gad g 2 n0)])).length) Slot.unset).toArray = ls at hl ⊢
  have hl : lv_has ls 1 [(0, .ref (gad g 2 n0))] := hl
  refine gs_RX2_18 C dX2_forget_0 ?_
  refine f_iconst (v := 0) C dX2_forget_3 (by decide) ?_
  refine f_aload_n C dX2_forget_4 rfl (lv_at hl 0 rfl) ?_
  refine ge_RX2_11 C hn0 dX2_forget_5 ?_
  refine f_iconst (v := 0) C dX2_forget_8 (by decide) ?_
  refine f_bipush (v := 6) C dX2_forget_9 (by decide) ?_
  refine cp_s (n1 := 6) C hl.1 kw_RX2_21 hn0 (fun _ => rfl) (by decide) hR (by decide) dX2_forget_11 ?_
  exact f_vret C h dX2_forget_14

def wp_X2_become (Q : MI → MJ → Prop) (I : MI) (J : MJ) (n0 : Nat) (n1 : Nat) : Prop :=
  Q (row3 I 13 n0 (va_cpy (I 13 n1) (I 13 n0) 0 0 6)) J
set_option maxRecDepth 20000 in
theorem c_X2_become {l : Launch} {g : Geo} {Q : MI → MJ → Prop} {I : MI} {J : MJ} {n0 : Nat} {n1 : Nat} (hn0 : n0 < 2) (hn1 : n1 < 2) (h : wp_X2_become Q I J n0 n1) : Ct g l yX2_become cX2_become 2 none 1 60 [.ref (gad g 2 n0), .ref (gad g 2 n1)] I J (PV Q) := by
  refine Ct.of (by decide) ?_
  intro p e s m below meth c C
  have hR : 1 ≤ (Rm 1 60).frames ∧ 60 ≤ (Rm 1 60).locals := ⟨Nat.le_refl _, Nat.le_refl _⟩
  generalize Rm 1 60 = R at hR ⊢
  have hl := lv_entry ([.ref (gad g 2 n0), .ref (gad g 2 n1)]) (n := 2) (Nat.le_of_ble_eq_true rfl)
  rw [lg_entry_eq]
  generalize (lg_sl ([.ref (gad g 2 n0), .ref (gad g 2 n1)]) ++ List.replicate (2 - (lg_sl ([.ref (gad g 2 n0), .ref (gad g 2 n1)])).length) Slot.unset).toArray = ls at hl ⊢
  have hl : lv_has ls 2 [(0, .ref (gad g 2 n0)), (1, .ref (gad g 2 n1))] := hl
  refine f_aload_n C dX2_become_0 rfl (lv_at hl 1 rfl) ?_
  refine ge_RX2_11 C hn1 dX2_become_1 ?_
  refine f_iconst (v := 0) C dX2_become_4 (by decide) ?_
  refine f_aload_n C dX2_become_5 rfl (lv_at hl 0 rfl) ?_
  refine ge_RX2_11 C hn0 dX2_become_6 ?_
  refine f_iconst (v := 0) C dX2_become_9 (by decide) ?_
  refine f_bipush (v := 6) C dX2_become_10 (by decide) ?_
  refine cp_k (sp' := 0) (dp' := 0) (n' := 6) (n0 := 6) (n1 := 6) C hl.1 kw_RX2_21 hn1 hn0 rfl (fun _ => rfl) (by decide) (by decide) (by decide) (by decide) (by decide) (by decide) (by decide) (by decide) hR (by decide) dX2_become_12 ?_
  exact f_vret C h dX2_become_15

def wp_X2_lastOf (Q : Int32 → MI → MJ → Prop) (I : MI) (J : MJ) (n0 : Nat) (x1 : Int32) : Prop :=
  wp_J9_min_7cf53 (fun r1 I1 J1 => Q r1 I1 J1) I J (I 13 n0 1) x1
set_option maxRecDepth 20000 in
theorem c_X2_lastOf {l : Launch} {g : Geo} {Q : Int32 → MI → MJ → Prop} {I : MI} {J : MJ} {n0 : Nat} {x1 : Int32} (hn0 : n0 < 2) (h : wp_X2_lastOf Q I J n0 x1) : Ct g l yX2_lastOf cX2_lastOf 2 (some .int) 1 21 [.ref (gad g 2 n0), .int x1] I J (PI Q) := by
  refine Ct.of (by decide) ?_
  intro p e s m below meth c C
  have hR : 1 ≤ (Rm 1 21).frames ∧ 21 ≤ (Rm 1 21).locals := ⟨Nat.le_refl _, Nat.le_refl _⟩
  generalize Rm 1 21 = R at hR ⊢
  have hl := lv_entry ([.ref (gad g 2 n0), .int x1]) (n := 2) (Nat.le_of_ble_eq_true rfl)
  rw [lg_entry_eq]
  generalize (lg_sl ([.ref (gad g 2 n0), .int x1]) ++ List.replicate (2 - (lg_sl ([.ref (gad g 2 n0), .int x1])).length) Slot.unset).toArray = ls at hl ⊢
  have hl : lv_has ls 2 [(0, .ref (gad g 2 n0)), (1, .int x1)] := hl
  refine f_aload_n C dX2_lastOf_0 rfl (lv_at hl 0 rfl) ?_
  refine ge_RX2_11 C hn0 dX2_lastOf_1 ?_
  refine f_iconst (v := 1) C dX2_lastOf_4 (by decide) ?_
  refine al_k (n := 6) (k := 1) C hn0 rfl (by decide) (vin_k (by decide)) dX2_lastOf_5 ?_
  refine f_iload_n C dX2_lastOf_6 rfl (lv_at hl 1 rfl) ?_
  refine f_cSi (As := [.int (I 13 n0 1), .int x1]) (rest := []) (n := 2) C (c_J9_min_7cf53 h) ok_J9_min_7cf53 sm_J9_min_7cf53 kw_RX2_27 ⟨Nat.le_trans (by decide) hR.1, Nat.le_trans (by decide) hR.2⟩ rfl hl.1 (Nat.le_of_ble_eq_true rfl) dX2_lastOf_7 (fun r1 I1 J1 h => ?_)
  exact f_iret C h dX2_lastOf_10

def wp_X2_bestOf (Q : Int32 → MI → MJ → Prop) (I : MI) (J : MJ) (n0 : Nat) (x1 : Int32) : Prop :=
  wp_J9_min_7cf53 (fun r1 I1 J1 => Q r1 I1 J1) I J (I 13 n0 0) x1
set_option maxRecDepth 20000 in
theorem c_X2_bestOf {l : Launch} {g : Geo} {Q : Int32 → MI → MJ → Prop} {I : MI} {J : MJ} {n0 : Nat} {x1 : Int32} (hn0 : n0 < 2) (h : wp_X2_bestOf Q I J n0 x1) : Ct g l yX2_bestOf cX2_bestOf 2 (some .int) 1 21 [.ref (gad g 2 n0), .int x1] I J (PI Q) := by
  refine Ct.of (by decide) ?_
  intro p e s m below meth c C
  have hR : 1 ≤ (Rm 1 21).frames ∧ 21 ≤ (Rm 1 21).locals := ⟨Nat.le_refl _, Nat.le_refl _⟩
  generalize Rm 1 21 = R at hR ⊢
  have hl := lv_entry ([.ref (gad g 2 n0), .int x1]) (n := 2) (Nat.le_of_ble_eq_true rfl)
  rw [lg_entry_eq]
  generalize (lg_sl ([.ref (gad g 2 n0), .int x1]) ++ List.replicate (2 - (lg_sl ([.ref (gad g 2 n0), .int x1])).length) Slot.unset).toArray = ls at hl ⊢
  have hl : lv_has ls 2 [(0, .ref (gad g 2 n0)), (1, .int x1)] := hl
  refine f_aload_n C dX2_bestOf_0 rfl (lv_at hl 0 rfl) ?_
  refine ge_RX2_11 C hn0 dX2_bestOf_1 ?_
  refine f_iconst (v := 0) C dX2_bestOf_4 (by decide) ?_
  refine al_k (n := 6) (k := 0) C hn0 rfl (by decide) (vin_k (by decide)) dX2_bestOf_5 ?_
  refine f_iload_n C dX2_bestOf_6 rfl (lv_at hl 1 rfl) ?_
  refine f_cSi (As := [.int (I 13 n0 0), .int x1]) (rest := []) (n := 2) C (c_J9_min_7cf53 h) ok_J9_min_7cf53 sm_J9_min_7cf53 kw_RX2_27 ⟨Nat.le_trans (by decide) hR.1, Nat.le_trans (by decide) hR.2⟩ rfl hl.1 (Nat.le_of_ble_eq_true rfl) dX2_bestOf_7 (fun r1 I1 J1 h => ?_)
  exact f_iret C h dX2_bestOf_10

def wp_X2_ceiling (Q : Int32 → MI → MJ → Prop) (I : MI) (J : MJ) (n0 : Nat) (x1 : Int32) : Prop :=
  Q (x1 + (I 13 n0 5)) I J
set_option maxRecDepth 20000 in
theorem c_X2_ceiling {l : Launch} {g : Geo} {Q : Int32 → MI → MJ → Prop} {I : MI} {J : MJ} {n0 : Nat} {x1 : Int32} (hn0 : n0 < 2) (h : wp_X2_ceiling Q I J n0 x1) : Ct g l yX2_ceiling cX2_ceiling 2 (some .int) 0 0 [.ref (gad g 2 n0), .int x1] I J (PI Q) := by
  refine Ct.of (by decide) ?_
  intro p e s m below meth c C
  have hR : 0 ≤ (Rm 0 0).frames ∧ 0 ≤ (Rm 0 0).locals := ⟨Nat.le_refl _, Nat.le_refl _⟩
  generalize Rm 0 0 = R at hR ⊢
  have hl := lv_entry ([.ref (gad g 2 n0), .int x1]) (n := 2) (Nat.le_of_ble_eq_true rfl)
  rw [lg_entry_eq]
  generalize (lg_sl ([.ref (gad g 2 n0), .int x1]) ++ List.replicate (2 - (lg_sl ([.ref (gad g 2 n0), .int x1])).length) Slot.unset).toArray = ls at hl ⊢
  have hl : lv_has ls 2 [(0, .ref (gad g 2 n0)), (1, .int x1)] := hl
  refine f_iload_n C dX2_ceiling_0 rfl (lv_at hl 1 rfl) ?_
  refine f_aload_n C dX2_ceiling_1 rfl (lv_at hl 0 rfl) ?_
  refine ge_RX2_11 C hn0 dX2_ceiling_2 ?_
  refine f_iconst (v := 5) C dX2_ceiling_5 (by decide) ?_
  refine al_k (n := 6) (k := 5) C hn0 rfl (by decide) (vin_k (by decide)) dX2_ceiling_6 ?_
  refine f_iadd C dX2_ceiling_7 ?_
  exact f_iret C h dX2_ceiling_8

