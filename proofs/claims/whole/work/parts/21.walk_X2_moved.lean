def wp_X2_moved (Q : Int32 → MI → MJ → Prop) (I : MI) (J : MJ) (n0 : Nat) (x1 : Int32) (x2 : Int32) (x3 : Int32) : Prop :=
  (x3 < 1 → Q x1 I J) ∧
  (¬ (x3 < 1) → (1 ≤ (I 13 n0 3) → wp_J9_floorDiv_7cf53 (fun r3 I3 J3 => ¬ (I3 13 n0 3) = 0 ∧ (∀ v5 : Int32, v5 = ((I3 13 n0 2) * (r3 - x1)) / (I3 13 n0 3) → (wp_X7_clamp (fun r6 I6 J6 => wp_X7_clamp (fun r7 I7 J7 => Q r7 I7 J7) I6 J6 (x1 + r6) 0 200) I3 J3 v5 (-(I3 13 n0 4)) (I3 13 n0 4)))) I J x2 x3) ∧
  (¬ (1 ≤ (I 13 n0 3)) → Q x1 I J))
set_option maxRecDepth 20000 in
theorem c_X2_moved {l : Launch} {g : Geo} {Q : Int32 → MI → MJ → Prop} {I : MI} {J : MJ} {n0 : Nat} {x1 : Int32} {x2 : Int32} {x3 : Int32} (hn0 : n0 < 2) (h : wp_X2_moved Q I J n0 x1 x2 x3) : Ct g l yX2_moved cX2_moved 6 (some .int) 1 22 [.ref (gad g 2 n0), .int x1, .int x2, .int x3] I J (PI Q) := by
  refine Ct.of (by decide) ?_
  intro p e s m below meth c C
  have hR : 1 ≤ (Rm 1 22).frames ∧ 22 ≤ (Rm 1 22).locals := ⟨Nat.le_refl _, Nat.le_refl _⟩
  generalize Rm 1 22 = R at hR ⊢
  have hl := lv_entry ([.ref (gad g 2 n0), .int x1, .int x2, .int x3]) (n := 6) (Nat.le_of_ble_eq_true rfl)
  rw [lg_entry_eq]
  generalize (lg_sl ([.ref (gad g 2 n0), .int x1, .int x2, .int x3]) ++ List.replicate (6 - (lg_sl ([.ref (gad g 2 n0), .int x1, .int x2, .int x3])).length) Slot.unset).toArray = ls at hl ⊢
  have hl : lv_has ls 6 [(0, .ref (gad g 2 n0)), (1, .int x1), (2, .int x2), (3, .int x3)] := hl
  refine f_iload_n C dX2_moved_0 rfl (lv_at hl 3 rfl) ?_
  refine f_iconst (v := 1) C dX2_moved_1 (by decide) ?_
  refine f_icmp_lt (tgt := 15) C dX2_moved_2 (by decide) (fun c1 => ?_) (fun c1 => ?_)
  · replace h := h.1 c1
    refine f_iload_n C dX2_moved_15 rfl (lv_at hl 1 rfl) ?_
    exact f_iret C h dX2_moved_16
  · replace h := h.2 c1
    refine f_aload_n C dX2_moved_5 rfl (lv_at hl 0 rfl) ?_
    refine ge_RX2_11 C hn0 dX2_moved_6 ?_
    refine f_iconst (v := 3) C dX2_moved_9 (by decide) ?_
    refine al_k (n := 6) (k := 3) C hn0 rfl (by decide) (vin_k (by decide)) dX2_moved_10 ?_
    refine f_iconst (v := 1) C dX2_moved_11 (by decide) ?_
    refine f_icmp_ge (tgt := 17) C dX2_moved_12 (by decide) (fun c2 => ?_) (fun c2 => ?_)
    · replace h := h.1 c2
      refine f_iload_n C dX2_moved_17 rfl (lv_at hl 2 rfl) ?_
      refine f_iload_n C dX2_moved_18 rfl (lv_at hl 3 rfl) ?_
      refine f_cSi (As := [.int x2, .int x3]) (rest := []) (n := 2) C (c_J9_floorDiv_7cf53 h) ok_J9_floorDiv_7cf53 sm_J9_floorDiv_7cf53 kw_RX2_33 ⟨Nat.le_trans (by decide) hR.1, Nat.le_trans (by decide) hR.2⟩ rfl hl.1 (Nat.le_of_ble_eq_true rfl) dX2_moved_19 (fun r3 I3 J3 h => ?_)
      refine f_istore (lv' := [(4, .int r3), (0, .ref (gad g 2 n0)), (1, .int x1), (2, .int x2), (3, .int x3)]) C dX2_moved_22 hl (by decide) rfl (fun ls hl => ?_)
      refine f_aload_n C dX2_moved_24 rfl (lv_at hl 1 rfl) ?_
      refine ge_RX2_11 C hn0 dX2_moved_25 ?_
      refine f_iconst (v := 2) C dX2_moved_28 (by decide) ?_
      refine al_k (n := 6) (k := 2) C hn0 rfl (by decide) (vin_k (by decide)) dX2_moved_29 ?_
      refine f_iload C dX2_moved_30 (lv_at hl 0 rfl) ?_
      refine f_iload_n C dX2_moved_32 rfl (lv_at hl 2 rfl) ?_
      refine f_isub C dX2_moved_33 ?_
      refine f_imul C dX2_moved_34 ?_
      refine f_aload_n C dX2_moved_35 rfl (lv_at hl 1 rfl) ?_
      refine ge_RX2_11 C hn0 dX2_moved_36 ?_
      refine f_iconst (v := 3) C dX2_moved_39 (by decide) ?_
      refine al_k (n := 6) (k := 3) C hn0 rfl (by decide) (vin_k (by decide)) dX2_moved_40 ?_
      obtain ⟨hz4, h⟩ := h
      refine f_idiv C dX2_moved_41 hz4 ?_
      generalize hv5 : ((I3 13 n0 2) * (r3 - x1)) / (I3 13 n0 3) = v5
      replace h := h v5 hv5.symm
      refine f_istore (lv' := [(5, .int v5), (4, .int r3), (0, .ref (gad g 2 n0)), (1, .int x1), (2, .int x2), (3, .int x3)]) C dX2_moved_42 hl (by decide) rfl (fun ls hl => ?_)
      refine f_iload_n C dX2_moved_44 rfl (lv_at hl 3 rfl) ?_
      refine f_iload C dX2_moved_45 (lv_at hl 0 rfl) ?_
      refine f_aload_n C dX2_moved_47 rfl (lv_at hl 2 rfl) ?_
      refine ge_RX2_11 C hn0 dX2_moved_48 ?_
      refine f_iconst (v := 4) C dX2_moved_51 (by decide) ?_
      refine al_k (n := 6) (k := 4) C hn0 rfl (by decide) (vin_k (by decide)) dX2_moved_52 ?_
      refine f_ineg C dX2_moved_53 ?_
      refine f_aload_n C dX2_moved_54 rfl (lv_at hl 2 rfl) ?_
      refine ge_RX2_11 C hn0 dX2_moved_55 ?_
      refine f_iconst (v := 4) C dX2_moved_58 (by decide) ?_
      refine al_k (n := 6) (k := 4) C hn0 rfl (by decide) (vin_k (by decide)) dX2_moved_59 ?_
      refine f_cNi (As := [.int v5, .int (-(I3 13 n0 4)), .int (I3 13 n0 4)]) (rest := [.int x1]) (n := 3) C (c_X7_clamp h) ok_X7_clamp sm_X7_clamp kn_RX2_36 ⟨Nat.le_trans (by decide) hR.1, Nat.le_trans (by decide) hR.2⟩ rfl hl.1 (Nat.le_of_ble_eq_true rfl) dX2_moved_60 (fun r6 I6 J6 h => ?_)
      refine f_iadd C dX2_moved_63 ?_
      refine f_iconst (v := 0) C dX2_moved_64 (by decide) ?_
      refine f_sipush (v := 200) C dX2_moved_65 (by decide) ?_
      refine f_cNi (As := [.int (x1 + r6), .int 0, .int 200]) (rest := []) (n := 3) C (c_X7_clamp h) ok_X7_clamp sm_X7_clamp kn_RX2_36 ⟨Nat.le_trans (by decide) hR.1, Nat.le_trans (by decide) hR.2⟩ rfl hl.1 (Nat.le_of_ble_eq_true rfl) dX2_moved_68 (fun r7 I7 J7 h => ?_)
      exact f_iret C h dX2_moved_71
    · replace h := h.2 c2
      refine f_iload_n C dX2_moved_15 rfl (lv_at hl 1 rfl) ?_
      exact f_iret C h dX2_moved_16

def wp_X3_append (Q : MI → MJ → Prop) (I : MI) (J : MJ) (x1 : Int32) : Prop :=
  (200 ≤ (I 3 0 1) → Q I J) ∧
  (¬ (200 ≤ (I 3 0 1)) → vp_in (I 3 0 1) 200 ∧ (Q (up3 (up3 I 14 0 ((I 3 0 1).toNatClampNeg) x1) 3 0 1 (((up3 I 14 0 ((I 3 0 1).toNatClampNeg) x1) 3 0 1) + 1)) J))
set_option maxRecDepth 20000 in
theorem c_X3_append {l : Launch} {g : Geo} {Q : MI → MJ → Prop} {I : MI} {J : MJ} {x1 : Int32} (h : wp_X3_append Q I J x1) : Ct g l yX3_append cX3_append 2 none 0 0 [.ref (gad g 3 0), .int x1] I J (PV Q) := by
  refine Ct.of (by decide) ?_
  intro p e s m below meth c C
  have hR : 0 ≤ (Rm 0 0).frames ∧ 0 ≤ (Rm 0 0).locals := ⟨Nat.le_refl _, Nat.le_refl _⟩
  generalize Rm 0 0 = R at hR ⊢
  have hl := lv_entry ([.ref (gad g 3 0), .int x1]) (n := 2) (Nat.le_of_ble_eq_true rfl)
  rw [lg_entry_eq]
  generalize (lg_sl ([.ref (gad g 3 0), .int x1]) ++ List.replicate (2 - (lg_sl ([.ref (gad g 3 0), .int x1])).length) Slot.unset).toArray = ls at hl ⊢
  have hl : lv_has ls 2 [(0, .ref (gad g 3 0)), (1, .int x1)] := hl
  refine f_aload_n C dX3_append_0 rfl (lv_at hl 0 rfl) ?_
  refine ge_RX3_15 C (by decide) dX3_append_1 ?_
  refine f_sipush (v := 200) C dX3_append_4 (by decide) ?_
  refine f_icmp_ge (tgt := 30) C dX3_append_7 (by decide) (fun c1 => ?_) (fun c1 => ?_)
  · replace h := h.1 c1
    exact f_vret C h dX3_append_30
  · replace h := h.2 c1
    refine f_aload_n C dX3_append_10 rfl (lv_at hl 0 rfl) ?_
    refine ge_RX3_11 C (by decide) dX3_append_11 ?_
    refine f_aload_n C dX3_append_14 rfl (lv_at hl 0 rfl) ?_
    refine ge_RX3_15 C (by decide) dX3_append_15 ?_
    refine f_iload_n C dX3_append_18 rfl (lv_at hl 1 rfl) ?_
    obtain ⟨hi2, h⟩ := h
    refine as_k (n := 200) (k := (I 3 0 1).toNatClampNeg) C (by decide) (fun _ => rfl) rfl hi2 dX3_append_19 ?_
    refine f_aload_n C dX3_append_20 rfl (lv_at hl 0 rfl) ?_
    refine f_dup C dX3_append_21 rfl ?_
    refine ge_RX3_15 C (by decide) dX3_append_22 ?_
    refine f_iconst (v := 1) C dX3_append_25 (by decide) ?_
    refine f_iadd C dX3_append_26 ?_
    refine pu_RX3_15 C (by decide) dX3_append_27 ?_
    exact f_vret C h dX3_append_30

def wp_X3_isLetter (Q : Int32 → MI → MJ → Prop) (I : MI) (J : MJ) (x0 : Int32) : Prop :=
  (x0 < 97 → Q 0 I J) ∧
  (¬ (x0 < 97) → (122 < x0 → Q 0 I J) ∧
  (¬ (122 < x0) → Q 1 I J))
set_option maxRecDepth 20000 in
theorem c_X3_isLetter {l : Launch} {g : Geo} {Q : Int32 → MI → MJ → Prop} {I : MI} {J : MJ} {x0 : Int32} (h : wp_X3_isLetter Q I J x0) : Ct g l yX3_isLetter cX3_isLetter 1 (some .boolean) 0 0 [.int x0] I J (PI Q) := by
  refine Ct.of (by decide) ?_
  intro p e s m below meth c C
  have hR : 0 ≤ (Rm 0 0).frames ∧ 0 ≤ (Rm 0 0).locals := ⟨Nat.le_refl _, Nat.le_refl _⟩
  generalize Rm 0 0 = R at hR ⊢
  have hl := lv_entry ([.int x0]) (n := 1) (Nat.le_of_ble_eq_true rfl)
  rw [lg_entry_eq]
  generalize (lg_sl ([.int x0]) ++ List.replicate (1 - (lg_sl ([.int x0])).length) Slot.unset).toArray = ls at hl ⊢
  have hl : lv_has ls 1 [(0, .int x0)] := hl
  refine f_iload_n C dX3_isLetter_0 rfl (lv_at hl 0 rfl) ?_
  refine f_bipush (v := 97) C dX3_isLetter_1 (by decide) ?_
  refine f_icmp_lt (tgt := 16) C dX3_isLetter_3 (by decide) (fun c1 => ?_) (fun c1 => ?_)
  · replace h := h.1 c1
    refine f_iconst (v := 0) C dX3_isLetter_16 (by decide) ?_
    exact f_zret C (Or.inl rfl) h dX3_isLetter_17
  · replace h := h.2 c1
    refine f_iload_n C dX3_isLetter_6 rfl (lv_at hl 0 rfl) ?_
    refine f_bipush (v := 122) C dX3_isLetter_7 (by decide) ?_
    refine f_icmp_gt (tgt := 16) C dX3_isLetter_9 (by decide) (fun c2 => ?_) (fun c2 => ?_)
    · replace h := h.1 c2
      refine f_iconst (v := 0) C dX3_isLetter_16 (by decide) ?_
      exact f_zret C (Or.inl rfl) h dX3_isLetter_17
    · replace h := h.2 c2
      refine f_iconst (v := 1) C dX3_isLetter_12 (by decide) ?_
      refine f_goto (tgt := 17) C dX3_isLetter_13 (by decide) ?_
      exact f_zret C (Or.inr rfl) h dX3_isLetter_17

def J_X3_wordToken_56 (Q : Int32 → MI → MJ → Prop) (I : MI) (J : MJ) (x1 : Int32) : Prop :=
  (((I 3 0 2) - (I 3 0 3)) ≤ 4 → (x1 = 28518 → Q 6 I J) ∧
  (¬ (x1 = 28518) → (x1 = 6513008 → Q 8 I J) ∧
  (¬ (x1 = 6513008) → (x1 = 1650815860 → Q 5 I J) ∧
  (¬ (x1 = 1650815860) → (x1 = 1836021349 → Q 7 I J) ∧
  (¬ (x1 = 1836021349) → (x1 = 1870030194 → Q 9 I J) ∧
  (¬ (x1 = 1870030194) → Q 1 I J)))))) ∧
  (¬ (((I 3 0 2) - (I 3 0 3)) ≤ 4) → Q 1 I J)
set_option maxRecDepth 20000 in
theorem t_X3_wordToken_56 {p : Program} {l : Launch} {e : Env} {R : Room} {s : State} {m : MethodId} {args : Array Value} {below : List Frame} {meth : Method} {c : Code} {g : Geo} (C : Cx g p s m args meth c cX3_wordToken 2 RX3 (some .int)) (hR : 1 ≤ R.frames ∧ 20 ≤ R.locals) {Q : Int32 → MI → MJ → Prop} {I : MI} {J : MJ} {x1 : Int32} (h : J_X3_wordToken_56 Q I J x1) (ls : Array Slot) (hl : lv_has ls 2 [(0, .ref (gad g 3 0)), (1, .int x1)]) : Wf p l e R s m args below meth c (MQ below (Qg g (PI Q)) args s 0 0 (gA g)) g I J (F0 m 56 ls []) := by
  refine f_aload_n C dX3_wordToken_56 rfl (lv_at hl 0 rfl) ?_
  refine ge_RX3_24 C (by decide) dX3_wordToken_57 ?_
  refine f_aload_n C dX3_wordToken_60 rfl (lv_at hl 0 rfl) ?_
  refine ge_RX3_43 C (by decide) dX3_wordToken_61 ?_
  refine f_isub C dX3_wordToken_64 ?_
  refine f_iconst (v := 4) C dX3_wordToken_65 (by decide) ?_
  refine f_icmp_le (tgt := 71) C dX3_wordToken_66 (by decide) (fun c2 => ?_) (fun c2 => ?_)
  · replace h := h.1 c2
    refine f_iload_n C dX3_wordToken_71 rfl (lv_at hl 1 rfl) ?_
    by_cases c3 : x1 = 28518
    · replace h := h.1 c3
      refine f_lookup (tgt := 126) C dX3_wordToken_72 (by decide) (by first | (rw [c3]; done) | (rw [c3]; decide)) (by decide) ?_
      refine f_bipush (v := 6) C dX3_wordToken_126 (by decide) ?_
      exact f_iret C h dX3_wordToken_128
    replace h := h.2 c3
    by_cases c4 : x1 = 6513008
    · replace h := h.1 c4
      refine f_lookup (tgt := 132) C dX3_wordToken_72 (by decide) (by first | (rw [c4]; done) | (rw [c4]; decide)) (by decide) ?_
      refine f_bipush (v := 8) C dX3_wordToken_132 (by decide) ?_
      exact f_iret C h dX3_wordToken_134
    replace h := h.2 c4
    by_cases c5 : x1 = 1650815860
    · replace h := h.1 c5
      refine f_lookup (tgt := 124) C dX3_wordToken_72 (by decide) (by first | (rw [c5]; done) | (rw [c5]; decide)) (by decide) ?_
      refine f_iconst (v := 5) C dX3_wordToken_124 (by decide) ?_
      exact f_iret C h dX3_wordToken_125
    replace h := h.2 c5
    by_cases c6 : x1 = 1836021349
    · replace h := h.1 c6
      refine f_lookup (tgt := 129) C dX3_wordToken_72 (by decide) (by first | (rw [c6]; done) | (rw [c6]; decide)) (by decide) ?_
      refine f_bipush (v := 7) C dX3_wordToken_129 (by decide) ?_
      exact f_iret C h dX3_wordToken_131
    replace h := h.2 c6
    by_cases c7 : x1 = 1870030194
    · replace h := h.1 c7
      refine f_lookup (tgt := 135) C dX3_wordToken_72 (by decide) (by first | (rw [c7]; done) | (rw [c7]; decide)) (by decide) ?_
      refine f_bipush (v := 9) C dX3_wordToken_135 (by decide) ?_
      exact f_iret C h dX3_wordToken_137
    replace h := h.2 c7
    refine f_lookup (tgt := 138) C dX3_wordToken_72 (by decide) (by show Op.lookupswitch.offset [(28518, 54), (6513008, 60), (1650815860, 52), (1836021349, 57), (1870030194, 63)] 66 _ = 66; rw [Op.lookupswitch.offset_cons, if_neg (fun q => ne_toInt (z := 28518) c3 (by decide) q.symm), Op.lookupswitch.offset_cons, if_neg (fun q => ne_toInt (z := 6513008) c4 (by decide) q.symm), Op.lookupswitch.offset_cons, if_neg (fun q => ne_toInt (z := 1650815860) c5 (by decide) q.symm), Op.lookupswitch.offset_cons, if_neg (fun q => ne_toInt (z := 1836021349) c6 (by decide) q.symm), Op.lookupswitch.offset_cons, if_neg (fun q => ne_toInt (z := 1870030194) c7 (by decide) q.symm)]; rfl) (by decide) ?_
    refine f_iconst (v := 1) C dX3_wordToken_138 (by decide) ?_
    exact f_iret C h dX3_wordToken_139
  · replace h := h.2 c2
    refine f_iconst (v := 1) C dX3_wordToken_69 (by decide) ?_
    exact f_iret C h dX3_wordToken_70

def B_X3_wordToken_2 (Q : Int32 → MI → MJ → Prop) (C2 : MI → MJ → Int32 → Prop) (I : MI) (J : MJ) (x1 : Int32) : Prop :=
  ((I 3 0 1) ≤ (I 3 0 2) → J_X3_wordToken_56 Q I J x1) ∧
  (¬ ((I 3 0 1) ≤ (I 3 0 2)) → vp_in (I 3 0 2) 200 ∧ (wp_X3_isLetter (fun r9 I9 J9 => (r9 = 0 → J_X3_wordToken_56 Q I9 J9 x1) ∧
  (¬ (r9 = 0) → vp_in (I9 3 0 2) 200 ∧ (∀ v12 : Int32, v12 = (x1 <<< ((8 : Int32) &&& 31)) ||| (I9 14 0 ((I9 3 0 2).toNatClampNeg)) → (C2 (up3 I9 3 0 2 ((I9 3 0 2) + 1)) J9 v12)))) I J (I 14 0 ((I 3 0 2).toNatClampNeg))))
set_option maxRecDepth 20000 in
theorem b_X3_wordToken_2 {p : Program} {l : Launch} {e : Env} {R : Room} {s : State} {m : MethodId} {args : Array Value} {below : List Frame} {meth : Method} {c : Code} {g : Geo} (C : Cx g p s m args meth c cX3_wordToken 2 RX3 (some .int)) (hR : 1 ≤ R.frames ∧ 20 ≤ R.locals) {Q : Int32 → MI → MJ → Prop} {C2 : MI → MJ → Int32 → Prop} (hC2 : ∀ (I : MI) (J : MJ) (x1 : Int32), C2 I J x1 → ∀ ls : Array Slot, lv_has ls 2 [(0, .ref (gad g 3 0)), (1, .int x1)] → Wf p l e R s m args below meth c (MQ below (Qg g (PI Q)) args s 0 0 (gA g)) g I J (F0 m 2 ls [])) {I : MI} {J : MJ} {x1 : Int32} (h : B_X3_wordToken_2 Q C2 I J x1) (ls : Array Slot) (hl : lv_has ls 2 [(0, .ref (gad g 3 0)), (1, .int x1)]) : Wf p l e R s m args below meth c (MQ below (Qg g (PI Q)) args s 0 0 (gA g)) g I J (F0 m 2 ls []) := by
  refine f_aload_n C dX3_wordToken_2 rfl (lv_at hl 0 rfl) ?_
  refine ge_RX3_24 C (by decide) dX3_wordToken_3 ?_
  refine f_aload_n C dX3_wordToken_6 rfl (lv_at hl 0 rfl) ?_
  refine ge_RX3_15 C (by decide) dX3_wordToken_7 ?_
  refine f_icmp_ge (tgt := 56) C dX3_wordToken_10 (by decide) (fun c1 => ?_) (fun c1 => ?_)
  · replace h := h.1 c1
    exact t_X3_wordToken_56 C hR h ls (lv_sub hl [0, 1] rfl)
  · replace h := h.2 c1
    refine f_aload_n C dX3_wordToken_13 rfl (lv_at hl 0 rfl) ?_
    refine ge_RX3_11 C (by decide) dX3_wordToken_14 ?_
    refine f_aload_n C dX3_wordToken_17 rfl (lv_at hl 0 rfl) ?_
    refine ge_RX3_24 C (by decide) dX3_wordToken_18 ?_
    obtain ⟨hi8, h⟩ := h
    refine al_k (n := 200) (k := (I 3 0 2).toNatClampNeg) C (by decide) rfl rfl hi8 dX3_wordToken_21 ?_
    refine f_cSi (As := [.int (I 14 0 ((I 3 0 2).toNatClampNeg))]) (rest := []) (n := 1) C (c_X3_isLetter h) ok_X3_isLetter sm_X3_isLetter kw_RX3_65 ⟨Nat.le_trans (by decide) hR.1, Nat.le_trans (by decide) hR.2⟩ rfl hl.1 (Nat.le_of_ble_eq_true rfl) dX3_wordToken_22 (fun r9 I9 J9 h => ?_)
    refine f_if_eq (tgt := 56) C dX3_wordToken_25 (by decide) (fun c10 => ?_) (fun c10 => ?_)
    · replace h := h.1 c10
      exact t_X3_wordToken_56 C hR h ls (lv_sub hl [0, 1] rfl)
    · replace h := h.2 c10
      refine f_iload_n C dX3_wordToken_28 rfl (lv_at hl 1 rfl) ?_
      refine f_bipush (v := 8) C dX3_wordToken_29 (by decide) ?_
      refine f_ishl C dX3_wordToken_31 ?_
      refine f_aload_n C dX3_wordToken_32 rfl (lv_at hl 0 rfl) ?_
      refine ge_RX3_11 C (by decide) dX3_wordToken_33 ?_
      refine f_aload_n C dX3_wordToken_36 rfl (lv_at hl 0 rfl) ?_
      refine ge_RX3_24 C (by decide) dX3_wordToken_37 ?_
      obtain ⟨hi11, h⟩ := h
      refine al_k (n := 200) (k := (I9 3 0 2).toNatClampNeg) C (by decide) rfl rfl hi11 dX3_wordToken_40 ?_
      refine f_ior C dX3_wordToken_41 ?_
      generalize hv12 : (x1 <<< ((8 : Int32) &&& 31)) ||| (I9 14 0 ((I9 3 0 2).toNatClampNeg)) = v12
      replace h := h v12 hv12.symm
      refine f_istore_n (lv' := [(1, .int v12), (0, .ref (gad g 3 0))]) C dX3_wordToken_42 rfl hl (by decide) rfl (fun ls hl => ?_)
      refine f_aload_n C dX3_wordToken_43 rfl (lv_at hl 1 rfl) ?_
      refine f_dup C dX3_wordToken_44 rfl ?_
      refine ge_RX3_24 C (by decide) dX3_wordToken_45 ?_
      refine f_iconst (v := 1) C dX3_wordToken_48 (by decide) ?_
      refine f_iadd C dX3_wordToken_49 ?_
      refine pu_RX3_24 C (by decide) dX3_wordToken_50 ?_
      refine f_goto (tgt := 2) C dX3_wordToken_53 (by decide) ?_
      exact hC2 _ _ _ h ls (lv_sub hl [1, 0] rfl)

def L_X3_wordToken_2 (Q : Int32 → MI → MJ → Prop) : Nat → MI → MJ → Int32 → Prop
  | 0 => fun _ _ _ => False
  | n + 1 => fun I J x1 => B_X3_wordToken_2 Q (L_X3_wordToken_2 Q n) I J x1
theorem t_X3_wordToken_2 {p : Program} {l : Launch} {e : Env} {R : Room} {s : State} {m : MethodId} {args : Array Value} {below : List Frame} {meth : Method} {c : Code} {g : Geo} (C : Cx g p s m args meth c cX3_wordToken 2 RX3 (some .int)) (hR : 1 ≤ R.frames ∧ 20 ≤ R.locals) {Q : Int32 → MI → MJ → Prop} : ∀ (n : Nat), ∀ (I : MI) (J : MJ) (x1 : Int32), L_X3_wordToken_2 Q n I J x1 → ∀ ls : Array Slot, lv_has ls 2 [(0, .ref (gad g 3 0)), (1, .int x1)] → Wf p l e R s m args below meth c (MQ below (Qg g (PI Q)) args s 0 0 (gA g)) g I J (F0 m 2 ls []) := by
  intro n
  induction n with
  | zero => intro I J x1 h; exact h.elim
  | succ n ih => intro I J x1 h ls hl; exact b_X3_wordToken_2 C hR ih h ls hl
def wp_X3_wordToken (Q : Int32 → MI → MJ → Prop) (I : MI) (J : MJ) : Prop :=
  ∃ n : Nat, L_X3_wordToken_2 Q n I J 0
set_option maxRecDepth 20000 in
theorem c_X3_wordToken {l : Launch} {g : Geo} {Q : Int32 → MI → MJ → Prop} {I : MI} {J : MJ} (h : wp_X3_wordToken Q I J) : Ct g l yX3_wordToken cX3_wordToken 2 (some .int) 1 20 [.ref (gad g 3 0)] I J (PI Q) := by
  refine Ct.of (by decide) ?_
  intro p e s m below meth c C
  have hR : 1 ≤ (Rm 1 20).frames ∧ 20 ≤ (Rm 1 20).locals := ⟨Nat.le_refl _, Nat.le_refl _⟩
  generalize Rm 1 20 = R at hR ⊢
  have hl := lv_entry ([.ref (gad g 3 0)]) (n := 2) (Nat.le_of_ble_eq_true rfl)
  rw [lg_entry_eq]
  generalize (lg_sl ([.ref (gad g 3 0)]) ++ List.replicate (2 - (lg_sl ([.ref (gad g 3 0)])).length) Slot.unset).toArray = ls at hl ⊢
  have hl : lv_has ls 2 [(0, .ref (gad g 3 0))] := hl
  refine f_iconst (v := 0) C dX3_wordToken_0 (by decide) ?_
  refine f_istore_n (lv' := [(1, .int 0), (0, .ref (gad g 3 0))]) C dX3_wordToken_1 rfl hl (by decide) rfl (fun ls hl => ?_)
  obtain ⟨n, h⟩ := h
  exact t_X3_wordToken_2 C hR n _ _ _ h ls (lv_sub hl [1, 0] rfl)

def wp_X3_isDigit (Q : Int32 → MI → MJ → Prop) (I : MI) (J : MJ) (x0 : Int32) : Prop :=
  (x0 < 48 → Q 0 I J) ∧
  (¬ (x0 < 48) → (57 < x0 → Q 0 I J) ∧
  (¬ (57 < x0) → Q 1 I J))
set_option maxRecDepth 20000 in
theorem c_X3_isDigit {l : Launch} {g : Geo} {Q : Int32 → MI → MJ → Prop} {I : MI} {J : MJ} {x0 : Int32} (h : wp_X3_isDigit Q I J x0) : Ct g l yX3_isDigit cX3_isDigit 1 (some .boolean) 0 0 [.int x0] I J (PI Q) := by
  refine Ct.of (by decide) ?_
  intro p e s m below meth c C
  have hR : 0 ≤ (Rm 0 0).frames ∧ 0 ≤ (Rm 0 0).locals := ⟨Nat.le_refl _, Nat.le_refl _⟩
  generalize Rm 0 0 = R at hR ⊢
  have hl := lv_entry ([.int x0]) (n := 1) (Nat.le_of_ble_eq_true rfl)
  rw [lg_entry_eq]
  generalize (lg_sl ([.int x0]) ++ List.replicate (1 - (lg_sl ([.int x0])).length) Slot.unset).toArray = ls at hl ⊢
  have hl : lv_has ls 1 [(0, .int x0)] := hl
  refine f_iload_n C dX3_isDigit_0 rfl (lv_at hl 0 rfl) ?_
  refine f_bipush (v := 48) C dX3_isDigit_1 (by decide) ?_
  refine f_icmp_lt (tgt := 16) C dX3_isDigit_3 (by decide) (fun c1 => ?_) (fun c1 => ?_)
  · replace h := h.1 c1
    refine f_iconst (v := 0) C dX3_isDigit_16 (by decide) ?_
    exact f_zret C (Or.inl rfl) h dX3_isDigit_17
  · replace h := h.2 c1
    refine f_iload_n C dX3_isDigit_6 rfl (lv_at hl 0 rfl) ?_
    refine f_bipush (v := 57) C dX3_isDigit_7 (by decide) ?_
    refine f_icmp_gt (tgt := 16) C dX3_isDigit_9 (by decide) (fun c2 => ?_) (fun c2 => ?_)
    · replace h := h.1 c2
      refine f_iconst (v := 0) C dX3_isDigit_16 (by decide) ?_
      exact f_zret C (Or.inl rfl) h dX3_isDigit_17
    · replace h := h.2 c2
      refine f_iconst (v := 1) C dX3_isDigit_12 (by decide) ?_
      refine f_goto (tgt := 17) C dX3_isDigit_13 (by decide) ?_
      exact f_zret C (Or.inr rfl) h dX3_isDigit_17

def J_X3_numberToken_106 (Q : Int32 → MI → MJ → Prop) (I : MI) (J : MJ) (s0 : Int32) : Prop :=
  (s0 = 0 → ((I 3 0 5) ≤ 999 → Q 2 I J) ∧
  (¬ ((I 3 0 5) ≤ 999) → Q 1 I J)) ∧
  (¬ (s0 = 0) → Q 1 I J)
set_option maxRecDepth 20000 in
theorem t_X3_numberToken_106 {p : Program} {l : Launch} {e : Env} {R : Room} {s : State} {m : MethodId} {args : Array Value} {below : List Frame} {meth : Method} {c : Code} {g : Geo} (C : Cx g p s m args meth c cX3_numberToken 2 RX3 (some .int)) (hR : 1 ≤ R.frames ∧ 21 ≤ R.locals) {Q : Int32 → MI → MJ → Prop} {I : MI} {J : MJ} {s0 : Int32} (h : J_X3_numberToken_106 Q I J s0) (ls : Array Slot) (hl : lv_has ls 2 [(0, .ref (gad g 3 0))]) : Wf p l e R s m args below meth c (MQ below (Qg g (PI Q)) args s 0 0 (gA g)) g I J (F0 m 106 ls [.int s0]) := by
  refine f_istore_n (lv' := [(1, .int s0), (0, .ref (gad g 3 0))]) C dX3_numberToken_106 rfl hl (by decide) rfl (fun ls hl => ?_)
  refine f_iload_n C dX3_numberToken_107 rfl (lv_at hl 0 rfl) ?_
  refine f_if_ne (tgt := 121) C dX3_numberToken_108 (by decide) (fun c4 => ?_) (fun c4 => ?_)
  · replace h := h.2 c4
    refine f_iconst (v := 1) C dX3_numberToken_121 (by decide) ?_
    refine f_goto (tgt := 126) C dX3_numberToken_122 (by decide) ?_
    exact f_iret C h dX3_numberToken_126
  · replace h := h.1 c4
    refine f_aload_n C dX3_numberToken_111 rfl (lv_at hl 1 rfl) ?_
    refine ge_RX3_58 C (by decide) dX3_numberToken_112 ?_
    refine f_sipush (v := 999) C dX3_numberToken_115 (by decide) ?_
    refine f_icmp_le (tgt := 125) C dX3_numberToken_118 (by decide) (fun c5 => ?_) (fun c5 => ?_)
    · replace h := h.1 c5
      refine f_iconst (v := 2) C dX3_numberToken_125 (by decide) ?_
      exact f_iret C h dX3_numberToken_126
    · replace h := h.2 c5
      refine f_iconst (v := 1) C dX3_numberToken_121 (by decide) ?_
      refine f_goto (tgt := 126) C dX3_numberToken_122 (by decide) ?_
      exact f_iret C h dX3_numberToken_126

def J_X3_numberToken_105 (Q : Int32 → MI → MJ → Prop) (I : MI) (J : MJ) : Prop :=
  J_X3_numberToken_106 Q I J 0
set_option maxRecDepth 20000 in
theorem t_X3_numberToken_105 {p : Program} {l : Launch} {e : Env} {R : Room} {s : State} {m : MethodId} {args : Array Value} {below : List Frame} {meth : Method} {c : Code} {g : Geo} (C : Cx g p s m args meth c cX3_numberToken 2 RX3 (some .int)) (hR : 1 ≤ R.frames ∧ 21 ≤ R.locals) {Q : Int32 → MI → MJ → Prop} {I : MI} {J : MJ} (h : J_X3_numberToken_105 Q I J) (ls : Array Slot) (hl : lv_has ls 2 [(0, .ref (gad g 3 0))]) : Wf p l e R s m args below meth c (MQ below (Qg g (PI Q)) args s 0 0 (gA g)) g I J (F0 m 105 ls []) := by
  refine f_iconst (v := 0) C dX3_numberToken_105 (by decide) ?_
  exact t_X3_numberToken_106 C hR h ls (lv_sub hl [0] rfl)

def J_X3_numberToken_74 (Q : Int32 → MI → MJ → Prop) (I : MI) (J : MJ) : Prop :=
  vp_in (I 3 0 3) 200 ∧ (((I 14 0 ((I 3 0 3).toNatClampNeg)) = 48 → (((I 3 0 2) - (I 3 0 3)) ≤ 1 → J_X3_numberToken_105 Q I J) ∧
  (¬ (((I 3 0 2) - (I 3 0 3)) ≤ 1) → J_X3_numberToken_106 Q I J 1)) ∧
  (¬ ((I 14 0 ((I 3 0 3).toNatClampNeg)) = 48) → J_X3_numberToken_105 Q I J))
set_option maxRecDepth 20000 in
theorem t_X3_numberToken_74 {p : Program} {l : Launch} {e : Env} {R : Room} {s : State} {m : MethodId} {args : Array Value} {below : List Frame} {meth : Method} {c : Code} {g : Geo} (C : Cx g p s m args meth c cX3_numberToken 2 RX3 (some .int)) (hR : 1 ≤ R.frames ∧ 21 ≤ R.locals) {Q : Int32 → MI → MJ → Prop} {I : MI} {J : MJ} (h : J_X3_numberToken_74 Q I J) (ls : Array Slot) (hl : lv_has ls 2 [(0, .ref (gad g 3 0))]) : Wf p l e R s m args below meth c (MQ below (Qg g (PI Q)) args s 0 0 (gA g)) g I J (F0 m 74 ls []) := by
  refine f_aload_n C dX3_numberToken_74 rfl (lv_at hl 0 rfl) ?_
  refine ge_RX3_11 C (by decide) dX3_numberToken_75 ?_
  refine f_aload_n C dX3_numberToken_78 rfl (lv_at hl 0 rfl) ?_
  refine ge_RX3_43 C (by decide) dX3_numberToken_79 ?_
  obtain ⟨hi2, h⟩ := h
  refine al_k (n := 200) (k := (I 3 0 3).toNatClampNeg) C (by decide) rfl rfl hi2 dX3_numberToken_82 ?_
  refine f_bipush (v := 48) C dX3_numberToken_83 (by decide) ?_
  refine f_icmp_ne (tgt := 105) C dX3_numberToken_85 (by decide) (fun c3 => ?_) (fun c3 => ?_)
  · replace h := h.2 c3
    exact t_X3_numberToken_105 C hR h ls (lv_sub hl [0] rfl)
  · replace h := h.1 c3
    refine f_aload_n C dX3_numberToken_88 rfl (lv_at hl 0 rfl) ?_
    refine ge_RX3_24 C (by decide) dX3_numberToken_89 ?_
    refine f_aload_n C dX3_numberToken_92 rfl (lv_at hl 0 rfl) ?_
    refine ge_RX3_43 C (by decide) dX3_numberToken_93 ?_
    refine f_isub C dX3_numberToken_96 ?_
    refine f_iconst (v := 1) C dX3_numberToken_97 (by decide) ?_
    refine f_icmp_le (tgt := 105) C dX3_numberToken_98 (by decide) (fun c6 => ?_) (fun c6 => ?_)
    · replace h := h.1 c6
      exact t_X3_numberToken_105 C hR h ls (lv_sub hl [0] rfl)
    · replace h := h.2 c6
      refine f_iconst (v := 1) C dX3_numberToken_101 (by decide) ?_
      refine f_goto (tgt := 106) C dX3_numberToken_102 (by decide) ?_
      exact t_X3_numberToken_106 C hR h ls (lv_sub hl [0] rfl)

def B_X3_numberToken_5 (Q : Int32 → MI → MJ → Prop) (C5 : MI → MJ → Prop) (I : MI) (J : MJ) : Prop :=
  ((I 3 0 1) ≤ (I 3 0 2) → J_X3_numberToken_74 Q I J) ∧
  (¬ ((I 3 0 1) ≤ (I 3 0 2)) → vp_in (I 3 0 2) 200 ∧ (wp_X3_isDigit (fun r8 I8 J8 => (r8 = 0 → J_X3_numberToken_74 Q I8 J8) ∧
  (¬ (r8 = 0) → vp_in (I8 3 0 2) 200 ∧ (wp_J9_min_7cf53 (fun r11 I11 J11 => C5 (up3 (up3 I11 3 0 5 r11) 3 0 2 (((up3 I11 3 0 5 r11) 3 0 2) + 1)) J11) I8 J8 1000 (((10 * (I8 3 0 5)) + (I8 14 0 ((I8 3 0 2).toNatClampNeg))) - 48)))) I J (I 14 0 ((I 3 0 2).toNatClampNeg))))
set_option maxRecDepth 20000 in
theorem b_X3_numberToken_5 {p : Program} {l : Launch} {e : Env} {R : Room} {s : State} {m : MethodId} {args : Array Value} {below : List Frame} {meth : Method} {c : Code} {g : Geo} (C : Cx g p s m args meth c cX3_numberToken 2 RX3 (some .int)) (hR : 1 ≤ R.frames ∧ 21 ≤ R.locals) {Q : Int32 → MI → MJ → Prop} {C5 : MI → MJ → Prop} (hC5 : ∀ (I : MI) (J : MJ), C5 I J → ∀ ls : Array Slot, lv_has ls 2 [(0, .ref (gad g 3 0))] → Wf p l e R s m args below meth c (MQ below (Qg g (PI Q)) args s 0 0 (gA g)) g I J (F0 m 5 ls [])) {I : MI} {J : MJ} (h : B_X3_numberToken_5 Q C5 I J) (ls : Array Slot) (hl : lv_has ls 2 [(0, .ref (gad g 3 0))]) : Wf p l e R s m args below meth c (MQ below (Qg g (PI Q)) args s 0 0 (gA g)) g I J (F0 m 5 ls []) := by
  refine f_aload_n C dX3_numberToken_5 rfl (lv_at hl 0 rfl) ?_
  refine ge_RX3_24 C (by decide) dX3_numberToken_6 ?_
  refine f_aload_n C dX3_numberToken_9 rfl (lv_at hl 0 rfl) ?_
  refine ge_RX3_15 C (by decide) dX3_numberToken_10 ?_
  refine f_icmp_ge (tgt := 74) C dX3_numberToken_13 (by decide) (fun c1 => ?_) (fun c1 => ?_)
  · replace h := h.1 c1
    exact t_X3_numberToken_74 C hR h ls (lv_sub hl [0] rfl)
  · replace h := h.2 c1
    refine f_aload_n C dX3_numberToken_16 rfl (lv_at hl 0 rfl) ?_
    refine ge_RX3_11 C (by decide) dX3_numberToken_17 ?_
    refine f_aload_n C dX3_numberToken_20 rfl (lv_at hl 0 rfl) ?_
    refine ge_RX3_24 C (by decide) dX3_numberToken_21 ?_
    obtain ⟨hi7, h⟩ := h
    refine al_k (n := 200) (k := (I 3 0 2).toNatClampNeg) C (by decide) rfl rfl hi7 dX3_numberToken_24 ?_
    refine f_cSi (As := [.int (I 14 0 ((I 3 0 2).toNatClampNeg))]) (rest := []) (n := 1) C (c_X3_isDigit h) ok_X3_isDigit sm_X3_isDigit kw_RX3_72 ⟨Nat.le_trans (by decide) hR.1, Nat.le_trans (by decide) hR.2⟩ rfl hl.1 (Nat.le_of_ble_eq_true rfl) dX3_numberToken_25 (fun r8 I8 J8 h => ?_)
    refine f_if_eq (tgt := 74) C dX3_numberToken_28 (by decide) (fun c9 => ?_) (fun c9 => ?_)
    · replace h := h.1 c9
      exact t_X3_numberToken_74 C hR h ls (lv_sub hl [0] rfl)
    · replace h := h.2 c9
      refine f_aload_n C dX3_numberToken_31 rfl (lv_at hl 0 rfl) ?_
      refine f_sipush (v := 1000) C dX3_numberToken_32 (by decide) ?_
      refine f_bipush (v := 10) C dX3_numberToken_35 (by decide) ?_
      refine f_aload_n C dX3_numberToken_37 rfl (lv_at hl 0 rfl) ?_
      refine ge_RX3_58 C (by decide) dX3_numberToken_38 ?_
      refine f_imul C dX3_numberToken_41 ?_
      refine f_aload_n C dX3_numberToken_42 rfl (lv_at hl 0 rfl) ?_
      refine ge_RX3_11 C (by decide) dX3_numberToken_43 ?_
      refine f_aload_n C dX3_numberToken_46 rfl (lv_at hl 0 rfl) ?_
      refine ge_RX3_24 C (by decide) dX3_numberToken_47 ?_
      obtain ⟨hi10, h⟩ := h
      refine al_k (n := 200) (k := (I8 3 0 2).toNatClampNeg) C (by decide) rfl rfl hi10 dX3_numberToken_50 ?_
      refine f_iadd C dX3_numberToken_51 ?_
      refine f_bipush (v := 48) C dX3_numberToken_52 (by decide) ?_
      refine f_isub C dX3_numberToken_54 ?_
      refine f_cSi (As := [.int 1000, .int (((10 * (I8 3 0 5)) + (I8 14 0 ((I8 3 0 2).toNatClampNeg))) - 48)]) (rest := [.ref (gad g 3 0)]) (n := 2) C (c_J9_min_7cf53 h) ok_J9_min_7cf53 sm_J9_min_7cf53 kw_RX3_78 ⟨Nat.le_trans (by decide) hR.1, Nat.le_trans (by decide) hR.2⟩ rfl hl.1 (Nat.le_of_ble_eq_true rfl) dX3_numberToken_55 (fun r11 I11 J11 h => ?_)
      refine pu_RX3_58 C (by decide) dX3_numberToken_58 ?_
      refine f_aload_n C dX3_numberToken_61 rfl (lv_at hl 0 rfl) ?_
      refine f_dup C dX3_numberToken_62 rfl ?_
      refine ge_RX3_24 C (by decide) dX3_numberToken_63 ?_
      refine f_iconst (v := 1) C dX3_numberToken_66 (by decide) ?_
      refine f_iadd C dX3_numberToken_67 ?_
      refine pu_RX3_24 C (by decide) dX3_numberToken_68 ?_
      refine f_goto (tgt := 5) C dX3_numberToken_71 (by decide) ?_
      exact hC5 _ _ h ls (lv_sub hl [0] rfl)

def L_X3_numberToken_5 (Q : Int32 → MI → MJ → Prop) : Nat → MI → MJ → Prop
  | 0 => fun _ _ => False
  | n + 1 => fun I J => B_X3_numberToken_5 Q (L_X3_numberToken_5 Q n) I J
theorem t_X3_numberToken_5 {p : Program} {l : Launch} {e : Env} {R : Room} {s : State} {m : MethodId} {args : Array Value} {below : List Frame} {meth : Method} {c : Code} {g : Geo} (C : Cx g p s m args meth c cX3_numberToken 2 RX3 (some .int)) (hR : 1 ≤ R.frames ∧ 21 ≤ R.locals) {Q : Int32 → MI → MJ → Prop} : ∀ (n : Nat), ∀ (I : MI) (J : MJ), L_X3_numberToken_5 Q n I J → ∀ ls : Array Slot, lv_has ls 2 [(0, .ref (gad g 3 0))] → Wf p l e R s m args below meth c (MQ below (Qg g (PI Q)) args s 0 0 (gA g)) g I J (F0 m 5 ls []) := by
  intro n
  induction n with
  | zero => intro I J h; exact h.elim
  | succ n ih => intro I J h ls hl; exact b_X3_numberToken_5 C hR ih h ls hl
def wp_X3_numberToken (Q : Int32 → MI → MJ → Prop) (I : MI) (J : MJ) : Prop :=
  ∃ n : Nat, L_X3_numberToken_5 Q n (up3 I 3 0 5 0) J
set_option maxRecDepth 20000 in
theorem c_X3_numberToken {l : Launch} {g : Geo} {Q : Int32 → MI → MJ → Prop} {I : MI} {J : MJ} (h : wp_X3_numberToken Q I J) : Ct g l yX3_numberToken cX3_numberToken 2 (some .int) 1 21 [.ref (gad g 3 0)] I J (PI Q) := by
  refine Ct.of (by decide) ?_
  intro p e s m below meth c C
  have hR : 1 ≤ (Rm 1 21).frames ∧ 21 ≤ (Rm 1 21).locals := ⟨Nat.le_refl _, Nat.le_refl _⟩
  generalize Rm 1 21 = R at hR ⊢
  have hl := lv_entry ([.ref (gad g 3 0)]) (n := 2) (Nat.le_of_ble_eq_true rfl)
  rw [lg_entry_eq]
  generalize (lg_sl ([.ref (gad g 3 0)]) ++ List.replicate (2 - (lg_sl ([.ref (gad g 3 0)])).length) Slot.unset).toArray = ls at hl ⊢
  have hl : lv_has ls 2 [(0, .ref (gad g 3 0))] := hl
  refine f_aload_n C dX3_numberToken_0 rfl (lv_at hl 0 rfl) ?_
  refine f_iconst (v := 0) C dX3_numberToken_1 (by decide) ?_
  refine pu_RX3_58 C (by decide) dX3_numberToken_2 ?_
  obtain ⟨n, h⟩ := h
  exact t_X3_numberToken_5 C hR n _ _ h ls (lv_sub hl [0] rfl)

def J_X3_next_155 (Q : MI → MJ → Prop) (I : MI) (J : MJ) (s0 : Int32) : Prop :=
  Q (up3 (up3 I 3 0 4 s0) 3 0 2 (((up3 I 3 0 4 s0) 3 0 2) + 1)) J
set_option maxRecDepth 20000 in
theorem t_X3_next_155 {p : Program} {l : Launch} {e : Env} {R : Room} {s : State} {m : MethodId} {args : Array Value} {below : List Frame} {meth : Method} {c : Code} {g : Geo} (C : Cx g p s m args meth c cX3_next 1 RX3 none) (hR : 2 ≤ R.frames ∧ 42 ≤ R.locals) {Q : MI → MJ → Prop} {I : MI} {J : MJ} {s0 : Int32} (h : J_X3_next_155 Q I J s0) (ls : Array Slot) (hl : lv_has ls 1 [(0, .ref (gad g 3 0))]) : Wf p l e R s m args below meth c (MQ below (Qg g (PV Q)) args s 0 0 (gA g)) g I J (F0 m 155 ls [.int s0, .ref (gad g 3 0)]) := by
  refine pu_RX3_33 C (by decide) dX3_next_155 ?_
  refine f_aload_n C dX3_next_158 rfl (lv_at hl 0 rfl) ?_
  refine f_dup C dX3_next_159 rfl ?_
  refine ge_RX3_24 C (by decide) dX3_next_160 ?_
  refine f_iconst (v := 1) C dX3_next_163 (by decide) ?_
  refine f_iadd C dX3_next_164 ?_
  refine pu_RX3_24 C (by decide) dX3_next_165 ?_
  exact f_vret C h dX3_next_168

def J_X3_next_38 (Q : MI → MJ → Prop) (I : MI) (J : MJ) : Prop :=
  (((up3 I 3 0 3 (I 3 0 2)) 3 0 2) < ((up3 I 3 0 3 (I 3 0 2)) 3 0 1) → vp_in ((up3 I 3 0 3 (I 3 0 2)) 3 0 2) 200 ∧ (wp_X3_isLetter (fun r4 I4 J4 => (r4 = 0 → vp_in (I4 3 0 2) 200 ∧ (wp_X3_isDigit (fun r7 I7 J7 => (r7 = 0 → vp_in (I7 3 0 2) 200 ∧ (((I7 14 0 ((I7 3 0 2).toNatClampNeg)) = 47 → J_X3_next_155 Q I7 J7 3) ∧
  (¬ ((I7 14 0 ((I7 3 0 2).toNatClampNeg)) = 47) → vp_in (I7 3 0 2) 200 ∧ (((I7 14 0 ((I7 3 0 2).toNatClampNeg)) = 59 → J_X3_next_155 Q I7 J7 4) ∧
  (¬ ((I7 14 0 ((I7 3 0 2).toNatClampNeg)) = 59) → J_X3_next_155 Q I7 J7 1))))) ∧
  (¬ (r7 = 0) → wp_X3_numberToken (fun r13 I13 J13 => Q (up3 I13 3 0 4 r13) J13) I7 J7)) I4 J4 (I4 14 0 ((I4 3 0 2).toNatClampNeg)))) ∧
  (¬ (r4 = 0) → wp_X3_wordToken (fun r14 I14 J14 => Q (up3 I14 3 0 4 r14) J14) I4 J4)) (up3 I 3 0 3 (I 3 0 2)) J ((up3 I 3 0 3 (I 3 0 2)) 14 0 (((up3 I 3 0 3 (I 3 0 2)) 3 0 2).toNatClampNeg)))) ∧
  (¬ (((up3 I 3 0 3 (I 3 0 2)) 3 0 2) < ((up3 I 3 0 3 (I 3 0 2)) 3 0 1)) → Q (up3 (up3 I 3 0 3 (I 3 0 2)) 3 0 4 0) J)
set_option maxRecDepth 20000 in
theorem t_X3_next_38 {p : Program} {l : Launch} {e : Env} {R : Room} {s : State} {m : MethodId} {args : Array Value} {below : List Frame} {meth : Method} {c : Code} {g : Geo} (C : Cx g p s m args meth c cX3_next 1 RX3 none) (hR : 2 ≤ R.frames ∧ 42 ≤ R.locals) {Q : MI → MJ → Prop} {I : MI} {J : MJ} (h : J_X3_next_38 Q I J) (ls : Array Slot) (hl : lv_has ls 1 [(0, .ref (gad g 3 0))]) : Wf p l e R s m args below meth c (MQ below (Qg g (PV Q)) args s 0 0 (gA g)) g I J (F0 m 38 ls []) := by
  refine f_aload_n C dX3_next_38 rfl (lv_at hl 0 rfl) ?_
  refine f_aload_n C dX3_next_39 rfl (lv_at hl 0 rfl) ?_
  refine ge_RX3_24 C (by decide) dX3_next_40 ?_
  refine pu_RX3_43 C (by decide) dX3_next_43 ?_
  refine f_aload_n C dX3_next_46 rfl (lv_at hl 0 rfl) ?_
  refine ge_RX3_24 C (by decide) dX3_next_47 ?_
  refine f_aload_n C dX3_next_50 rfl (lv_at hl 0 rfl) ?_
  refine ge_RX3_15 C (by decide) dX3_next_51 ?_
  refine f_icmp_lt (tgt := 65) C dX3_next_54 (by decide) (fun c2 => ?_) (fun c2 => ?_)
  · replace h := h.1 c2
    refine f_aload_n C dX3_next_65 rfl (lv_at hl 0 rfl) ?_
    refine ge_RX3_11 C (by decide) dX3_next_66 ?_
    refine f_aload_n C dX3_next_69 rfl (lv_at hl 0 rfl) ?_
    refine ge_RX3_24 C (by decide) dX3_next_70 ?_
    obtain ⟨hi3, h⟩ := h
    refine al_k (n := 200) (k := ((up3 I 3 0 3 (I 3 0 2)) 3 0 2).toNatClampNeg) C (by decide) rfl rfl hi3 dX3_next_73 ?_
    refine f_cSi (As := [.int ((up3 I 3 0 3 (I 3 0 2)) 14 0 (((up3 I 3 0 3 (I 3 0 2)) 3 0 2).toNatClampNeg))]) (rest := []) (n := 1) C (c_X3_isLetter h) ok_X3_isLetter sm_X3_isLetter kw_RX3_65 ⟨Nat.le_trans (by decide) hR.1, Nat.le_trans (by decide) hR.2⟩ rfl hl.1 (Nat.le_of_ble_eq_true rfl) dX3_next_74 (fun r4 I4 J4 h => ?_)
    refine f_if_eq (tgt := 91) C dX3_next_77 (by decide) (fun c5 => ?_) (fun c5 => ?_)
    · replace h := h.1 c5
      refine f_aload_n C dX3_next_91 rfl (lv_at hl 0 rfl) ?_
      refine ge_RX3_11 C (by decide) dX3_next_92 ?_
      refine f_aload_n C dX3_next_95 rfl (lv_at hl 0 rfl) ?_
      refine ge_RX3_24 C (by decide) dX3_next_96 ?_
      obtain ⟨hi6, h⟩ := h
      refine al_k (n := 200) (k := (I4 3 0 2).toNatClampNeg) C (by decide) rfl rfl hi6 dX3_next_99 ?_
      refine f_cSi (As := [.int (I4 14 0 ((I4 3 0 2).toNatClampNeg))]) (rest := []) (n := 1) C (c_X3_isDigit h) ok_X3_isDigit sm_X3_isDigit kw_RX3_72 ⟨Nat.le_trans (by decide) hR.1, Nat.le_trans (by decide) hR.2⟩ rfl hl.1 (Nat.le_of_ble_eq_true rfl) dX3_next_100 (fun r7 I7 J7 h => ?_)
      refine f_if_eq (tgt := 117) C dX3_next_103 (by decide) (fun c8 => ?_) (fun c8 => ?_)
      · replace h := h.1 c8
        refine f_aload_n C dX3_next_117 rfl (lv_at hl 0 rfl) ?_
        refine f_aload_n C dX3_next_118 rfl (lv_at hl 0 rfl) ?_
        refine ge_RX3_11 C (by decide) dX3_next_119 ?_
        refine f_aload_n C dX3_next_122 rfl (lv_at hl 0 rfl) ?_
        refine ge_RX3_24 C (by decide) dX3_next_123 ?_
        obtain ⟨hi9, h⟩ := h
        refine al_k (n := 200) (k := (I7 3 0 2).toNatClampNeg) C (by decide) rfl rfl hi9 dX3_next_126 ?_
        refine f_bipush (v := 47) C dX3_next_127 (by decide) ?_
        refine f_icmp_ne (tgt := 136) C dX3_next_129 (by decide) (fun c10 => ?_) (fun c10 => ?_)
        · replace h := h.2 c10
          refine f_aload_n C dX3_next_136 rfl (lv_at hl 0 rfl) ?_
          refine ge_RX3_11 C (by decide) dX3_next_137 ?_
          refine f_aload_n C dX3_next_140 rfl (lv_at hl 0 rfl) ?_
          refine ge_RX3_24 C (by decide) dX3_next_141 ?_
          obtain ⟨hi11, h⟩ := h
          refine al_k (n := 200) (k := (I7 3 0 2).toNatClampNeg) C (by decide) rfl rfl hi11 dX3_next_144 ?_
          refine f_bipush (v := 59) C dX3_next_145 (by decide) ?_
          refine f_icmp_ne (tgt := 154) C dX3_next_147 (by decide) (fun c12 => ?_) (fun c12 => ?_)
          · replace h := h.2 c12
            refine f_iconst (v := 1) C dX3_next_154 (by decide) ?_
            exact t_X3_next_155 C hR h ls (lv_sub hl [0] rfl)
          · replace h := h.1 c12
            refine f_iconst (v := 4) C dX3_next_150 (by decide) ?_
            refine f_goto (tgt := 155) C dX3_next_151 (by decide) ?_
            exact t_X3_next_155 C hR h ls (lv_sub hl [0] rfl)
        · replace h := h.1 c10
          refine f_iconst (v := 3) C dX3_next_132 (by decide) ?_
          refine f_goto (tgt := 155) C dX3_next_133 (by decide) ?_
          exact t_X3_next_155 C hR h ls (lv_sub hl [0] rfl)
      · replace h := h.2 c8
        refine f_aload_n C dX3_next_106 rfl (lv_at hl 0 rfl) ?_
        refine f_aload_n C dX3_next_107 rfl (lv_at hl 0 rfl) ?_
        refine f_cVi (As := []) (rest := [.ref (gad g 3 0)]) (n := 0) (T0 := TX3) (N := 7) C (c_X3_numberToken h) ok_X3_numberToken im_X3_numberToken se_X3_numberToken kw_RX3_75 ⟨Nat.le_trans (by decide) hR.1, Nat.le_trans (by decide) hR.2⟩ (by decide) rfl rfl rfl hl.1 (Nat.le_of_ble_eq_true rfl) dX3_next_108 (fun r13 I13 J13 h => ?_)
        refine pu_RX3_33 C (by decide) dX3_next_111 ?_
        refine f_goto (tgt := 168) C dX3_next_114 (by decide) ?_
        exact f_vret C h dX3_next_168
    · replace h := h.2 c5
      refine f_aload_n C dX3_next_80 rfl (lv_at hl 0 rfl) ?_
      refine f_aload_n C dX3_next_81 rfl (lv_at hl 0 rfl) ?_
      refine f_cVi (As := []) (rest := [.ref (gad g 3 0)]) (n := 0) (T0 := TX3) (N := 7) C (c_X3_wordToken h) ok_X3_wordToken im_X3_wordToken se_X3_wordToken kw_RX3_68 ⟨Nat.le_trans (by decide) hR.1, Nat.le_trans (by decide) hR.2⟩ (by decide) rfl rfl rfl hl.1 (Nat.le_of_ble_eq_true rfl) dX3_next_82 (fun r14 I14 J14 h => ?_)
      refine pu_RX3_33 C (by decide) dX3_next_85 ?_
      refine f_goto (tgt := 168) C dX3_next_88 (by decide) ?_
      exact f_vret C h dX3_next_168
  · replace h := h.2 c2
    refine f_aload_n C dX3_next_57 rfl (lv_at hl 0 rfl) ?_
    refine f_iconst (v := 0) C dX3_next_58 (by decide) ?_
    refine pu_RX3_33 C (by decide) dX3_next_59 ?_
    refine f_goto (tgt := 168) C dX3_next_62 (by decide) ?_
    exact f_vret C h dX3_next_168

def B_X3_next_0 (Q : MI → MJ → Prop) (C0 : MI → MJ → Prop) (I : MI) (J : MJ) : Prop :=
  ((I 3 0 1) ≤ (I 3 0 2) → J_X3_next_38 Q I J) ∧
  (¬ ((I 3 0 1) ≤ (I 3 0 2)) → vp_in (I 3 0 2) 200 ∧ (((I 14 0 ((I 3 0 2).toNatClampNeg)) = 32 → C0 (up3 I 3 0 2 ((I 3 0 2) + 1)) J) ∧
  (¬ ((I 14 0 ((I 3 0 2).toNatClampNeg)) = 32) → J_X3_next_38 Q I J)))
set_option maxRecDepth 20000 in
theorem b_X3_next_0 {p : Program} {l : Launch} {e : Env} {R : Room} {s : State} {m : MethodId} {args : Array Value} {below : List Frame} {meth : Method} {c : Code} {g : Geo} (C : Cx g p s m args meth c cX3_next 1 RX3 none) (hR : 2 ≤ R.frames ∧ 42 ≤ R.locals) {Q : MI → MJ → Prop} {C0 : MI → MJ → Prop} (hC0 : ∀ (I : MI) (J : MJ), C0 I J → ∀ ls : Array Slot, lv_has ls 1 [(0, .ref (gad g 3 0))] → Wf p l e R s m args below meth c (MQ below (Qg g (PV Q)) args s 0 0 (gA g)) g I J (F0 m 0 ls [])) {I : MI} {J : MJ} (h : B_X3_next_0 Q C0 I J) (ls : Array Slot) (hl : lv_has ls 1 [(0, .ref (gad g 3 0))]) : Wf p l e R s m args below meth c (MQ below (Qg g (PV Q)) args s 0 0 (gA g)) g I J (F0 m 0 ls []) := by
  refine f_aload_n C dX3_next_0 rfl (lv_at hl 0 rfl) ?_
  refine ge_RX3_24 C (by decide) dX3_next_1 ?_
  refine f_aload_n C dX3_next_4 rfl (lv_at hl 0 rfl) ?_
  refine ge_RX3_15 C (by decide) dX3_next_5 ?_
  refine f_icmp_ge (tgt := 38) C dX3_next_8 (by decide) (fun c1 => ?_) (fun c1 => ?_)
  · replace h := h.1 c1
    exact t_X3_next_38 C hR h ls (lv_sub hl [0] rfl)
  · replace h := h.2 c1
    refine f_aload_n C dX3_next_11 rfl (lv_at hl 0 rfl) ?_
    refine ge_RX3_11 C (by decide) dX3_next_12 ?_
    refine f_aload_n C dX3_next_15 rfl (lv_at hl 0 rfl) ?_
    refine ge_RX3_24 C (by decide) dX3_next_16 ?_
    obtain ⟨hi15, h⟩ := h
    refine al_k (n := 200) (k := (I 3 0 2).toNatClampNeg) C (by decide) rfl rfl hi15 dX3_next_19 ?_
    refine f_bipush (v := 32) C dX3_next_20 (by decide) ?_
    refine f_icmp_ne (tgt := 38) C dX3_next_22 (by decide) (fun c16 => ?_) (fun c16 => ?_)
    · replace h := h.2 c16
      exact t_X3_next_38 C hR h ls (lv_sub hl [0] rfl)
    · replace h := h.1 c16
      refine f_aload_n C dX3_next_25 rfl (lv_at hl 0 rfl) ?_
      refine f_dup C dX3_next_26 rfl ?_
      refine ge_RX3_24 C (by decide) dX3_next_27 ?_
      refine f_iconst (v := 1) C dX3_next_30 (by decide) ?_
      refine f_iadd C dX3_next_31 ?_
      refine pu_RX3_24 C (by decide) dX3_next_32 ?_
      refine f_goto (tgt := 0) C dX3_next_35 (by decide) ?_
      exact hC0 _ _ h ls (lv_sub hl [0] rfl)

def L_X3_next_0 (Q : MI → MJ → Prop) : Nat → MI → MJ → Prop
  | 0 => fun _ _ => False
  | n + 1 => fun I J => B_X3_next_0 Q (L_X3_next_0 Q n) I J
theorem t_X3_next_0 {p : Program} {l : Launch} {e : Env} {R : Room} {s : State} {m : MethodId} {args : Array Value} {below : List Frame} {meth : Method} {c : Code} {g : Geo} (C : Cx g p s m args meth c cX3_next 1 RX3 none) (hR : 2 ≤ R.frames ∧ 42 ≤ R.locals) {Q : MI → MJ → Prop} : ∀ (n : Nat), ∀ (I : MI) (J : MJ), L_X3_next_0 Q n I J → ∀ ls : Array Slot, lv_has ls 1 [(0, .ref (gad g 3 0))] → Wf p l e R s m args below meth c (MQ below (Qg g (PV Q)) args s 0 0 (gA g)) g I J (F0 m 0 ls []) := by
  intro n
  induction n with
  | zero => intro I J h; exact h.elim
  | succ n ih => intro I J h ls hl; exact b_X3_next_0 C hR ih h ls hl
def wp_X3_next (Q : MI → MJ → Prop) (I : MI) (J : MJ) : Prop :=
  ∃ n : Nat, L_X3_next_0 Q n I J
set_option maxRecDepth 20000 in
theorem c_X3_next {l : Launch} {g : Geo} {Q : MI → MJ → Prop} {I : MI} {J : MJ} (h : wp_X3_next Q I J) : Ct g l yX3_next cX3_next 1 none 2 42 [.ref (gad g 3 0)] I J (PV Q) := by
  refine Ct.of (by decide) ?_
  intro p e s m below meth c C
  have hR : 2 ≤ (Rm 2 42).frames ∧ 42 ≤ (Rm 2 42).locals := ⟨Nat.le_refl _, Nat.le_refl _⟩
  generalize Rm 2 42 = R at hR ⊢
  have hl := lv_entry ([.ref (gad g 3 0)]) (n := 1) (Nat.le_of_ble_eq_true rfl)
  rw [lg_entry_eq]
  generalize (lg_sl ([.ref (gad g 3 0)]) ++ List.replicate (1 - (lg_sl ([.ref (gad g 3 0)])).length) Slot.unset).toArray = ls at hl ⊢
  have hl : lv_has ls 1 [(0, .ref (gad g 3 0))] := hl
  obtain ⟨n, h⟩ := h
  exact t_X3_next_0 C hR n _ _ h ls (lv_sub hl [0] rfl)

def wp_X7_isOf (Q : Int32 → MI → MJ → Prop) (I : MI) (J : MJ) (x0 : Int32) (x1 : Int32) : Prop :=
  (((x0 >>> (x1 &&& 31)) &&& 1) = 0 → Q 0 I J) ∧
  (¬ (((x0 >>> (x1 &&& 31)) &&& 1) = 0) → Q 1 I J)
set_option maxRecDepth 20000 in
theorem c_X7_isOf {l : Launch} {g : Geo} {Q : Int32 → MI → MJ → Prop} {I : MI} {J : MJ} {x0 : Int32} {x1 : Int32} (h : wp_X7_isOf Q I J x0 x1) : Ct g l yX7_isOf cX7_isOf 2 (some .boolean) 0 0 [.int x0, .int x1] I J (PI Q) := by
  refine Ct.of (by decide) ?_
  intro p e s m below meth c C
  have hR : 0 ≤ (Rm 0 0).frames ∧ 0 ≤ (Rm 0 0).locals := ⟨Nat.le_refl _, Nat.le_refl _⟩
  generalize Rm 0 0 = R at hR ⊢
  have hl := lv_entry ([.int x0, .int x1]) (n := 2) (Nat.le_of_ble_eq_true rfl)
  rw [lg_entry_eq]
  generalize (lg_sl ([.int x0, .int x1]) ++ List.replicate (2 - (lg_sl ([.int x0, .int x1])).length) Slot.unset).toArray = ls at hl ⊢
  have hl : lv_has ls 2 [(0, .int x0), (1, .int x1)] := hl
  refine f_iload_n C dX7_isOf_0 rfl (lv_at hl 0 rfl) ?_
  refine f_iload_n C dX7_isOf_1 rfl (lv_at hl 1 rfl) ?_
  refine f_ishr C dX7_isOf_2 ?_
  refine f_iconst (v := 1) C dX7_isOf_3 (by decide) ?_
  refine f_iand C dX7_isOf_4 ?_
  refine f_if_eq (tgt := 12) C dX7_isOf_5 (by decide) (fun c1 => ?_) (fun c1 => ?_)
  · replace h := h.1 c1
    refine f_iconst (v := 0) C dX7_isOf_12 (by decide) ?_
    exact f_zret C (Or.inl rfl) h dX7_isOf_13
  · replace h := h.2 c1
    refine f_iconst (v := 1) C dX7_isOf_8 (by decide) ?_
    refine f_goto (tgt := 13) C dX7_isOf_9 (by decide) ?_
    exact f_zret C (Or.inr rfl) h dX7_isOf_13

def wp_X7_within (Q : Int32 → MI → MJ → Prop) (I : MI) (J : MJ) (x0 : Int32) (x1 : Int32) (x2 : Int32) : Prop :=
  (x0 < x1 → Q 0 I J) ∧
  (¬ (x0 < x1) → (x2 < x0 → Q 0 I J) ∧
  (¬ (x2 < x0) → Q 1 I J))
set_option maxRecDepth 20000 in
theorem c_X7_within {l : Launch} {g : Geo} {Q : Int32 → MI → MJ → Prop} {I : MI} {J : MJ} {x0 : Int32} {x1 : Int32} {x2 : Int32} (h : wp_X7_within Q I J x0 x1 x2) : Ct g l yX7_within cX7_within 3 (some .boolean) 0 0 [.int x0, .int x1, .int x2] I J (PI Q) := by
  refine Ct.of (by decide) ?_
  intro p e s m below meth c C
  have hR : 0 ≤ (Rm 0 0).frames ∧ 0 ≤ (Rm 0 0).locals := ⟨Nat.le_refl _, Nat.le_refl _⟩
  generalize Rm 0 0 = R at hR ⊢
  have hl := lv_entry ([.int x0, .int x1, .int x2]) (n := 3) (Nat.le_of_ble_eq_true rfl)
  rw [lg_entry_eq]
  generalize (lg_sl ([.int x0, .int x1, .int x2]) ++ List.replicate (3 - (lg_sl ([.int x0, .int x1, .int x2])).length) Slot.unset).toArray = ls at hl ⊢
  have hl : lv_has ls 3 [(0, .int x0), (1, .int x1), (2, .int x2)] := hl
  refine f_iload_n C dX7_within_0 rfl (lv_at hl 0 rfl) ?_
  refine f_iload_n C dX7_within_1 rfl (lv_at hl 1 rfl) ?_
  refine f_icmp_lt (tgt := 14) C dX7_within_2 (by decide) (fun c1 => ?_) (fun c1 => ?_)
  · replace h := h.1 c1
    refine f_iconst (v := 0) C dX7_within_14 (by decide) ?_
    exact f_zret C (Or.inl rfl) h dX7_within_15
  · replace h := h.2 c1
    refine f_iload_n C dX7_within_5 rfl (lv_at hl 0 rfl) ?_
    refine f_iload_n C dX7_within_6 rfl (lv_at hl 2 rfl) ?_
    refine f_icmp_gt (tgt := 14) C dX7_within_7 (by decide) (fun c2 => ?_) (fun c2 => ?_)
    · replace h := h.1 c2
      refine f_iconst (v := 0) C dX7_within_14 (by decide) ?_
      exact f_zret C (Or.inl rfl) h dX7_within_15
    · replace h := h.2 c2
      refine f_iconst (v := 1) C dX7_within_10 (by decide) ?_
      refine f_goto (tgt := 15) C dX7_within_11 (by decide) ?_
      exact f_zret C (Or.inr rfl) h dX7_within_15

def wp_X3_numeral (Q : Int32 → MI → MJ → Prop) (I : MI) (J : MJ) (n1 : Nat) (x2 : Int32) (x3 : Int32) (x4 : Int32) : Prop :=
  ((I 3 0 4) = 2 → wp_X7_within (fun r2 I2 J2 => (r2 = 0 → Q 0 I2 J2) ∧
  (¬ (r2 = 0) → vp_in x2 6 ∧ (wp_X3_next (fun I5 J5 => Q 1 I5 J5) (up3 I2 13 n1 (x2.toNatClampNeg) (I2 3 0 5)) J2))) I J (I 3 0 5) x3 x4) ∧
  (¬ ((I 3 0 4) = 2) → Q 0 I J)
set_option maxRecDepth 20000 in
theorem c_X3_numeral {l : Launch} {g : Geo} {Q : Int32 → MI → MJ → Prop} {I : MI} {J : MJ} {n1 : Nat} {x2 : Int32} {x3 : Int32} {x4 : Int32} (hn1 : n1 < 2) (h : wp_X3_numeral Q I J n1 x2 x3 x4) : Ct g l yX3_numeral cX3_numeral 5 (some .boolean) 3 62 [.ref (gad g 3 0), .ref (gad g 13 n1), .int x2, .int x3, .int x4] I J (PI Q) := by
  refine Ct.of (by decide) ?_
  intro p e s m below meth c C
  have hR : 3 ≤ (Rm 3 62).frames ∧ 62 ≤ (Rm 3 62).locals := ⟨Nat.le_refl _, Nat.le_refl _⟩
  generalize Rm 3 62 = R at hR ⊢
  have hl := lv_entry ([.ref (gad g 3 0), .ref (gad g 13 n1), .int x2, .int x3, .int x4]) (n := 5) (Nat.le_of_ble_eq_true rfl)
  rw [lg_entry_eq]
  generalize (lg_sl ([.ref (gad g 3 0), .ref (gad g 13 n1), .int x2, .int x3, .int x4]) ++ List.replicate (5 - (lg_sl ([.ref (gad g 3 0), .ref (gad g 13 n1), .int x2, .int x3, .int x4])).length) Slot.unset).toArray = ls at hl ⊢
  have hl : lv_has ls 5 [(0, .ref (gad g 3 0)), (1, .ref (gad g 13 n1)), (2, .int x2), (3, .int x3), (4, .int x4)] := hl
  refine f_aload_n C dX3_numeral_0 rfl (lv_at hl 0 rfl) ?_
  refine ge_RX3_33 C (by decide) dX3_numeral_1 ?_
  refine f_iconst (v := 2) C dX3_numeral_4 (by decide) ?_
  refine f_icmp_ne (tgt := 21) C dX3_numeral_5 (by decide) (fun c1 => ?_) (fun c1 => ?_)
  · replace h := h.2 c1
    refine f_iconst (v := 0) C dX3_numeral_21 (by decide) ?_
    exact f_zret C (Or.inl rfl) h dX3_numeral_22
  · replace h := h.1 c1
    refine f_aload_n C dX3_numeral_8 rfl (lv_at hl 0 rfl) ?_
    refine ge_RX3_58 C (by decide) dX3_numeral_9 ?_
    refine f_iload_n C dX3_numeral_12 rfl (lv_at hl 3 rfl) ?_
    refine f_iload C dX3_numeral_13 (lv_at hl 4 rfl) ?_
    refine f_cNi (As := [.int (I 3 0 5), .int x3, .int x4]) (rest := []) (n := 3) C (c_X7_within h) ok_X7_within sm_X7_within kn_RX3_61 ⟨Nat.le_trans (by decide) hR.1, Nat.le_trans (by decide) hR.2⟩ rfl hl.1 (Nat.le_of_ble_eq_true rfl) dX3_numeral_15 (fun r2 I2 J2 h => ?_)
    refine f_if_ne (tgt := 23) C dX3_numeral_18 (by decide) (fun c3 => ?_) (fun c3 => ?_)
    · replace h := h.2 c3
      refine f_aload_n C dX3_numeral_23 rfl (lv_at hl 1 rfl) ?_
      refine f_iload_n C dX3_numeral_24 rfl (lv_at hl 2 rfl) ?_
      refine f_aload_n C dX3_numeral_25 rfl (lv_at hl 0 rfl) ?_
      refine ge_RX3_58 C (by decide) dX3_numeral_26 ?_
      obtain ⟨hi4, h⟩ := h
      refine as_k (n := 6) (k := x2.toNatClampNeg) C hn1 (fun _ => rfl) rfl hi4 dX3_numeral_29 ?_
      refine f_aload_n C dX3_numeral_30 rfl (lv_at hl 0 rfl) ?_
      refine f_cVv (As := []) (rest := []) (n := 0) (T0 := TX3) (N := 7) C (c_X3_next h) ok_X3_next im_X3_next se_X3_next kw_RX3_30 ⟨Nat.le_trans (by decide) hR.1, Nat.le_trans (by decide) hR.2⟩ (by decide) rfl rfl rfl hl.1 (Nat.le_of_ble_eq_true rfl) dX3_numeral_31 (fun I5 J5 h => ?_)
      refine f_iconst (v := 1) C dX3_numeral_34 (by decide) ?_
      exact f_zret C (Or.inr rfl) h dX3_numeral_35
    · replace h := h.1 c3
      refine f_iconst (v := 0) C dX3_numeral_21 (by decide) ?_
      exact f_zret C (Or.inl rfl) h dX3_numeral_22

def wp_X3_sign (Q : Int32 → MI → MJ → Prop) (I : MI) (J : MJ) (x1 : Int32) : Prop :=
  ((I 3 0 4) = x1 → wp_X3_next (fun I2 J2 => Q 1 I2 J2) I J) ∧
  (¬ ((I 3 0 4) = x1) → Q 0 I J)
set_option maxRecDepth 20000 in
theorem c_X3_sign {l : Launch} {g : Geo} {Q : Int32 → MI → MJ → Prop} {I : MI} {J : MJ} {x1 : Int32} (h : wp_X3_sign Q I J x1) : Ct g l yX3_sign cX3_sign 2 (some .boolean) 3 62 [.ref (gad g 3 0), .int x1] I J (PI Q) := by
  refine Ct.of (by decide) ?_
  intro p e s m below meth c C
  have hR : 3 ≤ (Rm 3 62).frames ∧ 62 ≤ (Rm 3 62).locals := ⟨Nat.le_refl _, Nat.le_refl _⟩
  generalize Rm 3 62 = R at hR ⊢
  have hl := lv_entry ([.ref (gad g 3 0), .int x1]) (n := 2) (Nat.le_of_ble_eq_true rfl)
  rw [lg_entry_eq]
  generalize (lg_sl ([.ref (gad g 3 0), .int x1]) ++ List.replicate (2 - (lg_sl ([.ref (gad g 3 0), .int x1])).length) Slot.unset).toArray = ls at hl ⊢
  have hl : lv_has ls 2 [(0, .ref (gad g 3 0)), (1, .int x1)] := hl
  refine f_aload_n C dX3_sign_0 rfl (lv_at hl 0 rfl) ?_
  refine ge_RX3_33 C (by decide) dX3_sign_1 ?_
  refine f_iload_n C dX3_sign_4 rfl (lv_at hl 1 rfl) ?_
  refine f_icmp_eq (tgt := 10) C dX3_sign_5 (by decide) (fun c1 => ?_) (fun c1 => ?_)
  · replace h := h.1 c1
    refine f_aload_n C dX3_sign_10 rfl (lv_at hl 0 rfl) ?_
    refine f_cVv (As := []) (rest := []) (n := 0) (T0 := TX3) (N := 7) C (c_X3_next h) ok_X3_next im_X3_next se_X3_next kw_RX3_30 ⟨Nat.le_trans (by decide) hR.1, Nat.le_trans (by decide) hR.2⟩ (by decide) rfl rfl rfl hl.1 (Nat.le_of_ble_eq_true rfl) dX3_sign_11 (fun I2 J2 h => ?_)
    refine f_iconst (v := 1) C dX3_sign_14 (by decide) ?_
    exact f_zret C (Or.inr rfl) h dX3_sign_15
  · replace h := h.2 c1
    refine f_iconst (v := 0) C dX3_sign_8 (by decide) ?_
    exact f_zret C (Or.inl rfl) h dX3_sign_9

def J_X3_item_188 (Q : Int32 → MI → MJ → Prop) (I : MI) (J : MJ) (x3 : Int32) : Prop :=
  (x3 = 0 → Q 0 I J) ∧
  (¬ (x3 = 0) → wp_X3_sign (fun r10 I10 J10 => (r10 = 0 → Q 0 I10 J10) ∧
  (¬ (r10 = 0) → Q 1 I10 J10)) I J 4)
set_option maxRecDepth 20000 in
theorem t_X3_item_188 {p : Program} {l : Launch} {e : Env} {R : Room} {s : State} {m : MethodId} {args : Array Value} {below : List Frame} {meth : Method} {c : Code} {g : Geo} (C : Cx g p s m args meth c cX3_item 4 RX3 (some .boolean)) (hR : 4 ≤ R.frames ∧ 86 ≤ R.locals) {Q : Int32 → MI → MJ → Prop} {I : MI} {J : MJ} {x3 : Int32} (h : J_X3_item_188 Q I J x3) (ls : Array Slot) (hl : lv_has ls 4 [(0, .ref (gad g 3 0)), (3, .int x3)]) : Wf p l e R s m args below meth c (MQ below (Qg g (PI Q)) args s 0 0 (gA g)) g I J (F0 m 188 ls []) := by
  refine f_iload_n C dX3_item_188 rfl (lv_at hl 1 rfl) ?_
  refine f_if_eq (tgt := 204) C dX3_item_189 (by decide) (fun c9 => ?_) (fun c9 => ?_)
  · replace h := h.1 c9
    refine f_iconst (v := 0) C dX3_item_204 (by decide) ?_
    exact f_zret C (Or.inl rfl) h dX3_item_205
  · replace h := h.2 c9
    refine f_aload_n C dX3_item_192 rfl (lv_at hl 0 rfl) ?_
    refine f_iconst (v := 4) C dX3_item_193 (by decide) ?_
    refine f_cVi (As := [.int 4]) (rest := []) (n := 1) (T0 := TX3) (N := 7) C (c_X3_sign h) ok_X3_sign im_X3_sign se_X3_sign kw_RX3_54 ⟨Nat.le_trans (by decide) hR.1, Nat.le_trans (by decide) hR.2⟩ (by decide) rfl rfl rfl hl.1 (Nat.le_of_ble_eq_true rfl) dX3_item_194 (fun r10 I10 J10 h => ?_)
    refine f_if_eq (tgt := 204) C dX3_item_197 (by decide) (fun c11 => ?_) (fun c11 => ?_)
    · replace h := h.1 c11
      refine f_iconst (v := 0) C dX3_item_204 (by decide) ?_
      exact f_zret C (Or.inl rfl) h dX3_item_205
    · replace h := h.2 c11
      refine f_iconst (v := 1) C dX3_item_200 (by decide) ?_
      refine f_goto (tgt := 205) C dX3_item_201 (by decide) ?_
      exact f_zret C (Or.inr rfl) h dX3_item_205

def J_X3_item_116 (Q : Int32 → MI → MJ → Prop) (I : MI) (J : MJ) (s0 : Int32) : Prop :=
  J_X3_item_188 Q I J s0
set_option maxRecDepth 20000 in
theorem t_X3_item_116 {p : Program} {l : Launch} {e : Env} {R : Room} {s : State} {m : MethodId} {args : Array Value} {below : List Frame} {meth : Method} {c : Code} {g : Geo} (C : Cx g p s m args meth c cX3_item 4 RX3 (some .boolean)) (hR : 4 ≤ R.frames ∧ 86 ≤ R.locals) {Q : Int32 → MI → MJ → Prop} {I : MI} {J : MJ} {s0 : Int32} (h : J_X3_item_116 Q I J s0) (ls : Array Slot) (hl : lv_has ls 4 [(0, .ref (gad g 3 0))]) : Wf p l e R s m args below meth c (MQ below (Qg g (PI Q)) args s 0 0 (gA g)) g I J (F0 m 116 ls [.int s0]) := by
  refine f_istore_n (lv' := [(3, .int s0), (0, .ref (gad g 3 0))]) C dX3_item_116 rfl hl (by decide) rfl (fun ls hl => ?_)
  refine f_goto (tgt := 188) C dX3_item_117 (by decide) ?_
  exact t_X3_item_188 C hR h ls (lv_sub hl [1, 0] rfl)

def J_X3_item_115 (Q : Int32 → MI → MJ → Prop) (I : MI) (J : MJ) : Prop :=
  J_X3_item_116 Q I J 0
set_option maxRecDepth 20000 in
theorem t_X3_item_115 {p : Program} {l : Launch} {e : Env} {R : Room} {s : State} {m : MethodId} {args : Array Value} {below : List Frame} {meth : Method} {c : Code} {g : Geo} (C : Cx g p s m args meth c cX3_item 4 RX3 (some .boolean)) (hR : 4 ≤ R.frames ∧ 86 ≤ R.locals) {Q : Int32 → MI → MJ → Prop} {I : MI} {J : MJ} (h : J_X3_item_115 Q I J) (ls : Array Slot) (hl : lv_has ls 4 [(0, .ref (gad g 3 0))]) : Wf p l e R s m args below meth c (MQ below (Qg g (PI Q)) args s 0 0 (gA g)) g I J (F0 m 115 ls []) := by
  refine f_iconst (v := 0) C dX3_item_115 (by decide) ?_
  exact t_X3_item_116 C hR h ls (lv_sub hl [0] rfl)

def J_X3_item_159 (Q : Int32 → MI → MJ → Prop) (I : MI) (J : MJ) (s0 : Int32) : Prop :=
  J_X3_item_188 Q I J s0
set_option maxRecDepth 20000 in
theorem t_X3_item_159 {p : Program} {l : Launch} {e : Env} {R : Room} {s : State} {m : MethodId} {args : Array Value} {below : List Frame} {meth : Method} {c : Code} {g : Geo} (C : Cx g p s m args meth c cX3_item 4 RX3 (some .boolean)) (hR : 4 ≤ R.frames ∧ 86 ≤ R.locals) {Q : Int32 → MI → MJ → Prop} {I : MI} {J : MJ} {s0 : Int32} (h : J_X3_item_159 Q I J s0) (ls : Array Slot) (hl : lv_has ls 4 [(0, .ref (gad g 3 0))]) : Wf p l e R s m args below meth c (MQ below (Qg g (PI Q)) args s 0 0 (gA g)) g I J (F0 m 159 ls [.int s0]) := by
  refine f_istore_n (lv' := [(3, .int s0), (0, .ref (gad g 3 0))]) C dX3_item_159 rfl hl (by decide) rfl (fun ls hl => ?_)
  refine f_goto (tgt := 188) C dX3_item_160 (by decide) ?_
  exact t_X3_item_188 C hR h ls (lv_sub hl [1, 0] rfl)

def J_X3_item_158 (Q : Int32 → MI → MJ → Prop) (I : MI) (J : MJ) : Prop :=
  J_X3_item_159 Q I J 0
set_option maxRecDepth 20000 in
theorem t_X3_item_158 {p : Program} {l : Launch} {e : Env} {R : Room} {s : State} {m : MethodId} {args : Array Value} {below : List Frame} {meth : Method} {c : Code} {g : Geo} (C : Cx g p s m args meth c cX3_item 4 RX3 (some .boolean)) (hR : 4 ≤ R.frames ∧ 86 ≤ R.locals) {Q : Int32 → MI → MJ → Prop} {I : MI} {J : MJ} (h : J_X3_item_158 Q I J) (ls : Array Slot) (hl : lv_has ls 4 [(0, .ref (gad g 3 0))]) : Wf p l e R s m args below meth c (MQ below (Qg g (PI Q)) args s 0 0 (gA g)) g I J (F0 m 158 ls []) := by
  refine f_iconst (v := 0) C dX3_item_158 (by decide) ?_
  exact t_X3_item_159 C hR h ls (lv_sub hl [0] rfl)

def wp_X3_item (Q : Int32 → MI → MJ → Prop) (I : MI) (J : MJ) (n1 : Nat) : Prop :=
  ((I 3 0 4) < 5 → Q 0 I J) ∧
  (¬ ((I 3 0 4) < 5) → ((I 3 0 4) = 6 → Q 0 I J) ∧
  (¬ ((I 3 0 4) = 6) → wp_X7_isOf (fun r3 I3 J3 => (r3 = 0 → wp_X3_next (fun I5 J5 => ((I 3 0 4) = 5 → wp_X3_numeral (fun r7 I7 J7 => (r7 = 0 → J_X3_item_115 Q I7 J7) ∧
  (¬ (r7 = 0) → wp_X3_sign (fun r12 I12 J12 => (r12 = 0 → J_X3_item_115 Q I12 J12) ∧
  (¬ (r12 = 0) → wp_X3_numeral (fun r14 I14 J14 => (r14 = 0 → J_X3_item_115 Q I14 J14) ∧
  (¬ (r14 = 0) → J_X3_item_116 Q I14 J14 1)) I12 J12 n1 1 (I12 13 n1 0) 12)) I7 J7 6)) I5 J5 n1 0 1 12) ∧
  (¬ ((I 3 0 4) = 5) → ((I 3 0 4) = 6 → wp_X3_numeral (fun r17 I17 J17 => J_X3_item_188 Q I17 J17 r17) I5 J5 n1 5 0 200) ∧
  (¬ ((I 3 0 4) = 6) → ((I 3 0 4) = 7 → wp_X3_numeral (fun r19 I19 J19 => (r19 = 0 → J_X3_item_158 Q I19 J19) ∧
  (¬ (r19 = 0) → wp_X3_sign (fun r21 I21 J21 => (r21 = 0 → J_X3_item_158 Q I21 J21) ∧
  (¬ (r21 = 0) → wp_X3_numeral (fun r23 I23 J23 => (r23 = 0 → J_X3_item_158 Q I23 J23) ∧
  (¬ (r23 = 0) → J_X3_item_159 Q I23 J23 1)) I21 J21 n1 3 (I21 13 n1 2) 20)) I19 J19 3)) I5 J5 n1 2 1 20) ∧
  (¬ ((I 3 0 4) = 7) → ((I 3 0 4) = 8 → wp_X3_numeral (fun r26 I26 J26 => J_X3_item_188 Q I26 J26 r26) I5 J5 n1 4 0 200) ∧
  (¬ ((I 3 0 4) = 8) → wp_X3_numeral (fun r27 I27 J27 => J_X3_item_188 Q I27 J27 r27) I5 J5 n1 5 0 200))))) (up3 I3 3 0 6 ((I3 3 0 6) ||| ((1 : Int32) <<< ((I 3 0 4) &&& 31)))) J3) ∧
  (¬ (r3 = 0) → Q 0 I3 J3)) I J (I 3 0 6) (I 3 0 4)))
set_option maxRecDepth 20000 in
theorem c_X3_item {l : Launch} {g : Geo} {Q : Int32 → MI → MJ → Prop} {I : MI} {J : MJ} {n1 : Nat} (hn1 : n1 < 2) (h : wp_X3_item Q I J n1) : Ct g l yX3_item cX3_item 4 (some .boolean) 4 86 [.ref (gad g 3 0), .ref (gad g 13 n1)] I J (PI Q) := by
  refine Ct.of (by decide) ?_
  intro p e s m below meth c C
  have hR : 4 ≤ (Rm 4 86).frames ∧ 86 ≤ (Rm 4 86).locals := ⟨Nat.le_refl _, Nat.le_refl _⟩
  generalize Rm 4 86 = R at hR ⊢
  have hl := lv_entry ([.ref (gad g 3 0), .ref (gad g 13 n1)]) (n := 4) (Nat.le_of_ble_eq_true rfl)
  rw [lg_entry_eq]
  generalize (lg_sl ([.ref (gad g 3 0), .ref (gad g 13 n1)]) ++ List.replicate (4 - (lg_sl ([.ref (gad g 3 0), .ref (gad g 13 n1)])).length) Slot.unset).toArray = ls at hl ⊢
  have hl : lv_has ls 4 [(0, .ref (gad g 3 0)), (1, .ref (gad g 13 n1))] := hl
  refine f_aload_n C dX3_item_0 rfl (lv_at hl 0 rfl) ?_
  refine ge_RX3_33 C (by decide) dX3_item_1 ?_
  refine f_istore_n (lv' := [(2, .int (I 3 0 4)), (0, .ref (gad g 3 0)), (1, .ref (gad g 13 n1))]) C dX3_item_4 rfl hl (by decide) rfl (fun ls hl => ?_)
  refine f_iload_n C dX3_item_5 rfl (lv_at hl 0 rfl) ?_
  refine f_iconst (v := 5) C dX3_item_6 (by decide) ?_
  refine f_icmp_lt (tgt := 27) C dX3_item_7 (by decide) (fun c1 => ?_) (fun c1 => ?_)
  · replace h := h.1 c1
    refine f_iconst (v := 0) C dX3_item_27 (by decide) ?_
    exact f_zret C (Or.inl rfl) h dX3_item_28
  · replace h := h.2 c1
    refine f_iload_n C dX3_item_10 rfl (lv_at hl 0 rfl) ?_
    refine f_bipush (v := 6) C dX3_item_11 (by decide) ?_
    refine f_icmp_eq (tgt := 27) C dX3_item_13 (by decide) (fun c2 => ?_) (fun c2 => ?_)
    · replace h := h.1 c2
      refine f_iconst (v := 0) C dX3_item_27 (by decide) ?_
      exact f_zret C (Or.inl rfl) h dX3_item_28
    · replace h := h.2 c2
      refine f_aload_n C dX3_item_16 rfl (lv_at hl 1 rfl) ?_
      refine ge_RX3_27 C (by decide) dX3_item_17 ?_
      refine f_iload_n C dX3_item_20 rfl (lv_at hl 0 rfl) ?_
      refine f_cNi (As := [.int (I 3 0 6), .int (I 3 0 4)]) (rest := []) (n := 2) C (c_X7_isOf h) ok_X7_isOf sm_X7_isOf kn_RX3_46 ⟨Nat.le_trans (by decide) hR.1, Nat.le_trans (by decide) hR.2⟩ rfl hl.1 (Nat.le_of_ble_eq_true rfl) dX3_item_21 (fun r3 I3 J3 h => ?_)
      refine f_if_eq (tgt := 29) C dX3_item_24 (by decide) (fun c4 => ?_) (fun c4 => ?_)
      · replace h := h.1 c4
        refine f_aload_n C dX3_item_29 rfl (lv_at hl 1 rfl) ?_
        refine f_dup C dX3_item_30 rfl ?_
        refine ge_RX3_27 C (by decide) dX3_item_31 ?_
        refine f_iconst (v := 1) C dX3_item_34 (by decide) ?_
        refine f_iload_n C dX3_item_35 rfl (lv_at hl 0 rfl) ?_
        refine f_ishl C dX3_item_36 ?_
        refine f_ior C dX3_item_37 ?_
        refine pu_RX3_27 C (by decide) dX3_item_38 ?_
        refine f_aload_n C dX3_item_41 rfl (lv_at hl 1 rfl) ?_
        refine f_cVv (As := []) (rest := []) (n := 0) (T0 := TX3) (N := 7) C (c_X3_next h) ok_X3_next im_X3_next se_X3_next kw_RX3_30 ⟨Nat.le_trans (by decide) hR.1, Nat.le_trans (by decide) hR.2⟩ (by decide) rfl rfl rfl hl.1 (Nat.le_of_ble_eq_true rfl) dX3_item_42 (fun I5 J5 h => ?_)
        refine f_iload_n C dX3_item_45 rfl (lv_at hl 0 rfl) ?_
        by_cases c6 : (I 3 0 4) = 5
        · replace h := h.1 c6
          refine f_tableIn (tgt := 76) (off := 30) C dX3_item_46 (by rw [c6]; decide) (by rw [c6]; decide) (by rw [c6]; decide) (by decide) ?_
          refine f_aload_n C dX3_item_76 rfl (lv_at hl 1 rfl) ?_
          refine f_aload_n C dX3_item_77 rfl (lv_at hl 2 rfl) ?_
          refine f_iconst (v := 0) C dX3_item_78 (by decide) ?_
          refine f_iconst (v := 1) C dX3_item_79 (by decide) ?_
          refine f_bipush (v := 12) C dX3_item_80 (by decide) ?_
          refine f_cVi (As := [.ref (gad g 13 n1), .int 0, .int 1, .int 12]) (rest := []) (n := 4) (T0 := TX3) (N := 7) C (c_X3_numeral hn1 h) ok_X3_numeral im_X3_numeral se_X3_numeral kw_RX3_50 ⟨Nat.le_trans (by decide) hR.1, Nat.le_trans (by decide) hR.2⟩ (by decide) rfl rfl rfl hl.1 (Nat.le_of_ble_eq_true rfl) dX3_item_82 (fun r7 I7 J7 h => ?_)
          refine f_if_eq (tgt := 115) C dX3_item_85 (by decide) (fun c8 => ?_) (fun c8 => ?_)
          · replace h := h.1 c8
            exact t_X3_item_115 C hR h ls (lv_sub hl [1] rfl)
          · replace h := h.2 c8
            refine f_aload_n C dX3_item_88 rfl (lv_at hl 1 rfl) ?_
            refine f_bipush (v := 6) C dX3_item_89 (by decide) ?_
            refine f_cVi (As := [.int 6]) (rest := []) (n := 1) (T0 := TX3) (N := 7) C (c_X3_sign h) ok_X3_sign im_X3_sign se_X3_sign kw_RX3_54 ⟨Nat.le_trans (by decide) hR.1, Nat.le_trans (by decide) hR.2⟩ (by decide) rfl rfl rfl hl.1 (Nat.le_of_ble_eq_true rfl) dX3_item_91 (fun r12 I12 J12 h => ?_)
            refine f_if_eq (tgt := 115) C dX3_item_94 (by decide) (fun c13 => ?_) (fun c13 => ?_)
            · replace h := h.1 c13
              exact t_X3_item_115 C hR h ls (lv_sub hl [1] rfl)
            · replace h := h.2 c13
              refine f_aload_n C dX3_item_97 rfl (lv_at hl 1 rfl) ?_
              refine f_aload_n C dX3_item_98 rfl (lv_at hl 2 rfl) ?_
              refine f_iconst (v := 1) C dX3_item_99 (by decide) ?_
              refine f_aload_n C dX3_item_100 rfl (lv_at hl 2 rfl) ?_
              refine f_iconst (v := 0) C dX3_item_101 (by decide) ?_
              refine al_k (n := 6) (k := 0) C hn1 rfl (by decide) (vin_k (by decide)) dX3_item_102 ?_
              refine f_bipush (v := 12) C dX3_item_103 (by decide) ?_
              refine f_cVi (As := [.ref (gad g 13 n1), .int 1, .int (I12 13 n1 0), .int 12]) (rest := []) (n := 4) (T0 := TX3) (N := 7) C (c_X3_numeral hn1 h) ok_X3_numeral im_X3_numeral se_X3_numeral kw_RX3_50 ⟨Nat.le_trans (by decide) hR.1, Nat.le_trans (by decide) hR.2⟩ (by decide) rfl rfl rfl hl.1 (Nat.le_of_ble_eq_true rfl) dX3_item_105 (fun r14 I14 J14 h => ?_)
              refine f_if_eq (tgt := 115) C dX3_item_108 (by decide) (fun c15 => ?_) (fun c15 => ?_)
              · replace h := h.1 c15
                exact t_X3_item_115 C hR h ls (lv_sub hl [1] rfl)
              · replace h := h.2 c15
                refine f_iconst (v := 1) C dX3_item_111 (by decide) ?_
                refine f_goto (tgt := 116) C dX3_item_112 (by decide) ?_
                exact t_X3_item_116 C hR h ls (lv_sub hl [1] rfl)
        replace h := h.2 c6
        by_cases c16 : (I 3 0 4) = 6
        · replace h := h.1 c16
          refine f_tableIn (tgt := 177) (off := 131) C dX3_item_46 (by rw [c16]; decide) (by rw [c16]; decide) (by rw [c16]; decide) (by decide) ?_
          refine f_aload_n C dX3_item_177 rfl (lv_at hl 1 rfl) ?_
          refine f_aload_n C dX3_item_178 rfl (lv_at hl 2 rfl) ?_
          refine f_iconst (v := 5) C dX3_item_179 (by decide) ?_
          refine f_iconst (v := 0) C dX3_item_180 (by decide) ?_
          refine f_sipush (v := 200) C dX3_item_181 (by decide) ?_
          refine f_cVi (As := [.ref (gad g 13 n1), .int 5, .int 0, .int 200]) (rest := []) (n := 4) (T0 := TX3) (N := 7) C (c_X3_numeral hn1 h) ok_X3_numeral im_X3_numeral se_X3_numeral kw_RX3_50 ⟨Nat.le_trans (by decide) hR.1, Nat.le_trans (by decide) hR.2⟩ (by decide) rfl rfl rfl hl.1 (Nat.le_of_ble_eq_true rfl) dX3_item_184 (fun r17 I17 J17 h => ?_)
          refine f_istore_n (lv' := [(3, .int r17), (2, .int (I 3 0 4)), (0, .ref (gad g 3 0)), (1, .ref (gad g 13 n1))]) C dX3_item_187 rfl hl (by decide) rfl (fun ls hl => ?_)
          exact t_X3_item_188 C hR h ls (lv_sub hl [2, 0] rfl)
        replace h := h.2 c16
        by_cases c18 : (I 3 0 4) = 7
        · replace h := h.1 c18
          refine f_tableIn (tgt := 120) (off := 74) C dX3_item_46 (by rw [c18]; decide) (by rw [c18]; decide) (by rw [c18]; decide) (by decide) ?_
          refine f_aload_n C dX3_item_120 rfl (lv_at hl 1 rfl) ?_
          refine f_aload_n C dX3_item_121 rfl (lv_at hl 2 rfl) ?_
          refine f_iconst (v := 2) C dX3_item_122 (by decide) ?_
          refine f_iconst (v := 1) C dX3_item_123 (by decide) ?_
          refine f_bipush (v := 20) C dX3_item_124 (by decide) ?_
          refine f_cVi (As := [.ref (gad g 13 n1), .int 2, .int 1, .int 20]) (rest := []) (n := 4) (T0 := TX3) (N := 7) C (c_X3_numeral hn1 h) ok_X3_numeral im_X3_numeral se_X3_numeral kw_RX3_50 ⟨Nat.le_trans (by decide) hR.1, Nat.le_trans (by decide) hR.2⟩ (by decide) rfl rfl rfl hl.1 (Nat.le_of_ble_eq_true rfl) dX3_item_126 (fun r19 I19 J19 h => ?_)
          refine f_if_eq (tgt := 158) C dX3_item_129 (by decide) (fun c20 => ?_) (fun c20 => ?_)
          · replace h := h.1 c20
            exact t_X3_item_158 C hR h ls (lv_sub hl [1] rfl)
          · replace h := h.2 c20
            refine f_aload_n C dX3_item_132 rfl (lv_at hl 1 rfl) ?_
            refine f_iconst (v := 3) C dX3_item_133 (by decide) ?_
            refine f_cVi (As := [.int 3]) (rest := []) (n := 1) (T0 := TX3) (N := 7) C (c_X3_sign h) ok_X3_sign im_X3_sign se_X3_sign kw_RX3_54 ⟨Nat.le_trans (by decide) hR.1, Nat.le_trans (by decide) hR.2⟩ (by decide) rfl rfl rfl hl.1 (Nat.le_of_ble_eq_true rfl) dX3_item_134 (fun r21 I21 J21 h => ?_)
            refine f_if_eq (tgt := 158) C dX3_item_137 (by decide) (fun c22 => ?_) (fun c22 => ?_)
            · replace h := h.1 c22
              exact t_X3_item_158 C hR h ls (lv_sub hl [1] rfl)
            · replace h := h.2 c22
              refine f_aload_n C dX3_item_140 rfl (lv_at hl 1 rfl) ?_
              refine f_aload_n C dX3_item_141 rfl (lv_at hl 2 rfl) ?_
              refine f_iconst (v := 3) C dX3_item_142 (by decide) ?_
              refine f_aload_n C dX3_item_143 rfl (lv_at hl 2 rfl) ?_
              refine f_iconst (v := 2) C dX3_item_144 (by decide) ?_
              refine al_k (n := 6) (k := 2) C hn1 rfl (by decide) (vin_k (by decide)) dX3_item_145 ?_
              refine f_bipush (v := 20) C dX3_item_146 (by decide) ?_
              refine f_cVi (As := [.ref (gad g 13 n1), .int 3, .int (I21 13 n1 2), .int 20]) (rest := []) (n := 4) (T0 := TX3) (N := 7) C (c_X3_numeral hn1 h) ok_X3_numeral im_X3_numeral se_X3_numeral kw_RX3_50 ⟨Nat.le_trans (by decide) hR.1, Nat.le_trans (by decide) hR.2⟩ (by decide) rfl rfl rfl hl.1 (Nat.le_of_ble_eq_true rfl) dX3_item_148 (fun r23 I23 J23 h => ?_)
              refine f_if_eq (tgt := 158) C dX3_item_151 (by decide) (fun c24 => ?_) (fun c24 => ?_)
              · replace h := h.1 c24
                exact t_X3_item_158 C hR h ls (lv_sub hl [1] rfl)
              · replace h := h.2 c24
                refine f_iconst (v := 1) C dX3_item_154 (by decide) ?_
                refine f_goto (tgt := 159) C dX3_item_155 (by decide) ?_
                exact t_X3_item_159 C hR h ls (lv_sub hl [1] rfl)
        replace h := h.2 c18
        by_cases c25 : (I 3 0 4) = 8
        · replace h := h.1 c25
          refine f_tableIn (tgt := 163) (off := 117) C dX3_item_46 (by rw [c25]; decide) (by rw [c25]; decide) (by rw [c25]; decide) (by decide) ?_
          refine f_aload_n C dX3_item_163 rfl (lv_at hl 1 rfl) ?_
          refine f_aload_n C dX3_item_164 rfl (lv_at hl 2 rfl) ?_
          refine f_iconst (v := 4) C dX3_item_165 (by decide) ?_
          refine f_iconst (v := 0) C dX3_item_166 (by decide) ?_
          refine f_sipush (v := 200) C dX3_item_167 (by decide) ?_
          refine f_cVi (As := [.ref (gad g 13 n1), .int 4, .int 0, .int 200]) (rest := []) (n := 4) (T0 := TX3) (N := 7) C (c_X3_numeral hn1 h) ok_X3_numeral im_X3_numeral se_X3_numeral kw_RX3_50 ⟨Nat.le_trans (by decide) hR.1, Nat.le_trans (by decide) hR.2⟩ (by decide) rfl rfl rfl hl.1 (Nat.le_of_ble_eq_true rfl) dX3_item_170 (fun r26 I26 J26 h => ?_)
          refine f_istore_n (lv' := [(3, .int r26), (2, .int (I 3 0 4)), (0, .ref (gad g 3 0)), (1, .ref (gad g 13 n1))]) C dX3_item_173 rfl hl (by decide) rfl (fun ls hl => ?_)
          refine f_goto (tgt := 188) C dX3_item_174 (by decide) ?_
          exact t_X3_item_188 C hR h ls (lv_sub hl [2, 0] rfl)
        replace h := h.2 c25
        refine f_tableOut (tgt := 177) C dX3_item_46 (by have e6 := ne_toInt (z := 5) c6 (by decide); have e16 := ne_toInt (z := 6) c16 (by decide); have e18 := ne_toInt (z := 7) c18 (by decide); have e25 := ne_toInt (z := 8) c25 (by decide); omega) (by decide) ?_
        refine f_aload_n C dX3_item_177 rfl (lv_at hl 1 rfl) ?_
        refine f_aload_n C dX3_item_178 rfl (lv_at hl 2 rfl) ?_
        refine f_iconst (v := 5) C dX3_item_179 (by decide) ?_
        refine f_iconst (v := 0) C dX3_item_180 (by decide) ?_
        refine f_sipush (v := 200) C dX3_item_181 (by decide) ?_
        refine f_cVi (As := [.ref (gad g 13 n1), .int 5, .int 0, .int 200]) (rest := []) (n := 4) (T0 := TX3) (N := 7) C (c_X3_numeral hn1 h) ok_X3_numeral im_X3_numeral se_X3_numeral kw_RX3_50 ⟨Nat.le_trans (by decide) hR.1, Nat.le_trans (by decide) hR.2⟩ (by decide) rfl rfl rfl hl.1 (Nat.le_of_ble_eq_true rfl) dX3_item_184 (fun r27 I27 J27 h => ?_)
        refine f_istore_n (lv' := [(3, .int r27), (2, .int (I 3 0 4)), (0, .ref (gad g 3 0)), (1, .ref (gad g 13 n1))]) C dX3_item_187 rfl hl (by decide) rfl (fun ls hl => ?_)
        exact t_X3_item_188 C hR h ls (lv_sub hl [2, 0] rfl)
      · replace h := h.2 c4
        refine f_iconst (v := 0) C dX3_item_27 (by decide) ?_
        exact f_zret C (Or.inl rfl) h dX3_item_28

def B_X3_readInto_20 (Q : Int32 → MI → MJ → Prop) (C20 : MI → MJ → Nat → Int32 → Prop) (I : MI) (J : MJ) (n1 : Nat) (x2 : Int32) : Prop :=
  (4 < x2 → Q x2 I J) ∧
  (¬ (4 < x2) → ((I 3 0 4) = 0 → Q x2 I J) ∧
  (¬ ((I 3 0 4) = 0) → wp_X3_item (fun r5 I5 J5 => (r5 = 0 → Q (((-10)) - (I5 3 0 3)) I5 J5) ∧
  (¬ (r5 = 0) → C20 I5 J5 n1 (x2 + 1))) I J n1))
set_option maxRecDepth 20000 in
theorem b_X3_readInto_20 {p : Program} {l : Launch} {e : Env} {R : Room} {s : State} {m : MethodId} {args : Array Value} {below : List Frame} {meth : Method} {c : Code} {g : Geo} (C : Cx g p s m args meth c cX3_readInto 3 RX3 (some .int)) (hR : 5 ≤ R.frames ∧ 109 ≤ R.locals) {Q : Int32 → MI → MJ → Prop} {C20 : MI → MJ → Nat → Int32 → Prop} (hC20 : ∀ (I : MI) (J : MJ) (n1 : Nat) (x2 : Int32), n1 < 2 → C20 I J n1 x2 → ∀ ls : Array Slot, lv_has ls 3 [(0, .ref (gad g 3 0)), (1, .ref (gad g 2 n1)), (2, .int x2)] → Wf p l e R s m args below meth c (MQ below (Qg g (PI Q)) args s 0 0 (gA g)) g I J (F0 m 20 ls [])) {I : MI} {J : MJ} {n1 : Nat} {x2 : Int32} (hn1 : n1 < 2) (h : B_X3_readInto_20 Q C20 I J n1 x2) (ls : Array Slot) (hl : lv_has ls 3 [(0, .ref (gad g 3 0)), (1, .ref (gad g 2 n1)), (2, .int x2)]) : Wf p l e R s m args below meth c (MQ below (Qg g (PI Q)) args s 0 0 (gA g)) g I J (F0 m 20 ls []) := by
  refine f_iload_n C dX3_readInto_20 rfl (lv_at hl 2 rfl) ?_
  refine f_iconst (v := 4) C dX3_readInto_21 (by decide) ?_
  refine f_icmp_gt (tgt := 57) C dX3_readInto_22 (by decide) (fun c3 => ?_) (fun c3 => ?_)
  · replace h := h.1 c3
    refine f_iload_n C dX3_readInto_57 rfl (lv_at hl 2 rfl) ?_
    exact f_iret C h dX3_readInto_58
  · replace h := h.2 c3
    refine f_aload_n C dX3_readInto_25 rfl (lv_at hl 0 rfl) ?_
    refine ge_RX3_33 C (by decide) dX3_readInto_26 ?_
    refine f_if_eq (tgt := 57) C dX3_readInto_29 (by decide) (fun c4 => ?_) (fun c4 => ?_)
    · replace h := h.1 c4
      refine f_iload_n C dX3_readInto_57 rfl (lv_at hl 2 rfl) ?_
      exact f_iret C h dX3_readInto_58
    · replace h := h.2 c4
      refine f_aload_n C dX3_readInto_32 rfl (lv_at hl 0 rfl) ?_
      refine f_aload_n C dX3_readInto_33 rfl (lv_at hl 1 rfl) ?_
      refine ge_RX3_36 C hn1 dX3_readInto_34 ?_
      refine f_cVi (As := [.ref (gad g 13 n1)]) (rest := []) (n := 1) (T0 := TX3) (N := 7) C (c_X3_item hn1 h) ok_X3_item im_X3_item se_X3_item kw_RX3_39 ⟨Nat.le_trans (by decide) hR.1, Nat.le_trans (by decide) hR.2⟩ (by decide) rfl rfl rfl hl.1 (Nat.le_of_ble_eq_true rfl) dX3_readInto_37 (fun r5 I5 J5 h => ?_)
      refine f_if_ne (tgt := 51) C dX3_readInto_40 (by decide) (fun c6 => ?_) (fun c6 => ?_)
      · replace h := h.2 c6
        refine f_iinc (v := x2 + 1) (lv' := [(2, .int (x2 + 1)), (0, .ref (gad g 3 0)), (1, .ref (gad g 2 n1))]) C dX3_readInto_51 hl (k := 2) rfl rfl (by decide) rfl (fun ls hl => ?_)
        refine f_goto (tgt := 20) C dX3_readInto_54 (by decide) ?_
        exact hC20 _ _ _ _ hn1 h ls (lv_sub hl [1, 2, 0] rfl)
      · replace h := h.1 c6
        refine f_bipush (v := (-10)) C dX3_readInto_43 (by decide) ?_
        refine f_aload_n C dX3_readInto_45 rfl (lv_at hl 0 rfl) ?_
        refine ge_RX3_43 C (by decide) dX3_readInto_46 ?_
        refine f_isub C dX3_readInto_49 ?_
        exact f_iret C h dX3_readInto_50

def L_X3_readInto_20 (Q : Int32 → MI → MJ → Prop) : Nat → MI → MJ → Nat → Int32 → Prop
  | 0 => fun _ _ _ _ => False
  | n + 1 => fun I J n1 x2 => B_X3_readInto_20 Q (L_X3_readInto_20 Q n) I J n1 x2
theorem t_X3_readInto_20 {p : Program} {l : Launch} {e : Env} {R : Room} {s : State} {m : MethodId} {args : Array Value} {below : List Frame} {meth : Method} {c : Code} {g : Geo} (C : Cx g p s m args meth c cX3_readInto 3 RX3 (some .int)) (hR : 5 ≤ R.frames ∧ 109 ≤ R.locals) {Q : Int32 → MI → MJ → Prop} : ∀ (n : Nat), ∀ (I : MI) (J : MJ) (n1 : Nat) (x2 : Int32), n1 < 2 → L_X3_readInto_20 Q n I J n1 x2 → ∀ ls : Array Slot, lv_has ls 3 [(0, .ref (gad g 3 0)), (1, .ref (gad g 2 n1)), (2, .int x2)] → Wf p l e R s m args below meth c (MQ below (Qg g (PI Q)) args s 0 0 (gA g)) g I J (F0 m 20 ls []) := by
  intro n
  induction n with
  | zero => intro I J n1 x2 hn1 h; exact h.elim
  | succ n ih => intro I J n1 x2 hn1 h ls hl; exact b_X3_readInto_20 C hR ih hn1 h ls hl
def wp_X3_readInto (Q : Int32 → MI → MJ → Prop) (I : MI) (J : MJ) (n1 : Nat) : Prop :=
  wp_X2_forget (fun I1 J1 => wp_X3_next (fun I2 J2 => ∃ n : Nat, L_X3_readInto_20 Q n I2 J2 n1 0) (up3 (up3 I1 3 0 2 0) 3 0 6 0) J1) I J n1
set_option maxRecDepth 20000 in
theorem c_X3_readInto {l : Launch} {g : Geo} {Q : Int32 → MI → MJ → Prop} {I : MI} {J : MJ} {n1 : Nat} (hn1 : n1 < 2) (h : wp_X3_readInto Q I J n1) : Ct g l yX3_readInto cX3_readInto 3 (some .int) 5 109 [.ref (gad g 3 0), .ref (gad g 2 n1)] I J (PI Q) := by
  refine Ct.of (by decide) ?_
  intro p e s m below meth c C
  have hR : 5 ≤ (Rm 5 109).frames ∧ 109 ≤ (Rm 5 109).locals := ⟨Nat.le_refl _, Nat.le_refl _⟩
  generalize Rm 5 109 = R at hR ⊢
  have hl := lv_entry ([.ref (gad g 3 0), .ref (gad g 2 n1)]) (n := 3) (Nat.le_of_ble_eq_true rfl)
  rw [lg_entry_eq]
  generalize (lg_sl ([.ref (gad g 3 0), .ref (gad g 2 n1)]) ++ List.replicate (3 - (lg_sl ([.ref (gad g 3 0), .ref (gad g 2 n1)])).length) Slot.unset).toArray = ls at hl ⊢
  have hl : lv_has ls 3 [(0, .ref (gad g 3 0)), (1, .ref (gad g 2 n1))] := hl
  refine f_aload_n C dX3_readInto_0 rfl (lv_at hl 1 rfl) ?_
  refine f_cVv (As := []) (rest := []) (n := 0) (T0 := TX2) (N := 1) C (c_X2_forget hn1 h) ok_X2_forget im_X2_forget se_X2_forget kw_RX3_19 ⟨Nat.le_trans (by decide) hR.1, Nat.le_trans (by decide) hR.2⟩ hn1 rfl rfl rfl hl.1 (Nat.le_of_ble_eq_true rfl) dX3_readInto_1 (fun I1 J1 h => ?_)
  refine f_aload_n C dX3_readInto_4 rfl (lv_at hl 0 rfl) ?_
  refine f_iconst (v := 0) C dX3_readInto_5 (by decide) ?_
  refine pu_RX3_24 C (by decide) dX3_readInto_6 ?_
  refine f_aload_n C dX3_readInto_9 rfl (lv_at hl 0 rfl) ?_
  refine f_iconst (v := 0) C dX3_readInto_10 (by decide) ?_
  refine pu_RX3_27 C (by decide) dX3_readInto_11 ?_
  refine f_aload_n C dX3_readInto_14 rfl (lv_at hl 0 rfl) ?_
  refine f_cVv (As := []) (rest := []) (n := 0) (T0 := TX3) (N := 7) C (c_X3_next h) ok_X3_next im_X3_next se_X3_next kw_RX3_30 ⟨Nat.le_trans (by decide) hR.1, Nat.le_trans (by decide) hR.2⟩ (by decide) rfl rfl rfl hl.1 (Nat.le_of_ble_eq_true rfl) dX3_readInto_15 (fun I2 J2 h => ?_)
  refine f_iconst (v := 0) C dX3_readInto_18 (by decide) ?_
  refine f_istore_n (lv' := [(2, .int 0), (0, .ref (gad g 3 0)), (1, .ref (gad g 2 n1))]) C dX3_readInto_19 rfl hl (by decide) rfl (fun ls hl => ?_)
  obtain ⟨n, h⟩ := h
  exact t_X3_readInto_20 C hR n _ _ _ _ hn1 h ls (lv_sub hl [1, 2, 0] rfl)

def B_X4_begin_32 (Q : MI → MJ → Prop) (C32 : MI → MJ → Nat → Int32 → Prop) (I : MI) (J : MJ) (n0 : Nat) (x2 : Int32) : Prop :=
  (3 ≤ x2 → Q I J) ∧
  (¬ (3 ≤ x2) → vp_in x2 3 ∧ (C32 (up3 I 15 n0 (x2.toNatClampNeg) 0) J n0 (x2 + 1)))
set_option maxRecDepth 20000 in
theorem b_X4_begin_32 {p : Program} {l : Launch} {e : Env} {R : Room} {s : State} {m : MethodId} {args : Array Value} {below : List Frame} {meth : Method} {c : Code} {g : Geo} (C : Cx g p s m args meth c cX4_begin 3 RX4 none) (hR : 0 ≤ R.frames ∧ 0 ≤ R.locals) {Q : MI → MJ → Prop} {C32 : MI → MJ → Nat → Int32 → Prop} (hC32 : ∀ (I : MI) (J : MJ) (n0 : Nat) (x2 : Int32), n0 < 25 → C32 I J n0 x2 → ∀ ls : Array Slot, lv_has ls 3 [(0, .ref (gad g 4 n0)), (2, .int x2)] → Wf p l e R s m args below meth c (MQ below (Qg g (PV Q)) args s 0 0 (gA g)) g I J (F0 m 32 ls [])) {I : MI} {J : MJ} {n0 : Nat} {x2 : Int32} (hn0 : n0 < 25) (h : B_X4_begin_32 Q C32 I J n0 x2) (ls : Array Slot) (hl : lv_has ls 3 [(0, .ref (gad g 4 n0)), (2, .int x2)]) : Wf p l e R s m args below meth c (MQ below (Qg g (PV Q)) args s 0 0 (gA g)) g I J (F0 m 32 ls []) := by
  refine f_iload_n C dX4_begin_32 rfl (lv_at hl 1 rfl) ?_
  refine f_iconst (v := 3) C dX4_begin_33 (by decide) ?_
  refine f_icmp_ge (tgt := 50) C dX4_begin_34 (by decide) (fun c1 => ?_) (fun c1 => ?_)
  · replace h := h.1 c1
    exact f_vret C h dX4_begin_50
  · replace h := h.2 c1
    refine f_aload_n C dX4_begin_37 rfl (lv_at hl 0 rfl) ?_
    refine ge_RX4_9 C hn0 dX4_begin_38 ?_
    refine f_iload_n C dX4_begin_41 rfl (lv_at hl 1 rfl) ?_
    refine f_iconst (v := 0) C dX4_begin_42 (by decide) ?_
    obtain ⟨hi2, h⟩ := h
    refine as_k (n := 3) (k := x2.toNatClampNeg) C hn0 (fun _ => rfl) rfl hi2 dX4_begin_43 ?_
    refine f_iinc (v := x2 + 1) (lv' := [(2, .int (x2 + 1)), (0, .ref (gad g 4 n0))]) C dX4_begin_44 hl (k := 1) rfl rfl (by decide) rfl (fun ls hl => ?_)
    refine f_goto (tgt := 32) C dX4_begin_47 (by decide) ?_
    exact hC32 _ _ _ _ hn0 h ls (lv_sub hl [1, 0] rfl)

def L_X4_begin_32 (Q : MI → MJ → Prop) : Nat → MI → MJ → Nat → Int32 → Prop
  | 0 => fun _ _ _ _ => False
  | n + 1 => fun I J n0 x2 => B_X4_begin_32 Q (L_X4_begin_32 Q n) I J n0 x2
theorem t_X4_begin_32 {p : Program} {l : Launch} {e : Env} {R : Room} {s : State} {m : MethodId} {args : Array Value} {below : List Frame} {meth : Method} {c : Code} {g : Geo} (C : Cx g p s m args meth c cX4_begin 3 RX4 none) (hR : 0 ≤ R.frames ∧ 0 ≤ R.locals) {Q : MI → MJ → Prop} : ∀ (n : Nat), ∀ (I : MI) (J : MJ) (n0 : Nat) (x2 : Int32), n0 < 25 → L_X4_begin_32 Q n I J n0 x2 → ∀ ls : Array Slot, lv_has ls 3 [(0, .ref (gad g 4 n0)), (2, .int x2)] → Wf p l e R s m args below meth c (MQ below (Qg g (PV Q)) args s 0 0 (gA g)) g I J (F0 m 32 ls []) := by
  intro n
  induction n with
  | zero => intro I J n0 x2 hn0 h; exact h.elim
  | succ n ih => intro I J n0 x2 hn0 h ls hl; exact b_X4_begin_32 C hR ih hn0 h ls hl
def wp_X4_begin (Q : MI → MJ → Prop) (I : MI) (J : MJ) (n0 : Nat) (x1 : Int32) : Prop :=
  ∃ n : Nat, L_X4_begin_32 Q n (up3 (up3 (up3 (up3 (up3 (up3 I 4 n0 2 x1) 4 n0 3 x1) 4 n0 4 0) 4 n0 5 0) 4 n0 6 0) 4 n0 7 0) J n0 0
set_option maxRecDepth 20000 in
theorem c_X4_begin {l : Launch} {g : Geo} {Q : MI → MJ → Prop} {I : MI} {J : MJ} {n0 : Nat} {x1 : Int32} (hn0 : n0 < 25) (h : wp_X4_begin Q I J n0 x1) : Ct g l yX4_begin cX4_begin 3 none 0 0 [.ref (gad g 4 n0), .int x1] I J (PV Q) := by
  refine Ct.of (by decide) ?_
  intro p e s m below meth c C
  have hR : 0 ≤ (Rm 0 0).frames ∧ 0 ≤ (Rm 0 0).locals := ⟨Nat.le_refl _, Nat.le_refl _⟩
  generalize Rm 0 0 = R at hR ⊢
  have hl := lv_entry ([.ref (gad g 4 n0), .int x1]) (n := 3) (Nat.le_of_ble_eq_true rfl)
  rw [lg_entry_eq]
  generalize (lg_sl ([.ref (gad g 4 n0), .int x1]) ++ List.replicate (3 - (lg_sl ([.ref (gad g 4 n0), .int x1])).length) Slot.unset).toArray = ls at hl ⊢
  have hl : lv_has ls 3 [(0, .ref (gad g 4 n0)), (1, .int x1)] := hl
  refine f_aload_n C dX4_begin_0 rfl (lv_at hl 0 rfl) ?_
  refine f_iload_n C dX4_begin_1 rfl (lv_at hl 1 rfl) ?_
  refine pu_RX4_18 C hn0 dX4_begin_2 ?_
  refine f_aload_n C dX4_begin_5 rfl (lv_at hl 0 rfl) ?_
  refine f_iload_n C dX4_begin_6 rfl (lv_at hl 1 rfl) ?_
  refine pu_RX4_22 C hn0 dX4_begin_7 ?_
  refine f_aload_n C dX4_begin_10 rfl (lv_at hl 0 rfl) ?_
  refine f_iconst (v := 0) C dX4_begin_11 (by decide) ?_
  refine pu_RX4_25 C hn0 dX4_begin_12 ?_
  refine f_aload_n C dX4_begin_15 rfl (lv_at hl 0 rfl) ?_
  refine f_iconst (v := 0) C dX4_begin_16 (by decide) ?_
  refine pu_RX4_28 C hn0 dX4_begin_17 ?_
  refine f_aload_n C dX4_begin_20 rfl (lv_at hl 0 rfl) ?_
  refine f_iconst (v := 0) C dX4_begin_21 (by decide) ?_
  refine pu_RX4_31 C hn0 dX4_begin_22 ?_
  refine f_aload_n C dX4_begin_25 rfl (lv_at hl 0 rfl) ?_
  refine f_iconst (v := 0) C dX4_begin_26 (by decide) ?_
  refine pu_RX4_34 C hn0 dX4_begin_27 ?_
  refine f_iconst (v := 0) C dX4_begin_30 (by decide) ?_
  refine f_istore_n (lv' := [(2, .int 0), (0, .ref (gad g 4 n0)), (1, .int x1)]) C dX4_begin_31 rfl hl (by decide) rfl (fun ls hl => ?_)
  obtain ⟨n, h⟩ := h
  exact t_X4_begin_32 C hR n _ _ _ _ hn0 h ls (lv_sub hl [1, 0] rfl)

def wp_X4_become (Q : MI → MJ → Prop) (I : MI) (J : MJ) (n0 : Nat) (n1 : Nat) : Prop :=
  ∀ I1 : MI, I1 = up3 (up3 (up3 I 4 n0 2 (I 4 n1 2)) 4 n0 3 ((up3 I 4 n0 2 (I 4 n1 2)) 4 n1 3)) 4 n0 4 ((up3 (up3 I 4 n0 2 (I 4 n1 2)) 4 n0 3 ((up3 I 4 n0 2 (I 4 n1 2)) 4 n1 3)) 4 n1 4) → (∀ I2 : MI, I2 = up3 (up3 (up3 I1 4 n0 5 (I1 4 n1 5)) 4 n0 6 ((up3 I1 4 n0 5 (I1 4 n1 5)) 4 n1 6)) 4 n0 7 ((up3 (up3 I1 4 n0 5 (I1 4 n1 5)) 4 n0 6 ((up3 I1 4 n0 5 (I1 4 n1 5)) 4 n1 6)) 4 n1 7) → (∀ I3 : MI, I3 = row3 (row3 I2 15 n0 (va_cpy (I2 15 n1) (I2 15 n0) 0 0 3)) 16 n0 (va_cpy ((row3 I2 15 n0 (va_cpy (I2 15 n1) (I2 15 n0) 0 0 3)) 16 n1) ((row3 I2 15 n0 (va_cpy (I2 15 n1) (I2 15 n0) 0 0 3)) 16 n0) 0 0 12) → (Q I3 J)))
set_option maxRecDepth 20000 in
theorem c_X4_become {l : Launch} {g : Geo} {Q : MI → MJ → Prop} {I : MI} {J : MJ} {n0 : Nat} {n1 : Nat} (hn0 : n0 < 25) (hn1 : n1 < 25) (h : wp_X4_become Q I J n0 n1) : Ct g l yX4_become cX4_become 2 none 1 60 [.ref (gad g 4 n0), .ref (gad g 4 n1)] I J (PV Q) := by
  refine Ct.of (by decide) ?_
  intro p e s m below meth c C
  have hR : 1 ≤ (Rm 1 60).frames ∧ 60 ≤ (Rm 1 60).locals := ⟨Nat.le_refl _, Nat.le_refl _⟩
  generalize Rm 1 60 = R at hR ⊢
  have hl := lv_entry ([.ref (gad g 4 n0), .ref (gad g 4 n1)]) (n := 2) (Nat.le_of_ble_eq_true rfl)
  rw [lg_entry_eq]
  generalize (lg_sl ([.ref (gad g 4 n0), .ref (gad g 4 n1)]) ++ List.replicate (2 - (lg_sl ([.ref (gad g 4 n0), .ref (gad g 4 n1)])).length) Slot.unset).toArray = ls at hl ⊢
  have hl : lv_has ls 2 [(0, .ref (gad g 4 n0)), (1, .ref (gad g 4 n1))] := hl
  refine f_aload_n C dX4_become_0 rfl (lv_at hl 0 rfl) ?_
  refine f_aload_n C dX4_become_1 rfl (lv_at hl 1 rfl) ?_
  refine ge_RX4_18 C hn1 dX4_become_2 ?_
  refine pu_RX4_18 C hn0 dX4_become_5 ?_
  refine f_aload_n C dX4_become_8 rfl (lv_at hl 0 rfl) ?_
  refine f_aload_n C dX4_become_9 rfl (lv_at hl 1 rfl) ?_
  refine ge_RX4_22 C hn1 dX4_become_10 ?_
  refine pu_RX4_22 C hn0 dX4_become_13 ?_
  refine f_aload_n C dX4_become_16 rfl (lv_at hl 0 rfl) ?_
  refine f_aload_n C dX4_become_17 rfl (lv_at hl 1 rfl) ?_
  refine ge_RX4_25 C hn1 dX4_become_18 ?_
  refine pu_RX4_25 C hn0 dX4_become_21 ?_
  generalize hI1 : up3 (up3 (up3 I 4 n0 2 (I 4 n1 2)) 4 n0 3 ((up3 I 4 n0 2 (I 4 n1 2)) 4 n1 3)) 4 n0 4 ((up3 (up3 I 4 n0 2 (I 4 n1 2)) 4 n0 3 ((up3 I 4 n0 2 (I 4 n1 2)) 4 n1 3)) 4 n1 4) = I1
  replace h := h I1 hI1.symm
  refine f_aload_n C dX4_become_24 rfl (lv_at hl 0 rfl) ?_
  refine f_aload_n C dX4_become_25 rfl (lv_at hl 1 rfl) ?_
  refine ge_RX4_28 C hn1 dX4_become_26 ?_
  refine pu_RX4_28 C hn0 dX4_become_29 ?_
  refine f_aload_n C dX4_become_32 rfl (lv_at hl 0 rfl) ?_
  refine f_aload_n C dX4_become_33 rfl (lv_at hl 1 rfl) ?_
  refine ge_RX4_31 C hn1 dX4_become_34 ?_
  refine pu_RX4_31 C hn0 dX4_become_37 ?_
  refine f_aload_n C dX4_become_40 rfl (lv_at hl 0 rfl) ?_
  refine f_aload_n C dX4_become_41 rfl (lv_at hl 1 rfl) ?_
  refine ge_RX4_34 C hn1 dX4_become_42 ?_
  refine pu_RX4_34 C hn0 dX4_become_45 ?_
  generalize hI2 : up3 (up3 (up3 I1 4 n0 5 (I1 4 n1 5)) 4 n0 6 ((up3 I1 4 n0 5 (I1 4 n1 5)) 4 n1 6)) 4 n0 7 ((up3 (up3 I1 4 n0 5 (I1 4 n1 5)) 4 n0 6 ((up3 I1 4 n0 5 (I1 4 n1 5)) 4 n1 6)) 4 n1 7) = I2
  replace h := h I2 hI2.symm
  refine f_aload_n C dX4_become_48 rfl (lv_at hl 1 rfl) ?_
  refine ge_RX4_9 C hn1 dX4_become_49 ?_
  refine f_iconst (v := 0) C dX4_become_52 (by decide) ?_
  refine f_aload_n C dX4_become_53 rfl (lv_at hl 0 rfl) ?_
  refine ge_RX4_9 C hn0 dX4_become_54 ?_
  refine f_iconst (v := 0) C dX4_become_57 (by decide) ?_
  refine f_iconst (v := 3) C dX4_become_58 (by decide) ?_
  refine cp_k (sp' := 0) (dp' := 0) (n' := 3) (n0 := 3) (n1 := 3) C hl.1 kw_RX4_37 hn1 hn0 rfl (fun _ => rfl) (by decide) (by decide) (by decide) (by decide) (by decide) (by decide) (by decide) (by decide) hR (by decide) dX4_become_59 ?_
  refine f_aload_n C dX4_become_62 rfl (lv_at hl 1 rfl) ?_
  refine ge_RX4_15 C hn1 dX4_become_63 ?_
  refine f_iconst (v := 0) C dX4_become_66 (by decide) ?_
  refine f_aload_n C dX4_become_67 rfl (lv_at hl 0 rfl) ?_
  refine ge_RX4_15 C hn0 dX4_become_68 ?_
  refine f_iconst (v := 0) C dX4_become_71 (by decide) ?_
  refine f_bipush (v := 12) C dX4_become_72 (by decide) ?_
  refine cp_k (sp' := 0) (dp' := 0) (n' := 12) (n0 := 12) (n1 := 12) C hl.1 kw_RX4_37 hn1 hn0 rfl (fun _ => rfl) (by decide) (by decide) (by decide) (by decide) (by decide) (by decide) (by decide) (by decide) hR (by decide) dX4_become_74 ?_
  generalize hI3 : row3 (row3 I2 15 n0 (va_cpy (I2 15 n1) (I2 15 n0) 0 0 3)) 16 n0 (va_cpy ((row3 I2 15 n0 (va_cpy (I2 15 n1) (I2 15 n0) 0 0 3)) 16 n1) ((row3 I2 15 n0 (va_cpy (I2 15 n1) (I2 15 n0) 0 0 3)) 16 n0) 0 0 12) = I3
  replace h := h I3 hI3.symm
  exact f_vret C h dX4_become_77

def wp_X4_turnTo (Q : Int32 → MI → MJ → Prop) (I : MI) (J : MJ) (n0 : Nat) (x1 : Int32) (x2 : Int32) : Prop :=
  wp_X7_within (fun r1 I1 J1 => (r1 = 0 → Q ((-1000000)) I1 J1) ∧
  (¬ (r1 = 0) → vp_in x1 3 ∧ (vp_in x1 3 ∧ (Q (I1 15 n0 (x1.toNatClampNeg)) (up3 I1 15 n0 (x1.toNatClampNeg) x2) J1)))) I J x1 0 2
set_option maxRecDepth 20000 in
theorem c_X4_turnTo {l : Launch} {g : Geo} {Q : Int32 → MI → MJ → Prop} {I : MI} {J : MJ} {n0 : Nat} {x1 : Int32} {x2 : Int32} (hn0 : n0 < 25) (h : wp_X4_turnTo Q I J n0 x1 x2) : Ct g l yX4_turnTo cX4_turnTo 4 (some .int) 1 22 [.ref (gad g 4 n0), .int x1, .int x2] I J (PI Q) := by
  refine Ct.of (by decide) ?_
  intro p e s m below meth c C
  have hR : 1 ≤ (Rm 1 22).frames ∧ 22 ≤ (Rm 1 22).locals := ⟨Nat.le_refl _, Nat.le_refl _⟩
  generalize Rm 1 22 = R at hR ⊢
  have hl := lv_entry ([.ref (gad g 4 n0), .int x1, .int x2]) (n := 4) (Nat.le_of_ble_eq_true rfl)
  rw [lg_entry_eq]
  generalize (lg_sl ([.ref (gad g 4 n0), .int x1, .int x2]) ++ List.replicate (4 - (lg_sl ([.ref (gad g 4 n0), .int x1, .int x2])).length) Slot.unset).toArray = ls at hl ⊢
  have hl : lv_has ls 4 [(0, .ref (gad g 4 n0)), (1, .int x1), (2, .int x2)] := hl
  refine f_iload_n C dX4_turnTo_0 rfl (lv_at hl 1 rfl) ?_
  refine f_iconst (v := 0) C dX4_turnTo_1 (by decide) ?_
  refine f_iconst (v := 2) C dX4_turnTo_2 (by decide) ?_
  refine f_cNi (As := [.int x1, .int 0, .int 2]) (rest := []) (n := 3) C (c_X7_within h) ok_X7_within sm_X7_within kn_RX4_47 ⟨Nat.le_trans (by decide) hR.1, Nat.le_trans (by decide) hR.2⟩ rfl hl.1 (Nat.le_of_ble_eq_true rfl) dX4_turnTo_3 (fun r1 I1 J1 h => ?_)
  refine f_if_ne (tgt := 12) C dX4_turnTo_6 (by decide) (fun c2 => ?_) (fun c2 => ?_)
  · replace h := h.2 c2
    refine f_aload_n C dX4_turnTo_12 rfl (lv_at hl 0 rfl) ?_
    refine ge_RX4_9 C hn0 dX4_turnTo_13 ?_
    refine f_iload_n C dX4_turnTo_16 rfl (lv_at hl 1 rfl) ?_
    obtain ⟨hi3, h⟩ := h
    refine al_k (n := 3) (k := x1.toNatClampNeg) C hn0 rfl rfl hi3 dX4_turnTo_17 ?_
    refine f_istore_n (lv' := [(3, .int (I1 15 n0 (x1.toNatClampNeg))), (0, .ref (gad g 4 n0)), (1, .int x1), (2, .int x2)]) C dX4_turnTo_18 rfl hl (by decide) rfl (fun ls hl => ?_)
    refine f_aload_n C dX4_turnTo_19 rfl (lv_at hl 1 rfl) ?_
    refine ge_RX4_9 C hn0 dX4_turnTo_20 ?_
    refine f_iload_n C dX4_turnTo_23 rfl (lv_at hl 2 rfl) ?_
    refine f_iload_n C dX4_turnTo_24 rfl (lv_at hl 3 rfl) ?_
    obtain ⟨hi4, h⟩ := h
    refine as_k (n := 3) (k := x1.toNatClampNeg) C hn0 (fun _ => rfl) rfl hi4 dX4_turnTo_25 ?_
    refine f_iload_n C dX4_turnTo_26 rfl (lv_at hl 0 rfl) ?_
    exact f_iret C h dX4_turnTo_27
  · replace h := h.1 c2
    refine f_ldc C kc_RX4_51 dX4_turnTo_9 ?_
    exact f_iret C h dX4_turnTo_11

def wp_X4_change (Q : Int32 → MI → MJ → Prop) (I : MI) (J : MJ) (n0 : Nat) (x1 : Int32) (x2 : Int32) : Prop :=
  (x1 = 0 → Q (I 4 n0 4) (up3 I 4 n0 4 x2) J) ∧
  (¬ (x1 = 0) → (x1 = 1 → Q (I 4 n0 5) (up3 I 4 n0 5 x2) J) ∧
  (¬ (x1 = 1) → (x1 = 5 → Q (I 4 n0 3) (up3 I 4 n0 3 x2) J) ∧
  (¬ (x1 = 5) → wp_X4_turnTo (fun r4 I4 J4 => Q r4 I4 J4) I J n0 (x1 - 2) x2)))
set_option maxRecDepth 20000 in
theorem c_X4_change {l : Launch} {g : Geo} {Q : Int32 → MI → MJ → Prop} {I : MI} {J : MJ} {n0 : Nat} {x1 : Int32} {x2 : Int32} (hn0 : n0 < 25) (h : wp_X4_change Q I J n0 x1 x2) : Ct g l yX4_change cX4_change 4 (some .int) 2 45 [.ref (gad g 4 n0), .int x1, .int x2] I J (PI Q) := by
  refine Ct.of (by decide) ?_
  intro p e s m below meth c C
  have hR : 2 ≤ (Rm 2 45).frames ∧ 45 ≤ (Rm 2 45).locals := ⟨Nat.le_refl _, Nat.le_refl _⟩
  generalize Rm 2 45 = R at hR ⊢
  have hl := lv_entry ([.ref (gad g 4 n0), .int x1, .int x2]) (n := 4) (Nat.le_of_ble_eq_true rfl)
  rw [lg_entry_eq]
  generalize (lg_sl ([.ref (gad g 4 n0), .int x1, .int x2]) ++ List.replicate (4 - (lg_sl ([.ref (gad g 4 n0), .int x1, .int x2])).length) Slot.unset).toArray = ls at hl ⊢
  have hl : lv_has ls 4 [(0, .ref (gad g 4 n0)), (1, .int x1), (2, .int x2)] := hl
  refine f_iload_n C dX4_change_0 rfl (lv_at hl 1 rfl) ?_
  by_cases c1 : x1 = 0
  · replace h := h.1 c1
    refine f_lookup (tgt := 36) C dX4_change_1 (by decide) (by first | (rw [c1]; done) | (rw [c1]; decide)) (by decide) ?_
    refine f_aload_n C dX4_change_36 rfl (lv_at hl 0 rfl) ?_
    refine ge_RX4_25 C hn0 dX4_change_37 ?_
    refine f_istore_n (lv' := [(3, .int (I 4 n0 4)), (0, .ref (gad g 4 n0)), (1, .int x1), (2, .int x2)]) C dX4_change_40 rfl hl (by decide) rfl (fun ls hl => ?_)
    refine f_aload_n C dX4_change_41 rfl (lv_at hl 1 rfl) ?_
    refine f_iload_n C dX4_change_42 rfl (lv_at hl 3 rfl) ?_
    refine pu_RX4_25 C hn0 dX4_change_43 ?_
    refine f_iload_n C dX4_change_46 rfl (lv_at hl 0 rfl) ?_
    exact f_iret C h dX4_change_47
  replace h := h.2 c1
  by_cases c2 : x1 = 1
  · replace h := h.1 c2
    refine f_lookup (tgt := 48) C dX4_change_1 (by decide) (by first | (rw [c2]; done) | (rw [c2]; decide)) (by decide) ?_
    refine f_aload_n C dX4_change_48 rfl (lv_at hl 0 rfl) ?_
    refine ge_RX4_28 C hn0 dX4_change_49 ?_
    refine f_istore_n (lv' := [(3, .int (I 4 n0 5)), (0, .ref (gad g 4 n0)), (1, .int x1), (2, .int x2)]) C dX4_change_52 rfl hl (by decide) rfl (fun ls hl => ?_)
    refine f_aload_n C dX4_change_53 rfl (lv_at hl 1 rfl) ?_
    refine f_iload_n C dX4_change_54 rfl (lv_at hl 3 rfl) ?_
    refine pu_RX4_28 C hn0 dX4_change_55 ?_
    refine f_iload_n C dX4_change_58 rfl (lv_at hl 0 rfl) ?_
    exact f_iret C h dX4_change_59
  replace h := h.2 c2
  by_cases c3 : x1 = 5
  · replace h := h.1 c3
    refine f_lookup (tgt := 60) C dX4_change_1 (by decide) (by first | (rw [c3]; done) | (rw [c3]; decide)) (by decide) ?_
    refine f_aload_n C dX4_change_60 rfl (lv_at hl 0 rfl) ?_
    refine ge_RX4_22 C hn0 dX4_change_61 ?_
    refine f_istore_n (lv' := [(3, .int (I 4 n0 3)), (0, .ref (gad g 4 n0)), (1, .int x1), (2, .int x2)]) C dX4_change_64 rfl hl (by decide) rfl (fun ls hl => ?_)
    refine f_aload_n C dX4_change_65 rfl (lv_at hl 1 rfl) ?_
    refine f_iload_n C dX4_change_66 rfl (lv_at hl 3 rfl) ?_
    refine pu_RX4_22 C hn0 dX4_change_67 ?_
    refine f_iload_n C dX4_change_70 rfl (lv_at hl 0 rfl) ?_
    exact f_iret C h dX4_change_71
  replace h := h.2 c3
  refine f_lookup (tgt := 72) C dX4_change_1 (by decide) (by show Op.lookupswitch.offset [(0, 35), (1, 47), (5, 59)] 71 _ = 71; rw [Op.lookupswitch.offset_cons, if_neg (fun q => ne_toInt (z := 0) c1 (by decide) q.symm), Op.lookupswitch.offset_cons, if_neg (fun q => ne_toInt (z := 1) c2 (by decide) q.symm), Op.lookupswitch.offset_cons, if_neg (fun q => ne_toInt (z := 5) c3 (by decide) q.symm)]; rfl) (by decide) ?_
  refine f_aload_n C dX4_change_72 rfl (lv_at hl 0 rfl) ?_
  refine f_iload_n C dX4_change_73 rfl (lv_at hl 1 rfl) ?_
  refine f_iconst (v := 2) C dX4_change_74 (by decide) ?_
  refine f_isub C dX4_change_75 ?_
  refine f_iload_n C dX4_change_76 rfl (lv_at hl 2 rfl) ?_
  refine f_cVi (As := [.int (x1 - 2), .int x2]) (rest := []) (n := 2) (T0 := TX4) (N := 8) C (c_X4_turnTo hn0 h) ok_X4_turnTo im_X4_turnTo se_X4_turnTo kw_RX4_43 ⟨Nat.le_trans (by decide) hR.1, Nat.le_trans (by decide) hR.2⟩ hn0 rfl rfl rfl hl.1 (Nat.le_of_ble_eq_true rfl) dX4_change_77 (fun r4 I4 J4 h => ?_)
  exact f_iret C h dX4_change_80

def B_X4_betterThan_5 (Q : Int32 → MI → MJ → Prop) (C5 : MI → MJ → Nat → Int32 → Int32 → Int32 → Int32 → Prop) (I : MI) (J : MJ) (n0 : Nat) (x1 : Int32) (x2 : Int32) (x3 : Int32) (x4 : Int32) : Prop :=
  (x2 ≤ x4 → Q x3 I J) ∧
  (¬ (x2 ≤ x4) → vp_in x4 12 ∧ (vp_in x1 12 ∧ (((I 16 n0 (x1.toNatClampNeg)) < (I 16 n0 (x4.toNatClampNeg)) → C5 I J n0 x1 x2 (x3 + 1) (x4 + 1)) ∧
  (¬ ((I 16 n0 (x1.toNatClampNeg)) < (I 16 n0 (x4.toNatClampNeg))) → vp_in x4 12 ∧ (vp_in x1 12 ∧ (((I 16 n0 (x4.toNatClampNeg)) = (I 16 n0 (x1.toNatClampNeg)) → (x1 ≤ x4 → C5 I J n0 x1 x2 x3 (x4 + 1)) ∧
  (¬ (x1 ≤ x4) → C5 I J n0 x1 x2 (x3 + 1) (x4 + 1))) ∧
  (¬ ((I 16 n0 (x4.toNatClampNeg)) = (I 16 n0 (x1.toNatClampNeg))) → C5 I J n0 x1 x2 x3 (x4 + 1))))))))
set_option maxRecDepth 20000 in
theorem b_X4_betterThan_5 {p : Program} {l : Launch} {e : Env} {R : Room} {s : State} {m : MethodId} {args : Array Value} {below : List Frame} {meth : Method} {c : Code} {g : Geo} (C : Cx g p s m args meth c cX4_betterThan 5 RX4 (some .int)) (hR : 0 ≤ R.frames ∧ 0 ≤ R.locals) {Q : Int32 → MI → MJ → Prop} {C5 : MI → MJ → Nat → Int32 → Int32 → Int32 → Int32 → Prop} (hC5 : ∀ (I : MI) (J : MJ) (n0 : Nat) (x1 : Int32) (x2 : Int32) (x3 : Int32) (x4 : Int32), n0 < 25 → C5 I J n0 x1 x2 x3 x4 → ∀ ls : Array Slot, lv_has ls 5 [(0, .ref (gad g 4 n0)), (1, .int x1), (2, .int x2), (3, .int x3), (4, .int x4)] → Wf p l e R s m args below meth c (MQ below (Qg g (PI Q)) args s 0 0 (gA g)) g I J (F0 m 5 ls [])) {I : MI} {J : MJ} {n0 : Nat} {x1 : Int32} {x2 : Int32} {x3 : Int32} {x4 : Int32} (hn0 : n0 < 25) (h : B_X4_betterThan_5 Q C5 I J n0 x1 x2 x3 x4) (ls : Array Slot) (hl : lv_has ls 5 [(0, .ref (gad g 4 n0)), (1, .int x1), (2, .int x2), (3, .int x3), (4, .int x4)]) : Wf p l e R s m args below meth c (MQ below (Qg g (PI Q)) args s 0 0 (gA g)) g I J (F0 m 5 ls []) := by
  refine f_iload C dX4_betterThan_5 (lv_at hl 4 rfl) ?_
  refine f_iload_n C dX4_betterThan_7 rfl (lv_at hl 2 rfl) ?_
  refine f_icmp_ge (tgt := 58) C dX4_betterThan_8 (by decide) (fun c1 => ?_) (fun c1 => ?_)
  · replace h := h.1 c1
    refine f_iload_n C dX4_betterThan_58 rfl (lv_at hl 3 rfl) ?_
    exact f_iret C h dX4_betterThan_59
  · replace h := h.2 c1
    refine f_aload_n C dX4_betterThan_11 rfl (lv_at hl 0 rfl) ?_
    refine ge_RX4_15 C hn0 dX4_betterThan_12 ?_
    refine f_iload C dX4_betterThan_15 (lv_at hl 4 rfl) ?_
    obtain ⟨hi2, h⟩ := h
    refine al_k (n := 12) (k := x4.toNatClampNeg) C hn0 rfl rfl hi2 dX4_betterThan_17 ?_
    refine f_aload_n C dX4_betterThan_18 rfl (lv_at hl 0 rfl) ?_
    refine ge_RX4_15 C hn0 dX4_betterThan_19 ?_
    refine f_iload_n C dX4_betterThan_22 rfl (lv_at hl 1 rfl) ?_
    obtain ⟨hi3, h⟩ := h
    refine al_k (n := 12) (k := x1.toNatClampNeg) C hn0 rfl rfl hi3 dX4_betterThan_23 ?_
    refine f_icmp_gt (tgt := 49) C dX4_betterThan_24 (by decide) (fun c4 => ?_) (fun c4 => ?_)
    · replace h := h.1 c4
      refine f_iinc (v := x3 + 1) (lv' := [(3, .int (x3 + 1)), (0, .ref (gad g 4 n0)), (1, .int x1), (2, .int x2), (4, .int x4)]) C dX4_betterThan_49 hl (k := 3) rfl rfl (by decide) rfl (fun ls hl => ?_)
      refine f_iinc (v := x4 + 1) (lv' := [(4, .int (x4 + 1)), (3, .int (x3 + 1)), (0, .ref (gad g 4 n0)), (1, .int x1), (2, .int x2)]) C dX4_betterThan_52 hl (k := 4) rfl rfl (by decide) rfl (fun ls hl => ?_)
      refine f_goto (tgt := 5) C dX4_betterThan_55 (by decide) ?_
      exact hC5 _ _ _ _ _ _ _ hn0 h ls (lv_sub hl [2, 3, 4, 1, 0] rfl)
    · replace h := h.2 c4
      refine f_aload_n C dX4_betterThan_27 rfl (lv_at hl 0 rfl) ?_
      refine ge_RX4_15 C hn0 dX4_betterThan_28 ?_
      refine f_iload C dX4_betterThan_31 (lv_at hl 4 rfl) ?_
      obtain ⟨hi5, h⟩ := h
      refine al_k (n := 12) (k := x4.toNatClampNeg) C hn0 rfl rfl hi5 dX4_betterThan_33 ?_
      refine f_aload_n C dX4_betterThan_34 rfl (lv_at hl 0 rfl) ?_
      refine ge_RX4_15 C hn0 dX4_betterThan_35 ?_
      refine f_iload_n C dX4_betterThan_38 rfl (lv_at hl 1 rfl) ?_
      obtain ⟨hi6, h⟩ := h
      refine al_k (n := 12) (k := x1.toNatClampNeg) C hn0 rfl rfl hi6 dX4_betterThan_39 ?_
      refine f_icmp_ne (tgt := 52) C dX4_betterThan_40 (by decide) (fun c7 => ?_) (fun c7 => ?_)
      · replace h := h.2 c7
        refine f_iinc (v := x4 + 1) (lv' := [(4, .int (x4 + 1)), (0, .ref (gad g 4 n0)), (1, .int x1), (2, .int x2), (3, .int x3)]) C dX4_betterThan_52 hl (k := 4) rfl rfl (by decide) rfl (fun ls hl => ?_)
        refine f_goto (tgt := 5) C dX4_betterThan_55 (by decide) ?_
        exact hC5 _ _ _ _ _ _ _ hn0 h ls (lv_sub hl [1, 2, 3, 4, 0] rfl)
      · replace h := h.1 c7
        refine f_iload C dX4_betterThan_43 (lv_at hl 4 rfl) ?_
        refine f_iload_n C dX4_betterThan_45 rfl (lv_at hl 1 rfl) ?_
        refine f_icmp_ge (tgt := 52) C dX4_betterThan_46 (by decide) (fun c8 => ?_) (fun c8 => ?_)
        · replace h := h.1 c8
          refine f_iinc (v := x4 + 1) (lv' := [(4, .int (x4 + 1)), (0, .ref (gad g 4 n0)), (1, .int x1), (2, .int x2), (3, .int x3)]) C dX4_betterThan_52 hl (k := 4) rfl rfl (by decide) rfl (fun ls hl => ?_)
          refine f_goto (tgt := 5) C dX4_betterThan_55 (by decide) ?_
          exact hC5 _ _ _ _ _ _ _ hn0 h ls (lv_sub hl [1, 2, 3, 4, 0] rfl)
        · replace h := h.2 c8
          refine f_iinc (v := x3 + 1) (lv' := [(3, .int (x3 + 1)), (0, .ref (gad g 4 n0)), (1, .int x1), (2, .int x2), (4, .int x4)]) C dX4_betterThan_49 hl (k := 3) rfl rfl (by decide) rfl (fun ls hl => ?_)
          refine f_iinc (v := x4 + 1) (lv' := [(4, .int (x4 + 1)), (3, .int (x3 + 1)), (0, .ref (gad g 4 n0)), (1, .int x1), (2, .int x2)]) C dX4_betterThan_52 hl (k := 4) rfl rfl (by decide) rfl (fun ls hl => ?_)
          refine f_goto (tgt := 5) C dX4_betterThan_55 (by decide) ?_
          exact hC5 _ _ _ _ _ _ _ hn0 h ls (lv_sub hl [2, 3, 4, 1, 0] rfl)

def L_X4_betterThan_5 (Q : Int32 → MI → MJ → Prop) : Nat → MI → MJ → Nat → Int32 → Int32 → Int32 → Int32 → Prop
  | 0 => fun _ _ _ _ _ _ _ => False
  | n + 1 => fun I J n0 x1 x2 x3 x4 => B_X4_betterThan_5 Q (L_X4_betterThan_5 Q n) I J n0 x1 x2 x3 x4
theorem t_X4_betterThan_5 {p : Program} {l : Launch} {e : Env} {R : Room} {s : State} {m : MethodId} {args : Array Value} {below : List Frame} {meth : Method} {c : Code} {g : Geo} (C : Cx g p s m args meth c cX4_betterThan 5 RX4 (some .int)) (hR : 0 ≤ R.frames ∧ 0 ≤ R.locals) {Q : Int32 → MI → MJ → Prop} : ∀ (n : Nat), ∀ (I : MI) (J : MJ) (n0 : Nat) (x1 : Int32) (x2 : Int32) (x3 : Int32) (x4 : Int32), n0 < 25 → L_X4_betterThan_5 Q n I J n0 x1 x2 x3 x4 → ∀ ls : Array Slot, lv_has ls 5 [(0, .ref (gad g 4 n0)), (1, .int x1), (2, .int x2), (3, .int x3), (4, .int x4)] → Wf p l e R s m args below meth c (MQ below (Qg g (PI Q)) args s 0 0 (gA g)) g I J (F0 m 5 ls []) := by
  intro n
  induction n with
  | zero => intro I J n0 x1 x2 x3 x4 hn0 h; exact h.elim
  | succ n ih => intro I J n0 x1 x2 x3 x4 hn0 h ls hl; exact b_X4_betterThan_5 C hR ih hn0 h ls hl
def wp_X4_betterThan (Q : Int32 → MI → MJ → Prop) (I : MI) (J : MJ) (n0 : Nat) (x1 : Int32) (x2 : Int32) : Prop :=
  ∃ n : Nat, L_X4_betterThan_5 Q n I J n0 x1 x2 0 0
set_option maxRecDepth 20000 in
theorem c_X4_betterThan {l : Launch} {g : Geo} {Q : Int32 → MI → MJ → Prop} {I : MI} {J : MJ} {n0 : Nat} {x1 : Int32} {x2 : Int32} (hn0 : n0 < 25) (h : wp_X4_betterThan Q I J n0 x1 x2) : Ct g l yX4_betterThan cX4_betterThan 5 (some .int) 0 0 [.ref (gad g 4 n0), .int x1, .int x2] I J (PI Q) := by
  refine Ct.of (by decide) ?_
  intro p e s m below meth c C
  have hR : 0 ≤ (Rm 0 0).frames ∧ 0 ≤ (Rm 0 0).locals := ⟨Nat.le_refl _, Nat.le_refl _⟩
  generalize Rm 0 0 = R at hR ⊢
  have hl := lv_entry ([.ref (gad g 4 n0), .int x1, .int x2]) (n := 5) (Nat.le_of_ble_eq_true rfl)
  rw [lg_entry_eq]
  generalize (lg_sl ([.ref (gad g 4 n0), .int x1, .int x2]) ++ List.replicate (5 - (lg_sl ([.ref (gad g 4 n0), .int x1, .int x2])).length) Slot.unset).toArray = ls at hl ⊢
  have hl : lv_has ls 5 [(0, .ref (gad g 4 n0)), (1, .int x1), (2, .int x2)] := hl
  refine f_iconst (v := 0) C dX4_betterThan_0 (by decide) ?_
  refine f_istore_n (lv' := [(3, .int 0), (0, .ref (gad g 4 n0)), (1, .int x1), (2, .int x2)]) C dX4_betterThan_1 rfl hl (by decide) rfl (fun ls hl => ?_)
  refine f_iconst (v := 0) C dX4_betterThan_2 (by decide) ?_
  refine f_istore (lv' := [(4, .int 0), (3, .int 0), (0, .ref (gad g 4 n0)), (1, .int x1), (2, .int x2)]) C dX4_betterThan_3 hl (by decide) rfl (fun ls hl => ?_)
  obtain ⟨n, h⟩ := h
  exact t_X4_betterThan_5 C hR n _ _ _ _ _ _ _ hn0 h ls (lv_sub hl [2, 3, 4, 1, 0] rfl)

