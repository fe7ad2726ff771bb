def wp_X8_isField (Q : Int32 → MI → MJ → Prop) (I : MI) (J : MJ) (x1 : Int32) : Prop :=
  wp_X8_in (fun r1 I1 J1 => (r1 = 0 → Q 0 I1 J1) ∧
  (¬ (r1 = 0) → wp_X8_ones (fun r3 I3 J3 => (r3 ≤ 1 → Q 0 I3 J3) ∧
  (¬ (r3 ≤ 1) → Q 1 I3 J3)) I1 J1 x1)) I J x1 0 (((1 : Int32) <<< ((I 25 0 168) &&& 31)) - 1)
set_option maxRecDepth 20000 in
theorem c_X8_isField {l : Launch} {g : Geo} {Q : Int32 → MI → MJ → Prop} {I : MI} {J : MJ} {x1 : Int32} (h : wp_X8_isField Q I J x1) : Ct g l yX8_isField cX8_isField 2 (some .boolean) 1 22 [.ref (gad g 8 0), .int x1] I J (PI Q) := by
  refine Ct.of (by decide) ?_
  intro p e s m below meth c C
  have hR : 1 ≤ (Rm 1 22).frames ∧ 22 ≤ (Rm 1 22).locals := ⟨Nat.le_refl _, Nat.le_refl _⟩
  generalize Rm 1 22 = R at hR ⊢
  have hl := lv_entry ([.ref (gad g 8 0), .int x1]) (n := 2) (Nat.le_of_ble_eq_true rfl)
  rw [lg_entry_eq]
  generalize (lg_sl ([.ref (gad g 8 0), .int x1]) ++ List.replicate (2 - (lg_sl ([.ref (gad g 8 0), .int x1])).length) Slot.unset).toArray = ls at hl ⊢
  have hl : lv_has ls 2 [(0, .ref (gad g 8 0)), (1, .int x1)] := hl
  refine f_iload_n C dX8_isField_0 rfl (lv_at hl 1 rfl) ?_
  refine f_iconst (v := 0) C dX8_isField_1 (by decide) ?_
  refine f_iconst (v := 1) C dX8_isField_2 (by decide) ?_
  refine f_aload_n C dX8_isField_3 rfl (lv_at hl 0 rfl) ?_
  refine ge_RX8_7 C (by decide) dX8_isField_4 ?_
  refine f_sipush (v := 168) C dX8_isField_7 (by decide) ?_
  refine al_k (n := 171) (k := 168) C (by decide) rfl (by decide) (vin_k (by decide)) dX8_isField_10 ?_
  refine f_ishl C dX8_isField_11 ?_
  refine f_iconst (v := 1) C dX8_isField_12 (by decide) ?_
  refine f_isub C dX8_isField_13 ?_
  refine f_cSi (As := [.int x1, .int 0, .int (((1 : Int32) <<< ((I 25 0 168) &&& 31)) - 1)]) (rest := []) (n := 3) C (c_X8_in h) ok_X8_in sm_X8_in kw_RX8_61 ⟨Nat.le_trans (by decide) hR.1, Nat.le_trans (by decide) hR.2⟩ rfl hl.1 (Nat.le_of_ble_eq_true rfl) dX8_isField_14 (fun r1 I1 J1 h => ?_)
  refine f_if_eq (tgt := 32) C dX8_isField_17 (by decide) (fun c2 => ?_) (fun c2 => ?_)
  · replace h := h.1 c2
    refine f_iconst (v := 0) C dX8_isField_32 (by decide) ?_
    exact f_zret C (Or.inl rfl) h dX8_isField_33
  · replace h := h.2 c2
    refine f_iload_n C dX8_isField_20 rfl (lv_at hl 1 rfl) ?_
    refine f_cSi (As := [.int x1]) (rest := []) (n := 1) C (c_X8_ones h) ok_X8_ones sm_X8_ones kw_RX8_129 ⟨Nat.le_trans (by decide) hR.1, Nat.le_trans (by decide) hR.2⟩ rfl hl.1 (Nat.le_of_ble_eq_true rfl) dX8_isField_21 (fun r3 I3 J3 h => ?_)
    refine f_iconst (v := 1) C dX8_isField_24 (by decide) ?_
    refine f_icmp_le (tgt := 32) C dX8_isField_25 (by decide) (fun c4 => ?_) (fun c4 => ?_)
    · replace h := h.1 c4
      refine f_iconst (v := 0) C dX8_isField_32 (by decide) ?_
      exact f_zret C (Or.inl rfl) h dX8_isField_33
    · replace h := h.2 c4
      refine f_iconst (v := 1) C dX8_isField_28 (by decide) ?_
      refine f_goto (tgt := 33) C dX8_isField_29 (by decide) ?_
      exact f_zret C (Or.inr rfl) h dX8_isField_33

def wp_X8_has (Q : Int32 → MI → MJ → Prop) (I : MI) (J : MJ) (x0 : Int32) (x1 : Int32) : Prop :=
  (((x0 >>> (x1 &&& 31)) &&& 1) = 1 → Q 1 I J) ∧
  (¬ (((x0 >>> (x1 &&& 31)) &&& 1) = 1) → Q 0 I J)
set_option maxRecDepth 20000 in
theorem c_X8_has {l : Launch} {g : Geo} {Q : Int32 → MI → MJ → Prop} {I : MI} {J : MJ} {x0 : Int32} {x1 : Int32} (h : wp_X8_has Q I J x0 x1) : Ct g l yX8_has cX8_has 2 (some .boolean) 0 0 [.int x0, .int x1] I J (PI Q) := by
  refine Ct.of (by decide) ?_
  intro p e s m below meth c C
  have hR : 0 ≤ (Rm 0 0).frames ∧ 0 ≤ (Rm 0 0).locals := ⟨Nat.le_refl _, Nat.le_refl _⟩
  generalize Rm 0 0 = R at hR ⊢
  have hl := lv_entry ([.int x0, .int x1]) (n := 2) (Nat.le_of_ble_eq_true rfl)
  rw [lg_entry_eq]
  generalize (lg_sl ([.int x0, .int x1]) ++ List.replicate (2 - (lg_sl ([.int x0, .int x1])).length) Slot.unset).toArray = ls at hl ⊢
  have hl : lv_has ls 2 [(0, .int x0), (1, .int x1)] := hl
  refine f_iload_n C dX8_has_0 rfl (lv_at hl 0 rfl) ?_
  refine f_iload_n C dX8_has_1 rfl (lv_at hl 1 rfl) ?_
  refine f_ishr C dX8_has_2 ?_
  refine f_iconst (v := 1) C dX8_has_3 (by decide) ?_
  refine f_iand C dX8_has_4 ?_
  refine f_iconst (v := 1) C dX8_has_5 (by decide) ?_
  refine f_icmp_ne (tgt := 13) C dX8_has_6 (by decide) (fun c1 => ?_) (fun c1 => ?_)
  · replace h := h.2 c1
    refine f_iconst (v := 0) C dX8_has_13 (by decide) ?_
    exact f_zret C (Or.inl rfl) h dX8_has_14
  · replace h := h.1 c1
    refine f_iconst (v := 1) C dX8_has_9 (by decide) ?_
    refine f_goto (tgt := 14) C dX8_has_10 (by decide) ?_
    exact f_zret C (Or.inr rfl) h dX8_has_14

def B_X8_weighs_60 (Q : MI → MJ → Prop) (C60 : MI → MJ → Int32 → Int32 → Prop) (I : MI) (J : MJ) (x2 : Int32) (x3 : Int32) : Prop :=
  ((I 25 0 168) ≤ x3 → Q I J) ∧
  (¬ ((I 25 0 168) ≤ x3) → vp_in ((21 * x3) + 1) 171 ∧ (vp_in x3 8 ∧ (C60 (up3 I 36 0 (x3.toNatClampNeg) ((I 25 0 (((21 * x3) + 1).toNatClampNeg)) - x2)) J x2 (x3 + 1))))
set_option maxRecDepth 20000 in
theorem b_X8_weighs_60 {p : Program} {l : Launch} {e : Env} {R : Room} {s : State} {m : MethodId} {args : Array Value} {below : List Frame} {meth : Method} {c : Code} {g : Geo} (C : Cx g p s m args meth c cX8_weighs 5 RX8 none) (hR : 1 ≤ R.frames ∧ 21 ≤ R.locals) {Q : MI → MJ → Prop} {C60 : MI → MJ → Int32 → Int32 → Prop} (hC60 : ∀ (I : MI) (J : MJ) (x2 : Int32) (x3 : Int32), C60 I J x2 x3 → ∀ ls : Array Slot, lv_has ls 5 [(0, .ref (gad g 8 0)), (2, .int x2), (3, .int x3)] → Wf p l e R s m args below meth c (MQ below (Qg g (PV Q)) args s 0 0 (gA g)) g I J (F0 m 60 ls [])) {I : MI} {J : MJ} {x2 : Int32} {x3 : Int32} (h : B_X8_weighs_60 Q C60 I J x2 x3) (ls : Array Slot) (hl : lv_has ls 5 [(0, .ref (gad g 8 0)), (2, .int x2), (3, .int x3)]) : Wf p l e R s m args below meth c (MQ below (Qg g (PV Q)) args s 0 0 (gA g)) g I J (F0 m 60 ls []) := by
  refine f_iload_n C dX8_weighs_60 rfl (lv_at hl 2 rfl) ?_
  refine f_aload_n C dX8_weighs_61 rfl (lv_at hl 0 rfl) ?_
  refine ge_RX8_7 C (by decide) dX8_weighs_62 ?_
  refine f_sipush (v := 168) C dX8_weighs_65 (by decide) ?_
  refine al_k (n := 171) (k := 168) C (by decide) rfl (by decide) (vin_k (by decide)) dX8_weighs_68 ?_
  refine f_icmp_ge (tgt := 97) C dX8_weighs_69 (by decide) (fun c2 => ?_) (fun c2 => ?_)
  · replace h := h.1 c2
    exact f_vret C h dX8_weighs_97
  · replace h := h.2 c2
    refine f_aload_n C dX8_weighs_72 rfl (lv_at hl 0 rfl) ?_
    refine ge_RX8_44 C (by decide) dX8_weighs_73 ?_
    refine f_iload_n C dX8_weighs_76 rfl (lv_at hl 2 rfl) ?_
    refine f_aload_n C dX8_weighs_77 rfl (lv_at hl 0 rfl) ?_
    refine ge_RX8_7 C (by decide) dX8_weighs_78 ?_
    refine f_bipush (v := 21) C dX8_weighs_81 (by decide) ?_
    refine f_iload_n C dX8_weighs_83 rfl (lv_at hl 2 rfl) ?_
    refine f_imul C dX8_weighs_84 ?_
    refine f_iconst (v := 1) C dX8_weighs_85 (by decide) ?_
    refine f_iadd C dX8_weighs_86 ?_
    obtain ⟨hi3, h⟩ := h
    refine al_k (n := 171) (k := ((21 * x3) + 1).toNatClampNeg) C (by decide) rfl rfl hi3 dX8_weighs_87 ?_
    refine f_iload_n C dX8_weighs_88 rfl (lv_at hl 1 rfl) ?_
    refine f_isub C dX8_weighs_89 ?_
    obtain ⟨hi4, h⟩ := h
    refine as_k (n := 8) (k := x3.toNatClampNeg) C (by decide) (fun _ => rfl) rfl hi4 dX8_weighs_90 ?_
    refine f_iinc (v := x3 + 1) (lv' := [(3, .int (x3 + 1)), (0, .ref (gad g 8 0)), (2, .int x2)]) C dX8_weighs_91 hl (k := 2) rfl rfl (by decide) rfl (fun ls hl => ?_)
    refine f_goto (tgt := 60) C dX8_weighs_94 (by decide) ?_
    exact hC60 _ _ _ _ h ls (lv_sub hl [1, 2, 0] rfl)

def L_X8_weighs_60 (Q : MI → MJ → Prop) : Nat → MI → MJ → Int32 → Int32 → Prop
  | 0 => fun _ _ _ _ => False
  | n + 1 => fun I J x2 x3 => B_X8_weighs_60 Q (L_X8_weighs_60 Q n) I J x2 x3
theorem t_X8_weighs_60 {p : Program} {l : Launch} {e : Env} {R : Room} {s : State} {m : MethodId} {args : Array Value} {below : List Frame} {meth : Method} {c : Code} {g : Geo} (C : Cx g p s m args meth c cX8_weighs 5 RX8 none) (hR : 1 ≤ R.frames ∧ 21 ≤ R.locals) {Q : MI → MJ → Prop} : ∀ (n : Nat), ∀ (I : MI) (J : MJ) (x2 : Int32) (x3 : Int32), L_X8_weighs_60 Q n I J x2 x3 → ∀ ls : Array Slot, lv_has ls 5 [(0, .ref (gad g 8 0)), (2, .int x2), (3, .int x3)] → Wf p l e R s m args below meth c (MQ below (Qg g (PV Q)) args s 0 0 (gA g)) g I J (F0 m 60 ls []) := by
  intro n
  induction n with
  | zero => intro I J x2 x3 h; exact h.elim
  | succ n ih => intro I J x2 x3 h ls hl; exact b_X8_weighs_60 C hR ih h ls hl
def B_X8_weighs_6 (Q : MI → MJ → Prop) (C6 : MI → MJ → Int32 → Int32 → Int32 → Prop) (I : MI) (J : MJ) (x1 : Int32) (x2 : Int32) (x3 : Int32) : Prop :=
  ((I 25 0 168) ≤ x3 → ∃ n : Nat, L_X8_weighs_60 Q n I J x2 0) ∧
  (¬ ((I 25 0 168) ≤ x3) → vp_in ((21 * x3) + 1) 171 ∧ (∀ v6 : Int32, v6 = I 25 0 (((21 * x3) + 1).toNatClampNeg) → (wp_X8_has (fun r7 I7 J7 => (r7 = 0 → C6 I7 J7 x1 x2 (x3 + 1)) ∧
  (¬ (r7 = 0) → (x2 ≤ v6 → C6 I7 J7 x1 x2 (x3 + 1)) ∧
  (¬ (x2 ≤ v6) → C6 I7 J7 x1 v6 (x3 + 1)))) I J x1 x3)))
set_option maxRecDepth 20000 in
theorem b_X8_weighs_6 {p : Program} {l : Launch} {e : Env} {R : Room} {s : State} {m : MethodId} {args : Array Value} {below : List Frame} {meth : Method} {c : Code} {g : Geo} (C : Cx g p s m args meth c cX8_weighs 5 RX8 none) (hR : 1 ≤ R.frames ∧ 21 ≤ R.locals) {Q : MI → MJ → Prop} {C6 : MI → MJ → Int32 → Int32 → Int32 → Prop} (hC6 : ∀ (I : MI) (J : MJ) (x1 : Int32) (x2 : Int32) (x3 : Int32), C6 I J x1 x2 x3 → ∀ ls : Array Slot, lv_has ls 5 [(0, .ref (gad g 8 0)), (1, .int x1), (2, .int x2), (3, .int x3)] → Wf p l e R s m args below meth c (MQ below (Qg g (PV Q)) args s 0 0 (gA g)) g I J (F0 m 6 ls [])) {I : MI} {J : MJ} {x1 : Int32} {x2 : Int32} {x3 : Int32} (h : B_X8_weighs_6 Q C6 I J x1 x2 x3) (ls : Array Slot) (hl : lv_has ls 5 [(0, .ref (gad g 8 0)), (1, .int x1), (2, .int x2), (3, .int x3)]) : Wf p l e R s m args below meth c (MQ below (Qg g (PV Q)) args s 0 0 (gA g)) g I J (F0 m 6 ls []) := by
  refine f_iload_n C dX8_weighs_6 rfl (lv_at hl 3 rfl) ?_
  refine f_aload_n C dX8_weighs_7 rfl (lv_at hl 0 rfl) ?_
  refine ge_RX8_7 C (by decide) dX8_weighs_8 ?_
  refine f_sipush (v := 168) C dX8_weighs_11 (by decide) ?_
  refine al_k (n := 171) (k := 168) C (by decide) rfl (by decide) (vin_k (by decide)) dX8_weighs_14 ?_
  refine f_icmp_ge (tgt := 58) C dX8_weighs_15 (by decide) (fun c1 => ?_) (fun c1 => ?_)
  · replace h := h.1 c1
    refine f_iconst (v := 0) C dX8_weighs_58 (by decide) ?_
    refine f_istore_n (lv' := [(3, .int 0), (0, .ref (gad g 8 0)), (1, .int x1), (2, .int x2)]) C dX8_weighs_59 rfl hl (by decide) rfl (fun ls hl => ?_)
    obtain ⟨n, h⟩ := h
    exact t_X8_weighs_60 C hR n _ _ _ _ h ls (lv_sub hl [1, 3, 0] rfl)
  · replace h := h.2 c1
    refine f_aload_n C dX8_weighs_18 rfl (lv_at hl 0 rfl) ?_
    refine ge_RX8_7 C (by decide) dX8_weighs_19 ?_
    refine f_bipush (v := 21) C dX8_weighs_22 (by decide) ?_
    refine f_iload_n C dX8_weighs_24 rfl (lv_at hl 3 rfl) ?_
    refine f_imul C dX8_weighs_25 ?_
    refine f_iconst (v := 1) C dX8_weighs_26 (by decide) ?_
    refine f_iadd C dX8_weighs_27 ?_
    obtain ⟨hi5, h⟩ := h
    refine al_k (n := 171) (k := ((21 * x3) + 1).toNatClampNeg) C (by decide) rfl rfl hi5 dX8_weighs_28 ?_
    generalize hv6 : I 25 0 (((21 * x3) + 1).toNatClampNeg) = v6
    replace h := h v6 hv6.symm
    refine f_istore (lv' := [(4, .int v6), (0, .ref (gad g 8 0)), (1, .int x1), (2, .int x2), (3, .int x3)]) C dX8_weighs_29 hl (by decide) rfl (fun ls hl => ?_)
    refine f_iload_n C dX8_weighs_31 rfl (lv_at hl 2 rfl) ?_
    refine f_iload_n C dX8_weighs_32 rfl (lv_at hl 4 rfl) ?_
    refine f_cSi (As := [.int x1, .int x3]) (rest := []) (n := 2) C (c_X8_has h) ok_X8_has sm_X8_has kw_RX8_132 ⟨Nat.le_trans (by decide) hR.1, Nat.le_trans (by decide) hR.2⟩ rfl hl.1 (Nat.le_of_ble_eq_true rfl) dX8_weighs_33 (fun r7 I7 J7 h => ?_)
    refine f_if_eq (tgt := 50) C dX8_weighs_36 (by decide) (fun c8 => ?_) (fun c8 => ?_)
    · replace h := h.1 c8
      refine f_iload_n C dX8_weighs_50 rfl (lv_at hl 3 rfl) ?_
      refine f_istore_n (lv' := [(2, .int x2), (4, .int v6), (0, .ref (gad g 8 0)), (1, .int x1), (3, .int x3)]) C dX8_weighs_51 rfl hl (by decide) rfl (fun ls hl => ?_)
      refine f_iinc (v := x3 + 1) (lv' := [(3, .int (x3 + 1)), (2, .int x2), (4, .int v6), (0, .ref (gad g 8 0)), (1, .int x1)]) C dX8_weighs_52 hl (k := 4) rfl rfl (by decide) rfl (fun ls hl => ?_)
      refine f_goto (tgt := 6) C dX8_weighs_55 (by decide) ?_
      exact hC6 _ _ _ _ _ h ls (lv_sub hl [3, 4, 1, 0] rfl)
    · replace h := h.2 c8
      refine f_iload C dX8_weighs_39 (lv_at hl 0 rfl) ?_
      refine f_iload_n C dX8_weighs_41 rfl (lv_at hl 3 rfl) ?_
      refine f_icmp_ge (tgt := 50) C dX8_weighs_42 (by decide) (fun c9 => ?_) (fun c9 => ?_)
      · replace h := h.1 c9
        refine f_iload_n C dX8_weighs_50 rfl (lv_at hl 3 rfl) ?_
        refine f_istore_n (lv' := [(2, .int x2), (4, .int v6), (0, .ref (gad g 8 0)), (1, .int x1), (3, .int x3)]) C dX8_weighs_51 rfl hl (by decide) rfl (fun ls hl => ?_)
        refine f_iinc (v := x3 + 1) (lv' := [(3, .int (x3 + 1)), (2, .int x2), (4, .int v6), (0, .ref (gad g 8 0)), (1, .int x1)]) C dX8_weighs_52 hl (k := 4) rfl rfl (by decide) rfl (fun ls hl => ?_)
        refine f_goto (tgt := 6) C dX8_weighs_55 (by decide) ?_
        exact hC6 _ _ _ _ _ h ls (lv_sub hl [3, 4, 1, 0] rfl)
      · replace h := h.2 c9
        refine f_iload C dX8_weighs_45 (lv_at hl 0 rfl) ?_
        refine f_goto (tgt := 51) C dX8_weighs_47 (by decide) ?_
        refine f_istore_n (lv' := [(2, .int v6), (4, .int v6), (0, .ref (gad g 8 0)), (1, .int x1), (3, .int x3)]) C dX8_weighs_51 rfl hl (by decide) rfl (fun ls hl => ?_)
        refine f_iinc (v := x3 + 1) (lv' := [(3, .int (x3 + 1)), (2, .int v6), (4, .int v6), (0, .ref (gad g 8 0)), (1, .int x1)]) C dX8_weighs_52 hl (k := 4) rfl rfl (by decide) rfl (fun ls hl => ?_)
        refine f_goto (tgt := 6) C dX8_weighs_55 (by decide) ?_
        exact hC6 _ _ _ _ _ h ls (lv_sub hl [3, 4, 1, 0] rfl)

def L_X8_weighs_6 (Q : MI → MJ → Prop) : Nat → MI → MJ → Int32 → Int32 → Int32 → Prop
  | 0 => fun _ _ _ _ _ => False
  | n + 1 => fun I J x1 x2 x3 => B_X8_weighs_6 Q (L_X8_weighs_6 Q n) I J x1 x2 x3
theorem t_X8_weighs_6 {p : Program} {l : Launch} {e : Env} {R : Room} {s : State} {m : MethodId} {args : Array Value} {below : List Frame} {meth : Method} {c : Code} {g : Geo} (C : Cx g p s m args meth c cX8_weighs 5 RX8 none) (hR : 1 ≤ R.frames ∧ 21 ≤ R.locals) {Q : MI → MJ → Prop} : ∀ (n : Nat), ∀ (I : MI) (J : MJ) (x1 : Int32) (x2 : Int32) (x3 : Int32), L_X8_weighs_6 Q n I J x1 x2 x3 → ∀ ls : Array Slot, lv_has ls 5 [(0, .ref (gad g 8 0)), (1, .int x1), (2, .int x2), (3, .int x3)] → Wf p l e R s m args below meth c (MQ below (Qg g (PV Q)) args s 0 0 (gA g)) g I J (F0 m 6 ls []) := by
  intro n
  induction n with
  | zero => intro I J x1 x2 x3 h; exact h.elim
  | succ n ih => intro I J x1 x2 x3 h ls hl; exact b_X8_weighs_6 C hR ih h ls hl
def wp_X8_weighs (Q : MI → MJ → Prop) (I : MI) (J : MJ) (x1 : Int32) : Prop :=
  ∃ n : Nat, L_X8_weighs_6 Q n I J x1 999 0
set_option maxRecDepth 20000 in
theorem c_X8_weighs {l : Launch} {g : Geo} {Q : MI → MJ → Prop} {I : MI} {J : MJ} {x1 : Int32} (h : wp_X8_weighs Q I J x1) : Ct g l yX8_weighs cX8_weighs 5 none 1 21 [.ref (gad g 8 0), .int x1] I J (PV Q) := by
  refine Ct.of (by decide) ?_
  intro p e s m below meth c C
  have hR : 1 ≤ (Rm 1 21).frames ∧ 21 ≤ (Rm 1 21).locals := ⟨Nat.le_refl _, Nat.le_refl _⟩
  generalize Rm 1 21 = R at hR ⊢
  have hl := lv_entry ([.ref (gad g 8 0), .int x1]) (n := 5) (Nat.le_of_ble_eq_true rfl)
  rw [lg_entry_eq]
  generalize (lg_sl ([.ref (gad g 8 0), .int x1]) ++ List.replicate (5 - (lg_sl ([.ref (gad g 8 0), .int x1])).length) Slot.unset).toArray = ls at hl ⊢
  have hl : lv_has ls 5 [(0, .ref (gad g 8 0)), (1, .int x1)] := hl
  refine f_sipush (v := 999) C dX8_weighs_0 (by decide) ?_
  refine f_istore_n (lv' := [(2, .int 999), (0, .ref (gad g 8 0)), (1, .int x1)]) C dX8_weighs_3 rfl hl (by decide) rfl (fun ls hl => ?_)
  refine f_iconst (v := 0) C dX8_weighs_4 (by decide) ?_
  refine f_istore_n (lv' := [(3, .int 0), (2, .int 999), (0, .ref (gad g 8 0)), (1, .int x1)]) C dX8_weighs_5 rfl hl (by decide) rfl (fun ls hl => ?_)
  obtain ⟨n, h⟩ := h
  exact t_X8_weighs_6 C hR n _ _ _ _ _ h ls (lv_sub hl [2, 3, 1, 0] rfl)

def wp_X8_bare (Q : Int32 → MI → MJ → Prop) (I : MI) (J : MJ) (x1 : Int32) (x2 : Int32) : Prop :=
  vp_in ((21 * x1) + 2) 171 ∧ (∀ v2 : Int32, v2 = I 25 0 (((21 * x1) + 2).toNatClampNeg) → (vp_in ((21 * x1) + 0) 171 ∧ (vp_in (((21 * x1) + 4) + x2) 171 ∧ ((v2 = 0 → Q (((I 25 0 (((21 * x1) + 0).toNatClampNeg)) + (I 25 0 ((((21 * x1) + 4) + x2).toNatClampNeg))) - 0) I J) ∧
  (¬ (v2 = 0) → vp_in v2 3 ∧ (Q (((I 25 0 (((21 * x1) + 0).toNatClampNeg)) + (I 25 0 ((((21 * x1) + 4) + x2).toNatClampNeg))) - (I 28 0 (v2.toNatClampNeg))) I J))))))
set_option maxRecDepth 20000 in
theorem c_X8_bare {l : Launch} {g : Geo} {Q : Int32 → MI → MJ → Prop} {I : MI} {J : MJ} {x1 : Int32} {x2 : Int32} (h : wp_X8_bare Q I J x1 x2) : Ct g l yX8_bare cX8_bare 4 (some .int) 0 0 [.ref (gad g 8 0), .int x1, .int x2] I J (PI Q) := by
  refine Ct.of (by decide) ?_
  intro p e s m below meth c C
  have hR : 0 ≤ (Rm 0 0).frames ∧ 0 ≤ (Rm 0 0).locals := ⟨Nat.le_refl _, Nat.le_refl _⟩
  generalize Rm 0 0 = R at hR ⊢
  have hl := lv_entry ([.ref (gad g 8 0), .int x1, .int x2]) (n := 4) (Nat.le_of_ble_eq_true rfl)
  rw [lg_entry_eq]
  generalize (lg_sl ([.ref (gad g 8 0), .int x1, .int x2]) ++ List.replicate (4 - (lg_sl ([.ref (gad g 8 0), .int x1, .int x2])).length) Slot.unset).toArray = ls at hl ⊢
  have hl : lv_has ls 4 [(0, .ref (gad g 8 0)), (1, .int x1), (2, .int x2)] := hl
  refine f_aload_n C dX8_bare_0 rfl (lv_at hl 0 rfl) ?_
  refine ge_RX8_7 C (by decide) dX8_bare_1 ?_
  refine f_bipush (v := 21) C dX8_bare_4 (by decide) ?_
  refine f_iload_n C dX8_bare_6 rfl (lv_at hl 1 rfl) ?_
  refine f_imul C dX8_bare_7 ?_
  refine f_iconst (v := 2) C dX8_bare_8 (by decide) ?_
  refine f_iadd C dX8_bare_9 ?_
  obtain ⟨hi1, h⟩ := h
  refine al_k (n := 171) (k := ((21 * x1) + 2).toNatClampNeg) C (by decide) rfl rfl hi1 dX8_bare_10 ?_
  generalize hv2 : I 25 0 (((21 * x1) + 2).toNatClampNeg) = v2
  replace h := h v2 hv2.symm
  refine f_istore_n (lv' := [(3, .int v2), (0, .ref (gad g 8 0)), (1, .int x1), (2, .int x2)]) C dX8_bare_11 rfl hl (by decide) rfl (fun ls hl => ?_)
  refine f_aload_n C dX8_bare_12 rfl (lv_at hl 1 rfl) ?_
  refine ge_RX8_7 C (by decide) dX8_bare_13 ?_
  refine f_bipush (v := 21) C dX8_bare_16 (by decide) ?_
  refine f_iload_n C dX8_bare_18 rfl (lv_at hl 2 rfl) ?_
  refine f_imul C dX8_bare_19 ?_
  refine f_iconst (v := 0) C dX8_bare_20 (by decide) ?_
  refine f_iadd C dX8_bare_21 ?_
  obtain ⟨hi3, h⟩ := h
  refine al_k (n := 171) (k := ((21 * x1) + 0).toNatClampNeg) C (by decide) rfl rfl hi3 dX8_bare_22 ?_
  refine f_aload_n C dX8_bare_23 rfl (lv_at hl 1 rfl) ?_
  refine ge_RX8_7 C (by decide) dX8_bare_24 ?_
  refine f_bipush (v := 21) C dX8_bare_27 (by decide) ?_
  refine f_iload_n C dX8_bare_29 rfl (lv_at hl 2 rfl) ?_
  refine f_imul C dX8_bare_30 ?_
  refine f_iconst (v := 4) C dX8_bare_31 (by decide) ?_
  refine f_iadd C dX8_bare_32 ?_
  refine f_iload_n C dX8_bare_33 rfl (lv_at hl 3 rfl) ?_
  refine f_iadd C dX8_bare_34 ?_
  obtain ⟨hi4, h⟩ := h
  refine al_k (n := 171) (k := (((21 * x1) + 4) + x2).toNatClampNeg) C (by decide) rfl rfl hi4 dX8_bare_35 ?_
  refine f_iadd C dX8_bare_36 ?_
  refine f_iload_n C dX8_bare_37 rfl (lv_at hl 0 rfl) ?_
  refine f_if_ne (tgt := 45) C dX8_bare_38 (by decide) (fun c5 => ?_) (fun c5 => ?_)
  · replace h := h.2 c5
    refine f_aload_n C dX8_bare_45 rfl (lv_at hl 1 rfl) ?_
    refine ge_RX8_20 C (by decide) dX8_bare_46 ?_
    refine f_iload_n C dX8_bare_49 rfl (lv_at hl 0 rfl) ?_
    obtain ⟨hi6, h⟩ := h
    refine al_k (n := 3) (k := v2.toNatClampNeg) C (by decide) rfl rfl hi6 dX8_bare_50 ?_
    refine f_isub C dX8_bare_51 ?_
    exact f_iret C h dX8_bare_52
  · replace h := h.1 c5
    refine f_iconst (v := 0) C dX8_bare_41 (by decide) ?_
    refine f_goto (tgt := 51) C dX8_bare_42 (by decide) ?_
    refine f_isub C dX8_bare_51 ?_
    exact f_iret C h dX8_bare_52

def B_X8_race_349 (Q : Int32 → MI → MJ → Prop) (C214 : MI → MJ → Int32 → Int32 → Int32 → Prop) (C349 : MI → MJ → Int32 → Int32 → Int32 → Int32 → Int32 → Prop) (I : MI) (J : MJ) (x2 : Int32) (x3 : Int32) (x4 : Int32) (x5 : Int32) (x6 : Int32) : Prop :=
  (12 ≤ x6 → vp_in (x5 + 0) 171 ∧ (vp_in (x5 + 3) 171 ∧ (wp_X8_within (fun r22 I22 J22 => vp_in (x5 + 0) 171 ∧ (vp_in (x5 + 7) 171 ∧ (vp_in (x5 + 7) 171 ∧ (∀ I26 : MI, I26 = up3 (up3 I22 25 0 ((x5 + 0).toNatClampNeg) r22) 25 0 ((x5 + 7).toNatClampNeg) (((up3 I22 25 0 ((x5 + 0).toNatClampNeg) r22) 25 0 ((x5 + 7).toNatClampNeg)) + 1) → (C214 I26 J22 x2 x3 (x4 + 1)))))) I J ((I 25 0 ((x5 + 0).toNatClampNeg)) + (I 25 0 ((x5 + 3).toNatClampNeg))) 0 200))) ∧
  (¬ (12 ≤ x6) → vp_in x6 12 ∧ (vp_in ((x5 + 9) + x6) 171 ∧ (C349 (up3 I 25 0 (((x5 + 9) + x6).toNatClampNeg) (I 34 0 (x6.toNatClampNeg))) J x2 x3 x4 x5 (x6 + 1))))
set_option maxRecDepth 20000 in
theorem b_X8_race_349 {p : Program} {l : Launch} {e : Env} {R : Room} {s : State} {m : MethodId} {args : Array Value} {below : List Frame} {meth : Method} {c : Code} {g : Geo} (C : Cx g p s m args meth c cX8_race 7 RX8 (some .int)) (hR : 2 ≤ R.frames ∧ 48 ≤ R.locals) {Q : Int32 → MI → MJ → Prop} {C214 : MI → MJ → Int32 → Int32 → Int32 → Prop} (hC214 : ∀ (I : MI) (J : MJ) (x2 : Int32) (x3 : Int32) (x4 : Int32), C214 I J x2 x3 x4 → ∀ ls : Array Slot, lv_has ls 7 [(0, .ref (gad g 8 0)), (2, .int x2), (3, .int x3), (4, .int x4)] → Wf p l e R s m args below meth c (MQ below (Qg g (PI Q)) args s 0 0 (gA g)) g I J (F0 m 214 ls [])) {C349 : MI → MJ → Int32 → Int32 → Int32 → Int32 → Int32 → Prop} (hC349 : ∀ (I : MI) (J : MJ) (x2 : Int32) (x3 : Int32) (x4 : Int32) (x5 : Int32) (x6 : Int32), C349 I J x2 x3 x4 x5 x6 → ∀ ls : Array Slot, lv_has ls 7 [(0, .ref (gad g 8 0)), (2, .int x2), (3, .int x3), (4, .int x4), (5, .int x5), (6, .int x6)] → Wf p l e R s m args below meth c (MQ below (Qg g (PI Q)) args s 0 0 (gA g)) g I J (F0 m 349 ls [])) {I : MI} {J : MJ} {x2 : Int32} {x3 : Int32} {x4 : Int32} {x5 : Int32} {x6 : Int32} (h : B_X8_race_349 Q C214 C349 I J x2 x3 x4 x5 x6) (ls : Array Slot) (hl : lv_has ls 7 [(0, .ref (gad g 8 0)), (2, .int x2), (3, .int x3), (4, .int x4), (5, .int x5), (6, .int x6)]) : Wf p l e R s m args below meth c (MQ below (Qg g (PI Q)) args s 0 0 (gA g)) g I J (F0 m 349 ls []) := by
  refine f_iload C dX8_race_349 (lv_at hl 5 rfl) ?_
  refine f_bipush (v := 12) C dX8_race_351 (by decide) ?_
  refine f_icmp_ge (tgt := 382) C dX8_race_353 (by decide) (fun c19 => ?_) (fun c19 => ?_)
  · replace h := h.1 c19
    refine f_aload_n C dX8_race_382 rfl (lv_at hl 0 rfl) ?_
    refine ge_RX8_7 C (by decide) dX8_race_383 ?_
    refine f_iload C dX8_race_386 (lv_at hl 4 rfl) ?_
    refine f_iconst (v := 0) C dX8_race_388 (by decide) ?_
    refine f_iadd C dX8_race_389 ?_
    refine f_aload_n C dX8_race_390 rfl (lv_at hl 0 rfl) ?_
    refine ge_RX8_7 C (by decide) dX8_race_391 ?_
    refine f_iload C dX8_race_394 (lv_at hl 4 rfl) ?_
    refine f_iconst (v := 0) C dX8_race_396 (by decide) ?_
    refine f_iadd C dX8_race_397 ?_
    obtain ⟨hi20, h⟩ := h
    refine al_k (n := 171) (k := (x5 + 0).toNatClampNeg) C (by decide) rfl rfl hi20 dX8_race_398 ?_
    refine f_aload_n C dX8_race_399 rfl (lv_at hl 0 rfl) ?_
    refine ge_RX8_7 C (by decide) dX8_race_400 ?_
    refine f_iload C dX8_race_403 (lv_at hl 4 rfl) ?_
    refine f_iconst (v := 3) C dX8_race_405 (by decide) ?_
    refine f_iadd C dX8_race_406 ?_
    obtain ⟨hi21, h⟩ := h
    refine al_k (n := 171) (k := (x5 + 3).toNatClampNeg) C (by decide) rfl rfl hi21 dX8_race_407 ?_
    refine f_iadd C dX8_race_408 ?_
    refine f_iconst (v := 0) C dX8_race_409 (by decide) ?_
    refine f_sipush (v := 200) C dX8_race_410 (by decide) ?_
    refine f_cSi (As := [.int ((I 25 0 ((x5 + 0).toNatClampNeg)) + (I 25 0 ((x5 + 3).toNatClampNeg))), .int 0, .int 200]) (rest := [.int (x5 + 0), .ref (gad g 25 0)]) (n := 3) C (c_X8_within h) ok_X8_within sm_X8_within kw_RX8_125 ⟨Nat.le_trans (by decide) hR.1, Nat.le_trans (by decide) hR.2⟩ rfl hl.1 (Nat.le_of_ble_eq_true rfl) dX8_race_413 (fun r22 I22 J22 h => ?_)
    obtain ⟨hi23, h⟩ := h
    refine as_k (n := 171) (k := (x5 + 0).toNatClampNeg) C (by decide) (fun _ => rfl) rfl hi23 dX8_race_416 ?_
    refine f_aload_n C dX8_race_417 rfl (lv_at hl 0 rfl) ?_
    refine ge_RX8_7 C (by decide) dX8_race_418 ?_
    refine f_iload C dX8_race_421 (lv_at hl 4 rfl) ?_
    refine f_bipush (v := 7) C dX8_race_423 (by decide) ?_
    refine f_iadd C dX8_race_425 ?_
    refine f_dup2_11 C dX8_race_426 rfl rfl ?_
    obtain ⟨hi24, h⟩ := h
    refine al_k (n := 171) (k := (x5 + 7).toNatClampNeg) C (by decide) rfl rfl hi24 dX8_race_427 ?_
    refine f_iconst (v := 1) C dX8_race_428 (by decide) ?_
    refine f_iadd C dX8_race_429 ?_
    obtain ⟨hi25, h⟩ := h
    refine as_k (n := 171) (k := (x5 + 7).toNatClampNeg) C (by decide) (fun _ => rfl) rfl hi25 dX8_race_430 ?_
    generalize hI26 : up3 (up3 I22 25 0 ((x5 + 0).toNatClampNeg) r22) 25 0 ((x5 + 7).toNatClampNeg) (((up3 I22 25 0 ((x5 + 0).toNatClampNeg) r22) 25 0 ((x5 + 7).toNatClampNeg)) + 1) = I26
    replace h := h I26 hI26.symm
    refine f_iinc (v := x4 + 1) (lv' := [(4, .int (x4 + 1)), (0, .ref (gad g 8 0)), (2, .int x2), (3, .int x3), (5, .int x5), (6, .int x6)]) C dX8_race_431 hl (k := 3) rfl rfl (by decide) rfl (fun ls hl => ?_)
    refine f_goto (tgt := 214) C dX8_race_434 (by decide) ?_
    exact hC214 _ _ _ _ _ h ls (lv_sub hl [1, 2, 3, 0] rfl)
  · replace h := h.2 c19
    refine f_aload_n C dX8_race_356 rfl (lv_at hl 0 rfl) ?_
    refine ge_RX8_7 C (by decide) dX8_race_357 ?_
    refine f_iload C dX8_race_360 (lv_at hl 4 rfl) ?_
    refine f_bipush (v := 9) C dX8_race_362 (by decide) ?_
    refine f_iadd C dX8_race_364 ?_
    refine f_iload C dX8_race_365 (lv_at hl 5 rfl) ?_
    refine f_iadd C dX8_race_367 ?_
    refine f_aload_n C dX8_race_368 rfl (lv_at hl 0 rfl) ?_
    refine ge_RX8_38 C (by decide) dX8_race_369 ?_
    refine f_iload C dX8_race_372 (lv_at hl 5 rfl) ?_
    obtain ⟨hi27, h⟩ := h
    refine al_k (n := 12) (k := x6.toNatClampNeg) C (by decide) rfl rfl hi27 dX8_race_374 ?_
    obtain ⟨hi28, h⟩ := h
    refine as_k (n := 171) (k := ((x5 + 9) + x6).toNatClampNeg) C (by decide) (fun _ => rfl) rfl hi28 dX8_race_375 ?_
    refine f_iinc (v := x6 + 1) (lv' := [(6, .int (x6 + 1)), (0, .ref (gad g 8 0)), (2, .int x2), (3, .int x3), (4, .int x4), (5, .int x5)]) C dX8_race_376 hl (k := 5) rfl rfl (by decide) rfl (fun ls hl => ?_)
    refine f_goto (tgt := 349) C dX8_race_379 (by decide) ?_
    exact hC349 _ _ _ _ _ _ _ h ls (lv_sub hl [1, 2, 3, 4, 5, 0] rfl)

def L_X8_race_349 (Q : Int32 → MI → MJ → Prop) (C214 : MI → MJ → Int32 → Int32 → Int32 → Prop) : Nat → MI → MJ → Int32 → Int32 → Int32 → Int32 → Int32 → Prop
  | 0 => fun _ _ _ _ _ _ _ => False
  | n + 1 => fun I J x2 x3 x4 x5 x6 => B_X8_race_349 Q C214 (L_X8_race_349 Q C214 n) I J x2 x3 x4 x5 x6
theorem t_X8_race_349 {p : Program} {l : Launch} {e : Env} {R : Room} {s : State} {m : MethodId} {args : Array Value} {below : List Frame} {meth : Method} {c : Code} {g : Geo} (C : Cx g p s m args meth c cX8_race 7 RX8 (some .int)) (hR : 2 ≤ R.frames ∧ 48 ≤ R.locals) {Q : Int32 → MI → MJ → Prop} {C214 : MI → MJ → Int32 → Int32 → Int32 → Prop} (hC214 : ∀ (I : MI) (J : MJ) (x2 : Int32) (x3 : Int32) (x4 : Int32), C214 I J x2 x3 x4 → ∀ ls : Array Slot, lv_has ls 7 [(0, .ref (gad g 8 0)), (2, .int x2), (3, .int x3), (4, .int x4)] → Wf p l e R s m args below meth c (MQ below (Qg g (PI Q)) args s 0 0 (gA g)) g I J (F0 m 214 ls [])) : ∀ (n : Nat), ∀ (I : MI) (J : MJ) (x2 : Int32) (x3 : Int32) (x4 : Int32) (x5 : Int32) (x6 : Int32), L_X8_race_349 Q C214 n I J x2 x3 x4 x5 x6 → ∀ ls : Array Slot, lv_has ls 7 [(0, .ref (gad g 8 0)), (2, .int x2), (3, .int x3), (4, .int x4), (5, .int x5), (6, .int x6)] → Wf p l e R s m args below meth c (MQ below (Qg g (PI Q)) args s 0 0 (gA g)) g I J (F0 m 349 ls []) := by
  intro n
  induction n with
  | zero => intro I J x2 x3 x4 x5 x6 h; exact h.elim
  | succ n ih => intro I J x2 x3 x4 x5 x6 h ls hl; exact b_X8_race_349 C hR hC214 ih h ls hl
def B_X8_race_260 (Q : Int32 → MI → MJ → Prop) (C214 : MI → MJ → Int32 → Int32 → Int32 → Prop) (C260 : MI → MJ → Int32 → Int32 → Int32 → Int32 → Int32 → Prop) (I : MI) (J : MJ) (x2 : Int32) (x3 : Int32) (x4 : Int32) (x5 : Int32) (x6 : Int32) : Prop :=
  (12 ≤ x6 → vp_in (x5 + 1) 171 ∧ (vp_in (3 * x4) 24 ∧ (vp_in x4 8 ∧ (wp_X8_moved (fun r15 I15 J15 => vp_in (x5 + 1) 171 ∧ (vp_in (x5 + 8) 171 ∧ (∀ I18 : MI, I18 = up3 (up3 I15 25 0 ((x5 + 1).toNatClampNeg) r15) 25 0 ((x5 + 8).toNatClampNeg) ((up3 I15 25 0 ((x5 + 1).toNatClampNeg) r15) 8 0 19) → (∃ n : Nat, L_X8_race_349 Q C214 n I18 J15 x2 x3 x4 x5 0)))) I J (I 25 0 ((x5 + 1).toNatClampNeg)) ((I 31 0 ((3 * x4).toNatClampNeg)) + (I 36 0 (x4.toNatClampNeg))))))) ∧
  (¬ (12 ≤ x6) → vp_in ((x5 + 9) + x6) 171 ∧ (vp_in x6 12 ∧ (C260 (up3 I 34 0 (x6.toNatClampNeg) (I 25 0 (((x5 + 9) + x6).toNatClampNeg))) J x2 x3 x4 x5 (x6 + 1))))
set_option maxRecDepth 20000 in
theorem b_X8_race_260 {p : Program} {l : Launch} {e : Env} {R : Room} {s : State} {m : MethodId} {args : Array Value} {below : List Frame} {meth : Method} {c : Code} {g : Geo} (C : Cx g p s m args meth c cX8_race 7 RX8 (some .int)) (hR : 2 ≤ R.frames ∧ 48 ≤ R.locals) {Q : Int32 → MI → MJ → Prop} {C214 : MI → MJ → Int32 → Int32 → Int32 → Prop} (hC214 : ∀ (I : MI) (J : MJ) (x2 : Int32) (x3 : Int32) (x4 : Int32), C214 I J x2 x3 x4 → ∀ ls : Array Slot, lv_has ls 7 [(0, .ref (gad g 8 0)), (2, .int x2), (3, .int x3), (4, .int x4)] → Wf p l e R s m args below meth c (MQ below (Qg g (PI Q)) args s 0 0 (gA g)) g I J (F0 m 214 ls [])) {C260 : MI → MJ → Int32 → Int32 → Int32 → Int32 → Int32 → Prop} (hC260 : ∀ (I : MI) (J : MJ) (x2 : Int32) (x3 : Int32) (x4 : Int32) (x5 : Int32) (x6 : Int32), C260 I J x2 x3 x4 x5 x6 → ∀ ls : Array Slot, lv_has ls 7 [(0, .ref (gad g 8 0)), (2, .int x2), (3, .int x3), (4, .int x4), (5, .int x5), (6, .int x6)] → Wf p l e R s m args below meth c (MQ below (Qg g (PI Q)) args s 0 0 (gA g)) g I J (F0 m 260 ls [])) {I : MI} {J : MJ} {x2 : Int32} {x3 : Int32} {x4 : Int32} {x5 : Int32} {x6 : Int32} (h : B_X8_race_260 Q C214 C260 I J x2 x3 x4 x5 x6) (ls : Array Slot) (hl : lv_has ls 7 [(0, .ref (gad g 8 0)), (2, .int x2), (3, .int x3), (4, .int x4), (5, .int x5), (6, .int x6)]) : Wf p l e R s m args below meth c (MQ below (Qg g (PI Q)) args s 0 0 (gA g)) g I J (F0 m 260 ls []) := by
  refine f_iload C dX8_race_260 (lv_at hl 5 rfl) ?_
  refine f_bipush (v := 12) C dX8_race_262 (by decide) ?_
  refine f_icmp_ge (tgt := 293) C dX8_race_264 (by decide) (fun c11 => ?_) (fun c11 => ?_)
  · replace h := h.1 c11
    refine f_aload_n C dX8_race_293 rfl (lv_at hl 0 rfl) ?_
    refine ge_RX8_7 C (by decide) dX8_race_294 ?_
    refine f_iload C dX8_race_297 (lv_at hl 4 rfl) ?_
    refine f_iconst (v := 1) C dX8_race_299 (by decide) ?_
    refine f_iadd C dX8_race_300 ?_
    refine f_aload_n C dX8_race_301 rfl (lv_at hl 0 rfl) ?_
    refine f_aload_n C dX8_race_302 rfl (lv_at hl 0 rfl) ?_
    refine ge_RX8_7 C (by decide) dX8_race_303 ?_
    refine f_iload C dX8_race_306 (lv_at hl 4 rfl) ?_
    refine f_iconst (v := 1) C dX8_race_308 (by decide) ?_
    refine f_iadd C dX8_race_309 ?_
    obtain ⟨hi12, h⟩ := h
    refine al_k (n := 171) (k := (x5 + 1).toNatClampNeg) C (by decide) rfl rfl hi12 dX8_race_310 ?_
    refine f_aload_n C dX8_race_311 rfl (lv_at hl 0 rfl) ?_
    refine ge_RX8_29 C (by decide) dX8_race_312 ?_
    refine f_iconst (v := 3) C dX8_race_315 (by decide) ?_
    refine f_iload C dX8_race_316 (lv_at hl 3 rfl) ?_
    refine f_imul C dX8_race_318 ?_
    obtain ⟨hi13, h⟩ := h
    refine al_k (n := 24) (k := (3 * x4).toNatClampNeg) C (by decide) rfl rfl hi13 dX8_race_319 ?_
    refine f_aload_n C dX8_race_320 rfl (lv_at hl 0 rfl) ?_
    refine ge_RX8_44 C (by decide) dX8_race_321 ?_
    refine f_iload C dX8_race_324 (lv_at hl 3 rfl) ?_
    obtain ⟨hi14, h⟩ := h
    refine al_k (n := 8) (k := x4.toNatClampNeg) C (by decide) rfl rfl hi14 dX8_race_326 ?_
    refine f_iadd C dX8_race_327 ?_
    refine f_cVi (As := [.int (I 25 0 ((x5 + 1).toNatClampNeg)), .int ((I 31 0 ((3 * x4).toNatClampNeg)) + (I 36 0 (x4.toNatClampNeg)))]) (rest := [.int (x5 + 1), .ref (gad g 25 0)]) (n := 2) (T0 := TX8) (N := 25) C (c_X8_moved h) ok_X8_moved im_X8_moved se_X8_moved kw_RX8_148 ⟨Nat.le_trans (by decide) hR.1, Nat.le_trans (by decide) hR.2⟩ (by decide) rfl rfl rfl hl.1 (Nat.le_of_ble_eq_true rfl) dX8_race_328 (fun r15 I15 J15 h => ?_)
    obtain ⟨hi16, h⟩ := h
    refine as_k (n := 171) (k := (x5 + 1).toNatClampNeg) C (by decide) (fun _ => rfl) rfl hi16 dX8_race_331 ?_
    refine f_aload_n C dX8_race_332 rfl (lv_at hl 0 rfl) ?_
    refine ge_RX8_7 C (by decide) dX8_race_333 ?_
    refine f_iload C dX8_race_336 (lv_at hl 4 rfl) ?_
    refine f_bipush (v := 8) C dX8_race_338 (by decide) ?_
    refine f_iadd C dX8_race_340 ?_
    refine f_aload_n C dX8_race_341 rfl (lv_at hl 0 rfl) ?_
    refine ge_RX8_119 C (by decide) dX8_race_342 ?_
    obtain ⟨hi17, h⟩ := h
    refine as_k (n := 171) (k := (x5 + 8).toNatClampNeg) C (by decide) (fun _ => rfl) rfl hi17 dX8_race_345 ?_
    generalize hI18 : up3 (up3 I15 25 0 ((x5 + 1).toNatClampNeg) r15) 25 0 ((x5 + 8).toNatClampNeg) ((up3 I15 25 0 ((x5 + 1).toNatClampNeg) r15) 8 0 19) = I18
    replace h := h I18 hI18.symm
    refine f_iconst (v := 0) C dX8_race_346 (by decide) ?_
    refine f_istore (lv' := [(6, .int 0), (0, .ref (gad g 8 0)), (2, .int x2), (3, .int x3), (4, .int x4), (5, .int x5)]) C dX8_race_347 hl (by decide) rfl (fun ls hl => ?_)
    obtain ⟨n, h⟩ := h
    exact t_X8_race_349 C hR hC214 n _ _ _ _ _ _ _ h ls (lv_sub hl [1, 2, 3, 4, 5, 0] rfl)
  · replace h := h.2 c11
    refine f_aload_n C dX8_race_267 rfl (lv_at hl 0 rfl) ?_
    refine ge_RX8_38 C (by decide) dX8_race_268 ?_
    refine f_iload C dX8_race_271 (lv_at hl 5 rfl) ?_
    refine f_aload_n C dX8_race_273 rfl (lv_at hl 0 rfl) ?_
    refine ge_RX8_7 C (by decide) dX8_race_274 ?_
    refine f_iload C dX8_race_277 (lv_at hl 4 rfl) ?_
    refine f_bipush (v := 9) C dX8_race_279 (by decide) ?_
    refine f_iadd C dX8_race_281 ?_
    refine f_iload C dX8_race_282 (lv_at hl 5 rfl) ?_
    refine f_iadd C dX8_race_284 ?_
    obtain ⟨hi29, h⟩ := h
    refine al_k (n := 171) (k := ((x5 + 9) + x6).toNatClampNeg) C (by decide) rfl rfl hi29 dX8_race_285 ?_
    obtain ⟨hi30, h⟩ := h
    refine as_k (n := 12) (k := x6.toNatClampNeg) C (by decide) (fun _ => rfl) rfl hi30 dX8_race_286 ?_
    refine f_iinc (v := x6 + 1) (lv' := [(6, .int (x6 + 1)), (0, .ref (gad g 8 0)), (2, .int x2), (3, .int x3), (4, .int x4), (5, .int x5)]) C dX8_race_287 hl (k := 5) rfl rfl (by decide) rfl (fun ls hl => ?_)
    refine f_goto (tgt := 260) C dX8_race_290 (by decide) ?_
    exact hC260 _ _ _ _ _ _ _ h ls (lv_sub hl [1, 2, 3, 4, 5, 0] rfl)

def L_X8_race_260 (Q : Int32 → MI → MJ → Prop) (C214 : MI → MJ → Int32 → Int32 → Int32 → Prop) : Nat → MI → MJ → Int32 → Int32 → Int32 → Int32 → Int32 → Prop
  | 0 => fun _ _ _ _ _ _ _ => False
  | n + 1 => fun I J x2 x3 x4 x5 x6 => B_X8_race_260 Q C214 (L_X8_race_260 Q C214 n) I J x2 x3 x4 x5 x6
theorem t_X8_race_260 {p : Program} {l : Launch} {e : Env} {R : Room} {s : State} {m : MethodId} {args : Array Value} {below : List Frame} {meth : Method} {c : Code} {g : Geo} (C : Cx g p s m args meth c cX8_race 7 RX8 (some .int)) (hR : 2 ≤ R.frames ∧ 48 ≤ R.locals) {Q : Int32 → MI → MJ → Prop} {C214 : MI → MJ → Int32 → Int32 → Int32 → Prop} (hC214 : ∀ (I : MI) (J : MJ) (x2 : Int32) (x3 : Int32) (x4 : Int32), C214 I J x2 x3 x4 → ∀ ls : Array Slot, lv_has ls 7 [(0, .ref (gad g 8 0)), (2, .int x2), (3, .int x3), (4, .int x4)] → Wf p l e R s m args below meth c (MQ below (Qg g (PI Q)) args s 0 0 (gA g)) g I J (F0 m 214 ls [])) : ∀ (n : Nat), ∀ (I : MI) (J : MJ) (x2 : Int32) (x3 : Int32) (x4 : Int32) (x5 : Int32) (x6 : Int32), L_X8_race_260 Q C214 n I J x2 x3 x4 x5 x6 → ∀ ls : Array Slot, lv_has ls 7 [(0, .ref (gad g 8 0)), (2, .int x2), (3, .int x3), (4, .int x4), (5, .int x5), (6, .int x6)] → Wf p l e R s m args below meth c (MQ below (Qg g (PI Q)) args s 0 0 (gA g)) g I J (F0 m 260 ls []) := by
  intro n
  induction n with
  | zero => intro I J x2 x3 x4 x5 x6 h; exact h.elim
  | succ n ih => intro I J x2 x3 x4 x5 x6 h ls hl; exact b_X8_race_260 C hR hC214 ih h ls hl
def B_X8_race_214 (Q : Int32 → MI → MJ → Prop) (C214 : MI → MJ → Int32 → Int32 → Int32 → Prop) (I : MI) (J : MJ) (x2 : Int32) (x3 : Int32) (x4 : Int32) : Prop :=
  ((I 25 0 168) ≤ x4 → Q x3 (up3 (up3 I 8 0 14 x2) 25 0 170 (((up3 I 8 0 14 x2) 25 0 170) + 1)) J) ∧
  (¬ ((I 25 0 168) ≤ x4) → wp_X8_has (fun r8 I8 J8 => (r8 = 0 → C214 I8 J8 x2 x3 (x4 + 1)) ∧
  (¬ (r8 = 0) → vp_in ((21 * x4) + 8) 171 ∧ (∃ n : Nat, L_X8_race_260 Q C214 n (up3 I8 8 0 19 (I8 25 0 (((21 * x4) + 8).toNatClampNeg))) J8 x2 x3 x4 (21 * x4) 0))) I J x2 x4)
set_option maxRecDepth 20000 in
theorem b_X8_race_214 {p : Program} {l : Launch} {e : Env} {R : Room} {s : State} {m : MethodId} {args : Array Value} {below : List Frame} {meth : Method} {c : Code} {g : Geo} (C : Cx g p s m args meth c cX8_race 7 RX8 (some .int)) (hR : 2 ≤ R.frames ∧ 48 ≤ R.locals) {Q : Int32 → MI → MJ → Prop} {C214 : MI → MJ → Int32 → Int32 → Int32 → Prop} (hC214 : ∀ (I : MI) (J : MJ) (x2 : Int32) (x3 : Int32) (x4 : Int32), C214 I J x2 x3 x4 → ∀ ls : Array Slot, lv_has ls 7 [(0, .ref (gad g 8 0)), (2, .int x2), (3, .int x3), (4, .int x4)] → Wf p l e R s m args below meth c (MQ below (Qg g (PI Q)) args s 0 0 (gA g)) g I J (F0 m 214 ls [])) {I : MI} {J : MJ} {x2 : Int32} {x3 : Int32} {x4 : Int32} (h : B_X8_race_214 Q C214 I J x2 x3 x4) (ls : Array Slot) (hl : lv_has ls 7 [(0, .ref (gad g 8 0)), (2, .int x2), (3, .int x3), (4, .int x4)]) : Wf p l e R s m args below meth c (MQ below (Qg g (PI Q)) args s 0 0 (gA g)) g I J (F0 m 214 ls []) := by
  refine f_iload C dX8_race_214 (lv_at hl 3 rfl) ?_
  refine f_aload_n C dX8_race_216 rfl (lv_at hl 0 rfl) ?_
  refine ge_RX8_7 C (by decide) dX8_race_217 ?_
  refine f_sipush (v := 168) C dX8_race_220 (by decide) ?_
  refine al_k (n := 171) (k := 168) C (by decide) rfl (by decide) (vin_k (by decide)) dX8_race_223 ?_
  refine f_icmp_ge (tgt := 437) C dX8_race_224 (by decide) (fun c7 => ?_) (fun c7 => ?_)
  · replace h := h.1 c7
    refine f_aload_n C dX8_race_437 rfl (lv_at hl 0 rfl) ?_
    refine f_iload_n C dX8_race_438 rfl (lv_at hl 1 rfl) ?_
    refine pu_RX8_151 C (by decide) dX8_race_439 ?_
    refine f_aload_n C dX8_race_442 rfl (lv_at hl 0 rfl) ?_
    refine ge_RX8_7 C (by decide) dX8_race_443 ?_
    refine f_sipush (v := 170) C dX8_race_446 (by decide) ?_
    refine f_dup2_11 C dX8_race_449 rfl rfl ?_
    refine al_k (n := 171) (k := 170) C (by decide) rfl (by decide) (vin_k (by decide)) dX8_race_450 ?_
    refine f_iconst (v := 1) C dX8_race_451 (by decide) ?_
    refine f_iadd C dX8_race_452 ?_
    refine as_k (n := 171) (k := 170) C (by decide) (fun _ => rfl) (by decide) (vin_k (by decide)) dX8_race_453 ?_
    refine f_iload_n C dX8_race_454 rfl (lv_at hl 2 rfl) ?_
    exact f_iret C h dX8_race_455
  · replace h := h.2 c7
    refine f_iload_n C dX8_race_227 rfl (lv_at hl 1 rfl) ?_
    refine f_iload C dX8_race_228 (lv_at hl 3 rfl) ?_
    refine f_cSi (As := [.int x2, .int x4]) (rest := []) (n := 2) C (c_X8_has h) ok_X8_has sm_X8_has kw_RX8_132 ⟨Nat.le_trans (by decide) hR.1, Nat.le_trans (by decide) hR.2⟩ rfl hl.1 (Nat.le_of_ble_eq_true rfl) dX8_race_230 (fun r8 I8 J8 h => ?_)
    refine f_if_eq (tgt := 431) C dX8_race_233 (by decide) (fun c9 => ?_) (fun c9 => ?_)
    · replace h := h.1 c9
      refine f_iinc (v := x4 + 1) (lv' := [(4, .int (x4 + 1)), (0, .ref (gad g 8 0)), (2, .int x2), (3, .int x3)]) C dX8_race_431 hl (k := 3) rfl rfl (by decide) rfl (fun ls hl => ?_)
      refine f_goto (tgt := 214) C dX8_race_434 (by decide) ?_
      exact hC214 _ _ _ _ _ h ls (lv_sub hl [1, 2, 3, 0] rfl)
    · replace h := h.2 c9
      refine f_bipush (v := 21) C dX8_race_236 (by decide) ?_
      refine f_iload C dX8_race_238 (lv_at hl 3 rfl) ?_
      refine f_imul C dX8_race_240 ?_
      refine f_istore (lv' := [(5, .int (21 * x4)), (0, .ref (gad g 8 0)), (2, .int x2), (3, .int x3), (4, .int x4)]) C dX8_race_241 hl (by decide) rfl (fun ls hl => ?_)
      refine f_aload_n C dX8_race_243 rfl (lv_at hl 1 rfl) ?_
      refine f_aload_n C dX8_race_244 rfl (lv_at hl 1 rfl) ?_
      refine ge_RX8_7 C (by decide) dX8_race_245 ?_
      refine f_iload C dX8_race_248 (lv_at hl 0 rfl) ?_
      refine f_bipush (v := 8) C dX8_race_250 (by decide) ?_
      refine f_iadd C dX8_race_252 ?_
      obtain ⟨hi10, h⟩ := h
      refine al_k (n := 171) (k := ((21 * x4) + 8).toNatClampNeg) C (by decide) rfl rfl hi10 dX8_race_253 ?_
      refine pu_RX8_119 C (by decide) dX8_race_254 ?_
      refine f_iconst (v := 0) C dX8_race_257 (by decide) ?_
      refine f_istore (lv' := [(6, .int 0), (5, .int (21 * x4)), (0, .ref (gad g 8 0)), (2, .int x2), (3, .int x3), (4, .int x4)]) C dX8_race_258 hl (by decide) rfl (fun ls hl => ?_)
      obtain ⟨n, h⟩ := h
      exact t_X8_race_260 C hR hC214 n _ _ _ _ _ _ _ h ls (lv_sub hl [2, 3, 4, 5, 1, 0] rfl)

def L_X8_race_214 (Q : Int32 → MI → MJ → Prop) : Nat → MI → MJ → Int32 → Int32 → Int32 → Prop
  | 0 => fun _ _ _ _ _ => False
  | n + 1 => fun I J x2 x3 x4 => B_X8_race_214 Q (L_X8_race_214 Q n) I J x2 x3 x4
theorem t_X8_race_214 {p : Program} {l : Launch} {e : Env} {R : Room} {s : State} {m : MethodId} {args : Array Value} {below : List Frame} {meth : Method} {c : Code} {g : Geo} (C : Cx g p s m args meth c cX8_race 7 RX8 (some .int)) (hR : 2 ≤ R.frames ∧ 48 ≤ R.locals) {Q : Int32 → MI → MJ → Prop} : ∀ (n : Nat), ∀ (I : MI) (J : MJ) (x2 : Int32) (x3 : Int32) (x4 : Int32), L_X8_race_214 Q n I J x2 x3 x4 → ∀ ls : Array Slot, lv_has ls 7 [(0, .ref (gad g 8 0)), (2, .int x2), (3, .int x3), (4, .int x4)] → Wf p l e R s m args below meth c (MQ below (Qg g (PI Q)) args s 0 0 (gA g)) g I J (F0 m 214 ls []) := by
  intro n
  induction n with
  | zero => intro I J x2 x3 x4 h; exact h.elim
  | succ n ih => intro I J x2 x3 x4 h ls hl; exact b_X8_race_214 C hR ih h ls hl
def J_X8_race_198 (Q : Int32 → MI → MJ → Prop) (C35 : MI → MJ → Int32 → Int32 → Int32 → Int32 → Prop) (I : MI) (J : MJ) (x1 : Int32) (x2 : Int32) (x4 : Int32) : Prop :=
  C35 I J x1 x2 x4 (x4 + 1)
set_option maxRecDepth 20000 in
theorem t_X8_race_198 {p : Program} {l : Launch} {e : Env} {R : Room} {s : State} {m : MethodId} {args : Array Value} {below : List Frame} {meth : Method} {c : Code} {g : Geo} (C : Cx g p s m args meth c cX8_race 7 RX8 (some .int)) (hR : 2 ≤ R.frames ∧ 48 ≤ R.locals) {Q : Int32 → MI → MJ → Prop} {C35 : MI → MJ → Int32 → Int32 → Int32 → Int32 → Prop} (hC35 : ∀ (I : MI) (J : MJ) (x1 : Int32) (x2 : Int32) (x3 : Int32) (x4 : Int32), C35 I J x1 x2 x3 x4 → ∀ ls : Array Slot, lv_has ls 7 [(0, .ref (gad g 8 0)), (1, .int x1), (2, .int x2), (3, .int x3), (4, .int x4)] → Wf p l e R s m args below meth c (MQ below (Qg g (PI Q)) args s 0 0 (gA g)) g I J (F0 m 35 ls [])) {I : MI} {J : MJ} {x1 : Int32} {x2 : Int32} {x4 : Int32} (h : J_X8_race_198 Q C35 I J x1 x2 x4) (ls : Array Slot) (hl : lv_has ls 7 [(0, .ref (gad g 8 0)), (1, .int x1), (2, .int x2), (4, .int x4)]) : Wf p l e R s m args below meth c (MQ below (Qg g (PI Q)) args s 0 0 (gA g)) g I J (F0 m 198 ls []) := by
  refine f_iload C dX8_race_198 (lv_at hl 3 rfl) ?_
  refine f_goto (tgt := 204) C dX8_race_200 (by decide) ?_
  refine f_istore_n (lv' := [(3, .int x4), (0, .ref (gad g 8 0)), (1, .int x1), (2, .int x2), (4, .int x4)]) C dX8_race_204 rfl hl (by decide) rfl (fun ls hl => ?_)
  refine f_iinc (v := x4 + 1) (lv' := [(4, .int (x4 + 1)), (3, .int x4), (0, .ref (gad g 8 0)), (1, .int x1), (2, .int x2)]) C dX8_race_205 hl (k := 4) rfl rfl (by decide) rfl (fun ls hl => ?_)
  refine f_goto (tgt := 35) C dX8_race_208 (by decide) ?_
  exact hC35 _ _ _ _ _ _ h ls (lv_sub hl [2, 3, 4, 1, 0] rfl)

def B_X8_race_35 (Q : Int32 → MI → MJ → Prop) (C35 : MI → MJ → Int32 → Int32 → Int32 → Int32 → Prop) (I : MI) (J : MJ) (x1 : Int32) (x2 : Int32) (x3 : Int32) (x4 : Int32) : Prop :=
  ((I 25 0 168) ≤ x4 → ∃ n : Nat, L_X8_race_214 Q n I J x2 x3 0) ∧
  (¬ ((I 25 0 168) ≤ x4) → wp_X8_has (fun r31 I31 J31 => (r31 = 0 → C35 I31 J31 x1 x2 x3 (x4 + 1)) ∧
  (¬ (r31 = 0) → ¬ ((2 * ((up3 I31 25 0 169 (((I31 25 0 169) * 1103515245) + 12345)) 28 0 0)) + 1) = 0 ∧ (∀ v34 : Int32, v34 = (((((up3 I31 25 0 169 (((I31 25 0 169) * 1103515245) + 12345)) 25 0 169) >>> ((16 : Int32) &&& 31)) &&& 65535) - ((((up3 I31 25 0 169 (((I31 25 0 169) * 1103515245) + 12345)) 25 0 169) >>> ((16 : Int32) &&& 31)) &&& 65535) / ((2 * ((up3 I31 25 0 169 (((I31 25 0 169) * 1103515245) + 12345)) 28 0 0)) + 1) * ((2 * ((up3 I31 25 0 169 (((I31 25 0 169) * 1103515245) + 12345)) 28 0 0)) + 1)) - ((up3 I31 25 0 169 (((I31 25 0 169) * 1103515245) + 12345)) 28 0 0) → (wp_X8_bare (fun r35 I35 J35 => vp_in x4 8 ∧ (vp_in (3 * x4) 24 ∧ (vp_in x4 8 ∧ (vp_in ((3 * x4) + 1) 24 ∧ (∀ I40 : MI, I40 = up3 (up3 I35 31 0 ((3 * x4).toNatClampNeg) ((r35 + v34) - (I35 36 0 (x4.toNatClampNeg)))) 31 0 (((3 * x4) + 1).toNatClampNeg) ((up3 I35 31 0 ((3 * x4).toNatClampNeg) ((r35 + v34) - (I35 36 0 (x4.toNatClampNeg)))) 36 0 (x4.toNatClampNeg)) → (vp_in ((3 * x4) + 2) 24 ∧ ((x3 = ((-9)) → J_X8_race_198 Q C35 (up3 I40 31 0 (((3 * x4) + 2).toNatClampNeg) v34) J35 x1 x2 x4) ∧
  (¬ (x3 = ((-9))) → vp_in (3 * x4) 24 ∧ (vp_in (3 * x3) 24 ∧ ((((up3 I40 31 0 (((3 * x4) + 2).toNatClampNeg) v34) 31 0 ((3 * x4).toNatClampNeg)) ≤ ((up3 I40 31 0 (((3 * x4) + 2).toNatClampNeg) v34) 31 0 ((3 * x3).toNatClampNeg)) → C35 (up3 I40 31 0 (((3 * x4) + 2).toNatClampNeg) v34) J35 x1 x2 x3 (x4 + 1)) ∧
  (¬ (((up3 I40 31 0 (((3 * x4) + 2).toNatClampNeg) v34) 31 0 ((3 * x4).toNatClampNeg)) ≤ ((up3 I40 31 0 (((3 * x4) + 2).toNatClampNeg) v34) 31 0 ((3 * x3).toNatClampNeg))) → J_X8_race_198 Q C35 (up3 I40 31 0 (((3 * x4) + 2).toNatClampNeg) v34) J35 x1 x2 x4))))))))))) (up3 I31 25 0 169 (((I31 25 0 169) * 1103515245) + 12345)) J31 x4 x1)))) I J x2 x4)
set_option maxRecDepth 20000 in
theorem b_X8_race_35 {p : Program} {l : Launch} {e : Env} {R : Room} {s : State} {m : MethodId} {args : Array Value} {below : List Frame} {meth : Method} {c : Code} {g : Geo} (C : Cx g p s m args meth c cX8_race 7 RX8 (some .int)) (hR : 2 ≤ R.frames ∧ 48 ≤ R.locals) {Q : Int32 → MI → MJ → Prop} {C35 : MI → MJ → Int32 → Int32 → Int32 → Int32 → Prop} (hC35 : ∀ (I : MI) (J : MJ) (x1 : Int32) (x2 : Int32) (x3 : Int32) (x4 : Int32), C35 I J x1 x2 x3 x4 → ∀ ls : Array Slot, lv_has ls 7 [(0, .ref (gad g 8 0)), (1, .int x1), (2, .int x2), (3, .int x3), (4, .int x4)] → Wf p l e R s m args below meth c (MQ below (Qg g (PI Q)) args s 0 0 (gA g)) g I J (F0 m 35 ls [])) {I : MI} {J : MJ} {x1 : Int32} {x2 : Int32} {x3 : Int32} {x4 : Int32} (h : B_X8_race_35 Q C35 I J x1 x2 x3 x4) (ls : Array Slot) (hl : lv_has ls 7 [(0, .ref (gad g 8 0)), (1, .int x1), (2, .int x2), (3, .int x3), (4, .int x4)]) : Wf p l e R s m args below meth c (MQ below (Qg g (PI Q)) args s 0 0 (gA g)) g I J (F0 m 35 ls []) := by
  refine f_iload C dX8_race_35 (lv_at hl 4 rfl) ?_
  refine f_aload_n C dX8_race_37 rfl (lv_at hl 0 rfl) ?_
  refine ge_RX8_7 C (by decide) dX8_race_38 ?_
  refine f_sipush (v := 168) C dX8_race_41 (by decide) ?_
  refine al_k (n := 171) (k := 168) C (by decide) rfl (by decide) (vin_k (by decide)) dX8_race_44 ?_
  refine f_icmp_ge (tgt := 211) C dX8_race_45 (by decide) (fun c6 => ?_) (fun c6 => ?_)
  · replace h := h.1 c6
    refine f_iconst (v := 0) C dX8_race_211 (by decide) ?_
    refine f_istore (lv' := [(4, .int 0), (0, .ref (gad g 8 0)), (1, .int x1), (2, .int x2), (3, .int x3)]) C dX8_race_212 hl (by decide) rfl (fun ls hl => ?_)
    obtain ⟨n, h⟩ := h
    exact t_X8_race_214 C hR n _ _ _ _ _ h ls (lv_sub hl [1, 3, 4, 0] rfl)
  · replace h := h.2 c6
    refine f_iload_n C dX8_race_48 rfl (lv_at hl 2 rfl) ?_
    refine f_iload C dX8_race_49 (lv_at hl 4 rfl) ?_
    refine f_cSi (As := [.int x2, .int x4]) (rest := []) (n := 2) C (c_X8_has h) ok_X8_has sm_X8_has kw_RX8_132 ⟨Nat.le_trans (by decide) hR.1, Nat.le_trans (by decide) hR.2⟩ rfl hl.1 (Nat.le_of_ble_eq_true rfl) dX8_race_51 (fun r31 I31 J31 h => ?_)
    refine f_if_eq (tgt := 205) C dX8_race_54 (by decide) (fun c32 => ?_) (fun c32 => ?_)
    · replace h := h.1 c32
      refine f_iinc (v := x4 + 1) (lv' := [(4, .int (x4 + 1)), (0, .ref (gad g 8 0)), (1, .int x1), (2, .int x2), (3, .int x3)]) C dX8_race_205 hl (k := 4) rfl rfl (by decide) rfl (fun ls hl => ?_)
      refine f_goto (tgt := 35) C dX8_race_208 (by decide) ?_
      exact hC35 _ _ _ _ _ _ h ls (lv_sub hl [1, 2, 3, 4, 0] rfl)
    · replace h := h.2 c32
      refine f_aload_n C dX8_race_57 rfl (lv_at hl 0 rfl) ?_
      refine ge_RX8_7 C (by decide) dX8_race_58 ?_
      refine f_sipush (v := 169) C dX8_race_61 (by decide) ?_
      refine f_aload_n C dX8_race_64 rfl (lv_at hl 0 rfl) ?_
      refine ge_RX8_7 C (by decide) dX8_race_65 ?_
      refine f_sipush (v := 169) C dX8_race_68 (by decide) ?_
      refine al_k (n := 171) (k := 169) C (by decide) rfl (by decide) (vin_k (by decide)) dX8_race_71 ?_
      refine f_ldc C kc_RX8_143 dX8_race_72 ?_
      refine f_imul C dX8_race_74 ?_
      refine f_sipush (v := 12345) C dX8_race_75 (by decide) ?_
      refine f_iadd C dX8_race_78 ?_
      refine as_k (n := 171) (k := 169) C (by decide) (fun _ => rfl) (by decide) (vin_k (by decide)) dX8_race_79 ?_
      refine f_aload_n C dX8_race_80 rfl (lv_at hl 0 rfl) ?_
      refine ge_RX8_7 C (by decide) dX8_race_81 ?_
      refine f_sipush (v := 169) C dX8_race_84 (by decide) ?_
      refine al_k (n := 171) (k := 169) C (by decide) rfl (by decide) (vin_k (by decide)) dX8_race_87 ?_
      refine f_bipush (v := 16) C dX8_race_88 (by decide) ?_
      refine f_ishr C dX8_race_90 ?_
      refine f_ldc C kc_RX8_144 dX8_race_91 ?_
      refine f_iand C dX8_race_93 ?_
      refine f_iconst (v := 2) C dX8_race_94 (by decide) ?_
      refine f_aload_n C dX8_race_95 rfl (lv_at hl 0 rfl) ?_
      refine ge_RX8_20 C (by decide) dX8_race_96 ?_
      refine f_iconst (v := 0) C dX8_race_99 (by decide) ?_
      refine al_k (n := 3) (k := 0) C (by decide) rfl (by decide) (vin_k (by decide)) dX8_race_100 ?_
      refine f_imul C dX8_race_101 ?_
      refine f_iconst (v := 1) C dX8_race_102 (by decide) ?_
      refine f_iadd C dX8_race_103 ?_
      obtain ⟨hz33, h⟩ := h
      refine f_irem C dX8_race_104 hz33 ?_
      refine f_aload_n C dX8_race_105 rfl (lv_at hl 0 rfl) ?_
      refine ge_RX8_20 C (by decide) dX8_race_106 ?_
      refine f_iconst (v := 0) C dX8_race_109 (by decide) ?_
      refine al_k (n := 3) (k := 0) C (by decide) rfl (by decide) (vin_k (by decide)) dX8_race_110 ?_
      refine f_isub C dX8_race_111 ?_
      generalize hv34 : (((((up3 I31 25 0 169 (((I31 25 0 169) * 1103515245) + 12345)) 25 0 169) >>> ((16 : Int32) &&& 31)) &&& 65535) - ((((up3 I31 25 0 169 (((I31 25 0 169) * 1103515245) + 12345)) 25 0 169) >>> ((16 : Int32) &&& 31)) &&& 65535) / ((2 * ((up3 I31 25 0 169 (((I31 25 0 169) * 1103515245) + 12345)) 28 0 0)) + 1) * ((2 * ((up3 I31 25 0 169 (((I31 25 0 169) * 1103515245) + 12345)) 28 0 0)) + 1)) - ((up3 I31 25 0 169 (((I31 25 0 169) * 1103515245) + 12345)) 28 0 0) = v34
      replace h := h v34 hv34.symm
      refine f_istore (lv' := [(5, .int v34), (0, .ref (gad g 8 0)), (1, .int x1), (2, .int x2), (3, .int x3), (4, .int x4)]) C dX8_race_112 hl (by decide) rfl (fun ls hl => ?_)
      refine f_aload_n C dX8_race_114 rfl (lv_at hl 1 rfl) ?_
      refine ge_RX8_29 C (by decide) dX8_race_115 ?_
      refine f_iconst (v := 3) C dX8_race_118 (by decide) ?_
      refine f_iload C dX8_race_119 (lv_at hl 5 rfl) ?_
      refine f_imul C dX8_race_121 ?_
      refine f_aload_n C dX8_race_122 rfl (lv_at hl 1 rfl) ?_
      refine f_iload C dX8_race_123 (lv_at hl 5 rfl) ?_
      refine f_iload_n C dX8_race_125 rfl (lv_at hl 2 rfl) ?_
      refine f_cVi (As := [.int x4, .int x1]) (rest := [.int (3 * x4), .ref (gad g 31 0)]) (n := 2) (T0 := TX8) (N := 25) C (c_X8_bare h) ok_X8_bare im_X8_bare se_X8_bare kw_RX8_145 ⟨Nat.le_trans (by decide) hR.1, Nat.le_trans (by decide) hR.2⟩ (by decide) rfl rfl rfl hl.1 (Nat.le_of_ble_eq_true rfl) dX8_race_126 (fun r35 I35 J35 h => ?_)
      refine f_iload C dX8_race_129 (lv_at hl 0 rfl) ?_
      refine f_iadd C dX8_race_131 ?_
      refine f_aload_n C dX8_race_132 rfl (lv_at hl 1 rfl) ?_
      refine ge_RX8_44 C (by decide) dX8_race_133 ?_
      refine f_iload C dX8_race_136 (lv_at hl 5 rfl) ?_
      obtain ⟨hi36, h⟩ := h
      refine al_k (n := 8) (k := x4.toNatClampNeg) C (by decide) rfl rfl hi36 dX8_race_138 ?_
      refine f_isub C dX8_race_139 ?_
      obtain ⟨hi37, h⟩ := h
      refine as_k (n := 24) (k := (3 * x4).toNatClampNeg) C (by decide) (fun _ => rfl) rfl hi37 dX8_race_140 ?_
      refine f_aload_n C dX8_race_141 rfl (lv_at hl 1 rfl) ?_
      refine ge_RX8_29 C (by decide) dX8_race_142 ?_
      refine f_iconst (v := 3) C dX8_race_145 (by decide) ?_
      refine f_iload C dX8_race_146 (lv_at hl 5 rfl) ?_
      refine f_imul C dX8_race_148 ?_
      refine f_iconst (v := 1) C dX8_race_149 (by decide) ?_
      refine f_iadd C dX8_race_150 ?_
      refine f_aload_n C dX8_race_151 rfl (lv_at hl 1 rfl) ?_
      refine ge_RX8_44 C (by decide) dX8_race_152 ?_
      refine f_iload C dX8_race_155 (lv_at hl 5 rfl) ?_
      obtain ⟨hi38, h⟩ := h
      refine al_k (n := 8) (k := x4.toNatClampNeg) C (by decide) rfl rfl hi38 dX8_race_157 ?_
      obtain ⟨hi39, h⟩ := h
      refine as_k (n := 24) (k := ((3 * x4) + 1).toNatClampNeg) C (by decide) (fun _ => rfl) rfl hi39 dX8_race_158 ?_
      generalize hI40 : up3 (up3 I35 31 0 ((3 * x4).toNatClampNeg) ((r35 + v34) - (I35 36 0 (x4.toNatClampNeg)))) 31 0 (((3 * x4) + 1).toNatClampNeg) ((up3 I35 31 0 ((3 * x4).toNatClampNeg) ((r35 + v34) - (I35 36 0 (x4.toNatClampNeg)))) 36 0 (x4.toNatClampNeg)) = I40
      replace h := h I40 hI40.symm
      refine f_aload_n C dX8_race_159 rfl (lv_at hl 1 rfl) ?_
      refine ge_RX8_29 C (by decide) dX8_race_160 ?_
      refine f_iconst (v := 3) C dX8_race_163 (by decide) ?_
      refine f_iload C dX8_race_164 (lv_at hl 5 rfl) ?_
      refine f_imul C dX8_race_166 ?_
      refine f_iconst (v := 2) C dX8_race_167 (by decide) ?_
      refine f_iadd C dX8_race_168 ?_
      refine f_iload C dX8_race_169 (lv_at hl 0 rfl) ?_
      obtain ⟨hi41, h⟩ := h
      refine as_k (n := 24) (k := ((3 * x4) + 2).toNatClampNeg) C (by decide) (fun _ => rfl) rfl hi41 dX8_race_171 ?_
      refine f_iload_n C dX8_race_172 rfl (lv_at hl 4 rfl) ?_
      refine f_bipush (v := (-9)) C dX8_race_173 (by decide) ?_
      refine f_icmp_eq (tgt := 198) C dX8_race_175 (by decide) (fun c42 => ?_) (fun c42 => ?_)
      · replace h := h.1 c42
        exact t_X8_race_198 C hR hC35 h ls (lv_sub hl [1, 2, 3, 5] rfl)
      · replace h := h.2 c42
        refine f_aload_n C dX8_race_178 rfl (lv_at hl 1 rfl) ?_
        refine ge_RX8_29 C (by decide) dX8_race_179 ?_
        refine f_iconst (v := 3) C dX8_race_182 (by decide) ?_
        refine f_iload C dX8_race_183 (lv_at hl 5 rfl) ?_
        refine f_imul C dX8_race_185 ?_
        obtain ⟨hi43, h⟩ := h
        refine al_k (n := 24) (k := (3 * x4).toNatClampNeg) C (by decide) rfl rfl hi43 dX8_race_186 ?_
        refine f_aload_n C dX8_race_187 rfl (lv_at hl 1 rfl) ?_
        refine ge_RX8_29 C (by decide) dX8_race_188 ?_
        refine f_iconst (v := 3) C dX8_race_191 (by decide) ?_
        refine f_iload_n C dX8_race_192 rfl (lv_at hl 4 rfl) ?_
        refine f_imul C dX8_race_193 ?_
        obtain ⟨hi44, h⟩ := h
        refine al_k (n := 24) (k := (3 * x3).toNatClampNeg) C (by decide) rfl rfl hi44 dX8_race_194 ?_
        refine f_icmp_le (tgt := 203) C dX8_race_195 (by decide) (fun c45 => ?_) (fun c45 => ?_)
        · replace h := h.1 c45
          refine f_iload_n C dX8_race_203 rfl (lv_at hl 4 rfl) ?_
          refine f_istore_n (lv' := [(3, .int x3), (5, .int v34), (0, .ref (gad g 8 0)), (1, .int x1), (2, .int x2), (4, .int x4)]) C dX8_race_204 rfl hl (by decide) rfl (fun ls hl => ?_)
          refine f_iinc (v := x4 + 1) (lv' := [(4, .int (x4 + 1)), (3, .int x3), (5, .int v34), (0, .ref (gad g 8 0)), (1, .int x1), (2, .int x2)]) C dX8_race_205 hl (k := 5) rfl rfl (by decide) rfl (fun ls hl => ?_)
          refine f_goto (tgt := 35) C dX8_race_208 (by decide) ?_
          exact hC35 _ _ _ _ _ _ h ls (lv_sub hl [3, 4, 5, 1, 0] rfl)
        · replace h := h.2 c45
          exact t_X8_race_198 C hR hC35 h ls (lv_sub hl [1, 2, 3, 5] rfl)

def L_X8_race_35 (Q : Int32 → MI → MJ → Prop) : Nat → MI → MJ → Int32 → Int32 → Int32 → Int32 → Prop
  | 0 => fun _ _ _ _ _ _ => False
  | n + 1 => fun I J x1 x2 x3 x4 => B_X8_race_35 Q (L_X8_race_35 Q n) I J x1 x2 x3 x4
theorem t_X8_race_35 {p : Program} {l : Launch} {e : Env} {R : Room} {s : State} {m : MethodId} {args : Array Value} {below : List Frame} {meth : Method} {c : Code} {g : Geo} (C : Cx g p s m args meth c cX8_race 7 RX8 (some .int)) (hR : 2 ≤ R.frames ∧ 48 ≤ R.locals) {Q : Int32 → MI → MJ → Prop} : ∀ (n : Nat), ∀ (I : MI) (J : MJ) (x1 : Int32) (x2 : Int32) (x3 : Int32) (x4 : Int32), L_X8_race_35 Q n I J x1 x2 x3 x4 → ∀ ls : Array Slot, lv_has ls 7 [(0, .ref (gad g 8 0)), (1, .int x1), (2, .int x2), (3, .int x3), (4, .int x4)] → Wf p l e R s m args below meth c (MQ below (Qg g (PI Q)) args s 0 0 (gA g)) g I J (F0 m 35 ls []) := by
  intro n
  induction n with
  | zero => intro I J x1 x2 x3 x4 h; exact h.elim
  | succ n ih => intro I J x1 x2 x3 x4 h ls hl; exact b_X8_race_35 C hR ih h ls hl
def wp_X8_race (Q : Int32 → MI → MJ → Prop) (I : MI) (J : MJ) (x1 : Int32) (x2 : Int32) : Prop :=
  wp_X8_in (fun r1 I1 J1 => (r1 = 0 → Q ((-1)) I1 J1) ∧
  (¬ (r1 = 0) → wp_X8_isField (fun r3 I3 J3 => (r3 = 0 → Q ((-1)) I3 J3) ∧
  (¬ (r3 = 0) → wp_X8_weighs (fun I5 J5 => ∃ n : Nat, L_X8_race_35 Q n I5 J5 x1 x2 ((-9)) 0) I3 J3 x2)) I1 J1 x2)) (up3 I 8 0 0 0) J x1 0 2
set_option maxRecDepth 20000 in
theorem c_X8_race {l : Launch} {g : Geo} {Q : Int32 → MI → MJ → Prop} {I : MI} {J : MJ} {x1 : Int32} {x2 : Int32} (h : wp_X8_race Q I J x1 x2) : Ct g l yX8_race cX8_race 7 (some .int) 2 48 [.ref (gad g 8 0), .int x1, .int x2] I J (PI Q) := by
  refine Ct.of (by decide) ?_
  intro p e s m below meth c C
  have hR : 2 ≤ (Rm 2 48).frames ∧ 48 ≤ (Rm 2 48).locals := ⟨Nat.le_refl _, Nat.le_refl _⟩
  generalize Rm 2 48 = R at hR ⊢
  have hl := lv_entry ([.ref (gad g 8 0), .int x1, .int x2]) (n := 7) (Nat.le_of_ble_eq_true rfl)
  rw [lg_entry_eq]
  generalize (lg_sl ([.ref (gad g 8 0), .int x1, .int x2]) ++ List.replicate (7 - (lg_sl ([.ref (gad g 8 0), .int x1, .int x2])).length) Slot.unset).toArray = ls at hl ⊢
  have hl : lv_has ls 7 [(0, .ref (gad g 8 0)), (1, .int x1), (2, .int x2)] := hl
  refine f_aload_n C dX8_race_0 rfl (lv_at hl 0 rfl) ?_
  refine f_iconst (v := 0) C dX8_race_1 (by decide) ?_
  refine pu_RX8_57 C (by decide) dX8_race_2 ?_
  refine f_iload_n C dX8_race_5 rfl (lv_at hl 1 rfl) ?_
  refine f_iconst (v := 0) C dX8_race_6 (by decide) ?_
  refine f_iconst (v := 2) C dX8_race_7 (by decide) ?_
  refine f_cSi (As := [.int x1, .int 0, .int 2]) (rest := []) (n := 3) C (c_X8_in h) ok_X8_in sm_X8_in kw_RX8_61 ⟨Nat.le_trans (by decide) hR.1, Nat.le_trans (by decide) hR.2⟩ rfl hl.1 (Nat.le_of_ble_eq_true rfl) dX8_race_8 (fun r1 I1 J1 h => ?_)
  refine f_if_eq (tgt := 22) C dX8_race_11 (by decide) (fun c2 => ?_) (fun c2 => ?_)
  · replace h := h.1 c2
    refine f_iconst (v := (-1)) C dX8_race_22 (by decide) ?_
    exact f_iret C h dX8_race_23
  · replace h := h.2 c2
    refine f_aload_n C dX8_race_14 rfl (lv_at hl 0 rfl) ?_
    refine f_iload_n C dX8_race_15 rfl (lv_at hl 2 rfl) ?_
    refine f_cVi (As := [.int x2]) (rest := []) (n := 1) (T0 := TX8) (N := 25) C (c_X8_isField h) ok_X8_isField im_X8_isField se_X8_isField kw_RX8_136 ⟨Nat.le_trans (by decide) hR.1, Nat.le_trans (by decide) hR.2⟩ (by decide) rfl rfl rfl hl.1 (Nat.le_of_ble_eq_true rfl) dX8_race_16 (fun r3 I3 J3 h => ?_)
    refine f_if_ne (tgt := 24) C dX8_race_19 (by decide) (fun c4 => ?_) (fun c4 => ?_)
    · replace h := h.2 c4
      refine f_aload_n C dX8_race_24 rfl (lv_at hl 0 rfl) ?_
      refine f_iload_n C dX8_race_25 rfl (lv_at hl 2 rfl) ?_
      refine f_cVv (As := [.int x2]) (rest := []) (n := 1) (T0 := TX8) (N := 25) C (c_X8_weighs h) ok_X8_weighs im_X8_weighs se_X8_weighs kw_RX8_139 ⟨Nat.le_trans (by decide) hR.1, Nat.le_trans (by decide) hR.2⟩ (by decide) rfl rfl rfl hl.1 (Nat.le_of_ble_eq_true rfl) dX8_race_26 (fun I5 J5 h => ?_)
      refine f_bipush (v := (-9)) C dX8_race_29 (by decide) ?_
      refine f_istore_n (lv' := [(3, .int ((-9))), (0, .ref (gad g 8 0)), (1, .int x1), (2, .int x2)]) C dX8_race_31 rfl hl (by decide) rfl (fun ls hl => ?_)
      refine f_iconst (v := 0) C dX8_race_32 (by decide) ?_
      refine f_istore (lv' := [(4, .int 0), (3, .int ((-9))), (0, .ref (gad g 8 0)), (1, .int x1), (2, .int x2)]) C dX8_race_33 hl (by decide) rfl (fun ls hl => ?_)
      obtain ⟨n, h⟩ := h
      exact t_X8_race_35 C hR n _ _ _ _ _ _ h ls (lv_sub hl [2, 3, 4, 1, 0] rfl)
    · replace h := h.1 c4
      refine f_iconst (v := (-1)) C dX8_race_22 (by decide) ?_
      exact f_iret C h dX8_race_23

def wp_X8_shown (Q : Int32 → MI → MJ → Prop) (I : MI) (J : MJ) (x1 : Int32) (x2 : Int32) : Prop :=
  wp_X8_isRunner (fun r1 I1 J1 => (r1 = 0 → Q ((-1000000)) I1 J1) ∧
  (¬ (r1 = 0) → wp_X8_has (fun r3 I3 J3 => (r3 = 0 → Q ((-1000000)) I3 J3) ∧
  (¬ (r3 = 0) → wp_X8_in (fun r5 I5 J5 => (r5 = 0 → Q ((-1000000)) I5 J5) ∧
  (¬ (r5 = 0) → vp_in ((3 * x1) + x2) 24 ∧ (Q (I5 31 0 (((3 * x1) + x2).toNatClampNeg)) I5 J5))) I3 J3 x2 0 2)) I1 J1 (I1 8 0 14) x1)) (up3 I 8 0 0 0) J x1
set_option maxRecDepth 20000 in
theorem c_X8_shown {l : Launch} {g : Geo} {Q : Int32 → MI → MJ → Prop} {I : MI} {J : MJ} {x1 : Int32} {x2 : Int32} (h : wp_X8_shown Q I J x1 x2) : Ct g l yX8_shown cX8_shown 3 (some .int) 2 43 [.ref (gad g 8 0), .int x1, .int x2] I J (PI Q) := by
  refine Ct.of (by decide) ?_
  intro p e s m below meth c C
  have hR : 2 ≤ (Rm 2 43).frames ∧ 43 ≤ (Rm 2 43).locals := ⟨Nat.le_refl _, Nat.le_refl _⟩
  generalize Rm 2 43 = R at hR ⊢
  have hl := lv_entry ([.ref (gad g 8 0), .int x1, .int x2]) (n := 3) (Nat.le_of_ble_eq_true rfl)
  rw [lg_entry_eq]
  generalize (lg_sl ([.ref (gad g 8 0), .int x1, .int x2]) ++ List.replicate (3 - (lg_sl ([.ref (gad g 8 0), .int x1, .int x2])).length) Slot.unset).toArray = ls at hl ⊢
  have hl : lv_has ls 3 [(0, .ref (gad g 8 0)), (1, .int x1), (2, .int x2)] := hl
  refine f_aload_n C dX8_shown_0 rfl (lv_at hl 0 rfl) ?_
  refine f_iconst (v := 0) C dX8_shown_1 (by decide) ?_
  refine pu_RX8_57 C (by decide) dX8_shown_2 ?_
  refine f_aload_n C dX8_shown_5 rfl (lv_at hl 0 rfl) ?_
  refine f_iload_n C dX8_shown_6 rfl (lv_at hl 1 rfl) ?_
  refine f_cVi (As := [.int x1]) (rest := []) (n := 1) (T0 := TX8) (N := 25) C (c_X8_isRunner h) ok_X8_isRunner im_X8_isRunner se_X8_isRunner kw_RX8_65 ⟨Nat.le_trans (by decide) hR.1, Nat.le_trans (by decide) hR.2⟩ (by decide) rfl rfl rfl hl.1 (Nat.le_of_ble_eq_true rfl) dX8_shown_7 (fun r1 I1 J1 h => ?_)
  refine f_if_eq (tgt := 46) C dX8_shown_10 (by decide) (fun c2 => ?_) (fun c2 => ?_)
  · replace h := h.1 c2
    refine f_ldc C kc_RX8_69 dX8_shown_46 ?_
    exact f_iret C h dX8_shown_48
  · replace h := h.2 c2
    refine f_aload_n C dX8_shown_13 rfl (lv_at hl 0 rfl) ?_
    refine ge_RX8_151 C (by decide) dX8_shown_14 ?_
    refine f_iload_n C dX8_shown_17 rfl (lv_at hl 1 rfl) ?_
    refine f_cSi (As := [.int (I1 8 0 14), .int x1]) (rest := []) (n := 2) C (c_X8_has h) ok_X8_has sm_X8_has kw_RX8_132 ⟨Nat.le_trans (by decide) hR.1, Nat.le_trans (by decide) hR.2⟩ rfl hl.1 (Nat.le_of_ble_eq_true rfl) dX8_shown_18 (fun r3 I3 J3 h => ?_)
    refine f_if_eq (tgt := 46) C dX8_shown_21 (by decide) (fun c4 => ?_) (fun c4 => ?_)
    · replace h := h.1 c4
      refine f_ldc C kc_RX8_69 dX8_shown_46 ?_
      exact f_iret C h dX8_shown_48
    · replace h := h.2 c4
      refine f_iload_n C dX8_shown_24 rfl (lv_at hl 2 rfl) ?_
      refine f_iconst (v := 0) C dX8_shown_25 (by decide) ?_
      refine f_iconst (v := 2) C dX8_shown_26 (by decide) ?_
      refine f_cSi (As := [.int x2, .int 0, .int 2]) (rest := []) (n := 3) C (c_X8_in h) ok_X8_in sm_X8_in kw_RX8_61 ⟨Nat.le_trans (by decide) hR.1, Nat.le_trans (by decide) hR.2⟩ rfl hl.1 (Nat.le_of_ble_eq_true rfl) dX8_shown_27 (fun r5 I5 J5 h => ?_)
      refine f_if_eq (tgt := 46) C dX8_shown_30 (by decide) (fun c6 => ?_) (fun c6 => ?_)
      · replace h := h.1 c6
        refine f_ldc C kc_RX8_69 dX8_shown_46 ?_
        exact f_iret C h dX8_shown_48
      · replace h := h.2 c6
        refine f_aload_n C dX8_shown_33 rfl (lv_at hl 0 rfl) ?_
        refine ge_RX8_29 C (by decide) dX8_shown_34 ?_
        refine f_iconst (v := 3) C dX8_shown_37 (by decide) ?_
        refine f_iload_n C dX8_shown_38 rfl (lv_at hl 1 rfl) ?_
        refine f_imul C dX8_shown_39 ?_
        refine f_iload_n C dX8_shown_40 rfl (lv_at hl 2 rfl) ?_
        refine f_iadd C dX8_shown_41 ?_
        obtain ⟨hi7, h⟩ := h
        refine al_k (n := 24) (k := ((3 * x1) + x2).toNatClampNeg) C (by decide) rfl rfl hi7 dX8_shown_42 ?_
        refine f_goto (tgt := 48) C dX8_shown_43 (by decide) ?_
        exact f_iret C h dX8_shown_48

def wp_X8_weight (Q : Int32 → MI → MJ → Prop) (I : MI) (J : MJ) (x1 : Int32) (x2 : Int32) : Prop :=
  wp_X8_isField (fun r1 I1 J1 => (r1 = 0 → Q ((-1)) I1 J1) ∧
  (¬ (r1 = 0) → wp_X8_isRunner (fun r3 I3 J3 => (r3 = 0 → Q ((-1)) I3 J3) ∧
  (¬ (r3 = 0) → wp_X8_has (fun r5 I5 J5 => (r5 = 0 → Q ((-1)) I5 J5) ∧
  (¬ (r5 = 0) → wp_X8_weighs (fun I7 J7 => vp_in x1 8 ∧ (Q (I7 36 0 (x1.toNatClampNeg)) I7 J7)) I5 J5 x2)) I3 J3 x2 x1)) I1 J1 x1)) (up3 I 8 0 0 0) J x2
set_option maxRecDepth 20000 in
theorem c_X8_weight {l : Launch} {g : Geo} {Q : Int32 → MI → MJ → Prop} {I : MI} {J : MJ} {x1 : Int32} {x2 : Int32} (h : wp_X8_weight Q I J x1 x2) : Ct g l yX8_weight cX8_weight 3 (some .int) 2 45 [.ref (gad g 8 0), .int x1, .int x2] I J (PI Q) := by
  refine Ct.of (by decide) ?_
  intro p e s m below meth c C
  have hR : 2 ≤ (Rm 2 45).frames ∧ 45 ≤ (Rm 2 45).locals := ⟨Nat.le_refl _, Nat.le_refl _⟩
  generalize Rm 2 45 = R at hR ⊢
  have hl := lv_entry ([.ref (gad g 8 0), .int x1, .int x2]) (n := 3) (Nat.le_of_ble_eq_true rfl)
  rw [lg_entry_eq]
  generalize (lg_sl ([.ref (gad g 8 0), .int x1, .int x2]) ++ List.replicate (3 - (lg_sl ([.ref (gad g 8 0), .int x1, .int x2])).length) Slot.unset).toArray = ls at hl ⊢
  have hl : lv_has ls 3 [(0, .ref (gad g 8 0)), (1, .int x1), (2, .int x2)] := hl
  refine f_aload_n C dX8_weight_0 rfl (lv_at hl 0 rfl) ?_
  refine f_iconst (v := 0) C dX8_weight_1 (by decide) ?_
  refine pu_RX8_57 C (by decide) dX8_weight_2 ?_
  refine f_aload_n C dX8_weight_5 rfl (lv_at hl 0 rfl) ?_
  refine f_iload_n C dX8_weight_6 rfl (lv_at hl 2 rfl) ?_
  refine f_cVi (As := [.int x2]) (rest := []) (n := 1) (T0 := TX8) (N := 25) C (c_X8_isField h) ok_X8_isField im_X8_isField se_X8_isField kw_RX8_136 ⟨Nat.le_trans (by decide) hR.1, Nat.le_trans (by decide) hR.2⟩ (by decide) rfl rfl rfl hl.1 (Nat.le_of_ble_eq_true rfl) dX8_weight_7 (fun r1 I1 J1 h => ?_)
  refine f_if_eq (tgt := 29) C dX8_weight_10 (by decide) (fun c2 => ?_) (fun c2 => ?_)
  · replace h := h.1 c2
    refine f_iconst (v := (-1)) C dX8_weight_29 (by decide) ?_
    exact f_iret C h dX8_weight_30
  · replace h := h.2 c2
    refine f_aload_n C dX8_weight_13 rfl (lv_at hl 0 rfl) ?_
    refine f_iload_n C dX8_weight_14 rfl (lv_at hl 1 rfl) ?_
    refine f_cVi (As := [.int x1]) (rest := []) (n := 1) (T0 := TX8) (N := 25) C (c_X8_isRunner h) ok_X8_isRunner im_X8_isRunner se_X8_isRunner kw_RX8_65 ⟨Nat.le_trans (by decide) hR.1, Nat.le_trans (by decide) hR.2⟩ (by decide) rfl rfl rfl hl.1 (Nat.le_of_ble_eq_true rfl) dX8_weight_15 (fun r3 I3 J3 h => ?_)
    refine f_if_eq (tgt := 29) C dX8_weight_18 (by decide) (fun c4 => ?_) (fun c4 => ?_)
    · replace h := h.1 c4
      refine f_iconst (v := (-1)) C dX8_weight_29 (by decide) ?_
      exact f_iret C h dX8_weight_30
    · replace h := h.2 c4
      refine f_iload_n C dX8_weight_21 rfl (lv_at hl 2 rfl) ?_
      refine f_iload_n C dX8_weight_22 rfl (lv_at hl 1 rfl) ?_
      refine f_cSi (As := [.int x2, .int x1]) (rest := []) (n := 2) C (c_X8_has h) ok_X8_has sm_X8_has kw_RX8_132 ⟨Nat.le_trans (by decide) hR.1, Nat.le_trans (by decide) hR.2⟩ rfl hl.1 (Nat.le_of_ble_eq_true rfl) dX8_weight_23 (fun r5 I5 J5 h => ?_)
      refine f_if_ne (tgt := 31) C dX8_weight_26 (by decide) (fun c6 => ?_) (fun c6 => ?_)
      · replace h := h.2 c6
        refine f_aload_n C dX8_weight_31 rfl (lv_at hl 0 rfl) ?_
        refine f_iload_n C dX8_weight_32 rfl (lv_at hl 2 rfl) ?_
        refine f_cVv (As := [.int x2]) (rest := []) (n := 1) (T0 := TX8) (N := 25) C (c_X8_weighs h) ok_X8_weighs im_X8_weighs se_X8_weighs kw_RX8_139 ⟨Nat.le_trans (by decide) hR.1, Nat.le_trans (by decide) hR.2⟩ (by decide) rfl rfl rfl hl.1 (Nat.le_of_ble_eq_true rfl) dX8_weight_33 (fun I7 J7 h => ?_)
        refine f_aload_n C dX8_weight_36 rfl (lv_at hl 0 rfl) ?_
        refine ge_RX8_44 C (by decide) dX8_weight_37 ?_
        refine f_iload_n C dX8_weight_40 rfl (lv_at hl 1 rfl) ?_
        obtain ⟨hi8, h⟩ := h
        refine al_k (n := 8) (k := x1.toNatClampNeg) C (by decide) rfl rfl hi8 dX8_weight_41 ?_
        exact f_iret C h dX8_weight_42
      · replace h := h.1 c6
        refine f_iconst (v := (-1)) C dX8_weight_29 (by decide) ?_
        exact f_iret C h dX8_weight_30

def J_X8_races_119 (Q : MI → MJ → Prop) (C10 : MI → MJ → Int32 → Int32 → Int32 → Int32 → Prop) (C35 : MI → MJ → Int32 → Int32 → Int32 → Int32 → Int32 → Prop) (C76 : MI → MJ → Int32 → Int32 → Int32 → Int32 → Int32 → Int32 → Int64 → Int32 → Prop) (I : MI) (J : MJ) (x1 : Int32) (x2 : Int32) (x3 : Int32) (x4 : Int32) (x5 : Int32) (x6 : Int32) (x7 : Int64) (x9 : Int32) (s0 : Int32) (s1 : Int32) : Prop :=
  wp_X8_bare (fun r16 I16 J16 => vp_in x9 8 ∧ (∀ v18 : Int32, v18 = ((s1 - s0) - r16) + (I16 36 0 (x9.toNatClampNeg)) → (wp_X8_within (fun r19 I19 J19 => C76 I19 J19 x1 x2 x3 x4 x5 x6 (x7 * (r19.toInt64)) (x9 + 1)) I16 J16 ((v18 + x3) + 1) 0 ((2 * x3) + 1)))) I J x9 x1
set_option maxRecDepth 20000 in
theorem t_X8_races_119 {p : Program} {l : Launch} {e : Env} {R : Room} {s : State} {m : MethodId} {args : Array Value} {below : List Frame} {meth : Method} {c : Code} {g : Geo} (C : Cx g p s m args meth c cX8_races 11 RX8 none) (hR : 1 ≤ R.frames ∧ 23 ≤ R.locals) {Q : MI → MJ → Prop} {C10 : MI → MJ → Int32 → Int32 → Int32 → Int32 → Prop} {C35 : MI → MJ → Int32 → Int32 → Int32 → Int32 → Int32 → Prop} {C76 : MI → MJ → Int32 → Int32 → Int32 → Int32 → Int32 → Int32 → Int64 → Int32 → Prop} (hC10 : ∀ (I : MI) (J : MJ) (x1 : Int32) (x2 : Int32) (x3 : Int32) (x4 : Int32), C10 I J x1 x2 x3 x4 → ∀ ls : Array Slot, lv_has ls 11 [(0, .ref (gad g 8 0)), (1, .int x1), (2, .int x2), (3, .int x3), (4, .int x4)] → Wf p l e R s m args below meth c (MQ below (Qg g (PV Q)) args s 0 0 (gA g)) g I J (F0 m 10 ls [])) (hC35 : ∀ (I : MI) (J : MJ) (x1 : Int32) (x2 : Int32) (x3 : Int32) (x4 : Int32) (x5 : Int32), C35 I J x1 x2 x3 x4 x5 → ∀ ls : Array Slot, lv_has ls 11 [(0, .ref (gad g 8 0)), (1, .int x1), (2, .int x2), (3, .int x3), (4, .int x4), (5, .int x5)] → Wf p l e R s m args below meth c (MQ below (Qg g (PV Q)) args s 0 0 (gA g)) g I J (F0 m 35 ls [])) (hC76 : ∀ (I : MI) (J : MJ) (x1 : Int32) (x2 : Int32) (x3 : Int32) (x4 : Int32) (x5 : Int32) (x6 : Int32) (x7 : Int64) (x9 : Int32), C76 I J x1 x2 x3 x4 x5 x6 x7 x9 → ∀ ls : Array Slot, lv_has ls 11 [(0, .ref (gad g 8 0)), (1, .int x1), (2, .int x2), (3, .int x3), (4, .int x4), (5, .int x5), (6, .int x6), (7, .long x7), (9, .int x9)] → Wf p l e R s m args below meth c (MQ below (Qg g (PV Q)) args s 0 0 (gA g)) g I J (F0 m 76 ls [])) {I : MI} {J : MJ} {x1 : Int32} {x2 : Int32} {x3 : Int32} {x4 : Int32} {x5 : Int32} {x6 : Int32} {x7 : Int64} {x9 : Int32} {s0 : Int32} {s1 : Int32} (h : J_X8_races_119 Q C10 C35 C76 I J x1 x2 x3 x4 x5 x6 x7 x9 s0 s1) (ls : Array Slot) (hl : lv_has ls 11 [(0, .ref (gad g 8 0)), (1, .int x1), (2, .int x2), (3, .int x3), (4, .int x4), (5, .int x5), (6, .int x6), (7, .long x7), (9, .int x9)]) : Wf p l e R s m args below meth c (MQ below (Qg g (PV Q)) args s 0 0 (gA g)) g I J (F0 m 119 ls [.int s0, .int s1]) := by
  refine f_isub C dX8_races_119 ?_
  refine f_aload_n C dX8_races_120 rfl (lv_at hl 0 rfl) ?_
  refine f_iload C dX8_races_121 (lv_at hl 8 rfl) ?_
  refine f_iload_n C dX8_races_123 rfl (lv_at hl 1 rfl) ?_
  refine f_cVi (As := [.int x9, .int x1]) (rest := [.int (s1 - s0)]) (n := 2) (T0 := TX8) (N := 25) C (c_X8_bare h) ok_X8_bare im_X8_bare se_X8_bare kw_RX8_145 ⟨Nat.le_trans (by decide) hR.1, Nat.le_trans (by decide) hR.2⟩ (by decide) rfl rfl rfl hl.1 (Nat.le_of_ble_eq_true rfl) dX8_races_124 (fun r16 I16 J16 h => ?_)
  refine f_isub C dX8_races_127 ?_
  refine f_aload_n C dX8_races_128 rfl (lv_at hl 0 rfl) ?_
  refine ge_RX8_44 C (by decide) dX8_races_129 ?_
  refine f_iload C dX8_races_132 (lv_at hl 8 rfl) ?_
  obtain ⟨hi17, h⟩ := h
  refine al_k (n := 8) (k := x9.toNatClampNeg) C (by decide) rfl rfl hi17 dX8_races_134 ?_
  refine f_iadd C dX8_races_135 ?_
  generalize hv18 : ((s1 - s0) - r16) + (I16 36 0 (x9.toNatClampNeg)) = v18
  replace h := h v18 hv18.symm
  refine f_istore (lv' := [(10, .int v18), (0, .ref (gad g 8 0)), (1, .int x1), (2, .int x2), (3, .int x3), (4, .int x4), (5, .int x5), (6, .int x6), (7, .long x7), (9, .int x9)]) C dX8_races_136 hl (by decide) rfl (fun ls hl => ?_)
  refine f_lload C dX8_races_138 (lv_at hl 8 rfl) ?_
  refine f_iload C dX8_races_140 (lv_at hl 0 rfl) ?_
  refine f_iload_n C dX8_races_142 rfl (lv_at hl 4 rfl) ?_
  refine f_iadd C dX8_races_143 ?_
  refine f_iconst (v := 1) C dX8_races_144 (by decide) ?_
  refine f_iadd C dX8_races_145 ?_
  refine f_iconst (v := 0) C dX8_races_146 (by decide) ?_
  refine f_iconst (v := 2) C dX8_races_147 (by decide) ?_
  refine f_iload_n C dX8_races_148 rfl (lv_at hl 4 rfl) ?_
  refine f_imul C dX8_races_149 ?_
  refine f_iconst (v := 1) C dX8_races_150 (by decide) ?_
  refine f_iadd C dX8_races_151 ?_
  refine f_cSi (As := [.int ((v18 + x3) + 1), .int 0, .int ((2 * x3) + 1)]) (rest := [.long x7]) (n := 3) C (c_X8_within h) ok_X8_within sm_X8_within kw_RX8_125 ⟨Nat.le_trans (by decide) hR.1, Nat.le_trans (by decide) hR.2⟩ rfl hl.1 (Nat.le_of_ble_eq_true rfl) dX8_races_152 (fun r19 I19 J19 h => ?_)
  refine f_i2l (v := r19.toInt64) C dX8_races_155 rfl ?_
  refine f_lmul C dX8_races_156 ?_
  refine f_lstore (lv' := [(7, .long (x7 * (r19.toInt64))), (10, .int v18), (0, .ref (gad g 8 0)), (1, .int x1), (2, .int x2), (3, .int x3), (4, .int x4), (5, .int x5), (6, .int x6), (9, .int x9)]) C dX8_races_157 hl (by decide) rfl (fun ls hl => ?_)
  refine f_iinc (v := x9 + 1) (lv' := [(9, .int (x9 + 1)), (7, .long (x7 * (r19.toInt64))), (10, .int v18), (0, .ref (gad g 8 0)), (1, .int x1), (2, .int x2), (3, .int x3), (4, .int x4), (5, .int x5), (6, .int x6)]) C dX8_races_159 hl (k := 9) rfl rfl (by decide) rfl (fun ls hl => ?_)
  refine f_goto (tgt := 76) C dX8_races_162 (by decide) ?_
  exact hC76 _ _ _ _ _ _ _ _ _ _ h ls (lv_sub hl [3, 4, 5, 6, 7, 8, 9, 1, 0] rfl)

def B_X8_races_76 (Q : MI → MJ → Prop) (C10 : MI → MJ → Int32 → Int32 → Int32 → Int32 → Prop) (C35 : MI → MJ → Int32 → Int32 → Int32 → Int32 → Int32 → Prop) (C76 : MI → MJ → Int32 → Int32 → Int32 → Int32 → Int32 → Int32 → Int64 → Int32 → Prop) (I : MI) (J : MJ) (x1 : Int32) (x2 : Int32) (x3 : Int32) (x4 : Int32) (x5 : Int32) (x6 : Int32) (x7 : Int64) (x9 : Int32) : Prop :=
  ((I 25 0 168) ≤ x9 → vp_in x4 8 ∧ (vp_in x4 8 ∧ (C35 I (up3L J 37 0 (x4.toNatClampNeg) ((J 37 0 (x4.toNatClampNeg)) + x7)) x1 x2 x3 x4 (x5 + 1)))) ∧
  (¬ ((I 25 0 168) ≤ x9) → (x9 = x4 → C76 I J x1 x2 x3 x4 x5 x6 x7 (x9 + 1)) ∧
  (¬ (x9 = x4) → wp_X8_has (fun r13 I13 J13 => (r13 = 0 → C76 I13 J13 x1 x2 x3 x4 x5 x6 x7 (x9 + 1)) ∧
  (¬ (r13 = 0) → (x4 ≤ x9 → J_X8_races_119 Q C10 C35 C76 I13 J13 x1 x2 x3 x4 x5 x6 x7 x9 0 x6) ∧
  (¬ (x4 ≤ x9) → J_X8_races_119 Q C10 C35 C76 I13 J13 x1 x2 x3 x4 x5 x6 x7 x9 1 x6))) I J x2 x9))
set_option maxRecDepth 20000 in
theorem b_X8_races_76 {p : Program} {l : Launch} {e : Env} {R : Room} {s : State} {m : MethodId} {args : Array Value} {below : List Frame} {meth : Method} {c : Code} {g : Geo} (C : Cx g p s m args meth c cX8_races 11 RX8 none) (hR : 1 ≤ R.frames ∧ 23 ≤ R.locals) {Q : MI → MJ → Prop} {C10 : MI → MJ → Int32 → Int32 → Int32 → Int32 → Prop} {C35 : MI → MJ → Int32 → Int32 → Int32 → Int32 → Int32 → Prop} (hC10 : ∀ (I : MI) (J : MJ) (x1 : Int32) (x2 : Int32) (x3 : Int32) (x4 : Int32), C10 I J x1 x2 x3 x4 → ∀ ls : Array Slot, lv_has ls 11 [(0, .ref (gad g 8 0)), (1, .int x1), (2, .int x2), (3, .int x3), (4, .int x4)] → Wf p l e R s m args below meth c (MQ below (Qg g (PV Q)) args s 0 0 (gA g)) g I J (F0 m 10 ls [])) (hC35 : ∀ (I : MI) (J : MJ) (x1 : Int32) (x2 : Int32) (x3 : Int32) (x4 : Int32) (x5 : Int32), C35 I J x1 x2 x3 x4 x5 → ∀ ls : Array Slot, lv_has ls 11 [(0, .ref (gad g 8 0)), (1, .int x1), (2, .int x2), (3, .int x3), (4, .int x4), (5, .int x5)] → Wf p l e R s m args below meth c (MQ below (Qg g (PV Q)) args s 0 0 (gA g)) g I J (F0 m 35 ls [])) {C76 : MI → MJ → Int32 → Int32 → Int32 → Int32 → Int32 → Int32 → Int64 → Int32 → Prop} (hC76 : ∀ (I : MI) (J : MJ) (x1 : Int32) (x2 : Int32) (x3 : Int32) (x4 : Int32) (x5 : Int32) (x6 : Int32) (x7 : Int64) (x9 : Int32), C76 I J x1 x2 x3 x4 x5 x6 x7 x9 → ∀ ls : Array Slot, lv_has ls 11 [(0, .ref (gad g 8 0)), (1, .int x1), (2, .int x2), (3, .int x3), (4, .int x4), (5, .int x5), (6, .int x6), (7, .long x7), (9, .int x9)] → Wf p l e R s m args below meth c (MQ below (Qg g (PV Q)) args s 0 0 (gA g)) g I J (F0 m 76 ls [])) {I : MI} {J : MJ} {x1 : Int32} {x2 : Int32} {x3 : Int32} {x4 : Int32} {x5 : Int32} {x6 : Int32} {x7 : Int64} {x9 : Int32} (h : B_X8_races_76 Q C10 C35 C76 I J x1 x2 x3 x4 x5 x6 x7 x9) (ls : Array Slot) (hl : lv_has ls 11 [(0, .ref (gad g 8 0)), (1, .int x1), (2, .int x2), (3, .int x3), (4, .int x4), (5, .int x5), (6, .int x6), (7, .long x7), (9, .int x9)]) : Wf p l e R s m args below meth c (MQ below (Qg g (PV Q)) args s 0 0 (gA g)) g I J (F0 m 76 ls []) := by
  refine f_iload C dX8_races_76 (lv_at hl 8 rfl) ?_
  refine f_aload_n C dX8_races_78 rfl (lv_at hl 0 rfl) ?_
  refine ge_RX8_7 C (by decide) dX8_races_79 ?_
  refine f_sipush (v := 168) C dX8_races_82 (by decide) ?_
  refine al_k (n := 171) (k := 168) C (by decide) rfl (by decide) (vin_k (by decide)) dX8_races_85 ?_
  refine f_icmp_ge (tgt := 165) C dX8_races_86 (by decide) (fun c9 => ?_) (fun c9 => ?_)
  · replace h := h.1 c9
    refine f_aload_n C dX8_races_165 rfl (lv_at hl 0 rfl) ?_
    refine ge_RX8_47 C (by decide) dX8_races_166 ?_
    refine f_iload C dX8_races_169 (lv_at hl 4 rfl) ?_
    refine f_dup2_11 C dX8_races_171 rfl rfl ?_
    obtain ⟨hi10, h⟩ := h
    refine al_kL (n := 8) (k := x4.toNatClampNeg) C (by decide) rfl rfl hi10 dX8_races_172 ?_
    refine f_lload C dX8_races_173 (lv_at hl 7 rfl) ?_
    refine f_ladd C dX8_races_175 ?_
    obtain ⟨hi11, h⟩ := h
    refine as_kL (n := 8) (k := x4.toNatClampNeg) C (by decide) (fun _ => rfl) rfl hi11 dX8_races_176 ?_
    refine f_iinc (v := x5 + 1) (lv' := [(5, .int (x5 + 1)), (0, .ref (gad g 8 0)), (1, .int x1), (2, .int x2), (3, .int x3), (4, .int x4), (6, .int x6), (7, .long x7), (9, .int x9)]) C dX8_races_177 hl (k := 5) rfl rfl (by decide) rfl (fun ls hl => ?_)
    refine f_goto (tgt := 35) C dX8_races_180 (by decide) ?_
    exact hC35 _ _ _ _ _ _ _ h ls (lv_sub hl [1, 2, 3, 4, 5, 0] rfl)
  · replace h := h.2 c9
    refine f_iload C dX8_races_89 (lv_at hl 8 rfl) ?_
    refine f_iload C dX8_races_91 (lv_at hl 4 rfl) ?_
    refine f_icmp_eq (tgt := 159) C dX8_races_93 (by decide) (fun c12 => ?_) (fun c12 => ?_)
    · replace h := h.1 c12
      refine f_iinc (v := x9 + 1) (lv' := [(9, .int (x9 + 1)), (0, .ref (gad g 8 0)), (1, .int x1), (2, .int x2), (3, .int x3), (4, .int x4), (5, .int x5), (6, .int x6), (7, .long x7)]) C dX8_races_159 hl (k := 8) rfl rfl (by decide) rfl (fun ls hl => ?_)
      refine f_goto (tgt := 76) C dX8_races_162 (by decide) ?_
      exact hC76 _ _ _ _ _ _ _ _ _ _ h ls (lv_sub hl [1, 2, 3, 4, 5, 6, 7, 8, 0] rfl)
    · replace h := h.2 c12
      refine f_iload_n C dX8_races_96 rfl (lv_at hl 2 rfl) ?_
      refine f_iload C dX8_races_97 (lv_at hl 8 rfl) ?_
      refine f_cSi (As := [.int x2, .int x9]) (rest := []) (n := 2) C (c_X8_has h) ok_X8_has sm_X8_has kw_RX8_132 ⟨Nat.le_trans (by decide) hR.1, Nat.le_trans (by decide) hR.2⟩ rfl hl.1 (Nat.le_of_ble_eq_true rfl) dX8_races_99 (fun r13 I13 J13 h => ?_)
      refine f_if_eq (tgt := 159) C dX8_races_102 (by decide) (fun c14 => ?_) (fun c14 => ?_)
      · replace h := h.1 c14
        refine f_iinc (v := x9 + 1) (lv' := [(9, .int (x9 + 1)), (0, .ref (gad g 8 0)), (1, .int x1), (2, .int x2), (3, .int x3), (4, .int x4), (5, .int x5), (6, .int x6), (7, .long x7)]) C dX8_races_159 hl (k := 8) rfl rfl (by decide) rfl (fun ls hl => ?_)
        refine f_goto (tgt := 76) C dX8_races_162 (by decide) ?_
        exact hC76 _ _ _ _ _ _ _ _ _ _ h ls (lv_sub hl [1, 2, 3, 4, 5, 6, 7, 8, 0] rfl)
      · replace h := h.2 c14
        refine f_iload C dX8_races_105 (lv_at hl 6 rfl) ?_
        refine f_iload C dX8_races_107 (lv_at hl 8 rfl) ?_
        refine f_iload C dX8_races_109 (lv_at hl 4 rfl) ?_
        refine f_icmp_ge (tgt := 118) C dX8_races_111 (by decide) (fun c15 => ?_) (fun c15 => ?_)
        · replace h := h.1 c15
          refine f_iconst (v := 0) C dX8_races_118 (by decide) ?_
          exact t_X8_races_119 C hR hC10 hC35 hC76 h ls (lv_sub hl [0, 1, 2, 3, 4, 5, 6, 7, 8] rfl)
        · replace h := h.2 c15
          refine f_iconst (v := 1) C dX8_races_114 (by decide) ?_
          refine f_goto (tgt := 119) C dX8_races_115 (by decide) ?_
          exact t_X8_races_119 C hR hC10 hC35 hC76 h ls (lv_sub hl [0, 1, 2, 3, 4, 5, 6, 7, 8] rfl)

def L_X8_races_76 (Q : MI → MJ → Prop) (C10 : MI → MJ → Int32 → Int32 → Int32 → Int32 → Prop) (C35 : MI → MJ → Int32 → Int32 → Int32 → Int32 → Int32 → Prop) : Nat → MI → MJ → Int32 → Int32 → Int32 → Int32 → Int32 → Int32 → Int64 → Int32 → Prop
  | 0 => fun _ _ _ _ _ _ _ _ _ _ => False
  | n + 1 => fun I J x1 x2 x3 x4 x5 x6 x7 x9 => B_X8_races_76 Q C10 C35 (L_X8_races_76 Q C10 C35 n) I J x1 x2 x3 x4 x5 x6 x7 x9
theorem t_X8_races_76 {p : Program} {l : Launch} {e : Env} {R : Room} {s : State} {m : MethodId} {args : Array Value} {below : List Frame} {meth : Method} {c : Code} {g : Geo} (C : Cx g p s m args meth c cX8_races 11 RX8 none) (hR : 1 ≤ R.frames ∧ 23 ≤ R.locals) {Q : MI → MJ → Prop} {C10 : MI → MJ → Int32 → Int32 → Int32 → Int32 → Prop} {C35 : MI → MJ → Int32 → Int32 → Int32 → Int32 → Int32 → Prop} (hC10 : ∀ (I : MI) (J : MJ) (x1 : Int32) (x2 : Int32) (x3 : Int32) (x4 : Int32), C10 I J x1 x2 x3 x4 → ∀ ls : Array Slot, lv_has ls 11 [(0, .ref (gad g 8 0)), (1, .int x1), (2, .int x2), (3, .int x3), (4, .int x4)] → Wf p l e R s m args below meth c (MQ below (Qg g (PV Q)) args s 0 0 (gA g)) g I J (F0 m 10 ls [])) (hC35 : ∀ (I : MI) (J : MJ) (x1 : Int32) (x2 : Int32) (x3 : Int32) (x4 : Int32) (x5 : Int32), C35 I J x1 x2 x3 x4 x5 → ∀ ls : Array Slot, lv_has ls 11 [(0, .ref (gad g 8 0)), (1, .int x1), (2, .int x2), (3, .int x3), (4, .int x4), (5, .int x5)] → Wf p l e R s m args below meth c (MQ below (Qg g (PV Q)) args s 0 0 (gA g)) g I J (F0 m 35 ls [])) : ∀ (n : Nat), ∀ (I : MI) (J : MJ) (x1 : Int32) (x2 : Int32) (x3 : Int32) (x4 : Int32) (x5 : Int32) (x6 : Int32) (x7 : Int64) (x9 : Int32), L_X8_races_76 Q C10 C35 n I J x1 x2 x3 x4 x5 x6 x7 x9 → ∀ ls : Array Slot, lv_has ls 11 [(0, .ref (gad g 8 0)), (1, .int x1), (2, .int x2), (3, .int x3), (4, .int x4), (5, .int x5), (6, .int x6), (7, .long x7), (9, .int x9)] → Wf p l e R s m args below meth c (MQ below (Qg g (PV Q)) args s 0 0 (gA g)) g I J (F0 m 76 ls []) := by
  intro n
  induction n with
  | zero => intro I J x1 x2 x3 x4 x5 x6 x7 x9 h; exact h.elim
  | succ n ih => intro I J x1 x2 x3 x4 x5 x6 x7 x9 h ls hl; exact b_X8_races_76 C hR hC10 hC35 ih h ls hl
def B_X8_races_35 (Q : MI → MJ → Prop) (C10 : MI → MJ → Int32 → Int32 → Int32 → Int32 → Prop) (C35 : MI → MJ → Int32 → Int32 → Int32 → Int32 → Int32 → Prop) (I : MI) (J : MJ) (x1 : Int32) (x2 : Int32) (x3 : Int32) (x4 : Int32) (x5 : Int32) : Prop :=
  (x3 < x5 → C10 I J x1 x2 x3 (x4 + 1)) ∧
  (¬ (x3 < x5) → wp_X8_has (fun r4 I4 J4 => (r4 = 0 → C10 I4 J4 x1 x2 x3 (x4 + 1)) ∧
  (¬ (r4 = 0) → wp_X8_bare (fun r6 I6 J6 => vp_in x4 8 ∧ (∀ v8 : Int32, v8 = (r6 - (I6 36 0 (x4.toNatClampNeg))) + x5 → (∃ n : Nat, L_X8_races_76 Q C10 C35 n I6 J6 x1 x2 x3 x4 x5 v8 1 0))) I4 J4 x4 x1)) I J x2 x4)
set_option maxRecDepth 20000 in
theorem b_X8_races_35 {p : Program} {l : Launch} {e : Env} {R : Room} {s : State} {m : MethodId} {args : Array Value} {below : List Frame} {meth : Method} {c : Code} {g : Geo} (C : Cx g p s m args meth c cX8_races 11 RX8 none) (hR : 1 ≤ R.frames ∧ 23 ≤ R.locals) {Q : MI → MJ → Prop} {C10 : MI → MJ → Int32 → Int32 → Int32 → Int32 → Prop} (hC10 : ∀ (I : MI) (J : MJ) (x1 : Int32) (x2 : Int32) (x3 : Int32) (x4 : Int32), C10 I J x1 x2 x3 x4 → ∀ ls : Array Slot, lv_has ls 11 [(0, .ref (gad g 8 0)), (1, .int x1), (2, .int x2), (3, .int x3), (4, .int x4)] → Wf p l e R s m args below meth c (MQ below (Qg g (PV Q)) args s 0 0 (gA g)) g I J (F0 m 10 ls [])) {C35 : MI → MJ → Int32 → Int32 → Int32 → Int32 → Int32 → Prop} (hC35 : ∀ (I : MI) (J : MJ) (x1 : Int32) (x2 : Int32) (x3 : Int32) (x4 : Int32) (x5 : Int32), C35 I J x1 x2 x3 x4 x5 → ∀ ls : Array Slot, lv_has ls 11 [(0, .ref (gad g 8 0)), (1, .int x1), (2, .int x2), (3, .int x3), (4, .int x4), (5, .int x5)] → Wf p l e R s m args below meth c (MQ below (Qg g (PV Q)) args s 0 0 (gA g)) g I J (F0 m 35 ls [])) {I : MI} {J : MJ} {x1 : Int32} {x2 : Int32} {x3 : Int32} {x4 : Int32} {x5 : Int32} (h : B_X8_races_35 Q C10 C35 I J x1 x2 x3 x4 x5) (ls : Array Slot) (hl : lv_has ls 11 [(0, .ref (gad g 8 0)), (1, .int x1), (2, .int x2), (3, .int x3), (4, .int x4), (5, .int x5)]) : Wf p l e R s m args below meth c (MQ below (Qg g (PV Q)) args s 0 0 (gA g)) g I J (F0 m 35 ls []) := by
  refine f_iload C dX8_races_35 (lv_at hl 5 rfl) ?_
  refine f_iload_n C dX8_races_37 rfl (lv_at hl 3 rfl) ?_
  refine f_icmp_gt (tgt := 183) C dX8_races_38 (by decide) (fun c3 => ?_) (fun c3 => ?_)
  · replace h := h.1 c3
    refine f_iinc (v := x4 + 1) (lv' := [(4, .int (x4 + 1)), (0, .ref (gad g 8 0)), (1, .int x1), (2, .int x2), (3, .int x3), (5, .int x5)]) C dX8_races_183 hl (k := 4) rfl rfl (by decide) rfl (fun ls hl => ?_)
    refine f_goto (tgt := 10) C dX8_races_186 (by decide) ?_
    exact hC10 _ _ _ _ _ _ h ls (lv_sub hl [1, 2, 3, 4, 0] rfl)
  · replace h := h.2 c3
    refine f_iload_n C dX8_races_41 rfl (lv_at hl 2 rfl) ?_
    refine f_iload C dX8_races_42 (lv_at hl 4 rfl) ?_
    refine f_cSi (As := [.int x2, .int x4]) (rest := []) (n := 2) C (c_X8_has h) ok_X8_has sm_X8_has kw_RX8_132 ⟨Nat.le_trans (by decide) hR.1, Nat.le_trans (by decide) hR.2⟩ rfl hl.1 (Nat.le_of_ble_eq_true rfl) dX8_races_44 (fun r4 I4 J4 h => ?_)
    refine f_if_eq (tgt := 183) C dX8_races_47 (by decide) (fun c5 => ?_) (fun c5 => ?_)
    · replace h := h.1 c5
      refine f_iinc (v := x4 + 1) (lv' := [(4, .int (x4 + 1)), (0, .ref (gad g 8 0)), (1, .int x1), (2, .int x2), (3, .int x3), (5, .int x5)]) C dX8_races_183 hl (k := 4) rfl rfl (by decide) rfl (fun ls hl => ?_)
      refine f_goto (tgt := 10) C dX8_races_186 (by decide) ?_
      exact hC10 _ _ _ _ _ _ h ls (lv_sub hl [1, 2, 3, 4, 0] rfl)
    · replace h := h.2 c5
      refine f_aload_n C dX8_races_50 rfl (lv_at hl 0 rfl) ?_
      refine f_iload C dX8_races_51 (lv_at hl 4 rfl) ?_
      refine f_iload_n C dX8_races_53 rfl (lv_at hl 1 rfl) ?_
      refine f_cVi (As := [.int x4, .int x1]) (rest := []) (n := 2) (T0 := TX8) (N := 25) C (c_X8_bare h) ok_X8_bare im_X8_bare se_X8_bare kw_RX8_145 ⟨Nat.le_trans (by decide) hR.1, Nat.le_trans (by decide) hR.2⟩ (by decide) rfl rfl rfl hl.1 (Nat.le_of_ble_eq_true rfl) dX8_races_54 (fun r6 I6 J6 h => ?_)
      refine f_aload_n C dX8_races_57 rfl (lv_at hl 0 rfl) ?_
      refine ge_RX8_44 C (by decide) dX8_races_58 ?_
      refine f_iload C dX8_races_61 (lv_at hl 4 rfl) ?_
      obtain ⟨hi7, h⟩ := h
      refine al_k (n := 8) (k := x4.toNatClampNeg) C (by decide) rfl rfl hi7 dX8_races_63 ?_
      refine f_isub C dX8_races_64 ?_
      refine f_iload C dX8_races_65 (lv_at hl 5 rfl) ?_
      refine f_iadd C dX8_races_67 ?_
      generalize hv8 : (r6 - (I6 36 0 (x4.toNatClampNeg))) + x5 = v8
      replace h := h v8 hv8.symm
      refine f_istore (lv' := [(6, .int v8), (0, .ref (gad g 8 0)), (1, .int x1), (2, .int x2), (3, .int x3), (4, .int x4), (5, .int x5)]) C dX8_races_68 hl (by decide) rfl (fun ls hl => ?_)
      refine f_lconst (v := 1) C dX8_races_70 (by decide) ?_
      refine f_lstore (lv' := [(7, .long 1), (6, .int v8), (0, .ref (gad g 8 0)), (1, .int x1), (2, .int x2), (3, .int x3), (4, .int x4), (5, .int x5)]) C dX8_races_71 hl (by decide) rfl (fun ls hl => ?_)
      refine f_iconst (v := 0) C dX8_races_73 (by decide) ?_
      refine f_istore (lv' := [(9, .int 0), (7, .long 1), (6, .int v8), (0, .ref (gad g 8 0)), (1, .int x1), (2, .int x2), (3, .int x3), (4, .int x4), (5, .int x5)]) C dX8_races_74 hl (by decide) rfl (fun ls hl => ?_)
      obtain ⟨n, h⟩ := h
      exact t_X8_races_76 C hR hC10 hC35 n _ _ _ _ _ _ _ _ _ _ h ls (lv_sub hl [3, 4, 5, 6, 7, 8, 2, 1, 0] rfl)

def L_X8_races_35 (Q : MI → MJ → Prop) (C10 : MI → MJ → Int32 → Int32 → Int32 → Int32 → Prop) : Nat → MI → MJ → Int32 → Int32 → Int32 → Int32 → Int32 → Prop
  | 0 => fun _ _ _ _ _ _ _ => False
  | n + 1 => fun I J x1 x2 x3 x4 x5 => B_X8_races_35 Q C10 (L_X8_races_35 Q C10 n) I J x1 x2 x3 x4 x5
theorem t_X8_races_35 {p : Program} {l : Launch} {e : Env} {R : Room} {s : State} {m : MethodId} {args : Array Value} {below : List Frame} {meth : Method} {c : Code} {g : Geo} (C : Cx g p s m args meth c cX8_races 11 RX8 none) (hR : 1 ≤ R.frames ∧ 23 ≤ R.locals) {Q : MI → MJ → Prop} {C10 : MI → MJ → Int32 → Int32 → Int32 → Int32 → Prop} (hC10 : ∀ (I : MI) (J : MJ) (x1 : Int32) (x2 : Int32) (x3 : Int32) (x4 : Int32), C10 I J x1 x2 x3 x4 → ∀ ls : Array Slot, lv_has ls 11 [(0, .ref (gad g 8 0)), (1, .int x1), (2, .int x2), (3, .int x3), (4, .int x4)] → Wf p l e R s m args below meth c (MQ below (Qg g (PV Q)) args s 0 0 (gA g)) g I J (F0 m 10 ls [])) : ∀ (n : Nat), ∀ (I : MI) (J : MJ) (x1 : Int32) (x2 : Int32) (x3 : Int32) (x4 : Int32) (x5 : Int32), L_X8_races_35 Q C10 n I J x1 x2 x3 x4 x5 → ∀ ls : Array Slot, lv_has ls 11 [(0, .ref (gad g 8 0)), (1, .int x1), (2, .int x2), (3, .int x3), (4, .int x4), (5, .int x5)] → Wf p l e R s m args below meth c (MQ below (Qg g (PV Q)) args s 0 0 (gA g)) g I J (F0 m 35 ls []) := by
  intro n
  induction n with
  | zero => intro I J x1 x2 x3 x4 x5 h; exact h.elim
  | succ n ih => intro I J x1 x2 x3 x4 x5 h ls hl; exact b_X8_races_35 C hR hC10 ih h ls hl
def B_X8_races_10 (Q : MI → MJ → Prop) (C10 : MI → MJ → Int32 → Int32 → Int32 → Int32 → Prop) (I : MI) (J : MJ) (x1 : Int32) (x2 : Int32) (x3 : Int32) (x4 : Int32) : Prop :=
  ((I 25 0 168) ≤ x4 → Q I J) ∧
  (¬ ((I 25 0 168) ≤ x4) → vp_in x4 8 ∧ (∃ n : Nat, L_X8_races_35 Q C10 n I (up3L J 37 0 (x4.toNatClampNeg) 0) x1 x2 x3 x4 (-x3)))
set_option maxRecDepth 20000 in
theorem b_X8_races_10 {p : Program} {l : Launch} {e : Env} {R : Room} {s : State} {m : MethodId} {args : Array Value} {below : List Frame} {meth : Method} {c : Code} {g : Geo} (C : Cx g p s m args meth c cX8_races 11 RX8 none) (hR : 1 ≤ R.frames ∧ 23 ≤ R.locals) {Q : MI → MJ → Prop} {C10 : MI → MJ → Int32 → Int32 → Int32 → Int32 → Prop} (hC10 : ∀ (I : MI) (J : MJ) (x1 : Int32) (x2 : Int32) (x3 : Int32) (x4 : Int32), C10 I J x1 x2 x3 x4 → ∀ ls : Array Slot, lv_has ls 11 [(0, .ref (gad g 8 0)), (1, .int x1), (2, .int x2), (3, .int x3), (4, .int x4)] → Wf p l e R s m args below meth c (MQ below (Qg g (PV Q)) args s 0 0 (gA g)) g I J (F0 m 10 ls [])) {I : MI} {J : MJ} {x1 : Int32} {x2 : Int32} {x3 : Int32} {x4 : Int32} (h : B_X8_races_10 Q C10 I J x1 x2 x3 x4) (ls : Array Slot) (hl : lv_has ls 11 [(0, .ref (gad g 8 0)), (1, .int x1), (2, .int x2), (3, .int x3), (4, .int x4)]) : Wf p l e R s m args below meth c (MQ below (Qg g (PV Q)) args s 0 0 (gA g)) g I J (F0 m 10 ls []) := by
  refine f_iload C dX8_races_10 (lv_at hl 4 rfl) ?_
  refine f_aload_n C dX8_races_12 rfl (lv_at hl 0 rfl) ?_
  refine ge_RX8_7 C (by decide) dX8_races_13 ?_
  refine f_sipush (v := 168) C dX8_races_16 (by decide) ?_
  refine al_k (n := 171) (k := 168) C (by decide) rfl (by decide) (vin_k (by decide)) dX8_races_19 ?_
  refine f_icmp_ge (tgt := 189) C dX8_races_20 (by decide) (fun c1 => ?_) (fun c1 => ?_)
  · replace h := h.1 c1
    exact f_vret C h dX8_races_189
  · replace h := h.2 c1
    refine f_aload_n C dX8_races_23 rfl (lv_at hl 0 rfl) ?_
    refine ge_RX8_47 C (by decide) dX8_races_24 ?_
    refine f_iload C dX8_races_27 (lv_at hl 4 rfl) ?_
    refine f_lconst (v := 0) C dX8_races_29 (by decide) ?_
    obtain ⟨hi2, h⟩ := h
    refine as_kL (n := 8) (k := x4.toNatClampNeg) C (by decide) (fun _ => rfl) rfl hi2 dX8_races_30 ?_
    refine f_iload_n C dX8_races_31 rfl (lv_at hl 3 rfl) ?_
    refine f_ineg C dX8_races_32 ?_
    refine f_istore (lv' := [(5, .int (-x3)), (0, .ref (gad g 8 0)), (1, .int x1), (2, .int x2), (3, .int x3), (4, .int x4)]) C dX8_races_33 hl (by decide) rfl (fun ls hl => ?_)
    obtain ⟨n, h⟩ := h
    exact t_X8_races_35 C hR hC10 n _ _ _ _ _ _ _ h ls (lv_sub hl [1, 2, 3, 4, 5, 0] rfl)

def L_X8_races_10 (Q : MI → MJ → Prop) : Nat → MI → MJ → Int32 → Int32 → Int32 → Int32 → Prop
  | 0 => fun _ _ _ _ _ _ => False
  | n + 1 => fun I J x1 x2 x3 x4 => B_X8_races_10 Q (L_X8_races_10 Q n) I J x1 x2 x3 x4
theorem t_X8_races_10 {p : Program} {l : Launch} {e : Env} {R : Room} {s : State} {m : MethodId} {args : Array Value} {below : List Frame} {meth : Method} {c : Code} {g : Geo} (C : Cx g p s m args meth c cX8_races 11 RX8 none) (hR : 1 ≤ R.frames ∧ 23 ≤ R.locals) {Q : MI → MJ → Prop} : ∀ (n : Nat), ∀ (I : MI) (J : MJ) (x1 : Int32) (x2 : Int32) (x3 : Int32) (x4 : Int32), L_X8_races_10 Q n I J x1 x2 x3 x4 → ∀ ls : Array Slot, lv_has ls 11 [(0, .ref (gad g 8 0)), (1, .int x1), (2, .int x2), (3, .int x3), (4, .int x4)] → Wf p l e R s m args below meth c (MQ below (Qg g (PV Q)) args s 0 0 (gA g)) g I J (F0 m 10 ls []) := by
  intro n
  induction n with
  | zero => intro I J x1 x2 x3 x4 h; exact h.elim
  | succ n ih => intro I J x1 x2 x3 x4 h ls hl; exact b_X8_races_10 C hR ih h ls hl
def wp_X8_races (Q : MI → MJ → Prop) (I : MI) (J : MJ) (x1 : Int32) (x2 : Int32) : Prop :=
  ∃ n : Nat, L_X8_races_10 Q n I J x1 x2 (I 28 0 0) 0
set_option maxRecDepth 20000 in
theorem c_X8_races {l : Launch} {g : Geo} {Q : MI → MJ → Prop} {I : MI} {J : MJ} {x1 : Int32} {x2 : Int32} (h : wp_X8_races Q I J x1 x2) : Ct g l yX8_races cX8_races 11 none 1 23 [.ref (gad g 8 0), .int x1, .int x2] I J (PV Q) := by
  refine Ct.of (by decide) ?_
  intro p e s m below meth c C
  have hR : 1 ≤ (Rm 1 23).frames ∧ 23 ≤ (Rm 1 23).locals := ⟨Nat.le_refl _, Nat.le_refl _⟩
  generalize Rm 1 23 = R at hR ⊢
  have hl := lv_entry ([.ref (gad g 8 0), .int x1, .int x2]) (n := 11) (Nat.le_of_ble_eq_true rfl)
  rw [lg_entry_eq]
  generalize (lg_sl ([.ref (gad g 8 0), .int x1, .int x2]) ++ List.replicate (11 - (lg_sl ([.ref (gad g 8 0), .int x1, .int x2])).length) Slot.unset).toArray = ls at hl ⊢
  have hl : lv_has ls 11 [(0, .ref (gad g 8 0)), (1, .int x1), (2, .int x2)] := hl
  refine f_aload_n C dX8_races_0 rfl (lv_at hl 0 rfl) ?_
  refine ge_RX8_20 C (by decide) dX8_races_1 ?_
  refine f_iconst (v := 0) C dX8_races_4 (by decide) ?_
  refine al_k (n := 3) (k := 0) C (by decide) rfl (by decide) (vin_k (by decide)) dX8_races_5 ?_
  refine f_istore_n (lv' := [(3, .int (I 28 0 0)), (0, .ref (gad g 8 0)), (1, .int x1), (2, .int x2)]) C dX8_races_6 rfl hl (by decide) rfl (fun ls hl => ?_)
  refine f_iconst (v := 0) C dX8_races_7 (by decide) ?_
  refine f_istore (lv' := [(4, .int 0), (3, .int (I 28 0 0)), (0, .ref (gad g 8 0)), (1, .int x1), (2, .int x2)]) C dX8_races_8 hl (by decide) rfl (fun ls hl => ?_)
  obtain ⟨n, h⟩ := h
  exact t_X8_races_10 C hR n _ _ _ _ _ _ h ls (lv_sub hl [2, 3, 4, 1, 0] rfl)

def B_X8_allRows_8 (Q : Int64 → MI → MJ → Prop) (C8 : MI → MJ → Int64 → Int32 → Prop) (I : MI) (J : MJ) (x2 : Int64) (x4 : Int32) : Prop :=
  (x4 ≤ 0 → Q x2 I J) ∧
  (¬ (x4 ≤ 0) → ∀ v3 : Int64, v3 = x2 * (((2 * (I 28 0 0)) + 1).toInt64) → (C8 I J v3 (x4 + (-1))))
set_option maxRecDepth 20000 in
theorem b_X8_allRows_8 {p : Program} {l : Launch} {e : Env} {R : Room} {s : State} {m : MethodId} {args : Array Value} {below : List Frame} {meth : Method} {c : Code} {g : Geo} (C : Cx g p s m args meth c cX8_allRows 5 RX8 (some .long)) (hR : 1 ≤ R.frames ∧ 22 ≤ R.locals) {Q : Int64 → MI → MJ → Prop} {C8 : MI → MJ → Int64 → Int32 → Prop} (hC8 : ∀ (I : MI) (J : MJ) (x2 : Int64) (x4 : Int32), C8 I J x2 x4 → ∀ ls : Array Slot, lv_has ls 5 [(0, .ref (gad g 8 0)), (2, .long x2), (4, .int x4)] → Wf p l e R s m args below meth c (MQ below (Qg g (PL Q)) args s 0 0 (gA g)) g I J (F0 m 8 ls [])) {I : MI} {J : MJ} {x2 : Int64} {x4 : Int32} (h : B_X8_allRows_8 Q C8 I J x2 x4) (ls : Array Slot) (hl : lv_has ls 5 [(0, .ref (gad g 8 0)), (2, .long x2), (4, .int x4)]) : Wf p l e R s m args below meth c (MQ below (Qg g (PL Q)) args s 0 0 (gA g)) g I J (F0 m 8 ls []) := by
  refine f_iload C dX8_allRows_8 (lv_at hl 2 rfl) ?_
  refine f_if_le (tgt := 33) C dX8_allRows_10 (by decide) (fun c2 => ?_) (fun c2 => ?_)
  · replace h := h.1 c2
    refine f_lload_n C dX8_allRows_33 rfl (lv_at hl 1 rfl) ?_
    exact f_lret C h dX8_allRows_34
  · replace h := h.2 c2
    refine f_lload_n C dX8_allRows_13 rfl (lv_at hl 1 rfl) ?_
    refine f_iconst (v := 2) C dX8_allRows_14 (by decide) ?_
    refine f_aload_n C dX8_allRows_15 rfl (lv_at hl 0 rfl) ?_
    refine ge_RX8_20 C (by decide) dX8_allRows_16 ?_
    refine f_iconst (v := 0) C dX8_allRows_19 (by decide) ?_
    refine al_k (n := 3) (k := 0) C (by decide) rfl (by decide) (vin_k (by decide)) dX8_allRows_20 ?_
    refine f_imul C dX8_allRows_21 ?_
    refine f_iconst (v := 1) C dX8_allRows_22 (by decide) ?_
    refine f_iadd C dX8_allRows_23 ?_
    refine f_i2l (v := ((2 * (I 28 0 0)) + 1).toInt64) C dX8_allRows_24 rfl ?_
    refine f_lmul C dX8_allRows_25 ?_
    generalize hv3 : x2 * (((2 * (I 28 0 0)) + 1).toInt64) = v3
    replace h := h v3 hv3.symm
    refine f_lstore_n (lv' := [(2, .long v3), (0, .ref (gad g 8 0)), (4, .int x4)]) C dX8_allRows_26 rfl hl (by decide) rfl (fun ls hl => ?_)
    refine f_iinc (v := x4 + (-1)) (lv' := [(4, .int (x4 + (-1))), (2, .long v3), (0, .ref (gad g 8 0))]) C dX8_allRows_27 hl (k := 2) rfl rfl (by decide) rfl (fun ls hl => ?_)
    refine f_goto (tgt := 8) C dX8_allRows_30 (by decide) ?_
    exact hC8 _ _ _ _ h ls (lv_sub hl [2, 1, 0] rfl)

def L_X8_allRows_8 (Q : Int64 → MI → MJ → Prop) : Nat → MI → MJ → Int64 → Int32 → Prop
  | 0 => fun _ _ _ _ => False
  | n + 1 => fun I J x2 x4 => B_X8_allRows_8 Q (L_X8_allRows_8 Q n) I J x2 x4
theorem t_X8_allRows_8 {p : Program} {l : Launch} {e : Env} {R : Room} {s : State} {m : MethodId} {args : Array Value} {below : List Frame} {meth : Method} {c : Code} {g : Geo} (C : Cx g p s m args meth c cX8_allRows 5 RX8 (some .long)) (hR : 1 ≤ R.frames ∧ 22 ≤ R.locals) {Q : Int64 → MI → MJ → Prop} : ∀ (n : Nat), ∀ (I : MI) (J : MJ) (x2 : Int64) (x4 : Int32), L_X8_allRows_8 Q n I J x2 x4 → ∀ ls : Array Slot, lv_has ls 5 [(0, .ref (gad g 8 0)), (2, .long x2), (4, .int x4)] → Wf p l e R s m args below meth c (MQ below (Qg g (PL Q)) args s 0 0 (gA g)) g I J (F0 m 8 ls []) := by
  intro n
  induction n with
  | zero => intro I J x2 x4 h; exact h.elim
  | succ n ih => intro I J x2 x4 h ls hl; exact b_X8_allRows_8 C hR ih h ls hl
def wp_X8_allRows (Q : Int64 → MI → MJ → Prop) (I : MI) (J : MJ) (x1 : Int32) : Prop :=
  wp_X8_ones (fun r1 I1 J1 => ∃ n : Nat, L_X8_allRows_8 Q n I1 J1 1 r1) I J x1
set_option maxRecDepth 20000 in
theorem c_X8_allRows {l : Launch} {g : Geo} {Q : Int64 → MI → MJ → Prop} {I : MI} {J : MJ} {x1 : Int32} (h : wp_X8_allRows Q I J x1) : Ct g l yX8_allRows cX8_allRows 5 (some .long) 1 22 [.ref (gad g 8 0), .int x1] I J (PL Q) := by
  refine Ct.of (by decide) ?_
  intro p e s m below meth c C
  have hR : 1 ≤ (Rm 1 22).frames ∧ 22 ≤ (Rm 1 22).locals := ⟨Nat.le_refl _, Nat.le_refl _⟩
  generalize Rm 1 22 = R at hR ⊢
  have hl := lv_entry ([.ref (gad g 8 0), .int x1]) (n := 5) (Nat.le_of_ble_eq_true rfl)
  rw [lg_entry_eq]
  generalize (lg_sl ([.ref (gad g 8 0), .int x1]) ++ List.replicate (5 - (lg_sl ([.ref (gad g 8 0), .int x1])).length) Slot.unset).toArray = ls at hl ⊢
  have hl : lv_has ls 5 [(0, .ref (gad g 8 0)), (1, .int x1)] := hl
  refine f_lconst (v := 1) C dX8_allRows_0 (by decide) ?_
  refine f_lstore_n (lv' := [(2, .long 1), (0, .ref (gad g 8 0)), (1, .int x1)]) C dX8_allRows_1 rfl hl (by decide) rfl (fun ls hl => ?_)
  refine f_iload_n C dX8_allRows_2 rfl (lv_at hl 2 rfl) ?_
  refine f_cSi (As := [.int x1]) (rest := []) (n := 1) C (c_X8_ones h) ok_X8_ones sm_X8_ones kw_RX8_129 ⟨Nat.le_trans (by decide) hR.1, Nat.le_trans (by decide) hR.2⟩ rfl hl.1 (Nat.le_of_ble_eq_true rfl) dX8_allRows_3 (fun r1 I1 J1 h => ?_)
  refine f_istore (lv' := [(4, .int r1), (2, .long 1), (0, .ref (gad g 8 0)), (1, .int x1)]) C dX8_allRows_6 hl (by decide) rfl (fun ls hl => ?_)
  obtain ⟨n, h⟩ := h
  exact t_X8_allRows_8 C hR n _ _ _ _ h ls (lv_sub hl [2, 1, 0] rfl)

