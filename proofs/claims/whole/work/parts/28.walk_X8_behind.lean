def B_X8_behind_54 (Q : Int32 → MI → MJ → Prop) (C54 : MI → MJ → Int32 → Int32 → Int32 → Int32 → Int32 → Prop) (I : MI) (J : MJ) (x2 : Int32) (x3 : Int32) (x4 : Int32) (x5 : Int32) (x6 : Int32) : Prop :=
  (x3 ≤ x6 → Q (x4 - x5) I J) ∧
  (¬ (x3 ≤ x6) → wp_X8_moved (fun r8 I8 J8 => wp_X8_within (fun r9 I9 J9 => C54 I9 J9 x2 x3 r9 r8 (x6 + 1)) I8 J8 (x4 + x2) 0 200) I J x5 x4)
set_option maxRecDepth 20000 in
theorem b_X8_behind_54 {p : Program} {l : Launch} {e : Env} {R : Room} {s : State} {m : MethodId} {args : Array Value} {below : List Frame} {meth : Method} {c : Code} {g : Geo} (C : Cx g p s m args meth c cX8_behind 7 RX8 (some .int)) (hR : 2 ≤ R.frames ∧ 48 ≤ R.locals) {Q : Int32 → MI → MJ → Prop} {C54 : MI → MJ → Int32 → Int32 → Int32 → Int32 → Int32 → Prop} (hC54 : ∀ (I : MI) (J : MJ) (x2 : Int32) (x3 : Int32) (x4 : Int32) (x5 : Int32) (x6 : Int32), C54 I J x2 x3 x4 x5 x6 → ∀ ls : Array Slot, lv_has ls 7 [(0, .ref (gad g 8 0)), (2, .int x2), (3, .int x3), (4, .int x4), (5, .int x5), (6, .int x6)] → Wf p l e R s m args below meth c (MQ below (Qg g (PI Q)) args s 0 0 (gA g)) g I J (F0 m 54 ls [])) {I : MI} {J : MJ} {x2 : Int32} {x3 : Int32} {x4 : Int32} {x5 : Int32} {x6 : Int32} (h : B_X8_behind_54 Q C54 I J x2 x3 x4 x5 x6) (ls : Array Slot) (hl : lv_has ls 7 [(0, .ref (gad g 8 0)), (2, .int x2), (3, .int x3), (4, .int x4), (5, .int x5), (6, .int x6)]) : Wf p l e R s m args below meth c (MQ below (Qg g (PI Q)) args s 0 0 (gA g)) g I J (F0 m 54 ls []) := by
  refine f_iload C dX8_behind_54 (lv_at hl 5 rfl) ?_
  refine f_iload_n C dX8_behind_56 rfl (lv_at hl 2 rfl) ?_
  refine f_icmp_ge (tgt := 89) C dX8_behind_57 (by decide) (fun c7 => ?_) (fun c7 => ?_)
  · replace h := h.1 c7
    refine f_iload C dX8_behind_89 (lv_at hl 3 rfl) ?_
    refine f_iload C dX8_behind_91 (lv_at hl 4 rfl) ?_
    refine f_isub C dX8_behind_93 ?_
    exact f_iret C h dX8_behind_94
  · replace h := h.2 c7
    refine f_aload_n C dX8_behind_60 rfl (lv_at hl 0 rfl) ?_
    refine f_iload C dX8_behind_61 (lv_at hl 4 rfl) ?_
    refine f_iload C dX8_behind_63 (lv_at hl 3 rfl) ?_
    refine f_cVi (As := [.int x5, .int x4]) (rest := []) (n := 2) (T0 := TX8) (N := 25) C (c_X8_moved h) ok_X8_moved im_X8_moved se_X8_moved kw_RX8_148 ⟨Nat.le_trans (by decide) hR.1, Nat.le_trans (by decide) hR.2⟩ (by decide) rfl rfl rfl hl.1 (Nat.le_of_ble_eq_true rfl) dX8_behind_65 (fun r8 I8 J8 h => ?_)
    refine f_istore (lv' := [(5, .int r8), (0, .ref (gad g 8 0)), (2, .int x2), (3, .int x3), (4, .int x4), (6, .int x6)]) C dX8_behind_68 hl (by decide) rfl (fun ls hl => ?_)
    refine f_iload C dX8_behind_70 (lv_at hl 4 rfl) ?_
    refine f_iload_n C dX8_behind_72 rfl (lv_at hl 2 rfl) ?_
    refine f_iadd C dX8_behind_73 ?_
    refine f_iconst (v := 0) C dX8_behind_74 (by decide) ?_
    refine f_sipush (v := 200) C dX8_behind_75 (by decide) ?_
    refine f_cSi (As := [.int (x4 + x2), .int 0, .int 200]) (rest := []) (n := 3) C (c_X8_within h) ok_X8_within sm_X8_within kw_RX8_125 ⟨Nat.le_trans (by decide) hR.1, Nat.le_trans (by decide) hR.2⟩ rfl hl.1 (Nat.le_of_ble_eq_true rfl) dX8_behind_78 (fun r9 I9 J9 h => ?_)
    refine f_istore (lv' := [(4, .int r9), (5, .int r8), (0, .ref (gad g 8 0)), (2, .int x2), (3, .int x3), (6, .int x6)]) C dX8_behind_81 hl (by decide) rfl (fun ls hl => ?_)
    refine f_iinc (v := x6 + 1) (lv' := [(6, .int (x6 + 1)), (4, .int r9), (5, .int r8), (0, .ref (gad g 8 0)), (2, .int x2), (3, .int x3)]) C dX8_behind_83 hl (k := 5) rfl rfl (by decide) rfl (fun ls hl => ?_)
    refine f_goto (tgt := 54) C dX8_behind_86 (by decide) ?_
    exact hC54 _ _ _ _ _ _ _ h ls (lv_sub hl [3, 4, 5, 1, 2, 0] rfl)

def L_X8_behind_54 (Q : Int32 → MI → MJ → Prop) : Nat → MI → MJ → Int32 → Int32 → Int32 → Int32 → Int32 → Prop
  | 0 => fun _ _ _ _ _ _ _ => False
  | n + 1 => fun I J x2 x3 x4 x5 x6 => B_X8_behind_54 Q (L_X8_behind_54 Q n) I J x2 x3 x4 x5 x6
theorem t_X8_behind_54 {p : Program} {l : Launch} {e : Env} {R : Room} {s : State} {m : MethodId} {args : Array Value} {below : List Frame} {meth : Method} {c : Code} {g : Geo} (C : Cx g p s m args meth c cX8_behind 7 RX8 (some .int)) (hR : 2 ≤ R.frames ∧ 48 ≤ R.locals) {Q : Int32 → MI → MJ → Prop} : ∀ (n : Nat), ∀ (I : MI) (J : MJ) (x2 : Int32) (x3 : Int32) (x4 : Int32) (x5 : Int32) (x6 : Int32), L_X8_behind_54 Q n I J x2 x3 x4 x5 x6 → ∀ ls : Array Slot, lv_has ls 7 [(0, .ref (gad g 8 0)), (2, .int x2), (3, .int x3), (4, .int x4), (5, .int x5), (6, .int x6)] → Wf p l e R s m args below meth c (MQ below (Qg g (PI Q)) args s 0 0 (gA g)) g I J (F0 m 54 ls []) := by
  intro n
  induction n with
  | zero => intro I J x2 x3 x4 x5 x6 h; exact h.elim
  | succ n ih => intro I J x2 x3 x4 x5 x6 h ls hl; exact b_X8_behind_54 C hR ih h ls hl
def wp_X8_behind (Q : Int32 → MI → MJ → Prop) (I : MI) (J : MJ) (x1 : Int32) (x2 : Int32) (x3 : Int32) : Prop :=
  wp_X8_in (fun r1 I1 J1 => (r1 = 0 → Q ((-1000000)) I1 J1) ∧
  (¬ (r1 = 0) → wp_X8_in (fun r3 I3 J3 => (r3 = 0 → Q ((-1000000)) I3 J3) ∧
  (¬ (r3 = 0) → wp_X8_in (fun r5 I5 J5 => (r5 = 0 → Q ((-1000000)) I5 J5) ∧
  (¬ (r5 = 0) → ∃ n : Nat, L_X8_behind_54 Q n (up3 I5 8 0 19 0) J5 x2 x3 x1 x1 0)) I3 J3 x3 0 40)) I1 J1 x2 ((-9)) 9)) (up3 I 8 0 0 0) J x1 0 200
set_option maxRecDepth 20000 in
theorem c_X8_behind {l : Launch} {g : Geo} {Q : Int32 → MI → MJ → Prop} {I : MI} {J : MJ} {x1 : Int32} {x2 : Int32} {x3 : Int32} (h : wp_X8_behind Q I J x1 x2 x3) : Ct g l yX8_behind cX8_behind 7 (some .int) 2 48 [.ref (gad g 8 0), .int x1, .int x2, .int x3] I J (PI Q) := by
  refine Ct.of (by decide) ?_
  intro p e s m below meth c C
  have hR : 2 ≤ (Rm 2 48).frames ∧ 48 ≤ (Rm 2 48).locals := ⟨Nat.le_refl _, Nat.le_refl _⟩
  generalize Rm 2 48 = R at hR ⊢
  have hl := lv_entry ([.ref (gad g 8 0), .int x1, .int x2, .int x3]) (n := 7) (Nat.le_of_ble_eq_true rfl)
  rw [lg_entry_eq]
  generalize (lg_sl ([.ref (gad g 8 0), .int x1, .int x2, .int x3]) ++ List.replicate (7 - (lg_sl ([.ref (gad g 8 0), .int x1, .int x2, .int x3])).length) Slot.unset).toArray = ls at hl ⊢
  have hl : lv_has ls 7 [(0, .ref (gad g 8 0)), (1, .int x1), (2, .int x2), (3, .int x3)] := hl
  refine f_aload_n C dX8_behind_0 rfl (lv_at hl 0 rfl) ?_
  refine f_iconst (v := 0) C dX8_behind_1 (by decide) ?_
  refine pu_RX8_57 C (by decide) dX8_behind_2 ?_
  refine f_iload_n C dX8_behind_5 rfl (lv_at hl 1 rfl) ?_
  refine f_iconst (v := 0) C dX8_behind_6 (by decide) ?_
  refine f_sipush (v := 200) C dX8_behind_7 (by decide) ?_
  refine f_cSi (As := [.int x1, .int 0, .int 200]) (rest := []) (n := 3) C (c_X8_in h) ok_X8_in sm_X8_in kw_RX8_61 ⟨Nat.le_trans (by decide) hR.1, Nat.le_trans (by decide) hR.2⟩ rfl hl.1 (Nat.le_of_ble_eq_true rfl) dX8_behind_10 (fun r1 I1 J1 h => ?_)
  refine f_if_eq (tgt := 37) C dX8_behind_13 (by decide) (fun c2 => ?_) (fun c2 => ?_)
  · replace h := h.1 c2
    refine f_ldc C kc_RX8_69 dX8_behind_37 ?_
    exact f_iret C h dX8_behind_39
  · replace h := h.2 c2
    refine f_iload_n C dX8_behind_16 rfl (lv_at hl 2 rfl) ?_
    refine f_bipush (v := (-9)) C dX8_behind_17 (by decide) ?_
    refine f_bipush (v := 9) C dX8_behind_19 (by decide) ?_
    refine f_cSi (As := [.int x2, .int ((-9)), .int 9]) (rest := []) (n := 3) C (c_X8_in h) ok_X8_in sm_X8_in kw_RX8_61 ⟨Nat.le_trans (by decide) hR.1, Nat.le_trans (by decide) hR.2⟩ rfl hl.1 (Nat.le_of_ble_eq_true rfl) dX8_behind_21 (fun r3 I3 J3 h => ?_)
    refine f_if_eq (tgt := 37) C dX8_behind_24 (by decide) (fun c4 => ?_) (fun c4 => ?_)
    · replace h := h.1 c4
      refine f_ldc C kc_RX8_69 dX8_behind_37 ?_
      exact f_iret C h dX8_behind_39
    · replace h := h.2 c4
      refine f_iload_n C dX8_behind_27 rfl (lv_at hl 3 rfl) ?_
      refine f_iconst (v := 0) C dX8_behind_28 (by decide) ?_
      refine f_bipush (v := 40) C dX8_behind_29 (by decide) ?_
      refine f_cSi (As := [.int x3, .int 0, .int 40]) (rest := []) (n := 3) C (c_X8_in h) ok_X8_in sm_X8_in kw_RX8_61 ⟨Nat.le_trans (by decide) hR.1, Nat.le_trans (by decide) hR.2⟩ rfl hl.1 (Nat.le_of_ble_eq_true rfl) dX8_behind_31 (fun r5 I5 J5 h => ?_)
      refine f_if_ne (tgt := 40) C dX8_behind_34 (by decide) (fun c6 => ?_) (fun c6 => ?_)
      · replace h := h.2 c6
        refine f_aload_n C dX8_behind_40 rfl (lv_at hl 0 rfl) ?_
        refine f_iconst (v := 0) C dX8_behind_41 (by decide) ?_
        refine pu_RX8_119 C (by decide) dX8_behind_42 ?_
        refine f_iload_n C dX8_behind_45 rfl (lv_at hl 1 rfl) ?_
        refine f_istore (lv' := [(4, .int x1), (0, .ref (gad g 8 0)), (1, .int x1), (2, .int x2), (3, .int x3)]) C dX8_behind_46 hl (by decide) rfl (fun ls hl => ?_)
        refine f_iload_n C dX8_behind_48 rfl (lv_at hl 2 rfl) ?_
        refine f_istore (lv' := [(5, .int x1), (4, .int x1), (0, .ref (gad g 8 0)), (1, .int x1), (2, .int x2), (3, .int x3)]) C dX8_behind_49 hl (by decide) rfl (fun ls hl => ?_)
        refine f_iconst (v := 0) C dX8_behind_51 (by decide) ?_
        refine f_istore (lv' := [(6, .int 0), (5, .int x1), (4, .int x1), (0, .ref (gad g 8 0)), (1, .int x1), (2, .int x2), (3, .int x3)]) C dX8_behind_52 hl (by decide) rfl (fun ls hl => ?_)
        obtain ⟨n, h⟩ := h
        exact t_X8_behind_54 C hR n _ _ _ _ _ _ _ h ls (lv_sub hl [3, 5, 6, 2, 1, 0] rfl)
      · replace h := h.1 c6
        refine f_ldc C kc_RX8_69 dX8_behind_37 ?_
        exact f_iret C h dX8_behind_39

def wp_X8_card (Q : Int32 → MI → MJ → Prop) (I : MI) (J : MJ) (x1 : Int32) (x2 : Int32) (x3 : Int32) : Prop :=
  wp_X8_in (fun r1 I1 J1 => (r1 = 0 → Q ((-1)) I1 J1) ∧
  (¬ (r1 = 0) → wp_X8_in (fun r3 I3 J3 => (r3 = 0 → Q ((-1)) I3 J3) ∧
  (¬ (r3 = 0) → wp_X8_in (fun r5 I5 J5 => (r5 = 0 → Q ((-1)) I5 J5) ∧
  (¬ (r5 = 0) → vp_in ((2 * x1) + x2) 20 ∧ (∀ v8 : Int32, v8 = I5 32 0 (((2 * x1) + x2).toNatClampNeg) → (vp_in ((2 * x1) + x2) 20 ∧ (Q v8 (up3 I5 32 0 (((2 * x1) + x2).toNatClampNeg) x3) J5))))) I3 J3 x3 0 200)) I1 J1 x2 0 1)) (up3 I 8 0 0 0) J x1 0 9
set_option maxRecDepth 20000 in
theorem c_X8_card {l : Launch} {g : Geo} {Q : Int32 → MI → MJ → Prop} {I : MI} {J : MJ} {x1 : Int32} {x2 : Int32} {x3 : Int32} (h : wp_X8_card Q I J x1 x2 x3) : Ct g l yX8_card cX8_card 5 (some .int) 1 22 [.ref (gad g 8 0), .int x1, .int x2, .int x3] I J (PI Q) := by
  refine Ct.of (by decide) ?_
  intro p e s m below meth c C
  have hR : 1 ≤ (Rm 1 22).frames ∧ 22 ≤ (Rm 1 22).locals := ⟨Nat.le_refl _, Nat.le_refl _⟩
  generalize Rm 1 22 = R at hR ⊢
  have hl := lv_entry ([.ref (gad g 8 0), .int x1, .int x2, .int x3]) (n := 5) (Nat.le_of_ble_eq_true rfl)
  rw [lg_entry_eq]
  generalize (lg_sl ([.ref (gad g 8 0), .int x1, .int x2, .int x3]) ++ List.replicate (5 - (lg_sl ([.ref (gad g 8 0), .int x1, .int x2, .int x3])).length) Slot.unset).toArray = ls at hl ⊢
  have hl : lv_has ls 5 [(0, .ref (gad g 8 0)), (1, .int x1), (2, .int x2), (3, .int x3)] := hl
  refine f_aload_n C dX8_card_0 rfl (lv_at hl 0 rfl) ?_
  refine f_iconst (v := 0) C dX8_card_1 (by decide) ?_
  refine pu_RX8_57 C (by decide) dX8_card_2 ?_
  refine f_iload_n C dX8_card_5 rfl (lv_at hl 1 rfl) ?_
  refine f_iconst (v := 0) C dX8_card_6 (by decide) ?_
  refine f_bipush (v := 9) C dX8_card_7 (by decide) ?_
  refine f_cSi (As := [.int x1, .int 0, .int 9]) (rest := []) (n := 3) C (c_X8_in h) ok_X8_in sm_X8_in kw_RX8_61 ⟨Nat.le_trans (by decide) hR.1, Nat.le_trans (by decide) hR.2⟩ rfl hl.1 (Nat.le_of_ble_eq_true rfl) dX8_card_9 (fun r1 I1 J1 h => ?_)
  refine f_if_eq (tgt := 35) C dX8_card_12 (by decide) (fun c2 => ?_) (fun c2 => ?_)
  · replace h := h.1 c2
    refine f_iconst (v := (-1)) C dX8_card_35 (by decide) ?_
    exact f_iret C h dX8_card_36
  · replace h := h.2 c2
    refine f_iload_n C dX8_card_15 rfl (lv_at hl 2 rfl) ?_
    refine f_iconst (v := 0) C dX8_card_16 (by decide) ?_
    refine f_iconst (v := 1) C dX8_card_17 (by decide) ?_
    refine f_cSi (As := [.int x2, .int 0, .int 1]) (rest := []) (n := 3) C (c_X8_in h) ok_X8_in sm_X8_in kw_RX8_61 ⟨Nat.le_trans (by decide) hR.1, Nat.le_trans (by decide) hR.2⟩ rfl hl.1 (Nat.le_of_ble_eq_true rfl) dX8_card_18 (fun r3 I3 J3 h => ?_)
    refine f_if_eq (tgt := 35) C dX8_card_21 (by decide) (fun c4 => ?_) (fun c4 => ?_)
    · replace h := h.1 c4
      refine f_iconst (v := (-1)) C dX8_card_35 (by decide) ?_
      exact f_iret C h dX8_card_36
    · replace h := h.2 c4
      refine f_iload_n C dX8_card_24 rfl (lv_at hl 3 rfl) ?_
      refine f_iconst (v := 0) C dX8_card_25 (by decide) ?_
      refine f_sipush (v := 200) C dX8_card_26 (by decide) ?_
      refine f_cSi (As := [.int x3, .int 0, .int 200]) (rest := []) (n := 3) C (c_X8_in h) ok_X8_in sm_X8_in kw_RX8_61 ⟨Nat.le_trans (by decide) hR.1, Nat.le_trans (by decide) hR.2⟩ rfl hl.1 (Nat.le_of_ble_eq_true rfl) dX8_card_29 (fun r5 I5 J5 h => ?_)
      refine f_if_ne (tgt := 37) C dX8_card_32 (by decide) (fun c6 => ?_) (fun c6 => ?_)
      · replace h := h.2 c6
        refine f_aload_n C dX8_card_37 rfl (lv_at hl 0 rfl) ?_
        refine ge_RX8_32 C (by decide) dX8_card_38 ?_
        refine f_iconst (v := 2) C dX8_card_41 (by decide) ?_
        refine f_iload_n C dX8_card_42 rfl (lv_at hl 1 rfl) ?_
        refine f_imul C dX8_card_43 ?_
        refine f_iload_n C dX8_card_44 rfl (lv_at hl 2 rfl) ?_
        refine f_iadd C dX8_card_45 ?_
        obtain ⟨hi7, h⟩ := h
        refine al_k (n := 20) (k := ((2 * x1) + x2).toNatClampNeg) C (by decide) rfl rfl hi7 dX8_card_46 ?_
        generalize hv8 : I5 32 0 (((2 * x1) + x2).toNatClampNeg) = v8
        replace h := h v8 hv8.symm
        refine f_istore (lv' := [(4, .int v8), (0, .ref (gad g 8 0)), (1, .int x1), (2, .int x2), (3, .int x3)]) C dX8_card_47 hl (by decide) rfl (fun ls hl => ?_)
        refine f_aload_n C dX8_card_49 rfl (lv_at hl 1 rfl) ?_
        refine ge_RX8_32 C (by decide) dX8_card_50 ?_
        refine f_iconst (v := 2) C dX8_card_53 (by decide) ?_
        refine f_iload_n C dX8_card_54 rfl (lv_at hl 2 rfl) ?_
        refine f_imul C dX8_card_55 ?_
        refine f_iload_n C dX8_card_56 rfl (lv_at hl 3 rfl) ?_
        refine f_iadd C dX8_card_57 ?_
        refine f_iload_n C dX8_card_58 rfl (lv_at hl 4 rfl) ?_
        obtain ⟨hi9, h⟩ := h
        refine as_k (n := 20) (k := ((2 * x1) + x2).toNatClampNeg) C (by decide) (fun _ => rfl) rfl hi9 dX8_card_59 ?_
        refine f_iload C dX8_card_60 (lv_at hl 0 rfl) ?_
        exact f_iret C h dX8_card_62
      · replace h := h.1 c6
        refine f_iconst (v := (-1)) C dX8_card_35 (by decide) ?_
        exact f_iret C h dX8_card_36

def J_X8_wins_137 (Q : Int32 → MI → MJ → Prop) (C14 : MI → MJ → Int32 → Int32 → Int32 → Int32 → Int32 → Int32 → Prop) (I : MI) (J : MJ) (x1 : Int32) (x2 : Int32) (x3 : Int32) (x5 : Int32) (x6 : Int32) (s0 : Int32) (s1 : Int32) : Prop :=
  wp_X8_moved (fun r10 I10 J10 => C14 I10 J10 x1 x2 x3 r10 x5 (x6 + 1)) I J s1 s0
set_option maxRecDepth 20000 in
theorem t_X8_wins_137 {p : Program} {l : Launch} {e : Env} {R : Room} {s : State} {m : MethodId} {args : Array Value} {below : List Frame} {meth : Method} {c : Code} {g : Geo} (C : Cx g p s m args meth c cX8_wins 11 RX8 (some .int)) (hR : 2 ≤ R.frames ∧ 48 ≤ R.locals) {Q : Int32 → MI → MJ → Prop} {C14 : MI → MJ → Int32 → Int32 → Int32 → Int32 → Int32 → Int32 → Prop} (hC14 : ∀ (I : MI) (J : MJ) (x1 : Int32) (x2 : Int32) (x3 : Int32) (x4 : Int32) (x5 : Int32) (x6 : Int32), C14 I J x1 x2 x3 x4 x5 x6 → ∀ ls : Array Slot, lv_has ls 11 [(0, .ref (gad g 8 0)), (1, .int x1), (2, .int x2), (3, .int x3), (4, .int x4), (5, .int x5), (6, .int x6)] → Wf p l e R s m args below meth c (MQ below (Qg g (PI Q)) args s 0 0 (gA g)) g I J (F0 m 14 ls [])) {I : MI} {J : MJ} {x1 : Int32} {x2 : Int32} {x3 : Int32} {x5 : Int32} {x6 : Int32} {s0 : Int32} {s1 : Int32} (h : J_X8_wins_137 Q C14 I J x1 x2 x3 x5 x6 s0 s1) (ls : Array Slot) (hl : lv_has ls 11 [(0, .ref (gad g 8 0)), (1, .int x1), (2, .int x2), (3, .int x3), (5, .int x5), (6, .int x6)]) : Wf p l e R s m args below meth c (MQ below (Qg g (PI Q)) args s 0 0 (gA g)) g I J (F0 m 137 ls [.int s0, .int s1, .ref (gad g 8 0)]) := by
  refine f_cVi (As := [.int s1, .int s0]) (rest := []) (n := 2) (T0 := TX8) (N := 25) C (c_X8_moved h) ok_X8_moved im_X8_moved se_X8_moved kw_RX8_148 ⟨Nat.le_trans (by decide) hR.1, Nat.le_trans (by decide) hR.2⟩ (by decide) rfl rfl rfl hl.1 (Nat.le_of_ble_eq_true rfl) dX8_wins_137 (fun r10 I10 J10 h => ?_)
  refine f_istore (lv' := [(4, .int r10), (0, .ref (gad g 8 0)), (1, .int x1), (2, .int x2), (3, .int x3), (5, .int x5), (6, .int x6)]) C dX8_wins_140 hl (by decide) rfl (fun ls hl => ?_)
  refine f_iinc (v := x6 + 1) (lv' := [(6, .int (x6 + 1)), (4, .int r10), (0, .ref (gad g 8 0)), (1, .int x1), (2, .int x2), (3, .int x3), (5, .int x5)]) C dX8_wins_142 hl (k := 6) rfl rfl (by decide) rfl (fun ls hl => ?_)
  refine f_goto (tgt := 14) C dX8_wins_145 (by decide) ?_
  exact hC14 _ _ _ _ _ _ _ _ h ls (lv_sub hl [2, 3, 4, 5, 1, 6, 0] rfl)

def J_X8_wins_114 (Q : Int32 → MI → MJ → Prop) (C14 : MI → MJ → Int32 → Int32 → Int32 → Int32 → Int32 → Int32 → Prop) (I : MI) (J : MJ) (x1 : Int32) (x2 : Int32) (x3 : Int32) (x4 : Int32) (x6 : Int32) (x10 : Int32) (s0 : Int32) (s1 : Int32) : Prop :=
  (x10 = 0 → J_X8_wins_137 Q C14 I J x1 x2 x3 (s1 + s0) x6 x1 x4) ∧
  (¬ (x10 = 0) → J_X8_wins_137 Q C14 I J x1 x2 x3 (s1 + s0) x6 (x1 - (I 28 0 2)) x4)
set_option maxRecDepth 20000 in
theorem t_X8_wins_114 {p : Program} {l : Launch} {e : Env} {R : Room} {s : State} {m : MethodId} {args : Array Value} {below : List Frame} {meth : Method} {c : Code} {g : Geo} (C : Cx g p s m args meth c cX8_wins 11 RX8 (some .int)) (hR : 2 ≤ R.frames ∧ 48 ≤ R.locals) {Q : Int32 → MI → MJ → Prop} {C14 : MI → MJ → Int32 → Int32 → Int32 → Int32 → Int32 → Int32 → Prop} (hC14 : ∀ (I : MI) (J : MJ) (x1 : Int32) (x2 : Int32) (x3 : Int32) (x4 : Int32) (x5 : Int32) (x6 : Int32), C14 I J x1 x2 x3 x4 x5 x6 → ∀ ls : Array Slot, lv_has ls 11 [(0, .ref (gad g 8 0)), (1, .int x1), (2, .int x2), (3, .int x3), (4, .int x4), (5, .int x5), (6, .int x6)] → Wf p l e R s m args below meth c (MQ below (Qg g (PI Q)) args s 0 0 (gA g)) g I J (F0 m 14 ls [])) {I : MI} {J : MJ} {x1 : Int32} {x2 : Int32} {x3 : Int32} {x4 : Int32} {x6 : Int32} {x10 : Int32} {s0 : Int32} {s1 : Int32} (h : J_X8_wins_114 Q C14 I J x1 x2 x3 x4 x6 x10 s0 s1) (ls : Array Slot) (hl : lv_has ls 11 [(0, .ref (gad g 8 0)), (1, .int x1), (2, .int x2), (3, .int x3), (4, .int x4), (6, .int x6), (10, .int x10)]) : Wf p l e R s m args below meth c (MQ below (Qg g (PI Q)) args s 0 0 (gA g)) g I J (F0 m 114 ls [.int s0, .int s1]) := by
  refine f_iadd C dX8_wins_114 ?_
  refine f_istore (lv' := [(5, .int (s1 + s0)), (0, .ref (gad g 8 0)), (1, .int x1), (2, .int x2), (3, .int x3), (4, .int x4), (6, .int x6), (10, .int x10)]) C dX8_wins_115 hl (by decide) rfl (fun ls hl => ?_)
  refine f_aload_n C dX8_wins_117 rfl (lv_at hl 1 rfl) ?_
  refine f_iload C dX8_wins_118 (lv_at hl 5 rfl) ?_
  refine f_iload C dX8_wins_120 (lv_at hl 7 rfl) ?_
  refine f_if_eq (tgt := 136) C dX8_wins_122 (by decide) (fun c9 => ?_) (fun c9 => ?_)
  · replace h := h.1 c9
    refine f_iload_n C dX8_wins_136 rfl (lv_at hl 2 rfl) ?_
    exact t_X8_wins_137 C hR hC14 h ls (lv_sub hl [1, 2, 3, 4, 0, 6] rfl)
  · replace h := h.2 c9
    refine f_iload_n C dX8_wins_125 rfl (lv_at hl 2 rfl) ?_
    refine f_aload_n C dX8_wins_126 rfl (lv_at hl 1 rfl) ?_
    refine ge_RX8_20 C (by decide) dX8_wins_127 ?_
    refine f_iconst (v := 2) C dX8_wins_130 (by decide) ?_
    refine al_k (n := 3) (k := 2) C (by decide) rfl (by decide) (vin_k (by decide)) dX8_wins_131 ?_
    refine f_isub C dX8_wins_132 ?_
    refine f_goto (tgt := 137) C dX8_wins_133 (by decide) ?_
    exact t_X8_wins_137 C hR hC14 h ls (lv_sub hl [1, 2, 3, 4, 0, 6] rfl)

def J_X8_wins_47 (Q : Int32 → MI → MJ → Prop) (C14 : MI → MJ → Int32 → Int32 → Int32 → Int32 → Int32 → Int32 → Prop) (I : MI) (J : MJ) (x1 : Int32) (x2 : Int32) (x3 : Int32) (x4 : Int32) (x5 : Int32) (x6 : Int32) (x7 : Int32) (s0 : Int32) : Prop :=
  wp_X8_within (fun r5 I5 J5 => wp_X8_has (fun r6 I6 J6 => (r6 = 0 → vp_in ((2 * x6) + 1) 20 ∧ (J_X8_wins_114 Q C14 I6 J6 x1 x2 x3 x4 x6 r6 ((I6 32 0 (((2 * x6) + 1).toNatClampNeg)) * r5) x5)) ∧
  (¬ (r6 = 0) → J_X8_wins_114 Q C14 I6 J6 x1 x2 x3 x4 x6 r6 0 x5)) I5 J5 x3 x6) I J ((((x1 - s0) - x7) + (I 28 0 0)) + 1) 0 ((2 * (I 28 0 0)) + 1)
set_option maxRecDepth 20000 in
theorem t_X8_wins_47 {p : Program} {l : Launch} {e : Env} {R : Room} {s : State} {m : MethodId} {args : Array Value} {below : List Frame} {meth : Method} {c : Code} {g : Geo} (C : Cx g p s m args meth c cX8_wins 11 RX8 (some .int)) (hR : 2 ≤ R.frames ∧ 48 ≤ R.locals) {Q : Int32 → MI → MJ → Prop} {C14 : MI → MJ → Int32 → Int32 → Int32 → Int32 → Int32 → Int32 → Prop} (hC14 : ∀ (I : MI) (J : MJ) (x1 : Int32) (x2 : Int32) (x3 : Int32) (x4 : Int32) (x5 : Int32) (x6 : Int32), C14 I J x1 x2 x3 x4 x5 x6 → ∀ ls : Array Slot, lv_has ls 11 [(0, .ref (gad g 8 0)), (1, .int x1), (2, .int x2), (3, .int x3), (4, .int x4), (5, .int x5), (6, .int x6)] → Wf p l e R s m args below meth c (MQ below (Qg g (PI Q)) args s 0 0 (gA g)) g I J (F0 m 14 ls [])) {I : MI} {J : MJ} {x1 : Int32} {x2 : Int32} {x3 : Int32} {x4 : Int32} {x5 : Int32} {x6 : Int32} {x7 : Int32} {s0 : Int32} (h : J_X8_wins_47 Q C14 I J x1 x2 x3 x4 x5 x6 x7 s0) (ls : Array Slot) (hl : lv_has ls 11 [(0, .ref (gad g 8 0)), (1, .int x1), (2, .int x2), (3, .int x3), (4, .int x4), (5, .int x5), (6, .int x6), (7, .int x7)]) : Wf p l e R s m args below meth c (MQ below (Qg g (PI Q)) args s 0 0 (gA g)) g I J (F0 m 47 ls [.int s0]) := by
  refine f_istore (lv' := [(8, .int s0), (0, .ref (gad g 8 0)), (1, .int x1), (2, .int x2), (3, .int x3), (4, .int x4), (5, .int x5), (6, .int x6), (7, .int x7)]) C dX8_wins_47 hl (by decide) rfl (fun ls hl => ?_)
  refine f_iload_n C dX8_wins_49 rfl (lv_at hl 2 rfl) ?_
  refine f_iload C dX8_wins_50 (lv_at hl 0 rfl) ?_
  refine f_isub C dX8_wins_52 ?_
  refine f_iload C dX8_wins_53 (lv_at hl 8 rfl) ?_
  refine f_isub C dX8_wins_55 ?_
  refine f_aload_n C dX8_wins_56 rfl (lv_at hl 1 rfl) ?_
  refine ge_RX8_20 C (by decide) dX8_wins_57 ?_
  refine f_iconst (v := 0) C dX8_wins_60 (by decide) ?_
  refine al_k (n := 3) (k := 0) C (by decide) rfl (by decide) (vin_k (by decide)) dX8_wins_61 ?_
  refine f_iadd C dX8_wins_62 ?_
  refine f_iconst (v := 1) C dX8_wins_63 (by decide) ?_
  refine f_iadd C dX8_wins_64 ?_
  refine f_iconst (v := 0) C dX8_wins_65 (by decide) ?_
  refine f_iconst (v := 2) C dX8_wins_66 (by decide) ?_
  refine f_aload_n C dX8_wins_67 rfl (lv_at hl 1 rfl) ?_
  refine ge_RX8_20 C (by decide) dX8_wins_68 ?_
  refine f_iconst (v := 0) C dX8_wins_71 (by decide) ?_
  refine al_k (n := 3) (k := 0) C (by decide) rfl (by decide) (vin_k (by decide)) dX8_wins_72 ?_
  refine f_imul C dX8_wins_73 ?_
  refine f_iconst (v := 1) C dX8_wins_74 (by decide) ?_
  refine f_iadd C dX8_wins_75 ?_
  refine f_cSi (As := [.int ((((x1 - s0) - x7) + (I 28 0 0)) + 1), .int 0, .int ((2 * (I 28 0 0)) + 1)]) (rest := []) (n := 3) C (c_X8_within h) ok_X8_within sm_X8_within kw_RX8_125 ⟨Nat.le_trans (by decide) hR.1, Nat.le_trans (by decide) hR.2⟩ rfl hl.1 (Nat.le_of_ble_eq_true rfl) dX8_wins_76 (fun r5 I5 J5 h => ?_)
  refine f_istore (lv' := [(9, .int r5), (8, .int s0), (0, .ref (gad g 8 0)), (1, .int x1), (2, .int x2), (3, .int x3), (4, .int x4), (5, .int x5), (6, .int x6), (7, .int x7)]) C dX8_wins_79 hl (by decide) rfl (fun ls hl => ?_)
  refine f_iload_n C dX8_wins_81 rfl (lv_at hl 5 rfl) ?_
  refine f_iload C dX8_wins_82 (lv_at hl 8 rfl) ?_
  refine f_cSi (As := [.int x3, .int x6]) (rest := []) (n := 2) C (c_X8_has h) ok_X8_has sm_X8_has kw_RX8_132 ⟨Nat.le_trans (by decide) hR.1, Nat.le_trans (by decide) hR.2⟩ rfl hl.1 (Nat.le_of_ble_eq_true rfl) dX8_wins_84 (fun r6 I6 J6 h => ?_)
  refine f_istore (lv' := [(10, .int r6), (9, .int r5), (8, .int s0), (0, .ref (gad g 8 0)), (1, .int x1), (2, .int x2), (3, .int x3), (4, .int x4), (5, .int x5), (6, .int x6), (7, .int x7)]) C dX8_wins_87 hl (by decide) rfl (fun ls hl => ?_)
  refine f_iload C dX8_wins_89 (lv_at hl 8 rfl) ?_
  refine f_iload C dX8_wins_91 (lv_at hl 0 rfl) ?_
  refine f_if_eq (tgt := 100) C dX8_wins_93 (by decide) (fun c7 => ?_) (fun c7 => ?_)
  · replace h := h.1 c7
    refine f_aload_n C dX8_wins_100 rfl (lv_at hl 3 rfl) ?_
    refine ge_RX8_32 C (by decide) dX8_wins_101 ?_
    refine f_iconst (v := 2) C dX8_wins_104 (by decide) ?_
    refine f_iload C dX8_wins_105 (lv_at hl 9 rfl) ?_
    refine f_imul C dX8_wins_107 ?_
    refine f_iconst (v := 1) C dX8_wins_108 (by decide) ?_
    refine f_iadd C dX8_wins_109 ?_
    obtain ⟨hi8, h⟩ := h
    refine al_k (n := 20) (k := ((2 * x6) + 1).toNatClampNeg) C (by decide) rfl rfl hi8 dX8_wins_110 ?_
    refine f_iload C dX8_wins_111 (lv_at hl 1 rfl) ?_
    refine f_imul C dX8_wins_113 ?_
    exact t_X8_wins_114 C hR hC14 h ls (lv_sub hl [3, 4, 5, 6, 7, 9, 0] rfl)
  · replace h := h.2 c7
    refine f_iconst (v := 0) C dX8_wins_96 (by decide) ?_
    refine f_goto (tgt := 114) C dX8_wins_97 (by decide) ?_
    exact t_X8_wins_114 C hR hC14 h ls (lv_sub hl [3, 4, 5, 6, 7, 9, 0] rfl)

def B_X8_wins_14 (Q : Int32 → MI → MJ → Prop) (C14 : MI → MJ → Int32 → Int32 → Int32 → Int32 → Int32 → Int32 → Prop) (I : MI) (J : MJ) (x1 : Int32) (x2 : Int32) (x3 : Int32) (x4 : Int32) (x5 : Int32) (x6 : Int32) : Prop :=
  (x2 ≤ x6 → Q x5 I J) ∧
  (¬ (x2 ≤ x6) → vp_in (2 * x6) 20 ∧ (∀ v3 : Int32, v3 = I 32 0 ((2 * x6).toNatClampNeg) → ((x4 ≤ v3 → J_X8_wins_47 Q C14 I J x1 x2 x3 x4 x5 x6 v3 0) ∧
  (¬ (x4 ≤ v3) → J_X8_wins_47 Q C14 I J x1 x2 x3 x4 x5 x6 v3 (x4 - v3)))))
set_option maxRecDepth 20000 in
theorem b_X8_wins_14 {p : Program} {l : Launch} {e : Env} {R : Room} {s : State} {m : MethodId} {args : Array Value} {below : List Frame} {meth : Method} {c : Code} {g : Geo} (C : Cx g p s m args meth c cX8_wins 11 RX8 (some .int)) (hR : 2 ≤ R.frames ∧ 48 ≤ R.locals) {Q : Int32 → MI → MJ → Prop} {C14 : MI → MJ → Int32 → Int32 → Int32 → Int32 → Int32 → Int32 → Prop} (hC14 : ∀ (I : MI) (J : MJ) (x1 : Int32) (x2 : Int32) (x3 : Int32) (x4 : Int32) (x5 : Int32) (x6 : Int32), C14 I J x1 x2 x3 x4 x5 x6 → ∀ ls : Array Slot, lv_has ls 11 [(0, .ref (gad g 8 0)), (1, .int x1), (2, .int x2), (3, .int x3), (4, .int x4), (5, .int x5), (6, .int x6)] → Wf p l e R s m args below meth c (MQ below (Qg g (PI Q)) args s 0 0 (gA g)) g I J (F0 m 14 ls [])) {I : MI} {J : MJ} {x1 : Int32} {x2 : Int32} {x3 : Int32} {x4 : Int32} {x5 : Int32} {x6 : Int32} (h : B_X8_wins_14 Q C14 I J x1 x2 x3 x4 x5 x6) (ls : Array Slot) (hl : lv_has ls 11 [(0, .ref (gad g 8 0)), (1, .int x1), (2, .int x2), (3, .int x3), (4, .int x4), (5, .int x5), (6, .int x6)]) : Wf p l e R s m args below meth c (MQ below (Qg g (PI Q)) args s 0 0 (gA g)) g I J (F0 m 14 ls []) := by
  refine f_iload C dX8_wins_14 (lv_at hl 6 rfl) ?_
  refine f_iload_n C dX8_wins_16 rfl (lv_at hl 2 rfl) ?_
  refine f_icmp_ge (tgt := 148) C dX8_wins_17 (by decide) (fun c1 => ?_) (fun c1 => ?_)
  · replace h := h.1 c1
    refine f_iload C dX8_wins_148 (lv_at hl 5 rfl) ?_
    exact f_iret C h dX8_wins_150
  · replace h := h.2 c1
    refine f_aload_n C dX8_wins_20 rfl (lv_at hl 0 rfl) ?_
    refine ge_RX8_32 C (by decide) dX8_wins_21 ?_
    refine f_iconst (v := 2) C dX8_wins_24 (by decide) ?_
    refine f_iload C dX8_wins_25 (lv_at hl 6 rfl) ?_
    refine f_imul C dX8_wins_27 ?_
    obtain ⟨hi2, h⟩ := h
    refine al_k (n := 20) (k := (2 * x6).toNatClampNeg) C (by decide) rfl rfl hi2 dX8_wins_28 ?_
    generalize hv3 : I 32 0 ((2 * x6).toNatClampNeg) = v3
    replace h := h v3 hv3.symm
    refine f_istore (lv' := [(7, .int v3), (0, .ref (gad g 8 0)), (1, .int x1), (2, .int x2), (3, .int x3), (4, .int x4), (5, .int x5), (6, .int x6)]) C dX8_wins_29 hl (by decide) rfl (fun ls hl => ?_)
    refine f_iload C dX8_wins_31 (lv_at hl 5 rfl) ?_
    refine f_iload C dX8_wins_33 (lv_at hl 0 rfl) ?_
    refine f_icmp_le (tgt := 46) C dX8_wins_35 (by decide) (fun c4 => ?_) (fun c4 => ?_)
    · replace h := h.1 c4
      refine f_iconst (v := 0) C dX8_wins_46 (by decide) ?_
      exact t_X8_wins_47 C hR hC14 h ls (lv_sub hl [1, 2, 3, 4, 5, 6, 7, 0] rfl)
    · replace h := h.2 c4
      refine f_iload C dX8_wins_38 (lv_at hl 5 rfl) ?_
      refine f_iload C dX8_wins_40 (lv_at hl 0 rfl) ?_
      refine f_isub C dX8_wins_42 ?_
      refine f_goto (tgt := 47) C dX8_wins_43 (by decide) ?_
      exact t_X8_wins_47 C hR hC14 h ls (lv_sub hl [1, 2, 3, 4, 5, 6, 7, 0] rfl)

def L_X8_wins_14 (Q : Int32 → MI → MJ → Prop) : Nat → MI → MJ → Int32 → Int32 → Int32 → Int32 → Int32 → Int32 → Prop
  | 0 => fun _ _ _ _ _ _ _ _ => False
  | n + 1 => fun I J x1 x2 x3 x4 x5 x6 => B_X8_wins_14 Q (L_X8_wins_14 Q n) I J x1 x2 x3 x4 x5 x6
theorem t_X8_wins_14 {p : Program} {l : Launch} {e : Env} {R : Room} {s : State} {m : MethodId} {args : Array Value} {below : List Frame} {meth : Method} {c : Code} {g : Geo} (C : Cx g p s m args meth c cX8_wins 11 RX8 (some .int)) (hR : 2 ≤ R.frames ∧ 48 ≤ R.locals) {Q : Int32 → MI → MJ → Prop} : ∀ (n : Nat), ∀ (I : MI) (J : MJ) (x1 : Int32) (x2 : Int32) (x3 : Int32) (x4 : Int32) (x5 : Int32) (x6 : Int32), L_X8_wins_14 Q n I J x1 x2 x3 x4 x5 x6 → ∀ ls : Array Slot, lv_has ls 11 [(0, .ref (gad g 8 0)), (1, .int x1), (2, .int x2), (3, .int x3), (4, .int x4), (5, .int x5), (6, .int x6)] → Wf p l e R s m args below meth c (MQ below (Qg g (PI Q)) args s 0 0 (gA g)) g I J (F0 m 14 ls []) := by
  intro n
  induction n with
  | zero => intro I J x1 x2 x3 x4 x5 x6 h; exact h.elim
  | succ n ih => intro I J x1 x2 x3 x4 x5 x6 h ls hl; exact b_X8_wins_14 C hR ih h ls hl
def wp_X8_wins (Q : Int32 → MI → MJ → Prop) (I : MI) (J : MJ) (x1 : Int32) (x2 : Int32) (x3 : Int32) : Prop :=
  ∃ n : Nat, L_X8_wins_14 Q n (up3 I 8 0 19 0) J x1 x2 x3 x1 0 0
set_option maxRecDepth 20000 in
theorem c_X8_wins {l : Launch} {g : Geo} {Q : Int32 → MI → MJ → Prop} {I : MI} {J : MJ} {x1 : Int32} {x2 : Int32} {x3 : Int32} (h : wp_X8_wins Q I J x1 x2 x3) : Ct g l yX8_wins cX8_wins 11 (some .int) 2 48 [.ref (gad g 8 0), .int x1, .int x2, .int x3] I J (PI Q) := by
  refine Ct.of (by decide) ?_
  intro p e s m below meth c C
  have hR : 2 ≤ (Rm 2 48).frames ∧ 48 ≤ (Rm 2 48).locals := ⟨Nat.le_refl _, Nat.le_refl _⟩
  generalize Rm 2 48 = R at hR ⊢
  have hl := lv_entry ([.ref (gad g 8 0), .int x1, .int x2, .int x3]) (n := 11) (Nat.le_of_ble_eq_true rfl)
  rw [lg_entry_eq]
  generalize (lg_sl ([.ref (gad g 8 0), .int x1, .int x2, .int x3]) ++ List.replicate (11 - (lg_sl ([.ref (gad g 8 0), .int x1, .int x2, .int x3])).length) Slot.unset).toArray = ls at hl ⊢
  have hl : lv_has ls 11 [(0, .ref (gad g 8 0)), (1, .int x1), (2, .int x2), (3, .int x3)] := hl
  refine f_aload_n C dX8_wins_0 rfl (lv_at hl 0 rfl) ?_
  refine f_iconst (v := 0) C dX8_wins_1 (by decide) ?_
  refine pu_RX8_119 C (by decide) dX8_wins_2 ?_
  refine f_iload_n C dX8_wins_5 rfl (lv_at hl 1 rfl) ?_
  refine f_istore (lv' := [(4, .int x1), (0, .ref (gad g 8 0)), (1, .int x1), (2, .int x2), (3, .int x3)]) C dX8_wins_6 hl (by decide) rfl (fun ls hl => ?_)
  refine f_iconst (v := 0) C dX8_wins_8 (by decide) ?_
  refine f_istore (lv' := [(5, .int 0), (4, .int x1), (0, .ref (gad g 8 0)), (1, .int x1), (2, .int x2), (3, .int x3)]) C dX8_wins_9 hl (by decide) rfl (fun ls hl => ?_)
  refine f_iconst (v := 0) C dX8_wins_11 (by decide) ?_
  refine f_istore (lv' := [(6, .int 0), (5, .int 0), (4, .int x1), (0, .ref (gad g 8 0)), (1, .int x1), (2, .int x2), (3, .int x3)]) C dX8_wins_12 hl (by decide) rfl (fun ls hl => ?_)
  obtain ⟨n, h⟩ := h
  exact t_X8_wins_14 C hR n _ _ _ _ _ _ _ _ h ls (lv_sub hl [3, 4, 5, 6, 2, 1, 0] rfl)

def J_X8_plan_92 (Q : Int32 → MI → MJ → Prop) (C60 : MI → MJ → Int32 → Int32 → Int32 → Int32 → Int32 → Int32 → Prop) (I : MI) (J : MJ) (x1 : Int32) (x2 : Int32) (x3 : Int32) (x5 : Int32) (x6 : Int32) (x7 : Int32) (s0 : Int32) : Prop :=
  (x7 ≤ x5 → C60 I J x1 x2 x3 s0 x5 (x6 + 1)) ∧
  (¬ (x7 ≤ x5) → C60 I J x1 x2 x3 s0 x7 (x6 + 1))
set_option maxRecDepth 20000 in
theorem t_X8_plan_92 {p : Program} {l : Launch} {e : Env} {R : Room} {s : State} {m : MethodId} {args : Array Value} {below : List Frame} {meth : Method} {c : Code} {g : Geo} (C : Cx g p s m args meth c cX8_plan 8 RX8 (some .int)) (hR : 3 ≤ R.frames ∧ 78 ≤ R.locals) {Q : Int32 → MI → MJ → Prop} {C60 : MI → MJ → Int32 → Int32 → Int32 → Int32 → Int32 → Int32 → Prop} (hC60 : ∀ (I : MI) (J : MJ) (x1 : Int32) (x2 : Int32) (x3 : Int32) (x4 : Int32) (x5 : Int32) (x6 : Int32), C60 I J x1 x2 x3 x4 x5 x6 → ∀ ls : Array Slot, lv_has ls 8 [(0, .ref (gad g 8 0)), (1, .int x1), (2, .int x2), (3, .int x3), (4, .int x4), (5, .int x5), (6, .int x6)] → Wf p l e R s m args below meth c (MQ below (Qg g (PI Q)) args s 0 0 (gA g)) g I J (F0 m 60 ls [])) {I : MI} {J : MJ} {x1 : Int32} {x2 : Int32} {x3 : Int32} {x5 : Int32} {x6 : Int32} {x7 : Int32} {s0 : Int32} (h : J_X8_plan_92 Q C60 I J x1 x2 x3 x5 x6 x7 s0) (ls : Array Slot) (hl : lv_has ls 8 [(0, .ref (gad g 8 0)), (1, .int x1), (2, .int x2), (3, .int x3), (5, .int x5), (6, .int x6), (7, .int x7)]) : Wf p l e R s m args below meth c (MQ below (Qg g (PI Q)) args s 0 0 (gA g)) g I J (F0 m 92 ls [.int s0]) := by
  refine f_istore (lv' := [(4, .int s0), (0, .ref (gad g 8 0)), (1, .int x1), (2, .int x2), (3, .int x3), (5, .int x5), (6, .int x6), (7, .int x7)]) C dX8_plan_92 hl (by decide) rfl (fun ls hl => ?_)
  refine f_iload C dX8_plan_94 (lv_at hl 7 rfl) ?_
  refine f_iload C dX8_plan_96 (lv_at hl 5 rfl) ?_
  refine f_icmp_le (tgt := 106) C dX8_plan_98 (by decide) (fun c13 => ?_) (fun c13 => ?_)
  · replace h := h.1 c13
    refine f_iload C dX8_plan_106 (lv_at hl 5 rfl) ?_
    refine f_istore (lv' := [(5, .int x5), (4, .int s0), (0, .ref (gad g 8 0)), (1, .int x1), (2, .int x2), (3, .int x3), (6, .int x6), (7, .int x7)]) C dX8_plan_108 hl (by decide) rfl (fun ls hl => ?_)
    refine f_iinc (v := x6 + 1) (lv' := [(6, .int (x6 + 1)), (5, .int x5), (4, .int s0), (0, .ref (gad g 8 0)), (1, .int x1), (2, .int x2), (3, .int x3), (7, .int x7)]) C dX8_plan_110 hl (k := 6) rfl rfl (by decide) rfl (fun ls hl => ?_)
    refine f_goto (tgt := 60) C dX8_plan_113 (by decide) ?_
    exact hC60 _ _ _ _ _ _ _ _ h ls (lv_sub hl [3, 4, 5, 6, 2, 1, 0] rfl)
  · replace h := h.2 c13
    refine f_iload C dX8_plan_101 (lv_at hl 7 rfl) ?_
    refine f_goto (tgt := 108) C dX8_plan_103 (by decide) ?_
    refine f_istore (lv' := [(5, .int x7), (4, .int s0), (0, .ref (gad g 8 0)), (1, .int x1), (2, .int x2), (3, .int x3), (6, .int x6), (7, .int x7)]) C dX8_plan_108 hl (by decide) rfl (fun ls hl => ?_)
    refine f_iinc (v := x6 + 1) (lv' := [(6, .int (x6 + 1)), (5, .int x7), (4, .int s0), (0, .ref (gad g 8 0)), (1, .int x1), (2, .int x2), (3, .int x3), (7, .int x7)]) C dX8_plan_110 hl (k := 6) rfl rfl (by decide) rfl (fun ls hl => ?_)
    refine f_goto (tgt := 60) C dX8_plan_113 (by decide) ?_
    exact hC60 _ _ _ _ _ _ _ _ h ls (lv_sub hl [3, 4, 5, 6, 2, 1, 0] rfl)

def B_X8_plan_60 (Q : Int32 → MI → MJ → Prop) (C60 : MI → MJ → Int32 → Int32 → Int32 → Int32 → Int32 → Int32 → Prop) (I : MI) (J : MJ) (x1 : Int32) (x2 : Int32) (x3 : Int32) (x4 : Int32) (x5 : Int32) (x6 : Int32) : Prop :=
  (((1 : Int32) <<< (x2 &&& 31)) ≤ x6 → (x3 = 0 → Q x4 I J) ∧
  (¬ (x3 = 0) → Q x5 I J)) ∧
  (¬ (((1 : Int32) <<< (x2 &&& 31)) ≤ x6) → wp_X8_wins (fun r11 I11 J11 => (r11 ≤ x5 → J_X8_plan_92 Q C60 I11 J11 x1 x2 x3 x5 x6 r11 x4) ∧
  (¬ (r11 ≤ x5) → J_X8_plan_92 Q C60 I11 J11 x1 x2 x3 x5 x6 r11 x6)) I J x1 x2 x6)
set_option maxRecDepth 20000 in
theorem b_X8_plan_60 {p : Program} {l : Launch} {e : Env} {R : Room} {s : State} {m : MethodId} {args : Array Value} {below : List Frame} {meth : Method} {c : Code} {g : Geo} (C : Cx g p s m args meth c cX8_plan 8 RX8 (some .int)) (hR : 3 ≤ R.frames ∧ 78 ≤ R.locals) {Q : Int32 → MI → MJ → Prop} {C60 : MI → MJ → Int32 → Int32 → Int32 → Int32 → Int32 → Int32 → Prop} (hC60 : ∀ (I : MI) (J : MJ) (x1 : Int32) (x2 : Int32) (x3 : Int32) (x4 : Int32) (x5 : Int32) (x6 : Int32), C60 I J x1 x2 x3 x4 x5 x6 → ∀ ls : Array Slot, lv_has ls 8 [(0, .ref (gad g 8 0)), (1, .int x1), (2, .int x2), (3, .int x3), (4, .int x4), (5, .int x5), (6, .int x6)] → Wf p l e R s m args below meth c (MQ below (Qg g (PI Q)) args s 0 0 (gA g)) g I J (F0 m 60 ls [])) {I : MI} {J : MJ} {x1 : Int32} {x2 : Int32} {x3 : Int32} {x4 : Int32} {x5 : Int32} {x6 : Int32} (h : B_X8_plan_60 Q C60 I J x1 x2 x3 x4 x5 x6) (ls : Array Slot) (hl : lv_has ls 8 [(0, .ref (gad g 8 0)), (1, .int x1), (2, .int x2), (3, .int x3), (4, .int x4), (5, .int x5), (6, .int x6)]) : Wf p l e R s m args below meth c (MQ below (Qg g (PI Q)) args s 0 0 (gA g)) g I J (F0 m 60 ls []) := by
  refine f_iload C dX8_plan_60 (lv_at hl 6 rfl) ?_
  refine f_iconst (v := 1) C dX8_plan_62 (by decide) ?_
  refine f_iload_n C dX8_plan_63 rfl (lv_at hl 2 rfl) ?_
  refine f_ishl C dX8_plan_64 ?_
  refine f_icmp_ge (tgt := 116) C dX8_plan_65 (by decide) (fun c9 => ?_) (fun c9 => ?_)
  · replace h := h.1 c9
    refine f_iload_n C dX8_plan_116 rfl (lv_at hl 3 rfl) ?_
    refine f_if_ne (tgt := 125) C dX8_plan_117 (by decide) (fun c10 => ?_) (fun c10 => ?_)
    · replace h := h.2 c10
      refine f_iload C dX8_plan_125 (lv_at hl 5 rfl) ?_
      exact f_iret C h dX8_plan_127
    · replace h := h.1 c10
      refine f_iload C dX8_plan_120 (lv_at hl 4 rfl) ?_
      refine f_goto (tgt := 127) C dX8_plan_122 (by decide) ?_
      exact f_iret C h dX8_plan_127
  · replace h := h.2 c9
    refine f_aload_n C dX8_plan_68 rfl (lv_at hl 0 rfl) ?_
    refine f_iload_n C dX8_plan_69 rfl (lv_at hl 1 rfl) ?_
    refine f_iload_n C dX8_plan_70 rfl (lv_at hl 2 rfl) ?_
    refine f_iload C dX8_plan_71 (lv_at hl 6 rfl) ?_
    refine f_cVi (As := [.int x1, .int x2, .int x6]) (rest := []) (n := 3) (T0 := TX8) (N := 25) C (c_X8_wins h) ok_X8_wins im_X8_wins se_X8_wins kw_RX8_176 ⟨Nat.le_trans (by decide) hR.1, Nat.le_trans (by decide) hR.2⟩ (by decide) rfl rfl rfl hl.1 (Nat.le_of_ble_eq_true rfl) dX8_plan_73 (fun r11 I11 J11 h => ?_)
    refine f_istore (lv' := [(7, .int r11), (0, .ref (gad g 8 0)), (1, .int x1), (2, .int x2), (3, .int x3), (4, .int x4), (5, .int x5), (6, .int x6)]) C dX8_plan_76 hl (by decide) rfl (fun ls hl => ?_)
    refine f_iload C dX8_plan_78 (lv_at hl 0 rfl) ?_
    refine f_iload C dX8_plan_80 (lv_at hl 6 rfl) ?_
    refine f_icmp_le (tgt := 90) C dX8_plan_82 (by decide) (fun c12 => ?_) (fun c12 => ?_)
    · replace h := h.1 c12
      refine f_iload C dX8_plan_90 (lv_at hl 5 rfl) ?_
      exact t_X8_plan_92 C hR hC60 h ls (lv_sub hl [1, 2, 3, 4, 6, 7, 0] rfl)
    · replace h := h.2 c12
      refine f_iload C dX8_plan_85 (lv_at hl 7 rfl) ?_
      refine f_goto (tgt := 92) C dX8_plan_87 (by decide) ?_
      exact t_X8_plan_92 C hR hC60 h ls (lv_sub hl [1, 2, 3, 4, 6, 7, 0] rfl)

def L_X8_plan_60 (Q : Int32 → MI → MJ → Prop) : Nat → MI → MJ → Int32 → Int32 → Int32 → Int32 → Int32 → Int32 → Prop
  | 0 => fun _ _ _ _ _ _ _ _ => False
  | n + 1 => fun I J x1 x2 x3 x4 x5 x6 => B_X8_plan_60 Q (L_X8_plan_60 Q n) I J x1 x2 x3 x4 x5 x6
theorem t_X8_plan_60 {p : Program} {l : Launch} {e : Env} {R : Room} {s : State} {m : MethodId} {args : Array Value} {below : List Frame} {meth : Method} {c : Code} {g : Geo} (C : Cx g p s m args meth c cX8_plan 8 RX8 (some .int)) (hR : 3 ≤ R.frames ∧ 78 ≤ R.locals) {Q : Int32 → MI → MJ → Prop} : ∀ (n : Nat), ∀ (I : MI) (J : MJ) (x1 : Int32) (x2 : Int32) (x3 : Int32) (x4 : Int32) (x5 : Int32) (x6 : Int32), L_X8_plan_60 Q n I J x1 x2 x3 x4 x5 x6 → ∀ ls : Array Slot, lv_has ls 8 [(0, .ref (gad g 8 0)), (1, .int x1), (2, .int x2), (3, .int x3), (4, .int x4), (5, .int x5), (6, .int x6)] → Wf p l e R s m args below meth c (MQ below (Qg g (PI Q)) args s 0 0 (gA g)) g I J (F0 m 60 ls []) := by
  intro n
  induction n with
  | zero => intro I J x1 x2 x3 x4 x5 x6 h; exact h.elim
  | succ n ih => intro I J x1 x2 x3 x4 x5 x6 h ls hl; exact b_X8_plan_60 C hR ih h ls hl
def wp_X8_plan (Q : Int32 → MI → MJ → Prop) (I : MI) (J : MJ) (x1 : Int32) (x2 : Int32) (x3 : Int32) : Prop :=
  wp_X8_in (fun r1 I1 J1 => (r1 = 0 → Q ((-1)) I1 J1) ∧
  (¬ (r1 = 0) → wp_X8_in (fun r3 I3 J3 => (r3 = 0 → Q ((-1)) I3 J3) ∧
  (¬ (r3 = 0) → wp_X8_in (fun r5 I5 J5 => (r5 = 0 → Q ((-1)) I5 J5) ∧
  (¬ (r5 = 0) → wp_X8_wins (fun r7 I7 J7 => (x3 = 2 → Q r7 I7 J7) ∧
  (¬ (x3 = 2) → ∃ n : Nat, L_X8_plan_60 Q n I7 J7 x1 x2 x3 0 r7 1)) I5 J5 x1 x2 0)) I3 J3 x3 0 2)) I1 J1 x2 1 10)) (up3 I 8 0 0 0) J x1 0 200
set_option maxRecDepth 20000 in
theorem c_X8_plan {l : Launch} {g : Geo} {Q : Int32 → MI → MJ → Prop} {I : MI} {J : MJ} {x1 : Int32} {x2 : Int32} {x3 : Int32} (h : wp_X8_plan Q I J x1 x2 x3) : Ct g l yX8_plan cX8_plan 8 (some .int) 3 78 [.ref (gad g 8 0), .int x1, .int x2, .int x3] I J (PI Q) := by
  refine Ct.of (by decide) ?_
  intro p e s m below meth c C
  have hR : 3 ≤ (Rm 3 78).frames ∧ 78 ≤ (Rm 3 78).locals := ⟨Nat.le_refl _, Nat.le_refl _⟩
  generalize Rm 3 78 = R at hR ⊢
  have hl := lv_entry ([.ref (gad g 8 0), .int x1, .int x2, .int x3]) (n := 8) (Nat.le_of_ble_eq_true rfl)
  rw [lg_entry_eq]
  generalize (lg_sl ([.ref (gad g 8 0), .int x1, .int x2, .int x3]) ++ List.replicate (8 - (lg_sl ([.ref (gad g 8 0), .int x1, .int x2, .int x3])).length) Slot.unset).toArray = ls at hl ⊢
  have hl : lv_has ls 8 [(0, .ref (gad g 8 0)), (1, .int x1), (2, .int x2), (3, .int x3)] := hl
  refine f_aload_n C dX8_plan_0 rfl (lv_at hl 0 rfl) ?_
  refine f_iconst (v := 0) C dX8_plan_1 (by decide) ?_
  refine pu_RX8_57 C (by decide) dX8_plan_2 ?_
  refine f_iload_n C dX8_plan_5 rfl (lv_at hl 1 rfl) ?_
  refine f_iconst (v := 0) C dX8_plan_6 (by decide) ?_
  refine f_sipush (v := 200) C dX8_plan_7 (by decide) ?_
  refine f_cSi (As := [.int x1, .int 0, .int 200]) (rest := []) (n := 3) C (c_X8_in h) ok_X8_in sm_X8_in kw_RX8_61 ⟨Nat.le_trans (by decide) hR.1, Nat.le_trans (by decide) hR.2⟩ rfl hl.1 (Nat.le_of_ble_eq_true rfl) dX8_plan_10 (fun r1 I1 J1 h => ?_)
  refine f_if_eq (tgt := 35) C dX8_plan_13 (by decide) (fun c2 => ?_) (fun c2 => ?_)
  · replace h := h.1 c2
    refine f_iconst (v := (-1)) C dX8_plan_35 (by decide) ?_
    exact f_iret C h dX8_plan_36
  · replace h := h.2 c2
    refine f_iload_n C dX8_plan_16 rfl (lv_at hl 2 rfl) ?_
    refine f_iconst (v := 1) C dX8_plan_17 (by decide) ?_
    refine f_bipush (v := 10) C dX8_plan_18 (by decide) ?_
    refine f_cSi (As := [.int x2, .int 1, .int 10]) (rest := []) (n := 3) C (c_X8_in h) ok_X8_in sm_X8_in kw_RX8_61 ⟨Nat.le_trans (by decide) hR.1, Nat.le_trans (by decide) hR.2⟩ rfl hl.1 (Nat.le_of_ble_eq_true rfl) dX8_plan_20 (fun r3 I3 J3 h => ?_)
    refine f_if_eq (tgt := 35) C dX8_plan_23 (by decide) (fun c4 => ?_) (fun c4 => ?_)
    · replace h := h.1 c4
      refine f_iconst (v := (-1)) C dX8_plan_35 (by decide) ?_
      exact f_iret C h dX8_plan_36
    · replace h := h.2 c4
      refine f_iload_n C dX8_plan_26 rfl (lv_at hl 3 rfl) ?_
      refine f_iconst (v := 0) C dX8_plan_27 (by decide) ?_
      refine f_iconst (v := 2) C dX8_plan_28 (by decide) ?_
      refine f_cSi (As := [.int x3, .int 0, .int 2]) (rest := []) (n := 3) C (c_X8_in h) ok_X8_in sm_X8_in kw_RX8_61 ⟨Nat.le_trans (by decide) hR.1, Nat.le_trans (by decide) hR.2⟩ rfl hl.1 (Nat.le_of_ble_eq_true rfl) dX8_plan_29 (fun r5 I5 J5 h => ?_)
      refine f_if_ne (tgt := 37) C dX8_plan_32 (by decide) (fun c6 => ?_) (fun c6 => ?_)
      · replace h := h.2 c6
        refine f_iconst (v := 0) C dX8_plan_37 (by decide) ?_
        refine f_istore (lv' := [(4, .int 0), (0, .ref (gad g 8 0)), (1, .int x1), (2, .int x2), (3, .int x3)]) C dX8_plan_38 hl (by decide) rfl (fun ls hl => ?_)
        refine f_aload_n C dX8_plan_40 rfl (lv_at hl 1 rfl) ?_
        refine f_iload_n C dX8_plan_41 rfl (lv_at hl 2 rfl) ?_
        refine f_iload_n C dX8_plan_42 rfl (lv_at hl 3 rfl) ?_
        refine f_iconst (v := 0) C dX8_plan_43 (by decide) ?_
        refine f_cVi (As := [.int x1, .int x2, .int 0]) (rest := []) (n := 3) (T0 := TX8) (N := 25) C (c_X8_wins h) ok_X8_wins im_X8_wins se_X8_wins kw_RX8_176 ⟨Nat.le_trans (by decide) hR.1, Nat.le_trans (by decide) hR.2⟩ (by decide) rfl rfl rfl hl.1 (Nat.le_of_ble_eq_true rfl) dX8_plan_44 (fun r7 I7 J7 h => ?_)
        refine f_istore (lv' := [(5, .int r7), (4, .int 0), (0, .ref (gad g 8 0)), (1, .int x1), (2, .int x2), (3, .int x3)]) C dX8_plan_47 hl (by decide) rfl (fun ls hl => ?_)
        refine f_iload_n C dX8_plan_49 rfl (lv_at hl 5 rfl) ?_
        refine f_iconst (v := 2) C dX8_plan_50 (by decide) ?_
        refine f_icmp_ne (tgt := 57) C dX8_plan_51 (by decide) (fun c8 => ?_) (fun c8 => ?_)
        · replace h := h.2 c8
          refine f_iconst (v := 1) C dX8_plan_57 (by decide) ?_
          refine f_istore (lv' := [(6, .int 1), (5, .int r7), (4, .int 0), (0, .ref (gad g 8 0)), (1, .int x1), (2, .int x2), (3, .int x3)]) C dX8_plan_58 hl (by decide) rfl (fun ls hl => ?_)
          obtain ⟨n, h⟩ := h
          exact t_X8_plan_60 C hR n _ _ _ _ _ _ _ _ h ls (lv_sub hl [3, 4, 5, 6, 2, 1, 0] rfl)
        · replace h := h.1 c8
          refine f_iload C dX8_plan_54 (lv_at hl 0 rfl) ?_
          exact f_iret C h dX8_plan_56
      · replace h := h.1 c6
        refine f_iconst (v := (-1)) C dX8_plan_35 (by decide) ?_
        exact f_iret C h dX8_plan_36

def wp_X8_hull (Q : Int32 → MI → MJ → Prop) (I : MI) (J : MJ) (x1 : Int32) (x2 : Int32) : Prop :=
  wp_X8_in (fun r1 I1 J1 => (r1 = 0 → Q ((-1000000)) I1 J1) ∧
  (¬ (r1 = 0) → wp_X8_in (fun r3 I3 J3 => (r3 = 0 → Q ((-1000000)) I3 J3) ∧
  (¬ (r3 = 0) → vp_in x1 6 ∧ (vp_in x1 6 ∧ (Q (I3 33 0 (x1.toNatClampNeg)) (up3 I3 33 0 (x1.toNatClampNeg) x2) J3)))) I1 J1 x2 ((-9)) 9)) (up3 I 8 0 0 0) J x1 0 5
set_option maxRecDepth 20000 in
theorem c_X8_hull {l : Launch} {g : Geo} {Q : Int32 → MI → MJ → Prop} {I : MI} {J : MJ} {x1 : Int32} {x2 : Int32} (h : wp_X8_hull Q I J x1 x2) : Ct g l yX8_hull cX8_hull 4 (some .int) 1 22 [.ref (gad g 8 0), .int x1, .int x2] I J (PI Q) := by
  refine Ct.of (by decide) ?_
  intro p e s m below meth c C
  have hR : 1 ≤ (Rm 1 22).frames ∧ 22 ≤ (Rm 1 22).locals := ⟨Nat.le_refl _, Nat.le_refl _⟩
  generalize Rm 1 22 = R at hR ⊢
  have hl := lv_entry ([.ref (gad g 8 0), .int x1, .int x2]) (n := 4) (Nat.le_of_ble_eq_true rfl)
  rw [lg_entry_eq]
  generalize (lg_sl ([.ref (gad g 8 0), .int x1, .int x2]) ++ List.replicate (4 - (lg_sl ([.ref (gad g 8 0), .int x1, .int x2])).length) Slot.unset).toArray = ls at hl ⊢
  have hl : lv_has ls 4 [(0, .ref (gad g 8 0)), (1, .int x1), (2, .int x2)] := hl
  refine f_aload_n C dX8_hull_0 rfl (lv_at hl 0 rfl) ?_
  refine f_iconst (v := 0) C dX8_hull_1 (by decide) ?_
  refine pu_RX8_57 C (by decide) dX8_hull_2 ?_
  refine f_iload_n C dX8_hull_5 rfl (lv_at hl 1 rfl) ?_
  refine f_iconst (v := 0) C dX8_hull_6 (by decide) ?_
  refine f_iconst (v := 5) C dX8_hull_7 (by decide) ?_
  refine f_cSi (As := [.int x1, .int 0, .int 5]) (rest := []) (n := 3) C (c_X8_in h) ok_X8_in sm_X8_in kw_RX8_61 ⟨Nat.le_trans (by decide) hR.1, Nat.le_trans (by decide) hR.2⟩ rfl hl.1 (Nat.le_of_ble_eq_true rfl) dX8_hull_8 (fun r1 I1 J1 h => ?_)
  refine f_if_eq (tgt := 25) C dX8_hull_11 (by decide) (fun c2 => ?_) (fun c2 => ?_)
  · replace h := h.1 c2
    refine f_ldc C kc_RX8_69 dX8_hull_25 ?_
    exact f_iret C h dX8_hull_27
  · replace h := h.2 c2
    refine f_iload_n C dX8_hull_14 rfl (lv_at hl 2 rfl) ?_
    refine f_bipush (v := (-9)) C dX8_hull_15 (by decide) ?_
    refine f_bipush (v := 9) C dX8_hull_17 (by decide) ?_
    refine f_cSi (As := [.int x2, .int ((-9)), .int 9]) (rest := []) (n := 3) C (c_X8_in h) ok_X8_in sm_X8_in kw_RX8_61 ⟨Nat.le_trans (by decide) hR.1, Nat.le_trans (by decide) hR.2⟩ rfl hl.1 (Nat.le_of_ble_eq_true rfl) dX8_hull_19 (fun r3 I3 J3 h => ?_)
    refine f_if_ne (tgt := 28) C dX8_hull_22 (by decide) (fun c4 => ?_) (fun c4 => ?_)
    · replace h := h.2 c4
      refine f_aload_n C dX8_hull_28 rfl (lv_at hl 0 rfl) ?_
      refine ge_RX8_35 C (by decide) dX8_hull_29 ?_
      refine f_iload_n C dX8_hull_32 rfl (lv_at hl 1 rfl) ?_
      obtain ⟨hi5, h⟩ := h
      refine al_k (n := 6) (k := x1.toNatClampNeg) C (by decide) rfl rfl hi5 dX8_hull_33 ?_
      refine f_istore_n (lv' := [(3, .int (I3 33 0 (x1.toNatClampNeg))), (0, .ref (gad g 8 0)), (1, .int x1), (2, .int x2)]) C dX8_hull_34 rfl hl (by decide) rfl (fun ls hl => ?_)
      refine f_aload_n C dX8_hull_35 rfl (lv_at hl 1 rfl) ?_
      refine ge_RX8_35 C (by decide) dX8_hull_36 ?_
      refine f_iload_n C dX8_hull_39 rfl (lv_at hl 2 rfl) ?_
      refine f_iload_n C dX8_hull_40 rfl (lv_at hl 3 rfl) ?_
      obtain ⟨hi6, h⟩ := h
      refine as_k (n := 6) (k := x1.toNatClampNeg) C (by decide) (fun _ => rfl) rfl hi6 dX8_hull_41 ?_
      refine f_iload_n C dX8_hull_42 rfl (lv_at hl 0 rfl) ?_
      exact f_iret C h dX8_hull_43
    · replace h := h.1 c4
      refine f_ldc C kc_RX8_69 dX8_hull_25 ?_
      exact f_iret C h dX8_hull_27

def J_X8_beats_155 (Q : Int32 → MI → MJ → Prop) (C39 : MI → MJ → Int32 → Int32 → Int32 → Int32 → Int32 → Prop) (I : MI) (J : MJ) (x1 : Int32) (x2 : Int32) (x5 : Int32) (x9 : Int32) : Prop :=
  C39 I J x1 x2 x5 x9 (x5 + 1)
set_option maxRecDepth 20000 in
theorem t_X8_beats_155 {p : Program} {l : Launch} {e : Env} {R : Room} {s : State} {m : MethodId} {args : Array Value} {below : List Frame} {meth : Method} {c : Code} {g : Geo} (C : Cx g p s m args meth c cX8_beats 10 RX8 (some .int)) (hR : 1 ≤ R.frames ∧ 22 ≤ R.locals) {Q : Int32 → MI → MJ → Prop} {C39 : MI → MJ → Int32 → Int32 → Int32 → Int32 → Int32 → Prop} (hC39 : ∀ (I : MI) (J : MJ) (x1 : Int32) (x2 : Int32) (x3 : Int32) (x4 : Int32) (x5 : Int32), C39 I J x1 x2 x3 x4 x5 → ∀ ls : Array Slot, lv_has ls 10 [(0, .ref (gad g 8 0)), (1, .int x1), (2, .int x2), (3, .int x3), (4, .int x4), (5, .int x5)] → Wf p l e R s m args below meth c (MQ below (Qg g (PI Q)) args s 0 0 (gA g)) g I J (F0 m 39 ls [])) {I : MI} {J : MJ} {x1 : Int32} {x2 : Int32} {x5 : Int32} {x9 : Int32} (h : J_X8_beats_155 Q C39 I J x1 x2 x5 x9) (ls : Array Slot) (hl : lv_has ls 10 [(0, .ref (gad g 8 0)), (1, .int x1), (2, .int x2), (5, .int x5), (9, .int x9)]) : Wf p l e R s m args below meth c (MQ below (Qg g (PI Q)) args s 0 0 (gA g)) g I J (F0 m 155 ls []) := by
  refine f_iload C dX8_beats_155 (lv_at hl 3 rfl) ?_
  refine f_istore_n (lv' := [(3, .int x5), (0, .ref (gad g 8 0)), (1, .int x1), (2, .int x2), (5, .int x5), (9, .int x9)]) C dX8_beats_157 rfl hl (by decide) rfl (fun ls hl => ?_)
  refine f_iload C dX8_beats_158 (lv_at hl 5 rfl) ?_
  refine f_istore (lv' := [(4, .int x9), (3, .int x5), (0, .ref (gad g 8 0)), (1, .int x1), (2, .int x2), (5, .int x5), (9, .int x9)]) C dX8_beats_160 hl (by decide) rfl (fun ls hl => ?_)
  refine f_iinc (v := x5 + 1) (lv' := [(5, .int (x5 + 1)), (4, .int x9), (3, .int x5), (0, .ref (gad g 8 0)), (1, .int x1), (2, .int x2), (9, .int x9)]) C dX8_beats_162 hl (k := 5) rfl rfl (by decide) rfl (fun ls hl => ?_)
  refine f_goto (tgt := 39) C dX8_beats_165 (by decide) ?_
  exact hC39 _ _ _ _ _ _ _ h ls (lv_sub hl [3, 4, 5, 2, 1, 0] rfl)

def B_X8_beats_39 (Q : Int32 → MI → MJ → Prop) (C39 : MI → MJ → Int32 → Int32 → Int32 → Int32 → Int32 → Prop) (I : MI) (J : MJ) (x1 : Int32) (x2 : Int32) (x3 : Int32) (x4 : Int32) (x5 : Int32) : Prop :=
  (1728 ≤ x5 → (x3 = ((-9)) → Q ((-1000000)) I J) ∧
  (¬ (x3 = ((-9))) → (x2 = 0 → Q ((x3 / 144) + 1) I J) ∧
  (¬ (x2 = 0) → (x2 = 1 → Q (((x3 / 12) - (x3 / 12) / 12 * 12) + 1) I J) ∧
  (¬ (x2 = 1) → (x2 = 2 → Q ((x3 - x3 / 12 * 12) + 1) I J) ∧
  (¬ (x2 = 2) → Q x4 I J))))) ∧
  (¬ (1728 ≤ x5) → ∀ v10 : Int32, v10 = ((x5 / 12) - (x5 / 12) / 12 * 12) + 1 → (∀ v11 : Int32, v11 = (((I 33 0 3) * ((x5 / 144) + 1)) + ((I 33 0 4) * v10)) + ((I 33 0 5) * ((x5 - x5 / 12 * 12) + 1)) → ((x1 < ((((I 33 0 0) * ((x5 / 144) + 1)) + ((I 33 0 1) * v10)) + ((I 33 0 2) * ((x5 - x5 / 12 * 12) + 1))) → C39 I J x1 x2 x3 x4 (x5 + 1)) ∧
  (¬ (x1 < ((((I 33 0 0) * ((x5 / 144) + 1)) + ((I 33 0 1) * v10)) + ((I 33 0 2) * ((x5 - x5 / 12 * 12) + 1)))) → (x3 = ((-9)) → J_X8_beats_155 Q C39 I J x1 x2 x5 v11) ∧
  (¬ (x3 = ((-9))) → (v11 ≤ x4 → C39 I J x1 x2 x3 x4 (x5 + 1)) ∧
  (¬ (v11 ≤ x4) → J_X8_beats_155 Q C39 I J x1 x2 x5 v11))))))
set_option maxRecDepth 20000 in
theorem b_X8_beats_39 {p : Program} {l : Launch} {e : Env} {R : Room} {s : State} {m : MethodId} {args : Array Value} {below : List Frame} {meth : Method} {c : Code} {g : Geo} (C : Cx g p s m args meth c cX8_beats 10 RX8 (some .int)) (hR : 1 ≤ R.frames ∧ 22 ≤ R.locals) {Q : Int32 → MI → MJ → Prop} {C39 : MI → MJ → Int32 → Int32 → Int32 → Int32 → Int32 → Prop} (hC39 : ∀ (I : MI) (J : MJ) (x1 : Int32) (x2 : Int32) (x3 : Int32) (x4 : Int32) (x5 : Int32), C39 I J x1 x2 x3 x4 x5 → ∀ ls : Array Slot, lv_has ls 10 [(0, .ref (gad g 8 0)), (1, .int x1), (2, .int x2), (3, .int x3), (4, .int x4), (5, .int x5)] → Wf p l e R s m args below meth c (MQ below (Qg g (PI Q)) args s 0 0 (gA g)) g I J (F0 m 39 ls [])) {I : MI} {J : MJ} {x1 : Int32} {x2 : Int32} {x3 : Int32} {x4 : Int32} {x5 : Int32} (h : B_X8_beats_39 Q C39 I J x1 x2 x3 x4 x5) (ls : Array Slot) (hl : lv_has ls 10 [(0, .ref (gad g 8 0)), (1, .int x1), (2, .int x2), (3, .int x3), (4, .int x4), (5, .int x5)]) : Wf p l e R s m args below meth c (MQ below (Qg g (PI Q)) args s 0 0 (gA g)) g I J (F0 m 39 ls []) := by
  refine f_iload C dX8_beats_39 (lv_at hl 5 rfl) ?_
  refine f_sipush (v := 1728) C dX8_beats_41 (by decide) ?_
  refine f_icmp_ge (tgt := 168) C dX8_beats_44 (by decide) (fun c5 => ?_) (fun c5 => ?_)
  · replace h := h.1 c5
    refine f_iload_n C dX8_beats_168 rfl (lv_at hl 3 rfl) ?_
    refine f_bipush (v := (-9)) C dX8_beats_169 (by decide) ?_
    refine f_icmp_ne (tgt := 179) C dX8_beats_171 (by decide) (fun c6 => ?_) (fun c6 => ?_)
    · replace h := h.2 c6
      refine f_iload_n C dX8_beats_179 rfl (lv_at hl 2 rfl) ?_
      refine f_if_ne (tgt := 193) C dX8_beats_180 (by decide) (fun c7 => ?_) (fun c7 => ?_)
      · replace h := h.2 c7
        refine f_iload_n C dX8_beats_193 rfl (lv_at hl 2 rfl) ?_
        refine f_iconst (v := 1) C dX8_beats_194 (by decide) ?_
        refine f_icmp_ne (tgt := 210) C dX8_beats_195 (by decide) (fun c8 => ?_) (fun c8 => ?_)
        · replace h := h.2 c8
          refine f_iload_n C dX8_beats_210 rfl (lv_at hl 2 rfl) ?_
          refine f_iconst (v := 2) C dX8_beats_211 (by decide) ?_
          refine f_icmp_ne (tgt := 224) C dX8_beats_212 (by decide) (fun c9 => ?_) (fun c9 => ?_)
          · replace h := h.2 c9
            refine f_iload C dX8_beats_224 (lv_at hl 4 rfl) ?_
            exact f_iret C h dX8_beats_226
          · replace h := h.1 c9
            refine f_iload_n C dX8_beats_215 rfl (lv_at hl 3 rfl) ?_
            refine f_bipush (v := 12) C dX8_beats_216 (by decide) ?_
            refine f_irem C dX8_beats_218 (by decide) ?_
            refine f_iconst (v := 1) C dX8_beats_219 (by decide) ?_
            refine f_iadd C dX8_beats_220 ?_
            refine f_goto (tgt := 226) C dX8_beats_221 (by decide) ?_
            exact f_iret C h dX8_beats_226
        · replace h := h.1 c8
          refine f_iload_n C dX8_beats_198 rfl (lv_at hl 3 rfl) ?_
          refine f_bipush (v := 12) C dX8_beats_199 (by decide) ?_
          refine f_idiv C dX8_beats_201 (by decide) ?_
          refine f_bipush (v := 12) C dX8_beats_202 (by decide) ?_
          refine f_irem C dX8_beats_204 (by decide) ?_
          refine f_iconst (v := 1) C dX8_beats_205 (by decide) ?_
          refine f_iadd C dX8_beats_206 ?_
          refine f_goto (tgt := 226) C dX8_beats_207 (by decide) ?_
          exact f_iret C h dX8_beats_226
      · replace h := h.1 c7
        refine f_iload_n C dX8_beats_183 rfl (lv_at hl 3 rfl) ?_
        refine f_sipush (v := 144) C dX8_beats_184 (by decide) ?_
        refine f_idiv C dX8_beats_187 (by decide) ?_
        refine f_iconst (v := 1) C dX8_beats_188 (by decide) ?_
        refine f_iadd C dX8_beats_189 ?_
        refine f_goto (tgt := 226) C dX8_beats_190 (by decide) ?_
        exact f_iret C h dX8_beats_226
    · replace h := h.1 c6
      refine f_ldc C kc_RX8_69 dX8_beats_174 ?_
      refine f_goto (tgt := 226) C dX8_beats_176 (by decide) ?_
      exact f_iret C h dX8_beats_226
  · replace h := h.2 c5
    refine f_iload C dX8_beats_47 (lv_at hl 5 rfl) ?_
    refine f_sipush (v := 144) C dX8_beats_49 (by decide) ?_
    refine f_idiv C dX8_beats_52 (by decide) ?_
    refine f_iconst (v := 1) C dX8_beats_53 (by decide) ?_
    refine f_iadd C dX8_beats_54 ?_
    refine f_istore (lv' := [(6, .int ((x5 / 144) + 1)), (0, .ref (gad g 8 0)), (1, .int x1), (2, .int x2), (3, .int x3), (4, .int x4), (5, .int x5)]) C dX8_beats_55 hl (by decide) rfl (fun ls hl => ?_)
    refine f_iload C dX8_beats_57 (lv_at hl 6 rfl) ?_
    refine f_bipush (v := 12) C dX8_beats_59 (by decide) ?_
    refine f_idiv C dX8_beats_61 (by decide) ?_
    refine f_bipush (v := 12) C dX8_beats_62 (by decide) ?_
    refine f_irem C dX8_beats_64 (by decide) ?_
    refine f_iconst (v := 1) C dX8_beats_65 (by decide) ?_
    refine f_iadd C dX8_beats_66 ?_
    generalize hv10 : ((x5 / 12) - (x5 / 12) / 12 * 12) + 1 = v10
    replace h := h v10 hv10.symm
    refine f_istore (lv' := [(7, .int v10), (6, .int ((x5 / 144) + 1)), (0, .ref (gad g 8 0)), (1, .int x1), (2, .int x2), (3, .int x3), (4, .int x4), (5, .int x5)]) C dX8_beats_67 hl (by decide) rfl (fun ls hl => ?_)
    refine f_iload C dX8_beats_69 (lv_at hl 7 rfl) ?_
    refine f_bipush (v := 12) C dX8_beats_71 (by decide) ?_
    refine f_irem C dX8_beats_73 (by decide) ?_
    refine f_iconst (v := 1) C dX8_beats_74 (by decide) ?_
    refine f_iadd C dX8_beats_75 ?_
    refine f_istore (lv' := [(8, .int ((x5 - x5 / 12 * 12) + 1)), (7, .int v10), (6, .int ((x5 / 144) + 1)), (0, .ref (gad g 8 0)), (1, .int x1), (2, .int x2), (3, .int x3), (4, .int x4), (5, .int x5)]) C dX8_beats_76 hl (by decide) rfl (fun ls hl => ?_)
    refine f_aload_n C dX8_beats_78 rfl (lv_at hl 3 rfl) ?_
    refine ge_RX8_35 C (by decide) dX8_beats_79 ?_
    refine f_iconst (v := 3) C dX8_beats_82 (by decide) ?_
    refine al_k (n := 6) (k := 3) C (by decide) rfl (by decide) (vin_k (by decide)) dX8_beats_83 ?_
    refine f_iload C dX8_beats_84 (lv_at hl 2 rfl) ?_
    refine f_imul C dX8_beats_86 ?_
    refine f_aload_n C dX8_beats_87 rfl (lv_at hl 3 rfl) ?_
    refine ge_RX8_35 C (by decide) dX8_beats_88 ?_
    refine f_iconst (v := 4) C dX8_beats_91 (by decide) ?_
    refine al_k (n := 6) (k := 4) C (by decide) rfl (by decide) (vin_k (by decide)) dX8_beats_92 ?_
    refine f_iload C dX8_beats_93 (lv_at hl 1 rfl) ?_
    refine f_imul C dX8_beats_95 ?_
    refine f_iadd C dX8_beats_96 ?_
    refine f_aload_n C dX8_beats_97 rfl (lv_at hl 3 rfl) ?_
    refine ge_RX8_35 C (by decide) dX8_beats_98 ?_
    refine f_iconst (v := 5) C dX8_beats_101 (by decide) ?_
    refine al_k (n := 6) (k := 5) C (by decide) rfl (by decide) (vin_k (by decide)) dX8_beats_102 ?_
    refine f_iload C dX8_beats_103 (lv_at hl 0 rfl) ?_
    refine f_imul C dX8_beats_105 ?_
    refine f_iadd C dX8_beats_106 ?_
    generalize hv11 : (((I 33 0 3) * ((x5 / 144) + 1)) + ((I 33 0 4) * v10)) + ((I 33 0 5) * ((x5 - x5 / 12 * 12) + 1)) = v11
    replace h := h v11 hv11.symm
    refine f_istore (lv' := [(9, .int v11), (8, .int ((x5 - x5 / 12 * 12) + 1)), (7, .int v10), (6, .int ((x5 / 144) + 1)), (0, .ref (gad g 8 0)), (1, .int x1), (2, .int x2), (3, .int x3), (4, .int x4), (5, .int x5)]) C dX8_beats_107 hl (by decide) rfl (fun ls hl => ?_)
    refine f_aload_n C dX8_beats_109 rfl (lv_at hl 4 rfl) ?_
    refine ge_RX8_35 C (by decide) dX8_beats_110 ?_
    refine f_iconst (v := 0) C dX8_beats_113 (by decide) ?_
    refine al_k (n := 6) (k := 0) C (by decide) rfl (by decide) (vin_k (by decide)) dX8_beats_114 ?_
    refine f_iload C dX8_beats_115 (lv_at hl 3 rfl) ?_
    refine f_imul C dX8_beats_117 ?_
    refine f_aload_n C dX8_beats_118 rfl (lv_at hl 4 rfl) ?_
    refine ge_RX8_35 C (by decide) dX8_beats_119 ?_
    refine f_iconst (v := 1) C dX8_beats_122 (by decide) ?_
    refine al_k (n := 6) (k := 1) C (by decide) rfl (by decide) (vin_k (by decide)) dX8_beats_123 ?_
    refine f_iload C dX8_beats_124 (lv_at hl 2 rfl) ?_
    refine f_imul C dX8_beats_126 ?_
    refine f_iadd C dX8_beats_127 ?_
    refine f_aload_n C dX8_beats_128 rfl (lv_at hl 4 rfl) ?_
    refine ge_RX8_35 C (by decide) dX8_beats_129 ?_
    refine f_iconst (v := 2) C dX8_beats_132 (by decide) ?_
    refine al_k (n := 6) (k := 2) C (by decide) rfl (by decide) (vin_k (by decide)) dX8_beats_133 ?_
    refine f_iload C dX8_beats_134 (lv_at hl 1 rfl) ?_
    refine f_imul C dX8_beats_136 ?_
    refine f_iadd C dX8_beats_137 ?_
    refine f_iload_n C dX8_beats_138 rfl (lv_at hl 5 rfl) ?_
    refine f_icmp_gt (tgt := 162) C dX8_beats_139 (by decide) (fun c12 => ?_) (fun c12 => ?_)
    · replace h := h.1 c12
      refine f_iinc (v := x5 + 1) (lv' := [(5, .int (x5 + 1)), (9, .int v11), (8, .int ((x5 - x5 / 12 * 12) + 1)), (7, .int v10), (6, .int ((x5 / 144) + 1)), (0, .ref (gad g 8 0)), (1, .int x1), (2, .int x2), (3, .int x3), (4, .int x4)]) C dX8_beats_162 hl (k := 9) rfl rfl (by decide) rfl (fun ls hl => ?_)
      refine f_goto (tgt := 39) C dX8_beats_165 (by decide) ?_
      exact hC39 _ _ _ _ _ _ _ h ls (lv_sub hl [5, 6, 7, 8, 9, 0] rfl)
    · replace h := h.2 c12
      refine f_iload_n C dX8_beats_142 rfl (lv_at hl 7 rfl) ?_
      refine f_bipush (v := (-9)) C dX8_beats_143 (by decide) ?_
      refine f_icmp_eq (tgt := 155) C dX8_beats_145 (by decide) (fun c13 => ?_) (fun c13 => ?_)
      · replace h := h.1 c13
        exact t_X8_beats_155 C hR hC39 h ls (lv_sub hl [4, 5, 6, 9, 0] rfl)
      · replace h := h.2 c13
        refine f_iload C dX8_beats_148 (lv_at hl 0 rfl) ?_
        refine f_iload C dX8_beats_150 (lv_at hl 8 rfl) ?_
        refine f_icmp_le (tgt := 162) C dX8_beats_152 (by decide) (fun c14 => ?_) (fun c14 => ?_)
        · replace h := h.1 c14
          refine f_iinc (v := x5 + 1) (lv' := [(5, .int (x5 + 1)), (9, .int v11), (8, .int ((x5 - x5 / 12 * 12) + 1)), (7, .int v10), (6, .int ((x5 / 144) + 1)), (0, .ref (gad g 8 0)), (1, .int x1), (2, .int x2), (3, .int x3), (4, .int x4)]) C dX8_beats_162 hl (k := 9) rfl rfl (by decide) rfl (fun ls hl => ?_)
          refine f_goto (tgt := 39) C dX8_beats_165 (by decide) ?_
          exact hC39 _ _ _ _ _ _ _ h ls (lv_sub hl [5, 6, 7, 8, 9, 0] rfl)
        · replace h := h.2 c14
          exact t_X8_beats_155 C hR hC39 h ls (lv_sub hl [4, 5, 6, 9, 0] rfl)

def L_X8_beats_39 (Q : Int32 → MI → MJ → Prop) : Nat → MI → MJ → Int32 → Int32 → Int32 → Int32 → Int32 → Prop
  | 0 => fun _ _ _ _ _ _ _ => False
  | n + 1 => fun I J x1 x2 x3 x4 x5 => B_X8_beats_39 Q (L_X8_beats_39 Q n) I J x1 x2 x3 x4 x5
theorem t_X8_beats_39 {p : Program} {l : Launch} {e : Env} {R : Room} {s : State} {m : MethodId} {args : Array Value} {below : List Frame} {meth : Method} {c : Code} {g : Geo} (C : Cx g p s m args meth c cX8_beats 10 RX8 (some .int)) (hR : 1 ≤ R.frames ∧ 22 ≤ R.locals) {Q : Int32 → MI → MJ → Prop} : ∀ (n : Nat), ∀ (I : MI) (J : MJ) (x1 : Int32) (x2 : Int32) (x3 : Int32) (x4 : Int32) (x5 : Int32), L_X8_beats_39 Q n I J x1 x2 x3 x4 x5 → ∀ ls : Array Slot, lv_has ls 10 [(0, .ref (gad g 8 0)), (1, .int x1), (2, .int x2), (3, .int x3), (4, .int x4), (5, .int x5)] → Wf p l e R s m args below meth c (MQ below (Qg g (PI Q)) args s 0 0 (gA g)) g I J (F0 m 39 ls []) := by
  intro n
  induction n with
  | zero => intro I J x1 x2 x3 x4 x5 h; exact h.elim
  | succ n ih => intro I J x1 x2 x3 x4 x5 h ls hl; exact b_X8_beats_39 C hR ih h ls hl
def wp_X8_beats (Q : Int32 → MI → MJ → Prop) (I : MI) (J : MJ) (x1 : Int32) (x2 : Int32) : Prop :=
  wp_X8_in (fun r1 I1 J1 => (r1 = 0 → Q ((-1000000)) I1 J1) ∧
  (¬ (r1 = 0) → wp_X8_in (fun r3 I3 J3 => (r3 = 0 → Q ((-1000000)) I3 J3) ∧
  (¬ (r3 = 0) → ∃ n : Nat, L_X8_beats_39 Q n I3 J3 x1 x2 ((-9)) 0 0)) I1 J1 x2 0 3)) (up3 I 8 0 0 0) J x1 ((-500)) 500
set_option maxRecDepth 20000 in
theorem c_X8_beats {l : Launch} {g : Geo} {Q : Int32 → MI → MJ → Prop} {I : MI} {J : MJ} {x1 : Int32} {x2 : Int32} (h : wp_X8_beats Q I J x1 x2) : Ct g l yX8_beats cX8_beats 10 (some .int) 1 22 [.ref (gad g 8 0), .int x1, .int x2] I J (PI Q) := by
  refine Ct.of (by decide) ?_
  intro p e s m below meth c C
  have hR : 1 ≤ (Rm 1 22).frames ∧ 22 ≤ (Rm 1 22).locals := ⟨Nat.le_refl _, Nat.le_refl _⟩
  generalize Rm 1 22 = R at hR ⊢
  have hl := lv_entry ([.ref (gad g 8 0), .int x1, .int x2]) (n := 10) (Nat.le_of_ble_eq_true rfl)
  rw [lg_entry_eq]
  generalize (lg_sl ([.ref (gad g 8 0), .int x1, .int x2]) ++ List.replicate (10 - (lg_sl ([.ref (gad g 8 0), .int x1, .int x2])).length) Slot.unset).toArray = ls at hl ⊢
  have hl : lv_has ls 10 [(0, .ref (gad g 8 0)), (1, .int x1), (2, .int x2)] := hl
  refine f_aload_n C dX8_beats_0 rfl (lv_at hl 0 rfl) ?_
  refine f_iconst (v := 0) C dX8_beats_1 (by decide) ?_
  refine pu_RX8_57 C (by decide) dX8_beats_2 ?_
  refine f_iload_n C dX8_beats_5 rfl (lv_at hl 1 rfl) ?_
  refine f_sipush (v := (-500)) C dX8_beats_6 (by decide) ?_
  refine f_sipush (v := 500) C dX8_beats_9 (by decide) ?_
  refine f_cSi (As := [.int x1, .int ((-500)), .int 500]) (rest := []) (n := 3) C (c_X8_in h) ok_X8_in sm_X8_in kw_RX8_61 ⟨Nat.le_trans (by decide) hR.1, Nat.le_trans (by decide) hR.2⟩ rfl hl.1 (Nat.le_of_ble_eq_true rfl) dX8_beats_12 (fun r1 I1 J1 h => ?_)
  refine f_if_eq (tgt := 27) C dX8_beats_15 (by decide) (fun c2 => ?_) (fun c2 => ?_)
  · replace h := h.1 c2
    refine f_ldc C kc_RX8_69 dX8_beats_27 ?_
    exact f_iret C h dX8_beats_29
  · replace h := h.2 c2
    refine f_iload_n C dX8_beats_18 rfl (lv_at hl 2 rfl) ?_
    refine f_iconst (v := 0) C dX8_beats_19 (by decide) ?_
    refine f_iconst (v := 3) C dX8_beats_20 (by decide) ?_
    refine f_cSi (As := [.int x2, .int 0, .int 3]) (rest := []) (n := 3) C (c_X8_in h) ok_X8_in sm_X8_in kw_RX8_61 ⟨Nat.le_trans (by decide) hR.1, Nat.le_trans (by decide) hR.2⟩ rfl hl.1 (Nat.le_of_ble_eq_true rfl) dX8_beats_21 (fun r3 I3 J3 h => ?_)
    refine f_if_ne (tgt := 30) C dX8_beats_24 (by decide) (fun c4 => ?_) (fun c4 => ?_)
    · replace h := h.2 c4
      refine f_bipush (v := (-9)) C dX8_beats_30 (by decide) ?_
      refine f_istore_n (lv' := [(3, .int ((-9))), (0, .ref (gad g 8 0)), (1, .int x1), (2, .int x2)]) C dX8_beats_32 rfl hl (by decide) rfl (fun ls hl => ?_)
      refine f_iconst (v := 0) C dX8_beats_33 (by decide) ?_
      refine f_istore (lv' := [(4, .int 0), (3, .int ((-9))), (0, .ref (gad g 8 0)), (1, .int x1), (2, .int x2)]) C dX8_beats_34 hl (by decide) rfl (fun ls hl => ?_)
      refine f_iconst (v := 0) C dX8_beats_36 (by decide) ?_
      refine f_istore (lv' := [(5, .int 0), (4, .int 0), (3, .int ((-9))), (0, .ref (gad g 8 0)), (1, .int x1), (2, .int x2)]) C dX8_beats_37 hl (by decide) rfl (fun ls hl => ?_)
      obtain ⟨n, h⟩ := h
      exact t_X8_beats_39 C hR n _ _ _ _ _ _ _ h ls (lv_sub hl [3, 4, 5, 2, 1, 0] rfl)
    · replace h := h.1 c4
      refine f_ldc C kc_RX8_69 dX8_beats_27 ?_
      exact f_iret C h dX8_beats_29

def J_X8_reading_132 (Q : Int32 → MI → MJ → Prop) (I : MI) (J : MJ) (x1 : Int32) (x2 : Int32) (x3 : Int32) (x4 : Int32) (x5 : Int32) (s0 : Int64) (s1 : Int64) : Prop :=
  (x1 = 0 → Q x3 I (up3L J 8 0 1 (s1 + s0))) ∧
  (¬ (x1 = 0) → (x1 = 1 → Q (x3 + (I 28 0 0)) I (up3L J 8 0 1 (s1 + s0))) ∧
  (¬ (x1 = 1) → (x1 = 2 → Q x4 I (up3L J 8 0 1 (s1 + s0))) ∧
  (¬ (x1 = 2) → (x1 = 3 → Q x5 I (up3L J 8 0 1 (s1 + s0))) ∧
  (¬ (x1 = 3) → (x1 = 4 → vp_in ((21 * x2) + 4) 171 ∧ (Q (x3 + (I 25 0 (((21 * x2) + 4).toNatClampNeg))) I (up3L J 8 0 1 (s1 + s0)))) ∧
  (¬ (x1 = 4) → (x1 = 5 → vp_in ((21 * x2) + 3) 171 ∧ (Q (x3 + (5 * (I 25 0 (((21 * x2) + 3).toNatClampNeg)))) I (up3L J 8 0 1 (s1 + s0)))) ∧
  (¬ (x1 = 5) → Q (x5 / 2) I (up3L J 8 0 1 (s1 + s0))))))))
set_option maxRecDepth 20000 in
theorem t_X8_reading_132 {p : Program} {l : Launch} {e : Env} {R : Room} {s : State} {m : MethodId} {args : Array Value} {below : List Frame} {meth : Method} {c : Code} {g : Geo} (C : Cx g p s m args meth c cX8_reading 6 RX8 (some .int)) (hR : 2 ≤ R.frames ∧ 43 ≤ R.locals) {Q : Int32 → MI → MJ → Prop} {I : MI} {J : MJ} {x1 : Int32} {x2 : Int32} {x3 : Int32} {x4 : Int32} {x5 : Int32} {s0 : Int64} {s1 : Int64} (h : J_X8_reading_132 Q I J x1 x2 x3 x4 x5 s0 s1) (ls : Array Slot) (hl : lv_has ls 6 [(0, .ref (gad g 8 0)), (1, .int x1), (2, .int x2), (3, .int x3), (4, .int x4), (5, .int x5)]) : Wf p l e R s m args below meth c (MQ below (Qg g (PI Q)) args s 0 0 (gA g)) g I J (F0 m 132 ls [.long s0, .long s1, .ref (gad g 8 0)]) := by
  refine f_ladd C dX8_reading_132 ?_
  refine pu_RX8_179 C (by decide) dX8_reading_133 ?_
  refine f_iload_n C dX8_reading_136 rfl (lv_at hl 1 rfl) ?_
  refine f_if_ne (tgt := 144) C dX8_reading_137 (by decide) (fun c14 => ?_) (fun c14 => ?_)
  · replace h := h.2 c14
    refine f_iload_n C dX8_reading_144 rfl (lv_at hl 1 rfl) ?_
    refine f_iconst (v := 1) C dX8_reading_145 (by decide) ?_
    refine f_icmp_ne (tgt := 160) C dX8_reading_146 (by decide) (fun c15 => ?_) (fun c15 => ?_)
    · replace h := h.2 c15
      refine f_iload_n C dX8_reading_160 rfl (lv_at hl 1 rfl) ?_
      refine f_iconst (v := 2) C dX8_reading_161 (by decide) ?_
      refine f_icmp_ne (tgt := 170) C dX8_reading_162 (by decide) (fun c16 => ?_) (fun c16 => ?_)
      · replace h := h.2 c16
        refine f_iload_n C dX8_reading_170 rfl (lv_at hl 1 rfl) ?_
        refine f_iconst (v := 3) C dX8_reading_171 (by decide) ?_
        refine f_icmp_ne (tgt := 180) C dX8_reading_172 (by decide) (fun c17 => ?_) (fun c17 => ?_)
        · replace h := h.2 c17
          refine f_iload_n C dX8_reading_180 rfl (lv_at hl 1 rfl) ?_
          refine f_iconst (v := 4) C dX8_reading_181 (by decide) ?_
          refine f_icmp_ne (tgt := 201) C dX8_reading_182 (by decide) (fun c18 => ?_) (fun c18 => ?_)
          · replace h := h.2 c18
            refine f_iload_n C dX8_reading_201 rfl (lv_at hl 1 rfl) ?_
            refine f_iconst (v := 5) C dX8_reading_202 (by decide) ?_
            refine f_icmp_ne (tgt := 224) C dX8_reading_203 (by decide) (fun c19 => ?_) (fun c19 => ?_)
            · replace h := h.2 c19
              refine f_iload C dX8_reading_224 (lv_at hl 5 rfl) ?_
              refine f_iconst (v := 2) C dX8_reading_226 (by decide) ?_
              refine f_idiv C dX8_reading_227 (by decide) ?_
              exact f_iret C h dX8_reading_228
            · replace h := h.1 c19
              refine f_iload_n C dX8_reading_206 rfl (lv_at hl 3 rfl) ?_
              refine f_iconst (v := 5) C dX8_reading_207 (by decide) ?_
              refine f_aload_n C dX8_reading_208 rfl (lv_at hl 0 rfl) ?_
              refine ge_RX8_7 C (by decide) dX8_reading_209 ?_
              refine f_bipush (v := 21) C dX8_reading_212 (by decide) ?_
              refine f_iload_n C dX8_reading_214 rfl (lv_at hl 2 rfl) ?_
              refine f_imul C dX8_reading_215 ?_
              refine f_iconst (v := 3) C dX8_reading_216 (by decide) ?_
              refine f_iadd C dX8_reading_217 ?_
              obtain ⟨hi20, h⟩ := h
              refine al_k (n := 171) (k := ((21 * x2) + 3).toNatClampNeg) C (by decide) rfl rfl hi20 dX8_reading_218 ?_
              refine f_imul C dX8_reading_219 ?_
              refine f_iadd C dX8_reading_220 ?_
              refine f_goto (tgt := 228) C dX8_reading_221 (by decide) ?_
              exact f_iret C h dX8_reading_228
          · replace h := h.1 c18
            refine f_iload_n C dX8_reading_185 rfl (lv_at hl 3 rfl) ?_
            refine f_aload_n C dX8_reading_186 rfl (lv_at hl 0 rfl) ?_
            refine ge_RX8_7 C (by decide) dX8_reading_187 ?_
            refine f_bipush (v := 21) C dX8_reading_190 (by decide) ?_
            refine f_iload_n C dX8_reading_192 rfl (lv_at hl 2 rfl) ?_
            refine f_imul C dX8_reading_193 ?_
            refine f_iconst (v := 4) C dX8_reading_194 (by decide) ?_
            refine f_iadd C dX8_reading_195 ?_
            obtain ⟨hi21, h⟩ := h
            refine al_k (n := 171) (k := ((21 * x2) + 4).toNatClampNeg) C (by decide) rfl rfl hi21 dX8_reading_196 ?_
            refine f_iadd C dX8_reading_197 ?_
            refine f_goto (tgt := 228) C dX8_reading_198 (by decide) ?_
            exact f_iret C h dX8_reading_228
        · replace h := h.1 c17
          refine f_iload C dX8_reading_175 (lv_at hl 5 rfl) ?_
          refine f_goto (tgt := 228) C dX8_reading_177 (by decide) ?_
          exact f_iret C h dX8_reading_228
      · replace h := h.1 c16
        refine f_iload C dX8_reading_165 (lv_at hl 4 rfl) ?_
        refine f_goto (tgt := 228) C dX8_reading_167 (by decide) ?_
        exact f_iret C h dX8_reading_228
    · replace h := h.1 c15
      refine f_iload_n C dX8_reading_149 rfl (lv_at hl 3 rfl) ?_
      refine f_aload_n C dX8_reading_150 rfl (lv_at hl 0 rfl) ?_
      refine ge_RX8_20 C (by decide) dX8_reading_151 ?_
      refine f_iconst (v := 0) C dX8_reading_154 (by decide) ?_
      refine al_k (n := 3) (k := 0) C (by decide) rfl (by decide) (vin_k (by decide)) dX8_reading_155 ?_
      refine f_iadd C dX8_reading_156 ?_
      refine f_goto (tgt := 228) C dX8_reading_157 (by decide) ?_
      exact f_iret C h dX8_reading_228
  · replace h := h.1 c14
    refine f_iload_n C dX8_reading_140 rfl (lv_at hl 3 rfl) ?_
    refine f_goto (tgt := 228) C dX8_reading_141 (by decide) ?_
    exact f_iret C h dX8_reading_228

def wp_X8_reading (Q : Int32 → MI → MJ → Prop) (I : MI) (J : MJ) (x1 : Int32) (x2 : Int32) : Prop :=
  wp_X8_in (fun r1 I1 J1 => (r1 = 0 → Q ((-1000000)) I1 J1) ∧
  (¬ (r1 = 0) → wp_X8_isRunner (fun r3 I3 J3 => (r3 = 0 → Q ((-1000000)) I3 J3) ∧
  (¬ (r3 = 0) → vp_in ((21 * x2) + 1) 171 ∧ (∀ v6 : Int32, v6 = I3 25 0 (((21 * x2) + 1).toNatClampNeg) → (∀ v7 : Int32, v7 = (2 * (v6 + (I3 28 0 1))) - (I3 28 0 2) → ((x1 = 0 → J_X8_reading_132 Q I3 J3 x1 x2 v6 (v6 + (I3 28 0 1)) v7 1 (J3 8 0 1)) ∧
  (¬ (x1 = 0) → (x1 = 1 → J_X8_reading_132 Q I3 J3 x1 x2 v6 (v6 + (I3 28 0 1)) v7 11 (J3 8 0 1)) ∧
  (¬ (x1 = 1) → (x1 = 2 → J_X8_reading_132 Q I3 J3 x1 x2 v6 (v6 + (I3 28 0 1)) v7 101 (J3 8 0 1)) ∧
  (¬ (x1 = 2) → (x1 = 3 → J_X8_reading_132 Q I3 J3 x1 x2 v6 (v6 + (I3 28 0 1)) v7 1101 (J3 8 0 1)) ∧
  (¬ (x1 = 3) → (x1 = 4 → J_X8_reading_132 Q I3 J3 x1 x2 v6 (v6 + (I3 28 0 1)) v7 10001 (J3 8 0 1)) ∧
  (¬ (x1 = 4) → (x1 = 5 → J_X8_reading_132 Q I3 J3 x1 x2 v6 (v6 + (I3 28 0 1)) v7 100001 (J3 8 0 1)) ∧
  (¬ (x1 = 5) → J_X8_reading_132 Q I3 J3 x1 x2 v6 (v6 + (I3 28 0 1)) v7 1001101 (J3 8 0 1)))))))))))) I1 J1 x2)) (up3 I 8 0 0 0) J x1 0 6
set_option maxRecDepth 20000 in
theorem c_X8_reading {l : Launch} {g : Geo} {Q : Int32 → MI → MJ → Prop} {I : MI} {J : MJ} {x1 : Int32} {x2 : Int32} (h : wp_X8_reading Q I J x1 x2) : Ct g l yX8_reading cX8_reading 6 (some .int) 2 43 [.ref (gad g 8 0), .int x1, .int x2] I J (PI Q) := by
  refine Ct.of (by decide) ?_
  intro p e s m below meth c C
  have hR : 2 ≤ (Rm 2 43).frames ∧ 43 ≤ (Rm 2 43).locals := ⟨Nat.le_refl _, Nat.le_refl _⟩
  generalize Rm 2 43 = R at hR ⊢
  have hl := lv_entry ([.ref (gad g 8 0), .int x1, .int x2]) (n := 6) (Nat.le_of_ble_eq_true rfl)
  rw [lg_entry_eq]
  generalize (lg_sl ([.ref (gad g 8 0), .int x1, .int x2]) ++ List.replicate (6 - (lg_sl ([.ref (gad g 8 0), .int x1, .int x2])).length) Slot.unset).toArray = ls at hl ⊢
  have hl : lv_has ls 6 [(0, .ref (gad g 8 0)), (1, .int x1), (2, .int x2)] := hl
  refine f_aload_n C dX8_reading_0 rfl (lv_at hl 0 rfl) ?_
  refine f_iconst (v := 0) C dX8_reading_1 (by decide) ?_
  refine pu_RX8_57 C (by decide) dX8_reading_2 ?_
  refine f_iload_n C dX8_reading_5 rfl (lv_at hl 1 rfl) ?_
  refine f_iconst (v := 0) C dX8_reading_6 (by decide) ?_
  refine f_bipush (v := 6) C dX8_reading_7 (by decide) ?_
  refine f_cSi (As := [.int x1, .int 0, .int 6]) (rest := []) (n := 3) C (c_X8_in h) ok_X8_in sm_X8_in kw_RX8_61 ⟨Nat.le_trans (by decide) hR.1, Nat.le_trans (by decide) hR.2⟩ rfl hl.1 (Nat.le_of_ble_eq_true rfl) dX8_reading_9 (fun r1 I1 J1 h => ?_)
  refine f_if_eq (tgt := 23) C dX8_reading_12 (by decide) (fun c2 => ?_) (fun c2 => ?_)
  · replace h := h.1 c2
    refine f_ldc C kc_RX8_69 dX8_reading_23 ?_
    exact f_iret C h dX8_reading_25
  · replace h := h.2 c2
    refine f_aload_n C dX8_reading_15 rfl (lv_at hl 0 rfl) ?_
    refine f_iload_n C dX8_reading_16 rfl (lv_at hl 2 rfl) ?_
    refine f_cVi (As := [.int x2]) (rest := []) (n := 1) (T0 := TX8) (N := 25) C (c_X8_isRunner h) ok_X8_isRunner im_X8_isRunner se_X8_isRunner kw_RX8_65 ⟨Nat.le_trans (by decide) hR.1, Nat.le_trans (by decide) hR.2⟩ (by decide) rfl rfl rfl hl.1 (Nat.le_of_ble_eq_true rfl) dX8_reading_17 (fun r3 I3 J3 h => ?_)
    refine f_if_ne (tgt := 26) C dX8_reading_20 (by decide) (fun c4 => ?_) (fun c4 => ?_)
    · replace h := h.2 c4
      refine f_aload_n C dX8_reading_26 rfl (lv_at hl 0 rfl) ?_
      refine ge_RX8_7 C (by decide) dX8_reading_27 ?_
      refine f_bipush (v := 21) C dX8_reading_30 (by decide) ?_
      refine f_iload_n C dX8_reading_32 rfl (lv_at hl 2 rfl) ?_
      refine f_imul C dX8_reading_33 ?_
      refine f_iconst (v := 1) C dX8_reading_34 (by decide) ?_
      refine f_iadd C dX8_reading_35 ?_
      obtain ⟨hi5, h⟩ := h
      refine al_k (n := 171) (k := ((21 * x2) + 1).toNatClampNeg) C (by decide) rfl rfl hi5 dX8_reading_36 ?_
      generalize hv6 : I3 25 0 (((21 * x2) + 1).toNatClampNeg) = v6
      replace h := h v6 hv6.symm
      refine f_istore_n (lv' := [(3, .int v6), (0, .ref (gad g 8 0)), (1, .int x1), (2, .int x2)]) C dX8_reading_37 rfl hl (by decide) rfl (fun ls hl => ?_)
      refine f_iload_n C dX8_reading_38 rfl (lv_at hl 0 rfl) ?_
      refine f_aload_n C dX8_reading_39 rfl (lv_at hl 1 rfl) ?_
      refine ge_RX8_20 C (by decide) dX8_reading_40 ?_
      refine f_iconst (v := 1) C dX8_reading_43 (by decide) ?_
      refine al_k (n := 3) (k := 1) C (by decide) rfl (by decide) (vin_k (by decide)) dX8_reading_44 ?_
      refine f_iadd C dX8_reading_45 ?_
      refine f_istore (lv' := [(4, .int (v6 + (I3 28 0 1))), (3, .int v6), (0, .ref (gad g 8 0)), (1, .int x1), (2, .int x2)]) C dX8_reading_46 hl (by decide) rfl (fun ls hl => ?_)
      refine f_iconst (v := 2) C dX8_reading_48 (by decide) ?_
      refine f_iload C dX8_reading_49 (lv_at hl 0 rfl) ?_
      refine f_imul C dX8_reading_51 ?_
      refine f_aload_n C dX8_reading_52 rfl (lv_at hl 2 rfl) ?_
      refine ge_RX8_20 C (by decide) dX8_reading_53 ?_
      refine f_iconst (v := 2) C dX8_reading_56 (by decide) ?_
      refine al_k (n := 3) (k := 2) C (by decide) rfl (by decide) (vin_k (by decide)) dX8_reading_57 ?_
      refine f_isub C dX8_reading_58 ?_
      generalize hv7 : (2 * (v6 + (I3 28 0 1))) - (I3 28 0 2) = v7
      replace h := h v7 hv7.symm
      refine f_istore (lv' := [(5, .int v7), (4, .int (v6 + (I3 28 0 1))), (3, .int v6), (0, .ref (gad g 8 0)), (1, .int x1), (2, .int x2)]) C dX8_reading_59 hl (by decide) rfl (fun ls hl => ?_)
      refine f_aload_n C dX8_reading_61 rfl (lv_at hl 3 rfl) ?_
      refine f_dup C dX8_reading_62 rfl ?_
      refine ge_RX8_179 C (by decide) dX8_reading_63 ?_
      refine f_iload_n C dX8_reading_66 rfl (lv_at hl 4 rfl) ?_
      refine f_if_ne (tgt := 74) C dX8_reading_67 (by decide) (fun c8 => ?_) (fun c8 => ?_)
      · replace h := h.2 c8
        refine f_iload_n C dX8_reading_74 rfl (lv_at hl 4 rfl) ?_
        refine f_iconst (v := 1) C dX8_reading_75 (by decide) ?_
        refine f_icmp_ne (tgt := 85) C dX8_reading_76 (by decide) (fun c9 => ?_) (fun c9 => ?_)
        · replace h := h.2 c9
          refine f_iload_n C dX8_reading_85 rfl (lv_at hl 4 rfl) ?_
          refine f_iconst (v := 2) C dX8_reading_86 (by decide) ?_
          refine f_icmp_ne (tgt := 96) C dX8_reading_87 (by decide) (fun c10 => ?_) (fun c10 => ?_)
          · replace h := h.2 c10
            refine f_iload_n C dX8_reading_96 rfl (lv_at hl 4 rfl) ?_
            refine f_iconst (v := 3) C dX8_reading_97 (by decide) ?_
            refine f_icmp_ne (tgt := 107) C dX8_reading_98 (by decide) (fun c11 => ?_) (fun c11 => ?_)
            · replace h := h.2 c11
              refine f_iload_n C dX8_reading_107 rfl (lv_at hl 4 rfl) ?_
              refine f_iconst (v := 4) C dX8_reading_108 (by decide) ?_
              refine f_icmp_ne (tgt := 118) C dX8_reading_109 (by decide) (fun c12 => ?_) (fun c12 => ?_)
              · replace h := h.2 c12
                refine f_iload_n C dX8_reading_118 rfl (lv_at hl 4 rfl) ?_
                refine f_iconst (v := 5) C dX8_reading_119 (by decide) ?_
                refine f_icmp_ne (tgt := 129) C dX8_reading_120 (by decide) (fun c13 => ?_) (fun c13 => ?_)
                · replace h := h.2 c13
                  refine f_ldc2 C kc_RX8_192 dX8_reading_129 ?_
                  exact t_X8_reading_132 C hR h ls (lv_sub hl [3, 4, 5, 2, 1, 0] rfl)
                · replace h := h.1 c13
                  refine f_ldc2 C kc_RX8_190 dX8_reading_123 ?_
                  refine f_goto (tgt := 132) C dX8_reading_126 (by decide) ?_
                  exact t_X8_reading_132 C hR h ls (lv_sub hl [3, 4, 5, 2, 1, 0] rfl)
              · replace h := h.1 c12
                refine f_ldc2 C kc_RX8_188 dX8_reading_112 ?_
                refine f_goto (tgt := 132) C dX8_reading_115 (by decide) ?_
                exact t_X8_reading_132 C hR h ls (lv_sub hl [3, 4, 5, 2, 1, 0] rfl)
            · replace h := h.1 c11
              refine f_ldc2 C kc_RX8_186 dX8_reading_101 ?_
              refine f_goto (tgt := 132) C dX8_reading_104 (by decide) ?_
              exact t_X8_reading_132 C hR h ls (lv_sub hl [3, 4, 5, 2, 1, 0] rfl)
          · replace h := h.1 c10
            refine f_ldc2 C kc_RX8_184 dX8_reading_90 ?_
            refine f_goto (tgt := 132) C dX8_reading_93 (by decide) ?_
            exact t_X8_reading_132 C hR h ls (lv_sub hl [3, 4, 5, 2, 1, 0] rfl)
        · replace h := h.1 c9
          refine f_ldc2 C kc_RX8_182 dX8_reading_79 ?_
          refine f_goto (tgt := 132) C dX8_reading_82 (by decide) ?_
          exact t_X8_reading_132 C hR h ls (lv_sub hl [3, 4, 5, 2, 1, 0] rfl)
      · replace h := h.1 c8
        refine f_lconst (v := 1) C dX8_reading_70 (by decide) ?_
        refine f_goto (tgt := 132) C dX8_reading_71 (by decide) ?_
        exact t_X8_reading_132 C hR h ls (lv_sub hl [3, 4, 5, 2, 1, 0] rfl)
    · replace h := h.1 c4
      refine f_ldc C kc_RX8_69 dX8_reading_23 ?_
      exact f_iret C h dX8_reading_25

def B_X8_keep_18 (Q : Int32 → MI → MJ → Prop) (C18 : MI → MJ → Int32 → Int32 → Prop) (I : MI) (J : MJ) (x1 : Int32) (x2 : Int32) : Prop :=
  (171 ≤ x2 → vp_in x1 2 ∧ (Q ((up3 I 27 0 (x1.toNatClampNeg) 1) 25 0 170) (up3 I 27 0 (x1.toNatClampNeg) 1) J)) ∧
  (¬ (171 ≤ x2) → vp_in x2 171 ∧ (vp_in ((171 * x1) + x2) 342 ∧ (C18 (up3 I 26 0 (((171 * x1) + x2).toNatClampNeg) (I 25 0 (x2.toNatClampNeg))) J x1 (x2 + 1))))
set_option maxRecDepth 20000 in
theorem b_X8_keep_18 {p : Program} {l : Launch} {e : Env} {R : Room} {s : State} {m : MethodId} {args : Array Value} {below : List Frame} {meth : Method} {c : Code} {g : Geo} (C : Cx g p s m args meth c cX8_keep 3 RX8 (some .int)) (hR : 1 ≤ R.frames ∧ 22 ≤ R.locals) {Q : Int32 → MI → MJ → Prop} {C18 : MI → MJ → Int32 → Int32 → Prop} (hC18 : ∀ (I : MI) (J : MJ) (x1 : Int32) (x2 : Int32), C18 I J x1 x2 → ∀ ls : Array Slot, lv_has ls 3 [(0, .ref (gad g 8 0)), (1, .int x1), (2, .int x2)] → Wf p l e R s m args below meth c (MQ below (Qg g (PI Q)) args s 0 0 (gA g)) g I J (F0 m 18 ls [])) {I : MI} {J : MJ} {x1 : Int32} {x2 : Int32} (h : B_X8_keep_18 Q C18 I J x1 x2) (ls : Array Slot) (hl : lv_has ls 3 [(0, .ref (gad g 8 0)), (1, .int x1), (2, .int x2)]) : Wf p l e R s m args below meth c (MQ below (Qg g (PI Q)) args s 0 0 (gA g)) g I J (F0 m 18 ls []) := by
  refine f_iload_n C dX8_keep_18 rfl (lv_at hl 2 rfl) ?_
  refine f_sipush (v := 171) C dX8_keep_19 (by decide) ?_
  refine f_icmp_ge (tgt := 49) C dX8_keep_22 (by decide) (fun c3 => ?_) (fun c3 => ?_)
  · replace h := h.1 c3
    refine f_aload_n C dX8_keep_49 rfl (lv_at hl 0 rfl) ?_
    refine ge_RX8_16 C (by decide) dX8_keep_50 ?_
    refine f_iload_n C dX8_keep_53 rfl (lv_at hl 1 rfl) ?_
    refine f_iconst (v := 1) C dX8_keep_54 (by decide) ?_
    obtain ⟨hi4, h⟩ := h
    refine as_kZ (n := 2) (k := x1.toNatClampNeg) C (by decide) (fun _ => rfl) rfl hi4 (Or.inr rfl) dX8_keep_55 ?_
    refine f_aload_n C dX8_keep_56 rfl (lv_at hl 0 rfl) ?_
    refine ge_RX8_7 C (by decide) dX8_keep_57 ?_
    refine f_sipush (v := 170) C dX8_keep_60 (by decide) ?_
    refine al_k (n := 171) (k := 170) C (by decide) rfl (by decide) (vin_k (by decide)) dX8_keep_63 ?_
    exact f_iret C h dX8_keep_64
  · replace h := h.2 c3
    refine f_aload_n C dX8_keep_25 rfl (lv_at hl 0 rfl) ?_
    refine ge_RX8_13 C (by decide) dX8_keep_26 ?_
    refine f_sipush (v := 171) C dX8_keep_29 (by decide) ?_
    refine f_iload_n C dX8_keep_32 rfl (lv_at hl 1 rfl) ?_
    refine f_imul C dX8_keep_33 ?_
    refine f_iload_n C dX8_keep_34 rfl (lv_at hl 2 rfl) ?_
    refine f_iadd C dX8_keep_35 ?_
    refine f_aload_n C dX8_keep_36 rfl (lv_at hl 0 rfl) ?_
    refine ge_RX8_7 C (by decide) dX8_keep_37 ?_
    refine f_iload_n C dX8_keep_40 rfl (lv_at hl 2 rfl) ?_
    obtain ⟨hi5, h⟩ := h
    refine al_k (n := 171) (k := x2.toNatClampNeg) C (by decide) rfl rfl hi5 dX8_keep_41 ?_
    obtain ⟨hi6, h⟩ := h
    refine as_k (n := 342) (k := ((171 * x1) + x2).toNatClampNeg) C (by decide) (fun _ => rfl) rfl hi6 dX8_keep_42 ?_
    refine f_iinc (v := x2 + 1) (lv' := [(2, .int (x2 + 1)), (0, .ref (gad g 8 0)), (1, .int x1)]) C dX8_keep_43 hl (k := 2) rfl rfl (by decide) rfl (fun ls hl => ?_)
    refine f_goto (tgt := 18) C dX8_keep_46 (by decide) ?_
    exact hC18 _ _ _ _ h ls (lv_sub hl [1, 2, 0] rfl)

def L_X8_keep_18 (Q : Int32 → MI → MJ → Prop) : Nat → MI → MJ → Int32 → Int32 → Prop
  | 0 => fun _ _ _ _ => False
  | n + 1 => fun I J x1 x2 => B_X8_keep_18 Q (L_X8_keep_18 Q n) I J x1 x2
theorem t_X8_keep_18 {p : Program} {l : Launch} {e : Env} {R : Room} {s : State} {m : MethodId} {args : Array Value} {below : List Frame} {meth : Method} {c : Code} {g : Geo} (C : Cx g p s m args meth c cX8_keep 3 RX8 (some .int)) (hR : 1 ≤ R.frames ∧ 22 ≤ R.locals) {Q : Int32 → MI → MJ → Prop} : ∀ (n : Nat), ∀ (I : MI) (J : MJ) (x1 : Int32) (x2 : Int32), L_X8_keep_18 Q n I J x1 x2 → ∀ ls : Array Slot, lv_has ls 3 [(0, .ref (gad g 8 0)), (1, .int x1), (2, .int x2)] → Wf p l e R s m args below meth c (MQ below (Qg g (PI Q)) args s 0 0 (gA g)) g I J (F0 m 18 ls []) := by
  intro n
  induction n with
  | zero => intro I J x1 x2 h; exact h.elim
  | succ n ih => intro I J x1 x2 h ls hl; exact b_X8_keep_18 C hR ih h ls hl
def wp_X8_keep (Q : Int32 → MI → MJ → Prop) (I : MI) (J : MJ) (x1 : Int32) : Prop :=
  wp_X8_in (fun r1 I1 J1 => (r1 = 0 → Q ((-1)) I1 J1) ∧
  (¬ (r1 = 0) → ∃ n : Nat, L_X8_keep_18 Q n I1 J1 x1 0)) (up3 I 8 0 0 0) J x1 0 1
set_option maxRecDepth 20000 in
theorem c_X8_keep {l : Launch} {g : Geo} {Q : Int32 → MI → MJ → Prop} {I : MI} {J : MJ} {x1 : Int32} (h : wp_X8_keep Q I J x1) : Ct g l yX8_keep cX8_keep 3 (some .int) 1 22 [.ref (gad g 8 0), .int x1] I J (PI Q) := by
  refine Ct.of (by decide) ?_
  intro p e s m below meth c C
  have hR : 1 ≤ (Rm 1 22).frames ∧ 22 ≤ (Rm 1 22).locals := ⟨Nat.le_refl _, Nat.le_refl _⟩
  generalize Rm 1 22 = R at hR ⊢
  have hl := lv_entry ([.ref (gad g 8 0), .int x1]) (n := 3) (Nat.le_of_ble_eq_true rfl)
  rw [lg_entry_eq]
  generalize (lg_sl ([.ref (gad g 8 0), .int x1]) ++ List.replicate (3 - (lg_sl ([.ref (gad g 8 0), .int x1])).length) Slot.unset).toArray = ls at hl ⊢
  have hl : lv_has ls 3 [(0, .ref (gad g 8 0)), (1, .int x1)] := hl
  refine f_aload_n C dX8_keep_0 rfl (lv_at hl 0 rfl) ?_
  refine f_iconst (v := 0) C dX8_keep_1 (by decide) ?_
  refine pu_RX8_57 C (by decide) dX8_keep_2 ?_
  refine f_iload_n C dX8_keep_5 rfl (lv_at hl 1 rfl) ?_
  refine f_iconst (v := 0) C dX8_keep_6 (by decide) ?_
  refine f_iconst (v := 1) C dX8_keep_7 (by decide) ?_
  refine f_cSi (As := [.int x1, .int 0, .int 1]) (rest := []) (n := 3) C (c_X8_in h) ok_X8_in sm_X8_in kw_RX8_61 ⟨Nat.le_trans (by decide) hR.1, Nat.le_trans (by decide) hR.2⟩ rfl hl.1 (Nat.le_of_ble_eq_true rfl) dX8_keep_8 (fun r1 I1 J1 h => ?_)
  refine f_if_ne (tgt := 16) C dX8_keep_11 (by decide) (fun c2 => ?_) (fun c2 => ?_)
  · replace h := h.2 c2
    refine f_iconst (v := 0) C dX8_keep_16 (by decide) ?_
    refine f_istore_n (lv' := [(2, .int 0), (0, .ref (gad g 8 0)), (1, .int x1)]) C dX8_keep_17 rfl hl (by decide) rfl (fun ls hl => ?_)
    obtain ⟨n, h⟩ := h
    exact t_X8_keep_18 C hR n _ _ _ _ h ls (lv_sub hl [1, 2, 0] rfl)
  · replace h := h.1 c2
    refine f_iconst (v := (-1)) C dX8_keep_14 (by decide) ?_
    exact f_iret C h dX8_keep_15

def B_X8_back_30 (Q : Int32 → MI → MJ → Prop) (C30 : MI → MJ → Int32 → Int32 → Prop) (I : MI) (J : MJ) (x1 : Int32) (x2 : Int32) : Prop :=
  (171 ≤ x2 → Q ((up3 I 8 0 14 0) 25 0 170) (up3 I 8 0 14 0) J) ∧
  (¬ (171 ≤ x2) → vp_in ((171 * x1) + x2) 342 ∧ (vp_in x2 171 ∧ (C30 (up3 I 25 0 (x2.toNatClampNeg) (I 26 0 (((171 * x1) + x2).toNatClampNeg))) J x1 (x2 + 1))))
set_option maxRecDepth 20000 in
theorem b_X8_back_30 {p : Program} {l : Launch} {e : Env} {R : Room} {s : State} {m : MethodId} {args : Array Value} {below : List Frame} {meth : Method} {c : Code} {g : Geo} (C : Cx g p s m args meth c cX8_back 3 RX8 (some .int)) (hR : 1 ≤ R.frames ∧ 22 ≤ R.locals) {Q : Int32 → MI → MJ → Prop} {C30 : MI → MJ → Int32 → Int32 → Prop} (hC30 : ∀ (I : MI) (J : MJ) (x1 : Int32) (x2 : Int32), C30 I J x1 x2 → ∀ ls : Array Slot, lv_has ls 3 [(0, .ref (gad g 8 0)), (1, .int x1), (2, .int x2)] → Wf p l e R s m args below meth c (MQ below (Qg g (PI Q)) args s 0 0 (gA g)) g I J (F0 m 30 ls [])) {I : MI} {J : MJ} {x1 : Int32} {x2 : Int32} (h : B_X8_back_30 Q C30 I J x1 x2) (ls : Array Slot) (hl : lv_has ls 3 [(0, .ref (gad g 8 0)), (1, .int x1), (2, .int x2)]) : Wf p l e R s m args below meth c (MQ below (Qg g (PI Q)) args s 0 0 (gA g)) g I J (F0 m 30 ls []) := by
  refine f_iload_n C dX8_back_30 rfl (lv_at hl 2 rfl) ?_
  refine f_sipush (v := 171) C dX8_back_31 (by decide) ?_
  refine f_icmp_ge (tgt := 61) C dX8_back_34 (by decide) (fun c5 => ?_) (fun c5 => ?_)
  · replace h := h.1 c5
    refine f_aload_n C dX8_back_61 rfl (lv_at hl 0 rfl) ?_
    refine f_iconst (v := 0) C dX8_back_62 (by decide) ?_
    refine pu_RX8_151 C (by decide) dX8_back_63 ?_
    refine f_aload_n C dX8_back_66 rfl (lv_at hl 0 rfl) ?_
    refine ge_RX8_7 C (by decide) dX8_back_67 ?_
    refine f_sipush (v := 170) C dX8_back_70 (by decide) ?_
    refine al_k (n := 171) (k := 170) C (by decide) rfl (by decide) (vin_k (by decide)) dX8_back_73 ?_
    exact f_iret C h dX8_back_74
  · replace h := h.2 c5
    refine f_aload_n C dX8_back_37 rfl (lv_at hl 0 rfl) ?_
    refine ge_RX8_7 C (by decide) dX8_back_38 ?_
    refine f_iload_n C dX8_back_41 rfl (lv_at hl 2 rfl) ?_
    refine f_aload_n C dX8_back_42 rfl (lv_at hl 0 rfl) ?_
    refine ge_RX8_13 C (by decide) dX8_back_43 ?_
    refine f_sipush (v := 171) C dX8_back_46 (by decide) ?_
    refine f_iload_n C dX8_back_49 rfl (lv_at hl 1 rfl) ?_
    refine f_imul C dX8_back_50 ?_
    refine f_iload_n C dX8_back_51 rfl (lv_at hl 2 rfl) ?_
    refine f_iadd C dX8_back_52 ?_
    obtain ⟨hi6, h⟩ := h
    refine al_k (n := 342) (k := ((171 * x1) + x2).toNatClampNeg) C (by decide) rfl rfl hi6 dX8_back_53 ?_
    obtain ⟨hi7, h⟩ := h
    refine as_k (n := 171) (k := x2.toNatClampNeg) C (by decide) (fun _ => rfl) rfl hi7 dX8_back_54 ?_
    refine f_iinc (v := x2 + 1) (lv' := [(2, .int (x2 + 1)), (0, .ref (gad g 8 0)), (1, .int x1)]) C dX8_back_55 hl (k := 2) rfl rfl (by decide) rfl (fun ls hl => ?_)
    refine f_goto (tgt := 30) C dX8_back_58 (by decide) ?_
    exact hC30 _ _ _ _ h ls (lv_sub hl [1, 2, 0] rfl)

def L_X8_back_30 (Q : Int32 → MI → MJ → Prop) : Nat → MI → MJ → Int32 → Int32 → Prop
  | 0 => fun _ _ _ _ => False
  | n + 1 => fun I J x1 x2 => B_X8_back_30 Q (L_X8_back_30 Q n) I J x1 x2
theorem t_X8_back_30 {p : Program} {l : Launch} {e : Env} {R : Room} {s : State} {m : MethodId} {args : Array Value} {below : List Frame} {meth : Method} {c : Code} {g : Geo} (C : Cx g p s m args meth c cX8_back 3 RX8 (some .int)) (hR : 1 ≤ R.frames ∧ 22 ≤ R.locals) {Q : Int32 → MI → MJ → Prop} : ∀ (n : Nat), ∀ (I : MI) (J : MJ) (x1 : Int32) (x2 : Int32), L_X8_back_30 Q n I J x1 x2 → ∀ ls : Array Slot, lv_has ls 3 [(0, .ref (gad g 8 0)), (1, .int x1), (2, .int x2)] → Wf p l e R s m args below meth c (MQ below (Qg g (PI Q)) args s 0 0 (gA g)) g I J (F0 m 30 ls []) := by
  intro n
  induction n with
  | zero => intro I J x1 x2 h; exact h.elim
  | succ n ih => intro I J x1 x2 h ls hl; exact b_X8_back_30 C hR ih h ls hl
def wp_X8_back (Q : Int32 → MI → MJ → Prop) (I : MI) (J : MJ) (x1 : Int32) : Prop :=
  wp_X8_in (fun r1 I1 J1 => (r1 = 0 → Q ((-1)) I1 J1) ∧
  (¬ (r1 = 0) → vp_in x1 2 ∧ (((I1 27 0 (x1.toNatClampNeg)) = 0 → Q ((-2)) I1 J1) ∧
  (¬ ((I1 27 0 (x1.toNatClampNeg)) = 0) → ∃ n : Nat, L_X8_back_30 Q n I1 J1 x1 0)))) (up3 I 8 0 0 0) J x1 0 1
set_option maxRecDepth 20000 in
theorem c_X8_back {l : Launch} {g : Geo} {Q : Int32 → MI → MJ → Prop} {I : MI} {J : MJ} {x1 : Int32} (h : wp_X8_back Q I J x1) : Ct g l yX8_back cX8_back 3 (some .int) 1 22 [.ref (gad g 8 0), .int x1] I J (PI Q) := by
  refine Ct.of (by decide) ?_
  intro p e s m below meth c C
  have hR : 1 ≤ (Rm 1 22).frames ∧ 22 ≤ (Rm 1 22).locals := ⟨Nat.le_refl _, Nat.le_refl _⟩
  generalize Rm 1 22 = R at hR ⊢
  have hl := lv_entry ([.ref (gad g 8 0), .int x1]) (n := 3) (Nat.le_of_ble_eq_true rfl)
  rw [lg_entry_eq]
  generalize (lg_sl ([.ref (gad g 8 0), .int x1]) ++ List.replicate (3 - (lg_sl ([.ref (gad g 8 0), .int x1])).length) Slot.unset).toArray = ls at hl ⊢
  have hl : lv_has ls 3 [(0, .ref (gad g 8 0)), (1, .int x1)] := hl
  refine f_aload_n C dX8_back_0 rfl (lv_at hl 0 rfl) ?_
  refine f_iconst (v := 0) C dX8_back_1 (by decide) ?_
  refine pu_RX8_57 C (by decide) dX8_back_2 ?_
  refine f_iload_n C dX8_back_5 rfl (lv_at hl 1 rfl) ?_
  refine f_iconst (v := 0) C dX8_back_6 (by decide) ?_
  refine f_iconst (v := 1) C dX8_back_7 (by decide) ?_
  refine f_cSi (As := [.int x1, .int 0, .int 1]) (rest := []) (n := 3) C (c_X8_in h) ok_X8_in sm_X8_in kw_RX8_61 ⟨Nat.le_trans (by decide) hR.1, Nat.le_trans (by decide) hR.2⟩ rfl hl.1 (Nat.le_of_ble_eq_true rfl) dX8_back_8 (fun r1 I1 J1 h => ?_)
  refine f_if_ne (tgt := 16) C dX8_back_11 (by decide) (fun c2 => ?_) (fun c2 => ?_)
  · replace h := h.2 c2
    refine f_aload_n C dX8_back_16 rfl (lv_at hl 0 rfl) ?_
    refine ge_RX8_16 C (by decide) dX8_back_17 ?_
    refine f_iload_n C dX8_back_20 rfl (lv_at hl 1 rfl) ?_
    obtain ⟨hi3, h⟩ := h
    refine al_kZ (n := 2) (k := x1.toNatClampNeg) C (by decide) rfl rfl hi3 dX8_back_21 ?_
    refine f_if_ne (tgt := 28) C dX8_back_22 (by decide) (fun c4 => ?_) (fun c4 => ?_)
    · replace h := h.2 c4
      refine f_iconst (v := 0) C dX8_back_28 (by decide) ?_
      refine f_istore_n (lv' := [(2, .int 0), (0, .ref (gad g 8 0)), (1, .int x1)]) C dX8_back_29 rfl hl (by decide) rfl (fun ls hl => ?_)
      obtain ⟨n, h⟩ := h
      exact t_X8_back_30 C hR n _ _ _ _ h ls (lv_sub hl [1, 2, 0] rfl)
    · replace h := h.1 c4
      refine f_bipush (v := (-2)) C dX8_back_25 (by decide) ?_
      exact f_iret C h dX8_back_27
  · replace h := h.1 c2
    refine f_iconst (v := (-1)) C dX8_back_14 (by decide) ?_
    exact f_iret C h dX8_back_15

def wp_X8_count (Q : Int32 → MI → MJ → Prop) (I : MI) (J : MJ) (x1 : Int32) : Prop :=
  (x1 = 0 → Q ((up3 I 8 0 0 0) 25 0 168) (up3 I 8 0 0 0) J) ∧
  (¬ (x1 = 0) → (x1 = 1 → Q ((up3 I 8 0 0 0) 25 0 170) (up3 I 8 0 0 0) J) ∧
  (¬ (x1 = 1) → (x1 = 2 → Q ((up3 I 8 0 0 0) 8 0 8) (up3 I 8 0 0 0) J) ∧
  (¬ (x1 = 2) → (x1 = 3 → Q ((up3 I 8 0 0 0) 25 0 169) (up3 I 8 0 0 0) J) ∧
  (¬ (x1 = 3) → Q ((-1000000)) (up3 I 8 0 0 0) J))))
set_option maxRecDepth 20000 in
theorem c_X8_count {l : Launch} {g : Geo} {Q : Int32 → MI → MJ → Prop} {I : MI} {J : MJ} {x1 : Int32} (h : wp_X8_count Q I J x1) : Ct g l yX8_count cX8_count 2 (some .int) 0 0 [.ref (gad g 8 0), .int x1] I J (PI Q) := by
  refine Ct.of (by decide) ?_
  intro p e s m below meth c C
  have hR : 0 ≤ (Rm 0 0).frames ∧ 0 ≤ (Rm 0 0).locals := ⟨Nat.le_refl _, Nat.le_refl _⟩
  generalize Rm 0 0 = R at hR ⊢
  have hl := lv_entry ([.ref (gad g 8 0), .int x1]) (n := 2) (Nat.le_of_ble_eq_true rfl)
  rw [lg_entry_eq]
  generalize (lg_sl ([.ref (gad g 8 0), .int x1]) ++ List.replicate (2 - (lg_sl ([.ref (gad g 8 0), .int x1])).length) Slot.unset).toArray = ls at hl ⊢
  have hl : lv_has ls 2 [(0, .ref (gad g 8 0)), (1, .int x1)] := hl
  refine f_aload_n C dX8_count_0 rfl (lv_at hl 0 rfl) ?_
  refine f_iconst (v := 0) C dX8_count_1 (by decide) ?_
  refine pu_RX8_57 C (by decide) dX8_count_2 ?_
  refine f_iload_n C dX8_count_5 rfl (lv_at hl 1 rfl) ?_
  refine f_if_ne (tgt := 20) C dX8_count_6 (by decide) (fun c1 => ?_) (fun c1 => ?_)
  · replace h := h.2 c1
    refine f_iload_n C dX8_count_20 rfl (lv_at hl 1 rfl) ?_
    refine f_iconst (v := 1) C dX8_count_21 (by decide) ?_
    refine f_icmp_ne (tgt := 36) C dX8_count_22 (by decide) (fun c2 => ?_) (fun c2 => ?_)
    · replace h := h.2 c2
      refine f_iload_n C dX8_count_36 rfl (lv_at hl 1 rfl) ?_
      refine f_iconst (v := 2) C dX8_count_37 (by decide) ?_
      refine f_icmp_ne (tgt := 48) C dX8_count_38 (by decide) (fun c3 => ?_) (fun c3 => ?_)
      · replace h := h.2 c3
        refine f_iload_n C dX8_count_48 rfl (lv_at hl 1 rfl) ?_
        refine f_iconst (v := 3) C dX8_count_49 (by decide) ?_
        refine f_icmp_ne (tgt := 64) C dX8_count_50 (by decide) (fun c4 => ?_) (fun c4 => ?_)
        · replace h := h.2 c4
          refine f_ldc C kc_RX8_69 dX8_count_64 ?_
          exact f_iret C h dX8_count_66
        · replace h := h.1 c4
          refine f_aload_n C dX8_count_53 rfl (lv_at hl 0 rfl) ?_
          refine ge_RX8_7 C (by decide) dX8_count_54 ?_
          refine f_sipush (v := 169) C dX8_count_57 (by decide) ?_
          refine al_k (n := 171) (k := 169) C (by decide) rfl (by decide) (vin_k (by decide)) dX8_count_60 ?_
          refine f_goto (tgt := 66) C dX8_count_61 (by decide) ?_
          exact f_iret C h dX8_count_66
      · replace h := h.1 c3
        refine f_aload_n C dX8_count_41 rfl (lv_at hl 0 rfl) ?_
        refine ge_RX8_70 C (by decide) dX8_count_42 ?_
        refine f_goto (tgt := 66) C dX8_count_45 (by decide) ?_
        exact f_iret C h dX8_count_66
    · replace h := h.1 c2
      refine f_aload_n C dX8_count_25 rfl (lv_at hl 0 rfl) ?_
      refine ge_RX8_7 C (by decide) dX8_count_26 ?_
      refine f_sipush (v := 170) C dX8_count_29 (by decide) ?_
      refine al_k (n := 171) (k := 170) C (by decide) rfl (by decide) (vin_k (by decide)) dX8_count_32 ?_
      refine f_goto (tgt := 66) C dX8_count_33 (by decide) ?_
      exact f_iret C h dX8_count_66
  · replace h := h.1 c1
    refine f_aload_n C dX8_count_9 rfl (lv_at hl 0 rfl) ?_
    refine ge_RX8_7 C (by decide) dX8_count_10 ?_
    refine f_sipush (v := 168) C dX8_count_13 (by decide) ?_
    refine al_k (n := 171) (k := 168) C (by decide) rfl (by decide) (vin_k (by decide)) dX8_count_16 ?_
    refine f_goto (tgt := 66) C dX8_count_17 (by decide) ?_
    exact f_iret C h dX8_count_66

def wp_X8_trace (Q : Int64 → MI → MJ → Prop) (I : MI) (J : MJ) : Prop :=
  Q (J 8 0 1) (up3 I 8 0 0 0) J
set_option maxRecDepth 20000 in
theorem c_X8_trace {l : Launch} {g : Geo} {Q : Int64 → MI → MJ → Prop} {I : MI} {J : MJ} (h : wp_X8_trace Q I J) : Ct g l yX8_trace cX8_trace 1 (some .long) 0 0 [.ref (gad g 8 0)] I J (PL Q) := by
  refine Ct.of (by decide) ?_
  intro p e s m below meth c C
  have hR : 0 ≤ (Rm 0 0).frames ∧ 0 ≤ (Rm 0 0).locals := ⟨Nat.le_refl _, Nat.le_refl _⟩
  generalize Rm 0 0 = R at hR ⊢
  have hl := lv_entry ([.ref (gad g 8 0)]) (n := 1) (Nat.le_of_ble_eq_true rfl)
  rw [lg_entry_eq]
  generalize (lg_sl ([.ref (gad g 8 0)]) ++ List.replicate (1 - (lg_sl ([.ref (gad g 8 0)])).length) Slot.unset).toArray = ls at hl ⊢
  have hl : lv_has ls 1 [(0, .ref (gad g 8 0))] := hl
  refine f_aload_n C dX8_trace_0 rfl (lv_at hl 0 rfl) ?_
  refine f_iconst (v := 0) C dX8_trace_1 (by decide) ?_
  refine pu_RX8_57 C (by decide) dX8_trace_2 ?_
  refine f_aload_n C dX8_trace_5 rfl (lv_at hl 0 rfl) ?_
  refine ge_RX8_179 C (by decide) dX8_trace_6 ?_
  exact f_lret C h dX8_trace_9

