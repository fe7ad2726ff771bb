def B_X7_race_23 (Q : Int32 → MI → MJ → Prop) (C23 : MI → MJ → Int32 → Int32 → Int32 → Int32 → Int32 → Prop) (I : MI) (J : MJ) (x1 : Int32) (x2 : Int32) (x3 : Int32) (x4 : Int32) (x5 : Int32) : Prop :=
  ((I 6 0 1) ≤ x5 → Q x4 (up3 (up3 I 7 0 13 x2) 6 0 3 (((up3 I 7 0 13 x2) 6 0 3) + 1)) J) ∧
  (¬ ((I 6 0 1) ≤ x5) → wp_X7_isOf (fun r5 I5 J5 => (r5 = 0 → C23 I5 J5 x1 x2 x3 x4 (x5 + 1)) ∧
  (¬ (r5 = 0) → wp_X7_runOne (fun I7 J7 => (x4 < 0 → C23 I7 J7 x1 x2 x3 x5 (x5 + 1)) ∧
  (¬ (x4 < 0) → vp_in x5 8 ∧ (vp_in x4 8 ∧ (((I7 22 0 (x5.toNatClampNeg)) ≤ (I7 22 0 (x4.toNatClampNeg)) → C23 I7 J7 x1 x2 x3 x4 (x5 + 1)) ∧
  (¬ ((I7 22 0 (x5.toNatClampNeg)) ≤ (I7 22 0 (x4.toNatClampNeg))) → C23 I7 J7 x1 x2 x3 x5 (x5 + 1)))))) I5 J5 x5 x1 x3)) I J x2 x5)
set_option maxRecDepth 20000 in
theorem b_X7_race_23 {p : Program} {l : Launch} {e : Env} {R : Room} {s : State} {m : MethodId} {args : Array Value} {below : List Frame} {meth : Method} {c : Code} {g : Geo} (C : Cx g p s m args meth c cX7_race 6 RX7 (some .int)) (hR : 4 ≤ R.frames ∧ 110 ≤ R.locals) {Q : Int32 → MI → MJ → Prop} {C23 : MI → MJ → Int32 → Int32 → Int32 → Int32 → Int32 → Prop} (hC23 : ∀ (I : MI) (J : MJ) (x1 : Int32) (x2 : Int32) (x3 : Int32) (x4 : Int32) (x5 : Int32), C23 I J x1 x2 x3 x4 x5 → ∀ ls : Array Slot, lv_has ls 6 [(0, .ref (gad g 7 0)), (1, .int x1), (2, .int x2), (3, .int x3), (4, .int x4), (5, .int x5)] → Wf p l e R s m args below meth c (MQ below (Qg g (PI Q)) args s 0 0 (gA g)) g I J (F0 m 23 ls [])) {I : MI} {J : MJ} {x1 : Int32} {x2 : Int32} {x3 : Int32} {x4 : Int32} {x5 : Int32} (h : B_X7_race_23 Q C23 I J x1 x2 x3 x4 x5) (ls : Array Slot) (hl : lv_has ls 6 [(0, .ref (gad g 7 0)), (1, .int x1), (2, .int x2), (3, .int x3), (4, .int x4), (5, .int x5)]) : Wf p l e R s m args below meth c (MQ below (Qg g (PI Q)) args s 0 0 (gA g)) g I J (F0 m 23 ls []) := by
  refine f_iload C dX7_race_23 (lv_at hl 5 rfl) ?_
  refine f_aload_n C dX7_race_25 rfl (lv_at hl 0 rfl) ?_
  refine ge_RX7_10 C (by decide) dX7_race_26 ?_
  refine ge_RX7_82 C (by decide) dX7_race_29 ?_
  refine f_icmp_ge (tgt := 84) C dX7_race_32 (by decide) (fun c4 => ?_) (fun c4 => ?_)
  · replace h := h.1 c4
    refine f_aload_n C dX7_race_84 rfl (lv_at hl 0 rfl) ?_
    refine f_iload_n C dX7_race_85 rfl (lv_at hl 2 rfl) ?_
    refine pu_RX7_168 C (by decide) dX7_race_86 ?_
    refine f_aload_n C dX7_race_89 rfl (lv_at hl 0 rfl) ?_
    refine ge_RX7_10 C (by decide) dX7_race_90 ?_
    refine f_dup C dX7_race_93 rfl ?_
    refine ge_RX7_171 C (by decide) dX7_race_94 ?_
    refine f_iconst (v := 1) C dX7_race_97 (by decide) ?_
    refine f_iadd C dX7_race_98 ?_
    refine pu_RX7_171 C (by decide) dX7_race_99 ?_
    refine f_iload C dX7_race_102 (lv_at hl 4 rfl) ?_
    exact f_iret C h dX7_race_104
  · replace h := h.2 c4
    refine f_iload_n C dX7_race_35 rfl (lv_at hl 2 rfl) ?_
    refine f_iload C dX7_race_36 (lv_at hl 5 rfl) ?_
    refine f_cSi (As := [.int x2, .int x5]) (rest := []) (n := 2) C (c_X7_isOf h) ok_X7_isOf sm_X7_isOf kw_RX7_161 ⟨Nat.le_trans (by decide) hR.1, Nat.le_trans (by decide) hR.2⟩ rfl hl.1 (Nat.le_of_ble_eq_true rfl) dX7_race_38 (fun r5 I5 J5 h => ?_)
    refine f_if_eq (tgt := 78) C dX7_race_41 (by decide) (fun c6 => ?_) (fun c6 => ?_)
    · replace h := h.1 c6
      refine f_iinc (v := x5 + 1) (lv' := [(5, .int (x5 + 1)), (0, .ref (gad g 7 0)), (1, .int x1), (2, .int x2), (3, .int x3), (4, .int x4)]) C dX7_race_78 hl (k := 5) rfl rfl (by decide) rfl (fun ls hl => ?_)
      refine f_goto (tgt := 23) C dX7_race_81 (by decide) ?_
      exact hC23 _ _ _ _ _ _ _ h ls (lv_sub hl [1, 2, 3, 4, 5, 0] rfl)
    · replace h := h.2 c6
      refine f_aload_n C dX7_race_44 rfl (lv_at hl 0 rfl) ?_
      refine f_iload C dX7_race_45 (lv_at hl 5 rfl) ?_
      refine f_iload_n C dX7_race_47 rfl (lv_at hl 1 rfl) ?_
      refine f_iload_n C dX7_race_48 rfl (lv_at hl 3 rfl) ?_
      refine f_cVv (As := [.int x5, .int x1, .int x3]) (rest := []) (n := 3) (T0 := TX7) (N := 15) C (c_X7_runOne h) ok_X7_runOne im_X7_runOne se_X7_runOne kw_RX7_164 ⟨Nat.le_trans (by decide) hR.1, Nat.le_trans (by decide) hR.2⟩ (by decide) rfl rfl rfl hl.1 (Nat.le_of_ble_eq_true rfl) dX7_race_49 (fun I7 J7 h => ?_)
      refine f_iload C dX7_race_52 (lv_at hl 4 rfl) ?_
      refine f_if_lt (tgt := 74) C dX7_race_54 (by decide) (fun c8 => ?_) (fun c8 => ?_)
      · replace h := h.1 c8
        refine f_iload C dX7_race_74 (lv_at hl 5 rfl) ?_
        refine f_istore (lv' := [(4, .int x5), (0, .ref (gad g 7 0)), (1, .int x1), (2, .int x2), (3, .int x3), (5, .int x5)]) C dX7_race_76 hl (by decide) rfl (fun ls hl => ?_)
        refine f_iinc (v := x5 + 1) (lv' := [(5, .int (x5 + 1)), (4, .int x5), (0, .ref (gad g 7 0)), (1, .int x1), (2, .int x2), (3, .int x3)]) C dX7_race_78 hl (k := 5) rfl rfl (by decide) rfl (fun ls hl => ?_)
        refine f_goto (tgt := 23) C dX7_race_81 (by decide) ?_
        exact hC23 _ _ _ _ _ _ _ h ls (lv_sub hl [2, 3, 4, 5, 1, 0] rfl)
      · replace h := h.2 c8
        refine f_aload_n C dX7_race_57 rfl (lv_at hl 0 rfl) ?_
        refine ge_RX7_69 C (by decide) dX7_race_58 ?_
        refine f_iload C dX7_race_61 (lv_at hl 5 rfl) ?_
        obtain ⟨hi9, h⟩ := h
        refine al_k (n := 8) (k := x5.toNatClampNeg) C (by decide) rfl rfl hi9 dX7_race_63 ?_
        refine f_aload_n C dX7_race_64 rfl (lv_at hl 0 rfl) ?_
        refine ge_RX7_69 C (by decide) dX7_race_65 ?_
        refine f_iload C dX7_race_68 (lv_at hl 4 rfl) ?_
        obtain ⟨hi10, h⟩ := h
        refine al_k (n := 8) (k := x4.toNatClampNeg) C (by decide) rfl rfl hi10 dX7_race_70 ?_
        refine f_icmp_le (tgt := 78) C dX7_race_71 (by decide) (fun c11 => ?_) (fun c11 => ?_)
        · replace h := h.1 c11
          refine f_iinc (v := x5 + 1) (lv' := [(5, .int (x5 + 1)), (0, .ref (gad g 7 0)), (1, .int x1), (2, .int x2), (3, .int x3), (4, .int x4)]) C dX7_race_78 hl (k := 5) rfl rfl (by decide) rfl (fun ls hl => ?_)
          refine f_goto (tgt := 23) C dX7_race_81 (by decide) ?_
          exact hC23 _ _ _ _ _ _ _ h ls (lv_sub hl [1, 2, 3, 4, 5, 0] rfl)
        · replace h := h.2 c11
          refine f_iload C dX7_race_74 (lv_at hl 5 rfl) ?_
          refine f_istore (lv' := [(4, .int x5), (0, .ref (gad g 7 0)), (1, .int x1), (2, .int x2), (3, .int x3), (5, .int x5)]) C dX7_race_76 hl (by decide) rfl (fun ls hl => ?_)
          refine f_iinc (v := x5 + 1) (lv' := [(5, .int (x5 + 1)), (4, .int x5), (0, .ref (gad g 7 0)), (1, .int x1), (2, .int x2), (3, .int x3)]) C dX7_race_78 hl (k := 5) rfl rfl (by decide) rfl (fun ls hl => ?_)
          refine f_goto (tgt := 23) C dX7_race_81 (by decide) ?_
          exact hC23 _ _ _ _ _ _ _ h ls (lv_sub hl [2, 3, 4, 5, 1, 0] rfl)

def L_X7_race_23 (Q : Int32 → MI → MJ → Prop) : Nat → MI → MJ → Int32 → Int32 → Int32 → Int32 → Int32 → Prop
  | 0 => fun _ _ _ _ _ _ _ => False
  | n + 1 => fun I J x1 x2 x3 x4 x5 => B_X7_race_23 Q (L_X7_race_23 Q n) I J x1 x2 x3 x4 x5
theorem t_X7_race_23 {p : Program} {l : Launch} {e : Env} {R : Room} {s : State} {m : MethodId} {args : Array Value} {below : List Frame} {meth : Method} {c : Code} {g : Geo} (C : Cx g p s m args meth c cX7_race 6 RX7 (some .int)) (hR : 4 ≤ R.frames ∧ 110 ≤ R.locals) {Q : Int32 → MI → MJ → Prop} : ∀ (n : Nat), ∀ (I : MI) (J : MJ) (x1 : Int32) (x2 : Int32) (x3 : Int32) (x4 : Int32) (x5 : Int32), L_X7_race_23 Q n I J x1 x2 x3 x4 x5 → ∀ ls : Array Slot, lv_has ls 6 [(0, .ref (gad g 7 0)), (1, .int x1), (2, .int x2), (3, .int x3), (4, .int x4), (5, .int x5)] → Wf p l e R s m args below meth c (MQ below (Qg g (PI Q)) args s 0 0 (gA g)) g I J (F0 m 23 ls []) := by
  intro n
  induction n with
  | zero => intro I J x1 x2 x3 x4 x5 h; exact h.elim
  | succ n ih => intro I J x1 x2 x3 x4 x5 h ls hl; exact b_X7_race_23 C hR ih h ls hl
def wp_X7_race (Q : Int32 → MI → MJ → Prop) (I : MI) (J : MJ) (x1 : Int32) (x2 : Int32) : Prop :=
  wp_X7_canRace (fun r1 I1 J1 => (r1 = 0 → Q ((-1)) I1 J1) ∧
  (¬ (r1 = 0) → wp_X7_leastMark (fun r3 I3 J3 => ∃ n : Nat, L_X7_race_23 Q n I3 J3 x1 x2 r3 ((-1)) 0) I1 J1 x2)) I J x1 x2
set_option maxRecDepth 20000 in
theorem c_X7_race {l : Launch} {g : Geo} {Q : Int32 → MI → MJ → Prop} {I : MI} {J : MJ} {x1 : Int32} {x2 : Int32} (h : wp_X7_race Q I J x1 x2) : Ct g l yX7_race cX7_race 6 (some .int) 4 110 [.ref (gad g 7 0), .int x1, .int x2] I J (PI Q) := by
  refine Ct.of (by decide) ?_
  intro p e s m below meth c C
  have hR : 4 ≤ (Rm 4 110).frames ∧ 110 ≤ (Rm 4 110).locals := ⟨Nat.le_refl _, Nat.le_refl _⟩
  generalize Rm 4 110 = R at hR ⊢
  have hl := lv_entry ([.ref (gad g 7 0), .int x1, .int x2]) (n := 6) (Nat.le_of_ble_eq_true rfl)
  rw [lg_entry_eq]
  generalize (lg_sl ([.ref (gad g 7 0), .int x1, .int x2]) ++ List.replicate (6 - (lg_sl ([.ref (gad g 7 0), .int x1, .int x2])).length) Slot.unset).toArray = ls at hl ⊢
  have hl : lv_has ls 6 [(0, .ref (gad g 7 0)), (1, .int x1), (2, .int x2)] := hl
  refine f_aload_n C dX7_race_0 rfl (lv_at hl 0 rfl) ?_
  refine f_iload_n C dX7_race_1 rfl (lv_at hl 1 rfl) ?_
  refine f_iload_n C dX7_race_2 rfl (lv_at hl 2 rfl) ?_
  refine f_cVi (As := [.int x1, .int x2]) (rest := []) (n := 2) (T0 := TX7) (N := 15) C (c_X7_canRace h) ok_X7_canRace im_X7_canRace se_X7_canRace kw_RX7_153 ⟨Nat.le_trans (by decide) hR.1, Nat.le_trans (by decide) hR.2⟩ (by decide) rfl rfl rfl hl.1 (Nat.le_of_ble_eq_true rfl) dX7_race_3 (fun r1 I1 J1 h => ?_)
  refine f_if_ne (tgt := 11) C dX7_race_6 (by decide) (fun c2 => ?_) (fun c2 => ?_)
  · replace h := h.2 c2
    refine f_aload_n C dX7_race_11 rfl (lv_at hl 0 rfl) ?_
    refine f_iload_n C dX7_race_12 rfl (lv_at hl 2 rfl) ?_
    refine f_cVi (As := [.int x2]) (rest := []) (n := 1) (T0 := TX7) (N := 15) C (c_X7_leastMark h) ok_X7_leastMark im_X7_leastMark se_X7_leastMark kw_RX7_157 ⟨Nat.le_trans (by decide) hR.1, Nat.le_trans (by decide) hR.2⟩ (by decide) rfl rfl rfl hl.1 (Nat.le_of_ble_eq_true rfl) dX7_race_13 (fun r3 I3 J3 h => ?_)
    refine f_istore_n (lv' := [(3, .int r3), (0, .ref (gad g 7 0)), (1, .int x1), (2, .int x2)]) C dX7_race_16 rfl hl (by decide) rfl (fun ls hl => ?_)
    refine f_iconst (v := (-1)) C dX7_race_17 (by decide) ?_
    refine f_istore (lv' := [(4, .int ((-1))), (3, .int r3), (0, .ref (gad g 7 0)), (1, .int x1), (2, .int x2)]) C dX7_race_18 hl (by decide) rfl (fun ls hl => ?_)
    refine f_iconst (v := 0) C dX7_race_20 (by decide) ?_
    refine f_istore (lv' := [(5, .int 0), (4, .int ((-1))), (3, .int r3), (0, .ref (gad g 7 0)), (1, .int x1), (2, .int x2)]) C dX7_race_21 hl (by decide) rfl (fun ls hl => ?_)
    obtain ⟨n, h⟩ := h
    exact t_X7_race_23 C hR n _ _ _ _ _ _ _ h ls (lv_sub hl [3, 4, 5, 2, 1, 0] rfl)
  · replace h := h.1 c2
    refine f_iconst (v := (-1)) C dX7_race_9 (by decide) ?_
    exact f_iret C h dX7_race_10

def wp_X7_shown (Q : Int32 → MI → MJ → Prop) (I : MI) (J : MJ) (x1 : Int32) (x2 : Int32) : Prop :=
  wp_X7_isHere (fun r1 I1 J1 => (r1 = 0 → Q ((-1000000)) I1 J1) ∧
  (¬ (r1 = 0) → wp_X7_isOf (fun r3 I3 J3 => (r3 = 0 → Q ((-1000000)) I3 J3) ∧
  (¬ (r3 = 0) → (x2 = 0 → vp_in x1 8 ∧ (Q (I3 22 0 (x1.toNatClampNeg)) I3 J3)) ∧
  (¬ (x2 = 0) → (x2 = 1 → vp_in x1 8 ∧ (Q (I3 23 0 (x1.toNatClampNeg)) I3 J3)) ∧
  (¬ (x2 = 1) → (x2 = 2 → vp_in x1 8 ∧ (Q (I3 24 0 (x1.toNatClampNeg)) I3 J3)) ∧
  (¬ (x2 = 2) → Q ((-1000000)) I3 J3))))) I1 J1 (I1 7 0 13) x1)) I J x1
set_option maxRecDepth 20000 in
theorem c_X7_shown {l : Launch} {g : Geo} {Q : Int32 → MI → MJ → Prop} {I : MI} {J : MJ} {x1 : Int32} {x2 : Int32} (h : wp_X7_shown Q I J x1 x2) : Ct g l yX7_shown cX7_shown 3 (some .int) 1 21 [.ref (gad g 7 0), .int x1, .int x2] I J (PI Q) := by
  refine Ct.of (by decide) ?_
  intro p e s m below meth c C
  have hR : 1 ≤ (Rm 1 21).frames ∧ 21 ≤ (Rm 1 21).locals := ⟨Nat.le_refl _, Nat.le_refl _⟩
  generalize Rm 1 21 = R at hR ⊢
  have hl := lv_entry ([.ref (gad g 7 0), .int x1, .int x2]) (n := 3) (Nat.le_of_ble_eq_true rfl)
  rw [lg_entry_eq]
  generalize (lg_sl ([.ref (gad g 7 0), .int x1, .int x2]) ++ List.replicate (3 - (lg_sl ([.ref (gad g 7 0), .int x1, .int x2])).length) Slot.unset).toArray = ls at hl ⊢
  have hl : lv_has ls 3 [(0, .ref (gad g 7 0)), (1, .int x1), (2, .int x2)] := hl
  refine f_aload_n C dX7_shown_0 rfl (lv_at hl 0 rfl) ?_
  refine f_iload_n C dX7_shown_1 rfl (lv_at hl 1 rfl) ?_
  refine f_cVi (As := [.int x1]) (rest := []) (n := 1) (T0 := TX7) (N := 15) C (c_X7_isHere h) ok_X7_isHere im_X7_isHere se_X7_isHere kw_RX7_94 ⟨Nat.le_trans (by decide) hR.1, Nat.le_trans (by decide) hR.2⟩ (by decide) rfl rfl rfl hl.1 (Nat.le_of_ble_eq_true rfl) dX7_shown_2 (fun r1 I1 J1 h => ?_)
  refine f_if_eq (tgt := 19) C dX7_shown_5 (by decide) (fun c2 => ?_) (fun c2 => ?_)
  · replace h := h.1 c2
    refine f_ldc C kc_RX7_101 dX7_shown_19 ?_
    exact f_iret C h dX7_shown_21
  · replace h := h.2 c2
    refine f_aload_n C dX7_shown_8 rfl (lv_at hl 0 rfl) ?_
    refine ge_RX7_168 C (by decide) dX7_shown_9 ?_
    refine f_iload_n C dX7_shown_12 rfl (lv_at hl 1 rfl) ?_
    refine f_cSi (As := [.int (I1 7 0 13), .int x1]) (rest := []) (n := 2) C (c_X7_isOf h) ok_X7_isOf sm_X7_isOf kw_RX7_161 ⟨Nat.le_trans (by decide) hR.1, Nat.le_trans (by decide) hR.2⟩ rfl hl.1 (Nat.le_of_ble_eq_true rfl) dX7_shown_13 (fun r3 I3 J3 h => ?_)
    refine f_if_ne (tgt := 22) C dX7_shown_16 (by decide) (fun c4 => ?_) (fun c4 => ?_)
    · replace h := h.2 c4
      refine f_iload_n C dX7_shown_22 rfl (lv_at hl 2 rfl) ?_
      by_cases c5 : x2 = 0
      · replace h := h.1 c5
        refine f_tableIn (tgt := 48) (off := 25) C dX7_shown_23 (by rw [c5]; decide) (by rw [c5]; decide) (by rw [c5]; decide) (by decide) ?_
        refine f_aload_n C dX7_shown_48 rfl (lv_at hl 0 rfl) ?_
        refine ge_RX7_69 C (by decide) dX7_shown_49 ?_
        refine f_iload_n C dX7_shown_52 rfl (lv_at hl 1 rfl) ?_
        obtain ⟨hi6, h⟩ := h
        refine al_k (n := 8) (k := x1.toNatClampNeg) C (by decide) rfl rfl hi6 dX7_shown_53 ?_
        exact f_iret C h dX7_shown_54
      replace h := h.2 c5
      by_cases c7 : x2 = 1
      · replace h := h.1 c7
        refine f_tableIn (tgt := 55) (off := 32) C dX7_shown_23 (by rw [c7]; decide) (by rw [c7]; decide) (by rw [c7]; decide) (by decide) ?_
        refine f_aload_n C dX7_shown_55 rfl (lv_at hl 0 rfl) ?_
        refine ge_RX7_72 C (by decide) dX7_shown_56 ?_
        refine f_iload_n C dX7_shown_59 rfl (lv_at hl 1 rfl) ?_
        obtain ⟨hi8, h⟩ := h
        refine al_k (n := 8) (k := x1.toNatClampNeg) C (by decide) rfl rfl hi8 dX7_shown_60 ?_
        exact f_iret C h dX7_shown_61
      replace h := h.2 c7
      by_cases c9 : x2 = 2
      · replace h := h.1 c9
        refine f_tableIn (tgt := 62) (off := 39) C dX7_shown_23 (by rw [c9]; decide) (by rw [c9]; decide) (by rw [c9]; decide) (by decide) ?_
        refine f_aload_n C dX7_shown_62 rfl (lv_at hl 0 rfl) ?_
        refine ge_RX7_75 C (by decide) dX7_shown_63 ?_
        refine f_iload_n C dX7_shown_66 rfl (lv_at hl 1 rfl) ?_
        obtain ⟨hi10, h⟩ := h
        refine al_k (n := 8) (k := x1.toNatClampNeg) C (by decide) rfl rfl hi10 dX7_shown_67 ?_
        exact f_iret C h dX7_shown_68
      replace h := h.2 c9
      refine f_tableOut (tgt := 69) C dX7_shown_23 (by have e5 := ne_toInt (z := 0) c5 (by decide); have e7 := ne_toInt (z := 1) c7 (by decide); have e9 := ne_toInt (z := 2) c9 (by decide); omega) (by decide) ?_
      refine f_ldc C kc_RX7_101 dX7_shown_69 ?_
      exact f_iret C h dX7_shown_71
    · replace h := h.1 c4
      refine f_ldc C kc_RX7_101 dX7_shown_19 ?_
      exact f_iret C h dX7_shown_21

def wp_X7_weight (Q : Int32 → MI → MJ → Prop) (I : MI) (J : MJ) (x1 : Int32) (x2 : Int32) : Prop :=
  wp_X7_canRace (fun r1 I1 J1 => (r1 = 0 → Q ((-1)) I1 J1) ∧
  (¬ (r1 = 0) → wp_X7_isHere (fun r3 I3 J3 => (r3 = 0 → Q ((-1)) I3 J3) ∧
  (¬ (r3 = 0) → wp_X7_isOf (fun r5 I5 J5 => (r5 = 0 → Q ((-1)) I5 J5) ∧
  (¬ (r5 = 0) → vp_in x1 8 ∧ (wp_X7_leastMark (fun r8 I8 J8 => Q ((I5 4 (8 * 0 + x1.toNatClampNeg) 3) - r8) I8 J8) I5 J5 x2))) I3 J3 x2 x1)) I1 J1 x1)) I J 0 x2
set_option maxRecDepth 20000 in
theorem c_X7_weight {l : Launch} {g : Geo} {Q : Int32 → MI → MJ → Prop} {I : MI} {J : MJ} {x1 : Int32} {x2 : Int32} (h : wp_X7_weight Q I J x1 x2) : Ct g l yX7_weight cX7_weight 3 (some .int) 2 44 [.ref (gad g 7 0), .int x1, .int x2] I J (PI Q) := by
  refine Ct.of (by decide) ?_
  intro p e s m below meth c C
  have hR : 2 ≤ (Rm 2 44).frames ∧ 44 ≤ (Rm 2 44).locals := ⟨Nat.le_refl _, Nat.le_refl _⟩
  generalize Rm 2 44 = R at hR ⊢
  have hl := lv_entry ([.ref (gad g 7 0), .int x1, .int x2]) (n := 3) (Nat.le_of_ble_eq_true rfl)
  rw [lg_entry_eq]
  generalize (lg_sl ([.ref (gad g 7 0), .int x1, .int x2]) ++ List.replicate (3 - (lg_sl ([.ref (gad g 7 0), .int x1, .int x2])).length) Slot.unset).toArray = ls at hl ⊢
  have hl : lv_has ls 3 [(0, .ref (gad g 7 0)), (1, .int x1), (2, .int x2)] := hl
  refine f_aload_n C dX7_weight_0 rfl (lv_at hl 0 rfl) ?_
  refine f_iconst (v := 0) C dX7_weight_1 (by decide) ?_
  refine f_iload_n C dX7_weight_2 rfl (lv_at hl 2 rfl) ?_
  refine f_cVi (As := [.int 0, .int x2]) (rest := []) (n := 2) (T0 := TX7) (N := 15) C (c_X7_canRace h) ok_X7_canRace im_X7_canRace se_X7_canRace kw_RX7_153 ⟨Nat.le_trans (by decide) hR.1, Nat.le_trans (by decide) hR.2⟩ (by decide) rfl rfl rfl hl.1 (Nat.le_of_ble_eq_true rfl) dX7_weight_3 (fun r1 I1 J1 h => ?_)
  refine f_if_eq (tgt := 25) C dX7_weight_6 (by decide) (fun c2 => ?_) (fun c2 => ?_)
  · replace h := h.1 c2
    refine f_iconst (v := (-1)) C dX7_weight_25 (by decide) ?_
    exact f_iret C h dX7_weight_26
  · replace h := h.2 c2
    refine f_aload_n C dX7_weight_9 rfl (lv_at hl 0 rfl) ?_
    refine f_iload_n C dX7_weight_10 rfl (lv_at hl 1 rfl) ?_
    refine f_cVi (As := [.int x1]) (rest := []) (n := 1) (T0 := TX7) (N := 15) C (c_X7_isHere h) ok_X7_isHere im_X7_isHere se_X7_isHere kw_RX7_94 ⟨Nat.le_trans (by decide) hR.1, Nat.le_trans (by decide) hR.2⟩ (by decide) rfl rfl rfl hl.1 (Nat.le_of_ble_eq_true rfl) dX7_weight_11 (fun r3 I3 J3 h => ?_)
    refine f_if_eq (tgt := 25) C dX7_weight_14 (by decide) (fun c4 => ?_) (fun c4 => ?_)
    · replace h := h.1 c4
      refine f_iconst (v := (-1)) C dX7_weight_25 (by decide) ?_
      exact f_iret C h dX7_weight_26
    · replace h := h.2 c4
      refine f_iload_n C dX7_weight_17 rfl (lv_at hl 2 rfl) ?_
      refine f_iload_n C dX7_weight_18 rfl (lv_at hl 1 rfl) ?_
      refine f_cSi (As := [.int x2, .int x1]) (rest := []) (n := 2) C (c_X7_isOf h) ok_X7_isOf sm_X7_isOf kw_RX7_161 ⟨Nat.le_trans (by decide) hR.1, Nat.le_trans (by decide) hR.2⟩ rfl hl.1 (Nat.le_of_ble_eq_true rfl) dX7_weight_19 (fun r5 I5 J5 h => ?_)
      refine f_if_ne (tgt := 27) C dX7_weight_22 (by decide) (fun c6 => ?_) (fun c6 => ?_)
      · replace h := h.2 c6
        refine f_aload_n C dX7_weight_27 rfl (lv_at hl 0 rfl) ?_
        refine ge_RX7_10 C (by decide) dX7_weight_28 ?_
        refine ge_RX7_86 C (by decide) dX7_weight_31 ?_
        refine f_iload_n C dX7_weight_34 rfl (lv_at hl 1 rfl) ?_
        obtain ⟨hi7, h⟩ := h
        refine f_aldR C (by decide) hi7 dX7_weight_35 ?_
        refine ge_RX7_112 C (rn_lt (by decide) hi7) dX7_weight_36 ?_
        refine f_aload_n C dX7_weight_39 rfl (lv_at hl 0 rfl) ?_
        refine f_iload_n C dX7_weight_40 rfl (lv_at hl 2 rfl) ?_
        refine f_cVi (As := [.int x2]) (rest := [.int (I5 4 (8 * 0 + x1.toNatClampNeg) 3)]) (n := 1) (T0 := TX7) (N := 15) C (c_X7_leastMark h) ok_X7_leastMark im_X7_leastMark se_X7_leastMark kw_RX7_157 ⟨Nat.le_trans (by decide) hR.1, Nat.le_trans (by decide) hR.2⟩ (by decide) rfl rfl rfl hl.1 (Nat.le_of_ble_eq_true rfl) dX7_weight_41 (fun r8 I8 J8 h => ?_)
        refine f_isub C dX7_weight_44 ?_
        exact f_iret C h dX7_weight_45
      · replace h := h.1 c6
        refine f_iconst (v := (-1)) C dX7_weight_25 (by decide) ?_
        exact f_iret C h dX7_weight_26

def wp_X7_canAsk (Q : Int32 → MI → MJ → Prop) (I : MI) (J : MJ) (x1 : Int32) (x2 : Int32) (x3 : Int32) : Prop :=
  wp_X7_canRace (fun r1 I1 J1 => (r1 = 0 → Q 0 I1 J1) ∧
  (¬ (r1 = 0) → (x3 = ((-1)) → Q 1 I1 J1) ∧
  (¬ (x3 = ((-1))) → wp_X7_isHere (fun r4 I4 J4 => (r4 = 0 → Q 0 I4 J4) ∧
  (¬ (r4 = 0) → wp_X7_isOf (fun r6 I6 J6 => (r6 = 0 → Q 0 I6 J6) ∧
  (¬ (r6 = 0) → Q 1 I6 J6)) I4 J4 x2 x3)) I1 J1 x3))) I J x1 x2
set_option maxRecDepth 20000 in
theorem c_X7_canAsk {l : Launch} {g : Geo} {Q : Int32 → MI → MJ → Prop} {I : MI} {J : MJ} {x1 : Int32} {x2 : Int32} {x3 : Int32} (h : wp_X7_canAsk Q I J x1 x2 x3) : Ct g l yX7_canAsk cX7_canAsk 4 (some .boolean) 2 44 [.ref (gad g 7 0), .int x1, .int x2, .int x3] I J (PI Q) := by
  refine Ct.of (by decide) ?_
  intro p e s m below meth c C
  have hR : 2 ≤ (Rm 2 44).frames ∧ 44 ≤ (Rm 2 44).locals := ⟨Nat.le_refl _, Nat.le_refl _⟩
  generalize Rm 2 44 = R at hR ⊢
  have hl := lv_entry ([.ref (gad g 7 0), .int x1, .int x2, .int x3]) (n := 4) (Nat.le_of_ble_eq_true rfl)
  rw [lg_entry_eq]
  generalize (lg_sl ([.ref (gad g 7 0), .int x1, .int x2, .int x3]) ++ List.replicate (4 - (lg_sl ([.ref (gad g 7 0), .int x1, .int x2, .int x3])).length) Slot.unset).toArray = ls at hl ⊢
  have hl : lv_has ls 4 [(0, .ref (gad g 7 0)), (1, .int x1), (2, .int x2), (3, .int x3)] := hl
  refine f_aload_n C dX7_canAsk_0 rfl (lv_at hl 0 rfl) ?_
  refine f_iload_n C dX7_canAsk_1 rfl (lv_at hl 1 rfl) ?_
  refine f_iload_n C dX7_canAsk_2 rfl (lv_at hl 2 rfl) ?_
  refine f_cVi (As := [.int x1, .int x2]) (rest := []) (n := 2) (T0 := TX7) (N := 15) C (c_X7_canRace h) ok_X7_canRace im_X7_canRace se_X7_canRace kw_RX7_153 ⟨Nat.le_trans (by decide) hR.1, Nat.le_trans (by decide) hR.2⟩ (by decide) rfl rfl rfl hl.1 (Nat.le_of_ble_eq_true rfl) dX7_canAsk_3 (fun r1 I1 J1 h => ?_)
  refine f_if_eq (tgt := 34) C dX7_canAsk_6 (by decide) (fun c2 => ?_) (fun c2 => ?_)
  · replace h := h.1 c2
    refine f_iconst (v := 0) C dX7_canAsk_34 (by decide) ?_
    exact f_zret C (Or.inl rfl) h dX7_canAsk_35
  · replace h := h.2 c2
    refine f_iload_n C dX7_canAsk_9 rfl (lv_at hl 3 rfl) ?_
    refine f_iconst (v := (-1)) C dX7_canAsk_10 (by decide) ?_
    refine f_icmp_eq (tgt := 30) C dX7_canAsk_11 (by decide) (fun c3 => ?_) (fun c3 => ?_)
    · replace h := h.1 c3
      refine f_iconst (v := 1) C dX7_canAsk_30 (by decide) ?_
      refine f_goto (tgt := 35) C dX7_canAsk_31 (by decide) ?_
      exact f_zret C (Or.inr rfl) h dX7_canAsk_35
    · replace h := h.2 c3
      refine f_aload_n C dX7_canAsk_14 rfl (lv_at hl 0 rfl) ?_
      refine f_iload_n C dX7_canAsk_15 rfl (lv_at hl 3 rfl) ?_
      refine f_cVi (As := [.int x3]) (rest := []) (n := 1) (T0 := TX7) (N := 15) C (c_X7_isHere h) ok_X7_isHere im_X7_isHere se_X7_isHere kw_RX7_94 ⟨Nat.le_trans (by decide) hR.1, Nat.le_trans (by decide) hR.2⟩ (by decide) rfl rfl rfl hl.1 (Nat.le_of_ble_eq_true rfl) dX7_canAsk_16 (fun r4 I4 J4 h => ?_)
      refine f_if_eq (tgt := 34) C dX7_canAsk_19 (by decide) (fun c5 => ?_) (fun c5 => ?_)
      · replace h := h.1 c5
        refine f_iconst (v := 0) C dX7_canAsk_34 (by decide) ?_
        exact f_zret C (Or.inl rfl) h dX7_canAsk_35
      · replace h := h.2 c5
        refine f_iload_n C dX7_canAsk_22 rfl (lv_at hl 2 rfl) ?_
        refine f_iload_n C dX7_canAsk_23 rfl (lv_at hl 3 rfl) ?_
        refine f_cSi (As := [.int x2, .int x3]) (rest := []) (n := 2) C (c_X7_isOf h) ok_X7_isOf sm_X7_isOf kw_RX7_161 ⟨Nat.le_trans (by decide) hR.1, Nat.le_trans (by decide) hR.2⟩ rfl hl.1 (Nat.le_of_ble_eq_true rfl) dX7_canAsk_24 (fun r6 I6 J6 h => ?_)
        refine f_if_eq (tgt := 34) C dX7_canAsk_27 (by decide) (fun c7 => ?_) (fun c7 => ?_)
        · replace h := h.1 c7
          refine f_iconst (v := 0) C dX7_canAsk_34 (by decide) ?_
          exact f_zret C (Or.inl rfl) h dX7_canAsk_35
        · replace h := h.2 c7
          refine f_iconst (v := 1) C dX7_canAsk_30 (by decide) ?_
          refine f_goto (tgt := 35) C dX7_canAsk_31 (by decide) ?_
          exact f_zret C (Or.inr rfl) h dX7_canAsk_35

def B_X7_enter_22 (Q : MI → MJ → Prop) (C22 : MI → MJ → Int32 → Int32 → Int32 → Int32 → Prop) (I : MI) (J : MJ) (x1 : Int32) (x2 : Int32) (x3 : Int32) (x4 : Int32) : Prop :=
  ((I 6 0 1) ≤ x4 → Q I J) ∧
  (¬ ((I 6 0 1) ≤ x4) → wp_X7_isOf (fun r4 I4 J4 => (r4 = 0 → C22 I4 J4 x1 x2 x3 (x4 + 1)) ∧
  (¬ (r4 = 0) → vp_in x4 8 ∧ (wp_X7_bareLevel (fun r7 I7 J7 => wp_X0_add (fun I8 J8 => C22 I8 J8 x1 x2 x3 (x4 + 1)) I7 J7 r7 ((I7 4 (8 * 0 + x4.toNatClampNeg) 3) - x3)) I4 J4 (8 * 0 + x4.toNatClampNeg) x1))) I J x2 x4)
set_option maxRecDepth 20000 in
theorem b_X7_enter_22 {p : Program} {l : Launch} {e : Env} {R : Room} {s : State} {m : MethodId} {args : Array Value} {below : List Frame} {meth : Method} {c : Code} {g : Geo} (C : Cx g p s m args meth c cX7_enter 6 RX7 none) (hR : 2 ≤ R.frames ∧ 44 ≤ R.locals) {Q : MI → MJ → Prop} {C22 : MI → MJ → Int32 → Int32 → Int32 → Int32 → Prop} (hC22 : ∀ (I : MI) (J : MJ) (x1 : Int32) (x2 : Int32) (x3 : Int32) (x4 : Int32), C22 I J x1 x2 x3 x4 → ∀ ls : Array Slot, lv_has ls 6 [(0, .ref (gad g 7 0)), (1, .int x1), (2, .int x2), (3, .int x3), (4, .int x4)] → Wf p l e R s m args below meth c (MQ below (Qg g (PV Q)) args s 0 0 (gA g)) g I J (F0 m 22 ls [])) {I : MI} {J : MJ} {x1 : Int32} {x2 : Int32} {x3 : Int32} {x4 : Int32} (h : B_X7_enter_22 Q C22 I J x1 x2 x3 x4) (ls : Array Slot) (hl : lv_has ls 6 [(0, .ref (gad g 7 0)), (1, .int x1), (2, .int x2), (3, .int x3), (4, .int x4)]) : Wf p l e R s m args below meth c (MQ below (Qg g (PV Q)) args s 0 0 (gA g)) g I J (F0 m 22 ls []) := by
  refine f_iload C dX7_enter_22 (lv_at hl 4 rfl) ?_
  refine f_aload_n C dX7_enter_24 rfl (lv_at hl 0 rfl) ?_
  refine ge_RX7_10 C (by decide) dX7_enter_25 ?_
  refine ge_RX7_82 C (by decide) dX7_enter_28 ?_
  refine f_icmp_ge (tgt := 82) C dX7_enter_31 (by decide) (fun c3 => ?_) (fun c3 => ?_)
  · replace h := h.1 c3
    exact f_vret C h dX7_enter_82
  · replace h := h.2 c3
    refine f_iload_n C dX7_enter_34 rfl (lv_at hl 2 rfl) ?_
    refine f_iload C dX7_enter_35 (lv_at hl 4 rfl) ?_
    refine f_cSi (As := [.int x2, .int x4]) (rest := []) (n := 2) C (c_X7_isOf h) ok_X7_isOf sm_X7_isOf kw_RX7_161 ⟨Nat.le_trans (by decide) hR.1, Nat.le_trans (by decide) hR.2⟩ rfl hl.1 (Nat.le_of_ble_eq_true rfl) dX7_enter_37 (fun r4 I4 J4 h => ?_)
    refine f_if_eq (tgt := 76) C dX7_enter_40 (by decide) (fun c5 => ?_) (fun c5 => ?_)
    · replace h := h.1 c5
      refine f_iinc (v := x4 + 1) (lv' := [(4, .int (x4 + 1)), (0, .ref (gad g 7 0)), (1, .int x1), (2, .int x2), (3, .int x3)]) C dX7_enter_76 hl (k := 4) rfl rfl (by decide) rfl (fun ls hl => ?_)
      refine f_goto (tgt := 22) C dX7_enter_79 (by decide) ?_
      exact hC22 _ _ _ _ _ _ h ls (lv_sub hl [1, 2, 3, 4, 0] rfl)
    · replace h := h.2 c5
      refine f_aload_n C dX7_enter_43 rfl (lv_at hl 0 rfl) ?_
      refine ge_RX7_10 C (by decide) dX7_enter_44 ?_
      refine ge_RX7_86 C (by decide) dX7_enter_47 ?_
      refine f_iload C dX7_enter_50 (lv_at hl 4 rfl) ?_
      obtain ⟨hi6, h⟩ := h
      refine f_aldR C (by decide) hi6 dX7_enter_52 ?_
      refine f_astore (lv' := [(5, .ref (gad g 4 (8 * 0 + x4.toNatClampNeg))), (0, .ref (gad g 7 0)), (1, .int x1), (2, .int x2), (3, .int x3), (4, .int x4)]) C dX7_enter_53 hl (by decide) rfl (fun ls hl => ?_)
      refine f_aload_n C dX7_enter_55 rfl (lv_at hl 1 rfl) ?_
      refine ge_RX7_51 C (by decide) dX7_enter_56 ?_
      refine f_aload_n C dX7_enter_59 rfl (lv_at hl 1 rfl) ?_
      refine f_aload C dX7_enter_60 (lv_at hl 0 rfl) ?_
      refine f_iload_n C dX7_enter_62 rfl (lv_at hl 2 rfl) ?_
      refine f_cVi (As := [.ref (gad g 4 (8 * 0 + x4.toNatClampNeg)), .int x1]) (rest := [.ref (gad g 0 0)]) (n := 2) (T0 := TX7) (N := 15) C (c_X7_bareLevel (rn_lt (by decide) hi6) h) ok_X7_bareLevel im_X7_bareLevel se_X7_bareLevel kw_RX7_288 ⟨Nat.le_trans (by decide) hR.1, Nat.le_trans (by decide) hR.2⟩ (by decide) rfl rfl rfl hl.1 (Nat.le_of_ble_eq_true rfl) dX7_enter_63 (fun r7 I7 J7 h => ?_)
      refine f_aload C dX7_enter_66 (lv_at hl 0 rfl) ?_
      refine ge_RX7_112 C (rn_lt (by decide) hi6) dX7_enter_68 ?_
      refine f_iload_n C dX7_enter_71 rfl (lv_at hl 4 rfl) ?_
      refine f_isub C dX7_enter_72 ?_
      refine f_cVv (As := [.int r7, .int ((I7 4 (8 * 0 + x4.toNatClampNeg) 3) - x3)]) (rest := []) (n := 2) (T0 := TX0) (N := 6) C (c_X0_add h) ok_X0_add im_X0_add se_X0_add kw_RX7_293 ⟨Nat.le_trans (by decide) hR.1, Nat.le_trans (by decide) hR.2⟩ (by decide) rfl rfl rfl hl.1 (Nat.le_of_ble_eq_true rfl) dX7_enter_73 (fun I8 J8 h => ?_)
      refine f_iinc (v := x4 + 1) (lv' := [(4, .int (x4 + 1)), (5, .ref (gad g 4 (8 * 0 + x4.toNatClampNeg))), (0, .ref (gad g 7 0)), (1, .int x1), (2, .int x2), (3, .int x3)]) C dX7_enter_76 hl (k := 5) rfl rfl (by decide) rfl (fun ls hl => ?_)
      refine f_goto (tgt := 22) C dX7_enter_79 (by decide) ?_
      exact hC22 _ _ _ _ _ _ h ls (lv_sub hl [2, 3, 4, 5, 0] rfl)

def L_X7_enter_22 (Q : MI → MJ → Prop) : Nat → MI → MJ → Int32 → Int32 → Int32 → Int32 → Prop
  | 0 => fun _ _ _ _ _ _ => False
  | n + 1 => fun I J x1 x2 x3 x4 => B_X7_enter_22 Q (L_X7_enter_22 Q n) I J x1 x2 x3 x4
theorem t_X7_enter_22 {p : Program} {l : Launch} {e : Env} {R : Room} {s : State} {m : MethodId} {args : Array Value} {below : List Frame} {meth : Method} {c : Code} {g : Geo} (C : Cx g p s m args meth c cX7_enter 6 RX7 none) (hR : 2 ≤ R.frames ∧ 44 ≤ R.locals) {Q : MI → MJ → Prop} : ∀ (n : Nat), ∀ (I : MI) (J : MJ) (x1 : Int32) (x2 : Int32) (x3 : Int32) (x4 : Int32), L_X7_enter_22 Q n I J x1 x2 x3 x4 → ∀ ls : Array Slot, lv_has ls 6 [(0, .ref (gad g 7 0)), (1, .int x1), (2, .int x2), (3, .int x3), (4, .int x4)] → Wf p l e R s m args below meth c (MQ below (Qg g (PV Q)) args s 0 0 (gA g)) g I J (F0 m 22 ls []) := by
  intro n
  induction n with
  | zero => intro I J x1 x2 x3 x4 h; exact h.elim
  | succ n ih => intro I J x1 x2 x3 x4 h ls hl; exact b_X7_enter_22 C hR ih h ls hl
def wp_X7_enter (Q : MI → MJ → Prop) (I : MI) (J : MJ) (x1 : Int32) (x2 : Int32) : Prop :=
  wp_X7_leastMark (fun r1 I1 J1 => wp_X0_begin (fun I2 J2 => ∃ n : Nat, L_X7_enter_22 Q n I2 J2 x1 x2 r1 0) I1 J1 (I1 21 0 0)) I J x2
set_option maxRecDepth 20000 in
theorem c_X7_enter {l : Launch} {g : Geo} {Q : MI → MJ → Prop} {I : MI} {J : MJ} {x1 : Int32} {x2 : Int32} (h : wp_X7_enter Q I J x1 x2) : Ct g l yX7_enter cX7_enter 6 none 2 44 [.ref (gad g 7 0), .int x1, .int x2] I J (PV Q) := by
  refine Ct.of (by decide) ?_
  intro p e s m below meth c C
  have hR : 2 ≤ (Rm 2 44).frames ∧ 44 ≤ (Rm 2 44).locals := ⟨Nat.le_refl _, Nat.le_refl _⟩
  generalize Rm 2 44 = R at hR ⊢
  have hl := lv_entry ([.ref (gad g 7 0), .int x1, .int x2]) (n := 6) (Nat.le_of_ble_eq_true rfl)
  rw [lg_entry_eq]
  generalize (lg_sl ([.ref (gad g 7 0), .int x1, .int x2]) ++ List.replicate (6 - (lg_sl ([.ref (gad g 7 0), .int x1, .int x2])).length) Slot.unset).toArray = ls at hl ⊢
  have hl : lv_has ls 6 [(0, .ref (gad g 7 0)), (1, .int x1), (2, .int x2)] := hl
  refine f_aload_n C dX7_enter_0 rfl (lv_at hl 0 rfl) ?_
  refine f_iload_n C dX7_enter_1 rfl (lv_at hl 2 rfl) ?_
  refine f_cVi (As := [.int x2]) (rest := []) (n := 1) (T0 := TX7) (N := 15) C (c_X7_leastMark h) ok_X7_leastMark im_X7_leastMark se_X7_leastMark kw_RX7_157 ⟨Nat.le_trans (by decide) hR.1, Nat.le_trans (by decide) hR.2⟩ (by decide) rfl rfl rfl hl.1 (Nat.le_of_ble_eq_true rfl) dX7_enter_2 (fun r1 I1 J1 h => ?_)
  refine f_istore_n (lv' := [(3, .int r1), (0, .ref (gad g 7 0)), (1, .int x1), (2, .int x2)]) C dX7_enter_5 rfl hl (by decide) rfl (fun ls hl => ?_)
  refine f_aload_n C dX7_enter_6 rfl (lv_at hl 1 rfl) ?_
  refine ge_RX7_51 C (by decide) dX7_enter_7 ?_
  refine f_aload_n C dX7_enter_10 rfl (lv_at hl 1 rfl) ?_
  refine ge_RX7_20 C (by decide) dX7_enter_11 ?_
  refine f_iconst (v := 0) C dX7_enter_14 (by decide) ?_
  refine al_k (n := 3) (k := 0) C (by decide) rfl (by decide) (vin_k (by decide)) dX7_enter_15 ?_
  refine f_cVv (As := [.int (I1 21 0 0)]) (rest := []) (n := 1) (T0 := TX0) (N := 6) C (c_X0_begin h) ok_X0_begin im_X0_begin se_X0_begin kw_RX7_292 ⟨Nat.le_trans (by decide) hR.1, Nat.le_trans (by decide) hR.2⟩ (by decide) rfl rfl rfl hl.1 (Nat.le_of_ble_eq_true rfl) dX7_enter_16 (fun I2 J2 h => ?_)
  refine f_iconst (v := 0) C dX7_enter_19 (by decide) ?_
  refine f_istore (lv' := [(4, .int 0), (3, .int r1), (0, .ref (gad g 7 0)), (1, .int x1), (2, .int x2)]) C dX7_enter_20 hl (by decide) rfl (fun ls hl => ?_)
  obtain ⟨n, h⟩ := h
  exact t_X7_enter_22 C hR n _ _ _ _ _ _ h ls (lv_sub hl [2, 3, 4, 1, 0] rfl)

def wp_X7_placeIn (Q : Int32 → MI → MJ → Prop) (I : MI) (J : MJ) (x0 : Int32) (x1 : Int32) : Prop :=
  wp_J6_bitCount_0f7a4 (fun r1 I1 J1 => Q r1 I1 J1) I J (x0 &&& (((1 : Int32) <<< (x1 &&& 31)) - 1))
set_option maxRecDepth 20000 in
theorem c_X7_placeIn {l : Launch} {g : Geo} {Q : Int32 → MI → MJ → Prop} {I : MI} {J : MJ} {x0 : Int32} {x1 : Int32} (h : wp_X7_placeIn Q I J x0 x1) : Ct g l yX7_placeIn cX7_placeIn 2 (some .int) 1 20 [.int x0, .int x1] I J (PI Q) := by
  refine Ct.of (by decide) ?_
  intro p e s m below meth c C
  have hR : 1 ≤ (Rm 1 20).frames ∧ 20 ≤ (Rm 1 20).locals := ⟨Nat.le_refl _, Nat.le_refl _⟩
  generalize Rm 1 20 = R at hR ⊢
  have hl := lv_entry ([.int x0, .int x1]) (n := 2) (Nat.le_of_ble_eq_true rfl)
  rw [lg_entry_eq]
  generalize (lg_sl ([.int x0, .int x1]) ++ List.replicate (2 - (lg_sl ([.int x0, .int x1])).length) Slot.unset).toArray = ls at hl ⊢
  have hl : lv_has ls 2 [(0, .int x0), (1, .int x1)] := hl
  refine f_iload_n C dX7_placeIn_0 rfl (lv_at hl 0 rfl) ?_
  refine f_iconst (v := 1) C dX7_placeIn_1 (by decide) ?_
  refine f_iload_n C dX7_placeIn_2 rfl (lv_at hl 1 rfl) ?_
  refine f_ishl C dX7_placeIn_3 ?_
  refine f_iconst (v := 1) C dX7_placeIn_4 (by decide) ?_
  refine f_isub C dX7_placeIn_5 ?_
  refine f_iand C dX7_placeIn_6 ?_
  refine f_cSi (As := [.int (x0 &&& (((1 : Int32) <<< (x1 &&& 31)) - 1))]) (rest := []) (n := 1) C (c_J6_bitCount_0f7a4 h) ok_J6_bitCount_0f7a4 sm_J6_bitCount_0f7a4 kw_RX7_200 ⟨Nat.le_trans (by decide) hR.1, Nat.le_trans (by decide) hR.2⟩ rfl hl.1 (Nat.le_of_ble_eq_true rfl) dX7_placeIn_7 (fun r1 I1 J1 h => ?_)
  exact f_iret C h dX7_placeIn_10

def wp_X7_odds (Q : Int64 → MI → MJ → Prop) (I : MI) (J : MJ) (x1 : Int32) (x2 : Int32) (x3 : Int32) : Prop :=
  wp_X7_canAsk (fun r1 I1 J1 => (r1 = 0 → Q ((-1)) I1 J1) ∧
  (¬ (r1 = 0) → wp_X7_enter (fun I3 J3 => (x3 = ((-1)) → wp_X0_allRows (fun r7 I7 J7 => Q r7 I7 J7) I3 J3) ∧
  (¬ (x3 = ((-1))) → wp_X7_placeIn (fun r5 I5 J5 => wp_X0_rowsFirst (fun r6 I6 J6 => Q r6 I6 J6) I5 J5 r5) I3 J3 x2 x3)) I1 J1 x1 x2)) I J x1 x2 x3
set_option maxRecDepth 20000 in
theorem c_X7_odds {l : Launch} {g : Geo} {Q : Int64 → MI → MJ → Prop} {I : MI} {J : MJ} {x1 : Int32} {x2 : Int32} {x3 : Int32} (h : wp_X7_odds Q I J x1 x2 x3) : Ct g l yX7_odds cX7_odds 4 (some .long) 3 74 [.ref (gad g 7 0), .int x1, .int x2, .int x3] I J (PL Q) := by
  refine Ct.of (by decide) ?_
  intro p e s m below meth c C
  have hR : 3 ≤ (Rm 3 74).frames ∧ 74 ≤ (Rm 3 74).locals := ⟨Nat.le_refl _, Nat.le_refl _⟩
  generalize Rm 3 74 = R at hR ⊢
  have hl := lv_entry ([.ref (gad g 7 0), .int x1, .int x2, .int x3]) (n := 4) (Nat.le_of_ble_eq_true rfl)
  rw [lg_entry_eq]
  generalize (lg_sl ([.ref (gad g 7 0), .int x1, .int x2, .int x3]) ++ List.replicate (4 - (lg_sl ([.ref (gad g 7 0), .int x1, .int x2, .int x3])).length) Slot.unset).toArray = ls at hl ⊢
  have hl : lv_has ls 4 [(0, .ref (gad g 7 0)), (1, .int x1), (2, .int x2), (3, .int x3)] := hl
  refine f_aload_n C dX7_odds_0 rfl (lv_at hl 0 rfl) ?_
  refine f_iload_n C dX7_odds_1 rfl (lv_at hl 1 rfl) ?_
  refine f_iload_n C dX7_odds_2 rfl (lv_at hl 2 rfl) ?_
  refine f_iload_n C dX7_odds_3 rfl (lv_at hl 3 rfl) ?_
  refine f_cVi (As := [.int x1, .int x2, .int x3]) (rest := []) (n := 3) (T0 := TX7) (N := 15) C (c_X7_canAsk h) ok_X7_canAsk im_X7_canAsk se_X7_canAsk kw_RX7_174 ⟨Nat.le_trans (by decide) hR.1, Nat.le_trans (by decide) hR.2⟩ (by decide) rfl rfl rfl hl.1 (Nat.le_of_ble_eq_true rfl) dX7_odds_4 (fun r1 I1 J1 h => ?_)
  refine f_if_ne (tgt := 14) C dX7_odds_7 (by decide) (fun c2 => ?_) (fun c2 => ?_)
  · replace h := h.2 c2
    refine f_aload_n C dX7_odds_14 rfl (lv_at hl 0 rfl) ?_
    refine f_iload_n C dX7_odds_15 rfl (lv_at hl 1 rfl) ?_
    refine f_iload_n C dX7_odds_16 rfl (lv_at hl 2 rfl) ?_
    refine f_cVv (As := [.int x1, .int x2]) (rest := []) (n := 2) (T0 := TX7) (N := 15) C (c_X7_enter h) ok_X7_enter im_X7_enter se_X7_enter kw_RX7_179 ⟨Nat.le_trans (by decide) hR.1, Nat.le_trans (by decide) hR.2⟩ (by decide) rfl rfl rfl hl.1 (Nat.le_of_ble_eq_true rfl) dX7_odds_17 (fun I3 J3 h => ?_)
    refine f_iload_n C dX7_odds_20 rfl (lv_at hl 3 rfl) ?_
    refine f_iconst (v := (-1)) C dX7_odds_21 (by decide) ?_
    refine f_icmp_ne (tgt := 35) C dX7_odds_22 (by decide) (fun c4 => ?_) (fun c4 => ?_)
    · replace h := h.2 c4
      refine f_aload_n C dX7_odds_35 rfl (lv_at hl 0 rfl) ?_
      refine ge_RX7_51 C (by decide) dX7_odds_36 ?_
      refine f_iload_n C dX7_odds_39 rfl (lv_at hl 2 rfl) ?_
      refine f_iload_n C dX7_odds_40 rfl (lv_at hl 3 rfl) ?_
      refine f_cSi (As := [.int x2, .int x3]) (rest := [.ref (gad g 0 0)]) (n := 2) C (c_X7_placeIn h) ok_X7_placeIn sm_X7_placeIn kw_RX7_187 ⟨Nat.le_trans (by decide) hR.1, Nat.le_trans (by decide) hR.2⟩ rfl hl.1 (Nat.le_of_ble_eq_true rfl) dX7_odds_41 (fun r5 I5 J5 h => ?_)
      refine f_cVl (As := [.int r5]) (rest := []) (n := 1) (T0 := TX0) (N := 6) C (c_X0_rowsFirst h) ok_X0_rowsFirst im_X0_rowsFirst se_X0_rowsFirst kw_RX7_190 ⟨Nat.le_trans (by decide) hR.1, Nat.le_trans (by decide) hR.2⟩ (by decide) rfl rfl rfl hl.1 (Nat.le_of_ble_eq_true rfl) dX7_odds_44 (fun r6 I6 J6 h => ?_)
      exact f_lret C h dX7_odds_47
    · replace h := h.1 c4
      refine f_aload_n C dX7_odds_25 rfl (lv_at hl 0 rfl) ?_
      refine ge_RX7_51 C (by decide) dX7_odds_26 ?_
      refine f_cVl (As := []) (rest := []) (n := 0) (T0 := TX0) (N := 6) C (c_X0_allRows h) ok_X0_allRows im_X0_allRows se_X0_allRows kw_RX7_183 ⟨Nat.le_trans (by decide) hR.1, Nat.le_trans (by decide) hR.2⟩ (by decide) rfl rfl rfl hl.1 (Nat.le_of_ble_eq_true rfl) dX7_odds_29 (fun r7 I7 J7 h => ?_)
      refine f_goto (tgt := 47) C dX7_odds_32 (by decide) ?_
      exact f_lret C h dX7_odds_47
  · replace h := h.1 c2
    refine f_ldc2 C kc_RX7_177 dX7_odds_10 ?_
    exact f_lret C h dX7_odds_13

def wp_X7_close (Q : Int64 → MI → MJ → Prop) (I : MI) (J : MJ) (x1 : Int32) (x2 : Int32) : Prop :=
  wp_X7_canRace (fun r1 I1 J1 => (r1 = 0 → Q ((-1)) I1 J1) ∧
  (¬ (r1 = 0) → wp_X7_enter (fun I3 J3 => wp_X0_distance (fun r4 I4 J4 => Q r4 I4 J4) I3 J3 1152921504606846976) I1 J1 x1 x2)) I J x1 x2
set_option maxRecDepth 20000 in
theorem c_X7_close {l : Launch} {g : Geo} {Q : Int64 → MI → MJ → Prop} {I : MI} {J : MJ} {x1 : Int32} {x2 : Int32} (h : wp_X7_close Q I J x1 x2) : Ct g l yX7_close cX7_close 3 (some .long) 4 105 [.ref (gad g 7 0), .int x1, .int x2] I J (PL Q) := by
  refine Ct.of (by decide) ?_
  intro p e s m below meth c C
  have hR : 4 ≤ (Rm 4 105).frames ∧ 105 ≤ (Rm 4 105).locals := ⟨Nat.le_refl _, Nat.le_refl _⟩
  generalize Rm 4 105 = R at hR ⊢
  have hl := lv_entry ([.ref (gad g 7 0), .int x1, .int x2]) (n := 3) (Nat.le_of_ble_eq_true rfl)
  rw [lg_entry_eq]
  generalize (lg_sl ([.ref (gad g 7 0), .int x1, .int x2]) ++ List.replicate (3 - (lg_sl ([.ref (gad g 7 0), .int x1, .int x2])).length) Slot.unset).toArray = ls at hl ⊢
  have hl : lv_has ls 3 [(0, .ref (gad g 7 0)), (1, .int x1), (2, .int x2)] := hl
  refine f_aload_n C dX7_close_0 rfl (lv_at hl 0 rfl) ?_
  refine f_iload_n C dX7_close_1 rfl (lv_at hl 1 rfl) ?_
  refine f_iload_n C dX7_close_2 rfl (lv_at hl 2 rfl) ?_
  refine f_cVi (As := [.int x1, .int x2]) (rest := []) (n := 2) (T0 := TX7) (N := 15) C (c_X7_canRace h) ok_X7_canRace im_X7_canRace se_X7_canRace kw_RX7_153 ⟨Nat.le_trans (by decide) hR.1, Nat.le_trans (by decide) hR.2⟩ (by decide) rfl rfl rfl hl.1 (Nat.le_of_ble_eq_true rfl) dX7_close_3 (fun r1 I1 J1 h => ?_)
  refine f_if_ne (tgt := 13) C dX7_close_6 (by decide) (fun c2 => ?_) (fun c2 => ?_)
  · replace h := h.2 c2
    refine f_aload_n C dX7_close_13 rfl (lv_at hl 0 rfl) ?_
    refine f_iload_n C dX7_close_14 rfl (lv_at hl 1 rfl) ?_
    refine f_iload_n C dX7_close_15 rfl (lv_at hl 2 rfl) ?_
    refine f_cVv (As := [.int x1, .int x2]) (rest := []) (n := 2) (T0 := TX7) (N := 15) C (c_X7_enter h) ok_X7_enter im_X7_enter se_X7_enter kw_RX7_179 ⟨Nat.le_trans (by decide) hR.1, Nat.le_trans (by decide) hR.2⟩ (by decide) rfl rfl rfl hl.1 (Nat.le_of_ble_eq_true rfl) dX7_close_16 (fun I3 J3 h => ?_)
    refine f_aload_n C dX7_close_19 rfl (lv_at hl 0 rfl) ?_
    refine ge_RX7_51 C (by decide) dX7_close_20 ?_
    refine f_ldc2 C kc_RX7_194 dX7_close_23 ?_
    refine f_cVl (As := [.long 1152921504606846976]) (rest := []) (n := 1) (T0 := TX0) (N := 6) C (c_X0_distance h) ok_X0_distance im_X0_distance se_X0_distance kw_RX7_196 ⟨Nat.le_trans (by decide) hR.1, Nat.le_trans (by decide) hR.2⟩ (by decide) rfl rfl rfl hl.1 (Nat.le_of_ble_eq_true rfl) dX7_close_26 (fun r4 I4 J4 h => ?_)
    exact f_lret C h dX7_close_29
  · replace h := h.1 c2
    refine f_ldc2 C kc_RX7_177 dX7_close_9 ?_
    exact f_lret C h dX7_close_12

def wp_X7_even (Q : Int64 → MI → MJ → Prop) (I : MI) (J : MJ) (x1 : Int32) (x2 : Int32) (x3 : Int32) : Prop :=
  wp_X7_canAsk (fun r1 I1 J1 => (r1 = 0 → Q ((-1)) I1 J1) ∧
  (¬ (r1 = 0) → wp_J6_bitCount_0f7a4 (fun r3 I3 J3 => (r3 ≤ 3 → wp_X7_enter (fun I5 J5 => wp_X0_seekEven (fun I6 J6 => (x3 = ((-1)) → Q (J6 0 0 3) I6 J6) ∧
  (¬ (x3 = ((-1))) → wp_X7_placeIn (fun r8 I8 J8 => vp_in r8 3 ∧ (Q ((I8 11 0 (r8.toNatClampNeg)).toInt64) I8 J8)) I6 J6 x2 x3)) I5 J5) I3 J3 x1 x2) ∧
  (¬ (r3 ≤ 3) → Q ((-2)) I3 J3)) I1 J1 x2)) I J x1 x2 x3
set_option maxRecDepth 20000 in
theorem c_X7_even {l : Launch} {g : Geo} {Q : Int64 → MI → MJ → Prop} {I : MI} {J : MJ} {x1 : Int32} {x2 : Int32} {x3 : Int32} (h : wp_X7_even Q I J x1 x2 x3) : Ct g l yX7_even cX7_even 4 (some .long) 6 154 [.ref (gad g 7 0), .int x1, .int x2, .int x3] I J (PL Q) := by
  refine Ct.of (by decide) ?_
  intro p e s m below meth c C
  have hR : 6 ≤ (Rm 6 154).frames ∧ 154 ≤ (Rm 6 154).locals := ⟨Nat.le_refl _, Nat.le_refl _⟩
  generalize Rm 6 154 = R at hR ⊢
  have hl := lv_entry ([.ref (gad g 7 0), .int x1, .int x2, .int x3]) (n := 4) (Nat.le_of_ble_eq_true rfl)
  rw [lg_entry_eq]
  generalize (lg_sl ([.ref (gad g 7 0), .int x1, .int x2, .int x3]) ++ List.replicate (4 - (lg_sl ([.ref (gad g 7 0), .int x1, .int x2, .int x3])).length) Slot.unset).toArray = ls at hl ⊢
  have hl : lv_has ls 4 [(0, .ref (gad g 7 0)), (1, .int x1), (2, .int x2), (3, .int x3)] := hl
  refine f_aload_n C dX7_even_0 rfl (lv_at hl 0 rfl) ?_
  refine f_iload_n C dX7_even_1 rfl (lv_at hl 1 rfl) ?_
  refine f_iload_n C dX7_even_2 rfl (lv_at hl 2 rfl) ?_
  refine f_iload_n C dX7_even_3 rfl (lv_at hl 3 rfl) ?_
  refine f_cVi (As := [.int x1, .int x2, .int x3]) (rest := []) (n := 3) (T0 := TX7) (N := 15) C (c_X7_canAsk h) ok_X7_canAsk im_X7_canAsk se_X7_canAsk kw_RX7_174 ⟨Nat.le_trans (by decide) hR.1, Nat.le_trans (by decide) hR.2⟩ (by decide) rfl rfl rfl hl.1 (Nat.le_of_ble_eq_true rfl) dX7_even_4 (fun r1 I1 J1 h => ?_)
  refine f_if_ne (tgt := 14) C dX7_even_7 (by decide) (fun c2 => ?_) (fun c2 => ?_)
  · replace h := h.2 c2
    refine f_iload_n C dX7_even_14 rfl (lv_at hl 2 rfl) ?_
    refine f_cSi (As := [.int x2]) (rest := []) (n := 1) C (c_J6_bitCount_0f7a4 h) ok_J6_bitCount_0f7a4 sm_J6_bitCount_0f7a4 kw_RX7_200 ⟨Nat.le_trans (by decide) hR.1, Nat.le_trans (by decide) hR.2⟩ rfl hl.1 (Nat.le_of_ble_eq_true rfl) dX7_even_15 (fun r3 I3 J3 h => ?_)
    refine f_iconst (v := 3) C dX7_even_18 (by decide) ?_
    refine f_icmp_le (tgt := 26) C dX7_even_19 (by decide) (fun c4 => ?_) (fun c4 => ?_)
    · replace h := h.1 c4
      refine f_aload_n C dX7_even_26 rfl (lv_at hl 0 rfl) ?_
      refine f_iload_n C dX7_even_27 rfl (lv_at hl 1 rfl) ?_
      refine f_iload_n C dX7_even_28 rfl (lv_at hl 2 rfl) ?_
      refine f_cVv (As := [.int x1, .int x2]) (rest := []) (n := 2) (T0 := TX7) (N := 15) C (c_X7_enter h) ok_X7_enter im_X7_enter se_X7_enter kw_RX7_179 ⟨Nat.le_trans (by decide) hR.1, Nat.le_trans (by decide) hR.2⟩ (by decide) rfl rfl rfl hl.1 (Nat.le_of_ble_eq_true rfl) dX7_even_29 (fun I5 J5 h => ?_)
      refine f_aload_n C dX7_even_32 rfl (lv_at hl 0 rfl) ?_
      refine ge_RX7_51 C (by decide) dX7_even_33 ?_
      refine f_cVv (As := []) (rest := []) (n := 0) (T0 := TX0) (N := 6) C (c_X0_seekEven h) ok_X0_seekEven im_X0_seekEven se_X0_seekEven kw_RX7_207 ⟨Nat.le_trans (by decide) hR.1, Nat.le_trans (by decide) hR.2⟩ (by decide) rfl rfl rfl hl.1 (Nat.le_of_ble_eq_true rfl) dX7_even_36 (fun I6 J6 h => ?_)
      refine f_iload_n C dX7_even_39 rfl (lv_at hl 3 rfl) ?_
      refine f_iconst (v := (-1)) C dX7_even_40 (by decide) ?_
      refine f_icmp_ne (tgt := 54) C dX7_even_41 (by decide) (fun c7 => ?_) (fun c7 => ?_)
      · replace h := h.2 c7
        refine f_aload_n C dX7_even_54 rfl (lv_at hl 0 rfl) ?_
        refine ge_RX7_51 C (by decide) dX7_even_55 ?_
        refine ge_RX7_214 C (by decide) dX7_even_58 ?_
        refine f_iload_n C dX7_even_61 rfl (lv_at hl 2 rfl) ?_
        refine f_iload_n C dX7_even_62 rfl (lv_at hl 3 rfl) ?_
        refine f_cSi (As := [.int x2, .int x3]) (rest := [.ref (gad g 11 0)]) (n := 2) C (c_X7_placeIn h) ok_X7_placeIn sm_X7_placeIn kw_RX7_187 ⟨Nat.le_trans (by decide) hR.1, Nat.le_trans (by decide) hR.2⟩ rfl hl.1 (Nat.le_of_ble_eq_true rfl) dX7_even_63 (fun r8 I8 J8 h => ?_)
        obtain ⟨hi9, h⟩ := h
        refine al_k (n := 3) (k := r8.toNatClampNeg) C (by decide) rfl rfl hi9 dX7_even_66 ?_
        refine f_i2l (v := (I8 11 0 (r8.toNatClampNeg)).toInt64) C dX7_even_67 rfl ?_
        exact f_lret C h dX7_even_68
      · replace h := h.1 c7
        refine f_aload_n C dX7_even_44 rfl (lv_at hl 0 rfl) ?_
        refine ge_RX7_51 C (by decide) dX7_even_45 ?_
        refine ge_RX7_210 C (by decide) dX7_even_48 ?_
        refine f_goto (tgt := 68) C dX7_even_51 (by decide) ?_
        exact f_lret C h dX7_even_68
    · replace h := h.2 c4
      refine f_ldc2 C kc_RX7_205 dX7_even_22 ?_
      exact f_lret C h dX7_even_25
  · replace h := h.1 c2
    refine f_ldc2 C kc_RX7_177 dX7_even_10 ?_
    exact f_lret C h dX7_even_13

def B_X7_power_4 (Q : Int32 → MI → MJ → Prop) (C4 : MI → MJ → Int32 → Int32 → Int32 → Int32 → Prop) (I : MI) (J : MJ) (x0 : Int32) (x1 : Int32) (x2 : Int32) (x3 : Int32) : Prop :=
  (x1 ≤ x3 → Q x2 I J) ∧
  (¬ (x1 ≤ x3) → C4 I J x0 x1 (x2 * x0) (x3 + 1))
set_option maxRecDepth 20000 in
theorem b_X7_power_4 {p : Program} {l : Launch} {e : Env} {R : Room} {s : State} {m : MethodId} {args : Array Value} {below : List Frame} {meth : Method} {c : Code} {g : Geo} (C : Cx g p s m args meth c cX7_power 4 RX7 (some .int)) (hR : 0 ≤ R.frames ∧ 0 ≤ R.locals) {Q : Int32 → MI → MJ → Prop} {C4 : MI → MJ → Int32 → Int32 → Int32 → Int32 → Prop} (hC4 : ∀ (I : MI) (J : MJ) (x0 : Int32) (x1 : Int32) (x2 : Int32) (x3 : Int32), C4 I J x0 x1 x2 x3 → ∀ ls : Array Slot, lv_has ls 4 [(0, .int x0), (1, .int x1), (2, .int x2), (3, .int x3)] → Wf p l e R s m args below meth c (MQ below (Qg g (PI Q)) args s 0 0 (gA g)) g I J (F0 m 4 ls [])) {I : MI} {J : MJ} {x0 : Int32} {x1 : Int32} {x2 : Int32} {x3 : Int32} (h : B_X7_power_4 Q C4 I J x0 x1 x2 x3) (ls : Array Slot) (hl : lv_has ls 4 [(0, .int x0), (1, .int x1), (2, .int x2), (3, .int x3)]) : Wf p l e R s m args below meth c (MQ below (Qg g (PI Q)) args s 0 0 (gA g)) g I J (F0 m 4 ls []) := by
  refine f_iload_n C dX7_power_4 rfl (lv_at hl 3 rfl) ?_
  refine f_iload_n C dX7_power_5 rfl (lv_at hl 1 rfl) ?_
  refine f_icmp_ge (tgt := 19) C dX7_power_6 (by decide) (fun c1 => ?_) (fun c1 => ?_)
  · replace h := h.1 c1
    refine f_iload_n C dX7_power_19 rfl (lv_at hl 2 rfl) ?_
    exact f_iret C h dX7_power_20
  · replace h := h.2 c1
    refine f_iload_n C dX7_power_9 rfl (lv_at hl 2 rfl) ?_
    refine f_iload_n C dX7_power_10 rfl (lv_at hl 0 rfl) ?_
    refine f_imul C dX7_power_11 ?_
    refine f_istore_n (lv' := [(2, .int (x2 * x0)), (0, .int x0), (1, .int x1), (3, .int x3)]) C dX7_power_12 rfl hl (by decide) rfl (fun ls hl => ?_)
    refine f_iinc (v := x3 + 1) (lv' := [(3, .int (x3 + 1)), (2, .int (x2 * x0)), (0, .int x0), (1, .int x1)]) C dX7_power_13 hl (k := 3) rfl rfl (by decide) rfl (fun ls hl => ?_)
    refine f_goto (tgt := 4) C dX7_power_16 (by decide) ?_
    exact hC4 _ _ _ _ _ _ h ls (lv_sub hl [2, 3, 1, 0] rfl)

def L_X7_power_4 (Q : Int32 → MI → MJ → Prop) : Nat → MI → MJ → Int32 → Int32 → Int32 → Int32 → Prop
  | 0 => fun _ _ _ _ _ _ => False
  | n + 1 => fun I J x0 x1 x2 x3 => B_X7_power_4 Q (L_X7_power_4 Q n) I J x0 x1 x2 x3
theorem t_X7_power_4 {p : Program} {l : Launch} {e : Env} {R : Room} {s : State} {m : MethodId} {args : Array Value} {below : List Frame} {meth : Method} {c : Code} {g : Geo} (C : Cx g p s m args meth c cX7_power 4 RX7 (some .int)) (hR : 0 ≤ R.frames ∧ 0 ≤ R.locals) {Q : Int32 → MI → MJ → Prop} : ∀ (n : Nat), ∀ (I : MI) (J : MJ) (x0 : Int32) (x1 : Int32) (x2 : Int32) (x3 : Int32), L_X7_power_4 Q n I J x0 x1 x2 x3 → ∀ ls : Array Slot, lv_has ls 4 [(0, .int x0), (1, .int x1), (2, .int x2), (3, .int x3)] → Wf p l e R s m args below meth c (MQ below (Qg g (PI Q)) args s 0 0 (gA g)) g I J (F0 m 4 ls []) := by
  intro n
  induction n with
  | zero => intro I J x0 x1 x2 x3 h; exact h.elim
  | succ n ih => intro I J x0 x1 x2 x3 h ls hl; exact b_X7_power_4 C hR ih h ls hl
def wp_X7_power (Q : Int32 → MI → MJ → Prop) (I : MI) (J : MJ) (x0 : Int32) (x1 : Int32) : Prop :=
  ∃ n : Nat, L_X7_power_4 Q n I J x0 x1 1 0
set_option maxRecDepth 20000 in
theorem c_X7_power {l : Launch} {g : Geo} {Q : Int32 → MI → MJ → Prop} {I : MI} {J : MJ} {x0 : Int32} {x1 : Int32} (h : wp_X7_power Q I J x0 x1) : Ct g l yX7_power cX7_power 4 (some .int) 0 0 [.int x0, .int x1] I J (PI Q) := by
  refine Ct.of (by decide) ?_
  intro p e s m below meth c C
  have hR : 0 ≤ (Rm 0 0).frames ∧ 0 ≤ (Rm 0 0).locals := ⟨Nat.le_refl _, Nat.le_refl _⟩
  generalize Rm 0 0 = R at hR ⊢
  have hl := lv_entry ([.int x0, .int x1]) (n := 4) (Nat.le_of_ble_eq_true rfl)
  rw [lg_entry_eq]
  generalize (lg_sl ([.int x0, .int x1]) ++ List.replicate (4 - (lg_sl ([.int x0, .int x1])).length) Slot.unset).toArray = ls at hl ⊢
  have hl : lv_has ls 4 [(0, .int x0), (1, .int x1)] := hl
  refine f_iconst (v := 1) C dX7_power_0 (by decide) ?_
  refine f_istore_n (lv' := [(2, .int 1), (0, .int x0), (1, .int x1)]) C dX7_power_1 rfl hl (by decide) rfl (fun ls hl => ?_)
  refine f_iconst (v := 0) C dX7_power_2 (by decide) ?_
  refine f_istore_n (lv' := [(3, .int 0), (2, .int 1), (0, .int x0), (1, .int x1)]) C dX7_power_3 rfl hl (by decide) rfl (fun ls hl => ?_)
  obtain ⟨n, h⟩ := h
  exact t_X7_power_4 C hR n _ _ _ _ _ _ h ls (lv_sub hl [2, 3, 1, 0] rfl)

def J_X7_rowsMiddleUpTo_54 (Q : Int32 → MI → MJ → Prop) (C15 : MI → MJ → Int32 → Int32 → Int32 → Int32 → Int32 → Int32 → Int32 → Prop) (I : MI) (J : MJ) (x0 : Int32) (x1 : Int32) (x2 : Int32) (x3 : Int32) (x4 : Int32) (x5 : Int32) (x6 : Int32) : Prop :=
  ¬ (x6 + 1) = 0 ∧ (C15 I J x0 x1 x2 x3 ((x4 * (x0 - x6)) / (x6 + 1)) x5 (x6 + 1))
set_option maxRecDepth 20000 in
theorem t_X7_rowsMiddleUpTo_54 {p : Program} {l : Launch} {e : Env} {R : Room} {s : State} {m : MethodId} {args : Array Value} {below : List Frame} {meth : Method} {c : Code} {g : Geo} (C : Cx g p s m args meth c cX7_rowsMiddleUpTo 7 RX7 (some .int)) (hR : 1 ≤ R.frames ∧ 23 ≤ R.locals) {Q : Int32 → MI → MJ → Prop} {C15 : MI → MJ → Int32 → Int32 → Int32 → Int32 → Int32 → Int32 → Int32 → Prop} (hC15 : ∀ (I : MI) (J : MJ) (x0 : Int32) (x1 : Int32) (x2 : Int32) (x3 : Int32) (x4 : Int32) (x5 : Int32) (x6 : Int32), C15 I J x0 x1 x2 x3 x4 x5 x6 → ∀ ls : Array Slot, lv_has ls 7 [(0, .int x0), (1, .int x1), (2, .int x2), (3, .int x3), (4, .int x4), (5, .int x5), (6, .int x6)] → Wf p l e R s m args below meth c (MQ below (Qg g (PI Q)) args s 0 0 (gA g)) g I J (F0 m 15 ls [])) {I : MI} {J : MJ} {x0 : Int32} {x1 : Int32} {x2 : Int32} {x3 : Int32} {x4 : Int32} {x5 : Int32} {x6 : Int32} (h : J_X7_rowsMiddleUpTo_54 Q C15 I J x0 x1 x2 x3 x4 x5 x6) (ls : Array Slot) (hl : lv_has ls 7 [(0, .int x0), (1, .int x1), (2, .int x2), (3, .int x3), (4, .int x4), (5, .int x5), (6, .int x6)]) : Wf p l e R s m args below meth c (MQ below (Qg g (PI Q)) args s 0 0 (gA g)) g I J (F0 m 54 ls []) := by
  refine f_iload C dX7_rowsMiddleUpTo_54 (lv_at hl 4 rfl) ?_
  refine f_iload_n C dX7_rowsMiddleUpTo_56 rfl (lv_at hl 0 rfl) ?_
  refine f_iload C dX7_rowsMiddleUpTo_57 (lv_at hl 6 rfl) ?_
  refine f_isub C dX7_rowsMiddleUpTo_59 ?_
  refine f_imul C dX7_rowsMiddleUpTo_60 ?_
  refine f_iload C dX7_rowsMiddleUpTo_61 (lv_at hl 6 rfl) ?_
  refine f_iconst (v := 1) C dX7_rowsMiddleUpTo_63 (by decide) ?_
  refine f_iadd C dX7_rowsMiddleUpTo_64 ?_
  obtain ⟨hz3, h⟩ := h
  refine f_idiv C dX7_rowsMiddleUpTo_65 hz3 ?_
  refine f_istore (lv' := [(4, .int ((x4 * (x0 - x6)) / (x6 + 1))), (0, .int x0), (1, .int x1), (2, .int x2), (3, .int x3), (5, .int x5), (6, .int x6)]) C dX7_rowsMiddleUpTo_66 hl (by decide) rfl (fun ls hl => ?_)
  refine f_iinc (v := x6 + 1) (lv' := [(6, .int (x6 + 1)), (4, .int ((x4 * (x0 - x6)) / (x6 + 1))), (0, .int x0), (1, .int x1), (2, .int x2), (3, .int x3), (5, .int x5)]) C dX7_rowsMiddleUpTo_68 hl (k := 6) rfl rfl (by decide) rfl (fun ls hl => ?_)
  refine f_goto (tgt := 15) C dX7_rowsMiddleUpTo_71 (by decide) ?_
  exact hC15 _ _ _ _ _ _ _ _ _ h ls (lv_sub hl [2, 3, 4, 5, 1, 6, 0] rfl)

def B_X7_rowsMiddleUpTo_15 (Q : Int32 → MI → MJ → Prop) (C15 : MI → MJ → Int32 → Int32 → Int32 → Int32 → Int32 → Int32 → Int32 → Prop) (I : MI) (J : MJ) (x0 : Int32) (x1 : Int32) (x2 : Int32) (x3 : Int32) (x4 : Int32) (x5 : Int32) (x6 : Int32) : Prop :=
  (x0 < x6 → Q x5 I J) ∧
  (¬ (x0 < x6) → (x6 < x3 → J_X7_rowsMiddleUpTo_54 Q C15 I J x0 x1 x2 x3 x4 x5 x6) ∧
  (¬ (x6 < x3) → wp_X7_power (fun r4 I4 J4 => wp_X7_power (fun r5 I5 J5 => J_X7_rowsMiddleUpTo_54 Q C15 I5 J5 x0 x1 x2 x3 x4 (x5 + ((x4 * r4) * r5)) x6) I4 J4 (x2 - x1) (x0 - x6)) I J (x1 + 1) x6))
set_option maxRecDepth 20000 in
theorem b_X7_rowsMiddleUpTo_15 {p : Program} {l : Launch} {e : Env} {R : Room} {s : State} {m : MethodId} {args : Array Value} {below : List Frame} {meth : Method} {c : Code} {g : Geo} (C : Cx g p s m args meth c cX7_rowsMiddleUpTo 7 RX7 (some .int)) (hR : 1 ≤ R.frames ∧ 23 ≤ R.locals) {Q : Int32 → MI → MJ → Prop} {C15 : MI → MJ → Int32 → Int32 → Int32 → Int32 → Int32 → Int32 → Int32 → Prop} (hC15 : ∀ (I : MI) (J : MJ) (x0 : Int32) (x1 : Int32) (x2 : Int32) (x3 : Int32) (x4 : Int32) (x5 : Int32) (x6 : Int32), C15 I J x0 x1 x2 x3 x4 x5 x6 → ∀ ls : Array Slot, lv_has ls 7 [(0, .int x0), (1, .int x1), (2, .int x2), (3, .int x3), (4, .int x4), (5, .int x5), (6, .int x6)] → Wf p l e R s m args below meth c (MQ below (Qg g (PI Q)) args s 0 0 (gA g)) g I J (F0 m 15 ls [])) {I : MI} {J : MJ} {x0 : Int32} {x1 : Int32} {x2 : Int32} {x3 : Int32} {x4 : Int32} {x5 : Int32} {x6 : Int32} (h : B_X7_rowsMiddleUpTo_15 Q C15 I J x0 x1 x2 x3 x4 x5 x6) (ls : Array Slot) (hl : lv_has ls 7 [(0, .int x0), (1, .int x1), (2, .int x2), (3, .int x3), (4, .int x4), (5, .int x5), (6, .int x6)]) : Wf p l e R s m args below meth c (MQ below (Qg g (PI Q)) args s 0 0 (gA g)) g I J (F0 m 15 ls []) := by
  refine f_iload C dX7_rowsMiddleUpTo_15 (lv_at hl 6 rfl) ?_
  refine f_iload_n C dX7_rowsMiddleUpTo_17 rfl (lv_at hl 0 rfl) ?_
  refine f_icmp_gt (tgt := 74) C dX7_rowsMiddleUpTo_18 (by decide) (fun c1 => ?_) (fun c1 => ?_)
  · replace h := h.1 c1
    refine f_iload C dX7_rowsMiddleUpTo_74 (lv_at hl 5 rfl) ?_
    exact f_iret C h dX7_rowsMiddleUpTo_76
  · replace h := h.2 c1
    refine f_iload C dX7_rowsMiddleUpTo_21 (lv_at hl 6 rfl) ?_
    refine f_iload_n C dX7_rowsMiddleUpTo_23 rfl (lv_at hl 3 rfl) ?_
    refine f_icmp_lt (tgt := 54) C dX7_rowsMiddleUpTo_24 (by decide) (fun c2 => ?_) (fun c2 => ?_)
    · replace h := h.1 c2
      exact t_X7_rowsMiddleUpTo_54 C hR hC15 h ls (lv_sub hl [0, 1, 2, 3, 4, 5, 6] rfl)
    · replace h := h.2 c2
      refine f_iload C dX7_rowsMiddleUpTo_27 (lv_at hl 5 rfl) ?_
      refine f_iload C dX7_rowsMiddleUpTo_29 (lv_at hl 4 rfl) ?_
      refine f_iload_n C dX7_rowsMiddleUpTo_31 rfl (lv_at hl 1 rfl) ?_
      refine f_iconst (v := 1) C dX7_rowsMiddleUpTo_32 (by decide) ?_
      refine f_iadd C dX7_rowsMiddleUpTo_33 ?_
      refine f_iload C dX7_rowsMiddleUpTo_34 (lv_at hl 6 rfl) ?_
      refine f_cSi (As := [.int (x1 + 1), .int x6]) (rest := [.int x4, .int x5]) (n := 2) C (c_X7_power h) ok_X7_power sm_X7_power kw_RX7_217 ⟨Nat.le_trans (by decide) hR.1, Nat.le_trans (by decide) hR.2⟩ rfl hl.1 (Nat.le_of_ble_eq_true rfl) dX7_rowsMiddleUpTo_36 (fun r4 I4 J4 h => ?_)
      refine f_imul C dX7_rowsMiddleUpTo_39 ?_
      refine f_iload_n C dX7_rowsMiddleUpTo_40 rfl (lv_at hl 2 rfl) ?_
      refine f_iload_n C dX7_rowsMiddleUpTo_41 rfl (lv_at hl 1 rfl) ?_
      refine f_isub C dX7_rowsMiddleUpTo_42 ?_
      refine f_iload_n C dX7_rowsMiddleUpTo_43 rfl (lv_at hl 0 rfl) ?_
      refine f_iload C dX7_rowsMiddleUpTo_44 (lv_at hl 6 rfl) ?_
      refine f_isub C dX7_rowsMiddleUpTo_46 ?_
      refine f_cSi (As := [.int (x2 - x1), .int (x0 - x6)]) (rest := [.int (x4 * r4), .int x5]) (n := 2) C (c_X7_power h) ok_X7_power sm_X7_power kw_RX7_217 ⟨Nat.le_trans (by decide) hR.1, Nat.le_trans (by decide) hR.2⟩ rfl hl.1 (Nat.le_of_ble_eq_true rfl) dX7_rowsMiddleUpTo_47 (fun r5 I5 J5 h => ?_)
      refine f_imul C dX7_rowsMiddleUpTo_50 ?_
      refine f_iadd C dX7_rowsMiddleUpTo_51 ?_
      refine f_istore (lv' := [(5, .int (x5 + ((x4 * r4) * r5))), (0, .int x0), (1, .int x1), (2, .int x2), (3, .int x3), (4, .int x4), (6, .int x6)]) C dX7_rowsMiddleUpTo_52 hl (by decide) rfl (fun ls hl => ?_)
      exact t_X7_rowsMiddleUpTo_54 C hR hC15 h ls (lv_sub hl [1, 2, 3, 4, 5, 0, 6] rfl)

def L_X7_rowsMiddleUpTo_15 (Q : Int32 → MI → MJ → Prop) : Nat → MI → MJ → Int32 → Int32 → Int32 → Int32 → Int32 → Int32 → Int32 → Prop
  | 0 => fun _ _ _ _ _ _ _ _ _ => False
  | n + 1 => fun I J x0 x1 x2 x3 x4 x5 x6 => B_X7_rowsMiddleUpTo_15 Q (L_X7_rowsMiddleUpTo_15 Q n) I J x0 x1 x2 x3 x4 x5 x6
theorem t_X7_rowsMiddleUpTo_15 {p : Program} {l : Launch} {e : Env} {R : Room} {s : State} {m : MethodId} {args : Array Value} {below : List Frame} {meth : Method} {c : Code} {g : Geo} (C : Cx g p s m args meth c cX7_rowsMiddleUpTo 7 RX7 (some .int)) (hR : 1 ≤ R.frames ∧ 23 ≤ R.locals) {Q : Int32 → MI → MJ → Prop} : ∀ (n : Nat), ∀ (I : MI) (J : MJ) (x0 : Int32) (x1 : Int32) (x2 : Int32) (x3 : Int32) (x4 : Int32) (x5 : Int32) (x6 : Int32), L_X7_rowsMiddleUpTo_15 Q n I J x0 x1 x2 x3 x4 x5 x6 → ∀ ls : Array Slot, lv_has ls 7 [(0, .int x0), (1, .int x1), (2, .int x2), (3, .int x3), (4, .int x4), (5, .int x5), (6, .int x6)] → Wf p l e R s m args below meth c (MQ below (Qg g (PI Q)) args s 0 0 (gA g)) g I J (F0 m 15 ls []) := by
  intro n
  induction n with
  | zero => intro I J x0 x1 x2 x3 x4 x5 x6 h; exact h.elim
  | succ n ih => intro I J x0 x1 x2 x3 x4 x5 x6 h ls hl; exact b_X7_rowsMiddleUpTo_15 C hR ih h ls hl
def wp_X7_rowsMiddleUpTo (Q : Int32 → MI → MJ → Prop) (I : MI) (J : MJ) (x0 : Int32) (x1 : Int32) (x2 : Int32) : Prop :=
  ∃ n : Nat, L_X7_rowsMiddleUpTo_15 Q n I J x0 x1 x2 ((x0 + 1) / 2) 1 0 0
set_option maxRecDepth 20000 in
theorem c_X7_rowsMiddleUpTo {l : Launch} {g : Geo} {Q : Int32 → MI → MJ → Prop} {I : MI} {J : MJ} {x0 : Int32} {x1 : Int32} {x2 : Int32} (h : wp_X7_rowsMiddleUpTo Q I J x0 x1 x2) : Ct g l yX7_rowsMiddleUpTo cX7_rowsMiddleUpTo 7 (some .int) 1 23 [.int x0, .int x1, .int x2] I J (PI Q) := by
  refine Ct.of (by decide) ?_
  intro p e s m below meth c C
  have hR : 1 ≤ (Rm 1 23).frames ∧ 23 ≤ (Rm 1 23).locals := ⟨Nat.le_refl _, Nat.le_refl _⟩
  generalize Rm 1 23 = R at hR ⊢
  have hl := lv_entry ([.int x0, .int x1, .int x2]) (n := 7) (Nat.le_of_ble_eq_true rfl)
  rw [lg_entry_eq]
  generalize (lg_sl ([.int x0, .int x1, .int x2]) ++ List.replicate (7 - (lg_sl ([.int x0, .int x1, .int x2])).length) Slot.unset).toArray = ls at hl ⊢
  have hl : lv_has ls 7 [(0, .int x0), (1, .int x1), (2, .int x2)] := hl
  refine f_iload_n C dX7_rowsMiddleUpTo_0 rfl (lv_at hl 0 rfl) ?_
  refine f_iconst (v := 1) C dX7_rowsMiddleUpTo_1 (by decide) ?_
  refine f_iadd C dX7_rowsMiddleUpTo_2 ?_
  refine f_iconst (v := 2) C dX7_rowsMiddleUpTo_3 (by decide) ?_
  refine f_idiv C dX7_rowsMiddleUpTo_4 (by decide) ?_
  refine f_istore_n (lv' := [(3, .int ((x0 + 1) / 2)), (0, .int x0), (1, .int x1), (2, .int x2)]) C dX7_rowsMiddleUpTo_5 rfl hl (by decide) rfl (fun ls hl => ?_)
  refine f_iconst (v := 1) C dX7_rowsMiddleUpTo_6 (by decide) ?_
  refine f_istore (lv' := [(4, .int 1), (3, .int ((x0 + 1) / 2)), (0, .int x0), (1, .int x1), (2, .int x2)]) C dX7_rowsMiddleUpTo_7 hl (by decide) rfl (fun ls hl => ?_)
  refine f_iconst (v := 0) C dX7_rowsMiddleUpTo_9 (by decide) ?_
  refine f_istore (lv' := [(5, .int 0), (4, .int 1), (3, .int ((x0 + 1) / 2)), (0, .int x0), (1, .int x1), (2, .int x2)]) C dX7_rowsMiddleUpTo_10 hl (by decide) rfl (fun ls hl => ?_)
  refine f_iconst (v := 0) C dX7_rowsMiddleUpTo_12 (by decide) ?_
  refine f_istore (lv' := [(6, .int 0), (5, .int 0), (4, .int 1), (3, .int ((x0 + 1) / 2)), (0, .int x0), (1, .int x1), (2, .int x2)]) C dX7_rowsMiddleUpTo_13 hl (by decide) rfl (fun ls hl => ?_)
  obtain ⟨n, h⟩ := h
  exact t_X7_rowsMiddleUpTo_15 C hR n _ _ _ _ _ _ _ _ _ h ls (lv_sub hl [4, 5, 6, 3, 2, 1, 0] rfl)

def wp_X7_rowsWithMiddle (Q : Int32 → MI → MJ → Prop) (I : MI) (J : MJ) (x0 : Int32) (x1 : Int32) (x2 : Int32) : Prop :=
  wp_X7_rowsMiddleUpTo (fun r1 I1 J1 => wp_X7_rowsMiddleUpTo (fun r2 I2 J2 => Q (r1 - r2) I2 J2) I1 J1 x0 (x1 - 1) x2) I J x0 x1 x2
set_option maxRecDepth 20000 in
theorem c_X7_rowsWithMiddle {l : Launch} {g : Geo} {Q : Int32 → MI → MJ → Prop} {I : MI} {J : MJ} {x0 : Int32} {x1 : Int32} {x2 : Int32} (h : wp_X7_rowsWithMiddle Q I J x0 x1 x2) : Ct g l yX7_rowsWithMiddle cX7_rowsWithMiddle 3 (some .int) 2 49 [.int x0, .int x1, .int x2] I J (PI Q) := by
  refine Ct.of (by decide) ?_
  intro p e s m below meth c C
  have hR : 2 ≤ (Rm 2 49).frames ∧ 49 ≤ (Rm 2 49).locals := ⟨Nat.le_refl _, Nat.le_refl _⟩
  generalize Rm 2 49 = R at hR ⊢
  have hl := lv_entry ([.int x0, .int x1, .int x2]) (n := 3) (Nat.le_of_ble_eq_true rfl)
  rw [lg_entry_eq]
  generalize (lg_sl ([.int x0, .int x1, .int x2]) ++ List.replicate (3 - (lg_sl ([.int x0, .int x1, .int x2])).length) Slot.unset).toArray = ls at hl ⊢
  have hl : lv_has ls 3 [(0, .int x0), (1, .int x1), (2, .int x2)] := hl
  refine f_iload_n C dX7_rowsWithMiddle_0 rfl (lv_at hl 0 rfl) ?_
  refine f_iload_n C dX7_rowsWithMiddle_1 rfl (lv_at hl 1 rfl) ?_
  refine f_iload_n C dX7_rowsWithMiddle_2 rfl (lv_at hl 2 rfl) ?_
  refine f_cSi (As := [.int x0, .int x1, .int x2]) (rest := []) (n := 3) C (c_X7_rowsMiddleUpTo h) ok_X7_rowsMiddleUpTo sm_X7_rowsMiddleUpTo kw_RX7_299 ⟨Nat.le_trans (by decide) hR.1, Nat.le_trans (by decide) hR.2⟩ rfl hl.1 (Nat.le_of_ble_eq_true rfl) dX7_rowsWithMiddle_3 (fun r1 I1 J1 h => ?_)
  refine f_iload_n C dX7_rowsWithMiddle_6 rfl (lv_at hl 0 rfl) ?_
  refine f_iload_n C dX7_rowsWithMiddle_7 rfl (lv_at hl 1 rfl) ?_
  refine f_iconst (v := 1) C dX7_rowsWithMiddle_8 (by decide) ?_
  refine f_isub C dX7_rowsWithMiddle_9 ?_
  refine f_iload_n C dX7_rowsWithMiddle_10 rfl (lv_at hl 2 rfl) ?_
  refine f_cSi (As := [.int x0, .int (x1 - 1), .int x2]) (rest := [.int r1]) (n := 3) C (c_X7_rowsMiddleUpTo h) ok_X7_rowsMiddleUpTo sm_X7_rowsMiddleUpTo kw_RX7_299 ⟨Nat.le_trans (by decide) hR.1, Nat.le_trans (by decide) hR.2⟩ rfl hl.1 (Nat.le_of_ble_eq_true rfl) dX7_rowsWithMiddle_11 (fun r2 I2 J2 h => ?_)
  refine f_isub C dX7_rowsWithMiddle_14 ?_
  exact f_iret C h dX7_rowsWithMiddle_15

def B_X7_rowsTooGood_5 (Q : Int32 → MI → MJ → Prop) (C5 : MI → MJ → Int32 → Int32 → Int32 → Int32 → Int32 → Prop) (I : MI) (J : MJ) (x0 : Int32) (x1 : Int32) (x2 : Int32) (x3 : Int32) (x4 : Int32) : Prop :=
  (x2 < x4 → Q x3 I J) ∧
  (¬ (x2 < x4) → wp_X7_rowsWithMiddle (fun r2 I2 J2 => (x1 ≤ 0 → C5 I2 J2 x0 x1 x2 (x3 + r2) (x4 + 1)) ∧
  (¬ (x1 ≤ 0) → wp_J9_min_7cf53 (fun r4 I4 J4 => wp_X7_rowsWithMiddle (fun r5 I5 J5 => C5 I5 J5 x0 x1 x2 ((x3 + r2) - r5) (x4 + 1)) I4 J4 x0 x4 r4) I2 J2 x2 ((x4 + x1) - 1))) I J x0 x4 x2)
set_option maxRecDepth 20000 in
theorem b_X7_rowsTooGood_5 {p : Program} {l : Launch} {e : Env} {R : Room} {s : State} {m : MethodId} {args : Array Value} {below : List Frame} {meth : Method} {c : Code} {g : Geo} (C : Cx g p s m args meth c cX7_rowsTooGood 5 RX7 (some .int)) (hR : 3 ≤ R.frames ∧ 71 ≤ R.locals) {Q : Int32 → MI → MJ → Prop} {C5 : MI → MJ → Int32 → Int32 → Int32 → Int32 → Int32 → Prop} (hC5 : ∀ (I : MI) (J : MJ) (x0 : Int32) (x1 : Int32) (x2 : Int32) (x3 : Int32) (x4 : Int32), C5 I J x0 x1 x2 x3 x4 → ∀ ls : Array Slot, lv_has ls 5 [(0, .int x0), (1, .int x1), (2, .int x2), (3, .int x3), (4, .int x4)] → Wf p l e R s m args below meth c (MQ below (Qg g (PI Q)) args s 0 0 (gA g)) g I J (F0 m 5 ls [])) {I : MI} {J : MJ} {x0 : Int32} {x1 : Int32} {x2 : Int32} {x3 : Int32} {x4 : Int32} (h : B_X7_rowsTooGood_5 Q C5 I J x0 x1 x2 x3 x4) (ls : Array Slot) (hl : lv_has ls 5 [(0, .int x0), (1, .int x1), (2, .int x2), (3, .int x3), (4, .int x4)]) : Wf p l e R s m args below meth c (MQ below (Qg g (PI Q)) args s 0 0 (gA g)) g I J (F0 m 5 ls []) := by
  refine f_iload C dX7_rowsTooGood_5 (lv_at hl 4 rfl) ?_
  refine f_iload_n C dX7_rowsTooGood_7 rfl (lv_at hl 2 rfl) ?_
  refine f_icmp_gt (tgt := 50) C dX7_rowsTooGood_8 (by decide) (fun c1 => ?_) (fun c1 => ?_)
  · replace h := h.1 c1
    refine f_iload_n C dX7_rowsTooGood_50 rfl (lv_at hl 3 rfl) ?_
    exact f_iret C h dX7_rowsTooGood_51
  · replace h := h.2 c1
    refine f_iload_n C dX7_rowsTooGood_11 rfl (lv_at hl 3 rfl) ?_
    refine f_iload_n C dX7_rowsTooGood_12 rfl (lv_at hl 0 rfl) ?_
    refine f_iload C dX7_rowsTooGood_13 (lv_at hl 4 rfl) ?_
    refine f_iload_n C dX7_rowsTooGood_15 rfl (lv_at hl 2 rfl) ?_
    refine f_cSi (As := [.int x0, .int x4, .int x2]) (rest := [.int x3]) (n := 3) C (c_X7_rowsWithMiddle h) ok_X7_rowsWithMiddle sm_X7_rowsWithMiddle kw_RX7_296 ⟨Nat.le_trans (by decide) hR.1, Nat.le_trans (by decide) hR.2⟩ rfl hl.1 (Nat.le_of_ble_eq_true rfl) dX7_rowsTooGood_16 (fun r2 I2 J2 h => ?_)
    refine f_iadd C dX7_rowsTooGood_19 ?_
    refine f_istore_n (lv' := [(3, .int (x3 + r2)), (0, .int x0), (1, .int x1), (2, .int x2), (4, .int x4)]) C dX7_rowsTooGood_20 rfl hl (by decide) rfl (fun ls hl => ?_)
    refine f_iload_n C dX7_rowsTooGood_21 rfl (lv_at hl 2 rfl) ?_
    refine f_if_le (tgt := 44) C dX7_rowsTooGood_22 (by decide) (fun c3 => ?_) (fun c3 => ?_)
    · replace h := h.1 c3
      refine f_iinc (v := x4 + 1) (lv' := [(4, .int (x4 + 1)), (3, .int (x3 + r2)), (0, .int x0), (1, .int x1), (2, .int x2)]) C dX7_rowsTooGood_44 hl (k := 4) rfl rfl (by decide) rfl (fun ls hl => ?_)
      refine f_goto (tgt := 5) C dX7_rowsTooGood_47 (by decide) ?_
      exact hC5 _ _ _ _ _ _ _ h ls (lv_sub hl [2, 3, 4, 1, 0] rfl)
    · replace h := h.2 c3
      refine f_iload_n C dX7_rowsTooGood_25 rfl (lv_at hl 0 rfl) ?_
      refine f_iload_n C dX7_rowsTooGood_26 rfl (lv_at hl 1 rfl) ?_
      refine f_iload C dX7_rowsTooGood_27 (lv_at hl 4 rfl) ?_
      refine f_iload_n C dX7_rowsTooGood_29 rfl (lv_at hl 3 rfl) ?_
      refine f_iload C dX7_rowsTooGood_30 (lv_at hl 4 rfl) ?_
      refine f_iload_n C dX7_rowsTooGood_32 rfl (lv_at hl 2 rfl) ?_
      refine f_iadd C dX7_rowsTooGood_33 ?_
      refine f_iconst (v := 1) C dX7_rowsTooGood_34 (by decide) ?_
      refine f_isub C dX7_rowsTooGood_35 ?_
      refine f_cSi (As := [.int x2, .int ((x4 + x1) - 1)]) (rest := [.int x4, .int x0, .int (x3 + r2)]) (n := 2) C (c_J9_min_7cf53 h) ok_J9_min_7cf53 sm_J9_min_7cf53 kw_RX7_276 ⟨Nat.le_trans (by decide) hR.1, Nat.le_trans (by decide) hR.2⟩ rfl hl.1 (Nat.le_of_ble_eq_true rfl) dX7_rowsTooGood_36 (fun r4 I4 J4 h => ?_)
      refine f_cSi (As := [.int x0, .int x4, .int r4]) (rest := [.int (x3 + r2)]) (n := 3) C (c_X7_rowsWithMiddle h) ok_X7_rowsWithMiddle sm_X7_rowsWithMiddle kw_RX7_296 ⟨Nat.le_trans (by decide) hR.1, Nat.le_trans (by decide) hR.2⟩ rfl hl.1 (Nat.le_of_ble_eq_true rfl) dX7_rowsTooGood_39 (fun r5 I5 J5 h => ?_)
      refine f_isub C dX7_rowsTooGood_42 ?_
      refine f_istore_n (lv' := [(3, .int ((x3 + r2) - r5)), (0, .int x0), (1, .int x1), (2, .int x2), (4, .int x4)]) C dX7_rowsTooGood_43 rfl hl (by decide) rfl (fun ls hl => ?_)
      refine f_iinc (v := x4 + 1) (lv' := [(4, .int (x4 + 1)), (3, .int ((x3 + r2) - r5)), (0, .int x0), (1, .int x1), (2, .int x2)]) C dX7_rowsTooGood_44 hl (k := 4) rfl rfl (by decide) rfl (fun ls hl => ?_)
      refine f_goto (tgt := 5) C dX7_rowsTooGood_47 (by decide) ?_
      exact hC5 _ _ _ _ _ _ _ h ls (lv_sub hl [2, 3, 4, 1, 0] rfl)

def L_X7_rowsTooGood_5 (Q : Int32 → MI → MJ → Prop) : Nat → MI → MJ → Int32 → Int32 → Int32 → Int32 → Int32 → Prop
  | 0 => fun _ _ _ _ _ _ _ => False
  | n + 1 => fun I J x0 x1 x2 x3 x4 => B_X7_rowsTooGood_5 Q (L_X7_rowsTooGood_5 Q n) I J x0 x1 x2 x3 x4
theorem t_X7_rowsTooGood_5 {p : Program} {l : Launch} {e : Env} {R : Room} {s : State} {m : MethodId} {args : Array Value} {below : List Frame} {meth : Method} {c : Code} {g : Geo} (C : Cx g p s m args meth c cX7_rowsTooGood 5 RX7 (some .int)) (hR : 3 ≤ R.frames ∧ 71 ≤ R.locals) {Q : Int32 → MI → MJ → Prop} : ∀ (n : Nat), ∀ (I : MI) (J : MJ) (x0 : Int32) (x1 : Int32) (x2 : Int32) (x3 : Int32) (x4 : Int32), L_X7_rowsTooGood_5 Q n I J x0 x1 x2 x3 x4 → ∀ ls : Array Slot, lv_has ls 5 [(0, .int x0), (1, .int x1), (2, .int x2), (3, .int x3), (4, .int x4)] → Wf p l e R s m args below meth c (MQ below (Qg g (PI Q)) args s 0 0 (gA g)) g I J (F0 m 5 ls []) := by
  intro n
  induction n with
  | zero => intro I J x0 x1 x2 x3 x4 h; exact h.elim
  | succ n ih => intro I J x0 x1 x2 x3 x4 h ls hl; exact b_X7_rowsTooGood_5 C hR ih h ls hl
def wp_X7_rowsTooGood (Q : Int32 → MI → MJ → Prop) (I : MI) (J : MJ) (x0 : Int32) (x1 : Int32) (x2 : Int32) : Prop :=
  ∃ n : Nat, L_X7_rowsTooGood_5 Q n I J x0 x1 x2 0 0
set_option maxRecDepth 20000 in
theorem c_X7_rowsTooGood {l : Launch} {g : Geo} {Q : Int32 → MI → MJ → Prop} {I : MI} {J : MJ} {x0 : Int32} {x1 : Int32} {x2 : Int32} (h : wp_X7_rowsTooGood Q I J x0 x1 x2) : Ct g l yX7_rowsTooGood cX7_rowsTooGood 5 (some .int) 3 71 [.int x0, .int x1, .int x2] I J (PI Q) := by
  refine Ct.of (by decide) ?_
  intro p e s m below meth c C
  have hR : 3 ≤ (Rm 3 71).frames ∧ 71 ≤ (Rm 3 71).locals := ⟨Nat.le_refl _, Nat.le_refl _⟩
  generalize Rm 3 71 = R at hR ⊢
  have hl := lv_entry ([.int x0, .int x1, .int x2]) (n := 5) (Nat.le_of_ble_eq_true rfl)
  rw [lg_entry_eq]
  generalize (lg_sl ([.int x0, .int x1, .int x2]) ++ List.replicate (5 - (lg_sl ([.int x0, .int x1, .int x2])).length) Slot.unset).toArray = ls at hl ⊢
  have hl : lv_has ls 5 [(0, .int x0), (1, .int x1), (2, .int x2)] := hl
  refine f_iconst (v := 0) C dX7_rowsTooGood_0 (by decide) ?_
  refine f_istore_n (lv' := [(3, .int 0), (0, .int x0), (1, .int x1), (2, .int x2)]) C dX7_rowsTooGood_1 rfl hl (by decide) rfl (fun ls hl => ?_)
  refine f_iconst (v := 0) C dX7_rowsTooGood_2 (by decide) ?_
  refine f_istore (lv' := [(4, .int 0), (3, .int 0), (0, .int x0), (1, .int x1), (2, .int x2)]) C dX7_rowsTooGood_3 hl (by decide) rfl (fun ls hl => ?_)
  obtain ⟨n, h⟩ := h
  exact t_X7_rowsTooGood_5 C hR n _ _ _ _ _ _ _ h ls (lv_sub hl [2, 3, 4, 1, 0] rfl)

def wp_X7_good (Q : Int32 → MI → MJ → Prop) (I : MI) (J : MJ) (x1 : Int32) (x2 : Int32) (x3 : Int32) : Prop :=
  wp_X7_within (fun r1 I1 J1 => (r1 = 0 → Q ((-1)) I1 J1) ∧
  (¬ (r1 = 0) → wp_X7_within (fun r3 I3 J3 => (r3 = 0 → Q ((-1)) I3 J3) ∧
  (¬ (r3 = 0) → wp_X7_within (fun r5 I5 J5 => (r5 = 0 → Q ((-1)) I5 J5) ∧
  (¬ (r5 = 0) → (x3 = 1 → wp_X7_power (fun r9 I9 J9 => Q r9 I9 J9) I5 J5 ((2 * (I5 21 0 0)) + 1) x1) ∧
  (¬ (x3 = 1) → wp_X7_rowsTooGood (fun r8 I8 J8 => Q r8 I8 J8) I5 J5 x1 x2 (((2 * (I5 21 0 0)) + 1) - 1)))) I3 J3 x3 0 1)) I1 J1 x2 0 20)) I J x1 1 6
set_option maxRecDepth 20000 in
theorem c_X7_good {l : Launch} {g : Geo} {Q : Int32 → MI → MJ → Prop} {I : MI} {J : MJ} {x1 : Int32} {x2 : Int32} {x3 : Int32} (h : wp_X7_good Q I J x1 x2 x3) : Ct g l yX7_good cX7_good 5 (some .int) 4 95 [.ref (gad g 7 0), .int x1, .int x2, .int x3] I J (PI Q) := by
  refine Ct.of (by decide) ?_
  intro p e s m below meth c C
  have hR : 4 ≤ (Rm 4 95).frames ∧ 95 ≤ (Rm 4 95).locals := ⟨Nat.le_refl _, Nat.le_refl _⟩
  generalize Rm 4 95 = R at hR ⊢
  have hl := lv_entry ([.ref (gad g 7 0), .int x1, .int x2, .int x3]) (n := 5) (Nat.le_of_ble_eq_true rfl)
  rw [lg_entry_eq]
  generalize (lg_sl ([.ref (gad g 7 0), .int x1, .int x2, .int x3]) ++ List.replicate (5 - (lg_sl ([.ref (gad g 7 0), .int x1, .int x2, .int x3])).length) Slot.unset).toArray = ls at hl ⊢
  have hl : lv_has ls 5 [(0, .ref (gad g 7 0)), (1, .int x1), (2, .int x2), (3, .int x3)] := hl
  refine f_iload_n C dX7_good_0 rfl (lv_at hl 1 rfl) ?_
  refine f_iconst (v := 1) C dX7_good_1 (by decide) ?_
  refine f_bipush (v := 6) C dX7_good_2 (by decide) ?_
  refine f_cSi (As := [.int x1, .int 1, .int 6]) (rest := []) (n := 3) C (c_X7_within h) ok_X7_within sm_X7_within kw_RX7_78 ⟨Nat.le_trans (by decide) hR.1, Nat.le_trans (by decide) hR.2⟩ rfl hl.1 (Nat.le_of_ble_eq_true rfl) dX7_good_4 (fun r1 I1 J1 h => ?_)
  refine f_if_eq (tgt := 29) C dX7_good_7 (by decide) (fun c2 => ?_) (fun c2 => ?_)
  · replace h := h.1 c2
    refine f_iconst (v := (-1)) C dX7_good_29 (by decide) ?_
    exact f_iret C h dX7_good_30
  · replace h := h.2 c2
    refine f_iload_n C dX7_good_10 rfl (lv_at hl 2 rfl) ?_
    refine f_iconst (v := 0) C dX7_good_11 (by decide) ?_
    refine f_bipush (v := 20) C dX7_good_12 (by decide) ?_
    refine f_cSi (As := [.int x2, .int 0, .int 20]) (rest := []) (n := 3) C (c_X7_within h) ok_X7_within sm_X7_within kw_RX7_78 ⟨Nat.le_trans (by decide) hR.1, Nat.le_trans (by decide) hR.2⟩ rfl hl.1 (Nat.le_of_ble_eq_true rfl) dX7_good_14 (fun r3 I3 J3 h => ?_)
    refine f_if_eq (tgt := 29) C dX7_good_17 (by decide) (fun c4 => ?_) (fun c4 => ?_)
    · replace h := h.1 c4
      refine f_iconst (v := (-1)) C dX7_good_29 (by decide) ?_
      exact f_iret C h dX7_good_30
    · replace h := h.2 c4
      refine f_iload_n C dX7_good_20 rfl (lv_at hl 3 rfl) ?_
      refine f_iconst (v := 0) C dX7_good_21 (by decide) ?_
      refine f_iconst (v := 1) C dX7_good_22 (by decide) ?_
      refine f_cSi (As := [.int x3, .int 0, .int 1]) (rest := []) (n := 3) C (c_X7_within h) ok_X7_within sm_X7_within kw_RX7_78 ⟨Nat.le_trans (by decide) hR.1, Nat.le_trans (by decide) hR.2⟩ rfl hl.1 (Nat.le_of_ble_eq_true rfl) dX7_good_23 (fun r5 I5 J5 h => ?_)
      refine f_if_ne (tgt := 31) C dX7_good_26 (by decide) (fun c6 => ?_) (fun c6 => ?_)
      · replace h := h.2 c6
        refine f_iconst (v := 2) C dX7_good_31 (by decide) ?_
        refine f_aload_n C dX7_good_32 rfl (lv_at hl 0 rfl) ?_
        refine ge_RX7_20 C (by decide) dX7_good_33 ?_
        refine f_iconst (v := 0) C dX7_good_36 (by decide) ?_
        refine al_k (n := 3) (k := 0) C (by decide) rfl (by decide) (vin_k (by decide)) dX7_good_37 ?_
        refine f_imul C dX7_good_38 ?_
        refine f_iconst (v := 1) C dX7_good_39 (by decide) ?_
        refine f_iadd C dX7_good_40 ?_
        refine f_istore (lv' := [(4, .int ((2 * (I5 21 0 0)) + 1)), (0, .ref (gad g 7 0)), (1, .int x1), (2, .int x2), (3, .int x3)]) C dX7_good_41 hl (by decide) rfl (fun ls hl => ?_)
        refine f_iload_n C dX7_good_43 rfl (lv_at hl 4 rfl) ?_
        refine f_iconst (v := 1) C dX7_good_44 (by decide) ?_
        refine f_icmp_ne (tgt := 57) C dX7_good_45 (by decide) (fun c7 => ?_) (fun c7 => ?_)
        · replace h := h.2 c7
          refine f_iload_n C dX7_good_57 rfl (lv_at hl 2 rfl) ?_
          refine f_iload_n C dX7_good_58 rfl (lv_at hl 3 rfl) ?_
          refine f_iload C dX7_good_59 (lv_at hl 0 rfl) ?_
          refine f_iconst (v := 1) C dX7_good_61 (by decide) ?_
          refine f_isub C dX7_good_62 ?_
          refine f_cSi (As := [.int x1, .int x2, .int (((2 * (I5 21 0 0)) + 1) - 1)]) (rest := []) (n := 3) C (c_X7_rowsTooGood h) ok_X7_rowsTooGood sm_X7_rowsTooGood kw_RX7_220 ⟨Nat.le_trans (by decide) hR.1, Nat.le_trans (by decide) hR.2⟩ rfl hl.1 (Nat.le_of_ble_eq_true rfl) dX7_good_63 (fun r8 I8 J8 h => ?_)
          exact f_iret C h dX7_good_66
        · replace h := h.1 c7
          refine f_iload C dX7_good_48 (lv_at hl 0 rfl) ?_
          refine f_iload_n C dX7_good_50 rfl (lv_at hl 2 rfl) ?_
          refine f_cSi (As := [.int ((2 * (I5 21 0 0)) + 1), .int x1]) (rest := []) (n := 2) C (c_X7_power h) ok_X7_power sm_X7_power kw_RX7_217 ⟨Nat.le_trans (by decide) hR.1, Nat.le_trans (by decide) hR.2⟩ rfl hl.1 (Nat.le_of_ble_eq_true rfl) dX7_good_51 (fun r9 I9 J9 h => ?_)
          refine f_goto (tgt := 66) C dX7_good_54 (by decide) ?_
          exact f_iret C h dX7_good_66
      · replace h := h.1 c6
        refine f_iconst (v := (-1)) C dX7_good_29 (by decide) ?_
        exact f_iret C h dX7_good_30

def B_X7_behind_54 (Q : Int32 → MI → MJ → Prop) (C54 : MI → MJ → Int32 → Int32 → Prop) (I : MI) (J : MJ) (x3 : Int32) (x4 : Int32) : Prop :=
  (x3 ≤ x4 → Q ((I 4 24 2) - (I 4 24 3)) I J) ∧
  (¬ (x3 ≤ x4) → wp_X4_finish (fun I9 J9 => C54 I9 J9 x3 (x4 + 1)) I J 24 (I 4 24 2) 0)
set_option maxRecDepth 20000 in
theorem b_X7_behind_54 {p : Program} {l : Launch} {e : Env} {R : Room} {s : State} {m : MethodId} {args : Array Value} {below : List Frame} {meth : Method} {c : Code} {g : Geo} (C : Cx g p s m args meth c cX7_behind 5 RX7 (some .int)) (hR : 3 ≤ R.frames ∧ 84 ≤ R.locals) {Q : Int32 → MI → MJ → Prop} {C54 : MI → MJ → Int32 → Int32 → Prop} (hC54 : ∀ (I : MI) (J : MJ) (x3 : Int32) (x4 : Int32), C54 I J x3 x4 → ∀ ls : Array Slot, lv_has ls 5 [(0, .ref (gad g 7 0)), (3, .int x3), (4, .int x4)] → Wf p l e R s m args below meth c (MQ below (Qg g (PI Q)) args s 0 0 (gA g)) g I J (F0 m 54 ls [])) {I : MI} {J : MJ} {x3 : Int32} {x4 : Int32} (h : B_X7_behind_54 Q C54 I J x3 x4) (ls : Array Slot) (hl : lv_has ls 5 [(0, .ref (gad g 7 0)), (3, .int x3), (4, .int x4)]) : Wf p l e R s m args below meth c (MQ below (Qg g (PI Q)) args s 0 0 (gA g)) g I J (F0 m 54 ls []) := by
  refine f_iload C dX7_behind_54 (lv_at hl 2 rfl) ?_
  refine f_iload_n C dX7_behind_56 rfl (lv_at hl 1 rfl) ?_
  refine f_icmp_ge (tgt := 84) C dX7_behind_57 (by decide) (fun c8 => ?_) (fun c8 => ?_)
  · replace h := h.1 c8
    refine f_aload_n C dX7_behind_84 rfl (lv_at hl 0 rfl) ?_
    refine ge_RX7_44 C (by decide) dX7_behind_85 ?_
    refine ge_RX7_109 C (by decide) dX7_behind_88 ?_
    refine f_aload_n C dX7_behind_91 rfl (lv_at hl 0 rfl) ?_
    refine ge_RX7_44 C (by decide) dX7_behind_92 ?_
    refine ge_RX7_112 C (by decide) dX7_behind_95 ?_
    refine f_isub C dX7_behind_98 ?_
    exact f_iret C h dX7_behind_99
  · replace h := h.2 c8
    refine f_aload_n C dX7_behind_60 rfl (lv_at hl 0 rfl) ?_
    refine ge_RX7_44 C (by decide) dX7_behind_61 ?_
    refine f_aload_n C dX7_behind_64 rfl (lv_at hl 0 rfl) ?_
    refine ge_RX7_44 C (by decide) dX7_behind_65 ?_
    refine ge_RX7_109 C (by decide) dX7_behind_68 ?_
    refine f_aload_n C dX7_behind_71 rfl (lv_at hl 0 rfl) ?_
    refine ge_RX7_34 C (by decide) dX7_behind_72 ?_
    refine f_cVv (As := [.int (I 4 24 2), .ref (gad g 2 0)]) (rest := []) (n := 2) (T0 := TX4) (N := 8) C (c_X4_finish (by decide) (by decide) h) ok_X4_finish im_X4_finish se_X4_finish kw_RX7_224 ⟨Nat.le_trans (by decide) hR.1, Nat.le_trans (by decide) hR.2⟩ (by decide) rfl rfl rfl hl.1 (Nat.le_of_ble_eq_true rfl) dX7_behind_75 (fun I9 J9 h => ?_)
    refine f_iinc (v := x4 + 1) (lv' := [(4, .int (x4 + 1)), (0, .ref (gad g 7 0)), (3, .int x3)]) C dX7_behind_78 hl (k := 2) rfl rfl (by decide) rfl (fun ls hl => ?_)
    refine f_goto (tgt := 54) C dX7_behind_81 (by decide) ?_
    exact hC54 _ _ _ _ h ls (lv_sub hl [1, 2, 0] rfl)

def L_X7_behind_54 (Q : Int32 → MI → MJ → Prop) : Nat → MI → MJ → Int32 → Int32 → Prop
  | 0 => fun _ _ _ _ => False
  | n + 1 => fun I J x3 x4 => B_X7_behind_54 Q (L_X7_behind_54 Q n) I J x3 x4
theorem t_X7_behind_54 {p : Program} {l : Launch} {e : Env} {R : Room} {s : State} {m : MethodId} {args : Array Value} {below : List Frame} {meth : Method} {c : Code} {g : Geo} (C : Cx g p s m args meth c cX7_behind 5 RX7 (some .int)) (hR : 3 ≤ R.frames ∧ 84 ≤ R.locals) {Q : Int32 → MI → MJ → Prop} : ∀ (n : Nat), ∀ (I : MI) (J : MJ) (x3 : Int32) (x4 : Int32), L_X7_behind_54 Q n I J x3 x4 → ∀ ls : Array Slot, lv_has ls 5 [(0, .ref (gad g 7 0)), (3, .int x3), (4, .int x4)] → Wf p l e R s m args below meth c (MQ below (Qg g (PI Q)) args s 0 0 (gA g)) g I J (F0 m 54 ls []) := by
  intro n
  induction n with
  | zero => intro I J x3 x4 h; exact h.elim
  | succ n ih => intro I J x3 x4 h ls hl; exact b_X7_behind_54 C hR ih h ls hl
def wp_X7_behind (Q : Int32 → MI → MJ → Prop) (I : MI) (J : MJ) (x1 : Int32) (x2 : Int32) (x3 : Int32) : Prop :=
  wp_X7_within (fun r1 I1 J1 => (r1 = 0 → Q ((-1000000)) I1 J1) ∧
  (¬ (r1 = 0) → wp_X7_within (fun r3 I3 J3 => (r3 = 0 → Q ((-1000000)) I3 J3) ∧
  (¬ (r3 = 0) → wp_X7_within (fun r5 I5 J5 => (r5 = 0 → Q ((-1000000)) I5 J5) ∧
  (¬ (r5 = 0) → wp_X4_begin (fun I7 J7 => ∃ n : Nat, L_X7_behind_54 Q n (up3 I7 4 24 5 x2) J7 x3 0) I5 J5 24 x1)) I3 J3 x3 0 40)) I1 J1 x2 ((-9)) 9)) I J x1 0 200
set_option maxRecDepth 20000 in
theorem c_X7_behind {l : Launch} {g : Geo} {Q : Int32 → MI → MJ → Prop} {I : MI} {J : MJ} {x1 : Int32} {x2 : Int32} {x3 : Int32} (h : wp_X7_behind Q I J x1 x2 x3) : Ct g l yX7_behind cX7_behind 5 (some .int) 3 84 [.ref (gad g 7 0), .int x1, .int x2, .int x3] I J (PI Q) := by
  refine Ct.of (by decide) ?_
  intro p e s m below meth c C
  have hR : 3 ≤ (Rm 3 84).frames ∧ 84 ≤ (Rm 3 84).locals := ⟨Nat.le_refl _, Nat.le_refl _⟩
  generalize Rm 3 84 = R at hR ⊢
  have hl := lv_entry ([.ref (gad g 7 0), .int x1, .int x2, .int x3]) (n := 5) (Nat.le_of_ble_eq_true rfl)
  rw [lg_entry_eq]
  generalize (lg_sl ([.ref (gad g 7 0), .int x1, .int x2, .int x3]) ++ List.replicate (5 - (lg_sl ([.ref (gad g 7 0), .int x1, .int x2, .int x3])).length) Slot.unset).toArray = ls at hl ⊢
  have hl : lv_has ls 5 [(0, .ref (gad g 7 0)), (1, .int x1), (2, .int x2), (3, .int x3)] := hl
  refine f_iload_n C dX7_behind_0 rfl (lv_at hl 1 rfl) ?_
  refine f_iconst (v := 0) C dX7_behind_1 (by decide) ?_
  refine f_sipush (v := 200) C dX7_behind_2 (by decide) ?_
  refine f_cSi (As := [.int x1, .int 0, .int 200]) (rest := []) (n := 3) C (c_X7_within h) ok_X7_within sm_X7_within kw_RX7_78 ⟨Nat.le_trans (by decide) hR.1, Nat.le_trans (by decide) hR.2⟩ rfl hl.1 (Nat.le_of_ble_eq_true rfl) dX7_behind_5 (fun r1 I1 J1 h => ?_)
  refine f_if_eq (tgt := 32) C dX7_behind_8 (by decide) (fun c2 => ?_) (fun c2 => ?_)
  · replace h := h.1 c2
    refine f_ldc C kc_RX7_101 dX7_behind_32 ?_
    exact f_iret C h dX7_behind_34
  · replace h := h.2 c2
    refine f_iload_n C dX7_behind_11 rfl (lv_at hl 2 rfl) ?_
    refine f_bipush (v := (-9)) C dX7_behind_12 (by decide) ?_
    refine f_bipush (v := 9) C dX7_behind_14 (by decide) ?_
    refine f_cSi (As := [.int x2, .int ((-9)), .int 9]) (rest := []) (n := 3) C (c_X7_within h) ok_X7_within sm_X7_within kw_RX7_78 ⟨Nat.le_trans (by decide) hR.1, Nat.le_trans (by decide) hR.2⟩ rfl hl.1 (Nat.le_of_ble_eq_true rfl) dX7_behind_16 (fun r3 I3 J3 h => ?_)
    refine f_if_eq (tgt := 32) C dX7_behind_19 (by decide) (fun c4 => ?_) (fun c4 => ?_)
    · replace h := h.1 c4
      refine f_ldc C kc_RX7_101 dX7_behind_32 ?_
      exact f_iret C h dX7_behind_34
    · replace h := h.2 c4
      refine f_iload_n C dX7_behind_22 rfl (lv_at hl 3 rfl) ?_
      refine f_iconst (v := 0) C dX7_behind_23 (by decide) ?_
      refine f_bipush (v := 40) C dX7_behind_24 (by decide) ?_
      refine f_cSi (As := [.int x3, .int 0, .int 40]) (rest := []) (n := 3) C (c_X7_within h) ok_X7_within sm_X7_within kw_RX7_78 ⟨Nat.le_trans (by decide) hR.1, Nat.le_trans (by decide) hR.2⟩ rfl hl.1 (Nat.le_of_ble_eq_true rfl) dX7_behind_26 (fun r5 I5 J5 h => ?_)
      refine f_if_ne (tgt := 35) C dX7_behind_29 (by decide) (fun c6 => ?_) (fun c6 => ?_)
      · replace h := h.2 c6
        refine f_aload_n C dX7_behind_35 rfl (lv_at hl 0 rfl) ?_
        refine ge_RX7_44 C (by decide) dX7_behind_36 ?_
        refine f_iload_n C dX7_behind_39 rfl (lv_at hl 1 rfl) ?_
        refine f_cVv (As := [.int x1]) (rest := []) (n := 1) (T0 := TX4) (N := 8) C (c_X4_begin (by decide) h) ok_X4_begin im_X4_begin se_X4_begin kw_RX7_90 ⟨Nat.le_trans (by decide) hR.1, Nat.le_trans (by decide) hR.2⟩ (by decide) rfl rfl rfl hl.1 (Nat.le_of_ble_eq_true rfl) dX7_behind_40 (fun I7 J7 h => ?_)
        refine f_aload_n C dX7_behind_43 rfl (lv_at hl 0 rfl) ?_
        refine ge_RX7_44 C (by decide) dX7_behind_44 ?_
        refine f_iload_n C dX7_behind_47 rfl (lv_at hl 2 rfl) ?_
        refine pu_RX7_118 C (by decide) dX7_behind_48 ?_
        refine f_iconst (v := 0) C dX7_behind_51 (by decide) ?_
        refine f_istore (lv' := [(4, .int 0), (0, .ref (gad g 7 0)), (1, .int x1), (2, .int x2), (3, .int x3)]) C dX7_behind_52 hl (by decide) rfl (fun ls hl => ?_)
        obtain ⟨n, h⟩ := h
        exact t_X7_behind_54 C hR n _ _ _ _ h ls (lv_sub hl [1, 4, 0] rfl)
      · replace h := h.1 c6
        refine f_ldc C kc_RX7_101 dX7_behind_32 ?_
        exact f_iret C h dX7_behind_34

def J_X7_card_53 (Q : Int32 → MI → MJ → Prop) (I : MI) (J : MJ) (x1 : Int32) (x3 : Int32) : Prop :=
  vp_in x1 10 ∧ (vp_in x1 10 ∧ (Q (I 18 0 (x1.toNatClampNeg)) (up3 I 18 0 (x1.toNatClampNeg) x3) J))
set_option maxRecDepth 20000 in
theorem t_X7_card_53 {p : Program} {l : Launch} {e : Env} {R : Room} {s : State} {m : MethodId} {args : Array Value} {below : List Frame} {meth : Method} {c : Code} {g : Geo} (C : Cx g p s m args meth c cX7_card 6 RX7 (some .int)) (hR : 1 ≤ R.frames ∧ 22 ≤ R.locals) {Q : Int32 → MI → MJ → Prop} {I : MI} {J : MJ} {x1 : Int32} {x3 : Int32} (h : J_X7_card_53 Q I J x1 x3) (ls : Array Slot) (hl : lv_has ls 6 [(1, .int x1), (3, .int x3)]) : Wf p l e R s m args below meth c (MQ below (Qg g (PI Q)) args s 0 0 (gA g)) g I J (F0 m 53 ls [.ref (gad g 18 0)]) := by
  refine f_astore (lv' := [(4, .ref (gad g 18 0)), (1, .int x1), (3, .int x3)]) C dX7_card_53 hl (by decide) rfl (fun ls hl => ?_)
  refine f_aload C dX7_card_55 (lv_at hl 0 rfl) ?_
  refine f_iload_n C dX7_card_57 rfl (lv_at hl 1 rfl) ?_
  obtain ⟨hi8, h⟩ := h
  refine al_k (n := 10) (k := x1.toNatClampNeg) C (by decide) rfl rfl hi8 dX7_card_58 ?_
  refine f_istore (lv' := [(5, .int (I 18 0 (x1.toNatClampNeg))), (4, .ref (gad g 18 0)), (1, .int x1), (3, .int x3)]) C dX7_card_59 hl (by decide) rfl (fun ls hl => ?_)
  refine f_aload C dX7_card_61 (lv_at hl 1 rfl) ?_
  refine f_iload_n C dX7_card_63 rfl (lv_at hl 2 rfl) ?_
  refine f_iload_n C dX7_card_64 rfl (lv_at hl 3 rfl) ?_
  obtain ⟨hi9, h⟩ := h
  refine as_k (n := 10) (k := x1.toNatClampNeg) C (by decide) (fun _ => rfl) rfl hi9 dX7_card_65 ?_
  refine f_iload C dX7_card_66 (lv_at hl 0 rfl) ?_
  exact f_iret C h dX7_card_68

def J_X7_card_53v1 (Q : Int32 → MI → MJ → Prop) (I : MI) (J : MJ) (x1 : Int32) (x3 : Int32) : Prop :=
  vp_in x1 10 ∧ (vp_in x1 10 ∧ (Q (I 17 0 (x1.toNatClampNeg)) (up3 I 17 0 (x1.toNatClampNeg) x3) J))
set_option maxRecDepth 20000 in
theorem t_X7_card_53v1 {p : Program} {l : Launch} {e : Env} {R : Room} {s : State} {m : MethodId} {args : Array Value} {below : List Frame} {meth : Method} {c : Code} {g : Geo} (C : Cx g p s m args meth c cX7_card 6 RX7 (some .int)) (hR : 1 ≤ R.frames ∧ 22 ≤ R.locals) {Q : Int32 → MI → MJ → Prop} {I : MI} {J : MJ} {x1 : Int32} {x3 : Int32} (h : J_X7_card_53v1 Q I J x1 x3) (ls : Array Slot) (hl : lv_has ls 6 [(1, .int x1), (3, .int x3)]) : Wf p l e R s m args below meth c (MQ below (Qg g (PI Q)) args s 0 0 (gA g)) g I J (F0 m 53 ls [.ref (gad g 17 0)]) := by
  refine f_astore (lv' := [(4, .ref (gad g 17 0)), (1, .int x1), (3, .int x3)]) C dX7_card_53 hl (by decide) rfl (fun ls hl => ?_)
  refine f_aload C dX7_card_55 (lv_at hl 0 rfl) ?_
  refine f_iload_n C dX7_card_57 rfl (lv_at hl 1 rfl) ?_
  obtain ⟨hi10, h⟩ := h
  refine al_k (n := 10) (k := x1.toNatClampNeg) C (by decide) rfl rfl hi10 dX7_card_58 ?_
  refine f_istore (lv' := [(5, .int (I 17 0 (x1.toNatClampNeg))), (4, .ref (gad g 17 0)), (1, .int x1), (3, .int x3)]) C dX7_card_59 hl (by decide) rfl (fun ls hl => ?_)
  refine f_aload C dX7_card_61 (lv_at hl 1 rfl) ?_
  refine f_iload_n C dX7_card_63 rfl (lv_at hl 2 rfl) ?_
  refine f_iload_n C dX7_card_64 rfl (lv_at hl 3 rfl) ?_
  obtain ⟨hi11, h⟩ := h
  refine as_k (n := 10) (k := x1.toNatClampNeg) C (by decide) (fun _ => rfl) rfl hi11 dX7_card_65 ?_
  refine f_iload C dX7_card_66 (lv_at hl 0 rfl) ?_
  exact f_iret C h dX7_card_68

def wp_X7_card (Q : Int32 → MI → MJ → Prop) (I : MI) (J : MJ) (x1 : Int32) (x2 : Int32) (x3 : Int32) : Prop :=
  wp_X7_within (fun r1 I1 J1 => (r1 = 0 → Q ((-1)) I1 J1) ∧
  (¬ (r1 = 0) → wp_X7_within (fun r3 I3 J3 => (r3 = 0 → Q ((-1)) I3 J3) ∧
  (¬ (r3 = 0) → wp_X7_within (fun r5 I5 J5 => (r5 = 0 → Q ((-1)) I5 J5) ∧
  (¬ (r5 = 0) → (x2 = 0 → J_X7_card_53v1 Q I5 J5 x1 x3) ∧
  (¬ (x2 = 0) → J_X7_card_53 Q I5 J5 x1 x3))) I3 J3 x3 0 200)) I1 J1 x2 0 1)) I J x1 0 9
set_option maxRecDepth 20000 in
theorem c_X7_card {l : Launch} {g : Geo} {Q : Int32 → MI → MJ → Prop} {I : MI} {J : MJ} {x1 : Int32} {x2 : Int32} {x3 : Int32} (h : wp_X7_card Q I J x1 x2 x3) : Ct g l yX7_card cX7_card 6 (some .int) 1 22 [.ref (gad g 7 0), .int x1, .int x2, .int x3] I J (PI Q) := by
  refine Ct.of (by decide) ?_
  intro p e s m below meth c C
  have hR : 1 ≤ (Rm 1 22).frames ∧ 22 ≤ (Rm 1 22).locals := ⟨Nat.le_refl _, Nat.le_refl _⟩
  generalize Rm 1 22 = R at hR ⊢
  have hl := lv_entry ([.ref (gad g 7 0), .int x1, .int x2, .int x3]) (n := 6) (Nat.le_of_ble_eq_true rfl)
  rw [lg_entry_eq]
  generalize (lg_sl ([.ref (gad g 7 0), .int x1, .int x2, .int x3]) ++ List.replicate (6 - (lg_sl ([.ref (gad g 7 0), .int x1, .int x2, .int x3])).length) Slot.unset).toArray = ls at hl ⊢
  have hl : lv_has ls 6 [(0, .ref (gad g 7 0)), (1, .int x1), (2, .int x2), (3, .int x3)] := hl
  refine f_iload_n C dX7_card_0 rfl (lv_at hl 1 rfl) ?_
  refine f_iconst (v := 0) C dX7_card_1 (by decide) ?_
  refine f_bipush (v := 9) C dX7_card_2 (by decide) ?_
  refine f_cSi (As := [.int x1, .int 0, .int 9]) (rest := []) (n := 3) C (c_X7_within h) ok_X7_within sm_X7_within kw_RX7_78 ⟨Nat.le_trans (by decide) hR.1, Nat.le_trans (by decide) hR.2⟩ rfl hl.1 (Nat.le_of_ble_eq_true rfl) dX7_card_4 (fun r1 I1 J1 h => ?_)
  refine f_if_eq (tgt := 30) C dX7_card_7 (by decide) (fun c2 => ?_) (fun c2 => ?_)
  · replace h := h.1 c2
    refine f_iconst (v := (-1)) C dX7_card_30 (by decide) ?_
    exact f_iret C h dX7_card_31
  · replace h := h.2 c2
    refine f_iload_n C dX7_card_10 rfl (lv_at hl 2 rfl) ?_
    refine f_iconst (v := 0) C dX7_card_11 (by decide) ?_
    refine f_iconst (v := 1) C dX7_card_12 (by decide) ?_
    refine f_cSi (As := [.int x2, .int 0, .int 1]) (rest := []) (n := 3) C (c_X7_within h) ok_X7_within sm_X7_within kw_RX7_78 ⟨Nat.le_trans (by decide) hR.1, Nat.le_trans (by decide) hR.2⟩ rfl hl.1 (Nat.le_of_ble_eq_true rfl) dX7_card_13 (fun r3 I3 J3 h => ?_)
    refine f_if_eq (tgt := 30) C dX7_card_16 (by decide) (fun c4 => ?_) (fun c4 => ?_)
    · replace h := h.1 c4
      refine f_iconst (v := (-1)) C dX7_card_30 (by decide) ?_
      exact f_iret C h dX7_card_31
    · replace h := h.2 c4
      refine f_iload_n C dX7_card_19 rfl (lv_at hl 3 rfl) ?_
      refine f_iconst (v := 0) C dX7_card_20 (by decide) ?_
      refine f_sipush (v := 200) C dX7_card_21 (by decide) ?_
      refine f_cSi (As := [.int x3, .int 0, .int 200]) (rest := []) (n := 3) C (c_X7_within h) ok_X7_within sm_X7_within kw_RX7_78 ⟨Nat.le_trans (by decide) hR.1, Nat.le_trans (by decide) hR.2⟩ rfl hl.1 (Nat.le_of_ble_eq_true rfl) dX7_card_24 (fun r5 I5 J5 h => ?_)
      refine f_if_ne (tgt := 32) C dX7_card_27 (by decide) (fun c6 => ?_) (fun c6 => ?_)
      · replace h := h.2 c6
        refine f_iload_n C dX7_card_32 rfl (lv_at hl 2 rfl) ?_
        refine f_if_ne (tgt := 46) C dX7_card_33 (by decide) (fun c7 => ?_) (fun c7 => ?_)
        · replace h := h.2 c7
          refine f_aload_n C dX7_card_46 rfl (lv_at hl 0 rfl) ?_
          refine ge_RX7_58 C (by decide) dX7_card_47 ?_
          refine ge_RX7_231 C (by decide) dX7_card_50 ?_
          exact t_X7_card_53 C hR h ls (lv_sub hl [1, 3] rfl)
        · replace h := h.1 c7
          refine f_aload_n C dX7_card_36 rfl (lv_at hl 0 rfl) ?_
          refine ge_RX7_58 C (by decide) dX7_card_37 ?_
          refine ge_RX7_228 C (by decide) dX7_card_40 ?_
          refine f_goto (tgt := 53) C dX7_card_43 (by decide) ?_
          exact t_X7_card_53v1 C hR h ls (lv_sub hl [1, 3] rfl)
      · replace h := h.1 c6
        refine f_iconst (v := (-1)) C dX7_card_30 (by decide) ?_
        exact f_iret C h dX7_card_31

def J_X7_plan_71 (Q : Int32 → MI → MJ → Prop) (I : MI) (J : MJ) (x3 : Int32) (s0 : Int32) : Prop :=
  wp_X5_bestScore (fun r9 I9 J9 => (x3 = 0 → wp_X5_pullsOf (fun r12 I12 J12 => Q r12 I12 J12) I9 J9 r9) ∧
  (¬ (x3 = 0) → wp_X5_wonOf (fun r11 I11 J11 => Q r11 I11 J11) I9 J9 r9)) I J s0
set_option maxRecDepth 20000 in
theorem t_X7_plan_71 {p : Program} {l : Launch} {e : Env} {R : Room} {s : State} {m : MethodId} {args : Array Value} {below : List Frame} {meth : Method} {c : Code} {g : Geo} (C : Cx g p s m args meth c cX7_plan 5 RX7 (some .int)) (hR : 16 ≤ R.frames ∧ 409 ≤ R.locals) {Q : Int32 → MI → MJ → Prop} {I : MI} {J : MJ} {x3 : Int32} {s0 : Int32} (h : J_X7_plan_71 Q I J x3 s0) (ls : Array Slot) (hl : lv_has ls 5 [(3, .int x3)]) : Wf p l e R s m args below meth c (MQ below (Qg g (PI Q)) args s 0 0 (gA g)) g I J (F0 m 71 ls [.int s0, .ref (gad g 5 0)]) := by
  refine f_cVi (As := [.int s0]) (rest := []) (n := 1) (T0 := TX5) (N := 8) C (c_X5_bestScore h) ok_X5_bestScore im_X5_bestScore se_X5_bestScore kw_RX7_237 ⟨Nat.le_trans (by decide) hR.1, Nat.le_trans (by decide) hR.2⟩ (by decide) rfl rfl rfl hl.1 (Nat.le_of_ble_eq_true rfl) dX7_plan_71 (fun r9 I9 J9 h => ?_)
  refine f_istore (lv' := [(4, .int r9), (3, .int x3)]) C dX7_plan_74 hl (by decide) rfl (fun ls hl => ?_)
  refine f_iload_n C dX7_plan_76 rfl (lv_at hl 1 rfl) ?_
  refine f_if_ne (tgt := 88) C dX7_plan_77 (by decide) (fun c10 => ?_) (fun c10 => ?_)
  · replace h := h.2 c10
    refine f_iload C dX7_plan_88 (lv_at hl 0 rfl) ?_
    refine f_cSi (As := [.int r9]) (rest := []) (n := 1) C (c_X5_wonOf h) ok_X5_wonOf sm_X5_wonOf kw_RX7_244 ⟨Nat.le_trans (by decide) hR.1, Nat.le_trans (by decide) hR.2⟩ rfl hl.1 (Nat.le_of_ble_eq_true rfl) dX7_plan_90 (fun r11 I11 J11 h => ?_)
    exact f_iret C h dX7_plan_93
  · replace h := h.1 c10
    refine f_iload C dX7_plan_80 (lv_at hl 0 rfl) ?_
    refine f_cSi (As := [.int r9]) (rest := []) (n := 1) C (c_X5_pullsOf h) ok_X5_pullsOf sm_X5_pullsOf kw_RX7_241 ⟨Nat.le_trans (by decide) hR.1, Nat.le_trans (by decide) hR.2⟩ rfl hl.1 (Nat.le_of_ble_eq_true rfl) dX7_plan_82 (fun r12 I12 J12 h => ?_)
    refine f_goto (tgt := 93) C dX7_plan_85 (by decide) ?_
    exact f_iret C h dX7_plan_93

def wp_X7_plan (Q : Int32 → MI → MJ → Prop) (I : MI) (J : MJ) (x1 : Int32) (x2 : Int32) (x3 : Int32) : Prop :=
  wp_X7_within (fun r1 I1 J1 => (r1 = 0 → Q ((-1)) I1 J1) ∧
  (¬ (r1 = 0) → wp_X7_within (fun r3 I3 J3 => (r3 = 0 → Q ((-1)) I3 J3) ∧
  (¬ (r3 = 0) → wp_X7_within (fun r5 I5 J5 => (r5 = 0 → Q ((-1)) I5 J5) ∧
  (¬ (r5 = 0) → wp_X5_begin (fun I7 J7 => (x3 = 2 → J_X7_plan_71 Q I7 J7 x3 0) ∧
  (¬ (x3 = 2) → J_X7_plan_71 Q I7 J7 x3 1)) I5 J5 x1 x2 (I5 21 0 0) (I5 21 0 2))) I3 J3 x3 0 2)) I1 J1 x2 1 10)) I J x1 0 200
set_option maxRecDepth 20000 in
theorem c_X7_plan {l : Launch} {g : Geo} {Q : Int32 → MI → MJ → Prop} {I : MI} {J : MJ} {x1 : Int32} {x2 : Int32} {x3 : Int32} (h : wp_X7_plan Q I J x1 x2 x3) : Ct g l yX7_plan cX7_plan 5 (some .int) 16 409 [.ref (gad g 7 0), .int x1, .int x2, .int x3] I J (PI Q) := by
  refine Ct.of (by decide) ?_
  intro p e s m below meth c C
  have hR : 16 ≤ (Rm 16 409).frames ∧ 409 ≤ (Rm 16 409).locals := ⟨Nat.le_refl _, Nat.le_refl _⟩
  generalize Rm 16 409 = R at hR ⊢
  have hl := lv_entry ([.ref (gad g 7 0), .int x1, .int x2, .int x3]) (n := 5) (Nat.le_of_ble_eq_true rfl)
  rw [lg_entry_eq]
  generalize (lg_sl ([.ref (gad g 7 0), .int x1, .int x2, .int x3]) ++ List.replicate (5 - (lg_sl ([.ref (gad g 7 0), .int x1, .int x2, .int x3])).length) Slot.unset).toArray = ls at hl ⊢
  have hl : lv_has ls 5 [(0, .ref (gad g 7 0)), (1, .int x1), (2, .int x2), (3, .int x3)] := hl
  refine f_iload_n C dX7_plan_0 rfl (lv_at hl 1 rfl) ?_
  refine f_iconst (v := 0) C dX7_plan_1 (by decide) ?_
  refine f_sipush (v := 200) C dX7_plan_2 (by decide) ?_
  refine f_cSi (As := [.int x1, .int 0, .int 200]) (rest := []) (n := 3) C (c_X7_within h) ok_X7_within sm_X7_within kw_RX7_78 ⟨Nat.le_trans (by decide) hR.1, Nat.le_trans (by decide) hR.2⟩ rfl hl.1 (Nat.le_of_ble_eq_true rfl) dX7_plan_5 (fun r1 I1 J1 h => ?_)
  refine f_if_eq (tgt := 30) C dX7_plan_8 (by decide) (fun c2 => ?_) (fun c2 => ?_)
  · replace h := h.1 c2
    refine f_iconst (v := (-1)) C dX7_plan_30 (by decide) ?_
    exact f_iret C h dX7_plan_31
  · replace h := h.2 c2
    refine f_iload_n C dX7_plan_11 rfl (lv_at hl 2 rfl) ?_
    refine f_iconst (v := 1) C dX7_plan_12 (by decide) ?_
    refine f_bipush (v := 10) C dX7_plan_13 (by decide) ?_
    refine f_cSi (As := [.int x2, .int 1, .int 10]) (rest := []) (n := 3) C (c_X7_within h) ok_X7_within sm_X7_within kw_RX7_78 ⟨Nat.le_trans (by decide) hR.1, Nat.le_trans (by decide) hR.2⟩ rfl hl.1 (Nat.le_of_ble_eq_true rfl) dX7_plan_15 (fun r3 I3 J3 h => ?_)
    refine f_if_eq (tgt := 30) C dX7_plan_18 (by decide) (fun c4 => ?_) (fun c4 => ?_)
    · replace h := h.1 c4
      refine f_iconst (v := (-1)) C dX7_plan_30 (by decide) ?_
      exact f_iret C h dX7_plan_31
    · replace h := h.2 c4
      refine f_iload_n C dX7_plan_21 rfl (lv_at hl 3 rfl) ?_
      refine f_iconst (v := 0) C dX7_plan_22 (by decide) ?_
      refine f_iconst (v := 2) C dX7_plan_23 (by decide) ?_
      refine f_cSi (As := [.int x3, .int 0, .int 2]) (rest := []) (n := 3) C (c_X7_within h) ok_X7_within sm_X7_within kw_RX7_78 ⟨Nat.le_trans (by decide) hR.1, Nat.le_trans (by decide) hR.2⟩ rfl hl.1 (Nat.le_of_ble_eq_true rfl) dX7_plan_24 (fun r5 I5 J5 h => ?_)
      refine f_if_ne (tgt := 32) C dX7_plan_27 (by decide) (fun c6 => ?_) (fun c6 => ?_)
      · replace h := h.2 c6
        refine f_aload_n C dX7_plan_32 rfl (lv_at hl 0 rfl) ?_
        refine ge_RX7_58 C (by decide) dX7_plan_33 ?_
        refine f_iload_n C dX7_plan_36 rfl (lv_at hl 1 rfl) ?_
        refine f_iload_n C dX7_plan_37 rfl (lv_at hl 2 rfl) ?_
        refine f_aload_n C dX7_plan_38 rfl (lv_at hl 0 rfl) ?_
        refine ge_RX7_20 C (by decide) dX7_plan_39 ?_
        refine f_iconst (v := 0) C dX7_plan_42 (by decide) ?_
        refine al_k (n := 3) (k := 0) C (by decide) rfl (by decide) (vin_k (by decide)) dX7_plan_43 ?_
        refine f_aload_n C dX7_plan_44 rfl (lv_at hl 0 rfl) ?_
        refine ge_RX7_20 C (by decide) dX7_plan_45 ?_
        refine f_iconst (v := 2) C dX7_plan_48 (by decide) ?_
        refine al_k (n := 3) (k := 2) C (by decide) rfl (by decide) (vin_k (by decide)) dX7_plan_49 ?_
        refine f_aload_n C dX7_plan_50 rfl (lv_at hl 0 rfl) ?_
        refine ge_RX7_34 C (by decide) dX7_plan_51 ?_
        refine f_cVv (As := [.int x1, .int x2, .int (I5 21 0 0), .int (I5 21 0 2), .ref (gad g 2 0)]) (rest := []) (n := 5) (T0 := TX5) (N := 8) C (c_X5_begin h) ok_X5_begin im_X5_begin se_X5_begin kw_RX7_234 ⟨Nat.le_trans (by decide) hR.1, Nat.le_trans (by decide) hR.2⟩ (by decide) rfl rfl rfl hl.1 (Nat.le_of_ble_eq_true rfl) dX7_plan_54 (fun I7 J7 h => ?_)
        refine f_aload_n C dX7_plan_57 rfl (lv_at hl 0 rfl) ?_
        refine ge_RX7_58 C (by decide) dX7_plan_58 ?_
        refine f_iload_n C dX7_plan_61 rfl (lv_at hl 3 rfl) ?_
        refine f_iconst (v := 2) C dX7_plan_62 (by decide) ?_
        refine f_icmp_eq (tgt := 70) C dX7_plan_63 (by decide) (fun c8 => ?_) (fun c8 => ?_)
        · replace h := h.1 c8
          refine f_iconst (v := 0) C dX7_plan_70 (by decide) ?_
          exact t_X7_plan_71 C hR h ls (lv_sub hl [3] rfl)
        · replace h := h.2 c8
          refine f_iconst (v := 1) C dX7_plan_66 (by decide) ?_
          refine f_goto (tgt := 71) C dX7_plan_67 (by decide) ?_
          exact t_X7_plan_71 C hR h ls (lv_sub hl [3] rfl)
      · replace h := h.1 c6
        refine f_iconst (v := (-1)) C dX7_plan_30 (by decide) ?_
        exact f_iret C h dX7_plan_31

def wp_X7_hull (Q : Int32 → MI → MJ → Prop) (I : MI) (J : MJ) (x1 : Int32) (x2 : Int32) : Prop :=
  wp_X7_within (fun r1 I1 J1 => (r1 = 0 → Q ((-1000000)) I1 J1) ∧
  (¬ (r1 = 0) → wp_X7_within (fun r3 I3 J3 => (r3 = 0 → Q ((-1000000)) I3 J3) ∧
  (¬ (r3 = 0) → vp_in x1 6 ∧ (vp_in x1 6 ∧ (Q (I3 12 0 (x1.toNatClampNeg)) (up3 I3 12 0 (x1.toNatClampNeg) x2) J3)))) I1 J1 x2 ((-9)) 9)) I J x1 0 5
set_option maxRecDepth 20000 in
theorem c_X7_hull {l : Launch} {g : Geo} {Q : Int32 → MI → MJ → Prop} {I : MI} {J : MJ} {x1 : Int32} {x2 : Int32} (h : wp_X7_hull Q I J x1 x2) : Ct g l yX7_hull cX7_hull 4 (some .int) 1 22 [.ref (gad g 7 0), .int x1, .int x2] I J (PI Q) := by
  refine Ct.of (by decide) ?_
  intro p e s m below meth c C
  have hR : 1 ≤ (Rm 1 22).frames ∧ 22 ≤ (Rm 1 22).locals := ⟨Nat.le_refl _, Nat.le_refl _⟩
  generalize Rm 1 22 = R at hR ⊢
  have hl := lv_entry ([.ref (gad g 7 0), .int x1, .int x2]) (n := 4) (Nat.le_of_ble_eq_true rfl)
  rw [lg_entry_eq]
  generalize (lg_sl ([.ref (gad g 7 0), .int x1, .int x2]) ++ List.replicate (4 - (lg_sl ([.ref (gad g 7 0), .int x1, .int x2])).length) Slot.unset).toArray = ls at hl ⊢
  have hl : lv_has ls 4 [(0, .ref (gad g 7 0)), (1, .int x1), (2, .int x2)] := hl
  refine f_iload_n C dX7_hull_0 rfl (lv_at hl 1 rfl) ?_
  refine f_iconst (v := 0) C dX7_hull_1 (by decide) ?_
  refine f_iconst (v := 5) C dX7_hull_2 (by decide) ?_
  refine f_cSi (As := [.int x1, .int 0, .int 5]) (rest := []) (n := 3) C (c_X7_within h) ok_X7_within sm_X7_within kw_RX7_78 ⟨Nat.le_trans (by decide) hR.1, Nat.le_trans (by decide) hR.2⟩ rfl hl.1 (Nat.le_of_ble_eq_true rfl) dX7_hull_3 (fun r1 I1 J1 h => ?_)
  refine f_if_eq (tgt := 20) C dX7_hull_6 (by decide) (fun c2 => ?_) (fun c2 => ?_)
  · replace h := h.1 c2
    refine f_ldc C kc_RX7_101 dX7_hull_20 ?_
    exact f_iret C h dX7_hull_22
  · replace h := h.2 c2
    refine f_iload_n C dX7_hull_9 rfl (lv_at hl 2 rfl) ?_
    refine f_bipush (v := (-9)) C dX7_hull_10 (by decide) ?_
    refine f_bipush (v := 9) C dX7_hull_12 (by decide) ?_
    refine f_cSi (As := [.int x2, .int ((-9)), .int 9]) (rest := []) (n := 3) C (c_X7_within h) ok_X7_within sm_X7_within kw_RX7_78 ⟨Nat.le_trans (by decide) hR.1, Nat.le_trans (by decide) hR.2⟩ rfl hl.1 (Nat.le_of_ble_eq_true rfl) dX7_hull_14 (fun r3 I3 J3 h => ?_)
    refine f_if_ne (tgt := 23) C dX7_hull_17 (by decide) (fun c4 => ?_) (fun c4 => ?_)
    · replace h := h.2 c4
      refine f_aload_n C dX7_hull_23 rfl (lv_at hl 0 rfl) ?_
      refine ge_RX7_65 C (by decide) dX7_hull_24 ?_
      refine ge_RX7_247 C (by decide) dX7_hull_27 ?_
      refine f_iload_n C dX7_hull_30 rfl (lv_at hl 1 rfl) ?_
      obtain ⟨hi5, h⟩ := h
      refine al_k (n := 6) (k := x1.toNatClampNeg) C (by decide) rfl rfl hi5 dX7_hull_31 ?_
      refine f_istore_n (lv' := [(3, .int (I3 12 0 (x1.toNatClampNeg))), (0, .ref (gad g 7 0)), (1, .int x1), (2, .int x2)]) C dX7_hull_32 rfl hl (by decide) rfl (fun ls hl => ?_)
      refine f_aload_n C dX7_hull_33 rfl (lv_at hl 1 rfl) ?_
      refine ge_RX7_65 C (by decide) dX7_hull_34 ?_
      refine ge_RX7_247 C (by decide) dX7_hull_37 ?_
      refine f_iload_n C dX7_hull_40 rfl (lv_at hl 2 rfl) ?_
      refine f_iload_n C dX7_hull_41 rfl (lv_at hl 3 rfl) ?_
      obtain ⟨hi6, h⟩ := h
      refine as_k (n := 6) (k := x1.toNatClampNeg) C (by decide) (fun _ => rfl) rfl hi6 dX7_hull_42 ?_
      refine f_iload_n C dX7_hull_43 rfl (lv_at hl 0 rfl) ?_
      exact f_iret C h dX7_hull_44
    · replace h := h.1 c4
      refine f_ldc C kc_RX7_101 dX7_hull_20 ?_
      exact f_iret C h dX7_hull_22

def wp_X7_beats (Q : Int32 → MI → MJ → Prop) (I : MI) (J : MJ) (x1 : Int32) (x2 : Int32) : Prop :=
  wp_X7_within (fun r1 I1 J1 => (r1 = 0 → Q ((-1000000)) I1 J1) ∧
  (¬ (r1 = 0) → wp_X7_within (fun r3 I3 J3 => (r3 = 0 → Q ((-1000000)) I3 J3) ∧
  (¬ (r3 = 0) → wp_X1_seek (fun r5 I5 J5 => (r5 = 0 → Q ((-1000000)) I5 J5) ∧
  (¬ (r5 = 0) → (x2 = 0 → Q (I5 1 0 1) I5 J5) ∧
  (¬ (x2 = 0) → (x2 = 1 → Q (I5 1 0 2) I5 J5) ∧
  (¬ (x2 = 1) → (x2 = 2 → Q (I5 1 0 3) I5 J5) ∧
  (¬ (x2 = 2) → Q (I5 1 0 4) I5 J5))))) I3 J3 x1)) I1 J1 x2 0 3)) I J x1 ((-500)) 500
set_option maxRecDepth 20000 in
theorem c_X7_beats {l : Launch} {g : Geo} {Q : Int32 → MI → MJ → Prop} {I : MI} {J : MJ} {x1 : Int32} {x2 : Int32} (h : wp_X7_beats Q I J x1 x2) : Ct g l yX7_beats cX7_beats 3 (some .int) 2 50 [.ref (gad g 7 0), .int x1, .int x2] I J (PI Q) := by
  refine Ct.of (by decide) ?_
  intro p e s m below meth c C
  have hR : 2 ≤ (Rm 2 50).frames ∧ 50 ≤ (Rm 2 50).locals := ⟨Nat.le_refl _, Nat.le_refl _⟩
  generalize Rm 2 50 = R at hR ⊢
  have hl := lv_entry ([.ref (gad g 7 0), .int x1, .int x2]) (n := 3) (Nat.le_of_ble_eq_true rfl)
  rw [lg_entry_eq]
  generalize (lg_sl ([.ref (gad g 7 0), .int x1, .int x2]) ++ List.replicate (3 - (lg_sl ([.ref (gad g 7 0), .int x1, .int x2])).length) Slot.unset).toArray = ls at hl ⊢
  have hl : lv_has ls 3 [(0, .ref (gad g 7 0)), (1, .int x1), (2, .int x2)] := hl
  refine f_iload_n C dX7_beats_0 rfl (lv_at hl 1 rfl) ?_
  refine f_sipush (v := (-500)) C dX7_beats_1 (by decide) ?_
  refine f_sipush (v := 500) C dX7_beats_4 (by decide) ?_
  refine f_cSi (As := [.int x1, .int ((-500)), .int 500]) (rest := []) (n := 3) C (c_X7_within h) ok_X7_within sm_X7_within kw_RX7_78 ⟨Nat.le_trans (by decide) hR.1, Nat.le_trans (by decide) hR.2⟩ rfl hl.1 (Nat.le_of_ble_eq_true rfl) dX7_beats_7 (fun r1 I1 J1 h => ?_)
  refine f_if_eq (tgt := 33) C dX7_beats_10 (by decide) (fun c2 => ?_) (fun c2 => ?_)
  · replace h := h.1 c2
    refine f_ldc C kc_RX7_101 dX7_beats_33 ?_
    exact f_iret C h dX7_beats_35
  · replace h := h.2 c2
    refine f_iload_n C dX7_beats_13 rfl (lv_at hl 2 rfl) ?_
    refine f_iconst (v := 0) C dX7_beats_14 (by decide) ?_
    refine f_iconst (v := 3) C dX7_beats_15 (by decide) ?_
    refine f_cSi (As := [.int x2, .int 0, .int 3]) (rest := []) (n := 3) C (c_X7_within h) ok_X7_within sm_X7_within kw_RX7_78 ⟨Nat.le_trans (by decide) hR.1, Nat.le_trans (by decide) hR.2⟩ rfl hl.1 (Nat.le_of_ble_eq_true rfl) dX7_beats_16 (fun r3 I3 J3 h => ?_)
    refine f_if_eq (tgt := 33) C dX7_beats_19 (by decide) (fun c4 => ?_) (fun c4 => ?_)
    · replace h := h.1 c4
      refine f_ldc C kc_RX7_101 dX7_beats_33 ?_
      exact f_iret C h dX7_beats_35
    · replace h := h.2 c4
      refine f_aload_n C dX7_beats_22 rfl (lv_at hl 0 rfl) ?_
      refine ge_RX7_65 C (by decide) dX7_beats_23 ?_
      refine f_iload_n C dX7_beats_26 rfl (lv_at hl 1 rfl) ?_
      refine f_cVi (As := [.int x1]) (rest := []) (n := 1) (T0 := TX1) (N := 5) C (c_X1_seek h) ok_X1_seek im_X1_seek se_X1_seek kw_RX7_248 ⟨Nat.le_trans (by decide) hR.1, Nat.le_trans (by decide) hR.2⟩ (by decide) rfl rfl rfl hl.1 (Nat.le_of_ble_eq_true rfl) dX7_beats_27 (fun r5 I5 J5 h => ?_)
      refine f_if_ne (tgt := 36) C dX7_beats_30 (by decide) (fun c6 => ?_) (fun c6 => ?_)
      · replace h := h.2 c6
        refine f_iload_n C dX7_beats_36 rfl (lv_at hl 2 rfl) ?_
        by_cases c7 : x2 = 0
        · replace h := h.1 c7
          refine f_tableIn (tgt := 64) (off := 27) C dX7_beats_37 (by rw [c7]; decide) (by rw [c7]; decide) (by rw [c7]; decide) (by decide) ?_
          refine f_aload_n C dX7_beats_64 rfl (lv_at hl 0 rfl) ?_
          refine ge_RX7_65 C (by decide) dX7_beats_65 ?_
          refine ge_RX7_251 C (by decide) dX7_beats_68 ?_
          exact f_iret C h dX7_beats_71
        replace h := h.2 c7
        by_cases c8 : x2 = 1
        · replace h := h.1 c8
          refine f_tableIn (tgt := 72) (off := 35) C dX7_beats_37 (by rw [c8]; decide) (by rw [c8]; decide) (by rw [c8]; decide) (by decide) ?_
          refine f_aload_n C dX7_beats_72 rfl (lv_at hl 0 rfl) ?_
          refine ge_RX7_65 C (by decide) dX7_beats_73 ?_
          refine ge_RX7_254 C (by decide) dX7_beats_76 ?_
          exact f_iret C h dX7_beats_79
        replace h := h.2 c8
        by_cases c9 : x2 = 2
        · replace h := h.1 c9
          refine f_tableIn (tgt := 80) (off := 43) C dX7_beats_37 (by rw [c9]; decide) (by rw [c9]; decide) (by rw [c9]; decide) (by decide) ?_
          refine f_aload_n C dX7_beats_80 rfl (lv_at hl 0 rfl) ?_
          refine ge_RX7_65 C (by decide) dX7_beats_81 ?_
          refine ge_RX7_257 C (by decide) dX7_beats_84 ?_
          exact f_iret C h dX7_beats_87
        replace h := h.2 c9
        refine f_tableOut (tgt := 88) C dX7_beats_37 (by have e7 := ne_toInt (z := 0) c7 (by decide); have e8 := ne_toInt (z := 1) c8 (by decide); have e9 := ne_toInt (z := 2) c9 (by decide); omega) (by decide) ?_
        refine f_aload_n C dX7_beats_88 rfl (lv_at hl 0 rfl) ?_
        refine ge_RX7_65 C (by decide) dX7_beats_89 ?_
        refine ge_RX7_260 C (by decide) dX7_beats_92 ?_
        exact f_iret C h dX7_beats_95
      · replace h := h.1 c6
        refine f_ldc C kc_RX7_101 dX7_beats_33 ?_
        exact f_iret C h dX7_beats_35

