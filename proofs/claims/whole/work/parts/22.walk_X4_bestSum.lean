def B_X4_bestSum_6 (Q : Int32 → MI → MJ → Prop) (C6 : MI → MJ → Nat → Int32 → Int32 → Int32 → Int32 → Int32 → Prop) (I : MI) (J : MJ) (n0 : Nat) (x1 : Int32) (x2 : Int32) (x3 : Int32) (x4 : Int32) (x5 : Int32) : Prop :=
  (x1 ≤ x5 → Q x4 I J) ∧
  (¬ (x1 ≤ x5) → wp_X4_betterThan (fun r2 I2 J2 => (x2 ≤ r2 → C6 I2 J2 n0 x1 x2 x3 x4 (x5 + 1)) ∧
  (¬ (x2 ≤ r2) → vp_in x5 12 ∧ (wp_J9_min_7cf53 (fun r5 I5 J5 => C6 I5 J5 n0 x1 x2 x3 (x4 + r5) (x5 + 1)) I2 J2 (I2 16 n0 (x5.toNatClampNeg)) x3))) I J n0 x5 x1)
set_option maxRecDepth 20000 in
theorem b_X4_bestSum_6 {p : Program} {l : Launch} {e : Env} {R : Room} {s : State} {m : MethodId} {args : Array Value} {below : List Frame} {meth : Method} {c : Code} {g : Geo} (C : Cx g p s m args meth c cX4_bestSum 6 RX4 (some .int)) (hR : 1 ≤ R.frames ∧ 24 ≤ R.locals) {Q : Int32 → MI → MJ → Prop} {C6 : MI → MJ → Nat → Int32 → Int32 → Int32 → Int32 → Int32 → Prop} (hC6 : ∀ (I : MI) (J : MJ) (n0 : Nat) (x1 : Int32) (x2 : Int32) (x3 : Int32) (x4 : Int32) (x5 : Int32), n0 < 25 → C6 I J n0 x1 x2 x3 x4 x5 → ∀ ls : Array Slot, lv_has ls 6 [(0, .ref (gad g 4 n0)), (1, .int x1), (2, .int x2), (3, .int x3), (4, .int x4), (5, .int x5)] → Wf p l e R s m args below meth c (MQ below (Qg g (PI Q)) args s 0 0 (gA g)) g I J (F0 m 6 ls [])) {I : MI} {J : MJ} {n0 : Nat} {x1 : Int32} {x2 : Int32} {x3 : Int32} {x4 : Int32} {x5 : Int32} (hn0 : n0 < 25) (h : B_X4_bestSum_6 Q C6 I J n0 x1 x2 x3 x4 x5) (ls : Array Slot) (hl : lv_has ls 6 [(0, .ref (gad g 4 n0)), (1, .int x1), (2, .int x2), (3, .int x3), (4, .int x4), (5, .int x5)]) : Wf p l e R s m args below meth c (MQ below (Qg g (PI Q)) args s 0 0 (gA g)) g I J (F0 m 6 ls []) := by
  refine f_iload C dX4_bestSum_6 (lv_at hl 5 rfl) ?_
  refine f_iload_n C dX4_bestSum_8 rfl (lv_at hl 1 rfl) ?_
  refine f_icmp_ge (tgt := 45) C dX4_bestSum_9 (by decide) (fun c1 => ?_) (fun c1 => ?_)
  · replace h := h.1 c1
    refine f_iload C dX4_bestSum_45 (lv_at hl 4 rfl) ?_
    exact f_iret C h dX4_bestSum_47
  · replace h := h.2 c1
    refine f_aload_n C dX4_bestSum_12 rfl (lv_at hl 0 rfl) ?_
    refine f_iload C dX4_bestSum_13 (lv_at hl 5 rfl) ?_
    refine f_iload_n C dX4_bestSum_15 rfl (lv_at hl 1 rfl) ?_
    refine f_cVi (As := [.int x5, .int x1]) (rest := []) (n := 2) (T0 := TX4) (N := 8) C (c_X4_betterThan hn0 h) ok_X4_betterThan im_X4_betterThan se_X4_betterThan kw_RX4_79 ⟨Nat.le_trans (by decide) hR.1, Nat.le_trans (by decide) hR.2⟩ hn0 rfl rfl rfl hl.1 (Nat.le_of_ble_eq_true rfl) dX4_bestSum_16 (fun r2 I2 J2 h => ?_)
    refine f_iload_n C dX4_bestSum_19 rfl (lv_at hl 2 rfl) ?_
    refine f_icmp_ge (tgt := 39) C dX4_bestSum_20 (by decide) (fun c3 => ?_) (fun c3 => ?_)
    · replace h := h.1 c3
      refine f_iinc (v := x5 + 1) (lv' := [(5, .int (x5 + 1)), (0, .ref (gad g 4 n0)), (1, .int x1), (2, .int x2), (3, .int x3), (4, .int x4)]) C dX4_bestSum_39 hl (k := 5) rfl rfl (by decide) rfl (fun ls hl => ?_)
      refine f_goto (tgt := 6) C dX4_bestSum_42 (by decide) ?_
      exact hC6 _ _ _ _ _ _ _ _ hn0 h ls (lv_sub hl [1, 2, 3, 4, 5, 0] rfl)
    · replace h := h.2 c3
      refine f_iload C dX4_bestSum_23 (lv_at hl 4 rfl) ?_
      refine f_aload_n C dX4_bestSum_25 rfl (lv_at hl 0 rfl) ?_
      refine ge_RX4_15 C hn0 dX4_bestSum_26 ?_
      refine f_iload C dX4_bestSum_29 (lv_at hl 5 rfl) ?_
      obtain ⟨hi4, h⟩ := h
      refine al_k (n := 12) (k := x5.toNatClampNeg) C hn0 rfl rfl hi4 dX4_bestSum_31 ?_
      refine f_iload_n C dX4_bestSum_32 rfl (lv_at hl 3 rfl) ?_
      refine f_cSi (As := [.int (I2 16 n0 (x5.toNatClampNeg)), .int x3]) (rest := [.int x4]) (n := 2) C (c_J9_min_7cf53 h) ok_J9_min_7cf53 sm_J9_min_7cf53 kw_RX4_52 ⟨Nat.le_trans (by decide) hR.1, Nat.le_trans (by decide) hR.2⟩ rfl hl.1 (Nat.le_of_ble_eq_true rfl) dX4_bestSum_33 (fun r5 I5 J5 h => ?_)
      refine f_iadd C dX4_bestSum_36 ?_
      refine f_istore (lv' := [(4, .int (x4 + r5)), (0, .ref (gad g 4 n0)), (1, .int x1), (2, .int x2), (3, .int x3), (5, .int x5)]) C dX4_bestSum_37 hl (by decide) rfl (fun ls hl => ?_)
      refine f_iinc (v := x5 + 1) (lv' := [(5, .int (x5 + 1)), (4, .int (x4 + r5)), (0, .ref (gad g 4 n0)), (1, .int x1), (2, .int x2), (3, .int x3)]) C dX4_bestSum_39 hl (k := 5) rfl rfl (by decide) rfl (fun ls hl => ?_)
      refine f_goto (tgt := 6) C dX4_bestSum_42 (by decide) ?_
      exact hC6 _ _ _ _ _ _ _ _ hn0 h ls (lv_sub hl [2, 3, 4, 5, 1, 0] rfl)

def L_X4_bestSum_6 (Q : Int32 → MI → MJ → Prop) : Nat → MI → MJ → Nat → Int32 → Int32 → Int32 → Int32 → Int32 → Prop
  | 0 => fun _ _ _ _ _ _ _ _ => False
  | n + 1 => fun I J n0 x1 x2 x3 x4 x5 => B_X4_bestSum_6 Q (L_X4_bestSum_6 Q n) I J n0 x1 x2 x3 x4 x5
theorem t_X4_bestSum_6 {p : Program} {l : Launch} {e : Env} {R : Room} {s : State} {m : MethodId} {args : Array Value} {below : List Frame} {meth : Method} {c : Code} {g : Geo} (C : Cx g p s m args meth c cX4_bestSum 6 RX4 (some .int)) (hR : 1 ≤ R.frames ∧ 24 ≤ R.locals) {Q : Int32 → MI → MJ → Prop} : ∀ (n : Nat), ∀ (I : MI) (J : MJ) (n0 : Nat) (x1 : Int32) (x2 : Int32) (x3 : Int32) (x4 : Int32) (x5 : Int32), n0 < 25 → L_X4_bestSum_6 Q n I J n0 x1 x2 x3 x4 x5 → ∀ ls : Array Slot, lv_has ls 6 [(0, .ref (gad g 4 n0)), (1, .int x1), (2, .int x2), (3, .int x3), (4, .int x4), (5, .int x5)] → Wf p l e R s m args below meth c (MQ below (Qg g (PI Q)) args s 0 0 (gA g)) g I J (F0 m 6 ls []) := by
  intro n
  induction n with
  | zero => intro I J n0 x1 x2 x3 x4 x5 hn0 h; exact h.elim
  | succ n ih => intro I J n0 x1 x2 x3 x4 x5 hn0 h ls hl; exact b_X4_bestSum_6 C hR ih hn0 h ls hl
def wp_X4_bestSum (Q : Int32 → MI → MJ → Prop) (I : MI) (J : MJ) (n0 : Nat) (x1 : Int32) (x2 : Int32) (x3 : Int32) : Prop :=
  ∃ n : Nat, L_X4_bestSum_6 Q n I J n0 x1 x2 x3 0 0
set_option maxRecDepth 20000 in
theorem c_X4_bestSum {l : Launch} {g : Geo} {Q : Int32 → MI → MJ → Prop} {I : MI} {J : MJ} {n0 : Nat} {x1 : Int32} {x2 : Int32} {x3 : Int32} (hn0 : n0 < 25) (h : wp_X4_bestSum Q I J n0 x1 x2 x3) : Ct g l yX4_bestSum cX4_bestSum 6 (some .int) 1 24 [.ref (gad g 4 n0), .int x1, .int x2, .int x3] I J (PI Q) := by
  refine Ct.of (by decide) ?_
  intro p e s m below meth c C
  have hR : 1 ≤ (Rm 1 24).frames ∧ 24 ≤ (Rm 1 24).locals := ⟨Nat.le_refl _, Nat.le_refl _⟩
  generalize Rm 1 24 = R at hR ⊢
  have hl := lv_entry ([.ref (gad g 4 n0), .int x1, .int x2, .int x3]) (n := 6) (Nat.le_of_ble_eq_true rfl)
  rw [lg_entry_eq]
  generalize (lg_sl ([.ref (gad g 4 n0), .int x1, .int x2, .int x3]) ++ List.replicate (6 - (lg_sl ([.ref (gad g 4 n0), .int x1, .int x2, .int x3])).length) Slot.unset).toArray = ls at hl ⊢
  have hl : lv_has ls 6 [(0, .ref (gad g 4 n0)), (1, .int x1), (2, .int x2), (3, .int x3)] := hl
  refine f_iconst (v := 0) C dX4_bestSum_0 (by decide) ?_
  refine f_istore (lv' := [(4, .int 0), (0, .ref (gad g 4 n0)), (1, .int x1), (2, .int x2), (3, .int x3)]) C dX4_bestSum_1 hl (by decide) rfl (fun ls hl => ?_)
  refine f_iconst (v := 0) C dX4_bestSum_3 (by decide) ?_
  refine f_istore (lv' := [(5, .int 0), (4, .int 0), (0, .ref (gad g 4 n0)), (1, .int x1), (2, .int x2), (3, .int x3)]) C dX4_bestSum_4 hl (by decide) rfl (fun ls hl => ?_)
  obtain ⟨n, h⟩ := h
  exact t_X4_bestSum_6 C hR n _ _ _ _ _ _ _ _ hn0 h ls (lv_sub hl [2, 3, 4, 5, 1, 0] rfl)

def wp_X4_finish (Q : MI → MJ → Prop) (I : MI) (J : MJ) (n0 : Nat) (x1 : Int32) (n2 : Nat) : Prop :=
  wp_J9_min_7cf53 (fun r1 I1 J1 => wp_X2_lastOf (fun r2 I2 J2 => wp_X2_bestOf (fun r3 I3 J3 => wp_X2_ceiling (fun r4 I4 J4 => wp_X4_bestSum (fun r5 I5 J5 => wp_X2_moved (fun r6 I6 J6 => wp_X7_clamp (fun r7 I7 J7 => Q (up3 I7 4 n0 2 r7) J7) (up3 I6 4 n0 3 r6) J6 (((up3 I6 4 n0 3 r6) 4 n0 2) + ((up3 I6 4 n0 3 r6) 4 n0 5)) 0 200) I5 J5 n2 (I3 4 n0 3) r5 r3) I4 J4 n0 r2 r3 r4) I3 J3 n2 (I3 4 n0 3)) I2 J2 n2 r2) (up3 (up3 I1 4 n0 7 r1) 4 n0 6 (((up3 I1 4 n0 7 r1) 4 n0 6) + 1)) J1 n2 ((up3 (up3 I1 4 n0 7 r1) 4 n0 6 (((up3 I1 4 n0 7 r1) 4 n0 6) + 1)) 4 n0 7)) (up3 (row3 I 16 n0 (va_cpy (I 16 n0) (I 16 n0) 0 1 11)) 16 n0 0 x1) J 12 (((up3 (row3 I 16 n0 (va_cpy (I 16 n0) (I 16 n0) 0 1 11)) 16 n0 0 x1) 4 n0 7) + 1)
set_option maxRecDepth 20000 in
theorem c_X4_finish {l : Launch} {g : Geo} {Q : MI → MJ → Prop} {I : MI} {J : MJ} {n0 : Nat} {x1 : Int32} {n2 : Nat} (hn0 : n0 < 25) (hn2 : n2 < 2) (h : wp_X4_finish Q I J n0 x1 n2) : Ct g l yX4_finish cX4_finish 5 none 2 60 [.ref (gad g 4 n0), .int x1, .ref (gad g 2 n2)] I J (PV Q) := by
  refine Ct.of (by decide) ?_
  intro p e s m below meth c C
  have hR : 2 ≤ (Rm 2 60).frames ∧ 60 ≤ (Rm 2 60).locals := ⟨Nat.le_refl _, Nat.le_refl _⟩
  generalize Rm 2 60 = R at hR ⊢
  have hl := lv_entry ([.ref (gad g 4 n0), .int x1, .ref (gad g 2 n2)]) (n := 5) (Nat.le_of_ble_eq_true rfl)
  rw [lg_entry_eq]
  generalize (lg_sl ([.ref (gad g 4 n0), .int x1, .ref (gad g 2 n2)]) ++ List.replicate (5 - (lg_sl ([.ref (gad g 4 n0), .int x1, .ref (gad g 2 n2)])).length) Slot.unset).toArray = ls at hl ⊢
  have hl : lv_has ls 5 [(0, .ref (gad g 4 n0)), (1, .int x1), (2, .ref (gad g 2 n2))] := hl
  refine f_aload_n C dX4_finish_0 rfl (lv_at hl 0 rfl) ?_
  refine ge_RX4_15 C hn0 dX4_finish_1 ?_
  refine f_iconst (v := 0) C dX4_finish_4 (by decide) ?_
  refine f_aload_n C dX4_finish_5 rfl (lv_at hl 0 rfl) ?_
  refine ge_RX4_15 C hn0 dX4_finish_6 ?_
  refine f_iconst (v := 1) C dX4_finish_9 (by decide) ?_
  refine f_bipush (v := 11) C dX4_finish_10 (by decide) ?_
  refine cp_k (sp' := 0) (dp' := 1) (n' := 11) (n0 := 12) (n1 := 12) C hl.1 kw_RX4_37 hn0 hn0 rfl (fun _ => rfl) (by decide) (by decide) (by decide) (by decide) (by decide) (by decide) (by decide) (by decide) hR (by decide) dX4_finish_12 ?_
  refine f_aload_n C dX4_finish_15 rfl (lv_at hl 0 rfl) ?_
  refine ge_RX4_15 C hn0 dX4_finish_16 ?_
  refine f_iconst (v := 0) C dX4_finish_19 (by decide) ?_
  refine f_iload_n C dX4_finish_20 rfl (lv_at hl 1 rfl) ?_
  refine as_k (n := 12) (k := 0) C hn0 (fun _ => rfl) (by decide) (vin_k (by decide)) dX4_finish_21 ?_
  refine f_aload_n C dX4_finish_22 rfl (lv_at hl 0 rfl) ?_
  refine f_bipush (v := 12) C dX4_finish_23 (by decide) ?_
  refine f_aload_n C dX4_finish_25 rfl (lv_at hl 0 rfl) ?_
  refine ge_RX4_34 C hn0 dX4_finish_26 ?_
  refine f_iconst (v := 1) C dX4_finish_29 (by decide) ?_
  refine f_iadd C dX4_finish_30 ?_
  refine f_cSi (As := [.int 12, .int (((up3 (row3 I 16 n0 (va_cpy (I 16 n0) (I 16 n0) 0 1 11)) 16 n0 0 x1) 4 n0 7) + 1)]) (rest := [.ref (gad g 4 n0)]) (n := 2) C (c_J9_min_7cf53 h) ok_J9_min_7cf53 sm_J9_min_7cf53 kw_RX4_52 ⟨Nat.le_trans (by decide) hR.1, Nat.le_trans (by decide) hR.2⟩ rfl hl.1 (Nat.le_of_ble_eq_true rfl) dX4_finish_31 (fun r1 I1 J1 h => ?_)
  refine pu_RX4_34 C hn0 dX4_finish_34 ?_
  refine f_aload_n C dX4_finish_37 rfl (lv_at hl 0 rfl) ?_
  refine f_dup C dX4_finish_38 rfl ?_
  refine ge_RX4_31 C hn0 dX4_finish_39 ?_
  refine f_iconst (v := 1) C dX4_finish_42 (by decide) ?_
  refine f_iadd C dX4_finish_43 ?_
  refine pu_RX4_31 C hn0 dX4_finish_44 ?_
  refine f_aload_n C dX4_finish_47 rfl (lv_at hl 2 rfl) ?_
  refine f_aload_n C dX4_finish_48 rfl (lv_at hl 0 rfl) ?_
  refine ge_RX4_34 C hn0 dX4_finish_49 ?_
  refine f_cVi (As := [.int ((up3 (up3 I1 4 n0 7 r1) 4 n0 6 (((up3 I1 4 n0 7 r1) 4 n0 6) + 1)) 4 n0 7)]) (rest := []) (n := 1) (T0 := TX2) (N := 1) C (c_X2_lastOf hn2 h) ok_X2_lastOf im_X2_lastOf se_X2_lastOf kw_RX4_57 ⟨Nat.le_trans (by decide) hR.1, Nat.le_trans (by decide) hR.2⟩ hn2 rfl rfl rfl hl.1 (Nat.le_of_ble_eq_true rfl) dX4_finish_52 (fun r2 I2 J2 h => ?_)
  refine f_istore_n (lv' := [(3, .int r2), (0, .ref (gad g 4 n0)), (1, .int x1), (2, .ref (gad g 2 n2))]) C dX4_finish_55 rfl hl (by decide) rfl (fun ls hl => ?_)
  refine f_aload_n C dX4_finish_56 rfl (lv_at hl 3 rfl) ?_
  refine f_iload_n C dX4_finish_57 rfl (lv_at hl 0 rfl) ?_
  refine f_cVi (As := [.int r2]) (rest := []) (n := 1) (T0 := TX2) (N := 1) C (c_X2_bestOf hn2 h) ok_X2_bestOf im_X2_bestOf se_X2_bestOf kw_RX4_63 ⟨Nat.le_trans (by decide) hR.1, Nat.le_trans (by decide) hR.2⟩ hn2 rfl rfl rfl hl.1 (Nat.le_of_ble_eq_true rfl) dX4_finish_58 (fun r3 I3 J3 h => ?_)
  refine f_istore (lv' := [(4, .int r3), (3, .int r2), (0, .ref (gad g 4 n0)), (1, .int x1), (2, .ref (gad g 2 n2))]) C dX4_finish_61 hl (by decide) rfl (fun ls hl => ?_)
  refine f_aload_n C dX4_finish_63 rfl (lv_at hl 2 rfl) ?_
  refine f_aload_n C dX4_finish_64 rfl (lv_at hl 4 rfl) ?_
  refine f_aload_n C dX4_finish_65 rfl (lv_at hl 2 rfl) ?_
  refine ge_RX4_22 C hn0 dX4_finish_66 ?_
  refine f_aload_n C dX4_finish_69 rfl (lv_at hl 2 rfl) ?_
  refine f_iload_n C dX4_finish_70 rfl (lv_at hl 1 rfl) ?_
  refine f_iload C dX4_finish_71 (lv_at hl 0 rfl) ?_
  refine f_aload_n C dX4_finish_73 rfl (lv_at hl 4 rfl) ?_
  refine f_aload_n C dX4_finish_74 rfl (lv_at hl 2 rfl) ?_
  refine ge_RX4_22 C hn0 dX4_finish_75 ?_
  refine f_cVi (As := [.int (I3 4 n0 3)]) (rest := [.int r3, .int r2, .ref (gad g 4 n0), .int (I3 4 n0 3), .ref (gad g 2 n2), .ref (gad g 4 n0)]) (n := 1) (T0 := TX2) (N := 1) C (c_X2_ceiling hn2 h) ok_X2_ceiling im_X2_ceiling se_X2_ceiling kw_RX4_66 ⟨Nat.le_trans (by decide) hR.1, Nat.le_trans (by decide) hR.2⟩ hn2 rfl rfl rfl hl.1 (Nat.le_of_ble_eq_true rfl) dX4_finish_78 (fun r4 I4 J4 h => ?_)
  refine f_cVi (As := [.int r2, .int r3, .int r4]) (rest := [.int (I3 4 n0 3), .ref (gad g 2 n2), .ref (gad g 4 n0)]) (n := 3) (T0 := TX4) (N := 8) C (c_X4_bestSum hn0 h) ok_X4_bestSum im_X4_bestSum se_X4_bestSum kw_RX4_69 ⟨Nat.le_trans (by decide) hR.1, Nat.le_trans (by decide) hR.2⟩ hn0 rfl rfl rfl hl.1 (Nat.le_of_ble_eq_true rfl) dX4_finish_81 (fun r5 I5 J5 h => ?_)
  refine f_iload C dX4_finish_84 (lv_at hl 0 rfl) ?_
  refine f_cVi (As := [.int (I3 4 n0 3), .int r5, .int r3]) (rest := [.ref (gad g 4 n0)]) (n := 3) (T0 := TX2) (N := 1) C (c_X2_moved hn2 h) ok_X2_moved im_X2_moved se_X2_moved kw_RX4_73 ⟨Nat.le_trans (by decide) hR.1, Nat.le_trans (by decide) hR.2⟩ hn2 rfl rfl rfl hl.1 (Nat.le_of_ble_eq_true rfl) dX4_finish_86 (fun r6 I6 J6 h => ?_)
  refine pu_RX4_22 C hn0 dX4_finish_89 ?_
  refine f_aload_n C dX4_finish_92 rfl (lv_at hl 2 rfl) ?_
  refine f_aload_n C dX4_finish_93 rfl (lv_at hl 2 rfl) ?_
  refine ge_RX4_18 C hn0 dX4_finish_94 ?_
  refine f_aload_n C dX4_finish_97 rfl (lv_at hl 2 rfl) ?_
  refine ge_RX4_28 C hn0 dX4_finish_98 ?_
  refine f_iadd C dX4_finish_101 ?_
  refine f_iconst (v := 0) C dX4_finish_102 (by decide) ?_
  refine f_sipush (v := 200) C dX4_finish_103 (by decide) ?_
  refine f_cNi (As := [.int (((up3 I6 4 n0 3 r6) 4 n0 2) + ((up3 I6 4 n0 3 r6) 4 n0 5)), .int 0, .int 200]) (rest := [.ref (gad g 4 n0)]) (n := 3) C (c_X7_clamp h) ok_X7_clamp sm_X7_clamp kn_RX4_76 ⟨Nat.le_trans (by decide) hR.1, Nat.le_trans (by decide) hR.2⟩ rfl hl.1 (Nat.le_of_ble_eq_true rfl) dX4_finish_106 (fun r7 I7 J7 h => ?_)
  refine pu_RX4_18 C hn0 dX4_finish_109 ?_
  exact f_vret C h dX4_finish_112

def wp_X5_begin (Q : MI → MJ → Prop) (I : MI) (J : MJ) (x1 : Int32) (x2 : Int32) (x3 : Int32) (x4 : Int32) : Prop :=
  wp_J9_min_7cf53 (fun r1 I1 J1 => Q (up3 (up3 (up3 (up3 I1 5 0 4 r1) 5 0 5 x3) 5 0 6 x4) 5 0 7 1) J1) (up3 I 5 0 3 x1) J x2 10
set_option maxRecDepth 20000 in
theorem c_X5_begin {l : Launch} {g : Geo} {Q : MI → MJ → Prop} {I : MI} {J : MJ} {x1 : Int32} {x2 : Int32} {x3 : Int32} {x4 : Int32} (h : wp_X5_begin Q I J x1 x2 x3 x4) : Ct g l yX5_begin cX5_begin 6 none 1 21 [.ref (gad g 5 0), .int x1, .int x2, .int x3, .int x4, .ref (gad g 2 0)] I J (PV Q) := by
  refine Ct.of (by decide) ?_
  intro p e s m below meth c C
  have hR : 1 ≤ (Rm 1 21).frames ∧ 21 ≤ (Rm 1 21).locals := ⟨Nat.le_refl _, Nat.le_refl _⟩
  generalize Rm 1 21 = R at hR ⊢
  have hl := lv_entry ([.ref (gad g 5 0), .int x1, .int x2, .int x3, .int x4, .ref (gad g 2 0)]) (n := 6) (Nat.le_of_ble_eq_true rfl)
  rw [lg_entry_eq]
  generalize (lg_sl ([.ref (gad g 5 0), .int x1, .int x2, .int x3, .int x4, .ref (gad g 2 0)]) ++ List.replicate (6 - (lg_sl ([.ref (gad g 5 0), .int x1, .int x2, .int x3, .int x4, .ref (gad g 2 0)])).length) Slot.unset).toArray = ls at hl ⊢
  have hl : lv_has ls 6 [(0, .ref (gad g 5 0)), (1, .int x1), (2, .int x2), (3, .int x3), (4, .int x4), (5, .ref (gad g 2 0))] := hl
  refine f_aload_n C dX5_begin_0 rfl (lv_at hl 0 rfl) ?_
  refine f_iload_n C dX5_begin_1 rfl (lv_at hl 1 rfl) ?_
  refine pu_RX5_16 C (by decide) dX5_begin_2 ?_
  refine f_aload_n C dX5_begin_5 rfl (lv_at hl 0 rfl) ?_
  refine f_iload_n C dX5_begin_6 rfl (lv_at hl 2 rfl) ?_
  refine f_bipush (v := 10) C dX5_begin_7 (by decide) ?_
  refine f_cSi (As := [.int x2, .int 10]) (rest := [.ref (gad g 5 0)]) (n := 2) C (c_J9_min_7cf53 h) ok_J9_min_7cf53 sm_J9_min_7cf53 kw_RX5_20 ⟨Nat.le_trans (by decide) hR.1, Nat.le_trans (by decide) hR.2⟩ rfl hl.1 (Nat.le_of_ble_eq_true rfl) dX5_begin_9 (fun r1 I1 J1 h => ?_)
  refine pu_RX5_26 C (by decide) dX5_begin_12 ?_
  refine f_aload_n C dX5_begin_15 rfl (lv_at hl 0 rfl) ?_
  refine f_iload_n C dX5_begin_16 rfl (lv_at hl 3 rfl) ?_
  refine pu_RX5_29 C (by decide) dX5_begin_17 ?_
  refine f_aload_n C dX5_begin_20 rfl (lv_at hl 0 rfl) ?_
  refine f_iload C dX5_begin_21 (lv_at hl 4 rfl) ?_
  refine pu_RX5_32 C (by decide) dX5_begin_23 ?_
  refine f_aload_n C dX5_begin_26 rfl (lv_at hl 0 rfl) ?_
  refine f_aload C dX5_begin_27 (lv_at hl 5 rfl) ?_
  refine pu_by C dX5_begin_29 ?_
  exact f_vret C h dX5_begin_32

def wp_X5_markAfter (Q : Int32 → MI → MJ → Prop) (I : MI) (J : MJ) (x1 : Int32) (x2 : Int32) (x3 : Int32) : Prop :=
  (I 5 0 7 = 0 → Q x2 I J) ∧
  (¬ (I 5 0 7 = 0) → ¬ I 5 0 7 = 0 ∧ (wp_X2_lastOf (fun r3 I3 J3 => ¬ I3 5 0 7 = 0 ∧ (wp_X2_bestOf (fun r5 I5 J5 => wp_J6_bitCount_0f7a4 (fun r6 I6 J6 => wp_J9_min_7cf53 (fun r7 I7 J7 => ¬ I7 5 0 7 = 0 ∧ (wp_X2_ceiling (fun r9 I9 J9 => wp_J9_min_7cf53 (fun r10 I10 J10 => wp_J9_min_7cf53 (fun r11 I11 J11 => ∀ v12 : Int32, v12 = (r7 * r10) + ((r5 - r7) * r11) → (¬ I11 5 0 7 = 0 ∧ (wp_X2_moved (fun r14 I14 J14 => Q r14 I14 J14) I11 J11 0 x2 v12 r5))) I10 J10 ((I10 5 0 3) - (I10 5 0 6)) r9) I9 J9 (I9 5 0 3) r9) I7 J7 0 x2)) I6 J6 r5 (r3 - r6)) I5 J5 (x3 >>> (((x1 + 1) - r3) &&& 31))) I3 J3 0 r3)) I J 0 (x1 + 1)))
set_option maxRecDepth 20000 in
theorem c_X5_markAfter {l : Launch} {g : Geo} {Q : Int32 → MI → MJ → Prop} {I : MI} {J : MJ} {x1 : Int32} {x2 : Int32} {x3 : Int32} (h : wp_X5_markAfter Q I J x1 x2 x3) : Ct g l yX5_markAfter cX5_markAfter 10 (some .int) 2 47 [.ref (gad g 5 0), .int x1, .int x2, .int x3] I J (PI Q) := by
  refine Ct.of (by decide) ?_
  intro p e s m below meth c C
  have hR : 2 ≤ (Rm 2 47).frames ∧ 47 ≤ (Rm 2 47).locals := ⟨Nat.le_refl _, Nat.le_refl _⟩
  generalize Rm 2 47 = R at hR ⊢
  have hl := lv_entry ([.ref (gad g 5 0), .int x1, .int x2, .int x3]) (n := 10) (Nat.le_of_ble_eq_true rfl)
  rw [lg_entry_eq]
  generalize (lg_sl ([.ref (gad g 5 0), .int x1, .int x2, .int x3]) ++ List.replicate (10 - (lg_sl ([.ref (gad g 5 0), .int x1, .int x2, .int x3])).length) Slot.unset).toArray = ls at hl ⊢
  have hl : lv_has ls 10 [(0, .ref (gad g 5 0)), (1, .int x1), (2, .int x2), (3, .int x3)] := hl
  refine f_aload_n C dX5_markAfter_0 rfl (lv_at hl 0 rfl) ?_
  refine ge_RX5_35 C (by decide) dX5_markAfter_1 ?_
  refine f_ifnnBy (tgt := 9) C dX5_markAfter_4 (by decide) (fun c1 => ?_) (fun c1 => ?_)
  · replace h := h.2 c1
    refine f_aload_n C dX5_markAfter_9 rfl (lv_at hl 0 rfl) ?_
    obtain ⟨hy2, h⟩ := h
    refine ge_by hy2 C dX5_markAfter_10 ?_
    refine f_iload_n C dX5_markAfter_13 rfl (lv_at hl 1 rfl) ?_
    refine f_iconst (v := 1) C dX5_markAfter_14 (by decide) ?_
    refine f_iadd C dX5_markAfter_15 ?_
    refine f_cVi (As := [.int (x1 + 1)]) (rest := []) (n := 1) (T0 := TX2) (N := 1) C (c_X2_lastOf (by decide) h) ok_X2_lastOf im_X2_lastOf se_X2_lastOf kw_RX5_62 ⟨Nat.le_trans (by decide) hR.1, Nat.le_trans (by decide) hR.2⟩ (by decide) rfl rfl rfl hl.1 (Nat.le_of_ble_eq_true rfl) dX5_markAfter_16 (fun r3 I3 J3 h => ?_)
    refine f_istore (lv' := [(4, .int r3), (0, .ref (gad g 5 0)), (1, .int x1), (2, .int x2), (3, .int x3)]) C dX5_markAfter_19 hl (by decide) rfl (fun ls hl => ?_)
    refine f_aload_n C dX5_markAfter_21 rfl (lv_at hl 1 rfl) ?_
    obtain ⟨hy4, h⟩ := h
    refine ge_by hy4 C dX5_markAfter_22 ?_
    refine f_iload C dX5_markAfter_25 (lv_at hl 0 rfl) ?_
    refine f_cVi (As := [.int r3]) (rest := []) (n := 1) (T0 := TX2) (N := 1) C (c_X2_bestOf (by decide) h) ok_X2_bestOf im_X2_bestOf se_X2_bestOf kw_RX5_68 ⟨Nat.le_trans (by decide) hR.1, Nat.le_trans (by decide) hR.2⟩ (by decide) rfl rfl rfl hl.1 (Nat.le_of_ble_eq_true rfl) dX5_markAfter_27 (fun r5 I5 J5 h => ?_)
    refine f_istore (lv' := [(5, .int r5), (4, .int r3), (0, .ref (gad g 5 0)), (1, .int x1), (2, .int x2), (3, .int x3)]) C dX5_markAfter_30 hl (by decide) rfl (fun ls hl => ?_)
    refine f_iload C dX5_markAfter_32 (lv_at hl 1 rfl) ?_
    refine f_iload_n C dX5_markAfter_34 rfl (lv_at hl 5 rfl) ?_
    refine f_iload_n C dX5_markAfter_35 rfl (lv_at hl 3 rfl) ?_
    refine f_iconst (v := 1) C dX5_markAfter_36 (by decide) ?_
    refine f_iadd C dX5_markAfter_37 ?_
    refine f_iload C dX5_markAfter_38 (lv_at hl 1 rfl) ?_
    refine f_isub C dX5_markAfter_40 ?_
    refine f_ishr C dX5_markAfter_41 ?_
    refine f_cSi (As := [.int (x3 >>> (((x1 + 1) - r3) &&& 31))]) (rest := [.int r3]) (n := 1) C (c_J6_bitCount_0f7a4 h) ok_J6_bitCount_0f7a4 sm_J6_bitCount_0f7a4 kw_RX5_71 ⟨Nat.le_trans (by decide) hR.1, Nat.le_trans (by decide) hR.2⟩ rfl hl.1 (Nat.le_of_ble_eq_true rfl) dX5_markAfter_42 (fun r6 I6 J6 h => ?_)
    refine f_isub C dX5_markAfter_45 ?_
    refine f_istore (lv' := [(6, .int (r3 - r6)), (5, .int r5), (4, .int r3), (0, .ref (gad g 5 0)), (1, .int x1), (2, .int x2), (3, .int x3)]) C dX5_markAfter_46 hl (by decide) rfl (fun ls hl => ?_)
    refine f_iload C dX5_markAfter_48 (lv_at hl 1 rfl) ?_
    refine f_iload C dX5_markAfter_50 (lv_at hl 0 rfl) ?_
    refine f_cSi (As := [.int r5, .int (r3 - r6)]) (rest := []) (n := 2) C (c_J9_min_7cf53 h) ok_J9_min_7cf53 sm_J9_min_7cf53 kw_RX5_20 ⟨Nat.le_trans (by decide) hR.1, Nat.le_trans (by decide) hR.2⟩ rfl hl.1 (Nat.le_of_ble_eq_true rfl) dX5_markAfter_52 (fun r7 I7 J7 h => ?_)
    refine f_istore (lv' := [(7, .int r7), (6, .int (r3 - r6)), (5, .int r5), (4, .int r3), (0, .ref (gad g 5 0)), (1, .int x1), (2, .int x2), (3, .int x3)]) C dX5_markAfter_55 hl (by decide) rfl (fun ls hl => ?_)
    refine f_aload_n C dX5_markAfter_57 rfl (lv_at hl 4 rfl) ?_
    obtain ⟨hy8, h⟩ := h
    refine ge_by hy8 C dX5_markAfter_58 ?_
    refine f_iload_n C dX5_markAfter_61 rfl (lv_at hl 6 rfl) ?_
    refine f_cVi (As := [.int x2]) (rest := []) (n := 1) (T0 := TX2) (N := 1) C (c_X2_ceiling (by decide) h) ok_X2_ceiling im_X2_ceiling se_X2_ceiling kw_RX5_76 ⟨Nat.le_trans (by decide) hR.1, Nat.le_trans (by decide) hR.2⟩ (by decide) rfl rfl rfl hl.1 (Nat.le_of_ble_eq_true rfl) dX5_markAfter_62 (fun r9 I9 J9 h => ?_)
    refine f_istore (lv' := [(8, .int r9), (7, .int r7), (6, .int (r3 - r6)), (5, .int r5), (4, .int r3), (0, .ref (gad g 5 0)), (1, .int x1), (2, .int x2), (3, .int x3)]) C dX5_markAfter_65 hl (by decide) rfl (fun ls hl => ?_)
    refine f_iload C dX5_markAfter_67 (lv_at hl 1 rfl) ?_
    refine f_aload_n C dX5_markAfter_69 rfl (lv_at hl 5 rfl) ?_
    refine ge_RX5_16 C (by decide) dX5_markAfter_70 ?_
    refine f_iload C dX5_markAfter_73 (lv_at hl 0 rfl) ?_
    refine f_cSi (As := [.int (I9 5 0 3), .int r9]) (rest := [.int r7]) (n := 2) C (c_J9_min_7cf53 h) ok_J9_min_7cf53 sm_J9_min_7cf53 kw_RX5_20 ⟨Nat.le_trans (by decide) hR.1, Nat.le_trans (by decide) hR.2⟩ rfl hl.1 (Nat.le_of_ble_eq_true rfl) dX5_markAfter_75 (fun r10 I10 J10 h => ?_)
    refine f_imul C dX5_markAfter_78 ?_
    refine f_iload C dX5_markAfter_79 (lv_at hl 3 rfl) ?_
    refine f_iload C dX5_markAfter_81 (lv_at hl 1 rfl) ?_
    refine f_isub C dX5_markAfter_83 ?_
    refine f_aload_n C dX5_markAfter_84 rfl (lv_at hl 5 rfl) ?_
    refine ge_RX5_16 C (by decide) dX5_markAfter_85 ?_
    refine f_aload_n C dX5_markAfter_88 rfl (lv_at hl 5 rfl) ?_
    refine ge_RX5_32 C (by decide) dX5_markAfter_89 ?_
    refine f_isub C dX5_markAfter_92 ?_
    refine f_iload C dX5_markAfter_93 (lv_at hl 0 rfl) ?_
    refine f_cSi (As := [.int ((I10 5 0 3) - (I10 5 0 6)), .int r9]) (rest := [.int (r5 - r7), .int (r7 * r10)]) (n := 2) C (c_J9_min_7cf53 h) ok_J9_min_7cf53 sm_J9_min_7cf53 kw_RX5_20 ⟨Nat.le_trans (by decide) hR.1, Nat.le_trans (by decide) hR.2⟩ rfl hl.1 (Nat.le_of_ble_eq_true rfl) dX5_markAfter_95 (fun r11 I11 J11 h => ?_)
    refine f_imul C dX5_markAfter_98 ?_
    refine f_iadd C dX5_markAfter_99 ?_
    generalize hv12 : (r7 * r10) + ((r5 - r7) * r11) = v12
    replace h := h v12 hv12.symm
    refine f_istore (lv' := [(9, .int v12), (8, .int r9), (7, .int r7), (6, .int (r3 - r6)), (5, .int r5), (4, .int r3), (0, .ref (gad g 5 0)), (1, .int x1), (2, .int x2), (3, .int x3)]) C dX5_markAfter_100 hl (by decide) rfl (fun ls hl => ?_)
    refine f_aload_n C dX5_markAfter_102 rfl (lv_at hl 6 rfl) ?_
    obtain ⟨hy13, h⟩ := h
    refine ge_by hy13 C dX5_markAfter_103 ?_
    refine f_iload_n C dX5_markAfter_106 rfl (lv_at hl 8 rfl) ?_
    refine f_iload C dX5_markAfter_107 (lv_at hl 0 rfl) ?_
    refine f_iload C dX5_markAfter_109 (lv_at hl 4 rfl) ?_
    refine f_cVi (As := [.int x2, .int v12, .int r5]) (rest := []) (n := 3) (T0 := TX2) (N := 1) C (c_X2_moved (by decide) h) ok_X2_moved im_X2_moved se_X2_moved kw_RX5_79 ⟨Nat.le_trans (by decide) hR.1, Nat.le_trans (by decide) hR.2⟩ (by decide) rfl rfl rfl hl.1 (Nat.le_of_ble_eq_true rfl) dX5_markAfter_111 (fun r14 I14 J14 h => ?_)
    exact f_iret C h dX5_markAfter_114
  · replace h := h.1 c1
    refine f_iload_n C dX5_markAfter_7 rfl (lv_at hl 2 rfl) ?_
    exact f_iret C h dX5_markAfter_8

def wp_X5_wonAt (Q : Int32 → MI → MJ → Prop) (I : MI) (J : MJ) (x1 : Int32) (x2 : Int32) : Prop :=
  vp_in x1 10 ∧ (wp_J9_max_7cf53 (fun r2 I2 J2 => vp_in x1 10 ∧ (∀ v4 : Int32, v4 = ((I2 17 0 (x1.toNatClampNeg)) + r2) - (I2 5 0 3) → (vp_in x1 10 ∧ (wp_X7_clamp (fun r6 I6 J6 => Q ((I2 18 0 (x1.toNatClampNeg)) * r6) I6 J6) I2 J2 (((I2 5 0 5) - v4) + 1) 0 ((2 * (I2 5 0 5)) + 1))))) I J 0 (x2 - (I 17 0 (x1.toNatClampNeg))))
set_option maxRecDepth 20000 in
theorem c_X5_wonAt {l : Launch} {g : Geo} {Q : Int32 → MI → MJ → Prop} {I : MI} {J : MJ} {x1 : Int32} {x2 : Int32} (h : wp_X5_wonAt Q I J x1 x2) : Ct g l yX5_wonAt cX5_wonAt 5 (some .int) 1 22 [.ref (gad g 5 0), .int x1, .int x2] I J (PI Q) := by
  refine Ct.of (by decide) ?_
  intro p e s m below meth c C
  have hR : 1 ≤ (Rm 1 22).frames ∧ 22 ≤ (Rm 1 22).locals := ⟨Nat.le_refl _, Nat.le_refl _⟩
  generalize Rm 1 22 = R at hR ⊢
  have hl := lv_entry ([.ref (gad g 5 0), .int x1, .int x2]) (n := 5) (Nat.le_of_ble_eq_true rfl)
  rw [lg_entry_eq]
  generalize (lg_sl ([.ref (gad g 5 0), .int x1, .int x2]) ++ List.replicate (5 - (lg_sl ([.ref (gad g 5 0), .int x1, .int x2])).length) Slot.unset).toArray = ls at hl ⊢
  have hl : lv_has ls 5 [(0, .ref (gad g 5 0)), (1, .int x1), (2, .int x2)] := hl
  refine f_iconst (v := 0) C dX5_wonAt_0 (by decide) ?_
  refine f_iload_n C dX5_wonAt_1 rfl (lv_at hl 2 rfl) ?_
  refine f_aload_n C dX5_wonAt_2 rfl (lv_at hl 0 rfl) ?_
  refine ge_RX5_9 C (by decide) dX5_wonAt_3 ?_
  refine f_iload_n C dX5_wonAt_6 rfl (lv_at hl 1 rfl) ?_
  obtain ⟨hi1, h⟩ := h
  refine al_k (n := 10) (k := x1.toNatClampNeg) C (by decide) rfl rfl hi1 dX5_wonAt_7 ?_
  refine f_isub C dX5_wonAt_8 ?_
  refine f_cSi (As := [.int 0, .int (x2 - (I 17 0 (x1.toNatClampNeg)))]) (rest := []) (n := 2) C (c_J9_max_7cf53 h) ok_J9_max_7cf53 sm_J9_max_7cf53 kw_RX5_54 ⟨Nat.le_trans (by decide) hR.1, Nat.le_trans (by decide) hR.2⟩ rfl hl.1 (Nat.le_of_ble_eq_true rfl) dX5_wonAt_9 (fun r2 I2 J2 h => ?_)
  refine f_istore_n (lv' := [(3, .int r2), (0, .ref (gad g 5 0)), (1, .int x1), (2, .int x2)]) C dX5_wonAt_12 rfl hl (by decide) rfl (fun ls hl => ?_)
  refine f_aload_n C dX5_wonAt_13 rfl (lv_at hl 1 rfl) ?_
  refine ge_RX5_9 C (by decide) dX5_wonAt_14 ?_
  refine f_iload_n C dX5_wonAt_17 rfl (lv_at hl 2 rfl) ?_
  obtain ⟨hi3, h⟩ := h
  refine al_k (n := 10) (k := x1.toNatClampNeg) C (by decide) rfl rfl hi3 dX5_wonAt_18 ?_
  refine f_iload_n C dX5_wonAt_19 rfl (lv_at hl 0 rfl) ?_
  refine f_iadd C dX5_wonAt_20 ?_
  refine f_aload_n C dX5_wonAt_21 rfl (lv_at hl 1 rfl) ?_
  refine ge_RX5_16 C (by decide) dX5_wonAt_22 ?_
  refine f_isub C dX5_wonAt_25 ?_
  generalize hv4 : ((I2 17 0 (x1.toNatClampNeg)) + r2) - (I2 5 0 3) = v4
  replace h := h v4 hv4.symm
  refine f_istore (lv' := [(4, .int v4), (3, .int r2), (0, .ref (gad g 5 0)), (1, .int x1), (2, .int x2)]) C dX5_wonAt_26 hl (by decide) rfl (fun ls hl => ?_)
  refine f_aload_n C dX5_wonAt_28 rfl (lv_at hl 2 rfl) ?_
  refine ge_RX5_13 C (by decide) dX5_wonAt_29 ?_
  refine f_iload_n C dX5_wonAt_32 rfl (lv_at hl 3 rfl) ?_
  obtain ⟨hi5, h⟩ := h
  refine al_k (n := 10) (k := x1.toNatClampNeg) C (by decide) rfl rfl hi5 dX5_wonAt_33 ?_
  refine f_aload_n C dX5_wonAt_34 rfl (lv_at hl 2 rfl) ?_
  refine ge_RX5_29 C (by decide) dX5_wonAt_35 ?_
  refine f_iload C dX5_wonAt_38 (lv_at hl 0 rfl) ?_
  refine f_isub C dX5_wonAt_40 ?_
  refine f_iconst (v := 1) C dX5_wonAt_41 (by decide) ?_
  refine f_iadd C dX5_wonAt_42 ?_
  refine f_iconst (v := 0) C dX5_wonAt_43 (by decide) ?_
  refine f_iconst (v := 2) C dX5_wonAt_44 (by decide) ?_
  refine f_aload_n C dX5_wonAt_45 rfl (lv_at hl 2 rfl) ?_
  refine ge_RX5_29 C (by decide) dX5_wonAt_46 ?_
  refine f_imul C dX5_wonAt_49 ?_
  refine f_iconst (v := 1) C dX5_wonAt_50 (by decide) ?_
  refine f_iadd C dX5_wonAt_51 ?_
  refine f_cNi (As := [.int (((I2 5 0 5) - v4) + 1), .int 0, .int ((2 * (I2 5 0 5)) + 1)]) (rest := [.int (I2 18 0 (x1.toNatClampNeg))]) (n := 3) C (c_X7_clamp h) ok_X7_clamp sm_X7_clamp kn_RX5_57 ⟨Nat.le_trans (by decide) hR.1, Nat.le_trans (by decide) hR.2⟩ rfl hl.1 (Nat.le_of_ble_eq_true rfl) dX5_wonAt_52 (fun r6 I6 J6 h => ?_)
  refine f_imul C dX5_wonAt_55 ?_
  exact f_iret C h dX5_wonAt_56

def E_X5_bestFrom (S : (Int32 → MI → MJ → Prop) → MI → MJ → Int32 → Int32 → Int32 → Int32 → Prop) (Q : Int32 → MI → MJ → Prop) (I : MI) (J : MJ) (x1 : Int32) (x2 : Int32) (x3 : Int32) (x4 : Int32) : Prop :=
  (x1 < (I 5 0 4) → wp_X5_markAfter (fun r2 I2 J2 => wp_X5_wonAt (fun r3 I3 J3 => S (fun r4 I4 J4 => ((I4 5 0 2) = 0 → Q r4 I4 J4) ∧
  (¬ ((I4 5 0 2) = 0) → ∀ v6 : Int32, v6 = x3 ||| ((1 : Int32) <<< (x1 &&& 31)) → (wp_X5_markAfter (fun r7 I7 J7 => S (fun r8 I8 J8 => wp_J9_max_7cf53 (fun r9 I9 J9 => Q r9 I9 J9) I8 J8 r4 r8) I7 J7 (x1 + 1) r7 v6 x4) I4 J4 x1 x2 v6))) I3 J3 (x1 + 1) r2 x3 (x4 + r3)) I2 J2 x1 x2) I J x1 x2 x3) ∧
  (¬ (x1 < (I 5 0 4)) → Q ((((x4 * 1024) + 1024) - 1) - x3) I J)
def wd_X5_bestFrom : Nat → (Int32 → MI → MJ → Prop) → MI → MJ → Int32 → Int32 → Int32 → Int32 → Prop
  | 0 => fun _ _ _ _ _ _ _ => False
  | d + 1 => fun Q I J x1 x2 x3 x4 => E_X5_bestFrom (wd_X5_bestFrom d) Q I J x1 x2 x3 x4
set_option maxRecDepth 20000 in
theorem e_X5_bestFrom {p : Program} {l : Launch} {e : Env} {R : Room} {s : State} {m : MethodId} {args : Array Value} {below : List Frame} {meth : Method} {c : Code} {g : Geo} (C : Cx g p s m args meth c cX5_bestFrom 7 RX5 (some .int)) {fr lo : Nat} (hR : (3 ≤ R.frames ∧ 76 ≤ R.locals) ∧ fr + 1 ≤ R.frames ∧ 8 + (7 + 11) + lo ≤ R.locals) {S : (Int32 → MI → MJ → Prop) → MI → MJ → Int32 → Int32 → Int32 → Int32 → Prop} (hS : ∀ (Q : Int32 → MI → MJ → Prop) (I : MI) (J : MJ) (x1 : Int32) (x2 : Int32) (x3 : Int32) (x4 : Int32), S Q I J x1 x2 x3 x4 → Ct g l yX5_bestFrom cX5_bestFrom 7 (some .int) fr lo [.ref (gad g 5 0), .int x1, .int x2, .int x3, .int x4] I J (PI Q)) {Q : Int32 → MI → MJ → Prop} {I : MI} {J : MJ} {x1 : Int32} {x2 : Int32} {x3 : Int32} {x4 : Int32} (h : E_X5_bestFrom S Q I J x1 x2 x3 x4) (ls : Array Slot) (hl : lv_has ls 7 [(0, .ref (gad g 5 0)), (1, .int x1), (2, .int x2), (3, .int x3), (4, .int x4)]) : Wf p l e R s m args below meth c (MQ below (Qg g (PI Q)) args s 0 0 (gA g)) g I J (F0 m 0 ls []) := by
  refine f_iload_n C dX5_bestFrom_0 rfl (lv_at hl 1 rfl) ?_
  refine f_aload_n C dX5_bestFrom_1 rfl (lv_at hl 0 rfl) ?_
  refine ge_RX5_26 C (by decide) dX5_bestFrom_2 ?_
  refine f_icmp_lt (tgt := 23) C dX5_bestFrom_5 (by decide) (fun c1 => ?_) (fun c1 => ?_)
  · replace h := h.1 c1
    refine f_aload_n C dX5_bestFrom_23 rfl (lv_at hl 0 rfl) ?_
    refine f_iload_n C dX5_bestFrom_24 rfl (lv_at hl 1 rfl) ?_
    refine f_iconst (v := 1) C dX5_bestFrom_25 (by decide) ?_
    refine f_iadd C dX5_bestFrom_26 ?_
    refine f_aload_n C dX5_bestFrom_27 rfl (lv_at hl 0 rfl) ?_
    refine f_iload_n C dX5_bestFrom_28 rfl (lv_at hl 1 rfl) ?_
    refine f_iload_n C dX5_bestFrom_29 rfl (lv_at hl 2 rfl) ?_
    refine f_iload_n C dX5_bestFrom_30 rfl (lv_at hl 3 rfl) ?_
    refine f_cVi (As := [.int x1, .int x2, .int x3]) (rest := [.int (x1 + 1), .ref (gad g 5 0)]) (n := 3) (T0 := TX5) (N := 8) C (c_X5_markAfter h) ok_X5_markAfter im_X5_markAfter se_X5_markAfter kw_RX5_47 ⟨Nat.le_trans (by decide) hR.1.1, Nat.le_trans (by decide) hR.1.2⟩ (by decide) rfl rfl rfl hl.1 (Nat.le_of_ble_eq_true rfl) dX5_bestFrom_31 (fun r2 I2 J2 h => ?_)
    refine f_iload_n C dX5_bestFrom_34 rfl (lv_at hl 3 rfl) ?_
    refine f_iload C dX5_bestFrom_35 (lv_at hl 4 rfl) ?_
    refine f_aload_n C dX5_bestFrom_37 rfl (lv_at hl 0 rfl) ?_
    refine f_iload_n C dX5_bestFrom_38 rfl (lv_at hl 1 rfl) ?_
    refine f_iload_n C dX5_bestFrom_39 rfl (lv_at hl 2 rfl) ?_
    refine f_cVi (As := [.int x1, .int x2]) (rest := [.int x4, .int x3, .int r2, .int (x1 + 1), .ref (gad g 5 0)]) (n := 2) (T0 := TX5) (N := 8) C (c_X5_wonAt h) ok_X5_wonAt im_X5_wonAt se_X5_wonAt kw_RX5_51 ⟨Nat.le_trans (by decide) hR.1.1, Nat.le_trans (by decide) hR.1.2⟩ (by decide) rfl rfl rfl hl.1 (Nat.le_of_ble_eq_true rfl) dX5_bestFrom_40 (fun r3 I3 J3 h => ?_)
    refine f_iadd C dX5_bestFrom_43 ?_
    refine f_cVi (As := [.int (x1 + 1), .int r2, .int x3, .int (x4 + r3)]) (rest := []) (n := 4) (T0 := TX5) (N := 8) C (hS _ _ _ (x1 + 1) r2 x3 (x4 + r3) h) ok_X5_bestFrom im_X5_bestFrom se_X5_bestFrom kw_RX5_43 ⟨hR.2.1, hR.2.2⟩ (by decide) rfl rfl rfl hl.1 (Nat.le_of_ble_eq_true rfl) dX5_bestFrom_44 (fun r4 I4 J4 h => ?_)
    refine f_istore (lv' := [(5, .int r4), (0, .ref (gad g 5 0)), (1, .int x1), (2, .int x2), (3, .int x3), (4, .int x4)]) C dX5_bestFrom_47 hl (by decide) rfl (fun ls hl => ?_)
    refine f_aload_n C dX5_bestFrom_49 rfl (lv_at hl 1 rfl) ?_
    refine ge_RX5_39 C (by decide) dX5_bestFrom_50 ?_
    refine f_if_eq (tgt := 89) C dX5_bestFrom_53 (by decide) (fun c5 => ?_) (fun c5 => ?_)
    · replace h := h.1 c5
      refine f_iload C dX5_bestFrom_89 (lv_at hl 0 rfl) ?_
      exact f_iret C h dX5_bestFrom_91
    · replace h := h.2 c5
      refine f_iload_n C dX5_bestFrom_56 rfl (lv_at hl 4 rfl) ?_
      refine f_iconst (v := 1) C dX5_bestFrom_57 (by decide) ?_
      refine f_iload_n C dX5_bestFrom_58 rfl (lv_at hl 2 rfl) ?_
      refine f_ishl C dX5_bestFrom_59 ?_
      refine f_ior C dX5_bestFrom_60 ?_
      generalize hv6 : x3 ||| ((1 : Int32) <<< (x1 &&& 31)) = v6
      replace h := h v6 hv6.symm
      refine f_istore (lv' := [(6, .int v6), (5, .int r4), (0, .ref (gad g 5 0)), (1, .int x1), (2, .int x2), (3, .int x3), (4, .int x4)]) C dX5_bestFrom_61 hl (by decide) rfl (fun ls hl => ?_)
      refine f_iload C dX5_bestFrom_63 (lv_at hl 1 rfl) ?_
      refine f_aload_n C dX5_bestFrom_65 rfl (lv_at hl 2 rfl) ?_
      refine f_iload_n C dX5_bestFrom_66 rfl (lv_at hl 3 rfl) ?_
      refine f_iconst (v := 1) C dX5_bestFrom_67 (by decide) ?_
      refine f_iadd C dX5_bestFrom_68 ?_
      refine f_aload_n C dX5_bestFrom_69 rfl (lv_at hl 2 rfl) ?_
      refine f_iload_n C dX5_bestFrom_70 rfl (lv_at hl 3 rfl) ?_
      refine f_iload_n C dX5_bestFrom_71 rfl (lv_at hl 4 rfl) ?_
      refine f_iload C dX5_bestFrom_72 (lv_at hl 0 rfl) ?_
      refine f_cVi (As := [.int x1, .int x2, .int v6]) (rest := [.int (x1 + 1), .ref (gad g 5 0), .int r4]) (n := 3) (T0 := TX5) (N := 8) C (c_X5_markAfter h) ok_X5_markAfter im_X5_markAfter se_X5_markAfter kw_RX5_47 ⟨Nat.le_trans (by decide) hR.1.1, Nat.le_trans (by decide) hR.1.2⟩ (by decide) rfl rfl rfl hl.1 (Nat.le_of_ble_eq_true rfl) dX5_bestFrom_74 (fun r7 I7 J7 h => ?_)
      refine f_iload C dX5_bestFrom_77 (lv_at hl 0 rfl) ?_
      refine f_iload C dX5_bestFrom_79 (lv_at hl 6 rfl) ?_
      refine f_cVi (As := [.int (x1 + 1), .int r7, .int v6, .int x4]) (rest := [.int r4]) (n := 4) (T0 := TX5) (N := 8) C (hS _ _ _ (x1 + 1) r7 v6 x4 h) ok_X5_bestFrom im_X5_bestFrom se_X5_bestFrom kw_RX5_43 ⟨hR.2.1, hR.2.2⟩ (by decide) rfl rfl rfl hl.1 (Nat.le_of_ble_eq_true rfl) dX5_bestFrom_81 (fun r8 I8 J8 h => ?_)
      refine f_cSi (As := [.int r4, .int r8]) (rest := []) (n := 2) C (c_J9_max_7cf53 h) ok_J9_max_7cf53 sm_J9_max_7cf53 kw_RX5_54 ⟨Nat.le_trans (by decide) hR.1.1, Nat.le_trans (by decide) hR.1.2⟩ rfl hl.1 (Nat.le_of_ble_eq_true rfl) dX5_bestFrom_84 (fun r9 I9 J9 h => ?_)
      refine f_istore (lv' := [(5, .int r9), (6, .int v6), (0, .ref (gad g 5 0)), (1, .int x1), (2, .int x2), (3, .int x3), (4, .int x4)]) C dX5_bestFrom_87 hl (by decide) rfl (fun ls hl => ?_)
      refine f_iload C dX5_bestFrom_89 (lv_at hl 0 rfl) ?_
      exact f_iret C h dX5_bestFrom_91
  · replace h := h.2 c1
    refine f_iload C dX5_bestFrom_8 (lv_at hl 4 rfl) ?_
    refine f_sipush (v := 1024) C dX5_bestFrom_10 (by decide) ?_
    refine f_imul C dX5_bestFrom_13 ?_
    refine f_sipush (v := 1024) C dX5_bestFrom_14 (by decide) ?_
    refine f_iadd C dX5_bestFrom_17 ?_
    refine f_iconst (v := 1) C dX5_bestFrom_18 (by decide) ?_
    refine f_isub C dX5_bestFrom_19 ?_
    refine f_iload_n C dX5_bestFrom_20 rfl (lv_at hl 3 rfl) ?_
    refine f_isub C dX5_bestFrom_21 ?_
    exact f_iret C h dX5_bestFrom_22

theorem cd_X5_bestFrom {l : Launch} {g : Geo} : ∀ (d : Nat) (Q : Int32 → MI → MJ → Prop) (I : MI) (J : MJ) (x1 : Int32) (x2 : Int32) (x3 : Int32) (x4 : Int32), wd_X5_bestFrom d Q I J x1 x2 x3 x4 → Ct g l yX5_bestFrom cX5_bestFrom 7 (some .int) (3 + d) (76 + d * 26) [.ref (gad g 5 0), .int x1, .int x2, .int x3, .int x4] I J (PI Q) := by
  intro d
  induction d with
  | zero => intro Q I J x1 x2 x3 x4  h; exact h.elim
  | succ d ih =>
    intro Q I J x1 x2 x3 x4  h
    refine Ct.of (by decide) ?_
    intro p e s m below meth c C
    have hl := lv_entry ([.ref (gad g 5 0), .int x1, .int x2, .int x3, .int x4]) (n := 7) (Nat.le_of_ble_eq_true rfl)
    rw [lg_entry_eq]
    exact e_X5_bestFrom C ⟨⟨by show 3 ≤ 3 + (d + 1); omega, by show 76 ≤ 76 + (d + 1) * 26; omega⟩, by show 3 + d + 1 ≤ 3 + (d + 1); omega, by show 8 + (7 + 11) + (76 + d * 26) ≤ 76 + (d + 1) * 26; omega⟩ ih h _ hl
def wp_X5_bestFrom (Q : Int32 → MI → MJ → Prop) (I : MI) (J : MJ) (x1 : Int32) (x2 : Int32) (x3 : Int32) (x4 : Int32) : Prop := wd_X5_bestFrom 11 Q I J x1 x2 x3 x4
theorem c_X5_bestFrom {l : Launch} {g : Geo} {Q : Int32 → MI → MJ → Prop} {I : MI} {J : MJ} {x1 : Int32} {x2 : Int32} {x3 : Int32} {x4 : Int32} (h : wp_X5_bestFrom Q I J x1 x2 x3 x4) : Ct g l yX5_bestFrom cX5_bestFrom 7 (some .int) 14 362 [.ref (gad g 5 0), .int x1, .int x2, .int x3, .int x4] I J (PI Q) := cd_X5_bestFrom 11 Q I J x1 x2 x3 x4 h
def wp_X5_bestScore (Q : Int32 → MI → MJ → Prop) (I : MI) (J : MJ) (x1 : Int32) : Prop :=
  (x1 = 0 ∨ x1 = 1) ∧ (wp_X5_bestFrom (fun r2 I2 J2 => Q r2 I2 J2) (up3 I 5 0 2 x1) J 0 ((up3 I 5 0 2 x1) 5 0 3) 0 0)
set_option maxRecDepth 20000 in
theorem c_X5_bestScore {l : Launch} {g : Geo} {Q : Int32 → MI → MJ → Prop} {I : MI} {J : MJ} {x1 : Int32} (h : wp_X5_bestScore Q I J x1) : Ct g l yX5_bestScore cX5_bestScore 2 (some .int) 15 388 [.ref (gad g 5 0), .int x1] I J (PI Q) := by
  refine Ct.of (by decide) ?_
  intro p e s m below meth c C
  have hR : 15 ≤ (Rm 15 388).frames ∧ 388 ≤ (Rm 15 388).locals := ⟨Nat.le_refl _, Nat.le_refl _⟩
  generalize Rm 15 388 = R at hR ⊢
  have hl := lv_entry ([.ref (gad g 5 0), .int x1]) (n := 2) (Nat.le_of_ble_eq_true rfl)
  rw [lg_entry_eq]
  generalize (lg_sl ([.ref (gad g 5 0), .int x1]) ++ List.replicate (2 - (lg_sl ([.ref (gad g 5 0), .int x1])).length) Slot.unset).toArray = ls at hl ⊢
  have hl : lv_has ls 2 [(0, .ref (gad g 5 0)), (1, .int x1)] := hl
  refine f_aload_n C dX5_bestScore_0 rfl (lv_at hl 0 rfl) ?_
  refine f_iload_n C dX5_bestScore_1 rfl (lv_at hl 1 rfl) ?_
  obtain ⟨hb1, h⟩ := h
  refine pu_RX5_39 C (by decide) hb1 dX5_bestScore_2 ?_
  refine f_aload_n C dX5_bestScore_5 rfl (lv_at hl 0 rfl) ?_
  refine f_iconst (v := 0) C dX5_bestScore_6 (by decide) ?_
  refine f_aload_n C dX5_bestScore_7 rfl (lv_at hl 0 rfl) ?_
  refine ge_RX5_16 C (by decide) dX5_bestScore_8 ?_
  refine f_iconst (v := 0) C dX5_bestScore_11 (by decide) ?_
  refine f_iconst (v := 0) C dX5_bestScore_12 (by decide) ?_
  refine f_cVi (As := [.int 0, .int ((up3 I 5 0 2 x1) 5 0 3), .int 0, .int 0]) (rest := []) (n := 4) (T0 := TX5) (N := 8) C (c_X5_bestFrom h) ok_X5_bestFrom im_X5_bestFrom se_X5_bestFrom kw_RX5_43 ⟨Nat.le_trans (by decide) hR.1, Nat.le_trans (by decide) hR.2⟩ (by decide) rfl rfl rfl hl.1 (Nat.le_of_ble_eq_true rfl) dX5_bestScore_13 (fun r2 I2 J2 h => ?_)
  exact f_iret C h dX5_bestScore_16

def wp_X5_wonOf (Q : Int32 → MI → MJ → Prop) (I : MI) (J : MJ) (x0 : Int32) : Prop :=
  Q (x0 / 1024) I J
set_option maxRecDepth 20000 in
theorem c_X5_wonOf {l : Launch} {g : Geo} {Q : Int32 → MI → MJ → Prop} {I : MI} {J : MJ} {x0 : Int32} (h : wp_X5_wonOf Q I J x0) : Ct g l yX5_wonOf cX5_wonOf 1 (some .int) 0 0 [.int x0] I J (PI Q) := by
  refine Ct.of (by decide) ?_
  intro p e s m below meth c C
  have hR : 0 ≤ (Rm 0 0).frames ∧ 0 ≤ (Rm 0 0).locals := ⟨Nat.le_refl _, Nat.le_refl _⟩
  generalize Rm 0 0 = R at hR ⊢
  have hl := lv_entry ([.int x0]) (n := 1) (Nat.le_of_ble_eq_true rfl)
  rw [lg_entry_eq]
  generalize (lg_sl ([.int x0]) ++ List.replicate (1 - (lg_sl ([.int x0])).length) Slot.unset).toArray = ls at hl ⊢
  have hl : lv_has ls 1 [(0, .int x0)] := hl
  refine f_iload_n C dX5_wonOf_0 rfl (lv_at hl 0 rfl) ?_
  refine f_sipush (v := 1024) C dX5_wonOf_1 (by decide) ?_
  refine f_idiv C dX5_wonOf_4 (by decide) ?_
  exact f_iret C h dX5_wonOf_5

def wp_X5_pullsOf (Q : Int32 → MI → MJ → Prop) (I : MI) (J : MJ) (x0 : Int32) : Prop :=
  Q (1023 - (x0 - x0 / 1024 * 1024)) I J
set_option maxRecDepth 20000 in
theorem c_X5_pullsOf {l : Launch} {g : Geo} {Q : Int32 → MI → MJ → Prop} {I : MI} {J : MJ} {x0 : Int32} (h : wp_X5_pullsOf Q I J x0) : Ct g l yX5_pullsOf cX5_pullsOf 1 (some .int) 0 0 [.int x0] I J (PI Q) := by
  refine Ct.of (by decide) ?_
  intro p e s m below meth c C
  have hR : 0 ≤ (Rm 0 0).frames ∧ 0 ≤ (Rm 0 0).locals := ⟨Nat.le_refl _, Nat.le_refl _⟩
  generalize Rm 0 0 = R at hR ⊢
  have hl := lv_entry ([.int x0]) (n := 1) (Nat.le_of_ble_eq_true rfl)
  rw [lg_entry_eq]
  generalize (lg_sl ([.int x0]) ++ List.replicate (1 - (lg_sl ([.int x0])).length) Slot.unset).toArray = ls at hl ⊢
  have hl : lv_has ls 1 [(0, .int x0)] := hl
  refine f_sipush (v := 1023) C dX5_pullsOf_0 (by decide) ?_
  refine f_iload_n C dX5_pullsOf_3 rfl (lv_at hl 0 rfl) ?_
  refine f_sipush (v := 1024) C dX5_pullsOf_4 (by decide) ?_
  refine f_irem C dX5_pullsOf_7 (by decide) ?_
  refine f_isub C dX5_pullsOf_8 ?_
  exact f_iret C h dX5_pullsOf_9

def B_X6_become_26 (Q : MI → MJ → Prop) (C26 : MI → MJ → Nat → Nat → Int32 → Prop) (I : MI) (J : MJ) (n0 : Nat) (n1 : Nat) (x2 : Int32) : Prop :=
  ((I 6 n0 1) ≤ x2 → Q I J) ∧
  (¬ ((I 6 n0 1) ≤ x2) → vp_in x2 8 ∧ (vp_in x2 8 ∧ (wp_X4_become (fun I5 J5 => C26 I5 J5 n0 n1 (x2 + 1)) I J (8 * n0 + x2.toNatClampNeg) (8 * n1 + x2.toNatClampNeg))))
set_option maxRecDepth 20000 in
theorem b_X6_become_26 {p : Program} {l : Launch} {e : Env} {R : Room} {s : State} {m : MethodId} {args : Array Value} {below : List Frame} {meth : Method} {c : Code} {g : Geo} (C : Cx g p s m args meth c cX6_become 3 RX6 none) (hR : 2 ≤ R.frames ∧ 81 ≤ R.locals) {Q : MI → MJ → Prop} {C26 : MI → MJ → Nat → Nat → Int32 → Prop} (hC26 : ∀ (I : MI) (J : MJ) (n0 : Nat) (n1 : Nat) (x2 : Int32), n0 < 3 → n1 < 3 → C26 I J n0 n1 x2 → ∀ ls : Array Slot, lv_has ls 3 [(0, .ref (gad g 6 n0)), (1, .ref (gad g 6 n1)), (2, .int x2)] → Wf p l e R s m args below meth c (MQ below (Qg g (PV Q)) args s 0 0 (gA g)) g I J (F0 m 26 ls [])) {I : MI} {J : MJ} {n0 : Nat} {n1 : Nat} {x2 : Int32} (hn0 : n0 < 3) (hn1 : n1 < 3) (h : B_X6_become_26 Q C26 I J n0 n1 x2) (ls : Array Slot) (hl : lv_has ls 3 [(0, .ref (gad g 6 n0)), (1, .ref (gad g 6 n1)), (2, .int x2)]) : Wf p l e R s m args below meth c (MQ below (Qg g (PV Q)) args s 0 0 (gA g)) g I J (F0 m 26 ls []) := by
  refine f_iload_n C dX6_become_26 rfl (lv_at hl 2 rfl) ?_
  refine f_aload_n C dX6_become_27 rfl (lv_at hl 0 rfl) ?_
  refine ge_RX6_22 C hn0 dX6_become_28 ?_
  refine f_icmp_ge (tgt := 55) C dX6_become_31 (by decide) (fun c2 => ?_) (fun c2 => ?_)
  · replace h := h.1 c2
    exact f_vret C h dX6_become_55
  · replace h := h.2 c2
    refine f_aload_n C dX6_become_34 rfl (lv_at hl 0 rfl) ?_
    refine ge_RX6_11 C hn0 dX6_become_35 ?_
    refine f_iload_n C dX6_become_38 rfl (lv_at hl 2 rfl) ?_
    obtain ⟨hi3, h⟩ := h
    refine f_aldR C hn0 hi3 dX6_become_39 ?_
    refine f_aload_n C dX6_become_40 rfl (lv_at hl 1 rfl) ?_
    refine ge_RX6_11 C hn1 dX6_become_41 ?_
    refine f_iload_n C dX6_become_44 rfl (lv_at hl 2 rfl) ?_
    obtain ⟨hi4, h⟩ := h
    refine f_aldR C hn1 hi4 dX6_become_45 ?_
    refine f_cVv (As := [.ref (gad g 4 (8 * n1 + x2.toNatClampNeg))]) (rest := []) (n := 1) (T0 := TX4) (N := 8) C (c_X4_become (rn_lt hn0 hi3) (rn_lt hn1 hi4) h) ok_X4_become im_X4_become se_X4_become kw_RX6_28 ⟨Nat.le_trans (by decide) hR.1, Nat.le_trans (by decide) hR.2⟩ (rn_lt hn0 hi3) rfl rfl rfl hl.1 (Nat.le_of_ble_eq_true rfl) dX6_become_46 (fun I5 J5 h => ?_)
    refine f_iinc (v := x2 + 1) (lv' := [(2, .int (x2 + 1)), (0, .ref (gad g 6 n0)), (1, .ref (gad g 6 n1))]) C dX6_become_49 hl (k := 2) rfl rfl (by decide) rfl (fun ls hl => ?_)
    refine f_goto (tgt := 26) C dX6_become_52 (by decide) ?_
    exact hC26 _ _ _ _ _ hn0 hn1 h ls (lv_sub hl [1, 2, 0] rfl)

def L_X6_become_26 (Q : MI → MJ → Prop) : Nat → MI → MJ → Nat → Nat → Int32 → Prop
  | 0 => fun _ _ _ _ _ => False
  | n + 1 => fun I J n0 n1 x2 => B_X6_become_26 Q (L_X6_become_26 Q n) I J n0 n1 x2
theorem t_X6_become_26 {p : Program} {l : Launch} {e : Env} {R : Room} {s : State} {m : MethodId} {args : Array Value} {below : List Frame} {meth : Method} {c : Code} {g : Geo} (C : Cx g p s m args meth c cX6_become 3 RX6 none) (hR : 2 ≤ R.frames ∧ 81 ≤ R.locals) {Q : MI → MJ → Prop} : ∀ (n : Nat), ∀ (I : MI) (J : MJ) (n0 : Nat) (n1 : Nat) (x2 : Int32), n0 < 3 → n1 < 3 → L_X6_become_26 Q n I J n0 n1 x2 → ∀ ls : Array Slot, lv_has ls 3 [(0, .ref (gad g 6 n0)), (1, .ref (gad g 6 n1)), (2, .int x2)] → Wf p l e R s m args below meth c (MQ below (Qg g (PV Q)) args s 0 0 (gA g)) g I J (F0 m 26 ls []) := by
  intro n
  induction n with
  | zero => intro I J n0 n1 x2 hn0 hn1 h; exact h.elim
  | succ n ih => intro I J n0 n1 x2 hn0 hn1 h ls hl; exact b_X6_become_26 C hR ih hn0 hn1 h ls hl
def wp_X6_become (Q : MI → MJ → Prop) (I : MI) (J : MJ) (n0 : Nat) (n1 : Nat) : Prop :=
  ∀ I1 : MI, I1 = up3 (up3 (up3 I 6 n0 1 (I 6 n1 1)) 6 n0 2 ((up3 I 6 n0 1 (I 6 n1 1)) 6 n1 2)) 6 n0 3 ((up3 (up3 I 6 n0 1 (I 6 n1 1)) 6 n0 2 ((up3 I 6 n0 1 (I 6 n1 1)) 6 n1 2)) 6 n1 3) → (∃ n : Nat, L_X6_become_26 Q n I1 J n0 n1 0)
set_option maxRecDepth 20000 in
theorem c_X6_become {l : Launch} {g : Geo} {Q : MI → MJ → Prop} {I : MI} {J : MJ} {n0 : Nat} {n1 : Nat} (hn0 : n0 < 3) (hn1 : n1 < 3) (h : wp_X6_become Q I J n0 n1) : Ct g l yX6_become cX6_become 3 none 2 81 [.ref (gad g 6 n0), .ref (gad g 6 n1)] I J (PV Q) := by
  refine Ct.of (by decide) ?_
  intro p e s m below meth c C
  have hR : 2 ≤ (Rm 2 81).frames ∧ 81 ≤ (Rm 2 81).locals := ⟨Nat.le_refl _, Nat.le_refl _⟩
  generalize Rm 2 81 = R at hR ⊢
  have hl := lv_entry ([.ref (gad g 6 n0), .ref (gad g 6 n1)]) (n := 3) (Nat.le_of_ble_eq_true rfl)
  rw [lg_entry_eq]
  generalize (lg_sl ([.ref (gad g 6 n0), .ref (gad g 6 n1)]) ++ List.replicate (3 - (lg_sl ([.ref (gad g 6 n0), .ref (gad g 6 n1)])).length) Slot.unset).toArray = ls at hl ⊢
  have hl : lv_has ls 3 [(0, .ref (gad g 6 n0)), (1, .ref (gad g 6 n1))] := hl
  refine f_aload_n C dX6_become_0 rfl (lv_at hl 0 rfl) ?_
  refine f_aload_n C dX6_become_1 rfl (lv_at hl 1 rfl) ?_
  refine ge_RX6_22 C hn1 dX6_become_2 ?_
  refine pu_RX6_22 C hn0 dX6_become_5 ?_
  refine f_aload_n C dX6_become_8 rfl (lv_at hl 0 rfl) ?_
  refine f_aload_n C dX6_become_9 rfl (lv_at hl 1 rfl) ?_
  refine ge_RX6_17 C hn1 dX6_become_10 ?_
  refine pu_RX6_17 C hn0 dX6_become_13 ?_
  refine f_aload_n C dX6_become_16 rfl (lv_at hl 0 rfl) ?_
  refine f_aload_n C dX6_become_17 rfl (lv_at hl 1 rfl) ?_
  refine ge_RX6_25 C hn1 dX6_become_18 ?_
  refine pu_RX6_25 C hn0 dX6_become_21 ?_
  generalize hI1 : up3 (up3 (up3 I 6 n0 1 (I 6 n1 1)) 6 n0 2 ((up3 I 6 n0 1 (I 6 n1 1)) 6 n1 2)) 6 n0 3 ((up3 (up3 I 6 n0 1 (I 6 n1 1)) 6 n0 2 ((up3 I 6 n0 1 (I 6 n1 1)) 6 n1 2)) 6 n1 3) = I1
  replace h := h I1 hI1.symm
  refine f_iconst (v := 0) C dX6_become_24 (by decide) ?_
  refine f_istore_n (lv' := [(2, .int 0), (0, .ref (gad g 6 n0)), (1, .ref (gad g 6 n1))]) C dX6_become_25 rfl hl (by decide) rfl (fun ls hl => ?_)
  obtain ⟨n, h⟩ := h
  exact t_X6_become_26 C hR n _ _ _ _ _ hn0 hn1 h ls (lv_sub hl [1, 2, 0] rfl)

def wp_X6_nextLot (Q : Int32 → MI → MJ → Prop) (I : MI) (J : MJ) (n0 : Nat) : Prop :=
  Q ((up3 I 6 n0 2 (((I 6 n0 2) * 1103515245) + 12345)) 6 n0 2) (up3 I 6 n0 2 (((I 6 n0 2) * 1103515245) + 12345)) J
set_option maxRecDepth 20000 in
theorem c_X6_nextLot {l : Launch} {g : Geo} {Q : Int32 → MI → MJ → Prop} {I : MI} {J : MJ} {n0 : Nat} (hn0 : n0 < 3) (h : wp_X6_nextLot Q I J n0) : Ct g l yX6_nextLot cX6_nextLot 1 (some .int) 0 0 [.ref (gad g 6 n0)] I J (PI Q) := by
  refine Ct.of (by decide) ?_
  intro p e s m below meth c C
  have hR : 0 ≤ (Rm 0 0).frames ∧ 0 ≤ (Rm 0 0).locals := ⟨Nat.le_refl _, Nat.le_refl _⟩
  generalize Rm 0 0 = R at hR ⊢
  have hl := lv_entry ([.ref (gad g 6 n0)]) (n := 1) (Nat.le_of_ble_eq_true rfl)
  rw [lg_entry_eq]
  generalize (lg_sl ([.ref (gad g 6 n0)]) ++ List.replicate (1 - (lg_sl ([.ref (gad g 6 n0)])).length) Slot.unset).toArray = ls at hl ⊢
  have hl : lv_has ls 1 [(0, .ref (gad g 6 n0))] := hl
  refine f_aload_n C dX6_nextLot_0 rfl (lv_at hl 0 rfl) ?_
  refine f_aload_n C dX6_nextLot_1 rfl (lv_at hl 0 rfl) ?_
  refine ge_RX6_17 C hn0 dX6_nextLot_2 ?_
  refine f_ldc C kc_RX6_32 dX6_nextLot_5 ?_
  refine f_imul C dX6_nextLot_7 ?_
  refine f_sipush (v := 12345) C dX6_nextLot_8 (by decide) ?_
  refine f_iadd C dX6_nextLot_11 ?_
  refine pu_RX6_17 C hn0 dX6_nextLot_12 ?_
  refine f_aload_n C dX6_nextLot_15 rfl (lv_at hl 0 rfl) ?_
  refine ge_RX6_17 C hn0 dX6_nextLot_16 ?_
  exact f_iret C h dX6_nextLot_19

def wp_X7_runner (Q : Int32 → MI → MJ → Prop) (I : MI) (J : MJ) (x1 : Int32) : Prop :=
  wp_X7_within (fun r1 I1 J1 => (r1 = 0 → Q ((-1)) I1 J1) ∧
  (¬ (r1 = 0) → ((I1 6 0 1) < 8 → vp_in (I1 6 0 1) 8 ∧ (wp_X4_begin (fun I5 J5 => Q (((up3 I5 6 0 1 ((I5 6 0 1) + 1)) 6 0 1) - 1) (up3 I5 6 0 1 ((I5 6 0 1) + 1)) J5) I1 J1 (8 * 0 + (I1 6 0 1).toNatClampNeg) x1)) ∧
  (¬ ((I1 6 0 1) < 8) → Q ((-3)) I1 J1))) I J x1 0 200
set_option maxRecDepth 20000 in
theorem c_X7_runner {l : Launch} {g : Geo} {Q : Int32 → MI → MJ → Prop} {I : MI} {J : MJ} {x1 : Int32} (h : wp_X7_runner Q I J x1) : Ct g l yX7_runner cX7_runner 2 (some .int) 1 22 [.ref (gad g 7 0), .int x1] I J (PI Q) := by
  refine Ct.of (by decide) ?_
  intro p e s m below meth c C
  have hR : 1 ≤ (Rm 1 22).frames ∧ 22 ≤ (Rm 1 22).locals := ⟨Nat.le_refl _, Nat.le_refl _⟩
  generalize Rm 1 22 = R at hR ⊢
  have hl := lv_entry ([.ref (gad g 7 0), .int x1]) (n := 2) (Nat.le_of_ble_eq_true rfl)
  rw [lg_entry_eq]
  generalize (lg_sl ([.ref (gad g 7 0), .int x1]) ++ List.replicate (2 - (lg_sl ([.ref (gad g 7 0), .int x1])).length) Slot.unset).toArray = ls at hl ⊢
  have hl : lv_has ls 2 [(0, .ref (gad g 7 0)), (1, .int x1)] := hl
  refine f_iload_n C dX7_runner_0 rfl (lv_at hl 1 rfl) ?_
  refine f_iconst (v := 0) C dX7_runner_1 (by decide) ?_
  refine f_sipush (v := 200) C dX7_runner_2 (by decide) ?_
  refine f_cSi (As := [.int x1, .int 0, .int 200]) (rest := []) (n := 3) C (c_X7_within h) ok_X7_within sm_X7_within kw_RX7_78 ⟨Nat.le_trans (by decide) hR.1, Nat.le_trans (by decide) hR.2⟩ rfl hl.1 (Nat.le_of_ble_eq_true rfl) dX7_runner_5 (fun r1 I1 J1 h => ?_)
  refine f_if_ne (tgt := 13) C dX7_runner_8 (by decide) (fun c2 => ?_) (fun c2 => ?_)
  · replace h := h.2 c2
    refine f_aload_n C dX7_runner_13 rfl (lv_at hl 0 rfl) ?_
    refine ge_RX7_10 C (by decide) dX7_runner_14 ?_
    refine ge_RX7_82 C (by decide) dX7_runner_17 ?_
    refine f_bipush (v := 8) C dX7_runner_20 (by decide) ?_
    refine f_icmp_lt (tgt := 28) C dX7_runner_22 (by decide) (fun c3 => ?_) (fun c3 => ?_)
    · replace h := h.1 c3
      refine f_aload_n C dX7_runner_28 rfl (lv_at hl 0 rfl) ?_
      refine ge_RX7_10 C (by decide) dX7_runner_29 ?_
      refine ge_RX7_86 C (by decide) dX7_runner_32 ?_
      refine f_aload_n C dX7_runner_35 rfl (lv_at hl 0 rfl) ?_
      refine ge_RX7_10 C (by decide) dX7_runner_36 ?_
      refine ge_RX7_82 C (by decide) dX7_runner_39 ?_
      obtain ⟨hi4, h⟩ := h
      refine f_aldR C (by decide) hi4 dX7_runner_42 ?_
      refine f_iload_n C dX7_runner_43 rfl (lv_at hl 1 rfl) ?_
      refine f_cVv (As := [.int x1]) (rest := []) (n := 1) (T0 := TX4) (N := 8) C (c_X4_begin (rn_lt (by decide) hi4) h) ok_X4_begin im_X4_begin se_X4_begin kw_RX7_90 ⟨Nat.le_trans (by decide) hR.1, Nat.le_trans (by decide) hR.2⟩ (rn_lt (by decide) hi4) rfl rfl rfl hl.1 (Nat.le_of_ble_eq_true rfl) dX7_runner_44 (fun I5 J5 h => ?_)
      refine f_aload_n C dX7_runner_47 rfl (lv_at hl 0 rfl) ?_
      refine ge_RX7_10 C (by decide) dX7_runner_48 ?_
      refine f_dup C dX7_runner_51 rfl ?_
      refine ge_RX7_82 C (by decide) dX7_runner_52 ?_
      refine f_iconst (v := 1) C dX7_runner_55 (by decide) ?_
      refine f_iadd C dX7_runner_56 ?_
      refine pu_RX7_82 C (by decide) dX7_runner_57 ?_
      refine f_aload_n C dX7_runner_60 rfl (lv_at hl 0 rfl) ?_
      refine ge_RX7_10 C (by decide) dX7_runner_61 ?_
      refine ge_RX7_82 C (by decide) dX7_runner_64 ?_
      refine f_iconst (v := 1) C dX7_runner_67 (by decide) ?_
      refine f_isub C dX7_runner_68 ?_
      exact f_iret C h dX7_runner_69
    · replace h := h.2 c3
      refine f_bipush (v := (-3)) C dX7_runner_25 (by decide) ?_
      exact f_iret C h dX7_runner_27
  · replace h := h.1 c2
    refine f_iconst (v := (-1)) C dX7_runner_11 (by decide) ?_
    exact f_iret C h dX7_runner_12

def wp_X7_isHere (Q : Int32 → MI → MJ → Prop) (I : MI) (J : MJ) (x1 : Int32) : Prop :=
  (x1 < 0 → Q 0 I J) ∧
  (¬ (x1 < 0) → ((I 6 0 1) ≤ x1 → Q 0 I J) ∧
  (¬ ((I 6 0 1) ≤ x1) → Q 1 I J))
set_option maxRecDepth 20000 in
theorem c_X7_isHere {l : Launch} {g : Geo} {Q : Int32 → MI → MJ → Prop} {I : MI} {J : MJ} {x1 : Int32} (h : wp_X7_isHere Q I J x1) : Ct g l yX7_isHere cX7_isHere 2 (some .boolean) 0 0 [.ref (gad g 7 0), .int x1] I J (PI Q) := by
  refine Ct.of (by decide) ?_
  intro p e s m below meth c C
  have hR : 0 ≤ (Rm 0 0).frames ∧ 0 ≤ (Rm 0 0).locals := ⟨Nat.le_refl _, Nat.le_refl _⟩
  generalize Rm 0 0 = R at hR ⊢
  have hl := lv_entry ([.ref (gad g 7 0), .int x1]) (n := 2) (Nat.le_of_ble_eq_true rfl)
  rw [lg_entry_eq]
  generalize (lg_sl ([.ref (gad g 7 0), .int x1]) ++ List.replicate (2 - (lg_sl ([.ref (gad g 7 0), .int x1])).length) Slot.unset).toArray = ls at hl ⊢
  have hl : lv_has ls 2 [(0, .ref (gad g 7 0)), (1, .int x1)] := hl
  refine f_iload_n C dX7_isHere_0 rfl (lv_at hl 1 rfl) ?_
  refine f_if_lt (tgt := 19) C dX7_isHere_1 (by decide) (fun c1 => ?_) (fun c1 => ?_)
  · replace h := h.1 c1
    refine f_iconst (v := 0) C dX7_isHere_19 (by decide) ?_
    exact f_zret C (Or.inl rfl) h dX7_isHere_20
  · replace h := h.2 c1
    refine f_iload_n C dX7_isHere_4 rfl (lv_at hl 1 rfl) ?_
    refine f_aload_n C dX7_isHere_5 rfl (lv_at hl 0 rfl) ?_
    refine ge_RX7_10 C (by decide) dX7_isHere_6 ?_
    refine ge_RX7_82 C (by decide) dX7_isHere_9 ?_
    refine f_icmp_ge (tgt := 19) C dX7_isHere_12 (by decide) (fun c2 => ?_) (fun c2 => ?_)
    · replace h := h.1 c2
      refine f_iconst (v := 0) C dX7_isHere_19 (by decide) ?_
      exact f_zret C (Or.inl rfl) h dX7_isHere_20
    · replace h := h.2 c2
      refine f_iconst (v := 1) C dX7_isHere_15 (by decide) ?_
      refine f_goto (tgt := 20) C dX7_isHere_16 (by decide) ?_
      exact f_zret C (Or.inr rfl) h dX7_isHere_20

def wp_X7_set (Q : Int32 → MI → MJ → Prop) (I : MI) (J : MJ) (x1 : Int32) (x2 : Int32) (x3 : Int32) : Prop :=
  wp_X7_isHere (fun r1 I1 J1 => (r1 = 0 → Q ((-1000000)) I1 J1) ∧
  (¬ (r1 = 0) → wp_X7_within (fun r3 I3 J3 => (r3 = 0 → Q ((-1000000)) I3 J3) ∧
  (¬ (r3 = 0) → vp_in x2 6 ∧ (vp_in x2 6 ∧ (wp_X7_within (fun r7 I7 J7 => (r7 = 0 → Q ((-1000000)) I7 J7) ∧
  (¬ (r7 = 0) → vp_in x1 8 ∧ (wp_X4_change (fun r10 I10 J10 => Q r10 I10 J10) I7 J7 (8 * 0 + x1.toNatClampNeg) x2 x3))) I3 J3 x3 (stV 2 (x2.toNatClampNeg)) (stV 1 (x2.toNatClampNeg)))))) I1 J1 x2 0 (6 - 1))) I J x1
set_option maxRecDepth 20000 in
theorem c_X7_set {l : Launch} {g : Geo} {Q : Int32 → MI → MJ → Prop} {I : MI} {J : MJ} {x1 : Int32} {x2 : Int32} {x3 : Int32} (h : wp_X7_set Q I J x1 x2 x3) : Ct g l yX7_set cX7_set 4 (some .int) 3 68 [.ref (gad g 7 0), .int x1, .int x2, .int x3] I J (PI Q) := by
  refine Ct.of (by decide) ?_
  intro p e s m below meth c C
  have hR : 3 ≤ (Rm 3 68).frames ∧ 68 ≤ (Rm 3 68).locals := ⟨Nat.le_refl _, Nat.le_refl _⟩
  generalize Rm 3 68 = R at hR ⊢
  have hl := lv_entry ([.ref (gad g 7 0), .int x1, .int x2, .int x3]) (n := 4) (Nat.le_of_ble_eq_true rfl)
  rw [lg_entry_eq]
  generalize (lg_sl ([.ref (gad g 7 0), .int x1, .int x2, .int x3]) ++ List.replicate (4 - (lg_sl ([.ref (gad g 7 0), .int x1, .int x2, .int x3])).length) Slot.unset).toArray = ls at hl ⊢
  have hl : lv_has ls 4 [(0, .ref (gad g 7 0)), (1, .int x1), (2, .int x2), (3, .int x3)] := hl
  refine f_aload_n C dX7_set_0 rfl (lv_at hl 0 rfl) ?_
  refine f_iload_n C dX7_set_1 rfl (lv_at hl 1 rfl) ?_
  refine f_cVi (As := [.int x1]) (rest := []) (n := 1) (T0 := TX7) (N := 15) C (c_X7_isHere h) ok_X7_isHere im_X7_isHere se_X7_isHere kw_RX7_94 ⟨Nat.le_trans (by decide) hR.1, Nat.le_trans (by decide) hR.2⟩ (by decide) rfl rfl rfl hl.1 (Nat.le_of_ble_eq_true rfl) dX7_set_2 (fun r1 I1 J1 h => ?_)
  refine f_if_eq (tgt := 22) C dX7_set_5 (by decide) (fun c2 => ?_) (fun c2 => ?_)
  · replace h := h.1 c2
    refine f_ldc C kc_RX7_101 dX7_set_22 ?_
    exact f_iret C h dX7_set_24
  · replace h := h.2 c2
    refine f_iload_n C dX7_set_8 rfl (lv_at hl 2 rfl) ?_
    refine f_iconst (v := 0) C dX7_set_9 (by decide) ?_
    refine gs_RX7_98 C dX7_set_10 ?_
    refine f_alenS (v := 6) 1 (by decide) C (by decide) dX7_set_13 ?_
    refine f_iconst (v := 1) C dX7_set_14 (by decide) ?_
    refine f_isub C dX7_set_15 ?_
    refine f_cSi (As := [.int x2, .int 0, .int (6 - 1)]) (rest := []) (n := 3) C (c_X7_within h) ok_X7_within sm_X7_within kw_RX7_78 ⟨Nat.le_trans (by decide) hR.1, Nat.le_trans (by decide) hR.2⟩ rfl hl.1 (Nat.le_of_ble_eq_true rfl) dX7_set_16 (fun r3 I3 J3 h => ?_)
    refine f_if_ne (tgt := 25) C dX7_set_19 (by decide) (fun c4 => ?_) (fun c4 => ?_)
    · replace h := h.2 c4
      refine f_iload_n C dX7_set_25 rfl (lv_at hl 3 rfl) ?_
      refine gs_RX7_102 C dX7_set_26 ?_
      refine f_iload_n C dX7_set_29 rfl (lv_at hl 2 rfl) ?_
      obtain ⟨hi5, h⟩ := h
      refine st_k (k := x2.toNatClampNeg) 2 (by decide) C rfl hi5 dX7_set_30 ?_
      refine gs_RX7_98 C dX7_set_31 ?_
      refine f_iload_n C dX7_set_34 rfl (lv_at hl 2 rfl) ?_
      obtain ⟨hi6, h⟩ := h
      refine st_k (k := x2.toNatClampNeg) 1 (by decide) C rfl hi6 dX7_set_35 ?_
      refine f_cSi (As := [.int x3, .int (stV 2 (x2.toNatClampNeg)), .int (stV 1 (x2.toNatClampNeg))]) (rest := []) (n := 3) C (c_X7_within h) ok_X7_within sm_X7_within kw_RX7_78 ⟨Nat.le_trans (by decide) hR.1, Nat.le_trans (by decide) hR.2⟩ rfl hl.1 (Nat.le_of_ble_eq_true rfl) dX7_set_36 (fun r7 I7 J7 h => ?_)
      refine f_if_ne (tgt := 45) C dX7_set_39 (by decide) (fun c8 => ?_) (fun c8 => ?_)
      · replace h := h.2 c8
        refine f_aload_n C dX7_set_45 rfl (lv_at hl 0 rfl) ?_
        refine ge_RX7_10 C (by decide) dX7_set_46 ?_
        refine ge_RX7_86 C (by decide) dX7_set_49 ?_
        refine f_iload_n C dX7_set_52 rfl (lv_at hl 1 rfl) ?_
        obtain ⟨hi9, h⟩ := h
        refine f_aldR C (by decide) hi9 dX7_set_53 ?_
        refine f_iload_n C dX7_set_54 rfl (lv_at hl 2 rfl) ?_
        refine f_iload_n C dX7_set_55 rfl (lv_at hl 3 rfl) ?_
        refine f_cVi (As := [.int x2, .int x3]) (rest := []) (n := 2) (T0 := TX4) (N := 8) C (c_X4_change (rn_lt (by decide) hi9) h) ok_X4_change im_X4_change se_X4_change kw_RX7_105 ⟨Nat.le_trans (by decide) hR.1, Nat.le_trans (by decide) hR.2⟩ (rn_lt (by decide) hi9) rfl rfl rfl hl.1 (Nat.le_of_ble_eq_true rfl) dX7_set_56 (fun r10 I10 J10 h => ?_)
        exact f_iret C h dX7_set_59
      · replace h := h.1 c8
        refine f_ldc C kc_RX7_101 dX7_set_42 ?_
        exact f_iret C h dX7_set_44
    · replace h := h.1 c4
      refine f_ldc C kc_RX7_101 dX7_set_22 ?_
      exact f_iret C h dX7_set_24

def wp_X7_about (Q : Int32 → MI → MJ → Prop) (I : MI) (J : MJ) (x1 : Int32) (x2 : Int32) : Prop :=
  wp_X7_isHere (fun r1 I1 J1 => (r1 = 0 → Q ((-1000000)) I1 J1) ∧
  (¬ (r1 = 0) → vp_in x1 8 ∧ ((x2 = 0 → Q (I1 4 (8 * 0 + x1.toNatClampNeg) 2) I1 J1) ∧
  (¬ (x2 = 0) → (x2 = 1 → Q (I1 4 (8 * 0 + x1.toNatClampNeg) 3) I1 J1) ∧
  (¬ (x2 = 1) → (x2 = 2 → Q (I1 4 (8 * 0 + x1.toNatClampNeg) 4) I1 J1) ∧
  (¬ (x2 = 2) → (x2 = 3 → Q (I1 4 (8 * 0 + x1.toNatClampNeg) 5) I1 J1) ∧
  (¬ (x2 = 3) → (x2 = 4 → Q (I1 4 (8 * 0 + x1.toNatClampNeg) 6) I1 J1) ∧
  (¬ (x2 = 4) → (x2 = 5 → Q (I1 4 (8 * 0 + x1.toNatClampNeg) 7) I1 J1) ∧
  (¬ (x2 = 5) → Q ((-1000000)) I1 J1))))))))) I J x1
set_option maxRecDepth 20000 in
theorem c_X7_about {l : Launch} {g : Geo} {Q : Int32 → MI → MJ → Prop} {I : MI} {J : MJ} {x1 : Int32} {x2 : Int32} (h : wp_X7_about Q I J x1 x2) : Ct g l yX7_about cX7_about 4 (some .int) 1 21 [.ref (gad g 7 0), .int x1, .int x2] I J (PI Q) := by
  refine Ct.of (by decide) ?_
  intro p e s m below meth c C
  have hR : 1 ≤ (Rm 1 21).frames ∧ 21 ≤ (Rm 1 21).locals := ⟨Nat.le_refl _, Nat.le_refl _⟩
  generalize Rm 1 21 = R at hR ⊢
  have hl := lv_entry ([.ref (gad g 7 0), .int x1, .int x2]) (n := 4) (Nat.le_of_ble_eq_true rfl)
  rw [lg_entry_eq]
  generalize (lg_sl ([.ref (gad g 7 0), .int x1, .int x2]) ++ List.replicate (4 - (lg_sl ([.ref (gad g 7 0), .int x1, .int x2])).length) Slot.unset).toArray = ls at hl ⊢
  have hl : lv_has ls 4 [(0, .ref (gad g 7 0)), (1, .int x1), (2, .int x2)] := hl
  refine f_aload_n C dX7_about_0 rfl (lv_at hl 0 rfl) ?_
  refine f_iload_n C dX7_about_1 rfl (lv_at hl 1 rfl) ?_
  refine f_cVi (As := [.int x1]) (rest := []) (n := 1) (T0 := TX7) (N := 15) C (c_X7_isHere h) ok_X7_isHere im_X7_isHere se_X7_isHere kw_RX7_94 ⟨Nat.le_trans (by decide) hR.1, Nat.le_trans (by decide) hR.2⟩ (by decide) rfl rfl rfl hl.1 (Nat.le_of_ble_eq_true rfl) dX7_about_2 (fun r1 I1 J1 h => ?_)
  refine f_if_ne (tgt := 11) C dX7_about_5 (by decide) (fun c2 => ?_) (fun c2 => ?_)
  · replace h := h.2 c2
    refine f_aload_n C dX7_about_11 rfl (lv_at hl 0 rfl) ?_
    refine ge_RX7_10 C (by decide) dX7_about_12 ?_
    refine ge_RX7_86 C (by decide) dX7_about_15 ?_
    refine f_iload_n C dX7_about_18 rfl (lv_at hl 1 rfl) ?_
    obtain ⟨hi3, h⟩ := h
    refine f_aldR C (by decide) hi3 dX7_about_19 ?_
    refine f_astore_n (lv' := [(3, .ref (gad g 4 (8 * 0 + x1.toNatClampNeg))), (0, .ref (gad g 7 0)), (1, .int x1), (2, .int x2)]) C dX7_about_20 rfl hl (by decide) rfl (fun ls hl => ?_)
    refine f_iload_n C dX7_about_21 rfl (lv_at hl 3 rfl) ?_
    by_cases c4 : x2 = 0
    · replace h := h.1 c4
      refine f_tableIn (tgt := 60) (off := 38) C dX7_about_22 (by rw [c4]; decide) (by rw [c4]; decide) (by rw [c4]; decide) (by decide) ?_
      refine f_aload_n C dX7_about_60 rfl (lv_at hl 0 rfl) ?_
      refine ge_RX7_109 C (rn_lt (by decide) hi3) dX7_about_61 ?_
      exact f_iret C h dX7_about_64
    replace h := h.2 c4
    by_cases c5 : x2 = 1
    · replace h := h.1 c5
      refine f_tableIn (tgt := 65) (off := 43) C dX7_about_22 (by rw [c5]; decide) (by rw [c5]; decide) (by rw [c5]; decide) (by decide) ?_
      refine f_aload_n C dX7_about_65 rfl (lv_at hl 0 rfl) ?_
      refine ge_RX7_112 C (rn_lt (by decide) hi3) dX7_about_66 ?_
      exact f_iret C h dX7_about_69
    replace h := h.2 c5
    by_cases c6 : x2 = 2
    · replace h := h.1 c6
      refine f_tableIn (tgt := 70) (off := 48) C dX7_about_22 (by rw [c6]; decide) (by rw [c6]; decide) (by rw [c6]; decide) (by decide) ?_
      refine f_aload_n C dX7_about_70 rfl (lv_at hl 0 rfl) ?_
      refine ge_RX7_115 C (rn_lt (by decide) hi3) dX7_about_71 ?_
      exact f_iret C h dX7_about_74
    replace h := h.2 c6
    by_cases c7 : x2 = 3
    · replace h := h.1 c7
      refine f_tableIn (tgt := 75) (off := 53) C dX7_about_22 (by rw [c7]; decide) (by rw [c7]; decide) (by rw [c7]; decide) (by decide) ?_
      refine f_aload_n C dX7_about_75 rfl (lv_at hl 0 rfl) ?_
      refine ge_RX7_118 C (rn_lt (by decide) hi3) dX7_about_76 ?_
      exact f_iret C h dX7_about_79
    replace h := h.2 c7
    by_cases c8 : x2 = 4
    · replace h := h.1 c8
      refine f_tableIn (tgt := 80) (off := 58) C dX7_about_22 (by rw [c8]; decide) (by rw [c8]; decide) (by rw [c8]; decide) (by decide) ?_
      refine f_aload_n C dX7_about_80 rfl (lv_at hl 0 rfl) ?_
      refine ge_RX7_121 C (rn_lt (by decide) hi3) dX7_about_81 ?_
      exact f_iret C h dX7_about_84
    replace h := h.2 c8
    by_cases c9 : x2 = 5
    · replace h := h.1 c9
      refine f_tableIn (tgt := 85) (off := 63) C dX7_about_22 (by rw [c9]; decide) (by rw [c9]; decide) (by rw [c9]; decide) (by decide) ?_
      refine f_aload_n C dX7_about_85 rfl (lv_at hl 0 rfl) ?_
      refine ge_RX7_124 C (rn_lt (by decide) hi3) dX7_about_86 ?_
      exact f_iret C h dX7_about_89
    replace h := h.2 c9
    refine f_tableOut (tgt := 90) C dX7_about_22 (by have e4 := ne_toInt (z := 0) c4 (by decide); have e5 := ne_toInt (z := 1) c5 (by decide); have e6 := ne_toInt (z := 2) c6 (by decide); have e7 := ne_toInt (z := 3) c7 (by decide); have e8 := ne_toInt (z := 4) c8 (by decide); have e9 := ne_toInt (z := 5) c9 (by decide); omega) (by decide) ?_
    refine f_ldc C kc_RX7_101 dX7_about_90 ?_
    exact f_iret C h dX7_about_92
  · replace h := h.1 c2
    refine f_ldc C kc_RX7_101 dX7_about_8 ?_
    exact f_iret C h dX7_about_10

def wp_X7_figure (Q : Int32 → MI → MJ → Prop) (I : MI) (J : MJ) (x1 : Int32) (x2 : Int32) : Prop :=
  wp_X7_isHere (fun r1 I1 J1 => (r1 = 0 → Q ((-1000000)) I1 J1) ∧
  (¬ (r1 = 0) → vp_in x1 8 ∧ (wp_X7_within (fun r4 I4 J4 => (r4 = 0 → Q ((-1000000)) I4 J4) ∧
  (¬ (r4 = 0) → vp_in x1 8 ∧ (vp_in x2 12 ∧ (Q (I4 16 (8 * 0 + x1.toNatClampNeg) (x2.toNatClampNeg)) I4 J4)))) I1 J1 x2 0 ((I1 4 (8 * 0 + x1.toNatClampNeg) 7) - 1)))) I J x1
set_option maxRecDepth 20000 in
theorem c_X7_figure {l : Launch} {g : Geo} {Q : Int32 → MI → MJ → Prop} {I : MI} {J : MJ} {x1 : Int32} {x2 : Int32} (h : wp_X7_figure Q I J x1 x2) : Ct g l yX7_figure cX7_figure 3 (some .int) 1 22 [.ref (gad g 7 0), .int x1, .int x2] I J (PI Q) := by
  refine Ct.of (by decide) ?_
  intro p e s m below meth c C
  have hR : 1 ≤ (Rm 1 22).frames ∧ 22 ≤ (Rm 1 22).locals := ⟨Nat.le_refl _, Nat.le_refl _⟩
  generalize Rm 1 22 = R at hR ⊢
  have hl := lv_entry ([.ref (gad g 7 0), .int x1, .int x2]) (n := 3) (Nat.le_of_ble_eq_true rfl)
  rw [lg_entry_eq]
  generalize (lg_sl ([.ref (gad g 7 0), .int x1, .int x2]) ++ List.replicate (3 - (lg_sl ([.ref (gad g 7 0), .int x1, .int x2])).length) Slot.unset).toArray = ls at hl ⊢
  have hl : lv_has ls 3 [(0, .ref (gad g 7 0)), (1, .int x1), (2, .int x2)] := hl
  refine f_aload_n C dX7_figure_0 rfl (lv_at hl 0 rfl) ?_
  refine f_iload_n C dX7_figure_1 rfl (lv_at hl 1 rfl) ?_
  refine f_cVi (As := [.int x1]) (rest := []) (n := 1) (T0 := TX7) (N := 15) C (c_X7_isHere h) ok_X7_isHere im_X7_isHere se_X7_isHere kw_RX7_94 ⟨Nat.le_trans (by decide) hR.1, Nat.le_trans (by decide) hR.2⟩ (by decide) rfl rfl rfl hl.1 (Nat.le_of_ble_eq_true rfl) dX7_figure_2 (fun r1 I1 J1 h => ?_)
  refine f_if_eq (tgt := 30) C dX7_figure_5 (by decide) (fun c2 => ?_) (fun c2 => ?_)
  · replace h := h.1 c2
    refine f_ldc C kc_RX7_101 dX7_figure_30 ?_
    exact f_iret C h dX7_figure_32
  · replace h := h.2 c2
    refine f_iload_n C dX7_figure_8 rfl (lv_at hl 2 rfl) ?_
    refine f_iconst (v := 0) C dX7_figure_9 (by decide) ?_
    refine f_aload_n C dX7_figure_10 rfl (lv_at hl 0 rfl) ?_
    refine ge_RX7_10 C (by decide) dX7_figure_11 ?_
    refine ge_RX7_86 C (by decide) dX7_figure_14 ?_
    refine f_iload_n C dX7_figure_17 rfl (lv_at hl 1 rfl) ?_
    obtain ⟨hi3, h⟩ := h
    refine f_aldR C (by decide) hi3 dX7_figure_18 ?_
    refine ge_RX7_124 C (rn_lt (by decide) hi3) dX7_figure_19 ?_
    refine f_iconst (v := 1) C dX7_figure_22 (by decide) ?_
    refine f_isub C dX7_figure_23 ?_
    refine f_cSi (As := [.int x2, .int 0, .int ((I1 4 (8 * 0 + x1.toNatClampNeg) 7) - 1)]) (rest := []) (n := 3) C (c_X7_within h) ok_X7_within sm_X7_within kw_RX7_78 ⟨Nat.le_trans (by decide) hR.1, Nat.le_trans (by decide) hR.2⟩ rfl hl.1 (Nat.le_of_ble_eq_true rfl) dX7_figure_24 (fun r4 I4 J4 h => ?_)
    refine f_if_ne (tgt := 33) C dX7_figure_27 (by decide) (fun c5 => ?_) (fun c5 => ?_)
    · replace h := h.2 c5
      refine f_aload_n C dX7_figure_33 rfl (lv_at hl 0 rfl) ?_
      refine ge_RX7_10 C (by decide) dX7_figure_34 ?_
      refine ge_RX7_86 C (by decide) dX7_figure_37 ?_
      refine f_iload_n C dX7_figure_40 rfl (lv_at hl 1 rfl) ?_
      obtain ⟨hi6, h⟩ := h
      refine f_aldR C (by decide) hi6 dX7_figure_41 ?_
      refine ge_RX7_127 C (rn_lt (by decide) hi6) dX7_figure_42 ?_
      refine f_iload_n C dX7_figure_45 rfl (lv_at hl 2 rfl) ?_
      obtain ⟨hi7, h⟩ := h
      refine al_k (n := 12) (k := x2.toNatClampNeg) C (rn_lt (by decide) hi6) rfl rfl hi7 dX7_figure_46 ?_
      exact f_iret C h dX7_figure_47
    · replace h := h.1 c5
      refine f_ldc C kc_RX7_101 dX7_figure_30 ?_
      exact f_iret C h dX7_figure_32

def wp_X7_tune (Q : Int32 → MI → MJ → Prop) (I : MI) (J : MJ) (x1 : Int32) (x2 : Int32) : Prop :=
  wp_X7_within (fun r1 I1 J1 => (r1 = 0 → Q ((-1)) I1 J1) ∧
  (¬ (r1 = 0) → vp_in x1 3 ∧ (wp_X7_within (fun r4 I4 J4 => (r4 = 0 → Q ((-1)) I4 J4) ∧
  (¬ (r4 = 0) → vp_in x1 3 ∧ (vp_in x1 3 ∧ (Q (I4 21 0 (x1.toNatClampNeg)) (up3 I4 21 0 (x1.toNatClampNeg) x2) J4)))) I1 J1 x2 0 (stV 3 (x1.toNatClampNeg))))) I J x1 0 (3 - 1)
set_option maxRecDepth 20000 in
theorem c_X7_tune {l : Launch} {g : Geo} {Q : Int32 → MI → MJ → Prop} {I : MI} {J : MJ} {x1 : Int32} {x2 : Int32} (h : wp_X7_tune Q I J x1 x2) : Ct g l yX7_tune cX7_tune 4 (some .int) 1 22 [.ref (gad g 7 0), .int x1, .int x2] I J (PI Q) := by
  refine Ct.of (by decide) ?_
  intro p e s m below meth c C
  have hR : 1 ≤ (Rm 1 22).frames ∧ 22 ≤ (Rm 1 22).locals := ⟨Nat.le_refl _, Nat.le_refl _⟩
  generalize Rm 1 22 = R at hR ⊢
  have hl := lv_entry ([.ref (gad g 7 0), .int x1, .int x2]) (n := 4) (Nat.le_of_ble_eq_true rfl)
  rw [lg_entry_eq]
  generalize (lg_sl ([.ref (gad g 7 0), .int x1, .int x2]) ++ List.replicate (4 - (lg_sl ([.ref (gad g 7 0), .int x1, .int x2])).length) Slot.unset).toArray = ls at hl ⊢
  have hl : lv_has ls 4 [(0, .ref (gad g 7 0)), (1, .int x1), (2, .int x2)] := hl
  refine f_iload_n C dX7_tune_0 rfl (lv_at hl 1 rfl) ?_
  refine f_iconst (v := 0) C dX7_tune_1 (by decide) ?_
  refine gs_RX7_130 C dX7_tune_2 ?_
  refine f_alenS (v := 3) 3 (by decide) C (by decide) dX7_tune_5 ?_
  refine f_iconst (v := 1) C dX7_tune_6 (by decide) ?_
  refine f_isub C dX7_tune_7 ?_
  refine f_cSi (As := [.int x1, .int 0, .int (3 - 1)]) (rest := []) (n := 3) C (c_X7_within h) ok_X7_within sm_X7_within kw_RX7_78 ⟨Nat.le_trans (by decide) hR.1, Nat.le_trans (by decide) hR.2⟩ rfl hl.1 (Nat.le_of_ble_eq_true rfl) dX7_tune_8 (fun r1 I1 J1 h => ?_)
  refine f_if_eq (tgt := 27) C dX7_tune_11 (by decide) (fun c2 => ?_) (fun c2 => ?_)
  · replace h := h.1 c2
    refine f_iconst (v := (-1)) C dX7_tune_27 (by decide) ?_
    exact f_iret C h dX7_tune_28
  · replace h := h.2 c2
    refine f_iload_n C dX7_tune_14 rfl (lv_at hl 2 rfl) ?_
    refine f_iconst (v := 0) C dX7_tune_15 (by decide) ?_
    refine gs_RX7_130 C dX7_tune_16 ?_
    refine f_iload_n C dX7_tune_19 rfl (lv_at hl 1 rfl) ?_
    obtain ⟨hi3, h⟩ := h
    refine st_k (k := x1.toNatClampNeg) 3 (by decide) C rfl hi3 dX7_tune_20 ?_
    refine f_cSi (As := [.int x2, .int 0, .int (stV 3 (x1.toNatClampNeg))]) (rest := []) (n := 3) C (c_X7_within h) ok_X7_within sm_X7_within kw_RX7_78 ⟨Nat.le_trans (by decide) hR.1, Nat.le_trans (by decide) hR.2⟩ rfl hl.1 (Nat.le_of_ble_eq_true rfl) dX7_tune_21 (fun r4 I4 J4 h => ?_)
    refine f_if_ne (tgt := 29) C dX7_tune_24 (by decide) (fun c5 => ?_) (fun c5 => ?_)
    · replace h := h.2 c5
      refine f_aload_n C dX7_tune_29 rfl (lv_at hl 0 rfl) ?_
      refine ge_RX7_20 C (by decide) dX7_tune_30 ?_
      refine f_iload_n C dX7_tune_33 rfl (lv_at hl 1 rfl) ?_
      obtain ⟨hi6, h⟩ := h
      refine al_k (n := 3) (k := x1.toNatClampNeg) C (by decide) rfl rfl hi6 dX7_tune_34 ?_
      refine f_istore_n (lv' := [(3, .int (I4 21 0 (x1.toNatClampNeg))), (0, .ref (gad g 7 0)), (1, .int x1), (2, .int x2)]) C dX7_tune_35 rfl hl (by decide) rfl (fun ls hl => ?_)
      refine f_aload_n C dX7_tune_36 rfl (lv_at hl 1 rfl) ?_
      refine ge_RX7_20 C (by decide) dX7_tune_37 ?_
      refine f_iload_n C dX7_tune_40 rfl (lv_at hl 2 rfl) ?_
      refine f_iload_n C dX7_tune_41 rfl (lv_at hl 3 rfl) ?_
      obtain ⟨hi7, h⟩ := h
      refine as_k (n := 3) (k := x1.toNatClampNeg) C (by decide) (fun _ => rfl) rfl hi7 dX7_tune_42 ?_
      refine f_iload_n C dX7_tune_43 rfl (lv_at hl 0 rfl) ?_
      exact f_iret C h dX7_tune_44
    · replace h := h.1 c5
      refine f_iconst (v := (-1)) C dX7_tune_27 (by decide) ?_
      exact f_iret C h dX7_tune_28

def wp_X7_lot (Q : Int32 → MI → MJ → Prop) (I : MI) (J : MJ) (x1 : Int32) : Prop :=
  Q (I 6 0 2) (up3 I 6 0 2 x1) J
set_option maxRecDepth 20000 in
theorem c_X7_lot {l : Launch} {g : Geo} {Q : Int32 → MI → MJ → Prop} {I : MI} {J : MJ} {x1 : Int32} (h : wp_X7_lot Q I J x1) : Ct g l yX7_lot cX7_lot 3 (some .int) 0 0 [.ref (gad g 7 0), .int x1] I J (PI Q) := by
  refine Ct.of (by decide) ?_
  intro p e s m below meth c C
  have hR : 0 ≤ (Rm 0 0).frames ∧ 0 ≤ (Rm 0 0).locals := ⟨Nat.le_refl _, Nat.le_refl _⟩
  generalize Rm 0 0 = R at hR ⊢
  have hl := lv_entry ([.ref (gad g 7 0), .int x1]) (n := 3) (Nat.le_of_ble_eq_true rfl)
  rw [lg_entry_eq]
  generalize (lg_sl ([.ref (gad g 7 0), .int x1]) ++ List.replicate (3 - (lg_sl ([.ref (gad g 7 0), .int x1])).length) Slot.unset).toArray = ls at hl ⊢
  have hl : lv_has ls 3 [(0, .ref (gad g 7 0)), (1, .int x1)] := hl
  refine f_aload_n C dX7_lot_0 rfl (lv_at hl 0 rfl) ?_
  refine ge_RX7_10 C (by decide) dX7_lot_1 ?_
  refine ge_RX7_133 C (by decide) dX7_lot_4 ?_
  refine f_istore_n (lv' := [(2, .int (I 6 0 2)), (0, .ref (gad g 7 0)), (1, .int x1)]) C dX7_lot_7 rfl hl (by decide) rfl (fun ls hl => ?_)
  refine f_aload_n C dX7_lot_8 rfl (lv_at hl 1 rfl) ?_
  refine ge_RX7_10 C (by decide) dX7_lot_9 ?_
  refine f_iload_n C dX7_lot_12 rfl (lv_at hl 2 rfl) ?_
  refine pu_RX7_133 C (by decide) dX7_lot_13 ?_
  refine f_iload_n C dX7_lot_16 rfl (lv_at hl 0 rfl) ?_
  exact f_iret C h dX7_lot_17

def B_X7_type_35 (Q : Int32 → MI → MJ → Prop) (C35 : MI → MJ → Int64 → Int32 → Prop) (I : MI) (J : MJ) (x1 : Int64) (x4 : Int32) : Prop :=
  (x4 < 0 → Q (I 3 0 1) I J) ∧
  (¬ (x4 < 0) → wp_X3_append (fun I5 J5 => C35 I5 J5 x1 (x4 + (-1))) I J ((((x1.toUInt64 >>> ((8 * x4).toInt64.toUInt64 &&& Int64.toUInt64 63)).toInt64).toInt32) &&& 255))
set_option maxRecDepth 20000 in
theorem b_X7_type_35 {p : Program} {l : Launch} {e : Env} {R : Room} {s : State} {m : MethodId} {args : Array Value} {below : List Frame} {meth : Method} {c : Code} {g : Geo} (C : Cx g p s m args meth c cX7_type 5 RX7 (some .int)) (hR : 1 ≤ R.frames ∧ 22 ≤ R.locals) {Q : Int32 → MI → MJ → Prop} {C35 : MI → MJ → Int64 → Int32 → Prop} (hC35 : ∀ (I : MI) (J : MJ) (x1 : Int64) (x4 : Int32), C35 I J x1 x4 → ∀ ls : Array Slot, lv_has ls 5 [(0, .ref (gad g 7 0)), (1, .long x1), (4, .int x4)] → Wf p l e R s m args below meth c (MQ below (Qg g (PI Q)) args s 0 0 (gA g)) g I J (F0 m 35 ls [])) {I : MI} {J : MJ} {x1 : Int64} {x4 : Int32} (h : B_X7_type_35 Q C35 I J x1 x4) (ls : Array Slot) (hl : lv_has ls 5 [(0, .ref (gad g 7 0)), (1, .long x1), (4, .int x4)]) : Wf p l e R s m args below meth c (MQ below (Qg g (PI Q)) args s 0 0 (gA g)) g I J (F0 m 35 ls []) := by
  refine f_iload C dX7_type_35 (lv_at hl 2 rfl) ?_
  refine f_if_lt (tgt := 65) C dX7_type_37 (by decide) (fun c4 => ?_) (fun c4 => ?_)
  · replace h := h.1 c4
    refine f_aload_n C dX7_type_65 rfl (lv_at hl 0 rfl) ?_
    refine ge_RX7_27 C (by decide) dX7_type_66 ?_
    refine ge_RX7_136 C (by decide) dX7_type_69 ?_
    exact f_iret C h dX7_type_72
  · replace h := h.2 c4
    refine f_aload_n C dX7_type_40 rfl (lv_at hl 0 rfl) ?_
    refine ge_RX7_27 C (by decide) dX7_type_41 ?_
    refine f_lload_n C dX7_type_44 rfl (lv_at hl 1 rfl) ?_
    refine f_bipush (v := 8) C dX7_type_45 (by decide) ?_
    refine f_iload C dX7_type_47 (lv_at hl 2 rfl) ?_
    refine f_imul C dX7_type_49 ?_
    refine f_lushr (v := (x1.toUInt64 >>> ((8 * x4).toInt64.toUInt64 &&& Int64.toUInt64 63)).toInt64) C dX7_type_50 rfl ?_
    refine f_l2i (v := ((x1.toUInt64 >>> ((8 * x4).toInt64.toUInt64 &&& Int64.toUInt64 63)).toInt64).toInt32) C dX7_type_51 rfl ?_
    refine f_sipush (v := 255) C dX7_type_52 (by decide) ?_
    refine f_iand C dX7_type_55 ?_
    refine f_cVv (As := [.int ((((x1.toUInt64 >>> ((8 * x4).toInt64.toUInt64 &&& Int64.toUInt64 63)).toInt64).toInt32) &&& 255)]) (rest := []) (n := 1) (T0 := TX3) (N := 7) C (c_X3_append h) ok_X3_append im_X3_append se_X3_append kw_RX7_139 ⟨Nat.le_trans (by decide) hR.1, Nat.le_trans (by decide) hR.2⟩ (by decide) rfl rfl rfl hl.1 (Nat.le_of_ble_eq_true rfl) dX7_type_56 (fun I5 J5 h => ?_)
    refine f_iinc (v := x4 + (-1)) (lv' := [(4, .int (x4 + (-1))), (0, .ref (gad g 7 0)), (1, .long x1)]) C dX7_type_59 hl (k := 2) rfl rfl (by decide) rfl (fun ls hl => ?_)
    refine f_goto (tgt := 35) C dX7_type_62 (by decide) ?_
    exact hC35 _ _ _ _ h ls (lv_sub hl [1, 2, 0] rfl)

def L_X7_type_35 (Q : Int32 → MI → MJ → Prop) : Nat → MI → MJ → Int64 → Int32 → Prop
  | 0 => fun _ _ _ _ => False
  | n + 1 => fun I J x1 x4 => B_X7_type_35 Q (L_X7_type_35 Q n) I J x1 x4
theorem t_X7_type_35 {p : Program} {l : Launch} {e : Env} {R : Room} {s : State} {m : MethodId} {args : Array Value} {below : List Frame} {meth : Method} {c : Code} {g : Geo} (C : Cx g p s m args meth c cX7_type 5 RX7 (some .int)) (hR : 1 ≤ R.frames ∧ 22 ≤ R.locals) {Q : Int32 → MI → MJ → Prop} : ∀ (n : Nat), ∀ (I : MI) (J : MJ) (x1 : Int64) (x4 : Int32), L_X7_type_35 Q n I J x1 x4 → ∀ ls : Array Slot, lv_has ls 5 [(0, .ref (gad g 7 0)), (1, .long x1), (4, .int x4)] → Wf p l e R s m args below meth c (MQ below (Qg g (PI Q)) args s 0 0 (gA g)) g I J (F0 m 35 ls []) := by
  intro n
  induction n with
  | zero => intro I J x1 x4 h; exact h.elim
  | succ n ih => intro I J x1 x4 h ls hl; exact b_X7_type_35 C hR ih h ls hl
def wp_X7_type (Q : Int32 → MI → MJ → Prop) (I : MI) (J : MJ) (x1 : Int64) (x3 : Int32) : Prop :=
  wp_X7_within (fun r1 I1 J1 => (r1 = 0 → Q ((-1)) I1 J1) ∧
  (¬ (r1 = 0) → (((I1 3 0 1) + x3) ≤ 200 → ∃ n : Nat, L_X7_type_35 Q n I1 J1 x1 (x3 - 1)) ∧
  (¬ (((I1 3 0 1) + x3) ≤ 200) → Q ((-3)) I1 J1))) I J x3 1 8
set_option maxRecDepth 20000 in
theorem c_X7_type {l : Launch} {g : Geo} {Q : Int32 → MI → MJ → Prop} {I : MI} {J : MJ} {x1 : Int64} {x3 : Int32} (h : wp_X7_type Q I J x1 x3) : Ct g l yX7_type cX7_type 5 (some .int) 1 22 [.ref (gad g 7 0), .long x1, .int x3] I J (PI Q) := by
  refine Ct.of (by decide) ?_
  intro p e s m below meth c C
  have hR : 1 ≤ (Rm 1 22).frames ∧ 22 ≤ (Rm 1 22).locals := ⟨Nat.le_refl _, Nat.le_refl _⟩
  generalize Rm 1 22 = R at hR ⊢
  have hl := lv_entry ([.ref (gad g 7 0), .long x1, .int x3]) (n := 5) (Nat.le_of_ble_eq_true rfl)
  rw [lg_entry_eq]
  generalize (lg_sl ([.ref (gad g 7 0), .long x1, .int x3]) ++ List.replicate (5 - (lg_sl ([.ref (gad g 7 0), .long x1, .int x3])).length) Slot.unset).toArray = ls at hl ⊢
  have hl : lv_has ls 5 [(0, .ref (gad g 7 0)), (1, .long x1), (3, .int x3)] := hl
  refine f_iload_n C dX7_type_0 rfl (lv_at hl 2 rfl) ?_
  refine f_iconst (v := 1) C dX7_type_1 (by decide) ?_
  refine f_bipush (v := 8) C dX7_type_2 (by decide) ?_
  refine f_cSi (As := [.int x3, .int 1, .int 8]) (rest := []) (n := 3) C (c_X7_within h) ok_X7_within sm_X7_within kw_RX7_78 ⟨Nat.le_trans (by decide) hR.1, Nat.le_trans (by decide) hR.2⟩ rfl hl.1 (Nat.le_of_ble_eq_true rfl) dX7_type_4 (fun r1 I1 J1 h => ?_)
  refine f_if_ne (tgt := 12) C dX7_type_7 (by decide) (fun c2 => ?_) (fun c2 => ?_)
  · replace h := h.2 c2
    refine f_aload_n C dX7_type_12 rfl (lv_at hl 0 rfl) ?_
    refine ge_RX7_27 C (by decide) dX7_type_13 ?_
    refine ge_RX7_136 C (by decide) dX7_type_16 ?_
    refine f_iload_n C dX7_type_19 rfl (lv_at hl 2 rfl) ?_
    refine f_iadd C dX7_type_20 ?_
    refine f_sipush (v := 200) C dX7_type_21 (by decide) ?_
    refine f_icmp_le (tgt := 30) C dX7_type_24 (by decide) (fun c3 => ?_) (fun c3 => ?_)
    · replace h := h.1 c3
      refine f_iload_n C dX7_type_30 rfl (lv_at hl 2 rfl) ?_
      refine f_iconst (v := 1) C dX7_type_31 (by decide) ?_
      refine f_isub C dX7_type_32 ?_
      refine f_istore (lv' := [(4, .int (x3 - 1)), (0, .ref (gad g 7 0)), (1, .long x1), (3, .int x3)]) C dX7_type_33 hl (by decide) rfl (fun ls hl => ?_)
      obtain ⟨n, h⟩ := h
      exact t_X7_type_35 C hR n _ _ _ _ h ls (lv_sub hl [1, 2, 0] rfl)
    · replace h := h.2 c3
      refine f_bipush (v := (-3)) C dX7_type_27 (by decide) ?_
      exact f_iret C h dX7_type_29
  · replace h := h.1 c2
    refine f_iconst (v := (-1)) C dX7_type_10 (by decide) ?_
    exact f_iret C h dX7_type_11

def wp_X7_clear (Q : Int32 → MI → MJ → Prop) (I : MI) (J : MJ) : Prop :=
  Q (I 3 0 1) (up3 I 3 0 1 0) J
set_option maxRecDepth 20000 in
theorem c_X7_clear {l : Launch} {g : Geo} {Q : Int32 → MI → MJ → Prop} {I : MI} {J : MJ} (h : wp_X7_clear Q I J) : Ct g l yX7_clear cX7_clear 2 (some .int) 0 0 [.ref (gad g 7 0)] I J (PI Q) := by
  refine Ct.of (by decide) ?_
  intro p e s m below meth c C
  have hR : 0 ≤ (Rm 0 0).frames ∧ 0 ≤ (Rm 0 0).locals := ⟨Nat.le_refl _, Nat.le_refl _⟩
  generalize Rm 0 0 = R at hR ⊢
  have hl := lv_entry ([.ref (gad g 7 0)]) (n := 2) (Nat.le_of_ble_eq_true rfl)
  rw [lg_entry_eq]
  generalize (lg_sl ([.ref (gad g 7 0)]) ++ List.replicate (2 - (lg_sl ([.ref (gad g 7 0)])).length) Slot.unset).toArray = ls at hl ⊢
  have hl : lv_has ls 2 [(0, .ref (gad g 7 0))] := hl
  refine f_aload_n C dX7_clear_0 rfl (lv_at hl 0 rfl) ?_
  refine ge_RX7_27 C (by decide) dX7_clear_1 ?_
  refine ge_RX7_136 C (by decide) dX7_clear_4 ?_
  refine f_istore_n (lv' := [(1, .int (I 3 0 1)), (0, .ref (gad g 7 0))]) C dX7_clear_7 rfl hl (by decide) rfl (fun ls hl => ?_)
  refine f_aload_n C dX7_clear_8 rfl (lv_at hl 1 rfl) ?_
  refine ge_RX7_27 C (by decide) dX7_clear_9 ?_
  refine f_iconst (v := 0) C dX7_clear_12 (by decide) ?_
  refine pu_RX7_136 C (by decide) dX7_clear_13 ?_
  refine f_iload_n C dX7_clear_16 rfl (lv_at hl 0 rfl) ?_
  exact f_iret C h dX7_clear_17

def wp_X7_rule (Q : Int32 → MI → MJ → Prop) (I : MI) (J : MJ) : Prop :=
  wp_X3_readInto (fun r1 I1 J1 => (r1 < 0 → Q r1 I1 J1) ∧
  (¬ (r1 < 0) → wp_X2_become (fun I3 J3 => Q r1 (up3 I3 3 0 1 0) J3) I1 J1 0 1)) I J 1
set_option maxRecDepth 20000 in
theorem c_X7_rule {l : Launch} {g : Geo} {Q : Int32 → MI → MJ → Prop} {I : MI} {J : MJ} (h : wp_X7_rule Q I J) : Ct g l yX7_rule cX7_rule 2 (some .int) 6 131 [.ref (gad g 7 0)] I J (PI Q) := by
  refine Ct.of (by decide) ?_
  intro p e s m below meth c C
  have hR : 6 ≤ (Rm 6 131).frames ∧ 131 ≤ (Rm 6 131).locals := ⟨Nat.le_refl _, Nat.le_refl _⟩
  generalize Rm 6 131 = R at hR ⊢
  have hl := lv_entry ([.ref (gad g 7 0)]) (n := 2) (Nat.le_of_ble_eq_true rfl)
  rw [lg_entry_eq]
  generalize (lg_sl ([.ref (gad g 7 0)]) ++ List.replicate (2 - (lg_sl ([.ref (gad g 7 0)])).length) Slot.unset).toArray = ls at hl ⊢
  have hl : lv_has ls 2 [(0, .ref (gad g 7 0))] := hl
  refine f_aload_n C dX7_rule_0 rfl (lv_at hl 0 rfl) ?_
  refine ge_RX7_27 C (by decide) dX7_rule_1 ?_
  refine f_aload_n C dX7_rule_4 rfl (lv_at hl 0 rfl) ?_
  refine ge_RX7_38 C (by decide) dX7_rule_5 ?_
  refine f_cVi (As := [.ref (gad g 2 1)]) (rest := []) (n := 1) (T0 := TX3) (N := 7) C (c_X3_readInto (by decide) h) ok_X3_readInto im_X3_readInto se_X3_readInto kw_RX7_142 ⟨Nat.le_trans (by decide) hR.1, Nat.le_trans (by decide) hR.2⟩ (by decide) rfl rfl rfl hl.1 (Nat.le_of_ble_eq_true rfl) dX7_rule_8 (fun r1 I1 J1 h => ?_)
  refine f_istore_n (lv' := [(1, .int r1), (0, .ref (gad g 7 0))]) C dX7_rule_11 rfl hl (by decide) rfl (fun ls hl => ?_)
  refine f_iload_n C dX7_rule_12 rfl (lv_at hl 0 rfl) ?_
  refine f_if_lt (tgt := 35) C dX7_rule_13 (by decide) (fun c2 => ?_) (fun c2 => ?_)
  · replace h := h.1 c2
    refine f_iload_n C dX7_rule_35 rfl (lv_at hl 0 rfl) ?_
    exact f_iret C h dX7_rule_36
  · replace h := h.2 c2
    refine f_aload_n C dX7_rule_16 rfl (lv_at hl 1 rfl) ?_
    refine ge_RX7_34 C (by decide) dX7_rule_17 ?_
    refine f_aload_n C dX7_rule_20 rfl (lv_at hl 1 rfl) ?_
    refine ge_RX7_38 C (by decide) dX7_rule_21 ?_
    refine f_cVv (As := [.ref (gad g 2 1)]) (rest := []) (n := 1) (T0 := TX2) (N := 1) C (c_X2_become (by decide) (by decide) h) ok_X2_become im_X2_become se_X2_become kw_RX7_146 ⟨Nat.le_trans (by decide) hR.1, Nat.le_trans (by decide) hR.2⟩ (by decide) rfl rfl rfl hl.1 (Nat.le_of_ble_eq_true rfl) dX7_rule_24 (fun I3 J3 h => ?_)
    refine f_aload_n C dX7_rule_27 rfl (lv_at hl 1 rfl) ?_
    refine ge_RX7_27 C (by decide) dX7_rule_28 ?_
    refine f_iconst (v := 0) C dX7_rule_31 (by decide) ?_
    refine pu_RX7_136 C (by decide) dX7_rule_32 ?_
    refine f_iload_n C dX7_rule_35 rfl (lv_at hl 0 rfl) ?_
    exact f_iret C h dX7_rule_36

def wp_X7_told (Q : Int32 → MI → MJ → Prop) (I : MI) (J : MJ) (x1 : Int32) : Prop :=
  wp_X7_within (fun r1 I1 J1 => (r1 = 0 → Q ((-1)) I1 J1) ∧
  (¬ (r1 = 0) → vp_in x1 6 ∧ (Q (I1 13 0 (x1.toNatClampNeg)) I1 J1))) I J x1 0 5
set_option maxRecDepth 20000 in
theorem c_X7_told {l : Launch} {g : Geo} {Q : Int32 → MI → MJ → Prop} {I : MI} {J : MJ} {x1 : Int32} (h : wp_X7_told Q I J x1) : Ct g l yX7_told cX7_told 2 (some .int) 1 22 [.ref (gad g 7 0), .int x1] I J (PI Q) := by
  refine Ct.of (by decide) ?_
  intro p e s m below meth c C
  have hR : 1 ≤ (Rm 1 22).frames ∧ 22 ≤ (Rm 1 22).locals := ⟨Nat.le_refl _, Nat.le_refl _⟩
  generalize Rm 1 22 = R at hR ⊢
  have hl := lv_entry ([.ref (gad g 7 0), .int x1]) (n := 2) (Nat.le_of_ble_eq_true rfl)
  rw [lg_entry_eq]
  generalize (lg_sl ([.ref (gad g 7 0), .int x1]) ++ List.replicate (2 - (lg_sl ([.ref (gad g 7 0), .int x1])).length) Slot.unset).toArray = ls at hl ⊢
  have hl : lv_has ls 2 [(0, .ref (gad g 7 0)), (1, .int x1)] := hl
  refine f_iload_n C dX7_told_0 rfl (lv_at hl 1 rfl) ?_
  refine f_iconst (v := 0) C dX7_told_1 (by decide) ?_
  refine f_iconst (v := 5) C dX7_told_2 (by decide) ?_
  refine f_cSi (As := [.int x1, .int 0, .int 5]) (rest := []) (n := 3) C (c_X7_within h) ok_X7_within sm_X7_within kw_RX7_78 ⟨Nat.le_trans (by decide) hR.1, Nat.le_trans (by decide) hR.2⟩ rfl hl.1 (Nat.le_of_ble_eq_true rfl) dX7_told_3 (fun r1 I1 J1 h => ?_)
  refine f_if_eq (tgt := 21) C dX7_told_6 (by decide) (fun c2 => ?_) (fun c2 => ?_)
  · replace h := h.1 c2
    refine f_iconst (v := (-1)) C dX7_told_21 (by decide) ?_
    exact f_iret C h dX7_told_22
  · replace h := h.2 c2
    refine f_aload_n C dX7_told_9 rfl (lv_at hl 0 rfl) ?_
    refine ge_RX7_34 C (by decide) dX7_told_10 ?_
    refine ge_RX7_150 C (by decide) dX7_told_13 ?_
    refine f_iload_n C dX7_told_16 rfl (lv_at hl 1 rfl) ?_
    obtain ⟨hi3, h⟩ := h
    refine al_k (n := 6) (k := x1.toNatClampNeg) C (by decide) rfl rfl hi3 dX7_told_17 ?_
    refine f_goto (tgt := 22) C dX7_told_18 (by decide) ?_
    exact f_iret C h dX7_told_22

def wp_X7_canRace (Q : Int32 → MI → MJ → Prop) (I : MI) (J : MJ) (x1 : Int32) (x2 : Int32) : Prop :=
  wp_X7_within (fun r1 I1 J1 => (r1 = 0 → Q 0 I1 J1) ∧
  (¬ (r1 = 0) → wp_X7_within (fun r3 I3 J3 => (r3 = 0 → Q 0 I3 J3) ∧
  (¬ (r3 = 0) → wp_J6_bitCount_0f7a4 (fun r5 I5 J5 => (r5 < 2 → Q 0 I5 J5) ∧
  (¬ (r5 < 2) → Q 1 I5 J5)) I3 J3 x2)) I1 J1 x2 0 (((1 : Int32) <<< ((I1 6 0 1) &&& 31)) - 1))) I J x1 0 2
set_option maxRecDepth 20000 in
theorem c_X7_canRace {l : Launch} {g : Geo} {Q : Int32 → MI → MJ → Prop} {I : MI} {J : MJ} {x1 : Int32} {x2 : Int32} (h : wp_X7_canRace Q I J x1 x2) : Ct g l yX7_canRace cX7_canRace 3 (some .boolean) 1 22 [.ref (gad g 7 0), .int x1, .int x2] I J (PI Q) := by
  refine Ct.of (by decide) ?_
  intro p e s m below meth c C
  have hR : 1 ≤ (Rm 1 22).frames ∧ 22 ≤ (Rm 1 22).locals := ⟨Nat.le_refl _, Nat.le_refl _⟩
  generalize Rm 1 22 = R at hR ⊢
  have hl := lv_entry ([.ref (gad g 7 0), .int x1, .int x2]) (n := 3) (Nat.le_of_ble_eq_true rfl)
  rw [lg_entry_eq]
  generalize (lg_sl ([.ref (gad g 7 0), .int x1, .int x2]) ++ List.replicate (3 - (lg_sl ([.ref (gad g 7 0), .int x1, .int x2])).length) Slot.unset).toArray = ls at hl ⊢
  have hl : lv_has ls 3 [(0, .ref (gad g 7 0)), (1, .int x1), (2, .int x2)] := hl
  refine f_iload_n C dX7_canRace_0 rfl (lv_at hl 1 rfl) ?_
  refine f_iconst (v := 0) C dX7_canRace_1 (by decide) ?_
  refine f_iconst (v := 2) C dX7_canRace_2 (by decide) ?_
  refine f_cSi (As := [.int x1, .int 0, .int 2]) (rest := []) (n := 3) C (c_X7_within h) ok_X7_within sm_X7_within kw_RX7_78 ⟨Nat.le_trans (by decide) hR.1, Nat.le_trans (by decide) hR.2⟩ rfl hl.1 (Nat.le_of_ble_eq_true rfl) dX7_canRace_3 (fun r1 I1 J1 h => ?_)
  refine f_if_eq (tgt := 40) C dX7_canRace_6 (by decide) (fun c2 => ?_) (fun c2 => ?_)
  · replace h := h.1 c2
    refine f_iconst (v := 0) C dX7_canRace_40 (by decide) ?_
    exact f_zret C (Or.inl rfl) h dX7_canRace_41
  · replace h := h.2 c2
    refine f_iload_n C dX7_canRace_9 rfl (lv_at hl 2 rfl) ?_
    refine f_iconst (v := 0) C dX7_canRace_10 (by decide) ?_
    refine f_iconst (v := 1) C dX7_canRace_11 (by decide) ?_
    refine f_aload_n C dX7_canRace_12 rfl (lv_at hl 0 rfl) ?_
    refine ge_RX7_10 C (by decide) dX7_canRace_13 ?_
    refine ge_RX7_82 C (by decide) dX7_canRace_16 ?_
    refine f_ishl C dX7_canRace_19 ?_
    refine f_iconst (v := 1) C dX7_canRace_20 (by decide) ?_
    refine f_isub C dX7_canRace_21 ?_
    refine f_cSi (As := [.int x2, .int 0, .int (((1 : Int32) <<< ((I1 6 0 1) &&& 31)) - 1)]) (rest := []) (n := 3) C (c_X7_within h) ok_X7_within sm_X7_within kw_RX7_78 ⟨Nat.le_trans (by decide) hR.1, Nat.le_trans (by decide) hR.2⟩ rfl hl.1 (Nat.le_of_ble_eq_true rfl) dX7_canRace_22 (fun r3 I3 J3 h => ?_)
    refine f_if_eq (tgt := 40) C dX7_canRace_25 (by decide) (fun c4 => ?_) (fun c4 => ?_)
    · replace h := h.1 c4
      refine f_iconst (v := 0) C dX7_canRace_40 (by decide) ?_
      exact f_zret C (Or.inl rfl) h dX7_canRace_41
    · replace h := h.2 c4
      refine f_iload_n C dX7_canRace_28 rfl (lv_at hl 2 rfl) ?_
      refine f_cSi (As := [.int x2]) (rest := []) (n := 1) C (c_J6_bitCount_0f7a4 h) ok_J6_bitCount_0f7a4 sm_J6_bitCount_0f7a4 kw_RX7_200 ⟨Nat.le_trans (by decide) hR.1, Nat.le_trans (by decide) hR.2⟩ rfl hl.1 (Nat.le_of_ble_eq_true rfl) dX7_canRace_29 (fun r5 I5 J5 h => ?_)
      refine f_iconst (v := 2) C dX7_canRace_32 (by decide) ?_
      refine f_icmp_lt (tgt := 40) C dX7_canRace_33 (by decide) (fun c6 => ?_) (fun c6 => ?_)
      · replace h := h.1 c6
        refine f_iconst (v := 0) C dX7_canRace_40 (by decide) ?_
        exact f_zret C (Or.inl rfl) h dX7_canRace_41
      · replace h := h.2 c6
        refine f_iconst (v := 1) C dX7_canRace_36 (by decide) ?_
        refine f_goto (tgt := 41) C dX7_canRace_37 (by decide) ?_
        exact f_zret C (Or.inr rfl) h dX7_canRace_41

def B_X7_leastMark_6 (Q : Int32 → MI → MJ → Prop) (C6 : MI → MJ → Int32 → Int32 → Int32 → Prop) (I : MI) (J : MJ) (x1 : Int32) (x2 : Int32) (x3 : Int32) : Prop :=
  ((I 6 0 1) ≤ x3 → Q x2 I J) ∧
  (¬ ((I 6 0 1) ≤ x3) → wp_X7_isOf (fun r2 I2 J2 => (r2 = 0 → C6 I2 J2 x1 x2 (x3 + 1)) ∧
  (¬ (r2 = 0) → vp_in x3 8 ∧ (wp_J9_min_7cf53 (fun r5 I5 J5 => C6 I5 J5 x1 r5 (x3 + 1)) I2 J2 x2 (I2 4 (8 * 0 + x3.toNatClampNeg) 3)))) I J x1 x3)
set_option maxRecDepth 20000 in
theorem b_X7_leastMark_6 {p : Program} {l : Launch} {e : Env} {R : Room} {s : State} {m : MethodId} {args : Array Value} {below : List Frame} {meth : Method} {c : Code} {g : Geo} (C : Cx g p s m args meth c cX7_leastMark 4 RX7 (some .int)) (hR : 1 ≤ R.frames ∧ 21 ≤ R.locals) {Q : Int32 → MI → MJ → Prop} {C6 : MI → MJ → Int32 → Int32 → Int32 → Prop} (hC6 : ∀ (I : MI) (J : MJ) (x1 : Int32) (x2 : Int32) (x3 : Int32), C6 I J x1 x2 x3 → ∀ ls : Array Slot, lv_has ls 4 [(0, .ref (gad g 7 0)), (1, .int x1), (2, .int x2), (3, .int x3)] → Wf p l e R s m args below meth c (MQ below (Qg g (PI Q)) args s 0 0 (gA g)) g I J (F0 m 6 ls [])) {I : MI} {J : MJ} {x1 : Int32} {x2 : Int32} {x3 : Int32} (h : B_X7_leastMark_6 Q C6 I J x1 x2 x3) (ls : Array Slot) (hl : lv_has ls 4 [(0, .ref (gad g 7 0)), (1, .int x1), (2, .int x2), (3, .int x3)]) : Wf p l e R s m args below meth c (MQ below (Qg g (PI Q)) args s 0 0 (gA g)) g I J (F0 m 6 ls []) := by
  refine f_iload_n C dX7_leastMark_6 rfl (lv_at hl 3 rfl) ?_
  refine f_aload_n C dX7_leastMark_7 rfl (lv_at hl 0 rfl) ?_
  refine ge_RX7_10 C (by decide) dX7_leastMark_8 ?_
  refine ge_RX7_82 C (by decide) dX7_leastMark_11 ?_
  refine f_icmp_ge (tgt := 48) C dX7_leastMark_14 (by decide) (fun c1 => ?_) (fun c1 => ?_)
  · replace h := h.1 c1
    refine f_iload_n C dX7_leastMark_48 rfl (lv_at hl 2 rfl) ?_
    exact f_iret C h dX7_leastMark_49
  · replace h := h.2 c1
    refine f_iload_n C dX7_leastMark_17 rfl (lv_at hl 1 rfl) ?_
    refine f_iload_n C dX7_leastMark_18 rfl (lv_at hl 3 rfl) ?_
    refine f_cSi (As := [.int x1, .int x3]) (rest := []) (n := 2) C (c_X7_isOf h) ok_X7_isOf sm_X7_isOf kw_RX7_161 ⟨Nat.le_trans (by decide) hR.1, Nat.le_trans (by decide) hR.2⟩ rfl hl.1 (Nat.le_of_ble_eq_true rfl) dX7_leastMark_19 (fun r2 I2 J2 h => ?_)
    refine f_if_eq (tgt := 42) C dX7_leastMark_22 (by decide) (fun c3 => ?_) (fun c3 => ?_)
    · replace h := h.1 c3
      refine f_iinc (v := x3 + 1) (lv' := [(3, .int (x3 + 1)), (0, .ref (gad g 7 0)), (1, .int x1), (2, .int x2)]) C dX7_leastMark_42 hl (k := 3) rfl rfl (by decide) rfl (fun ls hl => ?_)
      refine f_goto (tgt := 6) C dX7_leastMark_45 (by decide) ?_
      exact hC6 _ _ _ _ _ h ls (lv_sub hl [1, 2, 3, 0] rfl)
    · replace h := h.2 c3
      refine f_iload_n C dX7_leastMark_25 rfl (lv_at hl 2 rfl) ?_
      refine f_aload_n C dX7_leastMark_26 rfl (lv_at hl 0 rfl) ?_
      refine ge_RX7_10 C (by decide) dX7_leastMark_27 ?_
      refine ge_RX7_86 C (by decide) dX7_leastMark_30 ?_
      refine f_iload_n C dX7_leastMark_33 rfl (lv_at hl 3 rfl) ?_
      obtain ⟨hi4, h⟩ := h
      refine f_aldR C (by decide) hi4 dX7_leastMark_34 ?_
      refine ge_RX7_112 C (rn_lt (by decide) hi4) dX7_leastMark_35 ?_
      refine f_cSi (As := [.int x2, .int (I2 4 (8 * 0 + x3.toNatClampNeg) 3)]) (rest := []) (n := 2) C (c_J9_min_7cf53 h) ok_J9_min_7cf53 sm_J9_min_7cf53 kw_RX7_276 ⟨Nat.le_trans (by decide) hR.1, Nat.le_trans (by decide) hR.2⟩ rfl hl.1 (Nat.le_of_ble_eq_true rfl) dX7_leastMark_38 (fun r5 I5 J5 h => ?_)
      refine f_istore_n (lv' := [(2, .int r5), (0, .ref (gad g 7 0)), (1, .int x1), (3, .int x3)]) C dX7_leastMark_41 rfl hl (by decide) rfl (fun ls hl => ?_)
      refine f_iinc (v := x3 + 1) (lv' := [(3, .int (x3 + 1)), (2, .int r5), (0, .ref (gad g 7 0)), (1, .int x1)]) C dX7_leastMark_42 hl (k := 3) rfl rfl (by decide) rfl (fun ls hl => ?_)
      refine f_goto (tgt := 6) C dX7_leastMark_45 (by decide) ?_
      exact hC6 _ _ _ _ _ h ls (lv_sub hl [2, 3, 1, 0] rfl)

def L_X7_leastMark_6 (Q : Int32 → MI → MJ → Prop) : Nat → MI → MJ → Int32 → Int32 → Int32 → Prop
  | 0 => fun _ _ _ _ _ => False
  | n + 1 => fun I J x1 x2 x3 => B_X7_leastMark_6 Q (L_X7_leastMark_6 Q n) I J x1 x2 x3
theorem t_X7_leastMark_6 {p : Program} {l : Launch} {e : Env} {R : Room} {s : State} {m : MethodId} {args : Array Value} {below : List Frame} {meth : Method} {c : Code} {g : Geo} (C : Cx g p s m args meth c cX7_leastMark 4 RX7 (some .int)) (hR : 1 ≤ R.frames ∧ 21 ≤ R.locals) {Q : Int32 → MI → MJ → Prop} : ∀ (n : Nat), ∀ (I : MI) (J : MJ) (x1 : Int32) (x2 : Int32) (x3 : Int32), L_X7_leastMark_6 Q n I J x1 x2 x3 → ∀ ls : Array Slot, lv_has ls 4 [(0, .ref (gad g 7 0)), (1, .int x1), (2, .int x2), (3, .int x3)] → Wf p l e R s m args below meth c (MQ below (Qg g (PI Q)) args s 0 0 (gA g)) g I J (F0 m 6 ls []) := by
  intro n
  induction n with
  | zero => intro I J x1 x2 x3 h; exact h.elim
  | succ n ih => intro I J x1 x2 x3 h ls hl; exact b_X7_leastMark_6 C hR ih h ls hl
def wp_X7_leastMark (Q : Int32 → MI → MJ → Prop) (I : MI) (J : MJ) (x1 : Int32) : Prop :=
  ∃ n : Nat, L_X7_leastMark_6 Q n I J x1 200 0
set_option maxRecDepth 20000 in
theorem c_X7_leastMark {l : Launch} {g : Geo} {Q : Int32 → MI → MJ → Prop} {I : MI} {J : MJ} {x1 : Int32} (h : wp_X7_leastMark Q I J x1) : Ct g l yX7_leastMark cX7_leastMark 4 (some .int) 1 21 [.ref (gad g 7 0), .int x1] I J (PI Q) := by
  refine Ct.of (by decide) ?_
  intro p e s m below meth c C
  have hR : 1 ≤ (Rm 1 21).frames ∧ 21 ≤ (Rm 1 21).locals := ⟨Nat.le_refl _, Nat.le_refl _⟩
  generalize Rm 1 21 = R at hR ⊢
  have hl := lv_entry ([.ref (gad g 7 0), .int x1]) (n := 4) (Nat.le_of_ble_eq_true rfl)
  rw [lg_entry_eq]
  generalize (lg_sl ([.ref (gad g 7 0), .int x1]) ++ List.replicate (4 - (lg_sl ([.ref (gad g 7 0), .int x1])).length) Slot.unset).toArray = ls at hl ⊢
  have hl : lv_has ls 4 [(0, .ref (gad g 7 0)), (1, .int x1)] := hl
  refine f_sipush (v := 200) C dX7_leastMark_0 (by decide) ?_
  refine f_istore_n (lv' := [(2, .int 200), (0, .ref (gad g 7 0)), (1, .int x1)]) C dX7_leastMark_3 rfl hl (by decide) rfl (fun ls hl => ?_)
  refine f_iconst (v := 0) C dX7_leastMark_4 (by decide) ?_
  refine f_istore_n (lv' := [(3, .int 0), (2, .int 200), (0, .ref (gad g 7 0)), (1, .int x1)]) C dX7_leastMark_5 rfl hl (by decide) rfl (fun ls hl => ?_)
  obtain ⟨n, h⟩ := h
  exact t_X7_leastMark_6 C hR n _ _ _ _ _ h ls (lv_sub hl [2, 3, 1, 0] rfl)

def J_X7_bareLevel_35 (Q : Int32 → MI → MJ → Prop) (I : MI) (J : MJ) (n1 : Nat) (x2 : Int32) (s0 : Int32) : Prop :=
  vp_in x2 3 ∧ (Q (((I 4 n1 2) + (I 15 n1 (x2.toNatClampNeg))) - s0) I J)
set_option maxRecDepth 20000 in
theorem t_X7_bareLevel_35 {p : Program} {l : Launch} {e : Env} {R : Room} {s : State} {m : MethodId} {args : Array Value} {below : List Frame} {meth : Method} {c : Code} {g : Geo} (C : Cx g p s m args meth c cX7_bareLevel 4 RX7 (some .int)) (hR : 0 ≤ R.frames ∧ 0 ≤ R.locals) {Q : Int32 → MI → MJ → Prop} {I : MI} {J : MJ} {n1 : Nat} {x2 : Int32} {s0 : Int32} (hn1 : n1 < 25) (h : J_X7_bareLevel_35 Q I J n1 x2 s0) (ls : Array Slot) (hl : lv_has ls 4 [(1, .ref (gad g 4 n1)), (2, .int x2)]) : Wf p l e R s m args below meth c (MQ below (Qg g (PI Q)) args s 0 0 (gA g)) g I J (F0 m 35 ls [.int s0]) := by
  refine f_istore_n (lv' := [(3, .int s0), (1, .ref (gad g 4 n1)), (2, .int x2)]) C dX7_bareLevel_35 rfl hl (by decide) rfl (fun ls hl => ?_)
  refine f_aload_n C dX7_bareLevel_36 rfl (lv_at hl 1 rfl) ?_
  refine ge_RX7_109 C hn1 dX7_bareLevel_37 ?_
  refine f_aload_n C dX7_bareLevel_40 rfl (lv_at hl 1 rfl) ?_
  refine ge_RX7_281 C hn1 dX7_bareLevel_41 ?_
  refine f_iload_n C dX7_bareLevel_44 rfl (lv_at hl 2 rfl) ?_
  obtain ⟨hi3, h⟩ := h
  refine al_k (n := 3) (k := x2.toNatClampNeg) C hn1 rfl rfl hi3 dX7_bareLevel_45 ?_
  refine f_iadd C dX7_bareLevel_46 ?_
  refine f_iload_n C dX7_bareLevel_47 rfl (lv_at hl 0 rfl) ?_
  refine f_isub C dX7_bareLevel_48 ?_
  exact f_iret C h dX7_bareLevel_49

def wp_X7_bareLevel (Q : Int32 → MI → MJ → Prop) (I : MI) (J : MJ) (n1 : Nat) (x2 : Int32) : Prop :=
  ((I 4 n1 4) = 1 → J_X7_bareLevel_35 Q I J n1 x2 (I 21 0 1)) ∧
  (¬ ((I 4 n1 4) = 1) → ((I 4 n1 4) = 2 → J_X7_bareLevel_35 Q I J n1 x2 (I 21 0 2)) ∧
  (¬ ((I 4 n1 4) = 2) → J_X7_bareLevel_35 Q I J n1 x2 0))
set_option maxRecDepth 20000 in
theorem c_X7_bareLevel {l : Launch} {g : Geo} {Q : Int32 → MI → MJ → Prop} {I : MI} {J : MJ} {n1 : Nat} {x2 : Int32} (hn1 : n1 < 25) (h : wp_X7_bareLevel Q I J n1 x2) : Ct g l yX7_bareLevel cX7_bareLevel 4 (some .int) 0 0 [.ref (gad g 7 0), .ref (gad g 4 n1), .int x2] I J (PI Q) := by
  refine Ct.of (by decide) ?_
  intro p e s m below meth c C
  have hR : 0 ≤ (Rm 0 0).frames ∧ 0 ≤ (Rm 0 0).locals := ⟨Nat.le_refl _, Nat.le_refl _⟩
  generalize Rm 0 0 = R at hR ⊢
  have hl := lv_entry ([.ref (gad g 7 0), .ref (gad g 4 n1), .int x2]) (n := 4) (Nat.le_of_ble_eq_true rfl)
  rw [lg_entry_eq]
  generalize (lg_sl ([.ref (gad g 7 0), .ref (gad g 4 n1), .int x2]) ++ List.replicate (4 - (lg_sl ([.ref (gad g 7 0), .ref (gad g 4 n1), .int x2])).length) Slot.unset).toArray = ls at hl ⊢
  have hl : lv_has ls 4 [(0, .ref (gad g 7 0)), (1, .ref (gad g 4 n1)), (2, .int x2)] := hl
  refine f_aload_n C dX7_bareLevel_0 rfl (lv_at hl 1 rfl) ?_
  refine ge_RX7_115 C hn1 dX7_bareLevel_1 ?_
  refine f_iconst (v := 1) C dX7_bareLevel_4 (by decide) ?_
  refine f_icmp_ne (tgt := 17) C dX7_bareLevel_5 (by decide) (fun c1 => ?_) (fun c1 => ?_)
  · replace h := h.2 c1
    refine f_aload_n C dX7_bareLevel_17 rfl (lv_at hl 1 rfl) ?_
    refine ge_RX7_115 C hn1 dX7_bareLevel_18 ?_
    refine f_iconst (v := 2) C dX7_bareLevel_21 (by decide) ?_
    refine f_icmp_ne (tgt := 34) C dX7_bareLevel_22 (by decide) (fun c2 => ?_) (fun c2 => ?_)
    · replace h := h.2 c2
      refine f_iconst (v := 0) C dX7_bareLevel_34 (by decide) ?_
      exact t_X7_bareLevel_35 C hR hn1 h ls (lv_sub hl [1, 2] rfl)
    · replace h := h.1 c2
      refine f_aload_n C dX7_bareLevel_25 rfl (lv_at hl 0 rfl) ?_
      refine ge_RX7_20 C (by decide) dX7_bareLevel_26 ?_
      refine f_iconst (v := 2) C dX7_bareLevel_29 (by decide) ?_
      refine al_k (n := 3) (k := 2) C (by decide) rfl (by decide) (vin_k (by decide)) dX7_bareLevel_30 ?_
      refine f_goto (tgt := 35) C dX7_bareLevel_31 (by decide) ?_
      exact t_X7_bareLevel_35 C hR hn1 h ls (lv_sub hl [1, 2] rfl)
  · replace h := h.1 c1
    refine f_aload_n C dX7_bareLevel_8 rfl (lv_at hl 0 rfl) ?_
    refine ge_RX7_20 C (by decide) dX7_bareLevel_9 ?_
    refine f_iconst (v := 1) C dX7_bareLevel_12 (by decide) ?_
    refine al_k (n := 3) (k := 1) C (by decide) rfl (by decide) (vin_k (by decide)) dX7_bareLevel_13 ?_
    refine f_goto (tgt := 35) C dX7_bareLevel_14 (by decide) ?_
    exact t_X7_bareLevel_35 C hR hn1 h ls (lv_sub hl [1, 2] rfl)

def wp_X7_runOne (Q : MI → MJ → Prop) (I : MI) (J : MJ) (x1 : Int32) (x2 : Int32) (x3 : Int32) : Prop :=
  vp_in x1 8 ∧ (wp_X6_nextLot (fun r2 I2 J2 => ¬ ((2 * (I 21 0 0)) + 1) = 0 ∧ (vp_in x1 8 ∧ (∀ I5 : MI, I5 = up3 I2 24 0 (x1.toNatClampNeg) ((((r2.toUInt32 >>> ((16 : Int32).toUInt32 &&& Int32.toUInt32 31)).toInt32) - ((r2.toUInt32 >>> ((16 : Int32).toUInt32 &&& Int32.toUInt32 31)).toInt32) / ((2 * (I 21 0 0)) + 1) * ((2 * (I 21 0 0)) + 1)) - (I 21 0 0)) → (vp_in x1 8 ∧ (wp_X7_bareLevel (fun r7 I7 J7 => vp_in x1 8 ∧ (∀ v9 : Int32, v9 = r7 + (I7 24 0 (x1.toNatClampNeg)) → (vp_in x1 8 ∧ (vp_in x1 8 ∧ (wp_X4_finish (fun I12 J12 => Q I12 J12) (up3 I7 22 0 (x1.toNatClampNeg) (v9 - (I7 23 0 (x1.toNatClampNeg)))) J7 (8 * 0 + x1.toNatClampNeg) v9 0))))) (up3 I5 23 0 (x1.toNatClampNeg) ((I5 4 (8 * 0 + x1.toNatClampNeg) 3) - x3)) J2 (8 * 0 + x1.toNatClampNeg) x2))))) I J 0)
set_option maxRecDepth 20000 in
theorem c_X7_runOne {l : Launch} {g : Geo} {Q : MI → MJ → Prop} {I : MI} {J : MJ} {x1 : Int32} {x2 : Int32} {x3 : Int32} (h : wp_X7_runOne Q I J x1 x2 x3) : Ct g l yX7_runOne cX7_runOne 7 none 3 84 [.ref (gad g 7 0), .int x1, .int x2, .int x3] I J (PV Q) := by
  refine Ct.of (by decide) ?_
  intro p e s m below meth c C
  have hR : 3 ≤ (Rm 3 84).frames ∧ 84 ≤ (Rm 3 84).locals := ⟨Nat.le_refl _, Nat.le_refl _⟩
  generalize Rm 3 84 = R at hR ⊢
  have hl := lv_entry ([.ref (gad g 7 0), .int x1, .int x2, .int x3]) (n := 7) (Nat.le_of_ble_eq_true rfl)
  rw [lg_entry_eq]
  generalize (lg_sl ([.ref (gad g 7 0), .int x1, .int x2, .int x3]) ++ List.replicate (7 - (lg_sl ([.ref (gad g 7 0), .int x1, .int x2, .int x3])).length) Slot.unset).toArray = ls at hl ⊢
  have hl : lv_has ls 7 [(0, .ref (gad g 7 0)), (1, .int x1), (2, .int x2), (3, .int x3)] := hl
  refine f_aload_n C dX7_runOne_0 rfl (lv_at hl 0 rfl) ?_
  refine ge_RX7_10 C (by decide) dX7_runOne_1 ?_
  refine ge_RX7_86 C (by decide) dX7_runOne_4 ?_
  refine f_iload_n C dX7_runOne_7 rfl (lv_at hl 1 rfl) ?_
  obtain ⟨hi1, h⟩ := h
  refine f_aldR C (by decide) hi1 dX7_runOne_8 ?_
  refine f_astore (lv' := [(4, .ref (gad g 4 (8 * 0 + x1.toNatClampNeg))), (0, .ref (gad g 7 0)), (1, .int x1), (2, .int x2), (3, .int x3)]) C dX7_runOne_9 hl (by decide) rfl (fun ls hl => ?_)
  refine f_aload_n C dX7_runOne_11 rfl (lv_at hl 1 rfl) ?_
  refine ge_RX7_20 C (by decide) dX7_runOne_12 ?_
  refine f_iconst (v := 0) C dX7_runOne_15 (by decide) ?_
  refine al_k (n := 3) (k := 0) C (by decide) rfl (by decide) (vin_k (by decide)) dX7_runOne_16 ?_
  refine f_istore (lv' := [(5, .int (I 21 0 0)), (4, .ref (gad g 4 (8 * 0 + x1.toNatClampNeg))), (0, .ref (gad g 7 0)), (1, .int x1), (2, .int x2), (3, .int x3)]) C dX7_runOne_17 hl (by decide) rfl (fun ls hl => ?_)
  refine f_aload_n C dX7_runOne_19 rfl (lv_at hl 2 rfl) ?_
  refine ge_RX7_75 C (by decide) dX7_runOne_20 ?_
  refine f_iload_n C dX7_runOne_23 rfl (lv_at hl 3 rfl) ?_
  refine f_aload_n C dX7_runOne_24 rfl (lv_at hl 2 rfl) ?_
  refine ge_RX7_10 C (by decide) dX7_runOne_25 ?_
  refine f_cVi (As := []) (rest := [.int x1, .ref (gad g 24 0)]) (n := 0) (T0 := TX6) (N := 5) C (c_X6_nextLot (by decide) h) ok_X6_nextLot im_X6_nextLot se_X6_nextLot kw_RX7_284 ⟨Nat.le_trans (by decide) hR.1, Nat.le_trans (by decide) hR.2⟩ (by decide) rfl rfl rfl hl.1 (Nat.le_of_ble_eq_true rfl) dX7_runOne_28 (fun r2 I2 J2 h => ?_)
  refine f_bipush (v := 16) C dX7_runOne_31 (by decide) ?_
  refine f_iushr (v := (r2.toUInt32 >>> ((16 : Int32).toUInt32 &&& Int32.toUInt32 31)).toInt32) C dX7_runOne_33 rfl ?_
  refine f_iconst (v := 2) C dX7_runOne_34 (by decide) ?_
  refine f_iload C dX7_runOne_35 (lv_at hl 0 rfl) ?_
  refine f_imul C dX7_runOne_37 ?_
  refine f_iconst (v := 1) C dX7_runOne_38 (by decide) ?_
  refine f_iadd C dX7_runOne_39 ?_
  obtain ⟨hz3, h⟩ := h
  refine f_irem C dX7_runOne_40 hz3 ?_
  refine f_iload C dX7_runOne_41 (lv_at hl 0 rfl) ?_
  refine f_isub C dX7_runOne_43 ?_
  obtain ⟨hi4, h⟩ := h
  refine as_k (n := 8) (k := x1.toNatClampNeg) C (by decide) (fun _ => rfl) rfl hi4 dX7_runOne_44 ?_
  generalize hI5 : up3 I2 24 0 (x1.toNatClampNeg) ((((r2.toUInt32 >>> ((16 : Int32).toUInt32 &&& Int32.toUInt32 31)).toInt32) - ((r2.toUInt32 >>> ((16 : Int32).toUInt32 &&& Int32.toUInt32 31)).toInt32) / ((2 * (I 21 0 0)) + 1) * ((2 * (I 21 0 0)) + 1)) - (I 21 0 0)) = I5
  replace h := h I5 hI5.symm
  refine f_aload_n C dX7_runOne_45 rfl (lv_at hl 2 rfl) ?_
  refine ge_RX7_72 C (by decide) dX7_runOne_46 ?_
  refine f_iload_n C dX7_runOne_49 rfl (lv_at hl 3 rfl) ?_
  refine f_aload C dX7_runOne_50 (lv_at hl 1 rfl) ?_
  refine ge_RX7_112 C (rn_lt (by decide) hi1) dX7_runOne_52 ?_
  refine f_iload_n C dX7_runOne_55 rfl (lv_at hl 5 rfl) ?_
  refine f_isub C dX7_runOne_56 ?_
  obtain ⟨hi6, h⟩ := h
  refine as_k (n := 8) (k := x1.toNatClampNeg) C (by decide) (fun _ => rfl) rfl hi6 dX7_runOne_57 ?_
  refine f_aload_n C dX7_runOne_58 rfl (lv_at hl 2 rfl) ?_
  refine f_aload C dX7_runOne_59 (lv_at hl 1 rfl) ?_
  refine f_iload_n C dX7_runOne_61 rfl (lv_at hl 4 rfl) ?_
  refine f_cVi (As := [.ref (gad g 4 (8 * 0 + x1.toNatClampNeg)), .int x2]) (rest := []) (n := 2) (T0 := TX7) (N := 15) C (c_X7_bareLevel (rn_lt (by decide) hi1) h) ok_X7_bareLevel im_X7_bareLevel se_X7_bareLevel kw_RX7_288 ⟨Nat.le_trans (by decide) hR.1, Nat.le_trans (by decide) hR.2⟩ (by decide) rfl rfl rfl hl.1 (Nat.le_of_ble_eq_true rfl) dX7_runOne_62 (fun r7 I7 J7 h => ?_)
  refine f_aload_n C dX7_runOne_65 rfl (lv_at hl 2 rfl) ?_
  refine ge_RX7_75 C (by decide) dX7_runOne_66 ?_
  refine f_iload_n C dX7_runOne_69 rfl (lv_at hl 3 rfl) ?_
  obtain ⟨hi8, h⟩ := h
  refine al_k (n := 8) (k := x1.toNatClampNeg) C (by decide) rfl rfl hi8 dX7_runOne_70 ?_
  refine f_iadd C dX7_runOne_71 ?_
  generalize hv9 : r7 + (I7 24 0 (x1.toNatClampNeg)) = v9
  replace h := h v9 hv9.symm
  refine f_istore (lv' := [(6, .int v9), (5, .int (I 21 0 0)), (4, .ref (gad g 4 (8 * 0 + x1.toNatClampNeg))), (0, .ref (gad g 7 0)), (1, .int x1), (2, .int x2), (3, .int x3)]) C dX7_runOne_72 hl (by decide) rfl (fun ls hl => ?_)
  refine f_aload_n C dX7_runOne_74 rfl (lv_at hl 3 rfl) ?_
  refine ge_RX7_69 C (by decide) dX7_runOne_75 ?_
  refine f_iload_n C dX7_runOne_78 rfl (lv_at hl 4 rfl) ?_
  refine f_iload C dX7_runOne_79 (lv_at hl 0 rfl) ?_
  refine f_aload_n C dX7_runOne_81 rfl (lv_at hl 3 rfl) ?_
  refine ge_RX7_72 C (by decide) dX7_runOne_82 ?_
  refine f_iload_n C dX7_runOne_85 rfl (lv_at hl 4 rfl) ?_
  obtain ⟨hi10, h⟩ := h
  refine al_k (n := 8) (k := x1.toNatClampNeg) C (by decide) rfl rfl hi10 dX7_runOne_86 ?_
  refine f_isub C dX7_runOne_87 ?_
  obtain ⟨hi11, h⟩ := h
  refine as_k (n := 8) (k := x1.toNatClampNeg) C (by decide) (fun _ => rfl) rfl hi11 dX7_runOne_88 ?_
  refine f_aload C dX7_runOne_89 (lv_at hl 2 rfl) ?_
  refine f_iload C dX7_runOne_91 (lv_at hl 0 rfl) ?_
  refine f_aload_n C dX7_runOne_93 rfl (lv_at hl 3 rfl) ?_
  refine ge_RX7_34 C (by decide) dX7_runOne_94 ?_
  refine f_cVv (As := [.int v9, .ref (gad g 2 0)]) (rest := []) (n := 2) (T0 := TX4) (N := 8) C (c_X4_finish (rn_lt (by decide) hi1) (by decide) h) ok_X4_finish im_X4_finish se_X4_finish kw_RX7_224 ⟨Nat.le_trans (by decide) hR.1, Nat.le_trans (by decide) hR.2⟩ (rn_lt (by decide) hi1) rfl rfl rfl hl.1 (Nat.le_of_ble_eq_true rfl) dX7_runOne_97 (fun I12 J12 h => ?_)
  exact f_vret C h dX7_runOne_100

