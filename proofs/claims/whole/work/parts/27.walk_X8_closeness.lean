def J_X8_closeness_54 (Q : Int64 → MI → MJ → Prop) (C12 : MI → MJ → Int32 → Int64 → Int64 → Int32 → Prop) (I : MI) (J : MJ) (x1 : Int32) (x2 : Int64) (x4 : Int64) (x6 : Int32) (s0 : Int64) : Prop :=
  (0 ≤ (lg_cmp s0 0) → C12 I J x1 (x2 + s0) x4 (x6 + 1)) ∧
  (¬ (0 ≤ (lg_cmp s0 0)) → C12 I J x1 (x2 + (-s0)) x4 (x6 + 1))
set_option maxRecDepth 20000 in
theorem t_X8_closeness_54 {p : Program} {l : Launch} {e : Env} {R : Room} {s : State} {m : MethodId} {args : Array Value} {below : List Frame} {meth : Method} {c : Code} {g : Geo} (C : Cx g p s m args meth c cX8_closeness 9 RX8 (some .long)) (hR : 2 ≤ R.frames ∧ 46 ≤ R.locals) {Q : Int64 → MI → MJ → Prop} {C12 : MI → MJ → Int32 → Int64 → Int64 → Int32 → Prop} (hC12 : ∀ (I : MI) (J : MJ) (x1 : Int32) (x2 : Int64) (x4 : Int64) (x6 : Int32), C12 I J x1 x2 x4 x6 → ∀ ls : Array Slot, lv_has ls 9 [(0, .ref (gad g 8 0)), (1, .int x1), (2, .long x2), (4, .long x4), (6, .int x6)] → Wf p l e R s m args below meth c (MQ below (Qg g (PL Q)) args s 0 0 (gA g)) g I J (F0 m 12 ls [])) {I : MI} {J : MJ} {x1 : Int32} {x2 : Int64} {x4 : Int64} {x6 : Int32} {s0 : Int64} (h : J_X8_closeness_54 Q C12 I J x1 x2 x4 x6 s0) (ls : Array Slot) (hl : lv_has ls 9 [(0, .ref (gad g 8 0)), (1, .int x1), (2, .long x2), (4, .long x4), (6, .int x6)]) : Wf p l e R s m args below meth c (MQ below (Qg g (PL Q)) args s 0 0 (gA g)) g I J (F0 m 54 ls [.long s0]) := by
  refine f_lstore (lv' := [(7, .long s0), (0, .ref (gad g 8 0)), (1, .int x1), (2, .long x2), (4, .long x4), (6, .int x6)]) C dX8_closeness_54 hl (by decide) rfl (fun ls hl => ?_)
  refine f_lload_n C dX8_closeness_56 rfl (lv_at hl 3 rfl) ?_
  refine f_lload C dX8_closeness_57 (lv_at hl 0 rfl) ?_
  refine f_lconst (v := 0) C dX8_closeness_59 (by decide) ?_
  refine f_lcmp C dX8_closeness_60 ?_
  refine f_if_ge (tgt := 70) C dX8_closeness_61 (by decide) (fun c5 => ?_) (fun c5 => ?_)
  · replace h := h.1 c5
    refine f_lload C dX8_closeness_70 (lv_at hl 0 rfl) ?_
    refine f_ladd C dX8_closeness_72 ?_
    refine f_lstore_n (lv' := [(2, .long (x2 + s0)), (7, .long s0), (0, .ref (gad g 8 0)), (1, .int x1), (4, .long x4), (6, .int x6)]) C dX8_closeness_73 rfl hl (by decide) rfl (fun ls hl => ?_)
    refine f_iinc (v := x6 + 1) (lv' := [(6, .int (x6 + 1)), (2, .long (x2 + s0)), (7, .long s0), (0, .ref (gad g 8 0)), (1, .int x1), (4, .long x4)]) C dX8_closeness_74 hl (k := 5) rfl rfl (by decide) rfl (fun ls hl => ?_)
    refine f_goto (tgt := 12) C dX8_closeness_77 (by decide) ?_
    exact hC12 _ _ _ _ _ _ h ls (lv_sub hl [3, 4, 1, 5, 0] rfl)
  · replace h := h.2 c5
    refine f_lload C dX8_closeness_64 (lv_at hl 0 rfl) ?_
    refine f_lneg C dX8_closeness_66 ?_
    refine f_goto (tgt := 72) C dX8_closeness_67 (by decide) ?_
    refine f_ladd C dX8_closeness_72 ?_
    refine f_lstore_n (lv' := [(2, .long (x2 + (-s0))), (7, .long s0), (0, .ref (gad g 8 0)), (1, .int x1), (4, .long x4), (6, .int x6)]) C dX8_closeness_73 rfl hl (by decide) rfl (fun ls hl => ?_)
    refine f_iinc (v := x6 + 1) (lv' := [(6, .int (x6 + 1)), (2, .long (x2 + (-s0))), (7, .long s0), (0, .ref (gad g 8 0)), (1, .int x1), (4, .long x4)]) C dX8_closeness_74 hl (k := 5) rfl rfl (by decide) rfl (fun ls hl => ?_)
    refine f_goto (tgt := 12) C dX8_closeness_77 (by decide) ?_
    exact hC12 _ _ _ _ _ _ h ls (lv_sub hl [3, 4, 1, 5, 0] rfl)

def B_X8_closeness_12 (Q : Int64 → MI → MJ → Prop) (C12 : MI → MJ → Int32 → Int64 → Int64 → Int32 → Prop) (I : MI) (J : MJ) (x1 : Int32) (x2 : Int64) (x4 : Int64) (x6 : Int32) : Prop :=
  ((I 25 0 168) ≤ x6 → Q x2 I J) ∧
  (¬ ((I 25 0 168) ≤ x6) → wp_X8_has (fun r3 I3 J3 => (r3 = 0 → J_X8_closeness_54 Q C12 I3 J3 x1 x2 x4 x6 0) ∧
  (¬ (r3 = 0) → wp_X8_ones (fun r6 I6 J6 => vp_in x6 8 ∧ (J_X8_closeness_54 Q C12 I6 J6 x1 x2 x4 x6 (((r6.toInt64) * (J6 37 0 (x6.toNatClampNeg))) - x4))) I3 J3 x1)) I J x1 x6)
set_option maxRecDepth 20000 in
theorem b_X8_closeness_12 {p : Program} {l : Launch} {e : Env} {R : Room} {s : State} {m : MethodId} {args : Array Value} {below : List Frame} {meth : Method} {c : Code} {g : Geo} (C : Cx g p s m args meth c cX8_closeness 9 RX8 (some .long)) (hR : 2 ≤ R.frames ∧ 46 ≤ R.locals) {Q : Int64 → MI → MJ → Prop} {C12 : MI → MJ → Int32 → Int64 → Int64 → Int32 → Prop} (hC12 : ∀ (I : MI) (J : MJ) (x1 : Int32) (x2 : Int64) (x4 : Int64) (x6 : Int32), C12 I J x1 x2 x4 x6 → ∀ ls : Array Slot, lv_has ls 9 [(0, .ref (gad g 8 0)), (1, .int x1), (2, .long x2), (4, .long x4), (6, .int x6)] → Wf p l e R s m args below meth c (MQ below (Qg g (PL Q)) args s 0 0 (gA g)) g I J (F0 m 12 ls [])) {I : MI} {J : MJ} {x1 : Int32} {x2 : Int64} {x4 : Int64} {x6 : Int32} (h : B_X8_closeness_12 Q C12 I J x1 x2 x4 x6) (ls : Array Slot) (hl : lv_has ls 9 [(0, .ref (gad g 8 0)), (1, .int x1), (2, .long x2), (4, .long x4), (6, .int x6)]) : Wf p l e R s m args below meth c (MQ below (Qg g (PL Q)) args s 0 0 (gA g)) g I J (F0 m 12 ls []) := by
  refine f_iload C dX8_closeness_12 (lv_at hl 4 rfl) ?_
  refine f_aload_n C dX8_closeness_14 rfl (lv_at hl 0 rfl) ?_
  refine ge_RX8_7 C (by decide) dX8_closeness_15 ?_
  refine f_sipush (v := 168) C dX8_closeness_18 (by decide) ?_
  refine al_k (n := 171) (k := 168) C (by decide) rfl (by decide) (vin_k (by decide)) dX8_closeness_21 ?_
  refine f_icmp_ge (tgt := 80) C dX8_closeness_22 (by decide) (fun c2 => ?_) (fun c2 => ?_)
  · replace h := h.1 c2
    refine f_lload_n C dX8_closeness_80 rfl (lv_at hl 2 rfl) ?_
    exact f_lret C h dX8_closeness_81
  · replace h := h.2 c2
    refine f_iload_n C dX8_closeness_25 rfl (lv_at hl 1 rfl) ?_
    refine f_iload C dX8_closeness_26 (lv_at hl 4 rfl) ?_
    refine f_cSi (As := [.int x1, .int x6]) (rest := []) (n := 2) C (c_X8_has h) ok_X8_has sm_X8_has kw_RX8_132 ⟨Nat.le_trans (by decide) hR.1, Nat.le_trans (by decide) hR.2⟩ rfl hl.1 (Nat.le_of_ble_eq_true rfl) dX8_closeness_28 (fun r3 I3 J3 h => ?_)
    refine f_if_eq (tgt := 53) C dX8_closeness_31 (by decide) (fun c4 => ?_) (fun c4 => ?_)
    · replace h := h.1 c4
      refine f_lconst (v := 0) C dX8_closeness_53 (by decide) ?_
      exact t_X8_closeness_54 C hR hC12 h ls (lv_sub hl [0, 1, 2, 3, 4] rfl)
    · replace h := h.2 c4
      refine f_iload_n C dX8_closeness_34 rfl (lv_at hl 1 rfl) ?_
      refine f_cSi (As := [.int x1]) (rest := []) (n := 1) C (c_X8_ones h) ok_X8_ones sm_X8_ones kw_RX8_129 ⟨Nat.le_trans (by decide) hR.1, Nat.le_trans (by decide) hR.2⟩ rfl hl.1 (Nat.le_of_ble_eq_true rfl) dX8_closeness_35 (fun r6 I6 J6 h => ?_)
      refine f_i2l (v := r6.toInt64) C dX8_closeness_38 rfl ?_
      refine f_aload_n C dX8_closeness_39 rfl (lv_at hl 0 rfl) ?_
      refine ge_RX8_47 C (by decide) dX8_closeness_40 ?_
      refine f_iload C dX8_closeness_43 (lv_at hl 4 rfl) ?_
      obtain ⟨hi7, h⟩ := h
      refine al_kL (n := 8) (k := x6.toNatClampNeg) C (by decide) rfl rfl hi7 dX8_closeness_45 ?_
      refine f_lmul C dX8_closeness_46 ?_
      refine f_lload C dX8_closeness_47 (lv_at hl 3 rfl) ?_
      refine f_lsub C dX8_closeness_49 ?_
      refine f_goto (tgt := 54) C dX8_closeness_50 (by decide) ?_
      exact t_X8_closeness_54 C hR hC12 h ls (lv_sub hl [0, 1, 2, 3, 4] rfl)

def L_X8_closeness_12 (Q : Int64 → MI → MJ → Prop) : Nat → MI → MJ → Int32 → Int64 → Int64 → Int32 → Prop
  | 0 => fun _ _ _ _ _ _ => False
  | n + 1 => fun I J x1 x2 x4 x6 => B_X8_closeness_12 Q (L_X8_closeness_12 Q n) I J x1 x2 x4 x6
theorem t_X8_closeness_12 {p : Program} {l : Launch} {e : Env} {R : Room} {s : State} {m : MethodId} {args : Array Value} {below : List Frame} {meth : Method} {c : Code} {g : Geo} (C : Cx g p s m args meth c cX8_closeness 9 RX8 (some .long)) (hR : 2 ≤ R.frames ∧ 46 ≤ R.locals) {Q : Int64 → MI → MJ → Prop} : ∀ (n : Nat), ∀ (I : MI) (J : MJ) (x1 : Int32) (x2 : Int64) (x4 : Int64) (x6 : Int32), L_X8_closeness_12 Q n I J x1 x2 x4 x6 → ∀ ls : Array Slot, lv_has ls 9 [(0, .ref (gad g 8 0)), (1, .int x1), (2, .long x2), (4, .long x4), (6, .int x6)] → Wf p l e R s m args below meth c (MQ below (Qg g (PL Q)) args s 0 0 (gA g)) g I J (F0 m 12 ls []) := by
  intro n
  induction n with
  | zero => intro I J x1 x2 x4 x6 h; exact h.elim
  | succ n ih => intro I J x1 x2 x4 x6 h ls hl; exact b_X8_closeness_12 C hR ih h ls hl
def wp_X8_closeness (Q : Int64 → MI → MJ → Prop) (I : MI) (J : MJ) (x1 : Int32) : Prop :=
  wp_X8_allRows (fun r1 I1 J1 => ∃ n : Nat, L_X8_closeness_12 Q n I1 J1 x1 0 r1 0) I J x1
set_option maxRecDepth 20000 in
theorem c_X8_closeness {l : Launch} {g : Geo} {Q : Int64 → MI → MJ → Prop} {I : MI} {J : MJ} {x1 : Int32} (h : wp_X8_closeness Q I J x1) : Ct g l yX8_closeness cX8_closeness 9 (some .long) 2 46 [.ref (gad g 8 0), .int x1] I J (PL Q) := by
  refine Ct.of (by decide) ?_
  intro p e s m below meth c C
  have hR : 2 ≤ (Rm 2 46).frames ∧ 46 ≤ (Rm 2 46).locals := ⟨Nat.le_refl _, Nat.le_refl _⟩
  generalize Rm 2 46 = R at hR ⊢
  have hl := lv_entry ([.ref (gad g 8 0), .int x1]) (n := 9) (Nat.le_of_ble_eq_true rfl)
  rw [lg_entry_eq]
  generalize (lg_sl ([.ref (gad g 8 0), .int x1]) ++ List.replicate (9 - (lg_sl ([.ref (gad g 8 0), .int x1])).length) Slot.unset).toArray = ls at hl ⊢
  have hl : lv_has ls 9 [(0, .ref (gad g 8 0)), (1, .int x1)] := hl
  refine f_lconst (v := 0) C dX8_closeness_0 (by decide) ?_
  refine f_lstore_n (lv' := [(2, .long 0), (0, .ref (gad g 8 0)), (1, .int x1)]) C dX8_closeness_1 rfl hl (by decide) rfl (fun ls hl => ?_)
  refine f_aload_n C dX8_closeness_2 rfl (lv_at hl 1 rfl) ?_
  refine f_iload_n C dX8_closeness_3 rfl (lv_at hl 2 rfl) ?_
  refine f_cVl (As := [.int x1]) (rest := []) (n := 1) (T0 := TX8) (N := 25) C (c_X8_allRows h) ok_X8_allRows im_X8_allRows se_X8_allRows kw_RX8_154 ⟨Nat.le_trans (by decide) hR.1, Nat.le_trans (by decide) hR.2⟩ (by decide) rfl rfl rfl hl.1 (Nat.le_of_ble_eq_true rfl) dX8_closeness_4 (fun r1 I1 J1 h => ?_)
  refine f_lstore (lv' := [(4, .long r1), (2, .long 0), (0, .ref (gad g 8 0)), (1, .int x1)]) C dX8_closeness_7 hl (by decide) rfl (fun ls hl => ?_)
  refine f_iconst (v := 0) C dX8_closeness_9 (by decide) ?_
  refine f_istore (lv' := [(6, .int 0), (4, .long r1), (2, .long 0), (0, .ref (gad g 8 0)), (1, .int x1)]) C dX8_closeness_10 hl (by decide) rfl (fun ls hl => ?_)
  obtain ⟨n, h⟩ := h
  exact t_X8_closeness_12 C hR n _ _ _ _ _ _ h ls (lv_sub hl [3, 4, 2, 1, 0] rfl)

def J_X8_odds_47 (Q : Int64 → MI → MJ → Prop) (I : MI) (J : MJ) (x1 : Int32) (x2 : Int32) (x3 : Int32) : Prop :=
  wp_X8_weighs (fun I6 J6 => wp_X8_races (fun I7 J7 => (x3 = ((-1)) → wp_X8_allRows (fun r10 I10 J10 => Q r10 I10 J10) I7 J7 x2) ∧
  (¬ (x3 = ((-1))) → vp_in x3 8 ∧ (Q (J7 37 0 (x3.toNatClampNeg)) I7 J7))) I6 J6 x1 x2) I J x2
set_option maxRecDepth 20000 in
theorem t_X8_odds_47 {p : Program} {l : Launch} {e : Env} {R : Room} {s : State} {m : MethodId} {args : Array Value} {below : List Frame} {meth : Method} {c : Code} {g : Geo} (C : Cx g p s m args meth c cX8_odds 4 RX8 (some .long)) (hR : 2 ≤ R.frames ∧ 53 ≤ R.locals) {Q : Int64 → MI → MJ → Prop} {I : MI} {J : MJ} {x1 : Int32} {x2 : Int32} {x3 : Int32} (h : J_X8_odds_47 Q I J x1 x2 x3) (ls : Array Slot) (hl : lv_has ls 4 [(0, .ref (gad g 8 0)), (1, .int x1), (2, .int x2), (3, .int x3)]) : Wf p l e R s m args below meth c (MQ below (Qg g (PL Q)) args s 0 0 (gA g)) g I J (F0 m 47 ls []) := by
  refine f_aload_n C dX8_odds_47 rfl (lv_at hl 0 rfl) ?_
  refine f_iload_n C dX8_odds_48 rfl (lv_at hl 2 rfl) ?_
  refine f_cVv (As := [.int x2]) (rest := []) (n := 1) (T0 := TX8) (N := 25) C (c_X8_weighs h) ok_X8_weighs im_X8_weighs se_X8_weighs kw_RX8_139 ⟨Nat.le_trans (by decide) hR.1, Nat.le_trans (by decide) hR.2⟩ (by decide) rfl rfl rfl hl.1 (Nat.le_of_ble_eq_true rfl) dX8_odds_49 (fun I6 J6 h => ?_)
  refine f_aload_n C dX8_odds_52 rfl (lv_at hl 0 rfl) ?_
  refine f_iload_n C dX8_odds_53 rfl (lv_at hl 1 rfl) ?_
  refine f_iload_n C dX8_odds_54 rfl (lv_at hl 2 rfl) ?_
  refine f_cVv (As := [.int x1, .int x2]) (rest := []) (n := 2) (T0 := TX8) (N := 25) C (c_X8_races h) ok_X8_races im_X8_races se_X8_races kw_RX8_160 ⟨Nat.le_trans (by decide) hR.1, Nat.le_trans (by decide) hR.2⟩ (by decide) rfl rfl rfl hl.1 (Nat.le_of_ble_eq_true rfl) dX8_odds_55 (fun I7 J7 h => ?_)
  refine f_iload_n C dX8_odds_58 rfl (lv_at hl 3 rfl) ?_
  refine f_iconst (v := (-1)) C dX8_odds_59 (by decide) ?_
  refine f_icmp_ne (tgt := 71) C dX8_odds_60 (by decide) (fun c8 => ?_) (fun c8 => ?_)
  · replace h := h.2 c8
    refine f_aload_n C dX8_odds_71 rfl (lv_at hl 0 rfl) ?_
    refine ge_RX8_47 C (by decide) dX8_odds_72 ?_
    refine f_iload_n C dX8_odds_75 rfl (lv_at hl 3 rfl) ?_
    obtain ⟨hi9, h⟩ := h
    refine al_kL (n := 8) (k := x3.toNatClampNeg) C (by decide) rfl rfl hi9 dX8_odds_76 ?_
    exact f_lret C h dX8_odds_77
  · replace h := h.1 c8
    refine f_aload_n C dX8_odds_63 rfl (lv_at hl 0 rfl) ?_
    refine f_iload_n C dX8_odds_64 rfl (lv_at hl 2 rfl) ?_
    refine f_cVl (As := [.int x2]) (rest := []) (n := 1) (T0 := TX8) (N := 25) C (c_X8_allRows h) ok_X8_allRows im_X8_allRows se_X8_allRows kw_RX8_154 ⟨Nat.le_trans (by decide) hR.1, Nat.le_trans (by decide) hR.2⟩ (by decide) rfl rfl rfl hl.1 (Nat.le_of_ble_eq_true rfl) dX8_odds_65 (fun r10 I10 J10 h => ?_)
    refine f_goto (tgt := 77) C dX8_odds_68 (by decide) ?_
    exact f_lret C h dX8_odds_77

def wp_X8_odds (Q : Int64 → MI → MJ → Prop) (I : MI) (J : MJ) (x1 : Int32) (x2 : Int32) (x3 : Int32) : Prop :=
  wp_X8_in (fun r1 I1 J1 => (r1 = 0 → Q ((-1)) I1 J1) ∧
  (¬ (r1 = 0) → wp_X8_isField (fun r3 I3 J3 => (r3 = 0 → Q ((-1)) I3 J3) ∧
  (¬ (r3 = 0) → (x3 = ((-1)) → J_X8_odds_47 Q I3 J3 x1 x2 x3) ∧
  (¬ (x3 = ((-1))) → wp_X8_isRunner (fun r11 I11 J11 => (r11 = 0 → Q ((-1)) I11 J11) ∧
  (¬ (r11 = 0) → wp_X8_has (fun r13 I13 J13 => (r13 = 0 → Q ((-1)) I13 J13) ∧
  (¬ (r13 = 0) → J_X8_odds_47 Q I13 J13 x1 x2 x3)) I11 J11 x2 x3)) I3 J3 x3))) I1 J1 x2)) (up3 I 8 0 0 0) J x1 0 2
set_option maxRecDepth 20000 in
theorem c_X8_odds {l : Launch} {g : Geo} {Q : Int64 → MI → MJ → Prop} {I : MI} {J : MJ} {x1 : Int32} {x2 : Int32} {x3 : Int32} (h : wp_X8_odds Q I J x1 x2 x3) : Ct g l yX8_odds cX8_odds 4 (some .long) 2 53 [.ref (gad g 8 0), .int x1, .int x2, .int x3] I J (PL Q) := by
  refine Ct.of (by decide) ?_
  intro p e s m below meth c C
  have hR : 2 ≤ (Rm 2 53).frames ∧ 53 ≤ (Rm 2 53).locals := ⟨Nat.le_refl _, Nat.le_refl _⟩
  generalize Rm 2 53 = R at hR ⊢
  have hl := lv_entry ([.ref (gad g 8 0), .int x1, .int x2, .int x3]) (n := 4) (Nat.le_of_ble_eq_true rfl)
  rw [lg_entry_eq]
  generalize (lg_sl ([.ref (gad g 8 0), .int x1, .int x2, .int x3]) ++ List.replicate (4 - (lg_sl ([.ref (gad g 8 0), .int x1, .int x2, .int x3])).length) Slot.unset).toArray = ls at hl ⊢
  have hl : lv_has ls 4 [(0, .ref (gad g 8 0)), (1, .int x1), (2, .int x2), (3, .int x3)] := hl
  refine f_aload_n C dX8_odds_0 rfl (lv_at hl 0 rfl) ?_
  refine f_iconst (v := 0) C dX8_odds_1 (by decide) ?_
  refine pu_RX8_57 C (by decide) dX8_odds_2 ?_
  refine f_iload_n C dX8_odds_5 rfl (lv_at hl 1 rfl) ?_
  refine f_iconst (v := 0) C dX8_odds_6 (by decide) ?_
  refine f_iconst (v := 2) C dX8_odds_7 (by decide) ?_
  refine f_cSi (As := [.int x1, .int 0, .int 2]) (rest := []) (n := 3) C (c_X8_in h) ok_X8_in sm_X8_in kw_RX8_61 ⟨Nat.le_trans (by decide) hR.1, Nat.le_trans (by decide) hR.2⟩ rfl hl.1 (Nat.le_of_ble_eq_true rfl) dX8_odds_8 (fun r1 I1 J1 h => ?_)
  refine f_if_eq (tgt := 43) C dX8_odds_11 (by decide) (fun c2 => ?_) (fun c2 => ?_)
  · replace h := h.1 c2
    refine f_ldc2 C kc_RX8_158 dX8_odds_43 ?_
    exact f_lret C h dX8_odds_46
  · replace h := h.2 c2
    refine f_aload_n C dX8_odds_14 rfl (lv_at hl 0 rfl) ?_
    refine f_iload_n C dX8_odds_15 rfl (lv_at hl 2 rfl) ?_
    refine f_cVi (As := [.int x2]) (rest := []) (n := 1) (T0 := TX8) (N := 25) C (c_X8_isField h) ok_X8_isField im_X8_isField se_X8_isField kw_RX8_136 ⟨Nat.le_trans (by decide) hR.1, Nat.le_trans (by decide) hR.2⟩ (by decide) rfl rfl rfl hl.1 (Nat.le_of_ble_eq_true rfl) dX8_odds_16 (fun r3 I3 J3 h => ?_)
    refine f_if_eq (tgt := 43) C dX8_odds_19 (by decide) (fun c4 => ?_) (fun c4 => ?_)
    · replace h := h.1 c4
      refine f_ldc2 C kc_RX8_158 dX8_odds_43 ?_
      exact f_lret C h dX8_odds_46
    · replace h := h.2 c4
      refine f_iload_n C dX8_odds_22 rfl (lv_at hl 3 rfl) ?_
      refine f_iconst (v := (-1)) C dX8_odds_23 (by decide) ?_
      refine f_icmp_eq (tgt := 47) C dX8_odds_24 (by decide) (fun c5 => ?_) (fun c5 => ?_)
      · replace h := h.1 c5
        exact t_X8_odds_47 C hR h ls (lv_sub hl [0, 1, 2, 3] rfl)
      · replace h := h.2 c5
        refine f_aload_n C dX8_odds_27 rfl (lv_at hl 0 rfl) ?_
        refine f_iload_n C dX8_odds_28 rfl (lv_at hl 3 rfl) ?_
        refine f_cVi (As := [.int x3]) (rest := []) (n := 1) (T0 := TX8) (N := 25) C (c_X8_isRunner h) ok_X8_isRunner im_X8_isRunner se_X8_isRunner kw_RX8_65 ⟨Nat.le_trans (by decide) hR.1, Nat.le_trans (by decide) hR.2⟩ (by decide) rfl rfl rfl hl.1 (Nat.le_of_ble_eq_true rfl) dX8_odds_29 (fun r11 I11 J11 h => ?_)
        refine f_if_eq (tgt := 43) C dX8_odds_32 (by decide) (fun c12 => ?_) (fun c12 => ?_)
        · replace h := h.1 c12
          refine f_ldc2 C kc_RX8_158 dX8_odds_43 ?_
          exact f_lret C h dX8_odds_46
        · replace h := h.2 c12
          refine f_iload_n C dX8_odds_35 rfl (lv_at hl 2 rfl) ?_
          refine f_iload_n C dX8_odds_36 rfl (lv_at hl 3 rfl) ?_
          refine f_cSi (As := [.int x2, .int x3]) (rest := []) (n := 2) C (c_X8_has h) ok_X8_has sm_X8_has kw_RX8_132 ⟨Nat.le_trans (by decide) hR.1, Nat.le_trans (by decide) hR.2⟩ rfl hl.1 (Nat.le_of_ble_eq_true rfl) dX8_odds_37 (fun r13 I13 J13 h => ?_)
          refine f_if_ne (tgt := 47) C dX8_odds_40 (by decide) (fun c14 => ?_) (fun c14 => ?_)
          · replace h := h.2 c14
            exact t_X8_odds_47 C hR h ls (lv_sub hl [0, 1, 2, 3] rfl)
          · replace h := h.1 c14
            refine f_ldc2 C kc_RX8_158 dX8_odds_43 ?_
            exact f_lret C h dX8_odds_46

def wp_X8_close (Q : Int64 → MI → MJ → Prop) (I : MI) (J : MJ) (x1 : Int32) (x2 : Int32) : Prop :=
  wp_X8_in (fun r1 I1 J1 => (r1 = 0 → Q ((-1)) I1 J1) ∧
  (¬ (r1 = 0) → wp_X8_isField (fun r3 I3 J3 => (r3 = 0 → Q ((-1)) I3 J3) ∧
  (¬ (r3 = 0) → wp_X8_weighs (fun I5 J5 => wp_X8_races (fun I6 J6 => wp_X8_closeness (fun r7 I7 J7 => Q r7 I7 J7) I6 J6 x2) I5 J5 x1 x2) I3 J3 x2)) I1 J1 x2)) (up3 I 8 0 0 0) J x1 0 2
set_option maxRecDepth 20000 in
theorem c_X8_close {l : Launch} {g : Geo} {Q : Int64 → MI → MJ → Prop} {I : MI} {J : MJ} {x1 : Int32} {x2 : Int32} (h : wp_X8_close Q I J x1 x2) : Ct g l yX8_close cX8_close 3 (some .long) 3 74 [.ref (gad g 8 0), .int x1, .int x2] I J (PL Q) := by
  refine Ct.of (by decide) ?_
  intro p e s m below meth c C
  have hR : 3 ≤ (Rm 3 74).frames ∧ 74 ≤ (Rm 3 74).locals := ⟨Nat.le_refl _, Nat.le_refl _⟩
  generalize Rm 3 74 = R at hR ⊢
  have hl := lv_entry ([.ref (gad g 8 0), .int x1, .int x2]) (n := 3) (Nat.le_of_ble_eq_true rfl)
  rw [lg_entry_eq]
  generalize (lg_sl ([.ref (gad g 8 0), .int x1, .int x2]) ++ List.replicate (3 - (lg_sl ([.ref (gad g 8 0), .int x1, .int x2])).length) Slot.unset).toArray = ls at hl ⊢
  have hl : lv_has ls 3 [(0, .ref (gad g 8 0)), (1, .int x1), (2, .int x2)] := hl
  refine f_aload_n C dX8_close_0 rfl (lv_at hl 0 rfl) ?_
  refine f_iconst (v := 0) C dX8_close_1 (by decide) ?_
  refine pu_RX8_57 C (by decide) dX8_close_2 ?_
  refine f_iload_n C dX8_close_5 rfl (lv_at hl 1 rfl) ?_
  refine f_iconst (v := 0) C dX8_close_6 (by decide) ?_
  refine f_iconst (v := 2) C dX8_close_7 (by decide) ?_
  refine f_cSi (As := [.int x1, .int 0, .int 2]) (rest := []) (n := 3) C (c_X8_in h) ok_X8_in sm_X8_in kw_RX8_61 ⟨Nat.le_trans (by decide) hR.1, Nat.le_trans (by decide) hR.2⟩ rfl hl.1 (Nat.le_of_ble_eq_true rfl) dX8_close_8 (fun r1 I1 J1 h => ?_)
  refine f_if_eq (tgt := 22) C dX8_close_11 (by decide) (fun c2 => ?_) (fun c2 => ?_)
  · replace h := h.1 c2
    refine f_ldc2 C kc_RX8_158 dX8_close_22 ?_
    exact f_lret C h dX8_close_25
  · replace h := h.2 c2
    refine f_aload_n C dX8_close_14 rfl (lv_at hl 0 rfl) ?_
    refine f_iload_n C dX8_close_15 rfl (lv_at hl 2 rfl) ?_
    refine f_cVi (As := [.int x2]) (rest := []) (n := 1) (T0 := TX8) (N := 25) C (c_X8_isField h) ok_X8_isField im_X8_isField se_X8_isField kw_RX8_136 ⟨Nat.le_trans (by decide) hR.1, Nat.le_trans (by decide) hR.2⟩ (by decide) rfl rfl rfl hl.1 (Nat.le_of_ble_eq_true rfl) dX8_close_16 (fun r3 I3 J3 h => ?_)
    refine f_if_ne (tgt := 26) C dX8_close_19 (by decide) (fun c4 => ?_) (fun c4 => ?_)
    · replace h := h.2 c4
      refine f_aload_n C dX8_close_26 rfl (lv_at hl 0 rfl) ?_
      refine f_iload_n C dX8_close_27 rfl (lv_at hl 2 rfl) ?_
      refine f_cVv (As := [.int x2]) (rest := []) (n := 1) (T0 := TX8) (N := 25) C (c_X8_weighs h) ok_X8_weighs im_X8_weighs se_X8_weighs kw_RX8_139 ⟨Nat.le_trans (by decide) hR.1, Nat.le_trans (by decide) hR.2⟩ (by decide) rfl rfl rfl hl.1 (Nat.le_of_ble_eq_true rfl) dX8_close_28 (fun I5 J5 h => ?_)
      refine f_aload_n C dX8_close_31 rfl (lv_at hl 0 rfl) ?_
      refine f_iload_n C dX8_close_32 rfl (lv_at hl 1 rfl) ?_
      refine f_iload_n C dX8_close_33 rfl (lv_at hl 2 rfl) ?_
      refine f_cVv (As := [.int x1, .int x2]) (rest := []) (n := 2) (T0 := TX8) (N := 25) C (c_X8_races h) ok_X8_races im_X8_races se_X8_races kw_RX8_160 ⟨Nat.le_trans (by decide) hR.1, Nat.le_trans (by decide) hR.2⟩ (by decide) rfl rfl rfl hl.1 (Nat.le_of_ble_eq_true rfl) dX8_close_34 (fun I6 J6 h => ?_)
      refine f_aload_n C dX8_close_37 rfl (lv_at hl 0 rfl) ?_
      refine f_iload_n C dX8_close_38 rfl (lv_at hl 2 rfl) ?_
      refine f_cVl (As := [.int x2]) (rest := []) (n := 1) (T0 := TX8) (N := 25) C (c_X8_closeness h) ok_X8_closeness im_X8_closeness se_X8_closeness kw_RX8_164 ⟨Nat.le_trans (by decide) hR.1, Nat.le_trans (by decide) hR.2⟩ (by decide) rfl rfl rfl hl.1 (Nat.le_of_ble_eq_true rfl) dX8_close_39 (fun r7 I7 J7 h => ?_)
      exact f_lret C h dX8_close_42
    · replace h := h.1 c4
      refine f_ldc2 C kc_RX8_158 dX8_close_22 ?_
      exact f_lret C h dX8_close_25

def B_X8_evens_161 (Q : MI → MJ → Prop) (C31 : MI → MJ → Int32 → Int32 → Int32 → Int32 → Prop) (C161 : MI → MJ → Int32 → Int32 → Int32 → Int32 → Int32 → Prop) (I : MI) (J : MJ) (x1 : Int32) (x2 : Int32) (x4 : Int32) (x5 : Int32) (x10 : Int32) : Prop :=
  (8 ≤ x10 → C31 I J x1 x2 x4 (x5 + 1)) ∧
  (¬ (8 ≤ x10) → vp_in x10 8 ∧ (vp_in x10 8 ∧ (C161 (up3 I 38 0 (x10.toNatClampNeg) (I 36 0 (x10.toNatClampNeg))) J x1 x2 x4 x5 (x10 + 1))))
set_option maxRecDepth 20000 in
theorem b_X8_evens_161 {p : Program} {l : Launch} {e : Env} {R : Room} {s : State} {m : MethodId} {args : Array Value} {below : List Frame} {meth : Method} {c : Code} {g : Geo} (C : Cx g p s m args meth c cX8_evens 11 RX8 none) (hR : 3 ≤ R.frames ∧ 74 ≤ R.locals) {Q : MI → MJ → Prop} {C31 : MI → MJ → Int32 → Int32 → Int32 → Int32 → Prop} (hC31 : ∀ (I : MI) (J : MJ) (x1 : Int32) (x2 : Int32) (x4 : Int32) (x5 : Int32), C31 I J x1 x2 x4 x5 → ∀ ls : Array Slot, lv_has ls 11 [(0, .ref (gad g 8 0)), (1, .int x1), (2, .int x2), (4, .int x4), (5, .int x5)] → Wf p l e R s m args below meth c (MQ below (Qg g (PV Q)) args s 0 0 (gA g)) g I J (F0 m 31 ls [])) {C161 : MI → MJ → Int32 → Int32 → Int32 → Int32 → Int32 → Prop} (hC161 : ∀ (I : MI) (J : MJ) (x1 : Int32) (x2 : Int32) (x4 : Int32) (x5 : Int32) (x10 : Int32), C161 I J x1 x2 x4 x5 x10 → ∀ ls : Array Slot, lv_has ls 11 [(0, .ref (gad g 8 0)), (1, .int x1), (2, .int x2), (4, .int x4), (5, .int x5), (10, .int x10)] → Wf p l e R s m args below meth c (MQ below (Qg g (PV Q)) args s 0 0 (gA g)) g I J (F0 m 161 ls [])) {I : MI} {J : MJ} {x1 : Int32} {x2 : Int32} {x4 : Int32} {x5 : Int32} {x10 : Int32} (h : B_X8_evens_161 Q C31 C161 I J x1 x2 x4 x5 x10) (ls : Array Slot) (hl : lv_has ls 11 [(0, .ref (gad g 8 0)), (1, .int x1), (2, .int x2), (4, .int x4), (5, .int x5), (10, .int x10)]) : Wf p l e R s m args below meth c (MQ below (Qg g (PV Q)) args s 0 0 (gA g)) g I J (F0 m 161 ls []) := by
  refine f_iload C dX8_evens_161 (lv_at hl 5 rfl) ?_
  refine f_bipush (v := 8) C dX8_evens_163 (by decide) ?_
  refine f_icmp_ge (tgt := 188) C dX8_evens_165 (by decide) (fun c9 => ?_) (fun c9 => ?_)
  · replace h := h.1 c9
    refine f_iinc (v := x5 + 1) (lv' := [(5, .int (x5 + 1)), (0, .ref (gad g 8 0)), (1, .int x1), (2, .int x2), (4, .int x4), (10, .int x10)]) C dX8_evens_188 hl (k := 4) rfl rfl (by decide) rfl (fun ls hl => ?_)
    refine f_goto (tgt := 31) C dX8_evens_191 (by decide) ?_
    exact hC31 _ _ _ _ _ _ h ls (lv_sub hl [1, 2, 3, 4, 0] rfl)
  · replace h := h.2 c9
    refine f_aload_n C dX8_evens_168 rfl (lv_at hl 0 rfl) ?_
    refine ge_RX8_51 C (by decide) dX8_evens_169 ?_
    refine f_iload C dX8_evens_172 (lv_at hl 5 rfl) ?_
    refine f_aload_n C dX8_evens_174 rfl (lv_at hl 0 rfl) ?_
    refine ge_RX8_44 C (by decide) dX8_evens_175 ?_
    refine f_iload C dX8_evens_178 (lv_at hl 5 rfl) ?_
    obtain ⟨hi10, h⟩ := h
    refine al_k (n := 8) (k := x10.toNatClampNeg) C (by decide) rfl rfl hi10 dX8_evens_180 ?_
    obtain ⟨hi11, h⟩ := h
    refine as_k (n := 8) (k := x10.toNatClampNeg) C (by decide) (fun _ => rfl) rfl hi11 dX8_evens_181 ?_
    refine f_iinc (v := x10 + 1) (lv' := [(10, .int (x10 + 1)), (0, .ref (gad g 8 0)), (1, .int x1), (2, .int x2), (4, .int x4), (5, .int x5)]) C dX8_evens_182 hl (k := 5) rfl rfl (by decide) rfl (fun ls hl => ?_)
    refine f_goto (tgt := 161) C dX8_evens_185 (by decide) ?_
    exact hC161 _ _ _ _ _ _ _ h ls (lv_sub hl [1, 2, 3, 4, 5, 0] rfl)

def L_X8_evens_161 (Q : MI → MJ → Prop) (C31 : MI → MJ → Int32 → Int32 → Int32 → Int32 → Prop) : Nat → MI → MJ → Int32 → Int32 → Int32 → Int32 → Int32 → Prop
  | 0 => fun _ _ _ _ _ _ _ => False
  | n + 1 => fun I J x1 x2 x4 x5 x10 => B_X8_evens_161 Q C31 (L_X8_evens_161 Q C31 n) I J x1 x2 x4 x5 x10
theorem t_X8_evens_161 {p : Program} {l : Launch} {e : Env} {R : Room} {s : State} {m : MethodId} {args : Array Value} {below : List Frame} {meth : Method} {c : Code} {g : Geo} (C : Cx g p s m args meth c cX8_evens 11 RX8 none) (hR : 3 ≤ R.frames ∧ 74 ≤ R.locals) {Q : MI → MJ → Prop} {C31 : MI → MJ → Int32 → Int32 → Int32 → Int32 → Prop} (hC31 : ∀ (I : MI) (J : MJ) (x1 : Int32) (x2 : Int32) (x4 : Int32) (x5 : Int32), C31 I J x1 x2 x4 x5 → ∀ ls : Array Slot, lv_has ls 11 [(0, .ref (gad g 8 0)), (1, .int x1), (2, .int x2), (4, .int x4), (5, .int x5)] → Wf p l e R s m args below meth c (MQ below (Qg g (PV Q)) args s 0 0 (gA g)) g I J (F0 m 31 ls [])) : ∀ (n : Nat), ∀ (I : MI) (J : MJ) (x1 : Int32) (x2 : Int32) (x4 : Int32) (x5 : Int32) (x10 : Int32), L_X8_evens_161 Q C31 n I J x1 x2 x4 x5 x10 → ∀ ls : Array Slot, lv_has ls 11 [(0, .ref (gad g 8 0)), (1, .int x1), (2, .int x2), (4, .int x4), (5, .int x5), (10, .int x10)] → Wf p l e R s m args below meth c (MQ below (Qg g (PV Q)) args s 0 0 (gA g)) g I J (F0 m 161 ls []) := by
  intro n
  induction n with
  | zero => intro I J x1 x2 x4 x5 x10 h; exact h.elim
  | succ n ih => intro I J x1 x2 x4 x5 x10 h ls hl; exact b_X8_evens_161 C hR hC31 ih h ls hl
def J_X8_evens_152 (Q : MI → MJ → Prop) (C31 : MI → MJ → Int32 → Int32 → Int32 → Int32 → Prop) (I : MI) (J : MJ) (x1 : Int32) (x2 : Int32) (x4 : Int32) (x5 : Int32) (x8 : Int64) : Prop :=
  ∃ n : Nat, L_X8_evens_161 Q C31 n I (up3L J 8 0 24 x8) x1 x2 x4 x5 0
set_option maxRecDepth 20000 in
theorem t_X8_evens_152 {p : Program} {l : Launch} {e : Env} {R : Room} {s : State} {m : MethodId} {args : Array Value} {below : List Frame} {meth : Method} {c : Code} {g : Geo} (C : Cx g p s m args meth c cX8_evens 11 RX8 none) (hR : 3 ≤ R.frames ∧ 74 ≤ R.locals) {Q : MI → MJ → Prop} {C31 : MI → MJ → Int32 → Int32 → Int32 → Int32 → Prop} (hC31 : ∀ (I : MI) (J : MJ) (x1 : Int32) (x2 : Int32) (x4 : Int32) (x5 : Int32), C31 I J x1 x2 x4 x5 → ∀ ls : Array Slot, lv_has ls 11 [(0, .ref (gad g 8 0)), (1, .int x1), (2, .int x2), (4, .int x4), (5, .int x5)] → Wf p l e R s m args below meth c (MQ below (Qg g (PV Q)) args s 0 0 (gA g)) g I J (F0 m 31 ls [])) {I : MI} {J : MJ} {x1 : Int32} {x2 : Int32} {x4 : Int32} {x5 : Int32} {x8 : Int64} (h : J_X8_evens_152 Q C31 I J x1 x2 x4 x5 x8) (ls : Array Slot) (hl : lv_has ls 11 [(0, .ref (gad g 8 0)), (1, .int x1), (2, .int x2), (4, .int x4), (5, .int x5), (8, .long x8)]) : Wf p l e R s m args below meth c (MQ below (Qg g (PV Q)) args s 0 0 (gA g)) g I J (F0 m 152 ls []) := by
  refine f_aload_n C dX8_evens_152 rfl (lv_at hl 0 rfl) ?_
  refine f_lload C dX8_evens_153 (lv_at hl 5 rfl) ?_
  refine pu_RX8_167 C (by decide) dX8_evens_155 ?_
  refine f_iconst (v := 0) C dX8_evens_158 (by decide) ?_
  refine f_istore (lv' := [(10, .int 0), (0, .ref (gad g 8 0)), (1, .int x1), (2, .int x2), (4, .int x4), (5, .int x5), (8, .long x8)]) C dX8_evens_159 hl (by decide) rfl (fun ls hl => ?_)
  obtain ⟨n, h⟩ := h
  exact t_X8_evens_161 C hR hC31 n _ _ _ _ _ _ _ h ls (lv_sub hl [1, 2, 3, 4, 5, 0] rfl)

def B_X8_evens_50 (Q : MI → MJ → Prop) (C31 : MI → MJ → Int32 → Int32 → Int32 → Int32 → Prop) (C50 : MI → MJ → Int32 → Int32 → Int32 → Int32 → Int32 → Int32 → Int32 → Prop) (I : MI) (J : MJ) (x1 : Int32) (x2 : Int32) (x4 : Int32) (x5 : Int32) (x6 : Int32) (x7 : Int32) (x8 : Int32) : Prop :=
  (x8 < 0 → (x7 = 0 → wp_X8_races (fun I6 J6 => wp_X8_closeness (fun r7 I7 J7 => ((lg_cmp (J7 8 0 24) 0) < 0 → J_X8_evens_152 Q C31 I7 J7 x1 x2 x4 x5 r7) ∧
  (¬ ((lg_cmp (J7 8 0 24) 0) < 0) → (0 ≤ (lg_cmp r7 (J7 8 0 24)) → C31 I7 J7 x1 x2 x4 (x5 + 1)) ∧
  (¬ (0 ≤ (lg_cmp r7 (J7 8 0 24))) → J_X8_evens_152 Q C31 I7 J7 x1 x2 x4 x5 r7))) I6 J6 x2) I J x1 x2) ∧
  (¬ (x7 = 0) → C31 I J x1 x2 x4 (x5 + 1))) ∧
  (¬ (x8 < 0) → wp_X8_has (fun r13 I13 J13 => (r13 = 0 → C50 I13 J13 x1 x2 x4 x5 x6 x7 (x8 + (-1))) ∧
  (¬ (r13 = 0) → vp_in x8 8 ∧ (vp_in x8 8 ∧ ((x7 ≤ ((up3 I13 36 0 (x8.toNatClampNeg) (x6 - x6 / 21 * 21)) 36 0 (x8.toNatClampNeg)) → C50 (up3 I13 36 0 (x8.toNatClampNeg) (x6 - x6 / 21 * 21)) J13 x1 x2 x4 x5 (x6 / 21) x7 (x8 + (-1))) ∧
  (¬ (x7 ≤ ((up3 I13 36 0 (x8.toNatClampNeg) (x6 - x6 / 21 * 21)) 36 0 (x8.toNatClampNeg))) → vp_in x8 8 ∧ (∀ v19 : Int32, v19 = (up3 I13 36 0 (x8.toNatClampNeg) (x6 - x6 / 21 * 21)) 36 0 (x8.toNatClampNeg) → (C50 (up3 I13 36 0 (x8.toNatClampNeg) (x6 - x6 / 21 * 21)) J13 x1 x2 x4 x5 (x6 / 21) v19 (x8 + (-1))))))))) I J x2 x8)
set_option maxRecDepth 20000 in
theorem b_X8_evens_50 {p : Program} {l : Launch} {e : Env} {R : Room} {s : State} {m : MethodId} {args : Array Value} {below : List Frame} {meth : Method} {c : Code} {g : Geo} (C : Cx g p s m args meth c cX8_evens 11 RX8 none) (hR : 3 ≤ R.frames ∧ 74 ≤ R.locals) {Q : MI → MJ → Prop} {C31 : MI → MJ → Int32 → Int32 → Int32 → Int32 → Prop} (hC31 : ∀ (I : MI) (J : MJ) (x1 : Int32) (x2 : Int32) (x4 : Int32) (x5 : Int32), C31 I J x1 x2 x4 x5 → ∀ ls : Array Slot, lv_has ls 11 [(0, .ref (gad g 8 0)), (1, .int x1), (2, .int x2), (4, .int x4), (5, .int x5)] → Wf p l e R s m args below meth c (MQ below (Qg g (PV Q)) args s 0 0 (gA g)) g I J (F0 m 31 ls [])) {C50 : MI → MJ → Int32 → Int32 → Int32 → Int32 → Int32 → Int32 → Int32 → Prop} (hC50 : ∀ (I : MI) (J : MJ) (x1 : Int32) (x2 : Int32) (x4 : Int32) (x5 : Int32) (x6 : Int32) (x7 : Int32) (x8 : Int32), C50 I J x1 x2 x4 x5 x6 x7 x8 → ∀ ls : Array Slot, lv_has ls 11 [(0, .ref (gad g 8 0)), (1, .int x1), (2, .int x2), (4, .int x4), (5, .int x5), (6, .int x6), (7, .int x7), (8, .int x8)] → Wf p l e R s m args below meth c (MQ below (Qg g (PV Q)) args s 0 0 (gA g)) g I J (F0 m 50 ls [])) {I : MI} {J : MJ} {x1 : Int32} {x2 : Int32} {x4 : Int32} {x5 : Int32} {x6 : Int32} {x7 : Int32} {x8 : Int32} (h : B_X8_evens_50 Q C31 C50 I J x1 x2 x4 x5 x6 x7 x8) (ls : Array Slot) (hl : lv_has ls 11 [(0, .ref (gad g 8 0)), (1, .int x1), (2, .int x2), (4, .int x4), (5, .int x5), (6, .int x6), (7, .int x7), (8, .int x8)]) : Wf p l e R s m args below meth c (MQ below (Qg g (PV Q)) args s 0 0 (gA g)) g I J (F0 m 50 ls []) := by
  refine f_iload C dX8_evens_50 (lv_at hl 7 rfl) ?_
  refine f_if_lt (tgt := 115) C dX8_evens_52 (by decide) (fun c4 => ?_) (fun c4 => ?_)
  · replace h := h.1 c4
    refine f_iload C dX8_evens_115 (lv_at hl 6 rfl) ?_
    refine f_if_ne (tgt := 188) C dX8_evens_117 (by decide) (fun c5 => ?_) (fun c5 => ?_)
    · replace h := h.2 c5
      refine f_iinc (v := x5 + 1) (lv' := [(5, .int (x5 + 1)), (0, .ref (gad g 8 0)), (1, .int x1), (2, .int x2), (4, .int x4), (6, .int x6), (7, .int x7), (8, .int x8)]) C dX8_evens_188 hl (k := 4) rfl rfl (by decide) rfl (fun ls hl => ?_)
      refine f_goto (tgt := 31) C dX8_evens_191 (by decide) ?_
      exact hC31 _ _ _ _ _ _ h ls (lv_sub hl [1, 2, 3, 4, 0] rfl)
    · replace h := h.1 c5
      refine f_aload_n C dX8_evens_120 rfl (lv_at hl 0 rfl) ?_
      refine f_iload_n C dX8_evens_121 rfl (lv_at hl 1 rfl) ?_
      refine f_iload_n C dX8_evens_122 rfl (lv_at hl 2 rfl) ?_
      refine f_cVv (As := [.int x1, .int x2]) (rest := []) (n := 2) (T0 := TX8) (N := 25) C (c_X8_races h) ok_X8_races im_X8_races se_X8_races kw_RX8_160 ⟨Nat.le_trans (by decide) hR.1, Nat.le_trans (by decide) hR.2⟩ (by decide) rfl rfl rfl hl.1 (Nat.le_of_ble_eq_true rfl) dX8_evens_123 (fun I6 J6 h => ?_)
      refine f_aload_n C dX8_evens_126 rfl (lv_at hl 0 rfl) ?_
      refine f_iload_n C dX8_evens_127 rfl (lv_at hl 2 rfl) ?_
      refine f_cVl (As := [.int x2]) (rest := []) (n := 1) (T0 := TX8) (N := 25) C (c_X8_closeness h) ok_X8_closeness im_X8_closeness se_X8_closeness kw_RX8_164 ⟨Nat.le_trans (by decide) hR.1, Nat.le_trans (by decide) hR.2⟩ (by decide) rfl rfl rfl hl.1 (Nat.le_of_ble_eq_true rfl) dX8_evens_128 (fun r7 I7 J7 h => ?_)
      refine f_lstore (lv' := [(8, .long r7), (0, .ref (gad g 8 0)), (1, .int x1), (2, .int x2), (4, .int x4), (5, .int x5), (6, .int x6), (7, .int x7)]) C dX8_evens_131 hl (by decide) rfl (fun ls hl => ?_)
      refine f_aload_n C dX8_evens_133 rfl (lv_at hl 1 rfl) ?_
      refine ge_RX8_167 C (by decide) dX8_evens_134 ?_
      refine f_lconst (v := 0) C dX8_evens_137 (by decide) ?_
      refine f_lcmp C dX8_evens_138 ?_
      refine f_if_lt (tgt := 152) C dX8_evens_139 (by decide) (fun c8 => ?_) (fun c8 => ?_)
      · replace h := h.1 c8
        exact t_X8_evens_152 C hR hC31 h ls (lv_sub hl [1, 2, 3, 4, 5, 0] rfl)
      · replace h := h.2 c8
        refine f_lload C dX8_evens_142 (lv_at hl 0 rfl) ?_
        refine f_aload_n C dX8_evens_144 rfl (lv_at hl 1 rfl) ?_
        refine ge_RX8_167 C (by decide) dX8_evens_145 ?_
        refine f_lcmp C dX8_evens_148 ?_
        refine f_if_ge (tgt := 188) C dX8_evens_149 (by decide) (fun c12 => ?_) (fun c12 => ?_)
        · replace h := h.1 c12
          refine f_iinc (v := x5 + 1) (lv' := [(5, .int (x5 + 1)), (8, .long r7), (0, .ref (gad g 8 0)), (1, .int x1), (2, .int x2), (4, .int x4), (6, .int x6), (7, .int x7)]) C dX8_evens_188 hl (k := 5) rfl rfl (by decide) rfl (fun ls hl => ?_)
          refine f_goto (tgt := 31) C dX8_evens_191 (by decide) ?_
          exact hC31 _ _ _ _ _ _ h ls (lv_sub hl [2, 3, 4, 5, 0] rfl)
        · replace h := h.2 c12
          exact t_X8_evens_152 C hR hC31 h ls (lv_sub hl [1, 2, 3, 4, 5, 0] rfl)
  · replace h := h.2 c4
    refine f_iload_n C dX8_evens_55 rfl (lv_at hl 2 rfl) ?_
    refine f_iload C dX8_evens_56 (lv_at hl 7 rfl) ?_
    refine f_cSi (As := [.int x2, .int x8]) (rest := []) (n := 2) C (c_X8_has h) ok_X8_has sm_X8_has kw_RX8_132 ⟨Nat.le_trans (by decide) hR.1, Nat.le_trans (by decide) hR.2⟩ rfl hl.1 (Nat.le_of_ble_eq_true rfl) dX8_evens_58 (fun r13 I13 J13 h => ?_)
    refine f_if_eq (tgt := 109) C dX8_evens_61 (by decide) (fun c14 => ?_) (fun c14 => ?_)
    · replace h := h.1 c14
      refine f_iinc (v := x8 + (-1)) (lv' := [(8, .int (x8 + (-1))), (0, .ref (gad g 8 0)), (1, .int x1), (2, .int x2), (4, .int x4), (5, .int x5), (6, .int x6), (7, .int x7)]) C dX8_evens_109 hl (k := 7) rfl rfl (by decide) rfl (fun ls hl => ?_)
      refine f_goto (tgt := 50) C dX8_evens_112 (by decide) ?_
      exact hC50 _ _ _ _ _ _ _ _ _ h ls (lv_sub hl [1, 2, 3, 4, 5, 6, 7, 0] rfl)
    · replace h := h.2 c14
      refine f_aload_n C dX8_evens_64 rfl (lv_at hl 0 rfl) ?_
      refine ge_RX8_44 C (by decide) dX8_evens_65 ?_
      refine f_iload C dX8_evens_68 (lv_at hl 7 rfl) ?_
      refine f_iload C dX8_evens_70 (lv_at hl 5 rfl) ?_
      refine f_bipush (v := 21) C dX8_evens_72 (by decide) ?_
      refine f_irem C dX8_evens_74 (by decide) ?_
      obtain ⟨hi15, h⟩ := h
      refine as_k (n := 8) (k := x8.toNatClampNeg) C (by decide) (fun _ => rfl) rfl hi15 dX8_evens_75 ?_
      refine f_iload C dX8_evens_76 (lv_at hl 5 rfl) ?_
      refine f_bipush (v := 21) C dX8_evens_78 (by decide) ?_
      refine f_idiv C dX8_evens_80 (by decide) ?_
      refine f_istore (lv' := [(6, .int (x6 / 21)), (0, .ref (gad g 8 0)), (1, .int x1), (2, .int x2), (4, .int x4), (5, .int x5), (7, .int x7), (8, .int x8)]) C dX8_evens_81 hl (by decide) rfl (fun ls hl => ?_)
      refine f_aload_n C dX8_evens_83 rfl (lv_at hl 1 rfl) ?_
      refine ge_RX8_44 C (by decide) dX8_evens_84 ?_
      refine f_iload C dX8_evens_87 (lv_at hl 7 rfl) ?_
      obtain ⟨hi16, h⟩ := h
      refine al_k (n := 8) (k := x8.toNatClampNeg) C (by decide) rfl rfl hi16 dX8_evens_89 ?_
      refine f_iload C dX8_evens_90 (lv_at hl 6 rfl) ?_
      refine f_icmp_ge (tgt := 105) C dX8_evens_92 (by decide) (fun c17 => ?_) (fun c17 => ?_)
      · replace h := h.1 c17
        refine f_iload C dX8_evens_105 (lv_at hl 6 rfl) ?_
        refine f_istore (lv' := [(7, .int x7), (6, .int (x6 / 21)), (0, .ref (gad g 8 0)), (1, .int x1), (2, .int x2), (4, .int x4), (5, .int x5), (8, .int x8)]) C dX8_evens_107 hl (by decide) rfl (fun ls hl => ?_)
        refine f_iinc (v := x8 + (-1)) (lv' := [(8, .int (x8 + (-1))), (7, .int x7), (6, .int (x6 / 21)), (0, .ref (gad g 8 0)), (1, .int x1), (2, .int x2), (4, .int x4), (5, .int x5)]) C dX8_evens_109 hl (k := 7) rfl rfl (by decide) rfl (fun ls hl => ?_)
        refine f_goto (tgt := 50) C dX8_evens_112 (by decide) ?_
        exact hC50 _ _ _ _ _ _ _ _ _ h ls (lv_sub hl [3, 4, 5, 6, 7, 2, 1, 0] rfl)
      · replace h := h.2 c17
        refine f_aload_n C dX8_evens_95 rfl (lv_at hl 1 rfl) ?_
        refine ge_RX8_44 C (by decide) dX8_evens_96 ?_
        refine f_iload C dX8_evens_99 (lv_at hl 7 rfl) ?_
        obtain ⟨hi18, h⟩ := h
        refine al_k (n := 8) (k := x8.toNatClampNeg) C (by decide) rfl rfl hi18 dX8_evens_101 ?_
        refine f_goto (tgt := 107) C dX8_evens_102 (by decide) ?_
        generalize hv19 : (up3 I13 36 0 (x8.toNatClampNeg) (x6 - x6 / 21 * 21)) 36 0 (x8.toNatClampNeg) = v19
        replace h := h v19 hv19.symm
        refine f_istore (lv' := [(7, .int v19), (6, .int (x6 / 21)), (0, .ref (gad g 8 0)), (1, .int x1), (2, .int x2), (4, .int x4), (5, .int x5), (8, .int x8)]) C dX8_evens_107 hl (by decide) rfl (fun ls hl => ?_)
        refine f_iinc (v := x8 + (-1)) (lv' := [(8, .int (x8 + (-1))), (7, .int v19), (6, .int (x6 / 21)), (0, .ref (gad g 8 0)), (1, .int x1), (2, .int x2), (4, .int x4), (5, .int x5)]) C dX8_evens_109 hl (k := 7) rfl rfl (by decide) rfl (fun ls hl => ?_)
        refine f_goto (tgt := 50) C dX8_evens_112 (by decide) ?_
        exact hC50 _ _ _ _ _ _ _ _ _ h ls (lv_sub hl [3, 4, 5, 6, 7, 2, 1, 0] rfl)

def L_X8_evens_50 (Q : MI → MJ → Prop) (C31 : MI → MJ → Int32 → Int32 → Int32 → Int32 → Prop) : Nat → MI → MJ → Int32 → Int32 → Int32 → Int32 → Int32 → Int32 → Int32 → Prop
  | 0 => fun _ _ _ _ _ _ _ _ _ => False
  | n + 1 => fun I J x1 x2 x4 x5 x6 x7 x8 => B_X8_evens_50 Q C31 (L_X8_evens_50 Q C31 n) I J x1 x2 x4 x5 x6 x7 x8
theorem t_X8_evens_50 {p : Program} {l : Launch} {e : Env} {R : Room} {s : State} {m : MethodId} {args : Array Value} {below : List Frame} {meth : Method} {c : Code} {g : Geo} (C : Cx g p s m args meth c cX8_evens 11 RX8 none) (hR : 3 ≤ R.frames ∧ 74 ≤ R.locals) {Q : MI → MJ → Prop} {C31 : MI → MJ → Int32 → Int32 → Int32 → Int32 → Prop} (hC31 : ∀ (I : MI) (J : MJ) (x1 : Int32) (x2 : Int32) (x4 : Int32) (x5 : Int32), C31 I J x1 x2 x4 x5 → ∀ ls : Array Slot, lv_has ls 11 [(0, .ref (gad g 8 0)), (1, .int x1), (2, .int x2), (4, .int x4), (5, .int x5)] → Wf p l e R s m args below meth c (MQ below (Qg g (PV Q)) args s 0 0 (gA g)) g I J (F0 m 31 ls [])) : ∀ (n : Nat), ∀ (I : MI) (J : MJ) (x1 : Int32) (x2 : Int32) (x4 : Int32) (x5 : Int32) (x6 : Int32) (x7 : Int32) (x8 : Int32), L_X8_evens_50 Q C31 n I J x1 x2 x4 x5 x6 x7 x8 → ∀ ls : Array Slot, lv_has ls 11 [(0, .ref (gad g 8 0)), (1, .int x1), (2, .int x2), (4, .int x4), (5, .int x5), (6, .int x6), (7, .int x7), (8, .int x8)] → Wf p l e R s m args below meth c (MQ below (Qg g (PV Q)) args s 0 0 (gA g)) g I J (F0 m 50 ls []) := by
  intro n
  induction n with
  | zero => intro I J x1 x2 x4 x5 x6 x7 x8 h; exact h.elim
  | succ n ih => intro I J x1 x2 x4 x5 x6 x7 x8 h ls hl; exact b_X8_evens_50 C hR hC31 ih h ls hl
def B_X8_evens_31 (Q : MI → MJ → Prop) (C31 : MI → MJ → Int32 → Int32 → Int32 → Int32 → Prop) (I : MI) (J : MJ) (x1 : Int32) (x2 : Int32) (x4 : Int32) (x5 : Int32) : Prop :=
  (x4 ≤ x5 → Q I J) ∧
  (¬ (x4 ≤ x5) → ∃ n : Nat, L_X8_evens_50 Q C31 n I J x1 x2 x4 x5 x5 21 7)
set_option maxRecDepth 20000 in
theorem b_X8_evens_31 {p : Program} {l : Launch} {e : Env} {R : Room} {s : State} {m : MethodId} {args : Array Value} {below : List Frame} {meth : Method} {c : Code} {g : Geo} (C : Cx g p s m args meth c cX8_evens 11 RX8 none) (hR : 3 ≤ R.frames ∧ 74 ≤ R.locals) {Q : MI → MJ → Prop} {C31 : MI → MJ → Int32 → Int32 → Int32 → Int32 → Prop} (hC31 : ∀ (I : MI) (J : MJ) (x1 : Int32) (x2 : Int32) (x4 : Int32) (x5 : Int32), C31 I J x1 x2 x4 x5 → ∀ ls : Array Slot, lv_has ls 11 [(0, .ref (gad g 8 0)), (1, .int x1), (2, .int x2), (4, .int x4), (5, .int x5)] → Wf p l e R s m args below meth c (MQ below (Qg g (PV Q)) args s 0 0 (gA g)) g I J (F0 m 31 ls [])) {I : MI} {J : MJ} {x1 : Int32} {x2 : Int32} {x4 : Int32} {x5 : Int32} (h : B_X8_evens_31 Q C31 I J x1 x2 x4 x5) (ls : Array Slot) (hl : lv_has ls 11 [(0, .ref (gad g 8 0)), (1, .int x1), (2, .int x2), (4, .int x4), (5, .int x5)]) : Wf p l e R s m args below meth c (MQ below (Qg g (PV Q)) args s 0 0 (gA g)) g I J (F0 m 31 ls []) := by
  refine f_iload C dX8_evens_31 (lv_at hl 4 rfl) ?_
  refine f_iload C dX8_evens_33 (lv_at hl 3 rfl) ?_
  refine f_icmp_ge (tgt := 194) C dX8_evens_35 (by decide) (fun c3 => ?_) (fun c3 => ?_)
  · replace h := h.1 c3
    exact f_vret C h dX8_evens_194
  · replace h := h.2 c3
    refine f_iload C dX8_evens_38 (lv_at hl 4 rfl) ?_
    refine f_istore (lv' := [(6, .int x5), (0, .ref (gad g 8 0)), (1, .int x1), (2, .int x2), (4, .int x4), (5, .int x5)]) C dX8_evens_40 hl (by decide) rfl (fun ls hl => ?_)
    refine f_bipush (v := 21) C dX8_evens_42 (by decide) ?_
    refine f_istore (lv' := [(7, .int 21), (6, .int x5), (0, .ref (gad g 8 0)), (1, .int x1), (2, .int x2), (4, .int x4), (5, .int x5)]) C dX8_evens_44 hl (by decide) rfl (fun ls hl => ?_)
    refine f_bipush (v := 7) C dX8_evens_46 (by decide) ?_
    refine f_istore (lv' := [(8, .int 7), (7, .int 21), (6, .int x5), (0, .ref (gad g 8 0)), (1, .int x1), (2, .int x2), (4, .int x4), (5, .int x5)]) C dX8_evens_48 hl (by decide) rfl (fun ls hl => ?_)
    obtain ⟨n, h⟩ := h
    exact t_X8_evens_50 C hR hC31 n _ _ _ _ _ _ _ _ _ h ls (lv_sub hl [3, 4, 5, 6, 7, 2, 1, 0] rfl)

def L_X8_evens_31 (Q : MI → MJ → Prop) : Nat → MI → MJ → Int32 → Int32 → Int32 → Int32 → Prop
  | 0 => fun _ _ _ _ _ _ => False
  | n + 1 => fun I J x1 x2 x4 x5 => B_X8_evens_31 Q (L_X8_evens_31 Q n) I J x1 x2 x4 x5
theorem t_X8_evens_31 {p : Program} {l : Launch} {e : Env} {R : Room} {s : State} {m : MethodId} {args : Array Value} {below : List Frame} {meth : Method} {c : Code} {g : Geo} (C : Cx g p s m args meth c cX8_evens 11 RX8 none) (hR : 3 ≤ R.frames ∧ 74 ≤ R.locals) {Q : MI → MJ → Prop} : ∀ (n : Nat), ∀ (I : MI) (J : MJ) (x1 : Int32) (x2 : Int32) (x4 : Int32) (x5 : Int32), L_X8_evens_31 Q n I J x1 x2 x4 x5 → ∀ ls : Array Slot, lv_has ls 11 [(0, .ref (gad g 8 0)), (1, .int x1), (2, .int x2), (4, .int x4), (5, .int x5)] → Wf p l e R s m args below meth c (MQ below (Qg g (PV Q)) args s 0 0 (gA g)) g I J (F0 m 31 ls []) := by
  intro n
  induction n with
  | zero => intro I J x1 x2 x4 x5 h; exact h.elim
  | succ n ih => intro I J x1 x2 x4 x5 h ls hl; exact b_X8_evens_31 C hR ih h ls hl
def wp_X8_evens (Q : MI → MJ → Prop) (I : MI) (J : MJ) (x1 : Int32) (x2 : Int32) : Prop :=
  wp_X8_ones (fun r1 I1 J1 => (r1 = 2 → ∃ n : Nat, L_X8_evens_31 Q n I1 (up3L J1 8 0 24 ((-1))) x1 x2 441 0) ∧
  (¬ (r1 = 2) → ∃ n : Nat, L_X8_evens_31 Q n I1 (up3L J1 8 0 24 ((-1))) x1 x2 9261 0)) I J x2
set_option maxRecDepth 20000 in
theorem c_X8_evens {l : Launch} {g : Geo} {Q : MI → MJ → Prop} {I : MI} {J : MJ} {x1 : Int32} {x2 : Int32} (h : wp_X8_evens Q I J x1 x2) : Ct g l yX8_evens cX8_evens 11 none 3 74 [.ref (gad g 8 0), .int x1, .int x2] I J (PV Q) := by
  refine Ct.of (by decide) ?_
  intro p e s m below meth c C
  have hR : 3 ≤ (Rm 3 74).frames ∧ 74 ≤ (Rm 3 74).locals := ⟨Nat.le_refl _, Nat.le_refl _⟩
  generalize Rm 3 74 = R at hR ⊢
  have hl := lv_entry ([.ref (gad g 8 0), .int x1, .int x2]) (n := 11) (Nat.le_of_ble_eq_true rfl)
  rw [lg_entry_eq]
  generalize (lg_sl ([.ref (gad g 8 0), .int x1, .int x2]) ++ List.replicate (11 - (lg_sl ([.ref (gad g 8 0), .int x1, .int x2])).length) Slot.unset).toArray = ls at hl ⊢
  have hl : lv_has ls 11 [(0, .ref (gad g 8 0)), (1, .int x1), (2, .int x2)] := hl
  refine f_iload_n C dX8_evens_0 rfl (lv_at hl 2 rfl) ?_
  refine f_cSi (As := [.int x2]) (rest := []) (n := 1) C (c_X8_ones h) ok_X8_ones sm_X8_ones kw_RX8_129 ⟨Nat.le_trans (by decide) hR.1, Nat.le_trans (by decide) hR.2⟩ rfl hl.1 (Nat.le_of_ble_eq_true rfl) dX8_evens_1 (fun r1 I1 J1 h => ?_)
  refine f_istore_n (lv' := [(3, .int r1), (0, .ref (gad g 8 0)), (1, .int x1), (2, .int x2)]) C dX8_evens_4 rfl hl (by decide) rfl (fun ls hl => ?_)
  refine f_aload_n C dX8_evens_5 rfl (lv_at hl 1 rfl) ?_
  refine f_ldc2 C kc_RX8_158 dX8_evens_6 ?_
  refine pu_RX8_167 C (by decide) dX8_evens_9 ?_
  refine f_iload_n C dX8_evens_12 rfl (lv_at hl 0 rfl) ?_
  refine f_iconst (v := 2) C dX8_evens_13 (by decide) ?_
  refine f_icmp_ne (tgt := 23) C dX8_evens_14 (by decide) (fun c2 => ?_) (fun c2 => ?_)
  · replace h := h.2 c2
    refine f_sipush (v := 9261) C dX8_evens_23 (by decide) ?_
    refine f_istore (lv' := [(4, .int 9261), (3, .int r1), (0, .ref (gad g 8 0)), (1, .int x1), (2, .int x2)]) C dX8_evens_26 hl (by decide) rfl (fun ls hl => ?_)
    refine f_iconst (v := 0) C dX8_evens_28 (by decide) ?_
    refine f_istore (lv' := [(5, .int 0), (4, .int 9261), (3, .int r1), (0, .ref (gad g 8 0)), (1, .int x1), (2, .int x2)]) C dX8_evens_29 hl (by decide) rfl (fun ls hl => ?_)
    obtain ⟨n, h⟩ := h
    exact t_X8_evens_31 C hR n _ _ _ _ _ _ h ls (lv_sub hl [3, 4, 5, 1, 0] rfl)
  · replace h := h.1 c2
    refine f_sipush (v := 441) C dX8_evens_17 (by decide) ?_
    refine f_goto (tgt := 26) C dX8_evens_20 (by decide) ?_
    refine f_istore (lv' := [(4, .int 441), (3, .int r1), (0, .ref (gad g 8 0)), (1, .int x1), (2, .int x2)]) C dX8_evens_26 hl (by decide) rfl (fun ls hl => ?_)
    refine f_iconst (v := 0) C dX8_evens_28 (by decide) ?_
    refine f_istore (lv' := [(5, .int 0), (4, .int 441), (3, .int r1), (0, .ref (gad g 8 0)), (1, .int x1), (2, .int x2)]) C dX8_evens_29 hl (by decide) rfl (fun ls hl => ?_)
    obtain ⟨n, h⟩ := h
    exact t_X8_evens_31 C hR n _ _ _ _ _ _ h ls (lv_sub hl [3, 4, 5, 1, 0] rfl)

def J_X8_even_47 (Q : Int64 → MI → MJ → Prop) (I : MI) (J : MJ) (x1 : Int32) (x2 : Int32) (x3 : Int32) : Prop :=
  wp_X8_ones (fun r6 I6 J6 => (r6 ≤ 3 → wp_X8_evens (fun I8 J8 => (x3 = ((-1)) → Q (J8 8 0 24) I8 J8) ∧
  (¬ (x3 = ((-1))) → vp_in x3 8 ∧ (Q ((I8 38 0 (x3.toNatClampNeg)).toInt64) I8 J8))) I6 J6 x1 x2) ∧
  (¬ (r6 ≤ 3) → Q ((-2)) I6 J6)) I J x2
set_option maxRecDepth 20000 in
theorem t_X8_even_47 {p : Program} {l : Launch} {e : Env} {R : Room} {s : State} {m : MethodId} {args : Array Value} {below : List Frame} {meth : Method} {c : Code} {g : Geo} (C : Cx g p s m args meth c cX8_even 4 RX8 (some .long)) (hR : 4 ≤ R.frames ∧ 104 ≤ R.locals) {Q : Int64 → MI → MJ → Prop} {I : MI} {J : MJ} {x1 : Int32} {x2 : Int32} {x3 : Int32} (h : J_X8_even_47 Q I J x1 x2 x3) (ls : Array Slot) (hl : lv_has ls 4 [(0, .ref (gad g 8 0)), (1, .int x1), (2, .int x2), (3, .int x3)]) : Wf p l e R s m args below meth c (MQ below (Qg g (PL Q)) args s 0 0 (gA g)) g I J (F0 m 47 ls []) := by
  refine f_iload_n C dX8_even_47 rfl (lv_at hl 2 rfl) ?_
  refine f_cSi (As := [.int x2]) (rest := []) (n := 1) C (c_X8_ones h) ok_X8_ones sm_X8_ones kw_RX8_129 ⟨Nat.le_trans (by decide) hR.1, Nat.le_trans (by decide) hR.2⟩ rfl hl.1 (Nat.le_of_ble_eq_true rfl) dX8_even_48 (fun r6 I6 J6 h => ?_)
  refine f_iconst (v := 3) C dX8_even_51 (by decide) ?_
  refine f_icmp_le (tgt := 59) C dX8_even_52 (by decide) (fun c7 => ?_) (fun c7 => ?_)
  · replace h := h.1 c7
    refine f_aload_n C dX8_even_59 rfl (lv_at hl 0 rfl) ?_
    refine f_iload_n C dX8_even_60 rfl (lv_at hl 1 rfl) ?_
    refine f_iload_n C dX8_even_61 rfl (lv_at hl 2 rfl) ?_
    refine f_cVv (As := [.int x1, .int x2]) (rest := []) (n := 2) (T0 := TX8) (N := 25) C (c_X8_evens h) ok_X8_evens im_X8_evens se_X8_evens kw_RX8_173 ⟨Nat.le_trans (by decide) hR.1, Nat.le_trans (by decide) hR.2⟩ (by decide) rfl rfl rfl hl.1 (Nat.le_of_ble_eq_true rfl) dX8_even_62 (fun I8 J8 h => ?_)
    refine f_iload_n C dX8_even_65 rfl (lv_at hl 3 rfl) ?_
    refine f_iconst (v := (-1)) C dX8_even_66 (by decide) ?_
    refine f_icmp_ne (tgt := 77) C dX8_even_67 (by decide) (fun c9 => ?_) (fun c9 => ?_)
    · replace h := h.2 c9
      refine f_aload_n C dX8_even_77 rfl (lv_at hl 0 rfl) ?_
      refine ge_RX8_51 C (by decide) dX8_even_78 ?_
      refine f_iload_n C dX8_even_81 rfl (lv_at hl 3 rfl) ?_
      obtain ⟨hi10, h⟩ := h
      refine al_k (n := 8) (k := x3.toNatClampNeg) C (by decide) rfl rfl hi10 dX8_even_82 ?_
      refine f_i2l (v := (I8 38 0 (x3.toNatClampNeg)).toInt64) C dX8_even_83 rfl ?_
      exact f_lret C h dX8_even_84
    · replace h := h.1 c9
      refine f_aload_n C dX8_even_70 rfl (lv_at hl 0 rfl) ?_
      refine ge_RX8_167 C (by decide) dX8_even_71 ?_
      refine f_goto (tgt := 84) C dX8_even_74 (by decide) ?_
      exact f_lret C h dX8_even_84
  · replace h := h.2 c7
    refine f_ldc2 C kc_RX8_171 dX8_even_55 ?_
    exact f_lret C h dX8_even_58

def wp_X8_even (Q : Int64 → MI → MJ → Prop) (I : MI) (J : MJ) (x1 : Int32) (x2 : Int32) (x3 : Int32) : Prop :=
  wp_X8_in (fun r1 I1 J1 => (r1 = 0 → Q ((-1)) I1 J1) ∧
  (¬ (r1 = 0) → wp_X8_isField (fun r3 I3 J3 => (r3 = 0 → Q ((-1)) I3 J3) ∧
  (¬ (r3 = 0) → (x3 = ((-1)) → J_X8_even_47 Q I3 J3 x1 x2 x3) ∧
  (¬ (x3 = ((-1))) → wp_X8_isRunner (fun r11 I11 J11 => (r11 = 0 → Q ((-1)) I11 J11) ∧
  (¬ (r11 = 0) → wp_X8_has (fun r13 I13 J13 => (r13 = 0 → Q ((-1)) I13 J13) ∧
  (¬ (r13 = 0) → J_X8_even_47 Q I13 J13 x1 x2 x3)) I11 J11 x2 x3)) I3 J3 x3))) I1 J1 x2)) (up3 I 8 0 0 0) J x1 0 2
set_option maxRecDepth 20000 in
theorem c_X8_even {l : Launch} {g : Geo} {Q : Int64 → MI → MJ → Prop} {I : MI} {J : MJ} {x1 : Int32} {x2 : Int32} {x3 : Int32} (h : wp_X8_even Q I J x1 x2 x3) : Ct g l yX8_even cX8_even 4 (some .long) 4 104 [.ref (gad g 8 0), .int x1, .int x2, .int x3] I J (PL Q) := by
  refine Ct.of (by decide) ?_
  intro p e s m below meth c C
  have hR : 4 ≤ (Rm 4 104).frames ∧ 104 ≤ (Rm 4 104).locals := ⟨Nat.le_refl _, Nat.le_refl _⟩
  generalize Rm 4 104 = R at hR ⊢
  have hl := lv_entry ([.ref (gad g 8 0), .int x1, .int x2, .int x3]) (n := 4) (Nat.le_of_ble_eq_true rfl)
  rw [lg_entry_eq]
  generalize (lg_sl ([.ref (gad g 8 0), .int x1, .int x2, .int x3]) ++ List.replicate (4 - (lg_sl ([.ref (gad g 8 0), .int x1, .int x2, .int x3])).length) Slot.unset).toArray = ls at hl ⊢
  have hl : lv_has ls 4 [(0, .ref (gad g 8 0)), (1, .int x1), (2, .int x2), (3, .int x3)] := hl
  refine f_aload_n C dX8_even_0 rfl (lv_at hl 0 rfl) ?_
  refine f_iconst (v := 0) C dX8_even_1 (by decide) ?_
  refine pu_RX8_57 C (by decide) dX8_even_2 ?_
  refine f_iload_n C dX8_even_5 rfl (lv_at hl 1 rfl) ?_
  refine f_iconst (v := 0) C dX8_even_6 (by decide) ?_
  refine f_iconst (v := 2) C dX8_even_7 (by decide) ?_
  refine f_cSi (As := [.int x1, .int 0, .int 2]) (rest := []) (n := 3) C (c_X8_in h) ok_X8_in sm_X8_in kw_RX8_61 ⟨Nat.le_trans (by decide) hR.1, Nat.le_trans (by decide) hR.2⟩ rfl hl.1 (Nat.le_of_ble_eq_true rfl) dX8_even_8 (fun r1 I1 J1 h => ?_)
  refine f_if_eq (tgt := 43) C dX8_even_11 (by decide) (fun c2 => ?_) (fun c2 => ?_)
  · replace h := h.1 c2
    refine f_ldc2 C kc_RX8_158 dX8_even_43 ?_
    exact f_lret C h dX8_even_46
  · replace h := h.2 c2
    refine f_aload_n C dX8_even_14 rfl (lv_at hl 0 rfl) ?_
    refine f_iload_n C dX8_even_15 rfl (lv_at hl 2 rfl) ?_
    refine f_cVi (As := [.int x2]) (rest := []) (n := 1) (T0 := TX8) (N := 25) C (c_X8_isField h) ok_X8_isField im_X8_isField se_X8_isField kw_RX8_136 ⟨Nat.le_trans (by decide) hR.1, Nat.le_trans (by decide) hR.2⟩ (by decide) rfl rfl rfl hl.1 (Nat.le_of_ble_eq_true rfl) dX8_even_16 (fun r3 I3 J3 h => ?_)
    refine f_if_eq (tgt := 43) C dX8_even_19 (by decide) (fun c4 => ?_) (fun c4 => ?_)
    · replace h := h.1 c4
      refine f_ldc2 C kc_RX8_158 dX8_even_43 ?_
      exact f_lret C h dX8_even_46
    · replace h := h.2 c4
      refine f_iload_n C dX8_even_22 rfl (lv_at hl 3 rfl) ?_
      refine f_iconst (v := (-1)) C dX8_even_23 (by decide) ?_
      refine f_icmp_eq (tgt := 47) C dX8_even_24 (by decide) (fun c5 => ?_) (fun c5 => ?_)
      · replace h := h.1 c5
        exact t_X8_even_47 C hR h ls (lv_sub hl [0, 1, 2, 3] rfl)
      · replace h := h.2 c5
        refine f_aload_n C dX8_even_27 rfl (lv_at hl 0 rfl) ?_
        refine f_iload_n C dX8_even_28 rfl (lv_at hl 3 rfl) ?_
        refine f_cVi (As := [.int x3]) (rest := []) (n := 1) (T0 := TX8) (N := 25) C (c_X8_isRunner h) ok_X8_isRunner im_X8_isRunner se_X8_isRunner kw_RX8_65 ⟨Nat.le_trans (by decide) hR.1, Nat.le_trans (by decide) hR.2⟩ (by decide) rfl rfl rfl hl.1 (Nat.le_of_ble_eq_true rfl) dX8_even_29 (fun r11 I11 J11 h => ?_)
        refine f_if_eq (tgt := 43) C dX8_even_32 (by decide) (fun c12 => ?_) (fun c12 => ?_)
        · replace h := h.1 c12
          refine f_ldc2 C kc_RX8_158 dX8_even_43 ?_
          exact f_lret C h dX8_even_46
        · replace h := h.2 c12
          refine f_iload_n C dX8_even_35 rfl (lv_at hl 2 rfl) ?_
          refine f_iload_n C dX8_even_36 rfl (lv_at hl 3 rfl) ?_
          refine f_cSi (As := [.int x2, .int x3]) (rest := []) (n := 2) C (c_X8_has h) ok_X8_has sm_X8_has kw_RX8_132 ⟨Nat.le_trans (by decide) hR.1, Nat.le_trans (by decide) hR.2⟩ rfl hl.1 (Nat.le_of_ble_eq_true rfl) dX8_even_37 (fun r13 I13 J13 h => ?_)
          refine f_if_ne (tgt := 47) C dX8_even_40 (by decide) (fun c14 => ?_) (fun c14 => ?_)
          · replace h := h.2 c14
            exact t_X8_even_47 C hR h ls (lv_sub hl [0, 1, 2, 3] rfl)
          · replace h := h.1 c14
            refine f_ldc2 C kc_RX8_158 dX8_even_43 ?_
            exact f_lret C h dX8_even_46

def B_X8_good_265 (Q : Int32 → MI → MJ → Prop) (C102 : MI → MJ → Int32 → Int32 → Int32 → Int32 → Int32 → Int32 → Int32 → Prop) (C265 : MI → MJ → Int32 → Int32 → Int32 → Int32 → Int32 → Int32 → Int32 → Int32 → Int32 → Prop) (I : MI) (J : MJ) (x1 : Int32) (x2 : Int32) (x3 : Int32) (x4 : Int32) (x5 : Int32) (x6 : Int32) (x7 : Int32) (x9 : Int32) (x10 : Int32) : Prop :=
  (x1 ≤ x10 → C102 I J x1 x2 x3 x4 x5 x6 x7) ∧
  (¬ (x1 ≤ x10) → (x7 = 0 → C102 I J x1 x2 x3 x4 x5 x6 x7) ∧
  (¬ (x7 = 0) → vp_in x10 12 ∧ (C265 (up3 I 35 0 (x10.toNatClampNeg) x9) J x1 x2 x3 x4 x5 x6 x7 x9 (x10 + 1))))
set_option maxRecDepth 20000 in
theorem b_X8_good_265 {p : Program} {l : Launch} {e : Env} {R : Room} {s : State} {m : MethodId} {args : Array Value} {below : List Frame} {meth : Method} {c : Code} {g : Geo} (C : Cx g p s m args meth c cX8_good 11 RX8 (some .int)) (hR : 1 ≤ R.frames ∧ 22 ≤ R.locals) {Q : Int32 → MI → MJ → Prop} {C102 : MI → MJ → Int32 → Int32 → Int32 → Int32 → Int32 → Int32 → Int32 → Prop} (hC102 : ∀ (I : MI) (J : MJ) (x1 : Int32) (x2 : Int32) (x3 : Int32) (x4 : Int32) (x5 : Int32) (x6 : Int32) (x7 : Int32), C102 I J x1 x2 x3 x4 x5 x6 x7 → ∀ ls : Array Slot, lv_has ls 11 [(0, .ref (gad g 8 0)), (1, .int x1), (2, .int x2), (3, .int x3), (4, .int x4), (5, .int x5), (6, .int x6), (7, .int x7)] → Wf p l e R s m args below meth c (MQ below (Qg g (PI Q)) args s 0 0 (gA g)) g I J (F0 m 102 ls [])) {C265 : MI → MJ → Int32 → Int32 → Int32 → Int32 → Int32 → Int32 → Int32 → Int32 → Int32 → Prop} (hC265 : ∀ (I : MI) (J : MJ) (x1 : Int32) (x2 : Int32) (x3 : Int32) (x4 : Int32) (x5 : Int32) (x6 : Int32) (x7 : Int32) (x9 : Int32) (x10 : Int32), C265 I J x1 x2 x3 x4 x5 x6 x7 x9 x10 → ∀ ls : Array Slot, lv_has ls 11 [(0, .ref (gad g 8 0)), (1, .int x1), (2, .int x2), (3, .int x3), (4, .int x4), (5, .int x5), (6, .int x6), (7, .int x7), (9, .int x9), (10, .int x10)] → Wf p l e R s m args below meth c (MQ below (Qg g (PI Q)) args s 0 0 (gA g)) g I J (F0 m 265 ls [])) {I : MI} {J : MJ} {x1 : Int32} {x2 : Int32} {x3 : Int32} {x4 : Int32} {x5 : Int32} {x6 : Int32} {x7 : Int32} {x9 : Int32} {x10 : Int32} (h : B_X8_good_265 Q C102 C265 I J x1 x2 x3 x4 x5 x6 x7 x9 x10) (ls : Array Slot) (hl : lv_has ls 11 [(0, .ref (gad g 8 0)), (1, .int x1), (2, .int x2), (3, .int x3), (4, .int x4), (5, .int x5), (6, .int x6), (7, .int x7), (9, .int x9), (10, .int x10)]) : Wf p l e R s m args below meth c (MQ below (Qg g (PI Q)) args s 0 0 (gA g)) g I J (F0 m 265 ls []) := by
  refine f_iload C dX8_good_265 (lv_at hl 9 rfl) ?_
  refine f_iload_n C dX8_good_267 rfl (lv_at hl 1 rfl) ?_
  refine f_icmp_ge (tgt := 291) C dX8_good_268 (by decide) (fun c17 => ?_) (fun c17 => ?_)
  · replace h := h.1 c17
    refine f_goto (tgt := 102) C dX8_good_291 (by decide) ?_
    exact hC102 _ _ _ _ _ _ _ _ _ h ls (lv_sub hl [0, 1, 2, 3, 4, 5, 6, 7] rfl)
  · replace h := h.2 c17
    refine f_iload C dX8_good_271 (lv_at hl 7 rfl) ?_
    refine f_if_eq (tgt := 291) C dX8_good_273 (by decide) (fun c18 => ?_) (fun c18 => ?_)
    · replace h := h.1 c18
      refine f_goto (tgt := 102) C dX8_good_291 (by decide) ?_
      exact hC102 _ _ _ _ _ _ _ _ _ h ls (lv_sub hl [0, 1, 2, 3, 4, 5, 6, 7] rfl)
    · replace h := h.2 c18
      refine f_aload_n C dX8_good_276 rfl (lv_at hl 0 rfl) ?_
      refine ge_RX8_41 C (by decide) dX8_good_277 ?_
      refine f_iload C dX8_good_280 (lv_at hl 9 rfl) ?_
      refine f_iload C dX8_good_282 (lv_at hl 8 rfl) ?_
      obtain ⟨hi19, h⟩ := h
      refine as_k (n := 12) (k := x10.toNatClampNeg) C (by decide) (fun _ => rfl) rfl hi19 dX8_good_284 ?_
      refine f_iinc (v := x10 + 1) (lv' := [(10, .int (x10 + 1)), (0, .ref (gad g 8 0)), (1, .int x1), (2, .int x2), (3, .int x3), (4, .int x4), (5, .int x5), (6, .int x6), (7, .int x7), (9, .int x9)]) C dX8_good_285 hl (k := 9) rfl rfl (by decide) rfl (fun ls hl => ?_)
      refine f_goto (tgt := 265) C dX8_good_288 (by decide) ?_
      exact hC265 _ _ _ _ _ _ _ _ _ _ _ h ls (lv_sub hl [1, 2, 3, 4, 5, 6, 7, 8, 9, 0] rfl)

def L_X8_good_265 (Q : Int32 → MI → MJ → Prop) (C102 : MI → MJ → Int32 → Int32 → Int32 → Int32 → Int32 → Int32 → Int32 → Prop) : Nat → MI → MJ → Int32 → Int32 → Int32 → Int32 → Int32 → Int32 → Int32 → Int32 → Int32 → Prop
  | 0 => fun _ _ _ _ _ _ _ _ _ _ _ => False
  | n + 1 => fun I J x1 x2 x3 x4 x5 x6 x7 x9 x10 => B_X8_good_265 Q C102 (L_X8_good_265 Q C102 n) I J x1 x2 x3 x4 x5 x6 x7 x9 x10
theorem t_X8_good_265 {p : Program} {l : Launch} {e : Env} {R : Room} {s : State} {m : MethodId} {args : Array Value} {below : List Frame} {meth : Method} {c : Code} {g : Geo} (C : Cx g p s m args meth c cX8_good 11 RX8 (some .int)) (hR : 1 ≤ R.frames ∧ 22 ≤ R.locals) {Q : Int32 → MI → MJ → Prop} {C102 : MI → MJ → Int32 → Int32 → Int32 → Int32 → Int32 → Int32 → Int32 → Prop} (hC102 : ∀ (I : MI) (J : MJ) (x1 : Int32) (x2 : Int32) (x3 : Int32) (x4 : Int32) (x5 : Int32) (x6 : Int32) (x7 : Int32), C102 I J x1 x2 x3 x4 x5 x6 x7 → ∀ ls : Array Slot, lv_has ls 11 [(0, .ref (gad g 8 0)), (1, .int x1), (2, .int x2), (3, .int x3), (4, .int x4), (5, .int x5), (6, .int x6), (7, .int x7)] → Wf p l e R s m args below meth c (MQ below (Qg g (PI Q)) args s 0 0 (gA g)) g I J (F0 m 102 ls [])) : ∀ (n : Nat), ∀ (I : MI) (J : MJ) (x1 : Int32) (x2 : Int32) (x3 : Int32) (x4 : Int32) (x5 : Int32) (x6 : Int32) (x7 : Int32) (x9 : Int32) (x10 : Int32), L_X8_good_265 Q C102 n I J x1 x2 x3 x4 x5 x6 x7 x9 x10 → ∀ ls : Array Slot, lv_has ls 11 [(0, .ref (gad g 8 0)), (1, .int x1), (2, .int x2), (3, .int x3), (4, .int x4), (5, .int x5), (6, .int x6), (7, .int x7), (9, .int x9), (10, .int x10)] → Wf p l e R s m args below meth c (MQ below (Qg g (PI Q)) args s 0 0 (gA g)) g I J (F0 m 265 ls []) := by
  intro n
  induction n with
  | zero => intro I J x1 x2 x3 x4 x5 x6 x7 x9 x10 h; exact h.elim
  | succ n ih => intro I J x1 x2 x3 x4 x5 x6 x7 x9 x10 h ls hl; exact b_X8_good_265 C hR hC102 ih h ls hl
def J_X8_good_239 (Q : Int32 → MI → MJ → Prop) (C102 : MI → MJ → Int32 → Int32 → Int32 → Int32 → Int32 → Int32 → Int32 → Prop) (I : MI) (J : MJ) (x1 : Int32) (x2 : Int32) (x3 : Int32) (x4 : Int32) (x5 : Int32) (x6 : Int32) (x8 : Int32) (s0 : Int32) : Prop :=
  (s0 = 0 → ∃ n : Nat, L_X8_good_265 Q C102 n I J x1 x2 x3 x4 x5 x6 s0 0 x8) ∧
  (¬ (s0 = 0) → vp_in x8 12 ∧ (∀ v21 : Int32, v21 = (I 35 0 (x8.toNatClampNeg)) + 1 → (∃ n : Nat, L_X8_good_265 Q C102 n I J x1 x2 x3 x4 x5 x6 s0 v21 x8)))
set_option maxRecDepth 20000 in
theorem t_X8_good_239 {p : Program} {l : Launch} {e : Env} {R : Room} {s : State} {m : MethodId} {args : Array Value} {below : List Frame} {meth : Method} {c : Code} {g : Geo} (C : Cx g p s m args meth c cX8_good 11 RX8 (some .int)) (hR : 1 ≤ R.frames ∧ 22 ≤ R.locals) {Q : Int32 → MI → MJ → Prop} {C102 : MI → MJ → Int32 → Int32 → Int32 → Int32 → Int32 → Int32 → Int32 → Prop} (hC102 : ∀ (I : MI) (J : MJ) (x1 : Int32) (x2 : Int32) (x3 : Int32) (x4 : Int32) (x5 : Int32) (x6 : Int32) (x7 : Int32), C102 I J x1 x2 x3 x4 x5 x6 x7 → ∀ ls : Array Slot, lv_has ls 11 [(0, .ref (gad g 8 0)), (1, .int x1), (2, .int x2), (3, .int x3), (4, .int x4), (5, .int x5), (6, .int x6), (7, .int x7)] → Wf p l e R s m args below meth c (MQ below (Qg g (PI Q)) args s 0 0 (gA g)) g I J (F0 m 102 ls [])) {I : MI} {J : MJ} {x1 : Int32} {x2 : Int32} {x3 : Int32} {x4 : Int32} {x5 : Int32} {x6 : Int32} {x8 : Int32} {s0 : Int32} (h : J_X8_good_239 Q C102 I J x1 x2 x3 x4 x5 x6 x8 s0) (ls : Array Slot) (hl : lv_has ls 11 [(0, .ref (gad g 8 0)), (1, .int x1), (2, .int x2), (3, .int x3), (4, .int x4), (5, .int x5), (6, .int x6), (8, .int x8)]) : Wf p l e R s m args below meth c (MQ below (Qg g (PI Q)) args s 0 0 (gA g)) g I J (F0 m 239 ls [.int s0]) := by
  refine f_istore (lv' := [(7, .int s0), (0, .ref (gad g 8 0)), (1, .int x1), (2, .int x2), (3, .int x3), (4, .int x4), (5, .int x5), (6, .int x6), (8, .int x8)]) C dX8_good_239 hl (by decide) rfl (fun ls hl => ?_)
  refine f_iload C dX8_good_241 (lv_at hl 0 rfl) ?_
  refine f_if_eq (tgt := 258) C dX8_good_243 (by decide) (fun c16 => ?_) (fun c16 => ?_)
  · replace h := h.1 c16
    refine f_iconst (v := 0) C dX8_good_258 (by decide) ?_
    refine f_istore (lv' := [(9, .int 0), (7, .int s0), (0, .ref (gad g 8 0)), (1, .int x1), (2, .int x2), (3, .int x3), (4, .int x4), (5, .int x5), (6, .int x6), (8, .int x8)]) C dX8_good_259 hl (by decide) rfl (fun ls hl => ?_)
    refine f_iload C dX8_good_261 (lv_at hl 9 rfl) ?_
    refine f_istore (lv' := [(10, .int x8), (9, .int 0), (7, .int s0), (0, .ref (gad g 8 0)), (1, .int x1), (2, .int x2), (3, .int x3), (4, .int x4), (5, .int x5), (6, .int x6), (8, .int x8)]) C dX8_good_263 hl (by decide) rfl (fun ls hl => ?_)
    obtain ⟨n, h⟩ := h
    exact t_X8_good_265 C hR hC102 n _ _ _ _ _ _ _ _ _ _ _ h ls (lv_sub hl [3, 4, 5, 6, 7, 8, 9, 2, 1, 0] rfl)
  · replace h := h.2 c16
    refine f_aload_n C dX8_good_246 rfl (lv_at hl 1 rfl) ?_
    refine ge_RX8_41 C (by decide) dX8_good_247 ?_
    refine f_iload C dX8_good_250 (lv_at hl 8 rfl) ?_
    obtain ⟨hi20, h⟩ := h
    refine al_k (n := 12) (k := x8.toNatClampNeg) C (by decide) rfl rfl hi20 dX8_good_252 ?_
    refine f_iconst (v := 1) C dX8_good_253 (by decide) ?_
    refine f_iadd C dX8_good_254 ?_
    refine f_goto (tgt := 259) C dX8_good_255 (by decide) ?_
    generalize hv21 : (I 35 0 (x8.toNatClampNeg)) + 1 = v21
    replace h := h v21 hv21.symm
    refine f_istore (lv' := [(9, .int v21), (7, .int s0), (0, .ref (gad g 8 0)), (1, .int x1), (2, .int x2), (3, .int x3), (4, .int x4), (5, .int x5), (6, .int x6), (8, .int x8)]) C dX8_good_259 hl (by decide) rfl (fun ls hl => ?_)
    refine f_iload C dX8_good_261 (lv_at hl 9 rfl) ?_
    refine f_istore (lv' := [(10, .int x8), (9, .int v21), (7, .int s0), (0, .ref (gad g 8 0)), (1, .int x1), (2, .int x2), (3, .int x3), (4, .int x4), (5, .int x5), (6, .int x6), (8, .int x8)]) C dX8_good_263 hl (by decide) rfl (fun ls hl => ?_)
    obtain ⟨n, h⟩ := h
    exact t_X8_good_265 C hR hC102 n _ _ _ _ _ _ _ _ _ _ _ h ls (lv_sub hl [3, 4, 5, 6, 7, 8, 9, 2, 1, 0] rfl)

def J_X8_good_229 (Q : Int32 → MI → MJ → Prop) (C102 : MI → MJ → Int32 → Int32 → Int32 → Int32 → Int32 → Int32 → Int32 → Prop) (I : MI) (J : MJ) (x1 : Int32) (x2 : Int32) (x3 : Int32) (x4 : Int32) (x5 : Int32) (x6 : Int32) (x8 : Int32) : Prop :=
  (x8 < 0 → J_X8_good_239 Q C102 I J x1 x2 x3 x4 x5 x6 x8 0) ∧
  (¬ (x8 < 0) → J_X8_good_239 Q C102 I J x1 x2 x3 x4 x5 x6 x8 1)
set_option maxRecDepth 20000 in
theorem t_X8_good_229 {p : Program} {l : Launch} {e : Env} {R : Room} {s : State} {m : MethodId} {args : Array Value} {below : List Frame} {meth : Method} {c : Code} {g : Geo} (C : Cx g p s m args meth c cX8_good 11 RX8 (some .int)) (hR : 1 ≤ R.frames ∧ 22 ≤ R.locals) {Q : Int32 → MI → MJ → Prop} {C102 : MI → MJ → Int32 → Int32 → Int32 → Int32 → Int32 → Int32 → Int32 → Prop} (hC102 : ∀ (I : MI) (J : MJ) (x1 : Int32) (x2 : Int32) (x3 : Int32) (x4 : Int32) (x5 : Int32) (x6 : Int32) (x7 : Int32), C102 I J x1 x2 x3 x4 x5 x6 x7 → ∀ ls : Array Slot, lv_has ls 11 [(0, .ref (gad g 8 0)), (1, .int x1), (2, .int x2), (3, .int x3), (4, .int x4), (5, .int x5), (6, .int x6), (7, .int x7)] → Wf p l e R s m args below meth c (MQ below (Qg g (PI Q)) args s 0 0 (gA g)) g I J (F0 m 102 ls [])) {I : MI} {J : MJ} {x1 : Int32} {x2 : Int32} {x3 : Int32} {x4 : Int32} {x5 : Int32} {x6 : Int32} {x8 : Int32} (h : J_X8_good_229 Q C102 I J x1 x2 x3 x4 x5 x6 x8) (ls : Array Slot) (hl : lv_has ls 11 [(0, .ref (gad g 8 0)), (1, .int x1), (2, .int x2), (3, .int x3), (4, .int x4), (5, .int x5), (6, .int x6), (8, .int x8)]) : Wf p l e R s m args below meth c (MQ below (Qg g (PI Q)) args s 0 0 (gA g)) g I J (F0 m 229 ls []) := by
  refine f_iload C dX8_good_229 (lv_at hl 7 rfl) ?_
  refine f_if_lt (tgt := 238) C dX8_good_231 (by decide) (fun c15 => ?_) (fun c15 => ?_)
  · replace h := h.1 c15
    refine f_iconst (v := 0) C dX8_good_238 (by decide) ?_
    exact t_X8_good_239 C hR hC102 h ls (lv_sub hl [0, 1, 2, 3, 4, 5, 6, 7] rfl)
  · replace h := h.2 c15
    refine f_iconst (v := 1) C dX8_good_234 (by decide) ?_
    refine f_goto (tgt := 239) C dX8_good_235 (by decide) ?_
    exact t_X8_good_239 C hR hC102 h ls (lv_sub hl [0, 1, 2, 3, 4, 5, 6, 7] rfl)

def B_X8_good_204 (Q : Int32 → MI → MJ → Prop) (C102 : MI → MJ → Int32 → Int32 → Int32 → Int32 → Int32 → Int32 → Int32 → Prop) (C204 : MI → MJ → Int32 → Int32 → Int32 → Int32 → Int32 → Int32 → Int32 → Prop) (I : MI) (J : MJ) (x1 : Int32) (x2 : Int32) (x3 : Int32) (x4 : Int32) (x5 : Int32) (x6 : Int32) (x8 : Int32) : Prop :=
  (x8 < 0 → J_X8_good_229 Q C102 I J x1 x2 x3 x4 x5 x6 x8) ∧
  (¬ (x8 < 0) → vp_in x8 12 ∧ (((I 35 0 (x8.toNatClampNeg)) = (x4 - 1) → C204 I J x1 x2 x3 x4 x5 x6 (x8 + (-1))) ∧
  (¬ ((I 35 0 (x8.toNatClampNeg)) = (x4 - 1)) → J_X8_good_229 Q C102 I J x1 x2 x3 x4 x5 x6 x8)))
set_option maxRecDepth 20000 in
theorem b_X8_good_204 {p : Program} {l : Launch} {e : Env} {R : Room} {s : State} {m : MethodId} {args : Array Value} {below : List Frame} {meth : Method} {c : Code} {g : Geo} (C : Cx g p s m args meth c cX8_good 11 RX8 (some .int)) (hR : 1 ≤ R.frames ∧ 22 ≤ R.locals) {Q : Int32 → MI → MJ → Prop} {C102 : MI → MJ → Int32 → Int32 → Int32 → Int32 → Int32 → Int32 → Int32 → Prop} (hC102 : ∀ (I : MI) (J : MJ) (x1 : Int32) (x2 : Int32) (x3 : Int32) (x4 : Int32) (x5 : Int32) (x6 : Int32) (x7 : Int32), C102 I J x1 x2 x3 x4 x5 x6 x7 → ∀ ls : Array Slot, lv_has ls 11 [(0, .ref (gad g 8 0)), (1, .int x1), (2, .int x2), (3, .int x3), (4, .int x4), (5, .int x5), (6, .int x6), (7, .int x7)] → Wf p l e R s m args below meth c (MQ below (Qg g (PI Q)) args s 0 0 (gA g)) g I J (F0 m 102 ls [])) {C204 : MI → MJ → Int32 → Int32 → Int32 → Int32 → Int32 → Int32 → Int32 → Prop} (hC204 : ∀ (I : MI) (J : MJ) (x1 : Int32) (x2 : Int32) (x3 : Int32) (x4 : Int32) (x5 : Int32) (x6 : Int32) (x8 : Int32), C204 I J x1 x2 x3 x4 x5 x6 x8 → ∀ ls : Array Slot, lv_has ls 11 [(0, .ref (gad g 8 0)), (1, .int x1), (2, .int x2), (3, .int x3), (4, .int x4), (5, .int x5), (6, .int x6), (8, .int x8)] → Wf p l e R s m args below meth c (MQ below (Qg g (PI Q)) args s 0 0 (gA g)) g I J (F0 m 204 ls [])) {I : MI} {J : MJ} {x1 : Int32} {x2 : Int32} {x3 : Int32} {x4 : Int32} {x5 : Int32} {x6 : Int32} {x8 : Int32} (h : B_X8_good_204 Q C102 C204 I J x1 x2 x3 x4 x5 x6 x8) (ls : Array Slot) (hl : lv_has ls 11 [(0, .ref (gad g 8 0)), (1, .int x1), (2, .int x2), (3, .int x3), (4, .int x4), (5, .int x5), (6, .int x6), (8, .int x8)]) : Wf p l e R s m args below meth c (MQ below (Qg g (PI Q)) args s 0 0 (gA g)) g I J (F0 m 204 ls []) := by
  refine f_iload C dX8_good_204 (lv_at hl 7 rfl) ?_
  refine f_if_lt (tgt := 229) C dX8_good_206 (by decide) (fun c14 => ?_) (fun c14 => ?_)
  · replace h := h.1 c14
    exact t_X8_good_229 C hR hC102 h ls (lv_sub hl [0, 1, 2, 3, 4, 5, 6, 7] rfl)
  · replace h := h.2 c14
    refine f_aload_n C dX8_good_209 rfl (lv_at hl 0 rfl) ?_
    refine ge_RX8_41 C (by decide) dX8_good_210 ?_
    refine f_iload C dX8_good_213 (lv_at hl 7 rfl) ?_
    obtain ⟨hi22, h⟩ := h
    refine al_k (n := 12) (k := x8.toNatClampNeg) C (by decide) rfl rfl hi22 dX8_good_215 ?_
    refine f_iload C dX8_good_216 (lv_at hl 4 rfl) ?_
    refine f_iconst (v := 1) C dX8_good_218 (by decide) ?_
    refine f_isub C dX8_good_219 ?_
    refine f_icmp_ne (tgt := 229) C dX8_good_220 (by decide) (fun c23 => ?_) (fun c23 => ?_)
    · replace h := h.2 c23
      exact t_X8_good_229 C hR hC102 h ls (lv_sub hl [0, 1, 2, 3, 4, 5, 6, 7] rfl)
    · replace h := h.1 c23
      refine f_iinc (v := x8 + (-1)) (lv' := [(8, .int (x8 + (-1))), (0, .ref (gad g 8 0)), (1, .int x1), (2, .int x2), (3, .int x3), (4, .int x4), (5, .int x5), (6, .int x6)]) C dX8_good_223 hl (k := 7) rfl rfl (by decide) rfl (fun ls hl => ?_)
      refine f_goto (tgt := 204) C dX8_good_226 (by decide) ?_
      exact hC204 _ _ _ _ _ _ _ _ _ h ls (lv_sub hl [1, 2, 3, 4, 5, 6, 7, 0] rfl)

def L_X8_good_204 (Q : Int32 → MI → MJ → Prop) (C102 : MI → MJ → Int32 → Int32 → Int32 → Int32 → Int32 → Int32 → Int32 → Prop) : Nat → MI → MJ → Int32 → Int32 → Int32 → Int32 → Int32 → Int32 → Int32 → Prop
  | 0 => fun _ _ _ _ _ _ _ _ _ => False
  | n + 1 => fun I J x1 x2 x3 x4 x5 x6 x8 => B_X8_good_204 Q C102 (L_X8_good_204 Q C102 n) I J x1 x2 x3 x4 x5 x6 x8
theorem t_X8_good_204 {p : Program} {l : Launch} {e : Env} {R : Room} {s : State} {m : MethodId} {args : Array Value} {below : List Frame} {meth : Method} {c : Code} {g : Geo} (C : Cx g p s m args meth c cX8_good 11 RX8 (some .int)) (hR : 1 ≤ R.frames ∧ 22 ≤ R.locals) {Q : Int32 → MI → MJ → Prop} {C102 : MI → MJ → Int32 → Int32 → Int32 → Int32 → Int32 → Int32 → Int32 → Prop} (hC102 : ∀ (I : MI) (J : MJ) (x1 : Int32) (x2 : Int32) (x3 : Int32) (x4 : Int32) (x5 : Int32) (x6 : Int32) (x7 : Int32), C102 I J x1 x2 x3 x4 x5 x6 x7 → ∀ ls : Array Slot, lv_has ls 11 [(0, .ref (gad g 8 0)), (1, .int x1), (2, .int x2), (3, .int x3), (4, .int x4), (5, .int x5), (6, .int x6), (7, .int x7)] → Wf p l e R s m args below meth c (MQ below (Qg g (PI Q)) args s 0 0 (gA g)) g I J (F0 m 102 ls [])) : ∀ (n : Nat), ∀ (I : MI) (J : MJ) (x1 : Int32) (x2 : Int32) (x3 : Int32) (x4 : Int32) (x5 : Int32) (x6 : Int32) (x8 : Int32), L_X8_good_204 Q C102 n I J x1 x2 x3 x4 x5 x6 x8 → ∀ ls : Array Slot, lv_has ls 11 [(0, .ref (gad g 8 0)), (1, .int x1), (2, .int x2), (3, .int x3), (4, .int x4), (5, .int x5), (6, .int x6), (8, .int x8)] → Wf p l e R s m args below meth c (MQ below (Qg g (PI Q)) args s 0 0 (gA g)) g I J (F0 m 204 ls []) := by
  intro n
  induction n with
  | zero => intro I J x1 x2 x3 x4 x5 x6 x8 h; exact h.elim
  | succ n ih => intro I J x1 x2 x3 x4 x5 x6 x8 h ls hl; exact b_X8_good_204 C hR hC102 ih h ls hl
def J_X8_good_172 (Q : Int32 → MI → MJ → Prop) (C102 : MI → MJ → Int32 → Int32 → Int32 → Int32 → Int32 → Int32 → Int32 → Prop) (C139 : MI → MJ → Int32 → Int32 → Int32 → Int32 → Int32 → Int32 → Int32 → Int32 → Int32 → Prop) (I : MI) (J : MJ) (x1 : Int32) (x2 : Int32) (x3 : Int32) (x4 : Int32) (x5 : Int32) (x6 : Int32) (x8 : Int32) (x10 : Int32) (s0 : Int32) : Prop :=
  ¬ s0 = 0 ∧ (C139 I J x1 x2 x3 x4 x5 x6 ((x8 * (x10 + 1)) / s0) s0 (x10 + 1))
set_option maxRecDepth 20000 in
theorem t_X8_good_172 {p : Program} {l : Launch} {e : Env} {R : Room} {s : State} {m : MethodId} {args : Array Value} {below : List Frame} {meth : Method} {c : Code} {g : Geo} (C : Cx g p s m args meth c cX8_good 11 RX8 (some .int)) (hR : 1 ≤ R.frames ∧ 22 ≤ R.locals) {Q : Int32 → MI → MJ → Prop} {C102 : MI → MJ → Int32 → Int32 → Int32 → Int32 → Int32 → Int32 → Int32 → Prop} {C139 : MI → MJ → Int32 → Int32 → Int32 → Int32 → Int32 → Int32 → Int32 → Int32 → Int32 → Prop} (hC102 : ∀ (I : MI) (J : MJ) (x1 : Int32) (x2 : Int32) (x3 : Int32) (x4 : Int32) (x5 : Int32) (x6 : Int32) (x7 : Int32), C102 I J x1 x2 x3 x4 x5 x6 x7 → ∀ ls : Array Slot, lv_has ls 11 [(0, .ref (gad g 8 0)), (1, .int x1), (2, .int x2), (3, .int x3), (4, .int x4), (5, .int x5), (6, .int x6), (7, .int x7)] → Wf p l e R s m args below meth c (MQ below (Qg g (PI Q)) args s 0 0 (gA g)) g I J (F0 m 102 ls [])) (hC139 : ∀ (I : MI) (J : MJ) (x1 : Int32) (x2 : Int32) (x3 : Int32) (x4 : Int32) (x5 : Int32) (x6 : Int32) (x8 : Int32) (x9 : Int32) (x10 : Int32), C139 I J x1 x2 x3 x4 x5 x6 x8 x9 x10 → ∀ ls : Array Slot, lv_has ls 11 [(0, .ref (gad g 8 0)), (1, .int x1), (2, .int x2), (3, .int x3), (4, .int x4), (5, .int x5), (6, .int x6), (8, .int x8), (9, .int x9), (10, .int x10)] → Wf p l e R s m args below meth c (MQ below (Qg g (PI Q)) args s 0 0 (gA g)) g I J (F0 m 139 ls [])) {I : MI} {J : MJ} {x1 : Int32} {x2 : Int32} {x3 : Int32} {x4 : Int32} {x5 : Int32} {x6 : Int32} {x8 : Int32} {x10 : Int32} {s0 : Int32} (h : J_X8_good_172 Q C102 C139 I J x1 x2 x3 x4 x5 x6 x8 x10 s0) (ls : Array Slot) (hl : lv_has ls 11 [(0, .ref (gad g 8 0)), (1, .int x1), (2, .int x2), (3, .int x3), (4, .int x4), (5, .int x5), (6, .int x6), (8, .int x8), (10, .int x10)]) : Wf p l e R s m args below meth c (MQ below (Qg g (PI Q)) args s 0 0 (gA g)) g I J (F0 m 172 ls [.int s0]) := by
  refine f_istore (lv' := [(9, .int s0), (0, .ref (gad g 8 0)), (1, .int x1), (2, .int x2), (3, .int x3), (4, .int x4), (5, .int x5), (6, .int x6), (8, .int x8), (10, .int x10)]) C dX8_good_172 hl (by decide) rfl (fun ls hl => ?_)
  refine f_iload C dX8_good_174 (lv_at hl 8 rfl) ?_
  refine f_iload C dX8_good_176 (lv_at hl 9 rfl) ?_
  refine f_iconst (v := 1) C dX8_good_178 (by decide) ?_
  refine f_iadd C dX8_good_179 ?_
  refine f_imul C dX8_good_180 ?_
  refine f_iload C dX8_good_181 (lv_at hl 0 rfl) ?_
  obtain ⟨hz28, h⟩ := h
  refine f_idiv C dX8_good_183 hz28 ?_
  refine f_istore (lv' := [(8, .int ((x8 * (x10 + 1)) / s0)), (9, .int s0), (0, .ref (gad g 8 0)), (1, .int x1), (2, .int x2), (3, .int x3), (4, .int x4), (5, .int x5), (6, .int x6), (10, .int x10)]) C dX8_good_184 hl (by decide) rfl (fun ls hl => ?_)
  refine f_iinc (v := x10 + 1) (lv' := [(10, .int (x10 + 1)), (8, .int ((x8 * (x10 + 1)) / s0)), (9, .int s0), (0, .ref (gad g 8 0)), (1, .int x1), (2, .int x2), (3, .int x3), (4, .int x4), (5, .int x5), (6, .int x6)]) C dX8_good_186 hl (k := 9) rfl rfl (by decide) rfl (fun ls hl => ?_)
  refine f_goto (tgt := 139) C dX8_good_189 (by decide) ?_
  exact hC139 _ _ _ _ _ _ _ _ _ _ _ h ls (lv_sub hl [3, 4, 5, 6, 7, 8, 9, 1, 2, 0] rfl)

def B_X8_good_139 (Q : Int32 → MI → MJ → Prop) (C102 : MI → MJ → Int32 → Int32 → Int32 → Int32 → Int32 → Int32 → Int32 → Prop) (C139 : MI → MJ → Int32 → Int32 → Int32 → Int32 → Int32 → Int32 → Int32 → Int32 → Int32 → Prop) (I : MI) (J : MJ) (x1 : Int32) (x2 : Int32) (x3 : Int32) (x4 : Int32) (x5 : Int32) (x6 : Int32) (x8 : Int32) (x9 : Int32) (x10 : Int32) : Prop :=
  (x1 ≤ x10 → ∃ n : Nat, L_X8_good_204 Q C102 n I J x1 x2 x3 x4 x5 (x6 + x8) (x1 - 1)) ∧
  (¬ (x1 ≤ x10) → vp_in x10 12 ∧ (vp_in (x10 - 1) 12 ∧ (((I 35 0 (x10.toNatClampNeg)) = (I 35 0 ((x10 - 1).toNatClampNeg)) → J_X8_good_172 Q C102 C139 I J x1 x2 x3 x4 x5 x6 x8 x10 (x9 + 1)) ∧
  (¬ ((I 35 0 (x10.toNatClampNeg)) = (I 35 0 ((x10 - 1).toNatClampNeg))) → J_X8_good_172 Q C102 C139 I J x1 x2 x3 x4 x5 x6 x8 x10 1))))
set_option maxRecDepth 20000 in
theorem b_X8_good_139 {p : Program} {l : Launch} {e : Env} {R : Room} {s : State} {m : MethodId} {args : Array Value} {below : List Frame} {meth : Method} {c : Code} {g : Geo} (C : Cx g p s m args meth c cX8_good 11 RX8 (some .int)) (hR : 1 ≤ R.frames ∧ 22 ≤ R.locals) {Q : Int32 → MI → MJ → Prop} {C102 : MI → MJ → Int32 → Int32 → Int32 → Int32 → Int32 → Int32 → Int32 → Prop} (hC102 : ∀ (I : MI) (J : MJ) (x1 : Int32) (x2 : Int32) (x3 : Int32) (x4 : Int32) (x5 : Int32) (x6 : Int32) (x7 : Int32), C102 I J x1 x2 x3 x4 x5 x6 x7 → ∀ ls : Array Slot, lv_has ls 11 [(0, .ref (gad g 8 0)), (1, .int x1), (2, .int x2), (3, .int x3), (4, .int x4), (5, .int x5), (6, .int x6), (7, .int x7)] → Wf p l e R s m args below meth c (MQ below (Qg g (PI Q)) args s 0 0 (gA g)) g I J (F0 m 102 ls [])) {C139 : MI → MJ → Int32 → Int32 → Int32 → Int32 → Int32 → Int32 → Int32 → Int32 → Int32 → Prop} (hC139 : ∀ (I : MI) (J : MJ) (x1 : Int32) (x2 : Int32) (x3 : Int32) (x4 : Int32) (x5 : Int32) (x6 : Int32) (x8 : Int32) (x9 : Int32) (x10 : Int32), C139 I J x1 x2 x3 x4 x5 x6 x8 x9 x10 → ∀ ls : Array Slot, lv_has ls 11 [(0, .ref (gad g 8 0)), (1, .int x1), (2, .int x2), (3, .int x3), (4, .int x4), (5, .int x5), (6, .int x6), (8, .int x8), (9, .int x9), (10, .int x10)] → Wf p l e R s m args below meth c (MQ below (Qg g (PI Q)) args s 0 0 (gA g)) g I J (F0 m 139 ls [])) {I : MI} {J : MJ} {x1 : Int32} {x2 : Int32} {x3 : Int32} {x4 : Int32} {x5 : Int32} {x6 : Int32} {x8 : Int32} {x9 : Int32} {x10 : Int32} (h : B_X8_good_139 Q C102 C139 I J x1 x2 x3 x4 x5 x6 x8 x9 x10) (ls : Array Slot) (hl : lv_has ls 11 [(0, .ref (gad g 8 0)), (1, .int x1), (2, .int x2), (3, .int x3), (4, .int x4), (5, .int x5), (6, .int x6), (8, .int x8), (9, .int x9), (10, .int x10)]) : Wf p l e R s m args below meth c (MQ below (Qg g (PI Q)) args s 0 0 (gA g)) g I J (F0 m 139 ls []) := by
  refine f_iload C dX8_good_139 (lv_at hl 9 rfl) ?_
  refine f_iload_n C dX8_good_141 rfl (lv_at hl 1 rfl) ?_
  refine f_icmp_ge (tgt := 192) C dX8_good_142 (by decide) (fun c24 => ?_) (fun c24 => ?_)
  · replace h := h.1 c24
    refine f_iload C dX8_good_192 (lv_at hl 6 rfl) ?_
    refine f_iload C dX8_good_194 (lv_at hl 7 rfl) ?_
    refine f_iadd C dX8_good_196 ?_
    refine f_istore (lv' := [(6, .int (x6 + x8)), (0, .ref (gad g 8 0)), (1, .int x1), (2, .int x2), (3, .int x3), (4, .int x4), (5, .int x5), (8, .int x8), (9, .int x9), (10, .int x10)]) C dX8_good_197 hl (by decide) rfl (fun ls hl => ?_)
    refine f_iload_n C dX8_good_199 rfl (lv_at hl 2 rfl) ?_
    refine f_iconst (v := 1) C dX8_good_200 (by decide) ?_
    refine f_isub C dX8_good_201 ?_
    refine f_istore (lv' := [(8, .int (x1 - 1)), (6, .int (x6 + x8)), (0, .ref (gad g 8 0)), (1, .int x1), (2, .int x2), (3, .int x3), (4, .int x4), (5, .int x5), (9, .int x9), (10, .int x10)]) C dX8_good_202 hl (by decide) rfl (fun ls hl => ?_)
    obtain ⟨n, h⟩ := h
    exact t_X8_good_204 C hR hC102 n _ _ _ _ _ _ _ _ _ h ls (lv_sub hl [2, 3, 4, 5, 6, 7, 1, 0] rfl)
  · replace h := h.2 c24
    refine f_aload_n C dX8_good_145 rfl (lv_at hl 0 rfl) ?_
    refine ge_RX8_41 C (by decide) dX8_good_146 ?_
    refine f_iload C dX8_good_149 (lv_at hl 9 rfl) ?_
    obtain ⟨hi25, h⟩ := h
    refine al_k (n := 12) (k := x10.toNatClampNeg) C (by decide) rfl rfl hi25 dX8_good_151 ?_
    refine f_aload_n C dX8_good_152 rfl (lv_at hl 0 rfl) ?_
    refine ge_RX8_41 C (by decide) dX8_good_153 ?_
    refine f_iload C dX8_good_156 (lv_at hl 9 rfl) ?_
    refine f_iconst (v := 1) C dX8_good_158 (by decide) ?_
    refine f_isub C dX8_good_159 ?_
    obtain ⟨hi26, h⟩ := h
    refine al_k (n := 12) (k := (x10 - 1).toNatClampNeg) C (by decide) rfl rfl hi26 dX8_good_160 ?_
    refine f_icmp_ne (tgt := 171) C dX8_good_161 (by decide) (fun c27 => ?_) (fun c27 => ?_)
    · replace h := h.2 c27
      refine f_iconst (v := 1) C dX8_good_171 (by decide) ?_
      exact t_X8_good_172 C hR hC102 hC139 h ls (lv_sub hl [0, 1, 2, 3, 4, 5, 6, 7, 9] rfl)
    · replace h := h.1 c27
      refine f_iload C dX8_good_164 (lv_at hl 8 rfl) ?_
      refine f_iconst (v := 1) C dX8_good_166 (by decide) ?_
      refine f_iadd C dX8_good_167 ?_
      refine f_goto (tgt := 172) C dX8_good_168 (by decide) ?_
      exact t_X8_good_172 C hR hC102 hC139 h ls (lv_sub hl [0, 1, 2, 3, 4, 5, 6, 7, 9] rfl)

def L_X8_good_139 (Q : Int32 → MI → MJ → Prop) (C102 : MI → MJ → Int32 → Int32 → Int32 → Int32 → Int32 → Int32 → Int32 → Prop) : Nat → MI → MJ → Int32 → Int32 → Int32 → Int32 → Int32 → Int32 → Int32 → Int32 → Int32 → Prop
  | 0 => fun _ _ _ _ _ _ _ _ _ _ _ => False
  | n + 1 => fun I J x1 x2 x3 x4 x5 x6 x8 x9 x10 => B_X8_good_139 Q C102 (L_X8_good_139 Q C102 n) I J x1 x2 x3 x4 x5 x6 x8 x9 x10
theorem t_X8_good_139 {p : Program} {l : Launch} {e : Env} {R : Room} {s : State} {m : MethodId} {args : Array Value} {below : List Frame} {meth : Method} {c : Code} {g : Geo} (C : Cx g p s m args meth c cX8_good 11 RX8 (some .int)) (hR : 1 ≤ R.frames ∧ 22 ≤ R.locals) {Q : Int32 → MI → MJ → Prop} {C102 : MI → MJ → Int32 → Int32 → Int32 → Int32 → Int32 → Int32 → Int32 → Prop} (hC102 : ∀ (I : MI) (J : MJ) (x1 : Int32) (x2 : Int32) (x3 : Int32) (x4 : Int32) (x5 : Int32) (x6 : Int32) (x7 : Int32), C102 I J x1 x2 x3 x4 x5 x6 x7 → ∀ ls : Array Slot, lv_has ls 11 [(0, .ref (gad g 8 0)), (1, .int x1), (2, .int x2), (3, .int x3), (4, .int x4), (5, .int x5), (6, .int x6), (7, .int x7)] → Wf p l e R s m args below meth c (MQ below (Qg g (PI Q)) args s 0 0 (gA g)) g I J (F0 m 102 ls [])) : ∀ (n : Nat), ∀ (I : MI) (J : MJ) (x1 : Int32) (x2 : Int32) (x3 : Int32) (x4 : Int32) (x5 : Int32) (x6 : Int32) (x8 : Int32) (x9 : Int32) (x10 : Int32), L_X8_good_139 Q C102 n I J x1 x2 x3 x4 x5 x6 x8 x9 x10 → ∀ ls : Array Slot, lv_has ls 11 [(0, .ref (gad g 8 0)), (1, .int x1), (2, .int x2), (3, .int x3), (4, .int x4), (5, .int x5), (6, .int x6), (8, .int x8), (9, .int x9), (10, .int x10)] → Wf p l e R s m args below meth c (MQ below (Qg g (PI Q)) args s 0 0 (gA g)) g I J (F0 m 139 ls []) := by
  intro n
  induction n with
  | zero => intro I J x1 x2 x3 x4 x5 x6 x8 x9 x10 h; exact h.elim
  | succ n ih => intro I J x1 x2 x3 x4 x5 x6 x8 x9 x10 h ls hl; exact b_X8_good_139 C hR hC102 ih h ls hl
def B_X8_good_102 (Q : Int32 → MI → MJ → Prop) (C102 : MI → MJ → Int32 → Int32 → Int32 → Int32 → Int32 → Int32 → Int32 → Prop) (I : MI) (J : MJ) (x1 : Int32) (x2 : Int32) (x3 : Int32) (x4 : Int32) (x5 : Int32) (x6 : Int32) (x7 : Int32) : Prop :=
  (x7 = 0 → (x3 = 0 → Q x6 I J) ∧
  (¬ (x3 = 0) → Q x5 I J)) ∧
  (¬ (x7 = 0) → vp_in (x1 - 1) 12 ∧ (vp_in ((x1 - 1) / 2) 12 ∧ ((((I 35 0 ((x1 - 1).toNatClampNeg)) - (I 35 0 (((x1 - 1) / 2).toNatClampNeg))) < x2 → ∃ n : Nat, L_X8_good_204 Q C102 n I J x1 x2 x3 x4 x5 x6 (x1 - 1)) ∧
  (¬ (((I 35 0 ((x1 - 1).toNatClampNeg)) - (I 35 0 (((x1 - 1) / 2).toNatClampNeg))) < x2) → ∃ n : Nat, L_X8_good_139 Q C102 n I J x1 x2 x3 x4 x5 x6 1 1 1))))
set_option maxRecDepth 20000 in
theorem b_X8_good_102 {p : Program} {l : Launch} {e : Env} {R : Room} {s : State} {m : MethodId} {args : Array Value} {below : List Frame} {meth : Method} {c : Code} {g : Geo} (C : Cx g p s m args meth c cX8_good 11 RX8 (some .int)) (hR : 1 ≤ R.frames ∧ 22 ≤ R.locals) {Q : Int32 → MI → MJ → Prop} {C102 : MI → MJ → Int32 → Int32 → Int32 → Int32 → Int32 → Int32 → Int32 → Prop} (hC102 : ∀ (I : MI) (J : MJ) (x1 : Int32) (x2 : Int32) (x3 : Int32) (x4 : Int32) (x5 : Int32) (x6 : Int32) (x7 : Int32), C102 I J x1 x2 x3 x4 x5 x6 x7 → ∀ ls : Array Slot, lv_has ls 11 [(0, .ref (gad g 8 0)), (1, .int x1), (2, .int x2), (3, .int x3), (4, .int x4), (5, .int x5), (6, .int x6), (7, .int x7)] → Wf p l e R s m args below meth c (MQ below (Qg g (PI Q)) args s 0 0 (gA g)) g I J (F0 m 102 ls [])) {I : MI} {J : MJ} {x1 : Int32} {x2 : Int32} {x3 : Int32} {x4 : Int32} {x5 : Int32} {x6 : Int32} {x7 : Int32} (h : B_X8_good_102 Q C102 I J x1 x2 x3 x4 x5 x6 x7) (ls : Array Slot) (hl : lv_has ls 11 [(0, .ref (gad g 8 0)), (1, .int x1), (2, .int x2), (3, .int x3), (4, .int x4), (5, .int x5), (6, .int x6), (7, .int x7)]) : Wf p l e R s m args below meth c (MQ below (Qg g (PI Q)) args s 0 0 (gA g)) g I J (F0 m 102 ls []) := by
  refine f_iload C dX8_good_102 (lv_at hl 7 rfl) ?_
  refine f_if_eq (tgt := 294) C dX8_good_104 (by decide) (fun c9 => ?_) (fun c9 => ?_)
  · replace h := h.1 c9
    refine f_iload_n C dX8_good_294 rfl (lv_at hl 3 rfl) ?_
    refine f_if_ne (tgt := 303) C dX8_good_295 (by decide) (fun c10 => ?_) (fun c10 => ?_)
    · replace h := h.2 c10
      refine f_iload C dX8_good_303 (lv_at hl 5 rfl) ?_
      exact f_iret C h dX8_good_305
    · replace h := h.1 c10
      refine f_iload C dX8_good_298 (lv_at hl 6 rfl) ?_
      refine f_goto (tgt := 305) C dX8_good_300 (by decide) ?_
      exact f_iret C h dX8_good_305
  · replace h := h.2 c9
    refine f_aload_n C dX8_good_107 rfl (lv_at hl 0 rfl) ?_
    refine ge_RX8_41 C (by decide) dX8_good_108 ?_
    refine f_iload_n C dX8_good_111 rfl (lv_at hl 1 rfl) ?_
    refine f_iconst (v := 1) C dX8_good_112 (by decide) ?_
    refine f_isub C dX8_good_113 ?_
    obtain ⟨hi11, h⟩ := h
    refine al_k (n := 12) (k := (x1 - 1).toNatClampNeg) C (by decide) rfl rfl hi11 dX8_good_114 ?_
    refine f_aload_n C dX8_good_115 rfl (lv_at hl 0 rfl) ?_
    refine ge_RX8_41 C (by decide) dX8_good_116 ?_
    refine f_iload_n C dX8_good_119 rfl (lv_at hl 1 rfl) ?_
    refine f_iconst (v := 1) C dX8_good_120 (by decide) ?_
    refine f_isub C dX8_good_121 ?_
    refine f_iconst (v := 2) C dX8_good_122 (by decide) ?_
    refine f_idiv C dX8_good_123 (by decide) ?_
    obtain ⟨hi12, h⟩ := h
    refine al_k (n := 12) (k := ((x1 - 1) / 2).toNatClampNeg) C (by decide) rfl rfl hi12 dX8_good_124 ?_
    refine f_isub C dX8_good_125 ?_
    refine f_iload_n C dX8_good_126 rfl (lv_at hl 2 rfl) ?_
    refine f_icmp_lt (tgt := 199) C dX8_good_127 (by decide) (fun c13 => ?_) (fun c13 => ?_)
    · replace h := h.1 c13
      refine f_iload_n C dX8_good_199 rfl (lv_at hl 1 rfl) ?_
      refine f_iconst (v := 1) C dX8_good_200 (by decide) ?_
      refine f_isub C dX8_good_201 ?_
      refine f_istore (lv' := [(8, .int (x1 - 1)), (0, .ref (gad g 8 0)), (1, .int x1), (2, .int x2), (3, .int x3), (4, .int x4), (5, .int x5), (6, .int x6), (7, .int x7)]) C dX8_good_202 hl (by decide) rfl (fun ls hl => ?_)
      obtain ⟨n, h⟩ := h
      exact t_X8_good_204 C hR hC102 n _ _ _ _ _ _ _ _ _ h ls (lv_sub hl [1, 2, 3, 4, 5, 6, 7, 0] rfl)
    · replace h := h.2 c13
      refine f_iconst (v := 1) C dX8_good_130 (by decide) ?_
      refine f_istore (lv' := [(8, .int 1), (0, .ref (gad g 8 0)), (1, .int x1), (2, .int x2), (3, .int x3), (4, .int x4), (5, .int x5), (6, .int x6), (7, .int x7)]) C dX8_good_131 hl (by decide) rfl (fun ls hl => ?_)
      refine f_iconst (v := 1) C dX8_good_133 (by decide) ?_
      refine f_istore (lv' := [(9, .int 1), (8, .int 1), (0, .ref (gad g 8 0)), (1, .int x1), (2, .int x2), (3, .int x3), (4, .int x4), (5, .int x5), (6, .int x6), (7, .int x7)]) C dX8_good_134 hl (by decide) rfl (fun ls hl => ?_)
      refine f_iconst (v := 1) C dX8_good_136 (by decide) ?_
      refine f_istore (lv' := [(10, .int 1), (9, .int 1), (8, .int 1), (0, .ref (gad g 8 0)), (1, .int x1), (2, .int x2), (3, .int x3), (4, .int x4), (5, .int x5), (6, .int x6), (7, .int x7)]) C dX8_good_137 hl (by decide) rfl (fun ls hl => ?_)
      obtain ⟨n, h⟩ := h
      exact t_X8_good_139 C hR hC102 n _ _ _ _ _ _ _ _ _ _ _ h ls (lv_sub hl [3, 4, 5, 6, 7, 8, 9, 2, 1, 0] rfl)

def L_X8_good_102 (Q : Int32 → MI → MJ → Prop) : Nat → MI → MJ → Int32 → Int32 → Int32 → Int32 → Int32 → Int32 → Int32 → Prop
  | 0 => fun _ _ _ _ _ _ _ _ _ => False
  | n + 1 => fun I J x1 x2 x3 x4 x5 x6 x7 => B_X8_good_102 Q (L_X8_good_102 Q n) I J x1 x2 x3 x4 x5 x6 x7
theorem t_X8_good_102 {p : Program} {l : Launch} {e : Env} {R : Room} {s : State} {m : MethodId} {args : Array Value} {below : List Frame} {meth : Method} {c : Code} {g : Geo} (C : Cx g p s m args meth c cX8_good 11 RX8 (some .int)) (hR : 1 ≤ R.frames ∧ 22 ≤ R.locals) {Q : Int32 → MI → MJ → Prop} : ∀ (n : Nat), ∀ (I : MI) (J : MJ) (x1 : Int32) (x2 : Int32) (x3 : Int32) (x4 : Int32) (x5 : Int32) (x6 : Int32) (x7 : Int32), L_X8_good_102 Q n I J x1 x2 x3 x4 x5 x6 x7 → ∀ ls : Array Slot, lv_has ls 11 [(0, .ref (gad g 8 0)), (1, .int x1), (2, .int x2), (3, .int x3), (4, .int x4), (5, .int x5), (6, .int x6), (7, .int x7)] → Wf p l e R s m args below meth c (MQ below (Qg g (PI Q)) args s 0 0 (gA g)) g I J (F0 m 102 ls []) := by
  intro n
  induction n with
  | zero => intro I J x1 x2 x3 x4 x5 x6 x7 h; exact h.elim
  | succ n ih => intro I J x1 x2 x3 x4 x5 x6 x7 h ls hl; exact b_X8_good_102 C hR ih h ls hl
def B_X8_good_79 (Q : Int32 → MI → MJ → Prop) (C79 : MI → MJ → Int32 → Int32 → Int32 → Int32 → Int32 → Int32 → Int32 → Prop) (I : MI) (J : MJ) (x1 : Int32) (x2 : Int32) (x3 : Int32) (x4 : Int32) (x5 : Int32) (x6 : Int32) (x7 : Int32) : Prop :=
  (x1 ≤ x7 → ∃ n : Nat, L_X8_good_102 Q n I J x1 x2 x3 x4 x5 x6 1) ∧
  (¬ (x1 ≤ x7) → vp_in x7 12 ∧ (C79 (up3 I 35 0 (x7.toNatClampNeg) 0) J x1 x2 x3 x4 x5 x6 (x7 + 1)))
set_option maxRecDepth 20000 in
theorem b_X8_good_79 {p : Program} {l : Launch} {e : Env} {R : Room} {s : State} {m : MethodId} {args : Array Value} {below : List Frame} {meth : Method} {c : Code} {g : Geo} (C : Cx g p s m args meth c cX8_good 11 RX8 (some .int)) (hR : 1 ≤ R.frames ∧ 22 ≤ R.locals) {Q : Int32 → MI → MJ → Prop} {C79 : MI → MJ → Int32 → Int32 → Int32 → Int32 → Int32 → Int32 → Int32 → Prop} (hC79 : ∀ (I : MI) (J : MJ) (x1 : Int32) (x2 : Int32) (x3 : Int32) (x4 : Int32) (x5 : Int32) (x6 : Int32) (x7 : Int32), C79 I J x1 x2 x3 x4 x5 x6 x7 → ∀ ls : Array Slot, lv_has ls 11 [(0, .ref (gad g 8 0)), (1, .int x1), (2, .int x2), (3, .int x3), (4, .int x4), (5, .int x5), (6, .int x6), (7, .int x7)] → Wf p l e R s m args below meth c (MQ below (Qg g (PI Q)) args s 0 0 (gA g)) g I J (F0 m 79 ls [])) {I : MI} {J : MJ} {x1 : Int32} {x2 : Int32} {x3 : Int32} {x4 : Int32} {x5 : Int32} {x6 : Int32} {x7 : Int32} (h : B_X8_good_79 Q C79 I J x1 x2 x3 x4 x5 x6 x7) (ls : Array Slot) (hl : lv_has ls 11 [(0, .ref (gad g 8 0)), (1, .int x1), (2, .int x2), (3, .int x3), (4, .int x4), (5, .int x5), (6, .int x6), (7, .int x7)]) : Wf p l e R s m args below meth c (MQ below (Qg g (PI Q)) args s 0 0 (gA g)) g I J (F0 m 79 ls []) := by
  refine f_iload C dX8_good_79 (lv_at hl 7 rfl) ?_
  refine f_iload_n C dX8_good_81 rfl (lv_at hl 1 rfl) ?_
  refine f_icmp_ge (tgt := 99) C dX8_good_82 (by decide) (fun c8 => ?_) (fun c8 => ?_)
  · replace h := h.1 c8
    refine f_iconst (v := 1) C dX8_good_99 (by decide) ?_
    refine f_istore (lv' := [(7, .int 1), (0, .ref (gad g 8 0)), (1, .int x1), (2, .int x2), (3, .int x3), (4, .int x4), (5, .int x5), (6, .int x6)]) C dX8_good_100 hl (by decide) rfl (fun ls hl => ?_)
    obtain ⟨n, h⟩ := h
    exact t_X8_good_102 C hR n _ _ _ _ _ _ _ _ _ h ls (lv_sub hl [1, 2, 3, 4, 5, 6, 7, 0] rfl)
  · replace h := h.2 c8
    refine f_aload_n C dX8_good_85 rfl (lv_at hl 0 rfl) ?_
    refine ge_RX8_41 C (by decide) dX8_good_86 ?_
    refine f_iload C dX8_good_89 (lv_at hl 7 rfl) ?_
    refine f_iconst (v := 0) C dX8_good_91 (by decide) ?_
    obtain ⟨hi29, h⟩ := h
    refine as_k (n := 12) (k := x7.toNatClampNeg) C (by decide) (fun _ => rfl) rfl hi29 dX8_good_92 ?_
    refine f_iinc (v := x7 + 1) (lv' := [(7, .int (x7 + 1)), (0, .ref (gad g 8 0)), (1, .int x1), (2, .int x2), (3, .int x3), (4, .int x4), (5, .int x5), (6, .int x6)]) C dX8_good_93 hl (k := 7) rfl rfl (by decide) rfl (fun ls hl => ?_)
    refine f_goto (tgt := 79) C dX8_good_96 (by decide) ?_
    exact hC79 _ _ _ _ _ _ _ _ _ h ls (lv_sub hl [1, 2, 3, 4, 5, 6, 7, 0] rfl)

def L_X8_good_79 (Q : Int32 → MI → MJ → Prop) : Nat → MI → MJ → Int32 → Int32 → Int32 → Int32 → Int32 → Int32 → Int32 → Prop
  | 0 => fun _ _ _ _ _ _ _ _ _ => False
  | n + 1 => fun I J x1 x2 x3 x4 x5 x6 x7 => B_X8_good_79 Q (L_X8_good_79 Q n) I J x1 x2 x3 x4 x5 x6 x7
theorem t_X8_good_79 {p : Program} {l : Launch} {e : Env} {R : Room} {s : State} {m : MethodId} {args : Array Value} {below : List Frame} {meth : Method} {c : Code} {g : Geo} (C : Cx g p s m args meth c cX8_good 11 RX8 (some .int)) (hR : 1 ≤ R.frames ∧ 22 ≤ R.locals) {Q : Int32 → MI → MJ → Prop} : ∀ (n : Nat), ∀ (I : MI) (J : MJ) (x1 : Int32) (x2 : Int32) (x3 : Int32) (x4 : Int32) (x5 : Int32) (x6 : Int32) (x7 : Int32), L_X8_good_79 Q n I J x1 x2 x3 x4 x5 x6 x7 → ∀ ls : Array Slot, lv_has ls 11 [(0, .ref (gad g 8 0)), (1, .int x1), (2, .int x2), (3, .int x3), (4, .int x4), (5, .int x5), (6, .int x6), (7, .int x7)] → Wf p l e R s m args below meth c (MQ below (Qg g (PI Q)) args s 0 0 (gA g)) g I J (F0 m 79 ls []) := by
  intro n
  induction n with
  | zero => intro I J x1 x2 x3 x4 x5 x6 x7 h; exact h.elim
  | succ n ih => intro I J x1 x2 x3 x4 x5 x6 x7 h ls hl; exact b_X8_good_79 C hR ih h ls hl
def B_X8_good_54 (Q : Int32 → MI → MJ → Prop) (C54 : MI → MJ → Int32 → Int32 → Int32 → Int32 → Int32 → Int32 → Prop) (I : MI) (J : MJ) (x1 : Int32) (x2 : Int32) (x3 : Int32) (x4 : Int32) (x5 : Int32) (x6 : Int32) : Prop :=
  (x1 ≤ x6 → ∃ n : Nat, L_X8_good_79 Q n I J x1 x2 x3 x4 x5 0 0) ∧
  (¬ (x1 ≤ x6) → C54 I J x1 x2 x3 x4 (x5 * x4) (x6 + 1))
set_option maxRecDepth 20000 in
theorem b_X8_good_54 {p : Program} {l : Launch} {e : Env} {R : Room} {s : State} {m : MethodId} {args : Array Value} {below : List Frame} {meth : Method} {c : Code} {g : Geo} (C : Cx g p s m args meth c cX8_good 11 RX8 (some .int)) (hR : 1 ≤ R.frames ∧ 22 ≤ R.locals) {Q : Int32 → MI → MJ → Prop} {C54 : MI → MJ → Int32 → Int32 → Int32 → Int32 → Int32 → Int32 → Prop} (hC54 : ∀ (I : MI) (J : MJ) (x1 : Int32) (x2 : Int32) (x3 : Int32) (x4 : Int32) (x5 : Int32) (x6 : Int32), C54 I J x1 x2 x3 x4 x5 x6 → ∀ ls : Array Slot, lv_has ls 11 [(0, .ref (gad g 8 0)), (1, .int x1), (2, .int x2), (3, .int x3), (4, .int x4), (5, .int x5), (6, .int x6)] → Wf p l e R s m args below meth c (MQ below (Qg g (PI Q)) args s 0 0 (gA g)) g I J (F0 m 54 ls [])) {I : MI} {J : MJ} {x1 : Int32} {x2 : Int32} {x3 : Int32} {x4 : Int32} {x5 : Int32} {x6 : Int32} (h : B_X8_good_54 Q C54 I J x1 x2 x3 x4 x5 x6) (ls : Array Slot) (hl : lv_has ls 11 [(0, .ref (gad g 8 0)), (1, .int x1), (2, .int x2), (3, .int x3), (4, .int x4), (5, .int x5), (6, .int x6)]) : Wf p l e R s m args below meth c (MQ below (Qg g (PI Q)) args s 0 0 (gA g)) g I J (F0 m 54 ls []) := by
  refine f_iload C dX8_good_54 (lv_at hl 6 rfl) ?_
  refine f_iload_n C dX8_good_56 rfl (lv_at hl 1 rfl) ?_
  refine f_icmp_ge (tgt := 73) C dX8_good_57 (by decide) (fun c7 => ?_) (fun c7 => ?_)
  · replace h := h.1 c7
    refine f_iconst (v := 0) C dX8_good_73 (by decide) ?_
    refine f_istore (lv' := [(6, .int 0), (0, .ref (gad g 8 0)), (1, .int x1), (2, .int x2), (3, .int x3), (4, .int x4), (5, .int x5)]) C dX8_good_74 hl (by decide) rfl (fun ls hl => ?_)
    refine f_iconst (v := 0) C dX8_good_76 (by decide) ?_
    refine f_istore (lv' := [(7, .int 0), (6, .int 0), (0, .ref (gad g 8 0)), (1, .int x1), (2, .int x2), (3, .int x3), (4, .int x4), (5, .int x5)]) C dX8_good_77 hl (by decide) rfl (fun ls hl => ?_)
    obtain ⟨n, h⟩ := h
    exact t_X8_good_79 C hR n _ _ _ _ _ _ _ _ _ h ls (lv_sub hl [2, 3, 4, 5, 6, 7, 1, 0] rfl)
  · replace h := h.2 c7
    refine f_iload C dX8_good_60 (lv_at hl 5 rfl) ?_
    refine f_iload C dX8_good_62 (lv_at hl 4 rfl) ?_
    refine f_imul C dX8_good_64 ?_
    refine f_istore (lv' := [(5, .int (x5 * x4)), (0, .ref (gad g 8 0)), (1, .int x1), (2, .int x2), (3, .int x3), (4, .int x4), (6, .int x6)]) C dX8_good_65 hl (by decide) rfl (fun ls hl => ?_)
    refine f_iinc (v := x6 + 1) (lv' := [(6, .int (x6 + 1)), (5, .int (x5 * x4)), (0, .ref (gad g 8 0)), (1, .int x1), (2, .int x2), (3, .int x3), (4, .int x4)]) C dX8_good_67 hl (k := 6) rfl rfl (by decide) rfl (fun ls hl => ?_)
    refine f_goto (tgt := 54) C dX8_good_70 (by decide) ?_
    exact hC54 _ _ _ _ _ _ _ _ h ls (lv_sub hl [2, 3, 4, 5, 6, 1, 0] rfl)

def L_X8_good_54 (Q : Int32 → MI → MJ → Prop) : Nat → MI → MJ → Int32 → Int32 → Int32 → Int32 → Int32 → Int32 → Prop
  | 0 => fun _ _ _ _ _ _ _ _ => False
  | n + 1 => fun I J x1 x2 x3 x4 x5 x6 => B_X8_good_54 Q (L_X8_good_54 Q n) I J x1 x2 x3 x4 x5 x6
theorem t_X8_good_54 {p : Program} {l : Launch} {e : Env} {R : Room} {s : State} {m : MethodId} {args : Array Value} {below : List Frame} {meth : Method} {c : Code} {g : Geo} (C : Cx g p s m args meth c cX8_good 11 RX8 (some .int)) (hR : 1 ≤ R.frames ∧ 22 ≤ R.locals) {Q : Int32 → MI → MJ → Prop} : ∀ (n : Nat), ∀ (I : MI) (J : MJ) (x1 : Int32) (x2 : Int32) (x3 : Int32) (x4 : Int32) (x5 : Int32) (x6 : Int32), L_X8_good_54 Q n I J x1 x2 x3 x4 x5 x6 → ∀ ls : Array Slot, lv_has ls 11 [(0, .ref (gad g 8 0)), (1, .int x1), (2, .int x2), (3, .int x3), (4, .int x4), (5, .int x5), (6, .int x6)] → Wf p l e R s m args below meth c (MQ below (Qg g (PI Q)) args s 0 0 (gA g)) g I J (F0 m 54 ls []) := by
  intro n
  induction n with
  | zero => intro I J x1 x2 x3 x4 x5 x6 h; exact h.elim
  | succ n ih => intro I J x1 x2 x3 x4 x5 x6 h ls hl; exact b_X8_good_54 C hR ih h ls hl
def wp_X8_good (Q : Int32 → MI → MJ → Prop) (I : MI) (J : MJ) (x1 : Int32) (x2 : Int32) (x3 : Int32) : Prop :=
  wp_X8_in (fun r1 I1 J1 => (r1 = 0 → Q ((-1)) I1 J1) ∧
  (¬ (r1 = 0) → wp_X8_in (fun r3 I3 J3 => (r3 = 0 → Q ((-1)) I3 J3) ∧
  (¬ (r3 = 0) → wp_X8_in (fun r5 I5 J5 => (r5 = 0 → Q ((-1)) I5 J5) ∧
  (¬ (r5 = 0) → ∃ n : Nat, L_X8_good_54 Q n I5 J5 x1 x2 x3 ((2 * (I5 28 0 0)) + 1) 1 0)) I3 J3 x3 0 1)) I1 J1 x2 0 20)) (up3 I 8 0 0 0) J x1 1 6
set_option maxRecDepth 20000 in
theorem c_X8_good {l : Launch} {g : Geo} {Q : Int32 → MI → MJ → Prop} {I : MI} {J : MJ} {x1 : Int32} {x2 : Int32} {x3 : Int32} (h : wp_X8_good Q I J x1 x2 x3) : Ct g l yX8_good cX8_good 11 (some .int) 1 22 [.ref (gad g 8 0), .int x1, .int x2, .int x3] I J (PI Q) := by
  refine Ct.of (by decide) ?_
  intro p e s m below meth c C
  have hR : 1 ≤ (Rm 1 22).frames ∧ 22 ≤ (Rm 1 22).locals := ⟨Nat.le_refl _, Nat.le_refl _⟩
  generalize Rm 1 22 = R at hR ⊢
  have hl := lv_entry ([.ref (gad g 8 0), .int x1, .int x2, .int x3]) (n := 11) (Nat.le_of_ble_eq_true rfl)
  rw [lg_entry_eq]
  generalize (lg_sl ([.ref (gad g 8 0), .int x1, .int x2, .int x3]) ++ List.replicate (11 - (lg_sl ([.ref (gad g 8 0), .int x1, .int x2, .int x3])).length) Slot.unset).toArray = ls at hl ⊢
  have hl : lv_has ls 11 [(0, .ref (gad g 8 0)), (1, .int x1), (2, .int x2), (3, .int x3)] := hl
  refine f_aload_n C dX8_good_0 rfl (lv_at hl 0 rfl) ?_
  refine f_iconst (v := 0) C dX8_good_1 (by decide) ?_
  refine pu_RX8_57 C (by decide) dX8_good_2 ?_
  refine f_iload_n C dX8_good_5 rfl (lv_at hl 1 rfl) ?_
  refine f_iconst (v := 1) C dX8_good_6 (by decide) ?_
  refine f_bipush (v := 6) C dX8_good_7 (by decide) ?_
  refine f_cSi (As := [.int x1, .int 1, .int 6]) (rest := []) (n := 3) C (c_X8_in h) ok_X8_in sm_X8_in kw_RX8_61 ⟨Nat.le_trans (by decide) hR.1, Nat.le_trans (by decide) hR.2⟩ rfl hl.1 (Nat.le_of_ble_eq_true rfl) dX8_good_9 (fun r1 I1 J1 h => ?_)
  refine f_if_eq (tgt := 34) C dX8_good_12 (by decide) (fun c2 => ?_) (fun c2 => ?_)
  · replace h := h.1 c2
    refine f_iconst (v := (-1)) C dX8_good_34 (by decide) ?_
    exact f_iret C h dX8_good_35
  · replace h := h.2 c2
    refine f_iload_n C dX8_good_15 rfl (lv_at hl 2 rfl) ?_
    refine f_iconst (v := 0) C dX8_good_16 (by decide) ?_
    refine f_bipush (v := 20) C dX8_good_17 (by decide) ?_
    refine f_cSi (As := [.int x2, .int 0, .int 20]) (rest := []) (n := 3) C (c_X8_in h) ok_X8_in sm_X8_in kw_RX8_61 ⟨Nat.le_trans (by decide) hR.1, Nat.le_trans (by decide) hR.2⟩ rfl hl.1 (Nat.le_of_ble_eq_true rfl) dX8_good_19 (fun r3 I3 J3 h => ?_)
    refine f_if_eq (tgt := 34) C dX8_good_22 (by decide) (fun c4 => ?_) (fun c4 => ?_)
    · replace h := h.1 c4
      refine f_iconst (v := (-1)) C dX8_good_34 (by decide) ?_
      exact f_iret C h dX8_good_35
    · replace h := h.2 c4
      refine f_iload_n C dX8_good_25 rfl (lv_at hl 3 rfl) ?_
      refine f_iconst (v := 0) C dX8_good_26 (by decide) ?_
      refine f_iconst (v := 1) C dX8_good_27 (by decide) ?_
      refine f_cSi (As := [.int x3, .int 0, .int 1]) (rest := []) (n := 3) C (c_X8_in h) ok_X8_in sm_X8_in kw_RX8_61 ⟨Nat.le_trans (by decide) hR.1, Nat.le_trans (by decide) hR.2⟩ rfl hl.1 (Nat.le_of_ble_eq_true rfl) dX8_good_28 (fun r5 I5 J5 h => ?_)
      refine f_if_ne (tgt := 36) C dX8_good_31 (by decide) (fun c6 => ?_) (fun c6 => ?_)
      · replace h := h.2 c6
        refine f_iconst (v := 2) C dX8_good_36 (by decide) ?_
        refine f_aload_n C dX8_good_37 rfl (lv_at hl 0 rfl) ?_
        refine ge_RX8_20 C (by decide) dX8_good_38 ?_
        refine f_iconst (v := 0) C dX8_good_41 (by decide) ?_
        refine al_k (n := 3) (k := 0) C (by decide) rfl (by decide) (vin_k (by decide)) dX8_good_42 ?_
        refine f_imul C dX8_good_43 ?_
        refine f_iconst (v := 1) C dX8_good_44 (by decide) ?_
        refine f_iadd C dX8_good_45 ?_
        refine f_istore (lv' := [(4, .int ((2 * (I5 28 0 0)) + 1)), (0, .ref (gad g 8 0)), (1, .int x1), (2, .int x2), (3, .int x3)]) C dX8_good_46 hl (by decide) rfl (fun ls hl => ?_)
        refine f_iconst (v := 1) C dX8_good_48 (by decide) ?_
        refine f_istore (lv' := [(5, .int 1), (4, .int ((2 * (I5 28 0 0)) + 1)), (0, .ref (gad g 8 0)), (1, .int x1), (2, .int x2), (3, .int x3)]) C dX8_good_49 hl (by decide) rfl (fun ls hl => ?_)
        refine f_iconst (v := 0) C dX8_good_51 (by decide) ?_
        refine f_istore (lv' := [(6, .int 0), (5, .int 1), (4, .int ((2 * (I5 28 0 0)) + 1)), (0, .ref (gad g 8 0)), (1, .int x1), (2, .int x2), (3, .int x3)]) C dX8_good_52 hl (by decide) rfl (fun ls hl => ?_)
        obtain ⟨n, h⟩ := h
        exact t_X8_good_54 C hR n _ _ _ _ _ _ _ _ h ls (lv_sub hl [3, 4, 5, 6, 2, 1, 0] rfl)
      · replace h := h.1 c6
        refine f_iconst (v := (-1)) C dX8_good_34 (by decide) ?_
        exact f_iret C h dX8_good_35

