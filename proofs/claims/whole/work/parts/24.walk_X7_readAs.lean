def E_X7_readAs (S : (Int32 → MI → MJ → Prop) → MI → MJ → Int32 → Nat → Prop) (Q : Int32 → MI → MJ → Prop) (I : MI) (J : MJ) (x1 : Int32) (n2 : Nat) : Prop :=
  vp_in x1 7 ∧ ((x1 = 0 → Q (I 4 n2 3) I (up3L J 7 0 14 ((J 7 0 14) + ((stV 4 (x1.toNatClampNeg)).toInt64)))) ∧
  (¬ (x1 = 0) → vp_in x1 7 ∧ (S (fun r4 I4 J4 => (x1 = 1 → Q (r4 + (I4 21 0 0)) I4 J4) ∧
  (¬ (x1 = 1) → (x1 = 2 → Q (r4 + (I4 21 0 1)) I4 J4) ∧
  (¬ (x1 = 2) → (x1 = 3 → Q ((2 * r4) - (I4 21 0 2)) I4 J4) ∧
  (¬ (x1 = 3) → (x1 = 4 → Q (r4 + (I4 15 n2 0)) I4 J4) ∧
  (¬ (x1 = 4) → (x1 = 5 → Q (r4 + (5 * (I4 4 n2 5))) I4 J4) ∧
  (¬ (x1 = 5) → Q (r4 / 2) I4 J4)))))) I (up3L J 7 0 14 ((J 7 0 14) + ((stV 4 (x1.toNatClampNeg)).toInt64))) (stV 5 (x1.toNatClampNeg)) n2)))
def wd_X7_readAs : Nat → (Int32 → MI → MJ → Prop) → MI → MJ → Int32 → Nat → Prop
  | 0 => fun _ _ _ _ _ => False
  | d + 1 => fun Q I J x1 n2 => E_X7_readAs (wd_X7_readAs d) Q I J x1 n2
set_option maxRecDepth 20000 in
theorem e_X7_readAs {p : Program} {l : Launch} {e : Env} {R : Room} {s : State} {m : MethodId} {args : Array Value} {below : List Frame} {meth : Method} {c : Code} {g : Geo} (C : Cx g p s m args meth c cX7_readAs 4 RX7 (some .int)) {fr lo : Nat} (hR : (0 ≤ R.frames ∧ 0 ≤ R.locals) ∧ fr + 1 ≤ R.frames ∧ 8 + (4 + 11) + lo ≤ R.locals) {S : (Int32 → MI → MJ → Prop) → MI → MJ → Int32 → Nat → Prop} (hS : ∀ (Q : Int32 → MI → MJ → Prop) (I : MI) (J : MJ) (x1 : Int32) (n2 : Nat), n2 < 25 → S Q I J x1 n2 → Ct g l yX7_readAs cX7_readAs 4 (some .int) fr lo [.ref (gad g 7 0), .int x1, .ref (gad g 4 n2)] I J (PI Q)) {Q : Int32 → MI → MJ → Prop} {I : MI} {J : MJ} {x1 : Int32} {n2 : Nat} (hn2 : n2 < 25) (h : E_X7_readAs S Q I J x1 n2) (ls : Array Slot) (hl : lv_has ls 4 [(0, .ref (gad g 7 0)), (1, .int x1), (2, .ref (gad g 4 n2))]) : Wf p l e R s m args below meth c (MQ below (Qg g (PI Q)) args s 0 0 (gA g)) g I J (F0 m 0 ls []) := by
  refine f_aload_n C dX7_readAs_0 rfl (lv_at hl 0 rfl) ?_
  refine f_dup C dX7_readAs_1 rfl ?_
  refine ge_RX7_273 C (by decide) dX7_readAs_2 ?_
  refine gs_RX7_302 C dX7_readAs_5 ?_
  refine f_iload_n C dX7_readAs_8 rfl (lv_at hl 1 rfl) ?_
  obtain ⟨hi1, h⟩ := h
  refine st_k (k := x1.toNatClampNeg) 4 (by decide) C rfl hi1 dX7_readAs_9 ?_
  refine f_i2l (v := (stV 4 (x1.toNatClampNeg)).toInt64) C dX7_readAs_10 rfl ?_
  refine f_ladd C dX7_readAs_11 ?_
  refine pu_RX7_273 C (by decide) dX7_readAs_12 ?_
  refine f_iload_n C dX7_readAs_15 rfl (lv_at hl 1 rfl) ?_
  refine f_if_ne (tgt := 24) C dX7_readAs_16 (by decide) (fun c2 => ?_) (fun c2 => ?_)
  · replace h := h.2 c2
    refine f_aload_n C dX7_readAs_24 rfl (lv_at hl 0 rfl) ?_
    refine gs_RX7_305 C dX7_readAs_25 ?_
    refine f_iload_n C dX7_readAs_28 rfl (lv_at hl 1 rfl) ?_
    obtain ⟨hi3, h⟩ := h
    refine st_k (k := x1.toNatClampNeg) 5 (by decide) C rfl hi3 dX7_readAs_29 ?_
    refine f_aload_n C dX7_readAs_30 rfl (lv_at hl 2 rfl) ?_
    refine f_cVi (As := [.int (stV 5 (x1.toNatClampNeg)), .ref (gad g 4 n2)]) (rest := []) (n := 2) (T0 := TX7) (N := 15) C (hS _ _ _ (stV 5 (x1.toNatClampNeg)) n2 hn2 h) ok_X7_readAs im_X7_readAs se_X7_readAs kw_RX7_263 ⟨hR.2.1, hR.2.2⟩ (by decide) rfl rfl rfl hl.1 (Nat.le_of_ble_eq_true rfl) dX7_readAs_31 (fun r4 I4 J4 h => ?_)
    refine f_istore_n (lv' := [(3, .int r4), (0, .ref (gad g 7 0)), (1, .int x1), (2, .ref (gad g 4 n2))]) C dX7_readAs_34 rfl hl (by decide) rfl (fun ls hl => ?_)
    refine f_iload_n C dX7_readAs_35 rfl (lv_at hl 2 rfl) ?_
    by_cases c5 : x1 = 1
    · replace h := h.1 c5
      refine f_tableIn (tgt := 72) (off := 36) C dX7_readAs_36 (by rw [c5]; decide) (by rw [c5]; decide) (by rw [c5]; decide) (by decide) ?_
      refine f_iload_n C dX7_readAs_72 rfl (lv_at hl 0 rfl) ?_
      refine f_aload_n C dX7_readAs_73 rfl (lv_at hl 1 rfl) ?_
      refine ge_RX7_20 C (by decide) dX7_readAs_74 ?_
      refine f_iconst (v := 0) C dX7_readAs_77 (by decide) ?_
      refine al_k (n := 3) (k := 0) C (by decide) rfl (by decide) (vin_k (by decide)) dX7_readAs_78 ?_
      refine f_iadd C dX7_readAs_79 ?_
      exact f_iret C h dX7_readAs_80
    replace h := h.2 c5
    by_cases c6 : x1 = 2
    · replace h := h.1 c6
      refine f_tableIn (tgt := 81) (off := 45) C dX7_readAs_36 (by rw [c6]; decide) (by rw [c6]; decide) (by rw [c6]; decide) (by decide) ?_
      refine f_iload_n C dX7_readAs_81 rfl (lv_at hl 0 rfl) ?_
      refine f_aload_n C dX7_readAs_82 rfl (lv_at hl 1 rfl) ?_
      refine ge_RX7_20 C (by decide) dX7_readAs_83 ?_
      refine f_iconst (v := 1) C dX7_readAs_86 (by decide) ?_
      refine al_k (n := 3) (k := 1) C (by decide) rfl (by decide) (vin_k (by decide)) dX7_readAs_87 ?_
      refine f_iadd C dX7_readAs_88 ?_
      exact f_iret C h dX7_readAs_89
    replace h := h.2 c6
    by_cases c7 : x1 = 3
    · replace h := h.1 c7
      refine f_tableIn (tgt := 90) (off := 54) C dX7_readAs_36 (by rw [c7]; decide) (by rw [c7]; decide) (by rw [c7]; decide) (by decide) ?_
      refine f_iconst (v := 2) C dX7_readAs_90 (by decide) ?_
      refine f_iload_n C dX7_readAs_91 rfl (lv_at hl 0 rfl) ?_
      refine f_imul C dX7_readAs_92 ?_
      refine f_aload_n C dX7_readAs_93 rfl (lv_at hl 1 rfl) ?_
      refine ge_RX7_20 C (by decide) dX7_readAs_94 ?_
      refine f_iconst (v := 2) C dX7_readAs_97 (by decide) ?_
      refine al_k (n := 3) (k := 2) C (by decide) rfl (by decide) (vin_k (by decide)) dX7_readAs_98 ?_
      refine f_isub C dX7_readAs_99 ?_
      exact f_iret C h dX7_readAs_100
    replace h := h.2 c7
    by_cases c8 : x1 = 4
    · replace h := h.1 c8
      refine f_tableIn (tgt := 101) (off := 65) C dX7_readAs_36 (by rw [c8]; decide) (by rw [c8]; decide) (by rw [c8]; decide) (by decide) ?_
      refine f_iload_n C dX7_readAs_101 rfl (lv_at hl 0 rfl) ?_
      refine f_aload_n C dX7_readAs_102 rfl (lv_at hl 3 rfl) ?_
      refine ge_RX7_281 C hn2 dX7_readAs_103 ?_
      refine f_iconst (v := 0) C dX7_readAs_106 (by decide) ?_
      refine al_k (n := 3) (k := 0) C hn2 rfl (by decide) (vin_k (by decide)) dX7_readAs_107 ?_
      refine f_iadd C dX7_readAs_108 ?_
      exact f_iret C h dX7_readAs_109
    replace h := h.2 c8
    by_cases c9 : x1 = 5
    · replace h := h.1 c9
      refine f_tableIn (tgt := 110) (off := 74) C dX7_readAs_36 (by rw [c9]; decide) (by rw [c9]; decide) (by rw [c9]; decide) (by decide) ?_
      refine f_iload_n C dX7_readAs_110 rfl (lv_at hl 0 rfl) ?_
      refine f_iconst (v := 5) C dX7_readAs_111 (by decide) ?_
      refine f_aload_n C dX7_readAs_112 rfl (lv_at hl 3 rfl) ?_
      refine ge_RX7_118 C hn2 dX7_readAs_113 ?_
      refine f_imul C dX7_readAs_116 ?_
      refine f_iadd C dX7_readAs_117 ?_
      exact f_iret C h dX7_readAs_118
    replace h := h.2 c9
    refine f_tableOut (tgt := 119) C dX7_readAs_36 (by have e5 := ne_toInt (z := 1) c5 (by decide); have e6 := ne_toInt (z := 2) c6 (by decide); have e7 := ne_toInt (z := 3) c7 (by decide); have e8 := ne_toInt (z := 4) c8 (by decide); have e9 := ne_toInt (z := 5) c9 (by decide); omega) (by decide) ?_
    refine f_iload_n C dX7_readAs_119 rfl (lv_at hl 0 rfl) ?_
    refine f_iconst (v := 2) C dX7_readAs_120 (by decide) ?_
    refine f_idiv C dX7_readAs_121 (by decide) ?_
    exact f_iret C h dX7_readAs_122
  · replace h := h.1 c2
    refine f_aload_n C dX7_readAs_19 rfl (lv_at hl 2 rfl) ?_
    refine ge_RX7_112 C hn2 dX7_readAs_20 ?_
    exact f_iret C h dX7_readAs_23

theorem cd_X7_readAs {l : Launch} {g : Geo} : ∀ (d : Nat) (Q : Int32 → MI → MJ → Prop) (I : MI) (J : MJ) (x1 : Int32) (n2 : Nat), n2 < 25 → wd_X7_readAs d Q I J x1 n2 → Ct g l yX7_readAs cX7_readAs 4 (some .int) (0 + d) (0 + d * 23) [.ref (gad g 7 0), .int x1, .ref (gad g 4 n2)] I J (PI Q) := by
  intro d
  induction d with
  | zero => intro Q I J x1 n2 hn2 h; exact h.elim
  | succ d ih =>
    intro Q I J x1 n2 hn2 h
    refine Ct.of (by decide) ?_
    intro p e s m below meth c C
    have hl := lv_entry ([.ref (gad g 7 0), .int x1, .ref (gad g 4 n2)]) (n := 4) (Nat.le_of_ble_eq_true rfl)
    rw [lg_entry_eq]
    exact e_X7_readAs C ⟨⟨by show 0 ≤ 0 + (d + 1); omega, by show 0 ≤ 0 + (d + 1) * 23; omega⟩, by show 0 + d + 1 ≤ 0 + (d + 1); omega, by show 8 + (4 + 11) + (0 + d * 23) ≤ 0 + (d + 1) * 23; omega⟩ ih hn2 h _ hl
def wp_X7_readAs (Q : Int32 → MI → MJ → Prop) (I : MI) (J : MJ) (x1 : Int32) (n2 : Nat) : Prop := wd_X7_readAs 5 Q I J x1 n2
theorem c_X7_readAs {l : Launch} {g : Geo} {Q : Int32 → MI → MJ → Prop} {I : MI} {J : MJ} {x1 : Int32} {n2 : Nat} (hn2 : n2 < 25) (h : wp_X7_readAs Q I J x1 n2) : Ct g l yX7_readAs cX7_readAs 4 (some .int) 5 115 [.ref (gad g 7 0), .int x1, .ref (gad g 4 n2)] I J (PI Q) := cd_X7_readAs 5 Q I J x1 n2 hn2 h
def wp_X7_reading (Q : Int32 → MI → MJ → Prop) (I : MI) (J : MJ) (x1 : Int32) (x2 : Int32) : Prop :=
  wp_X7_within (fun r1 I1 J1 => (r1 = 0 → Q ((-1000000)) I1 J1) ∧
  (¬ (r1 = 0) → wp_X7_isHere (fun r3 I3 J3 => (r3 = 0 → Q ((-1000000)) I3 J3) ∧
  (¬ (r3 = 0) → vp_in x2 8 ∧ (wp_X7_readAs (fun r6 I6 J6 => Q r6 I6 J6) I3 J3 x1 (8 * 0 + x2.toNatClampNeg)))) I1 J1 x2)) I J x1 0 6
set_option maxRecDepth 20000 in
theorem c_X7_reading {l : Launch} {g : Geo} {Q : Int32 → MI → MJ → Prop} {I : MI} {J : MJ} {x1 : Int32} {x2 : Int32} (h : wp_X7_reading Q I J x1 x2) : Ct g l yX7_reading cX7_reading 3 (some .int) 6 138 [.ref (gad g 7 0), .int x1, .int x2] I J (PI Q) := by
  refine Ct.of (by decide) ?_
  intro p e s m below meth c C
  have hR : 6 ≤ (Rm 6 138).frames ∧ 138 ≤ (Rm 6 138).locals := ⟨Nat.le_refl _, Nat.le_refl _⟩
  generalize Rm 6 138 = R at hR ⊢
  have hl := lv_entry ([.ref (gad g 7 0), .int x1, .int x2]) (n := 3) (Nat.le_of_ble_eq_true rfl)
  rw [lg_entry_eq]
  generalize (lg_sl ([.ref (gad g 7 0), .int x1, .int x2]) ++ List.replicate (3 - (lg_sl ([.ref (gad g 7 0), .int x1, .int x2])).length) Slot.unset).toArray = ls at hl ⊢
  have hl : lv_has ls 3 [(0, .ref (gad g 7 0)), (1, .int x1), (2, .int x2)] := hl
  refine f_iload_n C dX7_reading_0 rfl (lv_at hl 1 rfl) ?_
  refine f_iconst (v := 0) C dX7_reading_1 (by decide) ?_
  refine f_bipush (v := 6) C dX7_reading_2 (by decide) ?_
  refine f_cSi (As := [.int x1, .int 0, .int 6]) (rest := []) (n := 3) C (c_X7_within h) ok_X7_within sm_X7_within kw_RX7_78 ⟨Nat.le_trans (by decide) hR.1, Nat.le_trans (by decide) hR.2⟩ rfl hl.1 (Nat.le_of_ble_eq_true rfl) dX7_reading_4 (fun r1 I1 J1 h => ?_)
  refine f_if_eq (tgt := 18) C dX7_reading_7 (by decide) (fun c2 => ?_) (fun c2 => ?_)
  · replace h := h.1 c2
    refine f_ldc C kc_RX7_101 dX7_reading_18 ?_
    exact f_iret C h dX7_reading_20
  · replace h := h.2 c2
    refine f_aload_n C dX7_reading_10 rfl (lv_at hl 0 rfl) ?_
    refine f_iload_n C dX7_reading_11 rfl (lv_at hl 2 rfl) ?_
    refine f_cVi (As := [.int x2]) (rest := []) (n := 1) (T0 := TX7) (N := 15) C (c_X7_isHere h) ok_X7_isHere im_X7_isHere se_X7_isHere kw_RX7_94 ⟨Nat.le_trans (by decide) hR.1, Nat.le_trans (by decide) hR.2⟩ (by decide) rfl rfl rfl hl.1 (Nat.le_of_ble_eq_true rfl) dX7_reading_12 (fun r3 I3 J3 h => ?_)
    refine f_if_ne (tgt := 21) C dX7_reading_15 (by decide) (fun c4 => ?_) (fun c4 => ?_)
    · replace h := h.2 c4
      refine f_aload_n C dX7_reading_21 rfl (lv_at hl 0 rfl) ?_
      refine f_iload_n C dX7_reading_22 rfl (lv_at hl 1 rfl) ?_
      refine f_aload_n C dX7_reading_23 rfl (lv_at hl 0 rfl) ?_
      refine ge_RX7_10 C (by decide) dX7_reading_24 ?_
      refine ge_RX7_86 C (by decide) dX7_reading_27 ?_
      refine f_iload_n C dX7_reading_30 rfl (lv_at hl 2 rfl) ?_
      obtain ⟨hi5, h⟩ := h
      refine f_aldR C (by decide) hi5 dX7_reading_31 ?_
      refine f_cVi (As := [.int x1, .ref (gad g 4 (8 * 0 + x2.toNatClampNeg))]) (rest := []) (n := 2) (T0 := TX7) (N := 15) C (c_X7_readAs (rn_lt (by decide) hi5) h) ok_X7_readAs im_X7_readAs se_X7_readAs kw_RX7_263 ⟨Nat.le_trans (by decide) hR.1, Nat.le_trans (by decide) hR.2⟩ (by decide) rfl rfl rfl hl.1 (Nat.le_of_ble_eq_true rfl) dX7_reading_32 (fun r6 I6 J6 h => ?_)
      exact f_iret C h dX7_reading_35
    · replace h := h.1 c4
      refine f_ldc C kc_RX7_101 dX7_reading_18 ?_
      exact f_iret C h dX7_reading_20

def wp_X7_keep (Q : Int32 → MI → MJ → Prop) (I : MI) (J : MJ) (x1 : Int32) : Prop :=
  wp_X7_within (fun r1 I1 J1 => (r1 = 0 → Q ((-1)) I1 J1) ∧
  (¬ (r1 = 0) → vp_in x1 2 ∧ (wp_X6_become (fun I4 J4 => vp_in x1 2 ∧ (Q ((up3 I4 6 (1 + x1.toNatClampNeg) 4 1) 6 0 3) (up3 I4 6 (1 + x1.toNatClampNeg) 4 1) J4)) I1 J1 (1 + x1.toNatClampNeg) 0))) I J x1 0 1
set_option maxRecDepth 20000 in
theorem c_X7_keep {l : Launch} {g : Geo} {Q : Int32 → MI → MJ → Prop} {I : MI} {J : MJ} {x1 : Int32} (h : wp_X7_keep Q I J x1) : Ct g l yX7_keep cX7_keep 2 (some .int) 3 103 [.ref (gad g 7 0), .int x1] I J (PI Q) := by
  refine Ct.of (by decide) ?_
  intro p e s m below meth c C
  have hR : 3 ≤ (Rm 3 103).frames ∧ 103 ≤ (Rm 3 103).locals := ⟨Nat.le_refl _, Nat.le_refl _⟩
  generalize Rm 3 103 = R at hR ⊢
  have hl := lv_entry ([.ref (gad g 7 0), .int x1]) (n := 2) (Nat.le_of_ble_eq_true rfl)
  rw [lg_entry_eq]
  generalize (lg_sl ([.ref (gad g 7 0), .int x1]) ++ List.replicate (2 - (lg_sl ([.ref (gad g 7 0), .int x1])).length) Slot.unset).toArray = ls at hl ⊢
  have hl : lv_has ls 2 [(0, .ref (gad g 7 0)), (1, .int x1)] := hl
  refine f_iload_n C dX7_keep_0 rfl (lv_at hl 1 rfl) ?_
  refine f_iconst (v := 0) C dX7_keep_1 (by decide) ?_
  refine f_iconst (v := 1) C dX7_keep_2 (by decide) ?_
  refine f_cSi (As := [.int x1, .int 0, .int 1]) (rest := []) (n := 3) C (c_X7_within h) ok_X7_within sm_X7_within kw_RX7_78 ⟨Nat.le_trans (by decide) hR.1, Nat.le_trans (by decide) hR.2⟩ rfl hl.1 (Nat.le_of_ble_eq_true rfl) dX7_keep_3 (fun r1 I1 J1 h => ?_)
  refine f_if_ne (tgt := 11) C dX7_keep_6 (by decide) (fun c2 => ?_) (fun c2 => ?_)
  · replace h := h.2 c2
    refine f_aload_n C dX7_keep_11 rfl (lv_at hl 0 rfl) ?_
    refine ge_RX7_16 C (by decide) dX7_keep_12 ?_
    refine f_iload_n C dX7_keep_15 rfl (lv_at hl 1 rfl) ?_
    obtain ⟨hi3, h⟩ := h
    refine f_aldY C (by decide) hi3 dX7_keep_16 ?_
    refine f_aload_n C dX7_keep_17 rfl (lv_at hl 0 rfl) ?_
    refine ge_RX7_10 C (by decide) dX7_keep_18 ?_
    refine f_cVv (As := [.ref (gad g 6 0)]) (rest := []) (n := 1) (T0 := TX6) (N := 5) C (c_X6_become (im_lt hi3) (by decide) h) ok_X6_become im_X6_become se_X6_become kw_RX7_267 ⟨Nat.le_trans (by decide) hR.1, Nat.le_trans (by decide) hR.2⟩ (im_lt hi3) rfl rfl rfl hl.1 (Nat.le_of_ble_eq_true rfl) dX7_keep_21 (fun I4 J4 h => ?_)
    refine f_aload_n C dX7_keep_24 rfl (lv_at hl 0 rfl) ?_
    refine ge_RX7_16 C (by decide) dX7_keep_25 ?_
    refine f_iload_n C dX7_keep_28 rfl (lv_at hl 1 rfl) ?_
    obtain ⟨hi5, h⟩ := h
    refine f_aldY C (by decide) hi5 dX7_keep_29 ?_
    refine f_iconst (v := 1) C dX7_keep_30 (by decide) ?_
    refine pu_RX7_270 C (im_lt hi5) (Or.inr rfl) dX7_keep_31 ?_
    refine f_aload_n C dX7_keep_34 rfl (lv_at hl 0 rfl) ?_
    refine ge_RX7_10 C (by decide) dX7_keep_35 ?_
    refine ge_RX7_171 C (by decide) dX7_keep_38 ?_
    exact f_iret C h dX7_keep_41
  · replace h := h.1 c2
    refine f_iconst (v := (-1)) C dX7_keep_9 (by decide) ?_
    exact f_iret C h dX7_keep_10

def wp_X7_back (Q : Int32 → MI → MJ → Prop) (I : MI) (J : MJ) (x1 : Int32) : Prop :=
  wp_X7_within (fun r1 I1 J1 => (r1 = 0 → Q ((-1)) I1 J1) ∧
  (¬ (r1 = 0) → vp_in x1 2 ∧ (((I1 6 (1 + x1.toNatClampNeg) 4) = 0 → Q ((-2)) I1 J1) ∧
  (¬ ((I1 6 (1 + x1.toNatClampNeg) 4) = 0) → vp_in x1 2 ∧ (wp_X6_become (fun I6 J6 => Q ((up3 I6 7 0 13 0) 6 0 3) (up3 I6 7 0 13 0) J6) I1 J1 0 (1 + x1.toNatClampNeg)))))) I J x1 0 1
set_option maxRecDepth 20000 in
theorem c_X7_back {l : Launch} {g : Geo} {Q : Int32 → MI → MJ → Prop} {I : MI} {J : MJ} {x1 : Int32} (h : wp_X7_back Q I J x1) : Ct g l yX7_back cX7_back 2 (some .int) 3 103 [.ref (gad g 7 0), .int x1] I J (PI Q) := by
  refine Ct.of (by decide) ?_
  intro p e s m below meth c C
  have hR : 3 ≤ (Rm 3 103).frames ∧ 103 ≤ (Rm 3 103).locals := ⟨Nat.le_refl _, Nat.le_refl _⟩
  generalize Rm 3 103 = R at hR ⊢
  have hl := lv_entry ([.ref (gad g 7 0), .int x1]) (n := 2) (Nat.le_of_ble_eq_true rfl)
  rw [lg_entry_eq]
  generalize (lg_sl ([.ref (gad g 7 0), .int x1]) ++ List.replicate (2 - (lg_sl ([.ref (gad g 7 0), .int x1])).length) Slot.unset).toArray = ls at hl ⊢
  have hl : lv_has ls 2 [(0, .ref (gad g 7 0)), (1, .int x1)] := hl
  refine f_iload_n C dX7_back_0 rfl (lv_at hl 1 rfl) ?_
  refine f_iconst (v := 0) C dX7_back_1 (by decide) ?_
  refine f_iconst (v := 1) C dX7_back_2 (by decide) ?_
  refine f_cSi (As := [.int x1, .int 0, .int 1]) (rest := []) (n := 3) C (c_X7_within h) ok_X7_within sm_X7_within kw_RX7_78 ⟨Nat.le_trans (by decide) hR.1, Nat.le_trans (by decide) hR.2⟩ rfl hl.1 (Nat.le_of_ble_eq_true rfl) dX7_back_3 (fun r1 I1 J1 h => ?_)
  refine f_if_ne (tgt := 11) C dX7_back_6 (by decide) (fun c2 => ?_) (fun c2 => ?_)
  · replace h := h.2 c2
    refine f_aload_n C dX7_back_11 rfl (lv_at hl 0 rfl) ?_
    refine ge_RX7_16 C (by decide) dX7_back_12 ?_
    refine f_iload_n C dX7_back_15 rfl (lv_at hl 1 rfl) ?_
    obtain ⟨hi3, h⟩ := h
    refine f_aldY C (by decide) hi3 dX7_back_16 ?_
    refine ge_RX7_270 C (im_lt hi3) dX7_back_17 ?_
    refine f_if_ne (tgt := 26) C dX7_back_20 (by decide) (fun c4 => ?_) (fun c4 => ?_)
    · replace h := h.2 c4
      refine f_aload_n C dX7_back_26 rfl (lv_at hl 0 rfl) ?_
      refine ge_RX7_10 C (by decide) dX7_back_27 ?_
      refine f_aload_n C dX7_back_30 rfl (lv_at hl 0 rfl) ?_
      refine ge_RX7_16 C (by decide) dX7_back_31 ?_
      refine f_iload_n C dX7_back_34 rfl (lv_at hl 1 rfl) ?_
      obtain ⟨hi5, h⟩ := h
      refine f_aldY C (by decide) hi5 dX7_back_35 ?_
      refine f_cVv (As := [.ref (gad g 6 (1 + x1.toNatClampNeg))]) (rest := []) (n := 1) (T0 := TX6) (N := 5) C (c_X6_become (by decide) (im_lt hi5) h) ok_X6_become im_X6_become se_X6_become kw_RX7_267 ⟨Nat.le_trans (by decide) hR.1, Nat.le_trans (by decide) hR.2⟩ (by decide) rfl rfl rfl hl.1 (Nat.le_of_ble_eq_true rfl) dX7_back_36 (fun I6 J6 h => ?_)
      refine f_aload_n C dX7_back_39 rfl (lv_at hl 0 rfl) ?_
      refine f_iconst (v := 0) C dX7_back_40 (by decide) ?_
      refine pu_RX7_168 C (by decide) dX7_back_41 ?_
      refine f_aload_n C dX7_back_44 rfl (lv_at hl 0 rfl) ?_
      refine ge_RX7_10 C (by decide) dX7_back_45 ?_
      refine ge_RX7_171 C (by decide) dX7_back_48 ?_
      exact f_iret C h dX7_back_51
    · replace h := h.1 c4
      refine f_bipush (v := (-2)) C dX7_back_23 (by decide) ?_
      exact f_iret C h dX7_back_25
  · replace h := h.1 c2
    refine f_iconst (v := (-1)) C dX7_back_9 (by decide) ?_
    exact f_iret C h dX7_back_10

def wp_X7_count (Q : Int32 → MI → MJ → Prop) (I : MI) (J : MJ) (x1 : Int32) : Prop :=
  (x1 = 0 → Q (I 6 0 1) I J) ∧
  (¬ (x1 = 0) → (x1 = 1 → Q (I 6 0 3) I J) ∧
  (¬ (x1 = 1) → (x1 = 2 → Q (I 3 0 1) I J) ∧
  (¬ (x1 = 2) → (x1 = 3 → Q (I 6 0 2) I J) ∧
  (¬ (x1 = 3) → Q ((-1000000)) I J))))
set_option maxRecDepth 20000 in
theorem c_X7_count {l : Launch} {g : Geo} {Q : Int32 → MI → MJ → Prop} {I : MI} {J : MJ} {x1 : Int32} (h : wp_X7_count Q I J x1) : Ct g l yX7_count cX7_count 2 (some .int) 0 0 [.ref (gad g 7 0), .int x1] I J (PI Q) := by
  refine Ct.of (by decide) ?_
  intro p e s m below meth c C
  have hR : 0 ≤ (Rm 0 0).frames ∧ 0 ≤ (Rm 0 0).locals := ⟨Nat.le_refl _, Nat.le_refl _⟩
  generalize Rm 0 0 = R at hR ⊢
  have hl := lv_entry ([.ref (gad g 7 0), .int x1]) (n := 2) (Nat.le_of_ble_eq_true rfl)
  rw [lg_entry_eq]
  generalize (lg_sl ([.ref (gad g 7 0), .int x1]) ++ List.replicate (2 - (lg_sl ([.ref (gad g 7 0), .int x1])).length) Slot.unset).toArray = ls at hl ⊢
  have hl : lv_has ls 2 [(0, .ref (gad g 7 0)), (1, .int x1)] := hl
  refine f_iload_n C dX7_count_0 rfl (lv_at hl 1 rfl) ?_
  by_cases c1 : x1 = 0
  · replace h := h.1 c1
    refine f_tableIn (tgt := 32) (off := 31) C dX7_count_1 (by rw [c1]; decide) (by rw [c1]; decide) (by rw [c1]; decide) (by decide) ?_
    refine f_aload_n C dX7_count_32 rfl (lv_at hl 0 rfl) ?_
    refine ge_RX7_10 C (by decide) dX7_count_33 ?_
    refine ge_RX7_82 C (by decide) dX7_count_36 ?_
    exact f_iret C h dX7_count_39
  replace h := h.2 c1
  by_cases c2 : x1 = 1
  · replace h := h.1 c2
    refine f_tableIn (tgt := 40) (off := 39) C dX7_count_1 (by rw [c2]; decide) (by rw [c2]; decide) (by rw [c2]; decide) (by decide) ?_
    refine f_aload_n C dX7_count_40 rfl (lv_at hl 0 rfl) ?_
    refine ge_RX7_10 C (by decide) dX7_count_41 ?_
    refine ge_RX7_171 C (by decide) dX7_count_44 ?_
    exact f_iret C h dX7_count_47
  replace h := h.2 c2
  by_cases c3 : x1 = 2
  · replace h := h.1 c3
    refine f_tableIn (tgt := 48) (off := 47) C dX7_count_1 (by rw [c3]; decide) (by rw [c3]; decide) (by rw [c3]; decide) (by decide) ?_
    refine f_aload_n C dX7_count_48 rfl (lv_at hl 0 rfl) ?_
    refine ge_RX7_27 C (by decide) dX7_count_49 ?_
    refine ge_RX7_136 C (by decide) dX7_count_52 ?_
    exact f_iret C h dX7_count_55
  replace h := h.2 c3
  by_cases c4 : x1 = 3
  · replace h := h.1 c4
    refine f_tableIn (tgt := 56) (off := 55) C dX7_count_1 (by rw [c4]; decide) (by rw [c4]; decide) (by rw [c4]; decide) (by decide) ?_
    refine f_aload_n C dX7_count_56 rfl (lv_at hl 0 rfl) ?_
    refine ge_RX7_10 C (by decide) dX7_count_57 ?_
    refine ge_RX7_133 C (by decide) dX7_count_60 ?_
    exact f_iret C h dX7_count_63
  replace h := h.2 c4
  refine f_tableOut (tgt := 64) C dX7_count_1 (by have e1 := ne_toInt (z := 0) c1 (by decide); have e2 := ne_toInt (z := 1) c2 (by decide); have e3 := ne_toInt (z := 2) c3 (by decide); have e4 := ne_toInt (z := 3) c4 (by decide); omega) (by decide) ?_
  refine f_ldc C kc_RX7_101 dX7_count_64 ?_
  exact f_iret C h dX7_count_66

def wp_X7_trace (Q : Int64 → MI → MJ → Prop) (I : MI) (J : MJ) : Prop :=
  Q (J 7 0 14) I J
set_option maxRecDepth 20000 in
theorem c_X7_trace {l : Launch} {g : Geo} {Q : Int64 → MI → MJ → Prop} {I : MI} {J : MJ} (h : wp_X7_trace Q I J) : Ct g l yX7_trace cX7_trace 1 (some .long) 0 0 [.ref (gad g 7 0)] I J (PL Q) := by
  refine Ct.of (by decide) ?_
  intro p e s m below meth c C
  have hR : 0 ≤ (Rm 0 0).frames ∧ 0 ≤ (Rm 0 0).locals := ⟨Nat.le_refl _, Nat.le_refl _⟩
  generalize Rm 0 0 = R at hR ⊢
  have hl := lv_entry ([.ref (gad g 7 0)]) (n := 1) (Nat.le_of_ble_eq_true rfl)
  rw [lg_entry_eq]
  generalize (lg_sl ([.ref (gad g 7 0)]) ++ List.replicate (1 - (lg_sl ([.ref (gad g 7 0)])).length) Slot.unset).toArray = ls at hl ⊢
  have hl : lv_has ls 1 [(0, .ref (gad g 7 0))] := hl
  refine f_aload_n C dX7_trace_0 rfl (lv_at hl 0 rfl) ?_
  refine ge_RX7_273 C (by decide) dX7_trace_1 ?_
  exact f_lret C h dX7_trace_4

def wp_X8_in (Q : Int32 → MI → MJ → Prop) (I : MI) (J : MJ) (x0 : Int32) (x1 : Int32) (x2 : Int32) : Prop :=
  (x0 < x1 → Q 0 I J) ∧
  (¬ (x0 < x1) → (x2 < x0 → Q 0 I J) ∧
  (¬ (x2 < x0) → Q 1 I J))
set_option maxRecDepth 20000 in
theorem c_X8_in {l : Launch} {g : Geo} {Q : Int32 → MI → MJ → Prop} {I : MI} {J : MJ} {x0 : Int32} {x1 : Int32} {x2 : Int32} (h : wp_X8_in Q I J x0 x1 x2) : Ct g l yX8_in cX8_in 3 (some .boolean) 0 0 [.int x0, .int x1, .int x2] I J (PI Q) := by
  refine Ct.of (by decide) ?_
  intro p e s m below meth c C
  have hR : 0 ≤ (Rm 0 0).frames ∧ 0 ≤ (Rm 0 0).locals := ⟨Nat.le_refl _, Nat.le_refl _⟩
  generalize Rm 0 0 = R at hR ⊢
  have hl := lv_entry ([.int x0, .int x1, .int x2]) (n := 3) (Nat.le_of_ble_eq_true rfl)
  rw [lg_entry_eq]
  generalize (lg_sl ([.int x0, .int x1, .int x2]) ++ List.replicate (3 - (lg_sl ([.int x0, .int x1, .int x2])).length) Slot.unset).toArray = ls at hl ⊢
  have hl : lv_has ls 3 [(0, .int x0), (1, .int x1), (2, .int x2)] := hl
  refine f_iload_n C dX8_in_0 rfl (lv_at hl 0 rfl) ?_
  refine f_iload_n C dX8_in_1 rfl (lv_at hl 1 rfl) ?_
  refine f_icmp_lt (tgt := 14) C dX8_in_2 (by decide) (fun c1 => ?_) (fun c1 => ?_)
  · replace h := h.1 c1
    refine f_iconst (v := 0) C dX8_in_14 (by decide) ?_
    exact f_zret C (Or.inl rfl) h dX8_in_15
  · replace h := h.2 c1
    refine f_iload_n C dX8_in_5 rfl (lv_at hl 0 rfl) ?_
    refine f_iload_n C dX8_in_6 rfl (lv_at hl 2 rfl) ?_
    refine f_icmp_gt (tgt := 14) C dX8_in_7 (by decide) (fun c2 => ?_) (fun c2 => ?_)
    · replace h := h.1 c2
      refine f_iconst (v := 0) C dX8_in_14 (by decide) ?_
      exact f_zret C (Or.inl rfl) h dX8_in_15
    · replace h := h.2 c2
      refine f_iconst (v := 1) C dX8_in_10 (by decide) ?_
      refine f_goto (tgt := 15) C dX8_in_11 (by decide) ?_
      exact f_zret C (Or.inr rfl) h dX8_in_15

def wp_X8_within (Q : Int32 → MI → MJ → Prop) (I : MI) (J : MJ) (x0 : Int32) (x1 : Int32) (x2 : Int32) : Prop :=
  (x1 ≤ x0 → (x0 ≤ x2 → Q x0 I J) ∧
  (¬ (x0 ≤ x2) → Q x2 I J)) ∧
  (¬ (x1 ≤ x0) → Q x1 I J)
set_option maxRecDepth 20000 in
theorem c_X8_within {l : Launch} {g : Geo} {Q : Int32 → MI → MJ → Prop} {I : MI} {J : MJ} {x0 : Int32} {x1 : Int32} {x2 : Int32} (h : wp_X8_within Q I J x0 x1 x2) : Ct g l yX8_within cX8_within 3 (some .int) 0 0 [.int x0, .int x1, .int x2] I J (PI Q) := by
  refine Ct.of (by decide) ?_
  intro p e s m below meth c C
  have hR : 0 ≤ (Rm 0 0).frames ∧ 0 ≤ (Rm 0 0).locals := ⟨Nat.le_refl _, Nat.le_refl _⟩
  generalize Rm 0 0 = R at hR ⊢
  have hl := lv_entry ([.int x0, .int x1, .int x2]) (n := 3) (Nat.le_of_ble_eq_true rfl)
  rw [lg_entry_eq]
  generalize (lg_sl ([.int x0, .int x1, .int x2]) ++ List.replicate (3 - (lg_sl ([.int x0, .int x1, .int x2])).length) Slot.unset).toArray = ls at hl ⊢
  have hl : lv_has ls 3 [(0, .int x0), (1, .int x1), (2, .int x2)] := hl
  refine f_iload_n C dX8_within_0 rfl (lv_at hl 0 rfl) ?_
  refine f_iload_n C dX8_within_1 rfl (lv_at hl 1 rfl) ?_
  refine f_icmp_ge (tgt := 9) C dX8_within_2 (by decide) (fun c1 => ?_) (fun c1 => ?_)
  · replace h := h.1 c1
    refine f_iload_n C dX8_within_9 rfl (lv_at hl 0 rfl) ?_
    refine f_iload_n C dX8_within_10 rfl (lv_at hl 2 rfl) ?_
    refine f_icmp_le (tgt := 18) C dX8_within_11 (by decide) (fun c2 => ?_) (fun c2 => ?_)
    · replace h := h.1 c2
      refine f_iload_n C dX8_within_18 rfl (lv_at hl 0 rfl) ?_
      exact f_iret C h dX8_within_19
    · replace h := h.2 c2
      refine f_iload_n C dX8_within_14 rfl (lv_at hl 2 rfl) ?_
      refine f_goto (tgt := 19) C dX8_within_15 (by decide) ?_
      exact f_iret C h dX8_within_19
  · replace h := h.2 c1
    refine f_iload_n C dX8_within_5 rfl (lv_at hl 1 rfl) ?_
    refine f_goto (tgt := 19) C dX8_within_6 (by decide) ?_
    exact f_iret C h dX8_within_19

def wp_X8_begins (Q : MI → MJ → Prop) (I : MI) (J : MJ) : Prop :=
  Q (up3 (up3 (up3 (up3 (up3 (up3 I 29 0 6 1) 29 0 7 1) 29 0 8 1) 29 0 9 1) 29 0 10 200) 29 0 11 200) J
set_option maxRecDepth 20000 in
theorem c_X8_begins {l : Launch} {g : Geo} {Q : MI → MJ → Prop} {I : MI} {J : MJ} (h : wp_X8_begins Q I J) : Ct g l yX8_begins cX8_begins 1 none 0 0 [.ref (gad g 8 0)] I J (PV Q) := by
  refine Ct.of (by decide) ?_
  intro p e s m below meth c C
  have hR : 0 ≤ (Rm 0 0).frames ∧ 0 ≤ (Rm 0 0).locals := ⟨Nat.le_refl _, Nat.le_refl _⟩
  generalize Rm 0 0 = R at hR ⊢
  have hl := lv_entry ([.ref (gad g 8 0)]) (n := 1) (Nat.le_of_ble_eq_true rfl)
  rw [lg_entry_eq]
  generalize (lg_sl ([.ref (gad g 8 0)]) ++ List.replicate (1 - (lg_sl ([.ref (gad g 8 0)])).length) Slot.unset).toArray = ls at hl ⊢
  have hl : lv_has ls 1 [(0, .ref (gad g 8 0))] := hl
  refine f_aload_n C dX8_begins_0 rfl (lv_at hl 0 rfl) ?_
  refine ge_RX8_23 C (by decide) dX8_begins_1 ?_
  refine f_bipush (v := 6) C dX8_begins_4 (by decide) ?_
  refine f_iconst (v := 1) C dX8_begins_6 (by decide) ?_
  refine as_k (n := 12) (k := 6) C (by decide) (fun _ => rfl) (by decide) (vin_k (by decide)) dX8_begins_7 ?_
  refine f_aload_n C dX8_begins_8 rfl (lv_at hl 0 rfl) ?_
  refine ge_RX8_23 C (by decide) dX8_begins_9 ?_
  refine f_bipush (v := 7) C dX8_begins_12 (by decide) ?_
  refine f_iconst (v := 1) C dX8_begins_14 (by decide) ?_
  refine as_k (n := 12) (k := 7) C (by decide) (fun _ => rfl) (by decide) (vin_k (by decide)) dX8_begins_15 ?_
  refine f_aload_n C dX8_begins_16 rfl (lv_at hl 0 rfl) ?_
  refine ge_RX8_23 C (by decide) dX8_begins_17 ?_
  refine f_bipush (v := 8) C dX8_begins_20 (by decide) ?_
  refine f_iconst (v := 1) C dX8_begins_22 (by decide) ?_
  refine as_k (n := 12) (k := 8) C (by decide) (fun _ => rfl) (by decide) (vin_k (by decide)) dX8_begins_23 ?_
  refine f_aload_n C dX8_begins_24 rfl (lv_at hl 0 rfl) ?_
  refine ge_RX8_23 C (by decide) dX8_begins_25 ?_
  refine f_bipush (v := 9) C dX8_begins_28 (by decide) ?_
  refine f_iconst (v := 1) C dX8_begins_30 (by decide) ?_
  refine as_k (n := 12) (k := 9) C (by decide) (fun _ => rfl) (by decide) (vin_k (by decide)) dX8_begins_31 ?_
  refine f_aload_n C dX8_begins_32 rfl (lv_at hl 0 rfl) ?_
  refine ge_RX8_23 C (by decide) dX8_begins_33 ?_
  refine f_bipush (v := 10) C dX8_begins_36 (by decide) ?_
  refine f_sipush (v := 200) C dX8_begins_38 (by decide) ?_
  refine as_k (n := 12) (k := 10) C (by decide) (fun _ => rfl) (by decide) (vin_k (by decide)) dX8_begins_41 ?_
  refine f_aload_n C dX8_begins_42 rfl (lv_at hl 0 rfl) ?_
  refine ge_RX8_23 C (by decide) dX8_begins_43 ?_
  refine f_bipush (v := 11) C dX8_begins_46 (by decide) ?_
  refine f_sipush (v := 200) C dX8_begins_48 (by decide) ?_
  refine as_k (n := 12) (k := 11) C (by decide) (fun _ => rfl) (by decide) (vin_k (by decide)) dX8_begins_51 ?_
  exact f_vret C h dX8_begins_52

def wp_X8_isRunner (Q : Int32 → MI → MJ → Prop) (I : MI) (J : MJ) (x1 : Int32) : Prop :=
  wp_X8_in (fun r1 I1 J1 => (r1 = 0 ∨ r1 = 1) ∧ Q r1 I1 J1) I J x1 0 ((I 25 0 168) - 1)
set_option maxRecDepth 20000 in
theorem c_X8_isRunner {l : Launch} {g : Geo} {Q : Int32 → MI → MJ → Prop} {I : MI} {J : MJ} {x1 : Int32} (h : wp_X8_isRunner Q I J x1) : Ct g l yX8_isRunner cX8_isRunner 2 (some .boolean) 1 22 [.ref (gad g 8 0), .int x1] I J (PI Q) := by
  refine Ct.of (by decide) ?_
  intro p e s m below meth c C
  have hR : 1 ≤ (Rm 1 22).frames ∧ 22 ≤ (Rm 1 22).locals := ⟨Nat.le_refl _, Nat.le_refl _⟩
  generalize Rm 1 22 = R at hR ⊢
  have hl := lv_entry ([.ref (gad g 8 0), .int x1]) (n := 2) (Nat.le_of_ble_eq_true rfl)
  rw [lg_entry_eq]
  generalize (lg_sl ([.ref (gad g 8 0), .int x1]) ++ List.replicate (2 - (lg_sl ([.ref (gad g 8 0), .int x1])).length) Slot.unset).toArray = ls at hl ⊢
  have hl : lv_has ls 2 [(0, .ref (gad g 8 0)), (1, .int x1)] := hl
  refine f_iload_n C dX8_isRunner_0 rfl (lv_at hl 1 rfl) ?_
  refine f_iconst (v := 0) C dX8_isRunner_1 (by decide) ?_
  refine f_aload_n C dX8_isRunner_2 rfl (lv_at hl 0 rfl) ?_
  refine ge_RX8_7 C (by decide) dX8_isRunner_3 ?_
  refine f_sipush (v := 168) C dX8_isRunner_6 (by decide) ?_
  refine al_k (n := 171) (k := 168) C (by decide) rfl (by decide) (vin_k (by decide)) dX8_isRunner_9 ?_
  refine f_iconst (v := 1) C dX8_isRunner_10 (by decide) ?_
  refine f_isub C dX8_isRunner_11 ?_
  refine f_cSi (As := [.int x1, .int 0, .int ((I 25 0 168) - 1)]) (rest := []) (n := 3) C (c_X8_in h) ok_X8_in sm_X8_in kw_RX8_61 ⟨Nat.le_trans (by decide) hR.1, Nat.le_trans (by decide) hR.2⟩ rfl hl.1 (Nat.le_of_ble_eq_true rfl) dX8_isRunner_12 (fun r1 I1 J1 h => ?_)
  obtain ⟨hb2, h⟩ := h
  exact f_zret C hb2 h dX8_isRunner_15

def B_X8_runner_48 (Q : Int32 → MI → MJ → Prop) (C48 : MI → MJ → Int32 → Int32 → Int32 → Prop) (I : MI) (J : MJ) (x1 : Int32) (x2 : Int32) (x3 : Int32) : Prop :=
  (21 ≤ x3 → Q (((up3 I 25 0 168 ((I 25 0 168) + 1)) 25 0 168) - 1) (up3 I 25 0 168 ((I 25 0 168) + 1)) J) ∧
  (¬ (21 ≤ x3) → (2 ≤ x3 → vp_in (x2 + x3) 171 ∧ (C48 (up3 I 25 0 ((x2 + x3).toNatClampNeg) 0) J x1 x2 (x3 + 1))) ∧
  (¬ (2 ≤ x3) → vp_in (x2 + x3) 171 ∧ (C48 (up3 I 25 0 ((x2 + x3).toNatClampNeg) x1) J x1 x2 (x3 + 1))))
set_option maxRecDepth 20000 in
theorem b_X8_runner_48 {p : Program} {l : Launch} {e : Env} {R : Room} {s : State} {m : MethodId} {args : Array Value} {below : List Frame} {meth : Method} {c : Code} {g : Geo} (C : Cx g p s m args meth c cX8_runner 4 RX8 (some .int)) (hR : 1 ≤ R.frames ∧ 22 ≤ R.locals) {Q : Int32 → MI → MJ → Prop} {C48 : MI → MJ → Int32 → Int32 → Int32 → Prop} (hC48 : ∀ (I : MI) (J : MJ) (x1 : Int32) (x2 : Int32) (x3 : Int32), C48 I J x1 x2 x3 → ∀ ls : Array Slot, lv_has ls 4 [(0, .ref (gad g 8 0)), (1, .int x1), (2, .int x2), (3, .int x3)] → Wf p l e R s m args below meth c (MQ below (Qg g (PI Q)) args s 0 0 (gA g)) g I J (F0 m 48 ls [])) {I : MI} {J : MJ} {x1 : Int32} {x2 : Int32} {x3 : Int32} (h : B_X8_runner_48 Q C48 I J x1 x2 x3) (ls : Array Slot) (hl : lv_has ls 4 [(0, .ref (gad g 8 0)), (1, .int x1), (2, .int x2), (3, .int x3)]) : Wf p l e R s m args below meth c (MQ below (Qg g (PI Q)) args s 0 0 (gA g)) g I J (F0 m 48 ls []) := by
  refine f_iload_n C dX8_runner_48 rfl (lv_at hl 3 rfl) ?_
  refine f_bipush (v := 21) C dX8_runner_49 (by decide) ?_
  refine f_icmp_ge (tgt := 78) C dX8_runner_51 (by decide) (fun c4 => ?_) (fun c4 => ?_)
  · replace h := h.1 c4
    refine f_aload_n C dX8_runner_78 rfl (lv_at hl 0 rfl) ?_
    refine ge_RX8_7 C (by decide) dX8_runner_79 ?_
    refine f_sipush (v := 168) C dX8_runner_82 (by decide) ?_
    refine f_dup2_11 C dX8_runner_85 rfl rfl ?_
    refine al_k (n := 171) (k := 168) C (by decide) rfl (by decide) (vin_k (by decide)) dX8_runner_86 ?_
    refine f_iconst (v := 1) C dX8_runner_87 (by decide) ?_
    refine f_iadd C dX8_runner_88 ?_
    refine as_k (n := 171) (k := 168) C (by decide) (fun _ => rfl) (by decide) (vin_k (by decide)) dX8_runner_89 ?_
    refine f_aload_n C dX8_runner_90 rfl (lv_at hl 0 rfl) ?_
    refine ge_RX8_7 C (by decide) dX8_runner_91 ?_
    refine f_sipush (v := 168) C dX8_runner_94 (by decide) ?_
    refine al_k (n := 171) (k := 168) C (by decide) rfl (by decide) (vin_k (by decide)) dX8_runner_97 ?_
    refine f_iconst (v := 1) C dX8_runner_98 (by decide) ?_
    refine f_isub C dX8_runner_99 ?_
    exact f_iret C h dX8_runner_100
  · replace h := h.2 c4
    refine f_aload_n C dX8_runner_54 rfl (lv_at hl 0 rfl) ?_
    refine ge_RX8_7 C (by decide) dX8_runner_55 ?_
    refine f_iload_n C dX8_runner_58 rfl (lv_at hl 2 rfl) ?_
    refine f_iload_n C dX8_runner_59 rfl (lv_at hl 3 rfl) ?_
    refine f_iadd C dX8_runner_60 ?_
    refine f_iload_n C dX8_runner_61 rfl (lv_at hl 3 rfl) ?_
    refine f_iconst (v := 2) C dX8_runner_62 (by decide) ?_
    refine f_icmp_ge (tgt := 70) C dX8_runner_63 (by decide) (fun c5 => ?_) (fun c5 => ?_)
    · replace h := h.1 c5
      refine f_iconst (v := 0) C dX8_runner_70 (by decide) ?_
      obtain ⟨hi6, h⟩ := h
      refine as_k (n := 171) (k := (x2 + x3).toNatClampNeg) C (by decide) (fun _ => rfl) rfl hi6 dX8_runner_71 ?_
      refine f_iinc (v := x3 + 1) (lv' := [(3, .int (x3 + 1)), (0, .ref (gad g 8 0)), (1, .int x1), (2, .int x2)]) C dX8_runner_72 hl (k := 3) rfl rfl (by decide) rfl (fun ls hl => ?_)
      refine f_goto (tgt := 48) C dX8_runner_75 (by decide) ?_
      exact hC48 _ _ _ _ _ h ls (lv_sub hl [1, 2, 3, 0] rfl)
    · replace h := h.2 c5
      refine f_iload_n C dX8_runner_66 rfl (lv_at hl 1 rfl) ?_
      refine f_goto (tgt := 71) C dX8_runner_67 (by decide) ?_
      obtain ⟨hi7, h⟩ := h
      refine as_k (n := 171) (k := (x2 + x3).toNatClampNeg) C (by decide) (fun _ => rfl) rfl hi7 dX8_runner_71 ?_
      refine f_iinc (v := x3 + 1) (lv' := [(3, .int (x3 + 1)), (0, .ref (gad g 8 0)), (1, .int x1), (2, .int x2)]) C dX8_runner_72 hl (k := 3) rfl rfl (by decide) rfl (fun ls hl => ?_)
      refine f_goto (tgt := 48) C dX8_runner_75 (by decide) ?_
      exact hC48 _ _ _ _ _ h ls (lv_sub hl [1, 2, 3, 0] rfl)

def L_X8_runner_48 (Q : Int32 → MI → MJ → Prop) : Nat → MI → MJ → Int32 → Int32 → Int32 → Prop
  | 0 => fun _ _ _ _ _ => False
  | n + 1 => fun I J x1 x2 x3 => B_X8_runner_48 Q (L_X8_runner_48 Q n) I J x1 x2 x3
theorem t_X8_runner_48 {p : Program} {l : Launch} {e : Env} {R : Room} {s : State} {m : MethodId} {args : Array Value} {below : List Frame} {meth : Method} {c : Code} {g : Geo} (C : Cx g p s m args meth c cX8_runner 4 RX8 (some .int)) (hR : 1 ≤ R.frames ∧ 22 ≤ R.locals) {Q : Int32 → MI → MJ → Prop} : ∀ (n : Nat), ∀ (I : MI) (J : MJ) (x1 : Int32) (x2 : Int32) (x3 : Int32), L_X8_runner_48 Q n I J x1 x2 x3 → ∀ ls : Array Slot, lv_has ls 4 [(0, .ref (gad g 8 0)), (1, .int x1), (2, .int x2), (3, .int x3)] → Wf p l e R s m args below meth c (MQ below (Qg g (PI Q)) args s 0 0 (gA g)) g I J (F0 m 48 ls []) := by
  intro n
  induction n with
  | zero => intro I J x1 x2 x3 h; exact h.elim
  | succ n ih => intro I J x1 x2 x3 h ls hl; exact b_X8_runner_48 C hR ih h ls hl
def wp_X8_runner (Q : Int32 → MI → MJ → Prop) (I : MI) (J : MJ) (x1 : Int32) : Prop :=
  wp_X8_in (fun r1 I1 J1 => (r1 = 0 → Q ((-1)) I1 J1) ∧
  (¬ (r1 = 0) → ((I1 25 0 168) = 8 → Q ((-3)) I1 J1) ∧
  (¬ ((I1 25 0 168) = 8) → ∃ n : Nat, L_X8_runner_48 Q n I1 J1 x1 (21 * (I1 25 0 168)) 0))) (up3 I 8 0 0 0) J x1 0 200
set_option maxRecDepth 20000 in
theorem c_X8_runner {l : Launch} {g : Geo} {Q : Int32 → MI → MJ → Prop} {I : MI} {J : MJ} {x1 : Int32} (h : wp_X8_runner Q I J x1) : Ct g l yX8_runner cX8_runner 4 (some .int) 1 22 [.ref (gad g 8 0), .int x1] I J (PI Q) := by
  refine Ct.of (by decide) ?_
  intro p e s m below meth c C
  have hR : 1 ≤ (Rm 1 22).frames ∧ 22 ≤ (Rm 1 22).locals := ⟨Nat.le_refl _, Nat.le_refl _⟩
  generalize Rm 1 22 = R at hR ⊢
  have hl := lv_entry ([.ref (gad g 8 0), .int x1]) (n := 4) (Nat.le_of_ble_eq_true rfl)
  rw [lg_entry_eq]
  generalize (lg_sl ([.ref (gad g 8 0), .int x1]) ++ List.replicate (4 - (lg_sl ([.ref (gad g 8 0), .int x1])).length) Slot.unset).toArray = ls at hl ⊢
  have hl : lv_has ls 4 [(0, .ref (gad g 8 0)), (1, .int x1)] := hl
  refine f_aload_n C dX8_runner_0 rfl (lv_at hl 0 rfl) ?_
  refine f_iconst (v := 0) C dX8_runner_1 (by decide) ?_
  refine pu_RX8_57 C (by decide) dX8_runner_2 ?_
  refine f_iload_n C dX8_runner_5 rfl (lv_at hl 1 rfl) ?_
  refine f_iconst (v := 0) C dX8_runner_6 (by decide) ?_
  refine f_sipush (v := 200) C dX8_runner_7 (by decide) ?_
  refine f_cSi (As := [.int x1, .int 0, .int 200]) (rest := []) (n := 3) C (c_X8_in h) ok_X8_in sm_X8_in kw_RX8_61 ⟨Nat.le_trans (by decide) hR.1, Nat.le_trans (by decide) hR.2⟩ rfl hl.1 (Nat.le_of_ble_eq_true rfl) dX8_runner_10 (fun r1 I1 J1 h => ?_)
  refine f_if_ne (tgt := 18) C dX8_runner_13 (by decide) (fun c2 => ?_) (fun c2 => ?_)
  · replace h := h.2 c2
    refine f_aload_n C dX8_runner_18 rfl (lv_at hl 0 rfl) ?_
    refine ge_RX8_7 C (by decide) dX8_runner_19 ?_
    refine f_sipush (v := 168) C dX8_runner_22 (by decide) ?_
    refine al_k (n := 171) (k := 168) C (by decide) rfl (by decide) (vin_k (by decide)) dX8_runner_25 ?_
    refine f_bipush (v := 8) C dX8_runner_26 (by decide) ?_
    refine f_icmp_ne (tgt := 34) C dX8_runner_28 (by decide) (fun c3 => ?_) (fun c3 => ?_)
    · replace h := h.2 c3
      refine f_bipush (v := 21) C dX8_runner_34 (by decide) ?_
      refine f_aload_n C dX8_runner_36 rfl (lv_at hl 0 rfl) ?_
      refine ge_RX8_7 C (by decide) dX8_runner_37 ?_
      refine f_sipush (v := 168) C dX8_runner_40 (by decide) ?_
      refine al_k (n := 171) (k := 168) C (by decide) rfl (by decide) (vin_k (by decide)) dX8_runner_43 ?_
      refine f_imul C dX8_runner_44 ?_
      refine f_istore_n (lv' := [(2, .int (21 * (I1 25 0 168))), (0, .ref (gad g 8 0)), (1, .int x1)]) C dX8_runner_45 rfl hl (by decide) rfl (fun ls hl => ?_)
      refine f_iconst (v := 0) C dX8_runner_46 (by decide) ?_
      refine f_istore_n (lv' := [(3, .int 0), (2, .int (21 * (I1 25 0 168))), (0, .ref (gad g 8 0)), (1, .int x1)]) C dX8_runner_47 rfl hl (by decide) rfl (fun ls hl => ?_)
      obtain ⟨n, h⟩ := h
      exact t_X8_runner_48 C hR n _ _ _ _ _ h ls (lv_sub hl [2, 3, 1, 0] rfl)
    · replace h := h.1 c3
      refine f_bipush (v := (-3)) C dX8_runner_31 (by decide) ?_
      exact f_iret C h dX8_runner_33
  · replace h := h.1 c2
    refine f_iconst (v := (-1)) C dX8_runner_16 (by decide) ?_
    exact f_iret C h dX8_runner_17

def J_X8_set_123 (Q : Int32 → MI → MJ → Prop) (I : MI) (J : MJ) (x3 : Int32) (s0 : Int32) (s1 : Int32) : Prop :=
  vp_in (s1 + s0) 171 ∧ (∀ v14 : Int32, v14 = I 25 0 ((s1 + s0).toNatClampNeg) → (vp_in (s1 + s0) 171 ∧ (Q v14 (up3 I 25 0 ((s1 + s0).toNatClampNeg) x3) J)))
set_option maxRecDepth 20000 in
theorem t_X8_set_123 {p : Program} {l : Launch} {e : Env} {R : Room} {s : State} {m : MethodId} {args : Array Value} {below : List Frame} {meth : Method} {c : Code} {g : Geo} (C : Cx g p s m args meth c cX8_set 7 RX8 (some .int)) (hR : 2 ≤ R.frames ∧ 43 ≤ R.locals) {Q : Int32 → MI → MJ → Prop} {I : MI} {J : MJ} {x3 : Int32} {s0 : Int32} {s1 : Int32} (h : J_X8_set_123 Q I J x3 s0 s1) (ls : Array Slot) (hl : lv_has ls 7 [(0, .ref (gad g 8 0)), (3, .int x3)]) : Wf p l e R s m args below meth c (MQ below (Qg g (PI Q)) args s 0 0 (gA g)) g I J (F0 m 123 ls [.int s0, .int s1]) := by
  refine f_iadd C dX8_set_123 ?_
  refine f_istore (lv' := [(5, .int (s1 + s0)), (0, .ref (gad g 8 0)), (3, .int x3)]) C dX8_set_124 hl (by decide) rfl (fun ls hl => ?_)
  refine f_aload_n C dX8_set_126 rfl (lv_at hl 1 rfl) ?_
  refine ge_RX8_7 C (by decide) dX8_set_127 ?_
  refine f_iload C dX8_set_130 (lv_at hl 0 rfl) ?_
  obtain ⟨hi13, h⟩ := h
  refine al_k (n := 171) (k := (s1 + s0).toNatClampNeg) C (by decide) rfl rfl hi13 dX8_set_132 ?_
  generalize hv14 : I 25 0 ((s1 + s0).toNatClampNeg) = v14
  replace h := h v14 hv14.symm
  refine f_istore (lv' := [(6, .int v14), (5, .int (s1 + s0)), (0, .ref (gad g 8 0)), (3, .int x3)]) C dX8_set_133 hl (by decide) rfl (fun ls hl => ?_)
  refine f_aload_n C dX8_set_135 rfl (lv_at hl 2 rfl) ?_
  refine ge_RX8_7 C (by decide) dX8_set_136 ?_
  refine f_iload C dX8_set_139 (lv_at hl 1 rfl) ?_
  refine f_iload_n C dX8_set_141 rfl (lv_at hl 3 rfl) ?_
  obtain ⟨hi15, h⟩ := h
  refine as_k (n := 171) (k := (s1 + s0).toNatClampNeg) C (by decide) (fun _ => rfl) rfl hi15 dX8_set_142 ?_
  refine f_iload C dX8_set_143 (lv_at hl 0 rfl) ?_
  exact f_iret C h dX8_set_145

def J_X8_set_78 (Q : Int32 → MI → MJ → Prop) (I : MI) (J : MJ) (x1 : Int32) (x2 : Int32) (x3 : Int32) (s0 : Int32) : Prop :=
  (s0 = 0 → Q ((-1000000)) I J) ∧
  (¬ (s0 = 0) → (x2 = 0 → J_X8_set_123 Q I J x3 2 (21 * x1)) ∧
  (¬ (x2 = 0) → (x2 = 1 → J_X8_set_123 Q I J x3 3 (21 * x1)) ∧
  (¬ (x2 = 1) → (x2 = 5 → J_X8_set_123 Q I J x3 1 (21 * x1)) ∧
  (¬ (x2 = 5) → J_X8_set_123 Q I J x3 ((4 + x2) - 2) (21 * x1)))))
set_option maxRecDepth 20000 in
theorem t_X8_set_78 {p : Program} {l : Launch} {e : Env} {R : Room} {s : State} {m : MethodId} {args : Array Value} {below : List Frame} {meth : Method} {c : Code} {g : Geo} (C : Cx g p s m args meth c cX8_set 7 RX8 (some .int)) (hR : 2 ≤ R.frames ∧ 43 ≤ R.locals) {Q : Int32 → MI → MJ → Prop} {I : MI} {J : MJ} {x1 : Int32} {x2 : Int32} {x3 : Int32} {s0 : Int32} (h : J_X8_set_78 Q I J x1 x2 x3 s0) (ls : Array Slot) (hl : lv_has ls 7 [(0, .ref (gad g 8 0)), (1, .int x1), (2, .int x2), (3, .int x3)]) : Wf p l e R s m args below meth c (MQ below (Qg g (PI Q)) args s 0 0 (gA g)) g I J (F0 m 78 ls [.int s0]) := by
  refine f_istore (lv' := [(4, .int s0), (0, .ref (gad g 8 0)), (1, .int x1), (2, .int x2), (3, .int x3)]) C dX8_set_78 hl (by decide) rfl (fun ls hl => ?_)
  refine f_iload C dX8_set_80 (lv_at hl 0 rfl) ?_
  refine f_if_ne (tgt := 88) C dX8_set_82 (by decide) (fun c9 => ?_) (fun c9 => ?_)
  · replace h := h.2 c9
    refine f_bipush (v := 21) C dX8_set_88 (by decide) ?_
    refine f_iload_n C dX8_set_90 rfl (lv_at hl 2 rfl) ?_
    refine f_imul C dX8_set_91 ?_
    refine f_iload_n C dX8_set_92 rfl (lv_at hl 3 rfl) ?_
    refine f_if_ne (tgt := 100) C dX8_set_93 (by decide) (fun c10 => ?_) (fun c10 => ?_)
    · replace h := h.2 c10
      refine f_iload_n C dX8_set_100 rfl (lv_at hl 3 rfl) ?_
      refine f_iconst (v := 1) C dX8_set_101 (by decide) ?_
      refine f_icmp_ne (tgt := 109) C dX8_set_102 (by decide) (fun c11 => ?_) (fun c11 => ?_)
      · replace h := h.2 c11
        refine f_iload_n C dX8_set_109 rfl (lv_at hl 3 rfl) ?_
        refine f_iconst (v := 5) C dX8_set_110 (by decide) ?_
        refine f_icmp_ne (tgt := 118) C dX8_set_111 (by decide) (fun c12 => ?_) (fun c12 => ?_)
        · replace h := h.2 c12
          refine f_iconst (v := 4) C dX8_set_118 (by decide) ?_
          refine f_iload_n C dX8_set_119 rfl (lv_at hl 3 rfl) ?_
          refine f_iadd C dX8_set_120 ?_
          refine f_iconst (v := 2) C dX8_set_121 (by decide) ?_
          refine f_isub C dX8_set_122 ?_
          exact t_X8_set_123 C hR h ls (lv_sub hl [1, 4] rfl)
        · replace h := h.1 c12
          refine f_iconst (v := 1) C dX8_set_114 (by decide) ?_
          refine f_goto (tgt := 123) C dX8_set_115 (by decide) ?_
          exact t_X8_set_123 C hR h ls (lv_sub hl [1, 4] rfl)
      · replace h := h.1 c11
        refine f_iconst (v := 3) C dX8_set_105 (by decide) ?_
        refine f_goto (tgt := 123) C dX8_set_106 (by decide) ?_
        exact t_X8_set_123 C hR h ls (lv_sub hl [1, 4] rfl)
    · replace h := h.1 c10
      refine f_iconst (v := 2) C dX8_set_96 (by decide) ?_
      refine f_goto (tgt := 123) C dX8_set_97 (by decide) ?_
      exact t_X8_set_123 C hR h ls (lv_sub hl [1, 4] rfl)
  · replace h := h.1 c9
    refine f_ldc C kc_RX8_69 dX8_set_85 ?_
    exact f_iret C h dX8_set_87

def wp_X8_set (Q : Int32 → MI → MJ → Prop) (I : MI) (J : MJ) (x1 : Int32) (x2 : Int32) (x3 : Int32) : Prop :=
  wp_X8_isRunner (fun r1 I1 J1 => (r1 = 0 → Q ((-1000000)) I1 J1) ∧
  (¬ (r1 = 0) → wp_X8_in (fun r3 I3 J3 => (r3 = 0 → Q ((-1000000)) I3 J3) ∧
  (¬ (r3 = 0) → (x2 = 0 → wp_X8_in (fun r18 I18 J18 => J_X8_set_78 Q I18 J18 x1 x2 x3 r18) I3 J3 x3 0 2) ∧
  (¬ (x2 = 0) → (x2 = 1 → wp_X8_in (fun r17 I17 J17 => J_X8_set_78 Q I17 J17 x1 x2 x3 r17) I3 J3 x3 ((-9)) 9) ∧
  (¬ (x2 = 1) → (x2 = 5 → wp_X8_in (fun r16 I16 J16 => J_X8_set_78 Q I16 J16 x1 x2 x3 r16) I3 J3 x3 0 200) ∧
  (¬ (x2 = 5) → wp_X8_in (fun r8 I8 J8 => J_X8_set_78 Q I8 J8 x1 x2 x3 r8) I3 J3 x3 ((-20)) 20))))) I1 J1 x2 0 5)) (up3 I 8 0 0 0) J x1
set_option maxRecDepth 20000 in
theorem c_X8_set {l : Launch} {g : Geo} {Q : Int32 → MI → MJ → Prop} {I : MI} {J : MJ} {x1 : Int32} {x2 : Int32} {x3 : Int32} (h : wp_X8_set Q I J x1 x2 x3) : Ct g l yX8_set cX8_set 7 (some .int) 2 43 [.ref (gad g 8 0), .int x1, .int x2, .int x3] I J (PI Q) := by
  refine Ct.of (by decide) ?_
  intro p e s m below meth c C
  have hR : 2 ≤ (Rm 2 43).frames ∧ 43 ≤ (Rm 2 43).locals := ⟨Nat.le_refl _, Nat.le_refl _⟩
  generalize Rm 2 43 = R at hR ⊢
  have hl := lv_entry ([.ref (gad g 8 0), .int x1, .int x2, .int x3]) (n := 7) (Nat.le_of_ble_eq_true rfl)
  rw [lg_entry_eq]
  generalize (lg_sl ([.ref (gad g 8 0), .int x1, .int x2, .int x3]) ++ List.replicate (7 - (lg_sl ([.ref (gad g 8 0), .int x1, .int x2, .int x3])).length) Slot.unset).toArray = ls at hl ⊢
  have hl : lv_has ls 7 [(0, .ref (gad g 8 0)), (1, .int x1), (2, .int x2), (3, .int x3)] := hl
  refine f_aload_n C dX8_set_0 rfl (lv_at hl 0 rfl) ?_
  refine f_iconst (v := 0) C dX8_set_1 (by decide) ?_
  refine pu_RX8_57 C (by decide) dX8_set_2 ?_
  refine f_aload_n C dX8_set_5 rfl (lv_at hl 0 rfl) ?_
  refine f_iload_n C dX8_set_6 rfl (lv_at hl 1 rfl) ?_
  refine f_cVi (As := [.int x1]) (rest := []) (n := 1) (T0 := TX8) (N := 25) C (c_X8_isRunner h) ok_X8_isRunner im_X8_isRunner se_X8_isRunner kw_RX8_65 ⟨Nat.le_trans (by decide) hR.1, Nat.le_trans (by decide) hR.2⟩ (by decide) rfl rfl rfl hl.1 (Nat.le_of_ble_eq_true rfl) dX8_set_7 (fun r1 I1 J1 h => ?_)
  refine f_if_eq (tgt := 22) C dX8_set_10 (by decide) (fun c2 => ?_) (fun c2 => ?_)
  · replace h := h.1 c2
    refine f_ldc C kc_RX8_69 dX8_set_22 ?_
    exact f_iret C h dX8_set_24
  · replace h := h.2 c2
    refine f_iload_n C dX8_set_13 rfl (lv_at hl 2 rfl) ?_
    refine f_iconst (v := 0) C dX8_set_14 (by decide) ?_
    refine f_iconst (v := 5) C dX8_set_15 (by decide) ?_
    refine f_cSi (As := [.int x2, .int 0, .int 5]) (rest := []) (n := 3) C (c_X8_in h) ok_X8_in sm_X8_in kw_RX8_61 ⟨Nat.le_trans (by decide) hR.1, Nat.le_trans (by decide) hR.2⟩ rfl hl.1 (Nat.le_of_ble_eq_true rfl) dX8_set_16 (fun r3 I3 J3 h => ?_)
    refine f_if_ne (tgt := 25) C dX8_set_19 (by decide) (fun c4 => ?_) (fun c4 => ?_)
    · replace h := h.2 c4
      refine f_iload_n C dX8_set_25 rfl (lv_at hl 2 rfl) ?_
      refine f_if_ne (tgt := 38) C dX8_set_26 (by decide) (fun c5 => ?_) (fun c5 => ?_)
      · replace h := h.2 c5
        refine f_iload_n C dX8_set_38 rfl (lv_at hl 2 rfl) ?_
        refine f_iconst (v := 1) C dX8_set_39 (by decide) ?_
        refine f_icmp_ne (tgt := 54) C dX8_set_40 (by decide) (fun c6 => ?_) (fun c6 => ?_)
        · replace h := h.2 c6
          refine f_iload_n C dX8_set_54 rfl (lv_at hl 2 rfl) ?_
          refine f_iconst (v := 5) C dX8_set_55 (by decide) ?_
          refine f_icmp_ne (tgt := 70) C dX8_set_56 (by decide) (fun c7 => ?_) (fun c7 => ?_)
          · replace h := h.2 c7
            refine f_iload_n C dX8_set_70 rfl (lv_at hl 3 rfl) ?_
            refine f_bipush (v := (-20)) C dX8_set_71 (by decide) ?_
            refine f_bipush (v := 20) C dX8_set_73 (by decide) ?_
            refine f_cSi (As := [.int x3, .int ((-20)), .int 20]) (rest := []) (n := 3) C (c_X8_in h) ok_X8_in sm_X8_in kw_RX8_61 ⟨Nat.le_trans (by decide) hR.1, Nat.le_trans (by decide) hR.2⟩ rfl hl.1 (Nat.le_of_ble_eq_true rfl) dX8_set_75 (fun r8 I8 J8 h => ?_)
            exact t_X8_set_78 C hR h ls (lv_sub hl [0, 1, 2, 3] rfl)
          · replace h := h.1 c7
            refine f_iload_n C dX8_set_59 rfl (lv_at hl 3 rfl) ?_
            refine f_iconst (v := 0) C dX8_set_60 (by decide) ?_
            refine f_sipush (v := 200) C dX8_set_61 (by decide) ?_
            refine f_cSi (As := [.int x3, .int 0, .int 200]) (rest := []) (n := 3) C (c_X8_in h) ok_X8_in sm_X8_in kw_RX8_61 ⟨Nat.le_trans (by decide) hR.1, Nat.le_trans (by decide) hR.2⟩ rfl hl.1 (Nat.le_of_ble_eq_true rfl) dX8_set_64 (fun r16 I16 J16 h => ?_)
            refine f_goto (tgt := 78) C dX8_set_67 (by decide) ?_
            exact t_X8_set_78 C hR h ls (lv_sub hl [0, 1, 2, 3] rfl)
        · replace h := h.1 c6
          refine f_iload_n C dX8_set_43 rfl (lv_at hl 3 rfl) ?_
          refine f_bipush (v := (-9)) C dX8_set_44 (by decide) ?_
          refine f_bipush (v := 9) C dX8_set_46 (by decide) ?_
          refine f_cSi (As := [.int x3, .int ((-9)), .int 9]) (rest := []) (n := 3) C (c_X8_in h) ok_X8_in sm_X8_in kw_RX8_61 ⟨Nat.le_trans (by decide) hR.1, Nat.le_trans (by decide) hR.2⟩ rfl hl.1 (Nat.le_of_ble_eq_true rfl) dX8_set_48 (fun r17 I17 J17 h => ?_)
          refine f_goto (tgt := 78) C dX8_set_51 (by decide) ?_
          exact t_X8_set_78 C hR h ls (lv_sub hl [0, 1, 2, 3] rfl)
      · replace h := h.1 c5
        refine f_iload_n C dX8_set_29 rfl (lv_at hl 3 rfl) ?_
        refine f_iconst (v := 0) C dX8_set_30 (by decide) ?_
        refine f_iconst (v := 2) C dX8_set_31 (by decide) ?_
        refine f_cSi (As := [.int x3, .int 0, .int 2]) (rest := []) (n := 3) C (c_X8_in h) ok_X8_in sm_X8_in kw_RX8_61 ⟨Nat.le_trans (by decide) hR.1, Nat.le_trans (by decide) hR.2⟩ rfl hl.1 (Nat.le_of_ble_eq_true rfl) dX8_set_32 (fun r18 I18 J18 h => ?_)
        refine f_goto (tgt := 78) C dX8_set_35 (by decide) ?_
        exact t_X8_set_78 C hR h ls (lv_sub hl [0, 1, 2, 3] rfl)
    · replace h := h.1 c4
      refine f_ldc C kc_RX8_69 dX8_set_22 ?_
      exact f_iret C h dX8_set_24

def wp_X8_about (Q : Int32 → MI → MJ → Prop) (I : MI) (J : MJ) (x1 : Int32) (x2 : Int32) : Prop :=
  wp_X8_isRunner (fun r1 I1 J1 => (r1 = 0 → Q ((-1000000)) I1 J1) ∧
  (¬ (r1 = 0) → wp_X8_in (fun r3 I3 J3 => (r3 = 0 → Q ((-1000000)) I3 J3) ∧
  (¬ (r3 = 0) → (x2 = 0 → vp_in ((21 * x1) + 0) 171 ∧ (Q (I3 25 0 (((21 * x1) + 0).toNatClampNeg)) I3 J3)) ∧
  (¬ (x2 = 0) → (x2 = 1 → vp_in ((21 * x1) + 1) 171 ∧ (Q (I3 25 0 (((21 * x1) + 1).toNatClampNeg)) I3 J3)) ∧
  (¬ (x2 = 1) → (x2 = 2 → vp_in ((21 * x1) + 2) 171 ∧ (Q (I3 25 0 (((21 * x1) + 2).toNatClampNeg)) I3 J3)) ∧
  (¬ (x2 = 2) → (x2 = 3 → vp_in ((21 * x1) + 3) 171 ∧ (Q (I3 25 0 (((21 * x1) + 3).toNatClampNeg)) I3 J3)) ∧
  (¬ (x2 = 3) → (x2 = 4 → vp_in ((21 * x1) + 7) 171 ∧ (Q (I3 25 0 (((21 * x1) + 7).toNatClampNeg)) I3 J3)) ∧
  (¬ (x2 = 4) → vp_in ((21 * x1) + 8) 171 ∧ (Q (I3 25 0 (((21 * x1) + 8).toNatClampNeg)) I3 J3)))))))) I1 J1 x2 0 5)) (up3 I 8 0 0 0) J x1
set_option maxRecDepth 20000 in
theorem c_X8_about {l : Launch} {g : Geo} {Q : Int32 → MI → MJ → Prop} {I : MI} {J : MJ} {x1 : Int32} {x2 : Int32} (h : wp_X8_about Q I J x1 x2) : Ct g l yX8_about cX8_about 3 (some .int) 2 43 [.ref (gad g 8 0), .int x1, .int x2] I J (PI Q) := by
  refine Ct.of (by decide) ?_
  intro p e s m below meth c C
  have hR : 2 ≤ (Rm 2 43).frames ∧ 43 ≤ (Rm 2 43).locals := ⟨Nat.le_refl _, Nat.le_refl _⟩
  generalize Rm 2 43 = R at hR ⊢
  have hl := lv_entry ([.ref (gad g 8 0), .int x1, .int x2]) (n := 3) (Nat.le_of_ble_eq_true rfl)
  rw [lg_entry_eq]
  generalize (lg_sl ([.ref (gad g 8 0), .int x1, .int x2]) ++ List.replicate (3 - (lg_sl ([.ref (gad g 8 0), .int x1, .int x2])).length) Slot.unset).toArray = ls at hl ⊢
  have hl : lv_has ls 3 [(0, .ref (gad g 8 0)), (1, .int x1), (2, .int x2)] := hl
  refine f_aload_n C dX8_about_0 rfl (lv_at hl 0 rfl) ?_
  refine f_iconst (v := 0) C dX8_about_1 (by decide) ?_
  refine pu_RX8_57 C (by decide) dX8_about_2 ?_
  refine f_aload_n C dX8_about_5 rfl (lv_at hl 0 rfl) ?_
  refine f_iload_n C dX8_about_6 rfl (lv_at hl 1 rfl) ?_
  refine f_cVi (As := [.int x1]) (rest := []) (n := 1) (T0 := TX8) (N := 25) C (c_X8_isRunner h) ok_X8_isRunner im_X8_isRunner se_X8_isRunner kw_RX8_65 ⟨Nat.le_trans (by decide) hR.1, Nat.le_trans (by decide) hR.2⟩ (by decide) rfl rfl rfl hl.1 (Nat.le_of_ble_eq_true rfl) dX8_about_7 (fun r1 I1 J1 h => ?_)
  refine f_if_eq (tgt := 22) C dX8_about_10 (by decide) (fun c2 => ?_) (fun c2 => ?_)
  · replace h := h.1 c2
    refine f_ldc C kc_RX8_69 dX8_about_22 ?_
    exact f_iret C h dX8_about_24
  · replace h := h.2 c2
    refine f_iload_n C dX8_about_13 rfl (lv_at hl 2 rfl) ?_
    refine f_iconst (v := 0) C dX8_about_14 (by decide) ?_
    refine f_iconst (v := 5) C dX8_about_15 (by decide) ?_
    refine f_cSi (As := [.int x2, .int 0, .int 5]) (rest := []) (n := 3) C (c_X8_in h) ok_X8_in sm_X8_in kw_RX8_61 ⟨Nat.le_trans (by decide) hR.1, Nat.le_trans (by decide) hR.2⟩ rfl hl.1 (Nat.le_of_ble_eq_true rfl) dX8_about_16 (fun r3 I3 J3 h => ?_)
    refine f_if_ne (tgt := 25) C dX8_about_19 (by decide) (fun c4 => ?_) (fun c4 => ?_)
    · replace h := h.2 c4
      refine f_aload_n C dX8_about_25 rfl (lv_at hl 0 rfl) ?_
      refine ge_RX8_7 C (by decide) dX8_about_26 ?_
      refine f_bipush (v := 21) C dX8_about_29 (by decide) ?_
      refine f_iload_n C dX8_about_31 rfl (lv_at hl 1 rfl) ?_
      refine f_imul C dX8_about_32 ?_
      refine f_iload_n C dX8_about_33 rfl (lv_at hl 2 rfl) ?_
      refine f_if_ne (tgt := 41) C dX8_about_34 (by decide) (fun c5 => ?_) (fun c5 => ?_)
      · replace h := h.2 c5
        refine f_iload_n C dX8_about_41 rfl (lv_at hl 2 rfl) ?_
        refine f_iconst (v := 1) C dX8_about_42 (by decide) ?_
        refine f_icmp_ne (tgt := 50) C dX8_about_43 (by decide) (fun c6 => ?_) (fun c6 => ?_)
        · replace h := h.2 c6
          refine f_iload_n C dX8_about_50 rfl (lv_at hl 2 rfl) ?_
          refine f_iconst (v := 2) C dX8_about_51 (by decide) ?_
          refine f_icmp_ne (tgt := 59) C dX8_about_52 (by decide) (fun c7 => ?_) (fun c7 => ?_)
          · replace h := h.2 c7
            refine f_iload_n C dX8_about_59 rfl (lv_at hl 2 rfl) ?_
            refine f_iconst (v := 3) C dX8_about_60 (by decide) ?_
            refine f_icmp_ne (tgt := 68) C dX8_about_61 (by decide) (fun c8 => ?_) (fun c8 => ?_)
            · replace h := h.2 c8
              refine f_iload_n C dX8_about_68 rfl (lv_at hl 2 rfl) ?_
              refine f_iconst (v := 4) C dX8_about_69 (by decide) ?_
              refine f_icmp_ne (tgt := 78) C dX8_about_70 (by decide) (fun c9 => ?_) (fun c9 => ?_)
              · replace h := h.2 c9
                refine f_bipush (v := 8) C dX8_about_78 (by decide) ?_
                refine f_iadd C dX8_about_80 ?_
                obtain ⟨hi10, h⟩ := h
                refine al_k (n := 171) (k := ((21 * x1) + 8).toNatClampNeg) C (by decide) rfl rfl hi10 dX8_about_81 ?_
                exact f_iret C h dX8_about_82
              · replace h := h.1 c9
                refine f_bipush (v := 7) C dX8_about_73 (by decide) ?_
                refine f_goto (tgt := 80) C dX8_about_75 (by decide) ?_
                refine f_iadd C dX8_about_80 ?_
                obtain ⟨hi11, h⟩ := h
                refine al_k (n := 171) (k := ((21 * x1) + 7).toNatClampNeg) C (by decide) rfl rfl hi11 dX8_about_81 ?_
                exact f_iret C h dX8_about_82
            · replace h := h.1 c8
              refine f_iconst (v := 3) C dX8_about_64 (by decide) ?_
              refine f_goto (tgt := 80) C dX8_about_65 (by decide) ?_
              refine f_iadd C dX8_about_80 ?_
              obtain ⟨hi12, h⟩ := h
              refine al_k (n := 171) (k := ((21 * x1) + 3).toNatClampNeg) C (by decide) rfl rfl hi12 dX8_about_81 ?_
              exact f_iret C h dX8_about_82
          · replace h := h.1 c7
            refine f_iconst (v := 2) C dX8_about_55 (by decide) ?_
            refine f_goto (tgt := 80) C dX8_about_56 (by decide) ?_
            refine f_iadd C dX8_about_80 ?_
            obtain ⟨hi13, h⟩ := h
            refine al_k (n := 171) (k := ((21 * x1) + 2).toNatClampNeg) C (by decide) rfl rfl hi13 dX8_about_81 ?_
            exact f_iret C h dX8_about_82
        · replace h := h.1 c6
          refine f_iconst (v := 1) C dX8_about_46 (by decide) ?_
          refine f_goto (tgt := 80) C dX8_about_47 (by decide) ?_
          refine f_iadd C dX8_about_80 ?_
          obtain ⟨hi14, h⟩ := h
          refine al_k (n := 171) (k := ((21 * x1) + 1).toNatClampNeg) C (by decide) rfl rfl hi14 dX8_about_81 ?_
          exact f_iret C h dX8_about_82
      · replace h := h.1 c5
        refine f_iconst (v := 0) C dX8_about_37 (by decide) ?_
        refine f_goto (tgt := 80) C dX8_about_38 (by decide) ?_
        refine f_iadd C dX8_about_80 ?_
        obtain ⟨hi15, h⟩ := h
        refine al_k (n := 171) (k := ((21 * x1) + 0).toNatClampNeg) C (by decide) rfl rfl hi15 dX8_about_81 ?_
        exact f_iret C h dX8_about_82
    · replace h := h.1 c4
      refine f_ldc C kc_RX8_69 dX8_about_22 ?_
      exact f_iret C h dX8_about_24

def wp_X8_figure (Q : Int32 → MI → MJ → Prop) (I : MI) (J : MJ) (x1 : Int32) (x2 : Int32) : Prop :=
  wp_X8_isRunner (fun r1 I1 J1 => (r1 = 0 → Q ((-1000000)) I1 J1) ∧
  (¬ (r1 = 0) → vp_in ((21 * x1) + 8) 171 ∧ (wp_X8_in (fun r4 I4 J4 => (r4 = 0 → Q ((-1000000)) I4 J4) ∧
  (¬ (r4 = 0) → vp_in (((21 * x1) + 9) + x2) 171 ∧ (Q (I4 25 0 ((((21 * x1) + 9) + x2).toNatClampNeg)) I4 J4))) I1 J1 x2 0 ((I1 25 0 (((21 * x1) + 8).toNatClampNeg)) - 1)))) (up3 I 8 0 0 0) J x1
set_option maxRecDepth 20000 in
theorem c_X8_figure {l : Launch} {g : Geo} {Q : Int32 → MI → MJ → Prop} {I : MI} {J : MJ} {x1 : Int32} {x2 : Int32} (h : wp_X8_figure Q I J x1 x2) : Ct g l yX8_figure cX8_figure 3 (some .int) 2 43 [.ref (gad g 8 0), .int x1, .int x2] I J (PI Q) := by
  refine Ct.of (by decide) ?_
  intro p e s m below meth c C
  have hR : 2 ≤ (Rm 2 43).frames ∧ 43 ≤ (Rm 2 43).locals := ⟨Nat.le_refl _, Nat.le_refl _⟩
  generalize Rm 2 43 = R at hR ⊢
  have hl := lv_entry ([.ref (gad g 8 0), .int x1, .int x2]) (n := 3) (Nat.le_of_ble_eq_true rfl)
  rw [lg_entry_eq]
  generalize (lg_sl ([.ref (gad g 8 0), .int x1, .int x2]) ++ List.replicate (3 - (lg_sl ([.ref (gad g 8 0), .int x1, .int x2])).length) Slot.unset).toArray = ls at hl ⊢
  have hl : lv_has ls 3 [(0, .ref (gad g 8 0)), (1, .int x1), (2, .int x2)] := hl
  refine f_aload_n C dX8_figure_0 rfl (lv_at hl 0 rfl) ?_
  refine f_iconst (v := 0) C dX8_figure_1 (by decide) ?_
  refine pu_RX8_57 C (by decide) dX8_figure_2 ?_
  refine f_aload_n C dX8_figure_5 rfl (lv_at hl 0 rfl) ?_
  refine f_iload_n C dX8_figure_6 rfl (lv_at hl 1 rfl) ?_
  refine f_cVi (As := [.int x1]) (rest := []) (n := 1) (T0 := TX8) (N := 25) C (c_X8_isRunner h) ok_X8_isRunner im_X8_isRunner se_X8_isRunner kw_RX8_65 ⟨Nat.le_trans (by decide) hR.1, Nat.le_trans (by decide) hR.2⟩ (by decide) rfl rfl rfl hl.1 (Nat.le_of_ble_eq_true rfl) dX8_figure_7 (fun r1 I1 J1 h => ?_)
  refine f_if_eq (tgt := 52) C dX8_figure_10 (by decide) (fun c2 => ?_) (fun c2 => ?_)
  · replace h := h.1 c2
    refine f_ldc C kc_RX8_69 dX8_figure_52 ?_
    exact f_iret C h dX8_figure_54
  · replace h := h.2 c2
    refine f_iload_n C dX8_figure_13 rfl (lv_at hl 2 rfl) ?_
    refine f_iconst (v := 0) C dX8_figure_14 (by decide) ?_
    refine f_aload_n C dX8_figure_15 rfl (lv_at hl 0 rfl) ?_
    refine ge_RX8_7 C (by decide) dX8_figure_16 ?_
    refine f_bipush (v := 21) C dX8_figure_19 (by decide) ?_
    refine f_iload_n C dX8_figure_21 rfl (lv_at hl 1 rfl) ?_
    refine f_imul C dX8_figure_22 ?_
    refine f_bipush (v := 8) C dX8_figure_23 (by decide) ?_
    refine f_iadd C dX8_figure_25 ?_
    obtain ⟨hi3, h⟩ := h
    refine al_k (n := 171) (k := ((21 * x1) + 8).toNatClampNeg) C (by decide) rfl rfl hi3 dX8_figure_26 ?_
    refine f_iconst (v := 1) C dX8_figure_27 (by decide) ?_
    refine f_isub C dX8_figure_28 ?_
    refine f_cSi (As := [.int x2, .int 0, .int ((I1 25 0 (((21 * x1) + 8).toNatClampNeg)) - 1)]) (rest := []) (n := 3) C (c_X8_in h) ok_X8_in sm_X8_in kw_RX8_61 ⟨Nat.le_trans (by decide) hR.1, Nat.le_trans (by decide) hR.2⟩ rfl hl.1 (Nat.le_of_ble_eq_true rfl) dX8_figure_29 (fun r4 I4 J4 h => ?_)
    refine f_if_eq (tgt := 52) C dX8_figure_32 (by decide) (fun c5 => ?_) (fun c5 => ?_)
    · replace h := h.1 c5
      refine f_ldc C kc_RX8_69 dX8_figure_52 ?_
      exact f_iret C h dX8_figure_54
    · replace h := h.2 c5
      refine f_aload_n C dX8_figure_35 rfl (lv_at hl 0 rfl) ?_
      refine ge_RX8_7 C (by decide) dX8_figure_36 ?_
      refine f_bipush (v := 21) C dX8_figure_39 (by decide) ?_
      refine f_iload_n C dX8_figure_41 rfl (lv_at hl 1 rfl) ?_
      refine f_imul C dX8_figure_42 ?_
      refine f_bipush (v := 9) C dX8_figure_43 (by decide) ?_
      refine f_iadd C dX8_figure_45 ?_
      refine f_iload_n C dX8_figure_46 rfl (lv_at hl 2 rfl) ?_
      refine f_iadd C dX8_figure_47 ?_
      obtain ⟨hi6, h⟩ := h
      refine al_k (n := 171) (k := (((21 * x1) + 9) + x2).toNatClampNeg) C (by decide) rfl rfl hi6 dX8_figure_48 ?_
      refine f_goto (tgt := 54) C dX8_figure_49 (by decide) ?_
      exact f_iret C h dX8_figure_54

def J_X8_tune_26 (Q : Int32 → MI → MJ → Prop) (I : MI) (J : MJ) (x1 : Int32) (x2 : Int32) (s0 : Int32) (s1 : Int32) (s2 : Int32) : Prop :=
  wp_X8_in (fun r4 I4 J4 => (r4 = 0 → Q ((-1)) I4 J4) ∧
  (¬ (r4 = 0) → vp_in x1 3 ∧ (vp_in x1 3 ∧ (Q (I4 28 0 (x1.toNatClampNeg)) (up3 I4 28 0 (x1.toNatClampNeg) x2) J4)))) I J s2 s1 s0
set_option maxRecDepth 20000 in
theorem t_X8_tune_26 {p : Program} {l : Launch} {e : Env} {R : Room} {s : State} {m : MethodId} {args : Array Value} {below : List Frame} {meth : Method} {c : Code} {g : Geo} (C : Cx g p s m args meth c cX8_tune 4 RX8 (some .int)) (hR : 1 ≤ R.frames ∧ 22 ≤ R.locals) {Q : Int32 → MI → MJ → Prop} {I : MI} {J : MJ} {x1 : Int32} {x2 : Int32} {s0 : Int32} {s1 : Int32} {s2 : Int32} (h : J_X8_tune_26 Q I J x1 x2 s0 s1 s2) (ls : Array Slot) (hl : lv_has ls 4 [(0, .ref (gad g 8 0)), (1, .int x1), (2, .int x2)]) : Wf p l e R s m args below meth c (MQ below (Qg g (PI Q)) args s 0 0 (gA g)) g I J (F0 m 26 ls [.int s0, .int s1, .int s2]) := by
  refine f_cSi (As := [.int s2, .int s1, .int s0]) (rest := []) (n := 3) C (c_X8_in h) ok_X8_in sm_X8_in kw_RX8_61 ⟨Nat.le_trans (by decide) hR.1, Nat.le_trans (by decide) hR.2⟩ rfl hl.1 (Nat.le_of_ble_eq_true rfl) dX8_tune_26 (fun r4 I4 J4 h => ?_)
  refine f_if_ne (tgt := 34) C dX8_tune_29 (by decide) (fun c5 => ?_) (fun c5 => ?_)
  · replace h := h.2 c5
    refine f_aload_n C dX8_tune_34 rfl (lv_at hl 0 rfl) ?_
    refine ge_RX8_20 C (by decide) dX8_tune_35 ?_
    refine f_iload_n C dX8_tune_38 rfl (lv_at hl 1 rfl) ?_
    obtain ⟨hi6, h⟩ := h
    refine al_k (n := 3) (k := x1.toNatClampNeg) C (by decide) rfl rfl hi6 dX8_tune_39 ?_
    refine f_istore_n (lv' := [(3, .int (I4 28 0 (x1.toNatClampNeg))), (0, .ref (gad g 8 0)), (1, .int x1), (2, .int x2)]) C dX8_tune_40 rfl hl (by decide) rfl (fun ls hl => ?_)
    refine f_aload_n C dX8_tune_41 rfl (lv_at hl 1 rfl) ?_
    refine ge_RX8_20 C (by decide) dX8_tune_42 ?_
    refine f_iload_n C dX8_tune_45 rfl (lv_at hl 2 rfl) ?_
    refine f_iload_n C dX8_tune_46 rfl (lv_at hl 3 rfl) ?_
    obtain ⟨hi7, h⟩ := h
    refine as_k (n := 3) (k := x1.toNatClampNeg) C (by decide) (fun _ => rfl) rfl hi7 dX8_tune_47 ?_
    refine f_iload_n C dX8_tune_48 rfl (lv_at hl 0 rfl) ?_
    exact f_iret C h dX8_tune_49
  · replace h := h.1 c5
    refine f_iconst (v := (-1)) C dX8_tune_32 (by decide) ?_
    exact f_iret C h dX8_tune_33

def wp_X8_tune (Q : Int32 → MI → MJ → Prop) (I : MI) (J : MJ) (x1 : Int32) (x2 : Int32) : Prop :=
  wp_X8_in (fun r1 I1 J1 => (r1 = 0 → Q ((-1)) I1 J1) ∧
  (¬ (r1 = 0) → (x1 = 0 → J_X8_tune_26 Q I1 J1 x1 x2 5 0 x2) ∧
  (¬ (x1 = 0) → J_X8_tune_26 Q I1 J1 x1 x2 50 0 x2))) (up3 I 8 0 0 0) J x1 0 2
set_option maxRecDepth 20000 in
theorem c_X8_tune {l : Launch} {g : Geo} {Q : Int32 → MI → MJ → Prop} {I : MI} {J : MJ} {x1 : Int32} {x2 : Int32} (h : wp_X8_tune Q I J x1 x2) : Ct g l yX8_tune cX8_tune 4 (some .int) 1 22 [.ref (gad g 8 0), .int x1, .int x2] I J (PI Q) := by
  refine Ct.of (by decide) ?_
  intro p e s m below meth c C
  have hR : 1 ≤ (Rm 1 22).frames ∧ 22 ≤ (Rm 1 22).locals := ⟨Nat.le_refl _, Nat.le_refl _⟩
  generalize Rm 1 22 = R at hR ⊢
  have hl := lv_entry ([.ref (gad g 8 0), .int x1, .int x2]) (n := 4) (Nat.le_of_ble_eq_true rfl)
  rw [lg_entry_eq]
  generalize (lg_sl ([.ref (gad g 8 0), .int x1, .int x2]) ++ List.replicate (4 - (lg_sl ([.ref (gad g 8 0), .int x1, .int x2])).length) Slot.unset).toArray = ls at hl ⊢
  have hl : lv_has ls 4 [(0, .ref (gad g 8 0)), (1, .int x1), (2, .int x2)] := hl
  refine f_aload_n C dX8_tune_0 rfl (lv_at hl 0 rfl) ?_
  refine f_iconst (v := 0) C dX8_tune_1 (by decide) ?_
  refine pu_RX8_57 C (by decide) dX8_tune_2 ?_
  refine f_iload_n C dX8_tune_5 rfl (lv_at hl 1 rfl) ?_
  refine f_iconst (v := 0) C dX8_tune_6 (by decide) ?_
  refine f_iconst (v := 2) C dX8_tune_7 (by decide) ?_
  refine f_cSi (As := [.int x1, .int 0, .int 2]) (rest := []) (n := 3) C (c_X8_in h) ok_X8_in sm_X8_in kw_RX8_61 ⟨Nat.le_trans (by decide) hR.1, Nat.le_trans (by decide) hR.2⟩ rfl hl.1 (Nat.le_of_ble_eq_true rfl) dX8_tune_8 (fun r1 I1 J1 h => ?_)
  refine f_if_eq (tgt := 32) C dX8_tune_11 (by decide) (fun c2 => ?_) (fun c2 => ?_)
  · replace h := h.1 c2
    refine f_iconst (v := (-1)) C dX8_tune_32 (by decide) ?_
    exact f_iret C h dX8_tune_33
  · replace h := h.2 c2
    refine f_iload_n C dX8_tune_14 rfl (lv_at hl 2 rfl) ?_
    refine f_iconst (v := 0) C dX8_tune_15 (by decide) ?_
    refine f_iload_n C dX8_tune_16 rfl (lv_at hl 1 rfl) ?_
    refine f_if_ne (tgt := 24) C dX8_tune_17 (by decide) (fun c3 => ?_) (fun c3 => ?_)
    · replace h := h.2 c3
      refine f_bipush (v := 50) C dX8_tune_24 (by decide) ?_
      exact t_X8_tune_26 C hR h ls (lv_sub hl [0, 1, 2] rfl)
    · replace h := h.1 c3
      refine f_iconst (v := 5) C dX8_tune_20 (by decide) ?_
      refine f_goto (tgt := 26) C dX8_tune_21 (by decide) ?_
      exact t_X8_tune_26 C hR h ls (lv_sub hl [0, 1, 2] rfl)

def wp_X8_lot (Q : Int32 → MI → MJ → Prop) (I : MI) (J : MJ) (x1 : Int32) : Prop :=
  Q ((up3 I 8 0 0 0) 25 0 169) (up3 (up3 I 8 0 0 0) 25 0 169 x1) J
set_option maxRecDepth 20000 in
theorem c_X8_lot {l : Launch} {g : Geo} {Q : Int32 → MI → MJ → Prop} {I : MI} {J : MJ} {x1 : Int32} (h : wp_X8_lot Q I J x1) : Ct g l yX8_lot cX8_lot 3 (some .int) 0 0 [.ref (gad g 8 0), .int x1] I J (PI Q) := by
  refine Ct.of (by decide) ?_
  intro p e s m below meth c C
  have hR : 0 ≤ (Rm 0 0).frames ∧ 0 ≤ (Rm 0 0).locals := ⟨Nat.le_refl _, Nat.le_refl _⟩
  generalize Rm 0 0 = R at hR ⊢
  have hl := lv_entry ([.ref (gad g 8 0), .int x1]) (n := 3) (Nat.le_of_ble_eq_true rfl)
  rw [lg_entry_eq]
  generalize (lg_sl ([.ref (gad g 8 0), .int x1]) ++ List.replicate (3 - (lg_sl ([.ref (gad g 8 0), .int x1])).length) Slot.unset).toArray = ls at hl ⊢
  have hl : lv_has ls 3 [(0, .ref (gad g 8 0)), (1, .int x1)] := hl
  refine f_aload_n C dX8_lot_0 rfl (lv_at hl 0 rfl) ?_
  refine f_iconst (v := 0) C dX8_lot_1 (by decide) ?_
  refine pu_RX8_57 C (by decide) dX8_lot_2 ?_
  refine f_aload_n C dX8_lot_5 rfl (lv_at hl 0 rfl) ?_
  refine ge_RX8_7 C (by decide) dX8_lot_6 ?_
  refine f_sipush (v := 169) C dX8_lot_9 (by decide) ?_
  refine al_k (n := 171) (k := 169) C (by decide) rfl (by decide) (vin_k (by decide)) dX8_lot_12 ?_
  refine f_istore_n (lv' := [(2, .int ((up3 I 8 0 0 0) 25 0 169)), (0, .ref (gad g 8 0)), (1, .int x1)]) C dX8_lot_13 rfl hl (by decide) rfl (fun ls hl => ?_)
  refine f_aload_n C dX8_lot_14 rfl (lv_at hl 1 rfl) ?_
  refine ge_RX8_7 C (by decide) dX8_lot_15 ?_
  refine f_sipush (v := 169) C dX8_lot_18 (by decide) ?_
  refine f_iload_n C dX8_lot_21 rfl (lv_at hl 2 rfl) ?_
  refine as_k (n := 171) (k := 169) C (by decide) (fun _ => rfl) (by decide) (vin_k (by decide)) dX8_lot_22 ?_
  refine f_iload_n C dX8_lot_23 rfl (lv_at hl 0 rfl) ?_
  exact f_iret C h dX8_lot_24

def B_X8_type_37 (Q : Int32 → MI → MJ → Prop) (C37 : MI → MJ → Int64 → Int32 → Prop) (I : MI) (J : MJ) (x1 : Int64) (x4 : Int32) : Prop :=
  (x4 < 0 → Q (I 8 0 8) I J) ∧
  (¬ (x4 < 0) → vp_in (I 8 0 8) 200 ∧ (∀ I6 : MI, I6 = up3 (up3 I 30 0 ((I 8 0 8).toNatClampNeg) (((x1 >>> ((8 * x4).toInt64 &&& 63)) &&& 255).toInt32)) 8 0 8 (((up3 I 30 0 ((I 8 0 8).toNatClampNeg) (((x1 >>> ((8 * x4).toInt64 &&& 63)) &&& 255).toInt32)) 8 0 8) + 1) → (C37 I6 J x1 (x4 + (-1)))))
set_option maxRecDepth 20000 in
theorem b_X8_type_37 {p : Program} {l : Launch} {e : Env} {R : Room} {s : State} {m : MethodId} {args : Array Value} {below : List Frame} {meth : Method} {c : Code} {g : Geo} (C : Cx g p s m args meth c cX8_type 5 RX8 (some .int)) (hR : 1 ≤ R.frames ∧ 22 ≤ R.locals) {Q : Int32 → MI → MJ → Prop} {C37 : MI → MJ → Int64 → Int32 → Prop} (hC37 : ∀ (I : MI) (J : MJ) (x1 : Int64) (x4 : Int32), C37 I J x1 x4 → ∀ ls : Array Slot, lv_has ls 5 [(0, .ref (gad g 8 0)), (1, .long x1), (4, .int x4)] → Wf p l e R s m args below meth c (MQ below (Qg g (PI Q)) args s 0 0 (gA g)) g I J (F0 m 37 ls [])) {I : MI} {J : MJ} {x1 : Int64} {x4 : Int32} (h : B_X8_type_37 Q C37 I J x1 x4) (ls : Array Slot) (hl : lv_has ls 5 [(0, .ref (gad g 8 0)), (1, .long x1), (4, .int x4)]) : Wf p l e R s m args below meth c (MQ below (Qg g (PI Q)) args s 0 0 (gA g)) g I J (F0 m 37 ls []) := by
  refine f_iload C dX8_type_37 (lv_at hl 2 rfl) ?_
  refine f_if_lt (tgt := 79) C dX8_type_39 (by decide) (fun c4 => ?_) (fun c4 => ?_)
  · replace h := h.1 c4
    refine f_aload_n C dX8_type_79 rfl (lv_at hl 0 rfl) ?_
    refine ge_RX8_70 C (by decide) dX8_type_80 ?_
    exact f_iret C h dX8_type_83
  · replace h := h.2 c4
    refine f_aload_n C dX8_type_42 rfl (lv_at hl 0 rfl) ?_
    refine ge_RX8_26 C (by decide) dX8_type_43 ?_
    refine f_aload_n C dX8_type_46 rfl (lv_at hl 0 rfl) ?_
    refine ge_RX8_70 C (by decide) dX8_type_47 ?_
    refine f_lload_n C dX8_type_50 rfl (lv_at hl 1 rfl) ?_
    refine f_bipush (v := 8) C dX8_type_51 (by decide) ?_
    refine f_iload C dX8_type_53 (lv_at hl 2 rfl) ?_
    refine f_imul C dX8_type_55 ?_
    refine f_lshr (v := x1 >>> ((8 * x4).toInt64 &&& 63)) C dX8_type_56 rfl ?_
    refine f_ldc2 C kc_RX8_73 dX8_type_57 ?_
    refine f_land C dX8_type_60 ?_
    refine f_l2i (v := ((x1 >>> ((8 * x4).toInt64 &&& 63)) &&& 255).toInt32) C dX8_type_61 rfl ?_
    obtain ⟨hi5, h⟩ := h
    refine as_k (n := 200) (k := (I 8 0 8).toNatClampNeg) C (by decide) (fun _ => rfl) rfl hi5 dX8_type_62 ?_
    refine f_aload_n C dX8_type_63 rfl (lv_at hl 0 rfl) ?_
    refine f_dup C dX8_type_64 rfl ?_
    refine ge_RX8_70 C (by decide) dX8_type_65 ?_
    refine f_iconst (v := 1) C dX8_type_68 (by decide) ?_
    refine f_iadd C dX8_type_69 ?_
    refine pu_RX8_70 C (by decide) dX8_type_70 ?_
    generalize hI6 : up3 (up3 I 30 0 ((I 8 0 8).toNatClampNeg) (((x1 >>> ((8 * x4).toInt64 &&& 63)) &&& 255).toInt32)) 8 0 8 (((up3 I 30 0 ((I 8 0 8).toNatClampNeg) (((x1 >>> ((8 * x4).toInt64 &&& 63)) &&& 255).toInt32)) 8 0 8) + 1) = I6
    replace h := h I6 hI6.symm
    refine f_iinc (v := x4 + (-1)) (lv' := [(4, .int (x4 + (-1))), (0, .ref (gad g 8 0)), (1, .long x1)]) C dX8_type_73 hl (k := 2) rfl rfl (by decide) rfl (fun ls hl => ?_)
    refine f_goto (tgt := 37) C dX8_type_76 (by decide) ?_
    exact hC37 _ _ _ _ h ls (lv_sub hl [1, 2, 0] rfl)

def L_X8_type_37 (Q : Int32 → MI → MJ → Prop) : Nat → MI → MJ → Int64 → Int32 → Prop
  | 0 => fun _ _ _ _ => False
  | n + 1 => fun I J x1 x4 => B_X8_type_37 Q (L_X8_type_37 Q n) I J x1 x4
theorem t_X8_type_37 {p : Program} {l : Launch} {e : Env} {R : Room} {s : State} {m : MethodId} {args : Array Value} {below : List Frame} {meth : Method} {c : Code} {g : Geo} (C : Cx g p s m args meth c cX8_type 5 RX8 (some .int)) (hR : 1 ≤ R.frames ∧ 22 ≤ R.locals) {Q : Int32 → MI → MJ → Prop} : ∀ (n : Nat), ∀ (I : MI) (J : MJ) (x1 : Int64) (x4 : Int32), L_X8_type_37 Q n I J x1 x4 → ∀ ls : Array Slot, lv_has ls 5 [(0, .ref (gad g 8 0)), (1, .long x1), (4, .int x4)] → Wf p l e R s m args below meth c (MQ below (Qg g (PI Q)) args s 0 0 (gA g)) g I J (F0 m 37 ls []) := by
  intro n
  induction n with
  | zero => intro I J x1 x4 h; exact h.elim
  | succ n ih => intro I J x1 x4 h ls hl; exact b_X8_type_37 C hR ih h ls hl
def wp_X8_type (Q : Int32 → MI → MJ → Prop) (I : MI) (J : MJ) (x1 : Int64) (x3 : Int32) : Prop :=
  wp_X8_in (fun r1 I1 J1 => (r1 = 0 → Q ((-1)) I1 J1) ∧
  (¬ (r1 = 0) → (((I1 8 0 8) + x3) ≤ 200 → ∃ n : Nat, L_X8_type_37 Q n I1 J1 x1 (x3 - 1)) ∧
  (¬ (((I1 8 0 8) + x3) ≤ 200) → Q ((-3)) I1 J1))) (up3 I 8 0 0 0) J x3 1 8
set_option maxRecDepth 20000 in
theorem c_X8_type {l : Launch} {g : Geo} {Q : Int32 → MI → MJ → Prop} {I : MI} {J : MJ} {x1 : Int64} {x3 : Int32} (h : wp_X8_type Q I J x1 x3) : Ct g l yX8_type cX8_type 5 (some .int) 1 22 [.ref (gad g 8 0), .long x1, .int x3] I J (PI Q) := by
  refine Ct.of (by decide) ?_
  intro p e s m below meth c C
  have hR : 1 ≤ (Rm 1 22).frames ∧ 22 ≤ (Rm 1 22).locals := ⟨Nat.le_refl _, Nat.le_refl _⟩
  generalize Rm 1 22 = R at hR ⊢
  have hl := lv_entry ([.ref (gad g 8 0), .long x1, .int x3]) (n := 5) (Nat.le_of_ble_eq_true rfl)
  rw [lg_entry_eq]
  generalize (lg_sl ([.ref (gad g 8 0), .long x1, .int x3]) ++ List.replicate (5 - (lg_sl ([.ref (gad g 8 0), .long x1, .int x3])).length) Slot.unset).toArray = ls at hl ⊢
  have hl : lv_has ls 5 [(0, .ref (gad g 8 0)), (1, .long x1), (3, .int x3)] := hl
  refine f_aload_n C dX8_type_0 rfl (lv_at hl 0 rfl) ?_
  refine f_iconst (v := 0) C dX8_type_1 (by decide) ?_
  refine pu_RX8_57 C (by decide) dX8_type_2 ?_
  refine f_iload_n C dX8_type_5 rfl (lv_at hl 2 rfl) ?_
  refine f_iconst (v := 1) C dX8_type_6 (by decide) ?_
  refine f_bipush (v := 8) C dX8_type_7 (by decide) ?_
  refine f_cSi (As := [.int x3, .int 1, .int 8]) (rest := []) (n := 3) C (c_X8_in h) ok_X8_in sm_X8_in kw_RX8_61 ⟨Nat.le_trans (by decide) hR.1, Nat.le_trans (by decide) hR.2⟩ rfl hl.1 (Nat.le_of_ble_eq_true rfl) dX8_type_9 (fun r1 I1 J1 h => ?_)
  refine f_if_ne (tgt := 17) C dX8_type_12 (by decide) (fun c2 => ?_) (fun c2 => ?_)
  · replace h := h.2 c2
    refine f_aload_n C dX8_type_17 rfl (lv_at hl 0 rfl) ?_
    refine ge_RX8_70 C (by decide) dX8_type_18 ?_
    refine f_iload_n C dX8_type_21 rfl (lv_at hl 2 rfl) ?_
    refine f_iadd C dX8_type_22 ?_
    refine f_sipush (v := 200) C dX8_type_23 (by decide) ?_
    refine f_icmp_le (tgt := 32) C dX8_type_26 (by decide) (fun c3 => ?_) (fun c3 => ?_)
    · replace h := h.1 c3
      refine f_iload_n C dX8_type_32 rfl (lv_at hl 2 rfl) ?_
      refine f_iconst (v := 1) C dX8_type_33 (by decide) ?_
      refine f_isub C dX8_type_34 ?_
      refine f_istore (lv' := [(4, .int (x3 - 1)), (0, .ref (gad g 8 0)), (1, .long x1), (3, .int x3)]) C dX8_type_35 hl (by decide) rfl (fun ls hl => ?_)
      obtain ⟨n, h⟩ := h
      exact t_X8_type_37 C hR n _ _ _ _ h ls (lv_sub hl [1, 2, 0] rfl)
    · replace h := h.2 c3
      refine f_bipush (v := (-3)) C dX8_type_29 (by decide) ?_
      exact f_iret C h dX8_type_31
  · replace h := h.1 c2
    refine f_iconst (v := (-1)) C dX8_type_15 (by decide) ?_
    exact f_iret C h dX8_type_16

def wp_X8_clear (Q : Int32 → MI → MJ → Prop) (I : MI) (J : MJ) : Prop :=
  Q ((up3 I 8 0 0 0) 8 0 8) (up3 (up3 I 8 0 0 0) 8 0 8 0) J
set_option maxRecDepth 20000 in
theorem c_X8_clear {l : Launch} {g : Geo} {Q : Int32 → MI → MJ → Prop} {I : MI} {J : MJ} (h : wp_X8_clear Q I J) : Ct g l yX8_clear cX8_clear 2 (some .int) 0 0 [.ref (gad g 8 0)] I J (PI Q) := by
  refine Ct.of (by decide) ?_
  intro p e s m below meth c C
  have hR : 0 ≤ (Rm 0 0).frames ∧ 0 ≤ (Rm 0 0).locals := ⟨Nat.le_refl _, Nat.le_refl _⟩
  generalize Rm 0 0 = R at hR ⊢
  have hl := lv_entry ([.ref (gad g 8 0)]) (n := 2) (Nat.le_of_ble_eq_true rfl)
  rw [lg_entry_eq]
  generalize (lg_sl ([.ref (gad g 8 0)]) ++ List.replicate (2 - (lg_sl ([.ref (gad g 8 0)])).length) Slot.unset).toArray = ls at hl ⊢
  have hl : lv_has ls 2 [(0, .ref (gad g 8 0))] := hl
  refine f_aload_n C dX8_clear_0 rfl (lv_at hl 0 rfl) ?_
  refine f_iconst (v := 0) C dX8_clear_1 (by decide) ?_
  refine pu_RX8_57 C (by decide) dX8_clear_2 ?_
  refine f_aload_n C dX8_clear_5 rfl (lv_at hl 0 rfl) ?_
  refine ge_RX8_70 C (by decide) dX8_clear_6 ?_
  refine f_istore_n (lv' := [(1, .int ((up3 I 8 0 0 0) 8 0 8)), (0, .ref (gad g 8 0))]) C dX8_clear_9 rfl hl (by decide) rfl (fun ls hl => ?_)
  refine f_aload_n C dX8_clear_10 rfl (lv_at hl 1 rfl) ?_
  refine f_iconst (v := 0) C dX8_clear_11 (by decide) ?_
  refine pu_RX8_70 C (by decide) dX8_clear_12 ?_
  refine f_iload_n C dX8_clear_15 rfl (lv_at hl 0 rfl) ?_
  exact f_iret C h dX8_clear_16

def wp_X8_byteAt (Q : Int32 → MI → MJ → Prop) (I : MI) (J : MJ) (x1 : Int32) : Prop :=
  ((I 8 0 8) ≤ x1 → Q ((-1)) I J) ∧
  (¬ ((I 8 0 8) ≤ x1) → vp_in x1 200 ∧ (Q (I 30 0 (x1.toNatClampNeg)) I J))
set_option maxRecDepth 20000 in
theorem c_X8_byteAt {l : Launch} {g : Geo} {Q : Int32 → MI → MJ → Prop} {I : MI} {J : MJ} {x1 : Int32} (h : wp_X8_byteAt Q I J x1) : Ct g l yX8_byteAt cX8_byteAt 2 (some .int) 0 0 [.ref (gad g 8 0), .int x1] I J (PI Q) := by
  refine Ct.of (by decide) ?_
  intro p e s m below meth c C
  have hR : 0 ≤ (Rm 0 0).frames ∧ 0 ≤ (Rm 0 0).locals := ⟨Nat.le_refl _, Nat.le_refl _⟩
  generalize Rm 0 0 = R at hR ⊢
  have hl := lv_entry ([.ref (gad g 8 0), .int x1]) (n := 2) (Nat.le_of_ble_eq_true rfl)
  rw [lg_entry_eq]
  generalize (lg_sl ([.ref (gad g 8 0), .int x1]) ++ List.replicate (2 - (lg_sl ([.ref (gad g 8 0), .int x1])).length) Slot.unset).toArray = ls at hl ⊢
  have hl : lv_has ls 2 [(0, .ref (gad g 8 0)), (1, .int x1)] := hl
  refine f_iload_n C dX8_byteAt_0 rfl (lv_at hl 1 rfl) ?_
  refine f_aload_n C dX8_byteAt_1 rfl (lv_at hl 0 rfl) ?_
  refine ge_RX8_70 C (by decide) dX8_byteAt_2 ?_
  refine f_icmp_ge (tgt := 17) C dX8_byteAt_5 (by decide) (fun c1 => ?_) (fun c1 => ?_)
  · replace h := h.1 c1
    refine f_iconst (v := (-1)) C dX8_byteAt_17 (by decide) ?_
    exact f_iret C h dX8_byteAt_18
  · replace h := h.2 c1
    refine f_aload_n C dX8_byteAt_8 rfl (lv_at hl 0 rfl) ?_
    refine ge_RX8_26 C (by decide) dX8_byteAt_9 ?_
    refine f_iload_n C dX8_byteAt_12 rfl (lv_at hl 1 rfl) ?_
    obtain ⟨hi2, h⟩ := h
    refine al_k (n := 200) (k := x1.toNatClampNeg) C (by decide) rfl rfl hi2 dX8_byteAt_13 ?_
    refine f_goto (tgt := 18) C dX8_byteAt_14 (by decide) ?_
    exact f_iret C h dX8_byteAt_18

def J_X8_named_29 (Q : Int64 → MI → MJ → Prop) (I : MI) (J : MJ) (x3 : Int32) (s0 : Int64) : Prop :=
  (x3 = 0 → Q s0 I J) ∧
  (¬ (x3 = 0) → Q ((256 * s0) + (x3.toInt64)) I J)
set_option maxRecDepth 20000 in
theorem t_X8_named_29 {p : Program} {l : Launch} {e : Env} {R : Room} {s : State} {m : MethodId} {args : Array Value} {below : List Frame} {meth : Method} {c : Code} {g : Geo} (C : Cx g p s m args meth c cX8_named 6 RX8 (some .long)) (hR : 0 ≤ R.frames ∧ 0 ≤ R.locals) {Q : Int64 → MI → MJ → Prop} {I : MI} {J : MJ} {x3 : Int32} {s0 : Int64} (h : J_X8_named_29 Q I J x3 s0) (ls : Array Slot) (hl : lv_has ls 6 [(3, .int x3)]) : Wf p l e R s m args below meth c (MQ below (Qg g (PL Q)) args s 0 0 (gA g)) g I J (F0 m 29 ls [.long s0]) := by
  refine f_lstore (lv' := [(4, .long s0), (3, .int x3)]) C dX8_named_29 hl (by decide) rfl (fun ls hl => ?_)
  refine f_iload_n C dX8_named_31 rfl (lv_at hl 1 rfl) ?_
  refine f_if_ne (tgt := 40) C dX8_named_32 (by decide) (fun c3 => ?_) (fun c3 => ?_)
  · replace h := h.2 c3
    refine f_ldc2 C kc_RX8_79 dX8_named_40 ?_
    refine f_lload C dX8_named_43 (lv_at hl 0 rfl) ?_
    refine f_lmul C dX8_named_45 ?_
    refine f_iload_n C dX8_named_46 rfl (lv_at hl 1 rfl) ?_
    refine f_i2l (v := x3.toInt64) C dX8_named_47 rfl ?_
    refine f_ladd C dX8_named_48 ?_
    exact f_lret C h dX8_named_49
  · replace h := h.1 c3
    refine f_lload C dX8_named_35 (lv_at hl 0 rfl) ?_
    refine f_goto (tgt := 49) C dX8_named_37 (by decide) ?_
    exact f_lret C h dX8_named_49

def wp_X8_named (Q : Int64 → MI → MJ → Prop) (I : MI) (J : MJ) (x0 : Int32) (x1 : Int32) (x2 : Int32) (x3 : Int32) : Prop :=
  ∀ v1 : Int64, v1 = (256 * (x0.toInt64)) + (x1.toInt64) → ((x2 = 0 → J_X8_named_29 Q I J x3 v1) ∧
  (¬ (x2 = 0) → J_X8_named_29 Q I J x3 ((256 * v1) + (x2.toInt64))))
set_option maxRecDepth 20000 in
theorem c_X8_named {l : Launch} {g : Geo} {Q : Int64 → MI → MJ → Prop} {I : MI} {J : MJ} {x0 : Int32} {x1 : Int32} {x2 : Int32} {x3 : Int32} (h : wp_X8_named Q I J x0 x1 x2 x3) : Ct g l yX8_named cX8_named 6 (some .long) 0 0 [.int x0, .int x1, .int x2, .int x3] I J (PL Q) := by
  refine Ct.of (by decide) ?_
  intro p e s m below meth c C
  have hR : 0 ≤ (Rm 0 0).frames ∧ 0 ≤ (Rm 0 0).locals := ⟨Nat.le_refl _, Nat.le_refl _⟩
  generalize Rm 0 0 = R at hR ⊢
  have hl := lv_entry ([.int x0, .int x1, .int x2, .int x3]) (n := 6) (Nat.le_of_ble_eq_true rfl)
  rw [lg_entry_eq]
  generalize (lg_sl ([.int x0, .int x1, .int x2, .int x3]) ++ List.replicate (6 - (lg_sl ([.int x0, .int x1, .int x2, .int x3])).length) Slot.unset).toArray = ls at hl ⊢
  have hl : lv_has ls 6 [(0, .int x0), (1, .int x1), (2, .int x2), (3, .int x3)] := hl
  refine f_ldc2 C kc_RX8_79 dX8_named_0 ?_
  refine f_iload_n C dX8_named_3 rfl (lv_at hl 0 rfl) ?_
  refine f_i2l (v := x0.toInt64) C dX8_named_4 rfl ?_
  refine f_lmul C dX8_named_5 ?_
  refine f_iload_n C dX8_named_6 rfl (lv_at hl 1 rfl) ?_
  refine f_i2l (v := x1.toInt64) C dX8_named_7 rfl ?_
  refine f_ladd C dX8_named_8 ?_
  generalize hv1 : (256 * (x0.toInt64)) + (x1.toInt64) = v1
  replace h := h v1 hv1.symm
  refine f_lstore (lv' := [(4, .long v1), (0, .int x0), (1, .int x1), (2, .int x2), (3, .int x3)]) C dX8_named_9 hl (by decide) rfl (fun ls hl => ?_)
  refine f_iload_n C dX8_named_11 rfl (lv_at hl 3 rfl) ?_
  refine f_if_ne (tgt := 20) C dX8_named_12 (by decide) (fun c2 => ?_) (fun c2 => ?_)
  · replace h := h.2 c2
    refine f_ldc2 C kc_RX8_79 dX8_named_20 ?_
    refine f_lload C dX8_named_23 (lv_at hl 0 rfl) ?_
    refine f_lmul C dX8_named_25 ?_
    refine f_iload_n C dX8_named_26 rfl (lv_at hl 3 rfl) ?_
    refine f_i2l (v := x2.toInt64) C dX8_named_27 rfl ?_
    refine f_ladd C dX8_named_28 ?_
    exact t_X8_named_29 C hR h ls (lv_sub hl [4] rfl)
  · replace h := h.1 c2
    refine f_lload C dX8_named_15 (lv_at hl 0 rfl) ?_
    refine f_goto (tgt := 29) C dX8_named_17 (by decide) ?_
    exact t_X8_named_29 C hR h ls (lv_sub hl [4] rfl)

def wp_X8_wordOf (Q : Int32 → MI → MJ → Prop) (I : MI) (J : MJ) (x0 : Int64) : Prop :=
  wp_X8_named (fun r1 I1 J1 => ((lg_cmp x0 r1) = 0 → Q 0 I1 J1) ∧
  (¬ ((lg_cmp x0 r1) = 0) → wp_X8_named (fun r3 I3 J3 => ((lg_cmp x0 r3) = 0 → Q 1 I3 J3) ∧
  (¬ ((lg_cmp x0 r3) = 0) → wp_X8_named (fun r5 I5 J5 => ((lg_cmp x0 r5) = 0 → Q 2 I5 J5) ∧
  (¬ ((lg_cmp x0 r5) = 0) → wp_X8_named (fun r7 I7 J7 => ((lg_cmp x0 r7) = 0 → Q 3 I7 J7) ∧
  (¬ ((lg_cmp x0 r7) = 0) → wp_X8_named (fun r9 I9 J9 => ((lg_cmp x0 r9) = 0 → Q 4 I9 J9) ∧
  (¬ ((lg_cmp x0 r9) = 0) → Q ((-9)) I9 J9)) I7 J7 111 102 0 0)) I5 J5 111 118 101 114)) I3 J3 99 97 112 0)) I1 J1 109 111 118 101)) I J 98 101 115 116
set_option maxRecDepth 20000 in
theorem c_X8_wordOf {l : Launch} {g : Geo} {Q : Int32 → MI → MJ → Prop} {I : MI} {J : MJ} {x0 : Int64} (h : wp_X8_wordOf Q I J x0) : Ct g l yX8_wordOf cX8_wordOf 2 (some .int) 1 25 [.long x0] I J (PI Q) := by
  refine Ct.of (by decide) ?_
  intro p e s m below meth c C
  have hR : 1 ≤ (Rm 1 25).frames ∧ 25 ≤ (Rm 1 25).locals := ⟨Nat.le_refl _, Nat.le_refl _⟩
  generalize Rm 1 25 = R at hR ⊢
  have hl := lv_entry ([.long x0]) (n := 2) (Nat.le_of_ble_eq_true rfl)
  rw [lg_entry_eq]
  generalize (lg_sl ([.long x0]) ++ List.replicate (2 - (lg_sl ([.long x0])).length) Slot.unset).toArray = ls at hl ⊢
  have hl : lv_has ls 2 [(0, .long x0)] := hl
  refine f_lload_n C dX8_wordOf_0 rfl (lv_at hl 0 rfl) ?_
  refine f_bipush (v := 98) C dX8_wordOf_1 (by decide) ?_
  refine f_bipush (v := 101) C dX8_wordOf_3 (by decide) ?_
  refine f_bipush (v := 115) C dX8_wordOf_5 (by decide) ?_
  refine f_bipush (v := 116) C dX8_wordOf_7 (by decide) ?_
  refine f_cSl (As := [.int 98, .int 101, .int 115, .int 116]) (rest := [.long x0]) (n := 4) C (c_X8_named h) ok_X8_named sm_X8_named kw_RX8_75 ⟨Nat.le_trans (by decide) hR.1, Nat.le_trans (by decide) hR.2⟩ rfl hl.1 (Nat.le_of_ble_eq_true rfl) dX8_wordOf_9 (fun r1 I1 J1 h => ?_)
  refine f_lcmp C dX8_wordOf_12 ?_
  refine f_if_ne (tgt := 20) C dX8_wordOf_13 (by decide) (fun c2 => ?_) (fun c2 => ?_)
  · replace h := h.2 c2
    refine f_lload_n C dX8_wordOf_20 rfl (lv_at hl 0 rfl) ?_
    refine f_bipush (v := 109) C dX8_wordOf_21 (by decide) ?_
    refine f_bipush (v := 111) C dX8_wordOf_23 (by decide) ?_
    refine f_bipush (v := 118) C dX8_wordOf_25 (by decide) ?_
    refine f_bipush (v := 101) C dX8_wordOf_27 (by decide) ?_
    refine f_cSl (As := [.int 109, .int 111, .int 118, .int 101]) (rest := [.long x0]) (n := 4) C (c_X8_named h) ok_X8_named sm_X8_named kw_RX8_75 ⟨Nat.le_trans (by decide) hR.1, Nat.le_trans (by decide) hR.2⟩ rfl hl.1 (Nat.le_of_ble_eq_true rfl) dX8_wordOf_29 (fun r3 I3 J3 h => ?_)
    refine f_lcmp C dX8_wordOf_32 ?_
    refine f_if_ne (tgt := 40) C dX8_wordOf_33 (by decide) (fun c4 => ?_) (fun c4 => ?_)
    · replace h := h.2 c4
      refine f_lload_n C dX8_wordOf_40 rfl (lv_at hl 0 rfl) ?_
      refine f_bipush (v := 99) C dX8_wordOf_41 (by decide) ?_
      refine f_bipush (v := 97) C dX8_wordOf_43 (by decide) ?_
      refine f_bipush (v := 112) C dX8_wordOf_45 (by decide) ?_
      refine f_iconst (v := 0) C dX8_wordOf_47 (by decide) ?_
      refine f_cSl (As := [.int 99, .int 97, .int 112, .int 0]) (rest := [.long x0]) (n := 4) C (c_X8_named h) ok_X8_named sm_X8_named kw_RX8_75 ⟨Nat.le_trans (by decide) hR.1, Nat.le_trans (by decide) hR.2⟩ rfl hl.1 (Nat.le_of_ble_eq_true rfl) dX8_wordOf_48 (fun r5 I5 J5 h => ?_)
      refine f_lcmp C dX8_wordOf_51 ?_
      refine f_if_ne (tgt := 59) C dX8_wordOf_52 (by decide) (fun c6 => ?_) (fun c6 => ?_)
      · replace h := h.2 c6
        refine f_lload_n C dX8_wordOf_59 rfl (lv_at hl 0 rfl) ?_
        refine f_bipush (v := 111) C dX8_wordOf_60 (by decide) ?_
        refine f_bipush (v := 118) C dX8_wordOf_62 (by decide) ?_
        refine f_bipush (v := 101) C dX8_wordOf_64 (by decide) ?_
        refine f_bipush (v := 114) C dX8_wordOf_66 (by decide) ?_
        refine f_cSl (As := [.int 111, .int 118, .int 101, .int 114]) (rest := [.long x0]) (n := 4) C (c_X8_named h) ok_X8_named sm_X8_named kw_RX8_75 ⟨Nat.le_trans (by decide) hR.1, Nat.le_trans (by decide) hR.2⟩ rfl hl.1 (Nat.le_of_ble_eq_true rfl) dX8_wordOf_68 (fun r7 I7 J7 h => ?_)
        refine f_lcmp C dX8_wordOf_71 ?_
        refine f_if_ne (tgt := 79) C dX8_wordOf_72 (by decide) (fun c8 => ?_) (fun c8 => ?_)
        · replace h := h.2 c8
          refine f_lload_n C dX8_wordOf_79 rfl (lv_at hl 0 rfl) ?_
          refine f_bipush (v := 111) C dX8_wordOf_80 (by decide) ?_
          refine f_bipush (v := 102) C dX8_wordOf_82 (by decide) ?_
          refine f_iconst (v := 0) C dX8_wordOf_84 (by decide) ?_
          refine f_iconst (v := 0) C dX8_wordOf_85 (by decide) ?_
          refine f_cSl (As := [.int 111, .int 102, .int 0, .int 0]) (rest := [.long x0]) (n := 4) C (c_X8_named h) ok_X8_named sm_X8_named kw_RX8_75 ⟨Nat.le_trans (by decide) hR.1, Nat.le_trans (by decide) hR.2⟩ rfl hl.1 (Nat.le_of_ble_eq_true rfl) dX8_wordOf_86 (fun r9 I9 J9 h => ?_)
          refine f_lcmp C dX8_wordOf_89 ?_
          refine f_if_ne (tgt := 97) C dX8_wordOf_90 (by decide) (fun c10 => ?_) (fun c10 => ?_)
          · replace h := h.2 c10
            refine f_bipush (v := (-9)) C dX8_wordOf_97 (by decide) ?_
            exact f_iret C h dX8_wordOf_99
          · replace h := h.1 c10
            refine f_iconst (v := 4) C dX8_wordOf_93 (by decide) ?_
            refine f_goto (tgt := 99) C dX8_wordOf_94 (by decide) ?_
            exact f_iret C h dX8_wordOf_99
        · replace h := h.1 c8
          refine f_iconst (v := 3) C dX8_wordOf_75 (by decide) ?_
          refine f_goto (tgt := 99) C dX8_wordOf_76 (by decide) ?_
          exact f_iret C h dX8_wordOf_99
      · replace h := h.1 c6
        refine f_iconst (v := 2) C dX8_wordOf_55 (by decide) ?_
        refine f_goto (tgt := 99) C dX8_wordOf_56 (by decide) ?_
        exact f_iret C h dX8_wordOf_99
    · replace h := h.1 c4
      refine f_iconst (v := 1) C dX8_wordOf_36 (by decide) ?_
      refine f_goto (tgt := 99) C dX8_wordOf_37 (by decide) ?_
      exact f_iret C h dX8_wordOf_99
  · replace h := h.1 c2
    refine f_iconst (v := 0) C dX8_wordOf_16 (by decide) ?_
    refine f_goto (tgt := 99) C dX8_wordOf_17 (by decide) ?_
    exact f_iret C h dX8_wordOf_99

