def J_X8_advances_233 (Q : MI → MJ → Prop) (C178 : MI → MJ → Int32 → Prop) (I : MI) (J : MJ) (x1 : Int32) (s0 : Int32) : Prop :=
  C178 (up3 (up3 I 8 0 12 s0) 8 0 9 (((up3 I 8 0 12 s0) 8 0 9) + 1)) J x1
set_option maxRecDepth 20000 in
theorem t_X8_advances_233 {p : Program} {l : Launch} {e : Env} {R : Room} {s : State} {m : MethodId} {args : Array Value} {below : List Frame} {meth : Method} {c : Code} {g : Geo} (C : Cx g p s m args meth c cX8_advances 4 RX8 none) (hR : 2 ≤ R.frames ∧ 46 ≤ R.locals) {Q : MI → MJ → Prop} {C178 : MI → MJ → Int32 → Prop} (hC178 : ∀ (I : MI) (J : MJ) (x1 : Int32), C178 I J x1 → ∀ ls : Array Slot, lv_has ls 4 [(0, .ref (gad g 8 0)), (1, .int x1)] → Wf p l e R s m args below meth c (MQ below (Qg g (PV Q)) args s 0 0 (gA g)) g I J (F0 m 178 ls [])) {I : MI} {J : MJ} {x1 : Int32} {s0 : Int32} (h : J_X8_advances_233 Q C178 I J x1 s0) (ls : Array Slot) (hl : lv_has ls 4 [(0, .ref (gad g 8 0)), (1, .int x1)]) : Wf p l e R s m args below meth c (MQ below (Qg g (PV Q)) args s 0 0 (gA g)) g I J (F0 m 233 ls [.int s0, .ref (gad g 8 0)]) := by
  refine pu_RX8_98 C (by decide) dX8_advances_233 ?_
  refine f_aload_n C dX8_advances_236 rfl (lv_at hl 0 rfl) ?_
  refine f_dup C dX8_advances_237 rfl ?_
  refine ge_RX8_81 C (by decide) dX8_advances_238 ?_
  refine f_iconst (v := 1) C dX8_advances_241 (by decide) ?_
  refine f_iadd C dX8_advances_242 ?_
  refine pu_RX8_81 C (by decide) dX8_advances_243 ?_
  refine f_goto (tgt := 178) C dX8_advances_246 (by decide) ?_
  exact hC178 _ _ _ h ls (lv_sub hl [0, 1] rfl)

def B_X8_advances_178 (Q : MI → MJ → Prop) (C178 : MI → MJ → Int32 → Prop) (I : MI) (J : MJ) (x1 : Int32) : Prop :=
  wp_X8_byteAt (fun r11 I11 J11 => wp_X8_in (fun r12 I12 J12 => (r12 = 0 → (999 < (I12 8 0 12) → Q (up3 I12 8 0 10 5) J12) ∧
  (¬ (999 < (I12 8 0 12)) → (x1 = 48 → (((I12 8 0 9) - (I12 8 0 11)) ≤ 1 → Q (up3 I12 8 0 10 2) J12) ∧
  (¬ (((I12 8 0 9) - (I12 8 0 11)) ≤ 1) → Q (up3 I12 8 0 10 5) J12)) ∧
  (¬ (x1 = 48) → Q (up3 I12 8 0 10 2) J12))) ∧
  (¬ (r12 = 0) → ((I12 8 0 12) ≤ 999 → wp_X8_byteAt (fun r18 I18 J18 => J_X8_advances_233 Q C178 I18 J18 x1 (((10 * (I12 8 0 12)) + r18) - 48)) I12 J12 (I12 8 0 9)) ∧
  (¬ ((I12 8 0 12) ≤ 999) → J_X8_advances_233 Q C178 I12 J12 x1 (I12 8 0 12)))) I11 J11 r11 48 57) I J (I 8 0 9)
set_option maxRecDepth 20000 in
theorem b_X8_advances_178 {p : Program} {l : Launch} {e : Env} {R : Room} {s : State} {m : MethodId} {args : Array Value} {below : List Frame} {meth : Method} {c : Code} {g : Geo} (C : Cx g p s m args meth c cX8_advances 4 RX8 none) (hR : 2 ≤ R.frames ∧ 46 ≤ R.locals) {Q : MI → MJ → Prop} {C178 : MI → MJ → Int32 → Prop} (hC178 : ∀ (I : MI) (J : MJ) (x1 : Int32), C178 I J x1 → ∀ ls : Array Slot, lv_has ls 4 [(0, .ref (gad g 8 0)), (1, .int x1)] → Wf p l e R s m args below meth c (MQ below (Qg g (PV Q)) args s 0 0 (gA g)) g I J (F0 m 178 ls [])) {I : MI} {J : MJ} {x1 : Int32} (h : B_X8_advances_178 Q C178 I J x1) (ls : Array Slot) (hl : lv_has ls 4 [(0, .ref (gad g 8 0)), (1, .int x1)]) : Wf p l e R s m args below meth c (MQ below (Qg g (PV Q)) args s 0 0 (gA g)) g I J (F0 m 178 ls []) := by
  refine f_aload_n C dX8_advances_178 rfl (lv_at hl 0 rfl) ?_
  refine f_aload_n C dX8_advances_179 rfl (lv_at hl 0 rfl) ?_
  refine ge_RX8_81 C (by decide) dX8_advances_180 ?_
  refine f_cVi (As := [.int (I 8 0 9)]) (rest := []) (n := 1) (T0 := TX8) (N := 25) C (c_X8_byteAt h) ok_X8_byteAt im_X8_byteAt se_X8_byteAt kw_RX8_84 ⟨Nat.le_trans (by decide) hR.1, Nat.le_trans (by decide) hR.2⟩ (by decide) rfl rfl rfl hl.1 (Nat.le_of_ble_eq_true rfl) dX8_advances_183 (fun r11 I11 J11 h => ?_)
  refine f_bipush (v := 48) C dX8_advances_186 (by decide) ?_
  refine f_bipush (v := 57) C dX8_advances_188 (by decide) ?_
  refine f_cSi (As := [.int r11, .int 48, .int 57]) (rest := []) (n := 3) C (c_X8_in h) ok_X8_in sm_X8_in kw_RX8_61 ⟨Nat.le_trans (by decide) hR.1, Nat.le_trans (by decide) hR.2⟩ rfl hl.1 (Nat.le_of_ble_eq_true rfl) dX8_advances_190 (fun r12 I12 J12 h => ?_)
  refine f_if_eq (tgt := 249) C dX8_advances_193 (by decide) (fun c13 => ?_) (fun c13 => ?_)
  · replace h := h.1 c13
    refine f_aload_n C dX8_advances_249 rfl (lv_at hl 0 rfl) ?_
    refine f_aload_n C dX8_advances_250 rfl (lv_at hl 0 rfl) ?_
    refine ge_RX8_98 C (by decide) dX8_advances_251 ?_
    refine f_sipush (v := 999) C dX8_advances_254 (by decide) ?_
    refine f_icmp_gt (tgt := 279) C dX8_advances_257 (by decide) (fun c14 => ?_) (fun c14 => ?_)
    · replace h := h.1 c14
      refine f_iconst (v := 5) C dX8_advances_279 (by decide) ?_
      refine f_goto (tgt := 284) C dX8_advances_280 (by decide) ?_
      refine pu_RX8_91 C (by decide) dX8_advances_284 ?_
      refine f_goto (tgt := 325) C dX8_advances_287 (by decide) ?_
      exact f_vret C h dX8_advances_325
    · replace h := h.2 c14
      refine f_iload_n C dX8_advances_260 rfl (lv_at hl 1 rfl) ?_
      refine f_bipush (v := 48) C dX8_advances_261 (by decide) ?_
      refine f_icmp_ne (tgt := 283) C dX8_advances_263 (by decide) (fun c15 => ?_) (fun c15 => ?_)
      · replace h := h.2 c15
        refine f_iconst (v := 2) C dX8_advances_283 (by decide) ?_
        refine pu_RX8_91 C (by decide) dX8_advances_284 ?_
        refine f_goto (tgt := 325) C dX8_advances_287 (by decide) ?_
        exact f_vret C h dX8_advances_325
      · replace h := h.1 c15
        refine f_aload_n C dX8_advances_266 rfl (lv_at hl 0 rfl) ?_
        refine ge_RX8_81 C (by decide) dX8_advances_267 ?_
        refine f_aload_n C dX8_advances_270 rfl (lv_at hl 0 rfl) ?_
        refine ge_RX8_88 C (by decide) dX8_advances_271 ?_
        refine f_isub C dX8_advances_274 ?_
        refine f_iconst (v := 1) C dX8_advances_275 (by decide) ?_
        refine f_icmp_le (tgt := 283) C dX8_advances_276 (by decide) (fun c16 => ?_) (fun c16 => ?_)
        · replace h := h.1 c16
          refine f_iconst (v := 2) C dX8_advances_283 (by decide) ?_
          refine pu_RX8_91 C (by decide) dX8_advances_284 ?_
          refine f_goto (tgt := 325) C dX8_advances_287 (by decide) ?_
          exact f_vret C h dX8_advances_325
        · replace h := h.2 c16
          refine f_iconst (v := 5) C dX8_advances_279 (by decide) ?_
          refine f_goto (tgt := 284) C dX8_advances_280 (by decide) ?_
          refine pu_RX8_91 C (by decide) dX8_advances_284 ?_
          refine f_goto (tgt := 325) C dX8_advances_287 (by decide) ?_
          exact f_vret C h dX8_advances_325
  · replace h := h.2 c13
    refine f_aload_n C dX8_advances_196 rfl (lv_at hl 0 rfl) ?_
    refine f_aload_n C dX8_advances_197 rfl (lv_at hl 0 rfl) ?_
    refine ge_RX8_98 C (by decide) dX8_advances_198 ?_
    refine f_sipush (v := 999) C dX8_advances_201 (by decide) ?_
    refine f_icmp_le (tgt := 214) C dX8_advances_204 (by decide) (fun c17 => ?_) (fun c17 => ?_)
    · replace h := h.1 c17
      refine f_bipush (v := 10) C dX8_advances_214 (by decide) ?_
      refine f_aload_n C dX8_advances_216 rfl (lv_at hl 0 rfl) ?_
      refine ge_RX8_98 C (by decide) dX8_advances_217 ?_
      refine f_imul C dX8_advances_220 ?_
      refine f_aload_n C dX8_advances_221 rfl (lv_at hl 0 rfl) ?_
      refine f_aload_n C dX8_advances_222 rfl (lv_at hl 0 rfl) ?_
      refine ge_RX8_81 C (by decide) dX8_advances_223 ?_
      refine f_cVi (As := [.int (I12 8 0 9)]) (rest := [.int (10 * (I12 8 0 12)), .ref (gad g 8 0)]) (n := 1) (T0 := TX8) (N := 25) C (c_X8_byteAt h) ok_X8_byteAt im_X8_byteAt se_X8_byteAt kw_RX8_84 ⟨Nat.le_trans (by decide) hR.1, Nat.le_trans (by decide) hR.2⟩ (by decide) rfl rfl rfl hl.1 (Nat.le_of_ble_eq_true rfl) dX8_advances_226 (fun r18 I18 J18 h => ?_)
      refine f_iadd C dX8_advances_229 ?_
      refine f_bipush (v := 48) C dX8_advances_230 (by decide) ?_
      refine f_isub C dX8_advances_232 ?_
      exact t_X8_advances_233 C hR hC178 h ls (lv_sub hl [0, 1] rfl)
    · replace h := h.2 c17
      refine f_aload_n C dX8_advances_207 rfl (lv_at hl 0 rfl) ?_
      refine ge_RX8_98 C (by decide) dX8_advances_208 ?_
      refine f_goto (tgt := 233) C dX8_advances_211 (by decide) ?_
      exact t_X8_advances_233 C hR hC178 h ls (lv_sub hl [0, 1] rfl)

def L_X8_advances_178 (Q : MI → MJ → Prop) : Nat → MI → MJ → Int32 → Prop
  | 0 => fun _ _ _ => False
  | n + 1 => fun I J x1 => B_X8_advances_178 Q (L_X8_advances_178 Q n) I J x1
theorem t_X8_advances_178 {p : Program} {l : Launch} {e : Env} {R : Room} {s : State} {m : MethodId} {args : Array Value} {below : List Frame} {meth : Method} {c : Code} {g : Geo} (C : Cx g p s m args meth c cX8_advances 4 RX8 none) (hR : 2 ≤ R.frames ∧ 46 ≤ R.locals) {Q : MI → MJ → Prop} : ∀ (n : Nat), ∀ (I : MI) (J : MJ) (x1 : Int32), L_X8_advances_178 Q n I J x1 → ∀ ls : Array Slot, lv_has ls 4 [(0, .ref (gad g 8 0)), (1, .int x1)] → Wf p l e R s m args below meth c (MQ below (Qg g (PV Q)) args s 0 0 (gA g)) g I J (F0 m 178 ls []) := by
  intro n
  induction n with
  | zero => intro I J x1 h; exact h.elim
  | succ n ih => intro I J x1 h ls hl; exact b_X8_advances_178 C hR ih h ls hl
def J_X8_advances_119 (Q : MI → MJ → Prop) (C68 : MI → MJ → Int64 → Prop) (I : MI) (J : MJ) (s0 : Int64) : Prop :=
  C68 (up3 I 8 0 9 ((I 8 0 9) + 1)) J s0
set_option maxRecDepth 20000 in
theorem t_X8_advances_119 {p : Program} {l : Launch} {e : Env} {R : Room} {s : State} {m : MethodId} {args : Array Value} {below : List Frame} {meth : Method} {c : Code} {g : Geo} (C : Cx g p s m args meth c cX8_advances 4 RX8 none) (hR : 2 ≤ R.frames ∧ 46 ≤ R.locals) {Q : MI → MJ → Prop} {C68 : MI → MJ → Int64 → Prop} (hC68 : ∀ (I : MI) (J : MJ) (x2 : Int64), C68 I J x2 → ∀ ls : Array Slot, lv_has ls 4 [(0, .ref (gad g 8 0)), (2, .long x2)] → Wf p l e R s m args below meth c (MQ below (Qg g (PV Q)) args s 0 0 (gA g)) g I J (F0 m 68 ls [])) {I : MI} {J : MJ} {s0 : Int64} (h : J_X8_advances_119 Q C68 I J s0) (ls : Array Slot) (hl : lv_has ls 4 [(0, .ref (gad g 8 0))]) : Wf p l e R s m args below meth c (MQ below (Qg g (PV Q)) args s 0 0 (gA g)) g I J (F0 m 119 ls [.long s0]) := by
  refine f_lstore_n (lv' := [(2, .long s0), (0, .ref (gad g 8 0))]) C dX8_advances_119 rfl hl (by decide) rfl (fun ls hl => ?_)
  refine f_aload_n C dX8_advances_120 rfl (lv_at hl 1 rfl) ?_
  refine f_dup C dX8_advances_121 rfl ?_
  refine ge_RX8_81 C (by decide) dX8_advances_122 ?_
  refine f_iconst (v := 1) C dX8_advances_125 (by decide) ?_
  refine f_iadd C dX8_advances_126 ?_
  refine pu_RX8_81 C (by decide) dX8_advances_127 ?_
  refine f_goto (tgt := 68) C dX8_advances_130 (by decide) ?_
  exact hC68 _ _ _ h ls (lv_sub hl [1, 0] rfl)

def B_X8_advances_68 (Q : MI → MJ → Prop) (C68 : MI → MJ → Int64 → Prop) (I : MI) (J : MJ) (x2 : Int64) : Prop :=
  wp_X8_byteAt (fun r19 I19 J19 => wp_X8_in (fun r20 I20 J20 => (r20 = 0 → wp_X8_wordOf (fun r22 I22 J22 => (((up3 I22 8 0 12 r22) 8 0 12) = ((-9)) → Q (up3 (up3 I22 8 0 12 r22) 8 0 10 5) J22) ∧
  (¬ (((up3 I22 8 0 12 r22) 8 0 12) = ((-9))) → Q (up3 (up3 I22 8 0 12 r22) 8 0 10 1) J22)) I20 J20 x2) ∧
  (¬ (r20 = 0) → (6 ≤ ((I20 8 0 9) - (I20 8 0 11)) → J_X8_advances_119 Q C68 I20 J20 x2) ∧
  (¬ (6 ≤ ((I20 8 0 9) - (I20 8 0 11))) → wp_X8_byteAt (fun r25 I25 J25 => J_X8_advances_119 Q C68 I25 J25 ((256 * x2) + (r25.toInt64))) I20 J20 (I20 8 0 9)))) I19 J19 r19 97 122) I J (I 8 0 9)
set_option maxRecDepth 20000 in
theorem b_X8_advances_68 {p : Program} {l : Launch} {e : Env} {R : Room} {s : State} {m : MethodId} {args : Array Value} {below : List Frame} {meth : Method} {c : Code} {g : Geo} (C : Cx g p s m args meth c cX8_advances 4 RX8 none) (hR : 2 ≤ R.frames ∧ 46 ≤ R.locals) {Q : MI → MJ → Prop} {C68 : MI → MJ → Int64 → Prop} (hC68 : ∀ (I : MI) (J : MJ) (x2 : Int64), C68 I J x2 → ∀ ls : Array Slot, lv_has ls 4 [(0, .ref (gad g 8 0)), (2, .long x2)] → Wf p l e R s m args below meth c (MQ below (Qg g (PV Q)) args s 0 0 (gA g)) g I J (F0 m 68 ls [])) {I : MI} {J : MJ} {x2 : Int64} (h : B_X8_advances_68 Q C68 I J x2) (ls : Array Slot) (hl : lv_has ls 4 [(0, .ref (gad g 8 0)), (2, .long x2)]) : Wf p l e R s m args below meth c (MQ below (Qg g (PV Q)) args s 0 0 (gA g)) g I J (F0 m 68 ls []) := by
  refine f_aload_n C dX8_advances_68 rfl (lv_at hl 0 rfl) ?_
  refine f_aload_n C dX8_advances_69 rfl (lv_at hl 0 rfl) ?_
  refine ge_RX8_81 C (by decide) dX8_advances_70 ?_
  refine f_cVi (As := [.int (I 8 0 9)]) (rest := []) (n := 1) (T0 := TX8) (N := 25) C (c_X8_byteAt h) ok_X8_byteAt im_X8_byteAt se_X8_byteAt kw_RX8_84 ⟨Nat.le_trans (by decide) hR.1, Nat.le_trans (by decide) hR.2⟩ (by decide) rfl rfl rfl hl.1 (Nat.le_of_ble_eq_true rfl) dX8_advances_73 (fun r19 I19 J19 h => ?_)
  refine f_bipush (v := 97) C dX8_advances_76 (by decide) ?_
  refine f_bipush (v := 122) C dX8_advances_78 (by decide) ?_
  refine f_cSi (As := [.int r19, .int 97, .int 122]) (rest := []) (n := 3) C (c_X8_in h) ok_X8_in sm_X8_in kw_RX8_61 ⟨Nat.le_trans (by decide) hR.1, Nat.le_trans (by decide) hR.2⟩ rfl hl.1 (Nat.le_of_ble_eq_true rfl) dX8_advances_80 (fun r20 I20 J20 h => ?_)
  refine f_if_eq (tgt := 133) C dX8_advances_83 (by decide) (fun c21 => ?_) (fun c21 => ?_)
  · replace h := h.1 c21
    refine f_aload_n C dX8_advances_133 rfl (lv_at hl 0 rfl) ?_
    refine f_lload_n C dX8_advances_134 rfl (lv_at hl 1 rfl) ?_
    refine f_cSi (As := [.long x2]) (rest := [.ref (gad g 8 0)]) (n := 1) C (c_X8_wordOf h) ok_X8_wordOf sm_X8_wordOf kw_RX8_94 ⟨Nat.le_trans (by decide) hR.1, Nat.le_trans (by decide) hR.2⟩ rfl hl.1 (Nat.le_of_ble_eq_true rfl) dX8_advances_135 (fun r22 I22 J22 h => ?_)
    refine pu_RX8_98 C (by decide) dX8_advances_138 ?_
    refine f_aload_n C dX8_advances_141 rfl (lv_at hl 0 rfl) ?_
    refine f_aload_n C dX8_advances_142 rfl (lv_at hl 0 rfl) ?_
    refine ge_RX8_98 C (by decide) dX8_advances_143 ?_
    refine f_bipush (v := (-9)) C dX8_advances_146 (by decide) ?_
    refine f_icmp_ne (tgt := 155) C dX8_advances_148 (by decide) (fun c23 => ?_) (fun c23 => ?_)
    · replace h := h.2 c23
      refine f_iconst (v := 1) C dX8_advances_155 (by decide) ?_
      refine pu_RX8_91 C (by decide) dX8_advances_156 ?_
      refine f_goto (tgt := 325) C dX8_advances_159 (by decide) ?_
      exact f_vret C h dX8_advances_325
    · replace h := h.1 c23
      refine f_iconst (v := 5) C dX8_advances_151 (by decide) ?_
      refine f_goto (tgt := 156) C dX8_advances_152 (by decide) ?_
      refine pu_RX8_91 C (by decide) dX8_advances_156 ?_
      refine f_goto (tgt := 325) C dX8_advances_159 (by decide) ?_
      exact f_vret C h dX8_advances_325
  · replace h := h.2 c21
    refine f_aload_n C dX8_advances_86 rfl (lv_at hl 0 rfl) ?_
    refine ge_RX8_81 C (by decide) dX8_advances_87 ?_
    refine f_aload_n C dX8_advances_90 rfl (lv_at hl 0 rfl) ?_
    refine ge_RX8_88 C (by decide) dX8_advances_91 ?_
    refine f_isub C dX8_advances_94 ?_
    refine f_bipush (v := 6) C dX8_advances_95 (by decide) ?_
    refine f_icmp_ge (tgt := 118) C dX8_advances_97 (by decide) (fun c24 => ?_) (fun c24 => ?_)
    · replace h := h.1 c24
      refine f_lload_n C dX8_advances_118 rfl (lv_at hl 1 rfl) ?_
      exact t_X8_advances_119 C hR hC68 h ls (lv_sub hl [0] rfl)
    · replace h := h.2 c24
      refine f_ldc2 C kc_RX8_79 dX8_advances_100 ?_
      refine f_lload_n C dX8_advances_103 rfl (lv_at hl 1 rfl) ?_
      refine f_lmul C dX8_advances_104 ?_
      refine f_aload_n C dX8_advances_105 rfl (lv_at hl 0 rfl) ?_
      refine f_aload_n C dX8_advances_106 rfl (lv_at hl 0 rfl) ?_
      refine ge_RX8_81 C (by decide) dX8_advances_107 ?_
      refine f_cVi (As := [.int (I20 8 0 9)]) (rest := [.long (256 * x2)]) (n := 1) (T0 := TX8) (N := 25) C (c_X8_byteAt h) ok_X8_byteAt im_X8_byteAt se_X8_byteAt kw_RX8_84 ⟨Nat.le_trans (by decide) hR.1, Nat.le_trans (by decide) hR.2⟩ (by decide) rfl rfl rfl hl.1 (Nat.le_of_ble_eq_true rfl) dX8_advances_110 (fun r25 I25 J25 h => ?_)
      refine f_i2l (v := r25.toInt64) C dX8_advances_113 rfl ?_
      refine f_ladd C dX8_advances_114 ?_
      refine f_goto (tgt := 119) C dX8_advances_115 (by decide) ?_
      exact t_X8_advances_119 C hR hC68 h ls (lv_sub hl [0] rfl)

def L_X8_advances_68 (Q : MI → MJ → Prop) : Nat → MI → MJ → Int64 → Prop
  | 0 => fun _ _ _ => False
  | n + 1 => fun I J x2 => B_X8_advances_68 Q (L_X8_advances_68 Q n) I J x2
theorem t_X8_advances_68 {p : Program} {l : Launch} {e : Env} {R : Room} {s : State} {m : MethodId} {args : Array Value} {below : List Frame} {meth : Method} {c : Code} {g : Geo} (C : Cx g p s m args meth c cX8_advances 4 RX8 none) (hR : 2 ≤ R.frames ∧ 46 ≤ R.locals) {Q : MI → MJ → Prop} : ∀ (n : Nat), ∀ (I : MI) (J : MJ) (x2 : Int64), L_X8_advances_68 Q n I J x2 → ∀ ls : Array Slot, lv_has ls 4 [(0, .ref (gad g 8 0)), (2, .long x2)] → Wf p l e R s m args below meth c (MQ below (Qg g (PV Q)) args s 0 0 (gA g)) g I J (F0 m 68 ls []) := by
  intro n
  induction n with
  | zero => intro I J x2 h; exact h.elim
  | succ n ih => intro I J x2 h ls hl; exact b_X8_advances_68 C hR ih h ls hl
def B_X8_advances_0 (Q : MI → MJ → Prop) (C0 : MI → MJ → Prop) (I : MI) (J : MJ) : Prop :=
  wp_X8_byteAt (fun r1 I1 J1 => (r1 = 32 → C0 (up3 I1 8 0 9 ((I1 8 0 9) + 1)) J1) ∧
  (¬ (r1 = 32) → wp_X8_byteAt (fun r3 I3 J3 => (0 ≤ r3 → wp_X8_in (fun r5 I5 J5 => (r5 = 0 → wp_X8_in (fun r7 I7 J7 => (r7 = 0 → (r3 = 47 → Q (up3 (up3 I7 8 0 9 ((I7 8 0 9) + 1)) 8 0 10 3) J7) ∧
  (¬ (r3 = 47) → (r3 = 59 → Q (up3 (up3 I7 8 0 9 ((I7 8 0 9) + 1)) 8 0 10 4) J7) ∧
  (¬ (r3 = 59) → Q (up3 (up3 I7 8 0 9 ((I7 8 0 9) + 1)) 8 0 10 5) J7))) ∧
  (¬ (r7 = 0) → ∃ n : Nat, L_X8_advances_178 Q n (up3 I7 8 0 12 0) J7 r3)) I5 J5 r3 48 57) ∧
  (¬ (r5 = 0) → ∃ n : Nat, L_X8_advances_68 Q n I5 J5 0)) I3 J3 r3 97 122) ∧
  (¬ (0 ≤ r3) → Q (up3 I3 8 0 10 0) J3)) (up3 I1 8 0 11 (I1 8 0 9)) J1 ((up3 I1 8 0 11 (I1 8 0 9)) 8 0 9))) I J (I 8 0 9)
set_option maxRecDepth 20000 in
theorem b_X8_advances_0 {p : Program} {l : Launch} {e : Env} {R : Room} {s : State} {m : MethodId} {args : Array Value} {below : List Frame} {meth : Method} {c : Code} {g : Geo} (C : Cx g p s m args meth c cX8_advances 4 RX8 none) (hR : 2 ≤ R.frames ∧ 46 ≤ R.locals) {Q : MI → MJ → Prop} {C0 : MI → MJ → Prop} (hC0 : ∀ (I : MI) (J : MJ), C0 I J → ∀ ls : Array Slot, lv_has ls 4 [(0, .ref (gad g 8 0))] → Wf p l e R s m args below meth c (MQ below (Qg g (PV Q)) args s 0 0 (gA g)) g I J (F0 m 0 ls [])) {I : MI} {J : MJ} (h : B_X8_advances_0 Q C0 I J) (ls : Array Slot) (hl : lv_has ls 4 [(0, .ref (gad g 8 0))]) : Wf p l e R s m args below meth c (MQ below (Qg g (PV Q)) args s 0 0 (gA g)) g I J (F0 m 0 ls []) := by
  refine f_aload_n C dX8_advances_0 rfl (lv_at hl 0 rfl) ?_
  refine f_aload_n C dX8_advances_1 rfl (lv_at hl 0 rfl) ?_
  refine ge_RX8_81 C (by decide) dX8_advances_2 ?_
  refine f_cVi (As := [.int (I 8 0 9)]) (rest := []) (n := 1) (T0 := TX8) (N := 25) C (c_X8_byteAt h) ok_X8_byteAt im_X8_byteAt se_X8_byteAt kw_RX8_84 ⟨Nat.le_trans (by decide) hR.1, Nat.le_trans (by decide) hR.2⟩ (by decide) rfl rfl rfl hl.1 (Nat.le_of_ble_eq_true rfl) dX8_advances_5 (fun r1 I1 J1 h => ?_)
  refine f_bipush (v := 32) C dX8_advances_8 (by decide) ?_
  refine f_icmp_ne (tgt := 26) C dX8_advances_10 (by decide) (fun c2 => ?_) (fun c2 => ?_)
  · replace h := h.2 c2
    refine f_aload_n C dX8_advances_26 rfl (lv_at hl 0 rfl) ?_
    refine f_aload_n C dX8_advances_27 rfl (lv_at hl 0 rfl) ?_
    refine ge_RX8_81 C (by decide) dX8_advances_28 ?_
    refine pu_RX8_88 C (by decide) dX8_advances_31 ?_
    refine f_aload_n C dX8_advances_34 rfl (lv_at hl 0 rfl) ?_
    refine f_aload_n C dX8_advances_35 rfl (lv_at hl 0 rfl) ?_
    refine ge_RX8_81 C (by decide) dX8_advances_36 ?_
    refine f_cVi (As := [.int ((up3 I1 8 0 11 (I1 8 0 9)) 8 0 9)]) (rest := []) (n := 1) (T0 := TX8) (N := 25) C (c_X8_byteAt h) ok_X8_byteAt im_X8_byteAt se_X8_byteAt kw_RX8_84 ⟨Nat.le_trans (by decide) hR.1, Nat.le_trans (by decide) hR.2⟩ (by decide) rfl rfl rfl hl.1 (Nat.le_of_ble_eq_true rfl) dX8_advances_39 (fun r3 I3 J3 h => ?_)
    refine f_istore_n (lv' := [(1, .int r3), (0, .ref (gad g 8 0))]) C dX8_advances_42 rfl hl (by decide) rfl (fun ls hl => ?_)
    refine f_iload_n C dX8_advances_43 rfl (lv_at hl 0 rfl) ?_
    refine f_if_ge (tgt := 55) C dX8_advances_44 (by decide) (fun c4 => ?_) (fun c4 => ?_)
    · replace h := h.1 c4
      refine f_iload_n C dX8_advances_55 rfl (lv_at hl 0 rfl) ?_
      refine f_bipush (v := 97) C dX8_advances_56 (by decide) ?_
      refine f_bipush (v := 122) C dX8_advances_58 (by decide) ?_
      refine f_cSi (As := [.int r3, .int 97, .int 122]) (rest := []) (n := 3) C (c_X8_in h) ok_X8_in sm_X8_in kw_RX8_61 ⟨Nat.le_trans (by decide) hR.1, Nat.le_trans (by decide) hR.2⟩ rfl hl.1 (Nat.le_of_ble_eq_true rfl) dX8_advances_60 (fun r5 I5 J5 h => ?_)
      refine f_if_eq (tgt := 162) C dX8_advances_63 (by decide) (fun c6 => ?_) (fun c6 => ?_)
      · replace h := h.1 c6
        refine f_iload_n C dX8_advances_162 rfl (lv_at hl 0 rfl) ?_
        refine f_bipush (v := 48) C dX8_advances_163 (by decide) ?_
        refine f_bipush (v := 57) C dX8_advances_165 (by decide) ?_
        refine f_cSi (As := [.int r3, .int 48, .int 57]) (rest := []) (n := 3) C (c_X8_in h) ok_X8_in sm_X8_in kw_RX8_61 ⟨Nat.le_trans (by decide) hR.1, Nat.le_trans (by decide) hR.2⟩ rfl hl.1 (Nat.le_of_ble_eq_true rfl) dX8_advances_167 (fun r7 I7 J7 h => ?_)
        refine f_if_eq (tgt := 290) C dX8_advances_170 (by decide) (fun c8 => ?_) (fun c8 => ?_)
        · replace h := h.1 c8
          refine f_aload_n C dX8_advances_290 rfl (lv_at hl 1 rfl) ?_
          refine f_dup C dX8_advances_291 rfl ?_
          refine ge_RX8_81 C (by decide) dX8_advances_292 ?_
          refine f_iconst (v := 1) C dX8_advances_295 (by decide) ?_
          refine f_iadd C dX8_advances_296 ?_
          refine pu_RX8_81 C (by decide) dX8_advances_297 ?_
          refine f_aload_n C dX8_advances_300 rfl (lv_at hl 1 rfl) ?_
          refine f_iload_n C dX8_advances_301 rfl (lv_at hl 0 rfl) ?_
          refine f_bipush (v := 47) C dX8_advances_302 (by decide) ?_
          refine f_icmp_ne (tgt := 311) C dX8_advances_304 (by decide) (fun c9 => ?_) (fun c9 => ?_)
          · replace h := h.2 c9
            refine f_iload_n C dX8_advances_311 rfl (lv_at hl 0 rfl) ?_
            refine f_bipush (v := 59) C dX8_advances_312 (by decide) ?_
            refine f_icmp_ne (tgt := 321) C dX8_advances_314 (by decide) (fun c10 => ?_) (fun c10 => ?_)
            · replace h := h.2 c10
              refine f_iconst (v := 5) C dX8_advances_321 (by decide) ?_
              refine pu_RX8_91 C (by decide) dX8_advances_322 ?_
              exact f_vret C h dX8_advances_325
            · replace h := h.1 c10
              refine f_iconst (v := 4) C dX8_advances_317 (by decide) ?_
              refine f_goto (tgt := 322) C dX8_advances_318 (by decide) ?_
              refine pu_RX8_91 C (by decide) dX8_advances_322 ?_
              exact f_vret C h dX8_advances_325
          · replace h := h.1 c9
            refine f_iconst (v := 3) C dX8_advances_307 (by decide) ?_
            refine f_goto (tgt := 322) C dX8_advances_308 (by decide) ?_
            refine pu_RX8_91 C (by decide) dX8_advances_322 ?_
            exact f_vret C h dX8_advances_325
        · replace h := h.2 c8
          refine f_aload_n C dX8_advances_173 rfl (lv_at hl 1 rfl) ?_
          refine f_iconst (v := 0) C dX8_advances_174 (by decide) ?_
          refine pu_RX8_98 C (by decide) dX8_advances_175 ?_
          obtain ⟨n, h⟩ := h
          exact t_X8_advances_178 C hR n _ _ _ h ls (lv_sub hl [1, 0] rfl)
      · replace h := h.2 c6
        refine f_lconst (v := 0) C dX8_advances_66 (by decide) ?_
        refine f_lstore_n (lv' := [(2, .long 0), (1, .int r3), (0, .ref (gad g 8 0))]) C dX8_advances_67 rfl hl (by decide) rfl (fun ls hl => ?_)
        obtain ⟨n, h⟩ := h
        exact t_X8_advances_68 C hR n _ _ _ h ls (lv_sub hl [2, 0] rfl)
    · replace h := h.2 c4
      refine f_aload_n C dX8_advances_47 rfl (lv_at hl 1 rfl) ?_
      refine f_iconst (v := 0) C dX8_advances_48 (by decide) ?_
      refine pu_RX8_91 C (by decide) dX8_advances_49 ?_
      refine f_goto (tgt := 325) C dX8_advances_52 (by decide) ?_
      exact f_vret C h dX8_advances_325
  · replace h := h.1 c2
    refine f_aload_n C dX8_advances_13 rfl (lv_at hl 0 rfl) ?_
    refine f_dup C dX8_advances_14 rfl ?_
    refine ge_RX8_81 C (by decide) dX8_advances_15 ?_
    refine f_iconst (v := 1) C dX8_advances_18 (by decide) ?_
    refine f_iadd C dX8_advances_19 ?_
    refine pu_RX8_81 C (by decide) dX8_advances_20 ?_
    refine f_goto (tgt := 0) C dX8_advances_23 (by decide) ?_
    exact hC0 _ _ h ls (lv_sub hl [0] rfl)

def L_X8_advances_0 (Q : MI → MJ → Prop) : Nat → MI → MJ → Prop
  | 0 => fun _ _ => False
  | n + 1 => fun I J => B_X8_advances_0 Q (L_X8_advances_0 Q n) I J
theorem t_X8_advances_0 {p : Program} {l : Launch} {e : Env} {R : Room} {s : State} {m : MethodId} {args : Array Value} {below : List Frame} {meth : Method} {c : Code} {g : Geo} (C : Cx g p s m args meth c cX8_advances 4 RX8 none) (hR : 2 ≤ R.frames ∧ 46 ≤ R.locals) {Q : MI → MJ → Prop} : ∀ (n : Nat), ∀ (I : MI) (J : MJ), L_X8_advances_0 Q n I J → ∀ ls : Array Slot, lv_has ls 4 [(0, .ref (gad g 8 0))] → Wf p l e R s m args below meth c (MQ below (Qg g (PV Q)) args s 0 0 (gA g)) g I J (F0 m 0 ls []) := by
  intro n
  induction n with
  | zero => intro I J h; exact h.elim
  | succ n ih => intro I J h ls hl; exact b_X8_advances_0 C hR ih h ls hl
def wp_X8_advances (Q : MI → MJ → Prop) (I : MI) (J : MJ) : Prop :=
  ∃ n : Nat, L_X8_advances_0 Q n I J
set_option maxRecDepth 20000 in
theorem c_X8_advances {l : Launch} {g : Geo} {Q : MI → MJ → Prop} {I : MI} {J : MJ} (h : wp_X8_advances Q I J) : Ct g l yX8_advances cX8_advances 4 none 2 46 [.ref (gad g 8 0)] I J (PV Q) := by
  refine Ct.of (by decide) ?_
  intro p e s m below meth c C
  have hR : 2 ≤ (Rm 2 46).frames ∧ 46 ≤ (Rm 2 46).locals := ⟨Nat.le_refl _, Nat.le_refl _⟩
  generalize Rm 2 46 = R at hR ⊢
  have hl := lv_entry ([.ref (gad g 8 0)]) (n := 4) (Nat.le_of_ble_eq_true rfl)
  rw [lg_entry_eq]
  generalize (lg_sl ([.ref (gad g 8 0)]) ++ List.replicate (4 - (lg_sl ([.ref (gad g 8 0)])).length) Slot.unset).toArray = ls at hl ⊢
  have hl : lv_has ls 4 [(0, .ref (gad g 8 0))] := hl
  obtain ⟨n, h⟩ := h
  exact t_X8_advances_0 C hR n _ _ h ls (lv_sub hl [0] rfl)

def wp_X8_isWell (Q : Int32 → MI → MJ → Prop) (I : MI) (J : MJ) : Prop :=
  (0 ≤ (I 8 0 13) → Q 0 I J) ∧
  (¬ (0 ≤ (I 8 0 13)) → Q 1 I J)
set_option maxRecDepth 20000 in
theorem c_X8_isWell {l : Launch} {g : Geo} {Q : Int32 → MI → MJ → Prop} {I : MI} {J : MJ} (h : wp_X8_isWell Q I J) : Ct g l yX8_isWell cX8_isWell 1 (some .boolean) 0 0 [.ref (gad g 8 0)] I J (PI Q) := by
  refine Ct.of (by decide) ?_
  intro p e s m below meth c C
  have hR : 0 ≤ (Rm 0 0).frames ∧ 0 ≤ (Rm 0 0).locals := ⟨Nat.le_refl _, Nat.le_refl _⟩
  generalize Rm 0 0 = R at hR ⊢
  have hl := lv_entry ([.ref (gad g 8 0)]) (n := 1) (Nat.le_of_ble_eq_true rfl)
  rw [lg_entry_eq]
  generalize (lg_sl ([.ref (gad g 8 0)]) ++ List.replicate (1 - (lg_sl ([.ref (gad g 8 0)])).length) Slot.unset).toArray = ls at hl ⊢
  have hl : lv_has ls 1 [(0, .ref (gad g 8 0))] := hl
  refine f_aload_n C dX8_isWell_0 rfl (lv_at hl 0 rfl) ?_
  refine ge_RX8_101 C (by decide) dX8_isWell_1 ?_
  refine f_if_ge (tgt := 11) C dX8_isWell_4 (by decide) (fun c1 => ?_) (fun c1 => ?_)
  · replace h := h.1 c1
    refine f_iconst (v := 0) C dX8_isWell_11 (by decide) ?_
    exact f_zret C (Or.inl rfl) h dX8_isWell_12
  · replace h := h.2 c1
    refine f_iconst (v := 1) C dX8_isWell_7 (by decide) ?_
    refine f_goto (tgt := 12) C dX8_isWell_8 (by decide) ?_
    exact f_zret C (Or.inr rfl) h dX8_isWell_12

def wp_X8_takes (Q : Int32 → MI → MJ → Prop) (I : MI) (J : MJ) (x1 : Int32) : Prop :=
  wp_X8_isWell (fun r1 I1 J1 => (r1 = 0 → Q 0 I1 J1) ∧
  (¬ (r1 = 0) → (x1 = 0 → Q 0 (up3 I1 8 0 13 (I1 8 0 11)) J1) ∧
  (¬ (x1 = 0) → wp_X8_advances (fun I4 J4 => Q (I1 8 0 12) I4 J4) I1 J1))) I J
set_option maxRecDepth 20000 in
theorem c_X8_takes {l : Launch} {g : Geo} {Q : Int32 → MI → MJ → Prop} {I : MI} {J : MJ} {x1 : Int32} (h : wp_X8_takes Q I J x1) : Ct g l yX8_takes cX8_takes 3 (some .int) 3 69 [.ref (gad g 8 0), .int x1] I J (PI Q) := by
  refine Ct.of (by decide) ?_
  intro p e s m below meth c C
  have hR : 3 ≤ (Rm 3 69).frames ∧ 69 ≤ (Rm 3 69).locals := ⟨Nat.le_refl _, Nat.le_refl _⟩
  generalize Rm 3 69 = R at hR ⊢
  have hl := lv_entry ([.ref (gad g 8 0), .int x1]) (n := 3) (Nat.le_of_ble_eq_true rfl)
  rw [lg_entry_eq]
  generalize (lg_sl ([.ref (gad g 8 0), .int x1]) ++ List.replicate (3 - (lg_sl ([.ref (gad g 8 0), .int x1])).length) Slot.unset).toArray = ls at hl ⊢
  have hl : lv_has ls 3 [(0, .ref (gad g 8 0)), (1, .int x1)] := hl
  refine f_aload_n C dX8_takes_0 rfl (lv_at hl 0 rfl) ?_
  refine f_cVi (As := []) (rest := []) (n := 0) (T0 := TX8) (N := 25) C (c_X8_isWell h) ok_X8_isWell im_X8_isWell se_X8_isWell kw_RX8_104 ⟨Nat.le_trans (by decide) hR.1, Nat.le_trans (by decide) hR.2⟩ (by decide) rfl rfl rfl hl.1 (Nat.le_of_ble_eq_true rfl) dX8_takes_1 (fun r1 I1 J1 h => ?_)
  refine f_if_ne (tgt := 9) C dX8_takes_4 (by decide) (fun c2 => ?_) (fun c2 => ?_)
  · replace h := h.2 c2
    refine f_iload_n C dX8_takes_9 rfl (lv_at hl 1 rfl) ?_
    refine f_if_ne (tgt := 23) C dX8_takes_10 (by decide) (fun c3 => ?_) (fun c3 => ?_)
    · replace h := h.2 c3
      refine f_aload_n C dX8_takes_23 rfl (lv_at hl 0 rfl) ?_
      refine ge_RX8_98 C (by decide) dX8_takes_24 ?_
      refine f_istore_n (lv' := [(2, .int (I1 8 0 12)), (0, .ref (gad g 8 0)), (1, .int x1)]) C dX8_takes_27 rfl hl (by decide) rfl (fun ls hl => ?_)
      refine f_aload_n C dX8_takes_28 rfl (lv_at hl 1 rfl) ?_
      refine f_cVv (As := []) (rest := []) (n := 0) (T0 := TX8) (N := 25) C (c_X8_advances h) ok_X8_advances im_X8_advances se_X8_advances kw_RX8_108 ⟨Nat.le_trans (by decide) hR.1, Nat.le_trans (by decide) hR.2⟩ (by decide) rfl rfl rfl hl.1 (Nat.le_of_ble_eq_true rfl) dX8_takes_29 (fun I4 J4 h => ?_)
      refine f_iload_n C dX8_takes_32 rfl (lv_at hl 0 rfl) ?_
      exact f_iret C h dX8_takes_33
    · replace h := h.1 c3
      refine f_aload_n C dX8_takes_13 rfl (lv_at hl 0 rfl) ?_
      refine f_aload_n C dX8_takes_14 rfl (lv_at hl 0 rfl) ?_
      refine ge_RX8_88 C (by decide) dX8_takes_15 ?_
      refine pu_RX8_101 C (by decide) dX8_takes_18 ?_
      refine f_iconst (v := 0) C dX8_takes_21 (by decide) ?_
      exact f_iret C h dX8_takes_22
  · replace h := h.1 c2
    refine f_iconst (v := 0) C dX8_takes_7 (by decide) ?_
    exact f_iret C h dX8_takes_8

def J_X8_takesNumber_26 (Q : Int32 → MI → MJ → Prop) (I : MI) (J : MJ) (s0 : Int32) : Prop :=
  wp_X8_takes (fun r2 I2 J2 => Q r2 I2 J2) I J s0
set_option maxRecDepth 20000 in
theorem t_X8_takesNumber_26 {p : Program} {l : Launch} {e : Env} {R : Room} {s : State} {m : MethodId} {args : Array Value} {below : List Frame} {meth : Method} {c : Code} {g : Geo} (C : Cx g p s m args meth c cX8_takesNumber 3 RX8 (some .int)) (hR : 4 ≤ R.frames ∧ 91 ≤ R.locals) {Q : Int32 → MI → MJ → Prop} {I : MI} {J : MJ} {s0 : Int32} (h : J_X8_takesNumber_26 Q I J s0) (ls : Array Slot) (hl : lv_has ls 3 []) : Wf p l e R s m args below meth c (MQ below (Qg g (PI Q)) args s 0 0 (gA g)) g I J (F0 m 26 ls [.int s0, .ref (gad g 8 0)]) := by
  refine f_cVi (As := [.int s0]) (rest := []) (n := 1) (T0 := TX8) (N := 25) C (c_X8_takes h) ok_X8_takes im_X8_takes se_X8_takes kw_RX8_111 ⟨Nat.le_trans (by decide) hR.1, Nat.le_trans (by decide) hR.2⟩ (by decide) rfl rfl rfl hl.1 (Nat.le_of_ble_eq_true rfl) dX8_takesNumber_26 (fun r2 I2 J2 h => ?_)
  exact f_iret C h dX8_takesNumber_29

def J_X8_takesNumber_25 (Q : Int32 → MI → MJ → Prop) (I : MI) (J : MJ) : Prop :=
  J_X8_takesNumber_26 Q I J 0
set_option maxRecDepth 20000 in
theorem t_X8_takesNumber_25 {p : Program} {l : Launch} {e : Env} {R : Room} {s : State} {m : MethodId} {args : Array Value} {below : List Frame} {meth : Method} {c : Code} {g : Geo} (C : Cx g p s m args meth c cX8_takesNumber 3 RX8 (some .int)) (hR : 4 ≤ R.frames ∧ 91 ≤ R.locals) {Q : Int32 → MI → MJ → Prop} {I : MI} {J : MJ} (h : J_X8_takesNumber_25 Q I J) (ls : Array Slot) (hl : lv_has ls 3 []) : Wf p l e R s m args below meth c (MQ below (Qg g (PI Q)) args s 0 0 (gA g)) g I J (F0 m 25 ls [.ref (gad g 8 0)]) := by
  refine f_iconst (v := 0) C dX8_takesNumber_25 (by decide) ?_
  exact t_X8_takesNumber_26 C hR h ls (lv_sub hl [] rfl)

def wp_X8_takesNumber (Q : Int32 → MI → MJ → Prop) (I : MI) (J : MJ) (x1 : Int32) (x2 : Int32) : Prop :=
  ((I 8 0 10) = 2 → wp_X8_in (fun r3 I3 J3 => (r3 = 0 → J_X8_takesNumber_25 Q I3 J3) ∧
  (¬ (r3 = 0) → J_X8_takesNumber_26 Q I3 J3 1)) I J (I 8 0 12) x1 x2) ∧
  (¬ ((I 8 0 10) = 2) → J_X8_takesNumber_25 Q I J)
set_option maxRecDepth 20000 in
theorem c_X8_takesNumber {l : Launch} {g : Geo} {Q : Int32 → MI → MJ → Prop} {I : MI} {J : MJ} {x1 : Int32} {x2 : Int32} (h : wp_X8_takesNumber Q I J x1 x2) : Ct g l yX8_takesNumber cX8_takesNumber 3 (some .int) 4 91 [.ref (gad g 8 0), .int x1, .int x2] I J (PI Q) := by
  refine Ct.of (by decide) ?_
  intro p e s m below meth c C
  have hR : 4 ≤ (Rm 4 91).frames ∧ 91 ≤ (Rm 4 91).locals := ⟨Nat.le_refl _, Nat.le_refl _⟩
  generalize Rm 4 91 = R at hR ⊢
  have hl := lv_entry ([.ref (gad g 8 0), .int x1, .int x2]) (n := 3) (Nat.le_of_ble_eq_true rfl)
  rw [lg_entry_eq]
  generalize (lg_sl ([.ref (gad g 8 0), .int x1, .int x2]) ++ List.replicate (3 - (lg_sl ([.ref (gad g 8 0), .int x1, .int x2])).length) Slot.unset).toArray = ls at hl ⊢
  have hl : lv_has ls 3 [(0, .ref (gad g 8 0)), (1, .int x1), (2, .int x2)] := hl
  refine f_aload_n C dX8_takesNumber_0 rfl (lv_at hl 0 rfl) ?_
  refine f_aload_n C dX8_takesNumber_1 rfl (lv_at hl 0 rfl) ?_
  refine ge_RX8_91 C (by decide) dX8_takesNumber_2 ?_
  refine f_iconst (v := 2) C dX8_takesNumber_5 (by decide) ?_
  refine f_icmp_ne (tgt := 25) C dX8_takesNumber_6 (by decide) (fun c1 => ?_) (fun c1 => ?_)
  · replace h := h.2 c1
    exact t_X8_takesNumber_25 C hR h ls (lv_sub hl [] rfl)
  · replace h := h.1 c1
    refine f_aload_n C dX8_takesNumber_9 rfl (lv_at hl 0 rfl) ?_
    refine ge_RX8_98 C (by decide) dX8_takesNumber_10 ?_
    refine f_iload_n C dX8_takesNumber_13 rfl (lv_at hl 1 rfl) ?_
    refine f_iload_n C dX8_takesNumber_14 rfl (lv_at hl 2 rfl) ?_
    refine f_cSi (As := [.int (I 8 0 12), .int x1, .int x2]) (rest := [.ref (gad g 8 0)]) (n := 3) C (c_X8_in h) ok_X8_in sm_X8_in kw_RX8_61 ⟨Nat.le_trans (by decide) hR.1, Nat.le_trans (by decide) hR.2⟩ rfl hl.1 (Nat.le_of_ble_eq_true rfl) dX8_takesNumber_15 (fun r3 I3 J3 h => ?_)
    refine f_if_eq (tgt := 25) C dX8_takesNumber_18 (by decide) (fun c4 => ?_) (fun c4 => ?_)
    · replace h := h.1 c4
      exact t_X8_takesNumber_25 C hR h ls (lv_sub hl [] rfl)
    · replace h := h.2 c4
      refine f_iconst (v := 1) C dX8_takesNumber_21 (by decide) ?_
      refine f_goto (tgt := 26) C dX8_takesNumber_22 (by decide) ?_
      exact t_X8_takesNumber_26 C hR h ls (lv_sub hl [] rfl)

def B_X8_rule_269 (Q : Int32 → MI → MJ → Prop) (C269 : MI → MJ → Int32 → Int32 → Prop) (I : MI) (J : MJ) (x1 : Int32) (x3 : Int32) : Prop :=
  (6 ≤ x3 → Q x1 (up3 I 8 0 8 0) J) ∧
  (¬ (6 ≤ x3) → vp_in (6 + x3) 12 ∧ (vp_in x3 12 ∧ (C269 (up3 I 29 0 (x3.toNatClampNeg) (I 29 0 ((6 + x3).toNatClampNeg))) J x1 (x3 + 1))))
set_option maxRecDepth 20000 in
theorem b_X8_rule_269 {p : Program} {l : Launch} {e : Env} {R : Room} {s : State} {m : MethodId} {args : Array Value} {below : List Frame} {meth : Method} {c : Code} {g : Geo} (C : Cx g p s m args meth c cX8_rule 4 RX8 (some .int)) (hR : 5 ≤ R.frames ∧ 113 ≤ R.locals) {Q : Int32 → MI → MJ → Prop} {C269 : MI → MJ → Int32 → Int32 → Prop} (hC269 : ∀ (I : MI) (J : MJ) (x1 : Int32) (x3 : Int32), C269 I J x1 x3 → ∀ ls : Array Slot, lv_has ls 4 [(0, .ref (gad g 8 0)), (1, .int x1), (3, .int x3)] → Wf p l e R s m args below meth c (MQ below (Qg g (PI Q)) args s 0 0 (gA g)) g I J (F0 m 269 ls [])) {I : MI} {J : MJ} {x1 : Int32} {x3 : Int32} (h : B_X8_rule_269 Q C269 I J x1 x3) (ls : Array Slot) (hl : lv_has ls 4 [(0, .ref (gad g 8 0)), (1, .int x1), (3, .int x3)]) : Wf p l e R s m args below meth c (MQ below (Qg g (PI Q)) args s 0 0 (gA g)) g I J (F0 m 269 ls []) := by
  refine f_iload_n C dX8_rule_269 rfl (lv_at hl 2 rfl) ?_
  refine f_bipush (v := 6) C dX8_rule_270 (by decide) ?_
  refine f_icmp_ge (tgt := 296) C dX8_rule_272 (by decide) (fun c7 => ?_) (fun c7 => ?_)
  · replace h := h.1 c7
    refine f_aload_n C dX8_rule_296 rfl (lv_at hl 0 rfl) ?_
    refine f_iconst (v := 0) C dX8_rule_297 (by decide) ?_
    refine pu_RX8_70 C (by decide) dX8_rule_298 ?_
    refine f_iload_n C dX8_rule_301 rfl (lv_at hl 1 rfl) ?_
    exact f_iret C h dX8_rule_302
  · replace h := h.2 c7
    refine f_aload_n C dX8_rule_275 rfl (lv_at hl 0 rfl) ?_
    refine ge_RX8_23 C (by decide) dX8_rule_276 ?_
    refine f_iload_n C dX8_rule_279 rfl (lv_at hl 2 rfl) ?_
    refine f_aload_n C dX8_rule_280 rfl (lv_at hl 0 rfl) ?_
    refine ge_RX8_23 C (by decide) dX8_rule_281 ?_
    refine f_bipush (v := 6) C dX8_rule_284 (by decide) ?_
    refine f_iload_n C dX8_rule_286 rfl (lv_at hl 2 rfl) ?_
    refine f_iadd C dX8_rule_287 ?_
    obtain ⟨hi8, h⟩ := h
    refine al_k (n := 12) (k := (6 + x3).toNatClampNeg) C (by decide) rfl rfl hi8 dX8_rule_288 ?_
    obtain ⟨hi9, h⟩ := h
    refine as_k (n := 12) (k := x3.toNatClampNeg) C (by decide) (fun _ => rfl) rfl hi9 dX8_rule_289 ?_
    refine f_iinc (v := x3 + 1) (lv' := [(3, .int (x3 + 1)), (0, .ref (gad g 8 0)), (1, .int x1)]) C dX8_rule_290 hl (k := 2) rfl rfl (by decide) rfl (fun ls hl => ?_)
    refine f_goto (tgt := 269) C dX8_rule_293 (by decide) ?_
    exact hC269 _ _ _ _ h ls (lv_sub hl [1, 2, 0] rfl)

def L_X8_rule_269 (Q : Int32 → MI → MJ → Prop) : Nat → MI → MJ → Int32 → Int32 → Prop
  | 0 => fun _ _ _ _ => False
  | n + 1 => fun I J x1 x3 => B_X8_rule_269 Q (L_X8_rule_269 Q n) I J x1 x3
theorem t_X8_rule_269 {p : Program} {l : Launch} {e : Env} {R : Room} {s : State} {m : MethodId} {args : Array Value} {below : List Frame} {meth : Method} {c : Code} {g : Geo} (C : Cx g p s m args meth c cX8_rule 4 RX8 (some .int)) (hR : 5 ≤ R.frames ∧ 113 ≤ R.locals) {Q : Int32 → MI → MJ → Prop} : ∀ (n : Nat), ∀ (I : MI) (J : MJ) (x1 : Int32) (x3 : Int32), L_X8_rule_269 Q n I J x1 x3 → ∀ ls : Array Slot, lv_has ls 4 [(0, .ref (gad g 8 0)), (1, .int x1), (3, .int x3)] → Wf p l e R s m args below meth c (MQ below (Qg g (PI Q)) args s 0 0 (gA g)) g I J (F0 m 269 ls []) := by
  intro n
  induction n with
  | zero => intro I J x1 x3 h; exact h.elim
  | succ n ih => intro I J x1 x3 h ls hl; exact b_X8_rule_269 C hR ih h ls hl
def J_X8_rule_252 (Q : Int32 → MI → MJ → Prop) (I : MI) (J : MJ) (x1 : Int32) : Prop :=
  wp_X8_isWell (fun r5 I5 J5 => (r5 = 0 → Q (((-10)) - (I5 8 0 13)) I5 J5) ∧
  (¬ (r5 = 0) → ∃ n : Nat, L_X8_rule_269 Q n I5 J5 x1 0)) I J
set_option maxRecDepth 20000 in
theorem t_X8_rule_252 {p : Program} {l : Launch} {e : Env} {R : Room} {s : State} {m : MethodId} {args : Array Value} {below : List Frame} {meth : Method} {c : Code} {g : Geo} (C : Cx g p s m args meth c cX8_rule 4 RX8 (some .int)) (hR : 5 ≤ R.frames ∧ 113 ≤ R.locals) {Q : Int32 → MI → MJ → Prop} {I : MI} {J : MJ} {x1 : Int32} (h : J_X8_rule_252 Q I J x1) (ls : Array Slot) (hl : lv_has ls 4 [(0, .ref (gad g 8 0)), (1, .int x1)]) : Wf p l e R s m args below meth c (MQ below (Qg g (PI Q)) args s 0 0 (gA g)) g I J (F0 m 252 ls []) := by
  refine f_aload_n C dX8_rule_252 rfl (lv_at hl 0 rfl) ?_
  refine f_cVi (As := []) (rest := []) (n := 0) (T0 := TX8) (N := 25) C (c_X8_isWell h) ok_X8_isWell im_X8_isWell se_X8_isWell kw_RX8_104 ⟨Nat.le_trans (by decide) hR.1, Nat.le_trans (by decide) hR.2⟩ (by decide) rfl rfl rfl hl.1 (Nat.le_of_ble_eq_true rfl) dX8_rule_253 (fun r5 I5 J5 h => ?_)
  refine f_if_ne (tgt := 267) C dX8_rule_256 (by decide) (fun c6 => ?_) (fun c6 => ?_)
  · replace h := h.2 c6
    refine f_iconst (v := 0) C dX8_rule_267 (by decide) ?_
    refine f_istore_n (lv' := [(3, .int 0), (0, .ref (gad g 8 0)), (1, .int x1)]) C dX8_rule_268 rfl hl (by decide) rfl (fun ls hl => ?_)
    obtain ⟨n, h⟩ := h
    exact t_X8_rule_269 C hR n _ _ _ _ h ls (lv_sub hl [1, 2, 0] rfl)
  · replace h := h.1 c6
    refine f_bipush (v := (-10)) C dX8_rule_259 (by decide) ?_
    refine f_aload_n C dX8_rule_261 rfl (lv_at hl 0 rfl) ?_
    refine ge_RX8_101 C (by decide) dX8_rule_262 ?_
    refine f_isub C dX8_rule_265 ?_
    exact f_iret C h dX8_rule_266

def J_X8_rule_242 (Q : Int32 → MI → MJ → Prop) (C27 : MI → MJ → Int32 → Int32 → Prop) (I : MI) (J : MJ) (x1 : Int32) (x2 : Int32) (s0 : Int32) : Prop :=
  wp_X8_takes (fun r19 I19 J19 => C27 I19 J19 (x1 + 1) x2) I J s0
set_option maxRecDepth 20000 in
theorem t_X8_rule_242 {p : Program} {l : Launch} {e : Env} {R : Room} {s : State} {m : MethodId} {args : Array Value} {below : List Frame} {meth : Method} {c : Code} {g : Geo} (C : Cx g p s m args meth c cX8_rule 4 RX8 (some .int)) (hR : 5 ≤ R.frames ∧ 113 ≤ R.locals) {Q : Int32 → MI → MJ → Prop} {C27 : MI → MJ → Int32 → Int32 → Prop} (hC27 : ∀ (I : MI) (J : MJ) (x1 : Int32) (x2 : Int32), C27 I J x1 x2 → ∀ ls : Array Slot, lv_has ls 4 [(0, .ref (gad g 8 0)), (1, .int x1), (2, .int x2)] → Wf p l e R s m args below meth c (MQ below (Qg g (PI Q)) args s 0 0 (gA g)) g I J (F0 m 27 ls [])) {I : MI} {J : MJ} {x1 : Int32} {x2 : Int32} {s0 : Int32} (h : J_X8_rule_242 Q C27 I J x1 x2 s0) (ls : Array Slot) (hl : lv_has ls 4 [(0, .ref (gad g 8 0)), (1, .int x1), (2, .int x2)]) : Wf p l e R s m args below meth c (MQ below (Qg g (PI Q)) args s 0 0 (gA g)) g I J (F0 m 242 ls [.int s0, .ref (gad g 8 0)]) := by
  refine f_cVi (As := [.int s0]) (rest := []) (n := 1) (T0 := TX8) (N := 25) C (c_X8_takes h) ok_X8_takes im_X8_takes se_X8_takes kw_RX8_111 ⟨Nat.le_trans (by decide) hR.1, Nat.le_trans (by decide) hR.2⟩ (by decide) rfl rfl rfl hl.1 (Nat.le_of_ble_eq_true rfl) dX8_rule_242 (fun r19 I19 J19 h => ?_)
  refine f_pop C dX8_rule_245 rfl ?_
  refine f_iinc (v := x1 + 1) (lv' := [(1, .int (x1 + 1)), (0, .ref (gad g 8 0)), (2, .int x2)]) C dX8_rule_246 hl (k := 1) rfl rfl (by decide) rfl (fun ls hl => ?_)
  refine f_goto (tgt := 27) C dX8_rule_249 (by decide) ?_
  exact hC27 _ _ _ _ h ls (lv_sub hl [1, 0, 2] rfl)

def J_X8_rule_228 (Q : Int32 → MI → MJ → Prop) (C27 : MI → MJ → Int32 → Int32 → Prop) (I : MI) (J : MJ) (x1 : Int32) (x2 : Int32) : Prop :=
  ((I 8 0 10) = 4 → J_X8_rule_242 Q C27 I J x1 x2 1) ∧
  (¬ ((I 8 0 10) = 4) → J_X8_rule_242 Q C27 I J x1 x2 0)
set_option maxRecDepth 20000 in
theorem t_X8_rule_228 {p : Program} {l : Launch} {e : Env} {R : Room} {s : State} {m : MethodId} {args : Array Value} {below : List Frame} {meth : Method} {c : Code} {g : Geo} (C : Cx g p s m args meth c cX8_rule 4 RX8 (some .int)) (hR : 5 ≤ R.frames ∧ 113 ≤ R.locals) {Q : Int32 → MI → MJ → Prop} {C27 : MI → MJ → Int32 → Int32 → Prop} (hC27 : ∀ (I : MI) (J : MJ) (x1 : Int32) (x2 : Int32), C27 I J x1 x2 → ∀ ls : Array Slot, lv_has ls 4 [(0, .ref (gad g 8 0)), (1, .int x1), (2, .int x2)] → Wf p l e R s m args below meth c (MQ below (Qg g (PI Q)) args s 0 0 (gA g)) g I J (F0 m 27 ls [])) {I : MI} {J : MJ} {x1 : Int32} {x2 : Int32} (h : J_X8_rule_228 Q C27 I J x1 x2) (ls : Array Slot) (hl : lv_has ls 4 [(0, .ref (gad g 8 0)), (1, .int x1), (2, .int x2)]) : Wf p l e R s m args below meth c (MQ below (Qg g (PI Q)) args s 0 0 (gA g)) g I J (F0 m 228 ls []) := by
  refine f_aload_n C dX8_rule_228 rfl (lv_at hl 0 rfl) ?_
  refine f_aload_n C dX8_rule_229 rfl (lv_at hl 0 rfl) ?_
  refine ge_RX8_91 C (by decide) dX8_rule_230 ?_
  refine f_iconst (v := 4) C dX8_rule_233 (by decide) ?_
  refine f_icmp_ne (tgt := 241) C dX8_rule_234 (by decide) (fun c18 => ?_) (fun c18 => ?_)
  · replace h := h.2 c18
    refine f_iconst (v := 0) C dX8_rule_241 (by decide) ?_
    exact t_X8_rule_242 C hR hC27 h ls (lv_sub hl [0, 1, 2] rfl)
  · replace h := h.1 c18
    refine f_iconst (v := 1) C dX8_rule_237 (by decide) ?_
    refine f_goto (tgt := 242) C dX8_rule_238 (by decide) ?_
    exact t_X8_rule_242 C hR hC27 h ls (lv_sub hl [0, 1, 2] rfl)

def J_X8_rule_184 (Q : Int32 → MI → MJ → Prop) (C27 : MI → MJ → Int32 → Int32 → Prop) (I : MI) (J : MJ) (x1 : Int32) (x2 : Int32) (s0 : Int32) : Prop :=
  wp_X8_takes (fun r22 I22 J22 => wp_X8_takesNumber (fun r23 I23 J23 => J_X8_rule_228 Q C27 (up3 I23 29 0 9 r23) J23 x1 x2) I22 J22 (I22 29 0 8) 20) I J s0
set_option maxRecDepth 20000 in
theorem t_X8_rule_184 {p : Program} {l : Launch} {e : Env} {R : Room} {s : State} {m : MethodId} {args : Array Value} {below : List Frame} {meth : Method} {c : Code} {g : Geo} (C : Cx g p s m args meth c cX8_rule 4 RX8 (some .int)) (hR : 5 ≤ R.frames ∧ 113 ≤ R.locals) {Q : Int32 → MI → MJ → Prop} {C27 : MI → MJ → Int32 → Int32 → Prop} (hC27 : ∀ (I : MI) (J : MJ) (x1 : Int32) (x2 : Int32), C27 I J x1 x2 → ∀ ls : Array Slot, lv_has ls 4 [(0, .ref (gad g 8 0)), (1, .int x1), (2, .int x2)] → Wf p l e R s m args below meth c (MQ below (Qg g (PI Q)) args s 0 0 (gA g)) g I J (F0 m 27 ls [])) {I : MI} {J : MJ} {x1 : Int32} {x2 : Int32} {s0 : Int32} (h : J_X8_rule_184 Q C27 I J x1 x2 s0) (ls : Array Slot) (hl : lv_has ls 4 [(0, .ref (gad g 8 0)), (1, .int x1), (2, .int x2)]) : Wf p l e R s m args below meth c (MQ below (Qg g (PI Q)) args s 0 0 (gA g)) g I J (F0 m 184 ls [.int s0, .ref (gad g 8 0)]) := by
  refine f_cVi (As := [.int s0]) (rest := []) (n := 1) (T0 := TX8) (N := 25) C (c_X8_takes h) ok_X8_takes im_X8_takes se_X8_takes kw_RX8_111 ⟨Nat.le_trans (by decide) hR.1, Nat.le_trans (by decide) hR.2⟩ (by decide) rfl rfl rfl hl.1 (Nat.le_of_ble_eq_true rfl) dX8_rule_184 (fun r22 I22 J22 h => ?_)
  refine f_pop C dX8_rule_187 rfl ?_
  refine f_aload_n C dX8_rule_188 rfl (lv_at hl 0 rfl) ?_
  refine ge_RX8_23 C (by decide) dX8_rule_189 ?_
  refine f_bipush (v := 9) C dX8_rule_192 (by decide) ?_
  refine f_aload_n C dX8_rule_194 rfl (lv_at hl 0 rfl) ?_
  refine f_aload_n C dX8_rule_195 rfl (lv_at hl 0 rfl) ?_
  refine ge_RX8_23 C (by decide) dX8_rule_196 ?_
  refine f_bipush (v := 8) C dX8_rule_199 (by decide) ?_
  refine al_k (n := 12) (k := 8) C (by decide) rfl (by decide) (vin_k (by decide)) dX8_rule_201 ?_
  refine f_bipush (v := 20) C dX8_rule_202 (by decide) ?_
  refine f_cVi (As := [.int (I22 29 0 8), .int 20]) (rest := [.int 9, .ref (gad g 29 0)]) (n := 2) (T0 := TX8) (N := 25) C (c_X8_takesNumber h) ok_X8_takesNumber im_X8_takesNumber se_X8_takesNumber kw_RX8_115 ⟨Nat.le_trans (by decide) hR.1, Nat.le_trans (by decide) hR.2⟩ (by decide) rfl rfl rfl hl.1 (Nat.le_of_ble_eq_true rfl) dX8_rule_204 (fun r23 I23 J23 h => ?_)
  refine as_k (n := 12) (k := 9) C (by decide) (fun _ => rfl) (by decide) (vin_k (by decide)) dX8_rule_207 ?_
  refine f_goto (tgt := 228) C dX8_rule_208 (by decide) ?_
  exact t_X8_rule_228 C hR hC27 h ls (lv_sub hl [0, 1, 2] rfl)

def J_X8_rule_124 (Q : Int32 → MI → MJ → Prop) (C27 : MI → MJ → Int32 → Int32 → Prop) (I : MI) (J : MJ) (x1 : Int32) (x2 : Int32) (s0 : Int32) : Prop :=
  wp_X8_takes (fun r26 I26 J26 => wp_X8_takesNumber (fun r27 I27 J27 => J_X8_rule_228 Q C27 (up3 I27 29 0 7 r27) J27 x1 x2) I26 J26 (I26 29 0 6) 12) I J s0
set_option maxRecDepth 20000 in
theorem t_X8_rule_124 {p : Program} {l : Launch} {e : Env} {R : Room} {s : State} {m : MethodId} {args : Array Value} {below : List Frame} {meth : Method} {c : Code} {g : Geo} (C : Cx g p s m args meth c cX8_rule 4 RX8 (some .int)) (hR : 5 ≤ R.frames ∧ 113 ≤ R.locals) {Q : Int32 → MI → MJ → Prop} {C27 : MI → MJ → Int32 → Int32 → Prop} (hC27 : ∀ (I : MI) (J : MJ) (x1 : Int32) (x2 : Int32), C27 I J x1 x2 → ∀ ls : Array Slot, lv_has ls 4 [(0, .ref (gad g 8 0)), (1, .int x1), (2, .int x2)] → Wf p l e R s m args below meth c (MQ below (Qg g (PI Q)) args s 0 0 (gA g)) g I J (F0 m 27 ls [])) {I : MI} {J : MJ} {x1 : Int32} {x2 : Int32} {s0 : Int32} (h : J_X8_rule_124 Q C27 I J x1 x2 s0) (ls : Array Slot) (hl : lv_has ls 4 [(0, .ref (gad g 8 0)), (1, .int x1), (2, .int x2)]) : Wf p l e R s m args below meth c (MQ below (Qg g (PI Q)) args s 0 0 (gA g)) g I J (F0 m 124 ls [.int s0, .ref (gad g 8 0)]) := by
  refine f_cVi (As := [.int s0]) (rest := []) (n := 1) (T0 := TX8) (N := 25) C (c_X8_takes h) ok_X8_takes im_X8_takes se_X8_takes kw_RX8_111 ⟨Nat.le_trans (by decide) hR.1, Nat.le_trans (by decide) hR.2⟩ (by decide) rfl rfl rfl hl.1 (Nat.le_of_ble_eq_true rfl) dX8_rule_124 (fun r26 I26 J26 h => ?_)
  refine f_pop C dX8_rule_127 rfl ?_
  refine f_aload_n C dX8_rule_128 rfl (lv_at hl 0 rfl) ?_
  refine ge_RX8_23 C (by decide) dX8_rule_129 ?_
  refine f_bipush (v := 7) C dX8_rule_132 (by decide) ?_
  refine f_aload_n C dX8_rule_134 rfl (lv_at hl 0 rfl) ?_
  refine f_aload_n C dX8_rule_135 rfl (lv_at hl 0 rfl) ?_
  refine ge_RX8_23 C (by decide) dX8_rule_136 ?_
  refine f_bipush (v := 6) C dX8_rule_139 (by decide) ?_
  refine al_k (n := 12) (k := 6) C (by decide) rfl (by decide) (vin_k (by decide)) dX8_rule_141 ?_
  refine f_bipush (v := 12) C dX8_rule_142 (by decide) ?_
  refine f_cVi (As := [.int (I26 29 0 6), .int 12]) (rest := [.int 7, .ref (gad g 29 0)]) (n := 2) (T0 := TX8) (N := 25) C (c_X8_takesNumber h) ok_X8_takesNumber im_X8_takesNumber se_X8_takesNumber kw_RX8_115 ⟨Nat.le_trans (by decide) hR.1, Nat.le_trans (by decide) hR.2⟩ (by decide) rfl rfl rfl hl.1 (Nat.le_of_ble_eq_true rfl) dX8_rule_144 (fun r27 I27 J27 h => ?_)
  refine as_k (n := 12) (k := 7) C (by decide) (fun _ => rfl) (by decide) (vin_k (by decide)) dX8_rule_147 ?_
  refine f_goto (tgt := 228) C dX8_rule_148 (by decide) ?_
  exact t_X8_rule_228 C hR hC27 h ls (lv_sub hl [0, 1, 2] rfl)

def J_X8_rule_123 (Q : Int32 → MI → MJ → Prop) (C27 : MI → MJ → Int32 → Int32 → Prop) (I : MI) (J : MJ) (x1 : Int32) (x2 : Int32) : Prop :=
  J_X8_rule_124 Q C27 I J x1 x2 0
set_option maxRecDepth 20000 in
theorem t_X8_rule_123 {p : Program} {l : Launch} {e : Env} {R : Room} {s : State} {m : MethodId} {args : Array Value} {below : List Frame} {meth : Method} {c : Code} {g : Geo} (C : Cx g p s m args meth c cX8_rule 4 RX8 (some .int)) (hR : 5 ≤ R.frames ∧ 113 ≤ R.locals) {Q : Int32 → MI → MJ → Prop} {C27 : MI → MJ → Int32 → Int32 → Prop} (hC27 : ∀ (I : MI) (J : MJ) (x1 : Int32) (x2 : Int32), C27 I J x1 x2 → ∀ ls : Array Slot, lv_has ls 4 [(0, .ref (gad g 8 0)), (1, .int x1), (2, .int x2)] → Wf p l e R s m args below meth c (MQ below (Qg g (PI Q)) args s 0 0 (gA g)) g I J (F0 m 27 ls [])) {I : MI} {J : MJ} {x1 : Int32} {x2 : Int32} (h : J_X8_rule_123 Q C27 I J x1 x2) (ls : Array Slot) (hl : lv_has ls 4 [(0, .ref (gad g 8 0)), (1, .int x1), (2, .int x2)]) : Wf p l e R s m args below meth c (MQ below (Qg g (PI Q)) args s 0 0 (gA g)) g I J (F0 m 123 ls [.ref (gad g 8 0)]) := by
  refine f_iconst (v := 0) C dX8_rule_123 (by decide) ?_
  exact t_X8_rule_124 C hR hC27 h ls (lv_sub hl [0, 1, 2] rfl)

def J_X8_rule_74 (Q : Int32 → MI → MJ → Prop) (C27 : MI → MJ → Int32 → Int32 → Prop) (I : MI) (J : MJ) (x1 : Int32) (x2 : Int32) (s0 : Int32) : Prop :=
  wp_X8_takes (fun r12 I12 J12 => ∀ v13 : Int32, v13 = x2 ||| ((1 : Int32) <<< (r12 &&& 31)) → ((r12 = 0 → wp_X8_takesNumber (fun r24 I24 J24 => (((up3 I24 29 0 6 r24) 8 0 10) = 1 → (((up3 I24 29 0 6 r24) 8 0 12) = 4 → J_X8_rule_124 Q C27 (up3 I24 29 0 6 r24) J24 x1 v13 1) ∧
  (¬ (((up3 I24 29 0 6 r24) 8 0 12) = 4) → J_X8_rule_123 Q C27 (up3 I24 29 0 6 r24) J24 x1 v13)) ∧
  (¬ (((up3 I24 29 0 6 r24) 8 0 10) = 1) → J_X8_rule_123 Q C27 (up3 I24 29 0 6 r24) J24 x1 v13)) I12 J12 1 12) ∧
  (¬ (r12 = 0) → (r12 = 1 → wp_X8_takesNumber (fun r20 I20 J20 => (((up3 I20 29 0 8 r20) 8 0 10) = 3 → J_X8_rule_184 Q C27 (up3 I20 29 0 8 r20) J20 x1 v13 1) ∧
  (¬ (((up3 I20 29 0 8 r20) 8 0 10) = 3) → J_X8_rule_184 Q C27 (up3 I20 29 0 8 r20) J20 x1 v13 0)) I12 J12 1 20) ∧
  (¬ (r12 = 1) → wp_X8_takesNumber (fun r16 I16 J16 => vp_in (8 + r12) 12 ∧ (J_X8_rule_228 Q C27 (up3 I16 29 0 ((8 + r12).toNatClampNeg) r16) J16 x1 v13)) I12 J12 0 200)))) I J s0
set_option maxRecDepth 20000 in
theorem t_X8_rule_74 {p : Program} {l : Launch} {e : Env} {R : Room} {s : State} {m : MethodId} {args : Array Value} {below : List Frame} {meth : Method} {c : Code} {g : Geo} (C : Cx g p s m args meth c cX8_rule 4 RX8 (some .int)) (hR : 5 ≤ R.frames ∧ 113 ≤ R.locals) {Q : Int32 → MI → MJ → Prop} {C27 : MI → MJ → Int32 → Int32 → Prop} (hC27 : ∀ (I : MI) (J : MJ) (x1 : Int32) (x2 : Int32), C27 I J x1 x2 → ∀ ls : Array Slot, lv_has ls 4 [(0, .ref (gad g 8 0)), (1, .int x1), (2, .int x2)] → Wf p l e R s m args below meth c (MQ below (Qg g (PI Q)) args s 0 0 (gA g)) g I J (F0 m 27 ls [])) {I : MI} {J : MJ} {x1 : Int32} {x2 : Int32} {s0 : Int32} (h : J_X8_rule_74 Q C27 I J x1 x2 s0) (ls : Array Slot) (hl : lv_has ls 4 [(0, .ref (gad g 8 0)), (1, .int x1), (2, .int x2)]) : Wf p l e R s m args below meth c (MQ below (Qg g (PI Q)) args s 0 0 (gA g)) g I J (F0 m 74 ls [.int s0, .ref (gad g 8 0)]) := by
  refine f_cVi (As := [.int s0]) (rest := []) (n := 1) (T0 := TX8) (N := 25) C (c_X8_takes h) ok_X8_takes im_X8_takes se_X8_takes kw_RX8_111 ⟨Nat.le_trans (by decide) hR.1, Nat.le_trans (by decide) hR.2⟩ (by decide) rfl rfl rfl hl.1 (Nat.le_of_ble_eq_true rfl) dX8_rule_74 (fun r12 I12 J12 h => ?_)
  refine f_istore_n (lv' := [(3, .int r12), (0, .ref (gad g 8 0)), (1, .int x1), (2, .int x2)]) C dX8_rule_77 rfl hl (by decide) rfl (fun ls hl => ?_)
  refine f_iload_n C dX8_rule_78 rfl (lv_at hl 3 rfl) ?_
  refine f_iconst (v := 1) C dX8_rule_79 (by decide) ?_
  refine f_iload_n C dX8_rule_80 rfl (lv_at hl 0 rfl) ?_
  refine f_ishl C dX8_rule_81 ?_
  refine f_ior C dX8_rule_82 ?_
  generalize hv13 : x2 ||| ((1 : Int32) <<< (r12 &&& 31)) = v13
  replace h := h v13 hv13.symm
  refine f_istore_n (lv' := [(2, .int v13), (3, .int r12), (0, .ref (gad g 8 0)), (1, .int x1)]) C dX8_rule_83 rfl hl (by decide) rfl (fun ls hl => ?_)
  refine f_iload_n C dX8_rule_84 rfl (lv_at hl 1 rfl) ?_
  refine f_if_ne (tgt := 151) C dX8_rule_85 (by decide) (fun c14 => ?_) (fun c14 => ?_)
  · replace h := h.2 c14
    refine f_iload_n C dX8_rule_151 rfl (lv_at hl 1 rfl) ?_
    refine f_iconst (v := 1) C dX8_rule_152 (by decide) ?_
    refine f_icmp_ne (tgt := 211) C dX8_rule_153 (by decide) (fun c15 => ?_) (fun c15 => ?_)
    · replace h := h.2 c15
      refine f_aload_n C dX8_rule_211 rfl (lv_at hl 2 rfl) ?_
      refine ge_RX8_23 C (by decide) dX8_rule_212 ?_
      refine f_bipush (v := 8) C dX8_rule_215 (by decide) ?_
      refine f_iload_n C dX8_rule_217 rfl (lv_at hl 1 rfl) ?_
      refine f_iadd C dX8_rule_218 ?_
      refine f_aload_n C dX8_rule_219 rfl (lv_at hl 2 rfl) ?_
      refine f_iconst (v := 0) C dX8_rule_220 (by decide) ?_
      refine f_sipush (v := 200) C dX8_rule_221 (by decide) ?_
      refine f_cVi (As := [.int 0, .int 200]) (rest := [.int (8 + r12), .ref (gad g 29 0)]) (n := 2) (T0 := TX8) (N := 25) C (c_X8_takesNumber h) ok_X8_takesNumber im_X8_takesNumber se_X8_takesNumber kw_RX8_115 ⟨Nat.le_trans (by decide) hR.1, Nat.le_trans (by decide) hR.2⟩ (by decide) rfl rfl rfl hl.1 (Nat.le_of_ble_eq_true rfl) dX8_rule_224 (fun r16 I16 J16 h => ?_)
      obtain ⟨hi17, h⟩ := h
      refine as_k (n := 12) (k := (8 + r12).toNatClampNeg) C (by decide) (fun _ => rfl) rfl hi17 dX8_rule_227 ?_
      exact t_X8_rule_228 C hR hC27 h ls (lv_sub hl [2, 3, 0] rfl)
    · replace h := h.1 c15
      refine f_aload_n C dX8_rule_156 rfl (lv_at hl 2 rfl) ?_
      refine ge_RX8_23 C (by decide) dX8_rule_157 ?_
      refine f_bipush (v := 8) C dX8_rule_160 (by decide) ?_
      refine f_aload_n C dX8_rule_162 rfl (lv_at hl 2 rfl) ?_
      refine f_iconst (v := 1) C dX8_rule_163 (by decide) ?_
      refine f_bipush (v := 20) C dX8_rule_164 (by decide) ?_
      refine f_cVi (As := [.int 1, .int 20]) (rest := [.int 8, .ref (gad g 29 0)]) (n := 2) (T0 := TX8) (N := 25) C (c_X8_takesNumber h) ok_X8_takesNumber im_X8_takesNumber se_X8_takesNumber kw_RX8_115 ⟨Nat.le_trans (by decide) hR.1, Nat.le_trans (by decide) hR.2⟩ (by decide) rfl rfl rfl hl.1 (Nat.le_of_ble_eq_true rfl) dX8_rule_166 (fun r20 I20 J20 h => ?_)
      refine as_k (n := 12) (k := 8) C (by decide) (fun _ => rfl) (by decide) (vin_k (by decide)) dX8_rule_169 ?_
      refine f_aload_n C dX8_rule_170 rfl (lv_at hl 2 rfl) ?_
      refine f_aload_n C dX8_rule_171 rfl (lv_at hl 2 rfl) ?_
      refine ge_RX8_91 C (by decide) dX8_rule_172 ?_
      refine f_iconst (v := 3) C dX8_rule_175 (by decide) ?_
      refine f_icmp_ne (tgt := 183) C dX8_rule_176 (by decide) (fun c21 => ?_) (fun c21 => ?_)
      · replace h := h.2 c21
        refine f_iconst (v := 0) C dX8_rule_183 (by decide) ?_
        exact t_X8_rule_184 C hR hC27 h ls (lv_sub hl [2, 3, 0] rfl)
      · replace h := h.1 c21
        refine f_iconst (v := 1) C dX8_rule_179 (by decide) ?_
        refine f_goto (tgt := 184) C dX8_rule_180 (by decide) ?_
        exact t_X8_rule_184 C hR hC27 h ls (lv_sub hl [2, 3, 0] rfl)
  · replace h := h.1 c14
    refine f_aload_n C dX8_rule_88 rfl (lv_at hl 2 rfl) ?_
    refine ge_RX8_23 C (by decide) dX8_rule_89 ?_
    refine f_bipush (v := 6) C dX8_rule_92 (by decide) ?_
    refine f_aload_n C dX8_rule_94 rfl (lv_at hl 2 rfl) ?_
    refine f_iconst (v := 1) C dX8_rule_95 (by decide) ?_
    refine f_bipush (v := 12) C dX8_rule_96 (by decide) ?_
    refine f_cVi (As := [.int 1, .int 12]) (rest := [.int 6, .ref (gad g 29 0)]) (n := 2) (T0 := TX8) (N := 25) C (c_X8_takesNumber h) ok_X8_takesNumber im_X8_takesNumber se_X8_takesNumber kw_RX8_115 ⟨Nat.le_trans (by decide) hR.1, Nat.le_trans (by decide) hR.2⟩ (by decide) rfl rfl rfl hl.1 (Nat.le_of_ble_eq_true rfl) dX8_rule_98 (fun r24 I24 J24 h => ?_)
    refine as_k (n := 12) (k := 6) C (by decide) (fun _ => rfl) (by decide) (vin_k (by decide)) dX8_rule_101 ?_
    refine f_aload_n C dX8_rule_102 rfl (lv_at hl 2 rfl) ?_
    refine f_aload_n C dX8_rule_103 rfl (lv_at hl 2 rfl) ?_
    refine ge_RX8_91 C (by decide) dX8_rule_104 ?_
    refine f_iconst (v := 1) C dX8_rule_107 (by decide) ?_
    refine f_icmp_ne (tgt := 123) C dX8_rule_108 (by decide) (fun c25 => ?_) (fun c25 => ?_)
    · replace h := h.2 c25
      exact t_X8_rule_123 C hR hC27 h ls (lv_sub hl [2, 3, 0] rfl)
    · replace h := h.1 c25
      refine f_aload_n C dX8_rule_111 rfl (lv_at hl 2 rfl) ?_
      refine ge_RX8_98 C (by decide) dX8_rule_112 ?_
      refine f_iconst (v := 4) C dX8_rule_115 (by decide) ?_
      refine f_icmp_ne (tgt := 123) C dX8_rule_116 (by decide) (fun c28 => ?_) (fun c28 => ?_)
      · replace h := h.2 c28
        exact t_X8_rule_123 C hR hC27 h ls (lv_sub hl [2, 3, 0] rfl)
      · replace h := h.1 c28
        refine f_iconst (v := 1) C dX8_rule_119 (by decide) ?_
        refine f_goto (tgt := 124) C dX8_rule_120 (by decide) ?_
        exact t_X8_rule_124 C hR hC27 h ls (lv_sub hl [2, 3, 0] rfl)

def J_X8_rule_73 (Q : Int32 → MI → MJ → Prop) (C27 : MI → MJ → Int32 → Int32 → Prop) (I : MI) (J : MJ) (x1 : Int32) (x2 : Int32) : Prop :=
  J_X8_rule_74 Q C27 I J x1 x2 0
set_option maxRecDepth 20000 in
theorem t_X8_rule_73 {p : Program} {l : Launch} {e : Env} {R : Room} {s : State} {m : MethodId} {args : Array Value} {below : List Frame} {meth : Method} {c : Code} {g : Geo} (C : Cx g p s m args meth c cX8_rule 4 RX8 (some .int)) (hR : 5 ≤ R.frames ∧ 113 ≤ R.locals) {Q : Int32 → MI → MJ → Prop} {C27 : MI → MJ → Int32 → Int32 → Prop} (hC27 : ∀ (I : MI) (J : MJ) (x1 : Int32) (x2 : Int32), C27 I J x1 x2 → ∀ ls : Array Slot, lv_has ls 4 [(0, .ref (gad g 8 0)), (1, .int x1), (2, .int x2)] → Wf p l e R s m args below meth c (MQ below (Qg g (PI Q)) args s 0 0 (gA g)) g I J (F0 m 27 ls [])) {I : MI} {J : MJ} {x1 : Int32} {x2 : Int32} (h : J_X8_rule_73 Q C27 I J x1 x2) (ls : Array Slot) (hl : lv_has ls 4 [(0, .ref (gad g 8 0)), (1, .int x1), (2, .int x2)]) : Wf p l e R s m args below meth c (MQ below (Qg g (PI Q)) args s 0 0 (gA g)) g I J (F0 m 73 ls [.ref (gad g 8 0)]) := by
  refine f_iconst (v := 0) C dX8_rule_73 (by decide) ?_
  exact t_X8_rule_74 C hR hC27 h ls (lv_sub hl [0, 1, 2] rfl)

def B_X8_rule_27 (Q : Int32 → MI → MJ → Prop) (C27 : MI → MJ → Int32 → Int32 → Prop) (I : MI) (J : MJ) (x1 : Int32) (x2 : Int32) : Prop :=
  wp_X8_isWell (fun r3 I3 J3 => (r3 = 0 → J_X8_rule_252 Q I3 J3 x1) ∧
  (¬ (r3 = 0) → ((I3 8 0 10) = 0 → J_X8_rule_252 Q I3 J3 x1) ∧
  (¬ ((I3 8 0 10) = 0) → ((I3 8 0 10) = 1 → (4 ≤ (I3 8 0 12) → J_X8_rule_73 Q C27 I3 J3 x1 x2) ∧
  (¬ (4 ≤ (I3 8 0 12)) → (((x2 >>> ((I3 8 0 12) &&& 31)) &&& 1) = 0 → J_X8_rule_74 Q C27 I3 J3 x1 x2 1) ∧
  (¬ (((x2 >>> ((I3 8 0 12) &&& 31)) &&& 1) = 0) → J_X8_rule_73 Q C27 I3 J3 x1 x2))) ∧
  (¬ ((I3 8 0 10) = 1) → J_X8_rule_73 Q C27 I3 J3 x1 x2)))) I J
set_option maxRecDepth 20000 in
theorem b_X8_rule_27 {p : Program} {l : Launch} {e : Env} {R : Room} {s : State} {m : MethodId} {args : Array Value} {below : List Frame} {meth : Method} {c : Code} {g : Geo} (C : Cx g p s m args meth c cX8_rule 4 RX8 (some .int)) (hR : 5 ≤ R.frames ∧ 113 ≤ R.locals) {Q : Int32 → MI → MJ → Prop} {C27 : MI → MJ → Int32 → Int32 → Prop} (hC27 : ∀ (I : MI) (J : MJ) (x1 : Int32) (x2 : Int32), C27 I J x1 x2 → ∀ ls : Array Slot, lv_has ls 4 [(0, .ref (gad g 8 0)), (1, .int x1), (2, .int x2)] → Wf p l e R s m args below meth c (MQ below (Qg g (PI Q)) args s 0 0 (gA g)) g I J (F0 m 27 ls [])) {I : MI} {J : MJ} {x1 : Int32} {x2 : Int32} (h : B_X8_rule_27 Q C27 I J x1 x2) (ls : Array Slot) (hl : lv_has ls 4 [(0, .ref (gad g 8 0)), (1, .int x1), (2, .int x2)]) : Wf p l e R s m args below meth c (MQ below (Qg g (PI Q)) args s 0 0 (gA g)) g I J (F0 m 27 ls []) := by
  refine f_aload_n C dX8_rule_27 rfl (lv_at hl 0 rfl) ?_
  refine f_cVi (As := []) (rest := []) (n := 0) (T0 := TX8) (N := 25) C (c_X8_isWell h) ok_X8_isWell im_X8_isWell se_X8_isWell kw_RX8_104 ⟨Nat.le_trans (by decide) hR.1, Nat.le_trans (by decide) hR.2⟩ (by decide) rfl rfl rfl hl.1 (Nat.le_of_ble_eq_true rfl) dX8_rule_28 (fun r3 I3 J3 h => ?_)
  refine f_if_eq (tgt := 252) C dX8_rule_31 (by decide) (fun c4 => ?_) (fun c4 => ?_)
  · replace h := h.1 c4
    exact t_X8_rule_252 C hR h ls (lv_sub hl [0, 1] rfl)
  · replace h := h.2 c4
    refine f_aload_n C dX8_rule_34 rfl (lv_at hl 0 rfl) ?_
    refine ge_RX8_91 C (by decide) dX8_rule_35 ?_
    refine f_if_eq (tgt := 252) C dX8_rule_38 (by decide) (fun c10 => ?_) (fun c10 => ?_)
    · replace h := h.1 c10
      exact t_X8_rule_252 C hR h ls (lv_sub hl [0, 1] rfl)
    · replace h := h.2 c10
      refine f_aload_n C dX8_rule_41 rfl (lv_at hl 0 rfl) ?_
      refine f_aload_n C dX8_rule_42 rfl (lv_at hl 0 rfl) ?_
      refine ge_RX8_91 C (by decide) dX8_rule_43 ?_
      refine f_iconst (v := 1) C dX8_rule_46 (by decide) ?_
      refine f_icmp_ne (tgt := 73) C dX8_rule_47 (by decide) (fun c11 => ?_) (fun c11 => ?_)
      · replace h := h.2 c11
        exact t_X8_rule_73 C hR hC27 h ls (lv_sub hl [0, 1, 2] rfl)
      · replace h := h.1 c11
        refine f_aload_n C dX8_rule_50 rfl (lv_at hl 0 rfl) ?_
        refine ge_RX8_98 C (by decide) dX8_rule_51 ?_
        refine f_iconst (v := 4) C dX8_rule_54 (by decide) ?_
        refine f_icmp_ge (tgt := 73) C dX8_rule_55 (by decide) (fun c29 => ?_) (fun c29 => ?_)
        · replace h := h.1 c29
          exact t_X8_rule_73 C hR hC27 h ls (lv_sub hl [0, 1, 2] rfl)
        · replace h := h.2 c29
          refine f_iload_n C dX8_rule_58 rfl (lv_at hl 2 rfl) ?_
          refine f_aload_n C dX8_rule_59 rfl (lv_at hl 0 rfl) ?_
          refine ge_RX8_98 C (by decide) dX8_rule_60 ?_
          refine f_ishr C dX8_rule_63 ?_
          refine f_iconst (v := 1) C dX8_rule_64 (by decide) ?_
          refine f_iand C dX8_rule_65 ?_
          refine f_if_ne (tgt := 73) C dX8_rule_66 (by decide) (fun c30 => ?_) (fun c30 => ?_)
          · replace h := h.2 c30
            exact t_X8_rule_73 C hR hC27 h ls (lv_sub hl [0, 1, 2] rfl)
          · replace h := h.1 c30
            refine f_iconst (v := 1) C dX8_rule_69 (by decide) ?_
            refine f_goto (tgt := 74) C dX8_rule_70 (by decide) ?_
            exact t_X8_rule_74 C hR hC27 h ls (lv_sub hl [0, 1, 2] rfl)

def L_X8_rule_27 (Q : Int32 → MI → MJ → Prop) : Nat → MI → MJ → Int32 → Int32 → Prop
  | 0 => fun _ _ _ _ => False
  | n + 1 => fun I J x1 x2 => B_X8_rule_27 Q (L_X8_rule_27 Q n) I J x1 x2
theorem t_X8_rule_27 {p : Program} {l : Launch} {e : Env} {R : Room} {s : State} {m : MethodId} {args : Array Value} {below : List Frame} {meth : Method} {c : Code} {g : Geo} (C : Cx g p s m args meth c cX8_rule 4 RX8 (some .int)) (hR : 5 ≤ R.frames ∧ 113 ≤ R.locals) {Q : Int32 → MI → MJ → Prop} : ∀ (n : Nat), ∀ (I : MI) (J : MJ) (x1 : Int32) (x2 : Int32), L_X8_rule_27 Q n I J x1 x2 → ∀ ls : Array Slot, lv_has ls 4 [(0, .ref (gad g 8 0)), (1, .int x1), (2, .int x2)] → Wf p l e R s m args below meth c (MQ below (Qg g (PI Q)) args s 0 0 (gA g)) g I J (F0 m 27 ls []) := by
  intro n
  induction n with
  | zero => intro I J x1 x2 h; exact h.elim
  | succ n ih => intro I J x1 x2 h ls hl; exact b_X8_rule_27 C hR ih h ls hl
def wp_X8_rule (Q : Int32 → MI → MJ → Prop) (I : MI) (J : MJ) : Prop :=
  wp_X8_begins (fun I1 J1 => wp_X8_advances (fun I2 J2 => ∃ n : Nat, L_X8_rule_27 Q n I2 J2 0 0) I1 J1) (up3 (up3 (up3 I 8 0 0 0) 8 0 13 ((-1))) 8 0 9 0) J
set_option maxRecDepth 20000 in
theorem c_X8_rule {l : Launch} {g : Geo} {Q : Int32 → MI → MJ → Prop} {I : MI} {J : MJ} (h : wp_X8_rule Q I J) : Ct g l yX8_rule cX8_rule 4 (some .int) 5 113 [.ref (gad g 8 0)] I J (PI Q) := by
  refine Ct.of (by decide) ?_
  intro p e s m below meth c C
  have hR : 5 ≤ (Rm 5 113).frames ∧ 113 ≤ (Rm 5 113).locals := ⟨Nat.le_refl _, Nat.le_refl _⟩
  generalize Rm 5 113 = R at hR ⊢
  have hl := lv_entry ([.ref (gad g 8 0)]) (n := 4) (Nat.le_of_ble_eq_true rfl)
  rw [lg_entry_eq]
  generalize (lg_sl ([.ref (gad g 8 0)]) ++ List.replicate (4 - (lg_sl ([.ref (gad g 8 0)])).length) Slot.unset).toArray = ls at hl ⊢
  have hl : lv_has ls 4 [(0, .ref (gad g 8 0))] := hl
  refine f_aload_n C dX8_rule_0 rfl (lv_at hl 0 rfl) ?_
  refine f_iconst (v := 0) C dX8_rule_1 (by decide) ?_
  refine pu_RX8_57 C (by decide) dX8_rule_2 ?_
  refine f_aload_n C dX8_rule_5 rfl (lv_at hl 0 rfl) ?_
  refine f_iconst (v := (-1)) C dX8_rule_6 (by decide) ?_
  refine pu_RX8_101 C (by decide) dX8_rule_7 ?_
  refine f_aload_n C dX8_rule_10 rfl (lv_at hl 0 rfl) ?_
  refine f_iconst (v := 0) C dX8_rule_11 (by decide) ?_
  refine pu_RX8_81 C (by decide) dX8_rule_12 ?_
  refine f_iconst (v := 0) C dX8_rule_15 (by decide) ?_
  refine f_istore_n (lv' := [(1, .int 0), (0, .ref (gad g 8 0))]) C dX8_rule_16 rfl hl (by decide) rfl (fun ls hl => ?_)
  refine f_iconst (v := 0) C dX8_rule_17 (by decide) ?_
  refine f_istore_n (lv' := [(2, .int 0), (1, .int 0), (0, .ref (gad g 8 0))]) C dX8_rule_18 rfl hl (by decide) rfl (fun ls hl => ?_)
  refine f_aload_n C dX8_rule_19 rfl (lv_at hl 2 rfl) ?_
  refine f_cVv (As := []) (rest := []) (n := 0) (T0 := TX8) (N := 25) C (c_X8_begins h) ok_X8_begins im_X8_begins se_X8_begins kw_RX8_54 ⟨Nat.le_trans (by decide) hR.1, Nat.le_trans (by decide) hR.2⟩ (by decide) rfl rfl rfl hl.1 (Nat.le_of_ble_eq_true rfl) dX8_rule_20 (fun I1 J1 h => ?_)
  refine f_aload_n C dX8_rule_23 rfl (lv_at hl 2 rfl) ?_
  refine f_cVv (As := []) (rest := []) (n := 0) (T0 := TX8) (N := 25) C (c_X8_advances h) ok_X8_advances im_X8_advances se_X8_advances kw_RX8_108 ⟨Nat.le_trans (by decide) hR.1, Nat.le_trans (by decide) hR.2⟩ (by decide) rfl rfl rfl hl.1 (Nat.le_of_ble_eq_true rfl) dX8_rule_24 (fun I2 J2 h => ?_)
  obtain ⟨n, h⟩ := h
  exact t_X8_rule_27 C hR n _ _ _ _ h ls (lv_sub hl [2, 1, 0] rfl)

def wp_X8_told (Q : Int32 → MI → MJ → Prop) (I : MI) (J : MJ) (x1 : Int32) : Prop :=
  wp_X8_in (fun r1 I1 J1 => (r1 = 0 → Q ((-1)) I1 J1) ∧
  (¬ (r1 = 0) → vp_in x1 12 ∧ (Q (I1 29 0 (x1.toNatClampNeg)) I1 J1))) (up3 I 8 0 0 0) J x1 0 5
set_option maxRecDepth 20000 in
theorem c_X8_told {l : Launch} {g : Geo} {Q : Int32 → MI → MJ → Prop} {I : MI} {J : MJ} {x1 : Int32} (h : wp_X8_told Q I J x1) : Ct g l yX8_told cX8_told 2 (some .int) 1 22 [.ref (gad g 8 0), .int x1] I J (PI Q) := by
  refine Ct.of (by decide) ?_
  intro p e s m below meth c C
  have hR : 1 ≤ (Rm 1 22).frames ∧ 22 ≤ (Rm 1 22).locals := ⟨Nat.le_refl _, Nat.le_refl _⟩
  generalize Rm 1 22 = R at hR ⊢
  have hl := lv_entry ([.ref (gad g 8 0), .int x1]) (n := 2) (Nat.le_of_ble_eq_true rfl)
  rw [lg_entry_eq]
  generalize (lg_sl ([.ref (gad g 8 0), .int x1]) ++ List.replicate (2 - (lg_sl ([.ref (gad g 8 0), .int x1])).length) Slot.unset).toArray = ls at hl ⊢
  have hl : lv_has ls 2 [(0, .ref (gad g 8 0)), (1, .int x1)] := hl
  refine f_aload_n C dX8_told_0 rfl (lv_at hl 0 rfl) ?_
  refine f_iconst (v := 0) C dX8_told_1 (by decide) ?_
  refine pu_RX8_57 C (by decide) dX8_told_2 ?_
  refine f_iload_n C dX8_told_5 rfl (lv_at hl 1 rfl) ?_
  refine f_iconst (v := 0) C dX8_told_6 (by decide) ?_
  refine f_iconst (v := 5) C dX8_told_7 (by decide) ?_
  refine f_cSi (As := [.int x1, .int 0, .int 5]) (rest := []) (n := 3) C (c_X8_in h) ok_X8_in sm_X8_in kw_RX8_61 ⟨Nat.le_trans (by decide) hR.1, Nat.le_trans (by decide) hR.2⟩ rfl hl.1 (Nat.le_of_ble_eq_true rfl) dX8_told_8 (fun r1 I1 J1 h => ?_)
  refine f_if_eq (tgt := 23) C dX8_told_11 (by decide) (fun c2 => ?_) (fun c2 => ?_)
  · replace h := h.1 c2
    refine f_iconst (v := (-1)) C dX8_told_23 (by decide) ?_
    exact f_iret C h dX8_told_24
  · replace h := h.2 c2
    refine f_aload_n C dX8_told_14 rfl (lv_at hl 0 rfl) ?_
    refine ge_RX8_23 C (by decide) dX8_told_15 ?_
    refine f_iload_n C dX8_told_18 rfl (lv_at hl 1 rfl) ?_
    obtain ⟨hi3, h⟩ := h
    refine al_k (n := 12) (k := x1.toNatClampNeg) C (by decide) rfl rfl hi3 dX8_told_19 ?_
    refine f_goto (tgt := 24) C dX8_told_20 (by decide) ?_
    exact f_iret C h dX8_told_24

def wp_X8_floor (Q : Int32 → MI → MJ → Prop) (I : MI) (J : MJ) (x0 : Int32) (x1 : Int32) : Prop :=
  ¬ x1 = 0 ∧ (¬ x1 = 0 ∧ ((0 ≤ (x0 - x0 / x1 * x1) → Q (x0 / x1) I J) ∧
  (¬ (0 ≤ (x0 - x0 / x1 * x1)) → Q ((x0 / x1) - 1) I J)))
set_option maxRecDepth 20000 in
theorem c_X8_floor {l : Launch} {g : Geo} {Q : Int32 → MI → MJ → Prop} {I : MI} {J : MJ} {x0 : Int32} {x1 : Int32} (h : wp_X8_floor Q I J x0 x1) : Ct g l yX8_floor cX8_floor 3 (some .int) 0 0 [.int x0, .int x1] I J (PI Q) := by
  refine Ct.of (by decide) ?_
  intro p e s m below meth c C
  have hR : 0 ≤ (Rm 0 0).frames ∧ 0 ≤ (Rm 0 0).locals := ⟨Nat.le_refl _, Nat.le_refl _⟩
  generalize Rm 0 0 = R at hR ⊢
  have hl := lv_entry ([.int x0, .int x1]) (n := 3) (Nat.le_of_ble_eq_true rfl)
  rw [lg_entry_eq]
  generalize (lg_sl ([.int x0, .int x1]) ++ List.replicate (3 - (lg_sl ([.int x0, .int x1])).length) Slot.unset).toArray = ls at hl ⊢
  have hl : lv_has ls 3 [(0, .int x0), (1, .int x1)] := hl
  refine f_iload_n C dX8_floor_0 rfl (lv_at hl 0 rfl) ?_
  refine f_iload_n C dX8_floor_1 rfl (lv_at hl 1 rfl) ?_
  obtain ⟨hz1, h⟩ := h
  refine f_idiv C dX8_floor_2 hz1 ?_
  refine f_istore_n (lv' := [(2, .int (x0 / x1)), (0, .int x0), (1, .int x1)]) C dX8_floor_3 rfl hl (by decide) rfl (fun ls hl => ?_)
  refine f_iload_n C dX8_floor_4 rfl (lv_at hl 1 rfl) ?_
  refine f_iload_n C dX8_floor_5 rfl (lv_at hl 2 rfl) ?_
  obtain ⟨hz2, h⟩ := h
  refine f_irem C dX8_floor_6 hz2 ?_
  refine f_if_ge (tgt := 16) C dX8_floor_7 (by decide) (fun c3 => ?_) (fun c3 => ?_)
  · replace h := h.1 c3
    refine f_iload_n C dX8_floor_16 rfl (lv_at hl 0 rfl) ?_
    exact f_iret C h dX8_floor_17
  · replace h := h.2 c3
    refine f_iload_n C dX8_floor_10 rfl (lv_at hl 0 rfl) ?_
    refine f_iconst (v := 1) C dX8_floor_11 (by decide) ?_
    refine f_isub C dX8_floor_12 ?_
    refine f_goto (tgt := 17) C dX8_floor_13 (by decide) ?_
    exact f_iret C h dX8_floor_17

def B_X8_moved_219 (Q : Int32 → MI → MJ → Prop) (C219 : MI → MJ → Int32 → Int32 → Int32 → Int32 → Prop) (I : MI) (J : MJ) (x1 : Int32) (x4 : Int32) (x5 : Int32) (x6 : Int32) : Prop :=
  (x4 ≤ x6 → wp_X8_floor (fun r8 I8 J8 => ¬ (I8 29 0 3) = 0 ∧ (∀ v10 : Int32, v10 = ((I 29 0 2) * (r8 - x1)) / (I8 29 0 3) → (wp_X8_within (fun r11 I11 J11 => wp_X8_within (fun r12 I12 J12 => Q r12 I12 J12) I11 J11 (x1 + r11) 0 200) I8 J8 v10 (-(I8 29 0 4)) (I8 29 0 4)))) I J x5 x4) ∧
  (¬ (x4 ≤ x6) → vp_in x6 12 ∧ (∀ v14 : Int32, v14 = x5 + (I 35 0 (x6.toNatClampNeg)) → (C219 I J x1 x4 v14 (x6 + 1))))
set_option maxRecDepth 20000 in
theorem b_X8_moved_219 {p : Program} {l : Launch} {e : Env} {R : Room} {s : State} {m : MethodId} {args : Array Value} {below : List Frame} {meth : Method} {c : Code} {g : Geo} (C : Cx g p s m args meth c cX8_moved 7 RX8 (some .int)) (hR : 1 ≤ R.frames ∧ 22 ≤ R.locals) {Q : Int32 → MI → MJ → Prop} {C219 : MI → MJ → Int32 → Int32 → Int32 → Int32 → Prop} (hC219 : ∀ (I : MI) (J : MJ) (x1 : Int32) (x4 : Int32) (x5 : Int32) (x6 : Int32), C219 I J x1 x4 x5 x6 → ∀ ls : Array Slot, lv_has ls 7 [(0, .ref (gad g 8 0)), (1, .int x1), (4, .int x4), (5, .int x5), (6, .int x6)] → Wf p l e R s m args below meth c (MQ below (Qg g (PI Q)) args s 0 0 (gA g)) g I J (F0 m 219 ls [])) {I : MI} {J : MJ} {x1 : Int32} {x4 : Int32} {x5 : Int32} {x6 : Int32} (h : B_X8_moved_219 Q C219 I J x1 x4 x5 x6) (ls : Array Slot) (hl : lv_has ls 7 [(0, .ref (gad g 8 0)), (1, .int x1), (4, .int x4), (5, .int x5), (6, .int x6)]) : Wf p l e R s m args below meth c (MQ below (Qg g (PI Q)) args s 0 0 (gA g)) g I J (F0 m 219 ls []) := by
  refine f_iload C dX8_moved_219 (lv_at hl 4 rfl) ?_
  refine f_iload C dX8_moved_221 (lv_at hl 2 rfl) ?_
  refine f_icmp_ge (tgt := 244) C dX8_moved_223 (by decide) (fun c7 => ?_) (fun c7 => ?_)
  · replace h := h.1 c7
    refine f_aload_n C dX8_moved_244 rfl (lv_at hl 0 rfl) ?_
    refine ge_RX8_23 C (by decide) dX8_moved_245 ?_
    refine f_iconst (v := 2) C dX8_moved_248 (by decide) ?_
    refine al_k (n := 12) (k := 2) C (by decide) rfl (by decide) (vin_k (by decide)) dX8_moved_249 ?_
    refine f_iload C dX8_moved_250 (lv_at hl 3 rfl) ?_
    refine f_iload C dX8_moved_252 (lv_at hl 2 rfl) ?_
    refine f_cSi (As := [.int x5, .int x4]) (rest := [.int (I 29 0 2)]) (n := 2) C (c_X8_floor h) ok_X8_floor sm_X8_floor kw_RX8_122 ⟨Nat.le_trans (by decide) hR.1, Nat.le_trans (by decide) hR.2⟩ rfl hl.1 (Nat.le_of_ble_eq_true rfl) dX8_moved_254 (fun r8 I8 J8 h => ?_)
    refine f_iload_n C dX8_moved_257 rfl (lv_at hl 1 rfl) ?_
    refine f_isub C dX8_moved_258 ?_
    refine f_imul C dX8_moved_259 ?_
    refine f_aload_n C dX8_moved_260 rfl (lv_at hl 0 rfl) ?_
    refine ge_RX8_23 C (by decide) dX8_moved_261 ?_
    refine f_iconst (v := 3) C dX8_moved_264 (by decide) ?_
    refine al_k (n := 12) (k := 3) C (by decide) rfl (by decide) (vin_k (by decide)) dX8_moved_265 ?_
    obtain ⟨hz9, h⟩ := h
    refine f_idiv C dX8_moved_266 hz9 ?_
    generalize hv10 : ((I 29 0 2) * (r8 - x1)) / (I8 29 0 3) = v10
    replace h := h v10 hv10.symm
    refine f_istore (lv' := [(6, .int v10), (0, .ref (gad g 8 0)), (1, .int x1), (4, .int x4), (5, .int x5)]) C dX8_moved_267 hl (by decide) rfl (fun ls hl => ?_)
    refine f_iload_n C dX8_moved_269 rfl (lv_at hl 2 rfl) ?_
    refine f_iload C dX8_moved_270 (lv_at hl 0 rfl) ?_
    refine f_aload_n C dX8_moved_272 rfl (lv_at hl 1 rfl) ?_
    refine ge_RX8_23 C (by decide) dX8_moved_273 ?_
    refine f_iconst (v := 4) C dX8_moved_276 (by decide) ?_
    refine al_k (n := 12) (k := 4) C (by decide) rfl (by decide) (vin_k (by decide)) dX8_moved_277 ?_
    refine f_ineg C dX8_moved_278 ?_
    refine f_aload_n C dX8_moved_279 rfl (lv_at hl 1 rfl) ?_
    refine ge_RX8_23 C (by decide) dX8_moved_280 ?_
    refine f_iconst (v := 4) C dX8_moved_283 (by decide) ?_
    refine al_k (n := 12) (k := 4) C (by decide) rfl (by decide) (vin_k (by decide)) dX8_moved_284 ?_
    refine f_cSi (As := [.int v10, .int (-(I8 29 0 4)), .int (I8 29 0 4)]) (rest := [.int x1]) (n := 3) C (c_X8_within h) ok_X8_within sm_X8_within kw_RX8_125 ⟨Nat.le_trans (by decide) hR.1, Nat.le_trans (by decide) hR.2⟩ rfl hl.1 (Nat.le_of_ble_eq_true rfl) dX8_moved_285 (fun r11 I11 J11 h => ?_)
    refine f_iadd C dX8_moved_288 ?_
    refine f_iconst (v := 0) C dX8_moved_289 (by decide) ?_
    refine f_sipush (v := 200) C dX8_moved_290 (by decide) ?_
    refine f_cSi (As := [.int (x1 + r11), .int 0, .int 200]) (rest := []) (n := 3) C (c_X8_within h) ok_X8_within sm_X8_within kw_RX8_125 ⟨Nat.le_trans (by decide) hR.1, Nat.le_trans (by decide) hR.2⟩ rfl hl.1 (Nat.le_of_ble_eq_true rfl) dX8_moved_293 (fun r12 I12 J12 h => ?_)
    exact f_iret C h dX8_moved_296
  · replace h := h.2 c7
    refine f_iload C dX8_moved_226 (lv_at hl 3 rfl) ?_
    refine f_aload_n C dX8_moved_228 rfl (lv_at hl 0 rfl) ?_
    refine ge_RX8_41 C (by decide) dX8_moved_229 ?_
    refine f_iload C dX8_moved_232 (lv_at hl 4 rfl) ?_
    obtain ⟨hi13, h⟩ := h
    refine al_k (n := 12) (k := x6.toNatClampNeg) C (by decide) rfl rfl hi13 dX8_moved_234 ?_
    refine f_iadd C dX8_moved_235 ?_
    generalize hv14 : x5 + (I 35 0 (x6.toNatClampNeg)) = v14
    replace h := h v14 hv14.symm
    refine f_istore (lv' := [(5, .int v14), (0, .ref (gad g 8 0)), (1, .int x1), (4, .int x4), (6, .int x6)]) C dX8_moved_236 hl (by decide) rfl (fun ls hl => ?_)
    refine f_iinc (v := x6 + 1) (lv' := [(6, .int (x6 + 1)), (5, .int v14), (0, .ref (gad g 8 0)), (1, .int x1), (4, .int x4)]) C dX8_moved_238 hl (k := 4) rfl rfl (by decide) rfl (fun ls hl => ?_)
    refine f_goto (tgt := 219) C dX8_moved_241 (by decide) ?_
    exact hC219 _ _ _ _ _ _ h ls (lv_sub hl [2, 3, 4, 1, 0] rfl)

def L_X8_moved_219 (Q : Int32 → MI → MJ → Prop) : Nat → MI → MJ → Int32 → Int32 → Int32 → Int32 → Prop
  | 0 => fun _ _ _ _ _ _ => False
  | n + 1 => fun I J x1 x4 x5 x6 => B_X8_moved_219 Q (L_X8_moved_219 Q n) I J x1 x4 x5 x6
theorem t_X8_moved_219 {p : Program} {l : Launch} {e : Env} {R : Room} {s : State} {m : MethodId} {args : Array Value} {below : List Frame} {meth : Method} {c : Code} {g : Geo} (C : Cx g p s m args meth c cX8_moved 7 RX8 (some .int)) (hR : 1 ≤ R.frames ∧ 22 ≤ R.locals) {Q : Int32 → MI → MJ → Prop} : ∀ (n : Nat), ∀ (I : MI) (J : MJ) (x1 : Int32) (x4 : Int32) (x5 : Int32) (x6 : Int32), L_X8_moved_219 Q n I J x1 x4 x5 x6 → ∀ ls : Array Slot, lv_has ls 7 [(0, .ref (gad g 8 0)), (1, .int x1), (4, .int x4), (5, .int x5), (6, .int x6)] → Wf p l e R s m args below meth c (MQ below (Qg g (PI Q)) args s 0 0 (gA g)) g I J (F0 m 219 ls []) := by
  intro n
  induction n with
  | zero => intro I J x1 x4 x5 x6 h; exact h.elim
  | succ n ih => intro I J x1 x4 x5 x6 h ls hl; exact b_X8_moved_219 C hR ih h ls hl
def J_X8_moved_211 (Q : Int32 → MI → MJ → Prop) (I : MI) (J : MJ) (x1 : Int32) (s0 : Int32) : Prop :=
  ∃ n : Nat, L_X8_moved_219 Q n I J x1 s0 0 0
set_option maxRecDepth 20000 in
theorem t_X8_moved_211 {p : Program} {l : Launch} {e : Env} {R : Room} {s : State} {m : MethodId} {args : Array Value} {below : List Frame} {meth : Method} {c : Code} {g : Geo} (C : Cx g p s m args meth c cX8_moved 7 RX8 (some .int)) (hR : 1 ≤ R.frames ∧ 22 ≤ R.locals) {Q : Int32 → MI → MJ → Prop} {I : MI} {J : MJ} {x1 : Int32} {s0 : Int32} (h : J_X8_moved_211 Q I J x1 s0) (ls : Array Slot) (hl : lv_has ls 7 [(0, .ref (gad g 8 0)), (1, .int x1)]) : Wf p l e R s m args below meth c (MQ below (Qg g (PI Q)) args s 0 0 (gA g)) g I J (F0 m 211 ls [.int s0]) := by
  refine f_istore (lv' := [(4, .int s0), (0, .ref (gad g 8 0)), (1, .int x1)]) C dX8_moved_211 hl (by decide) rfl (fun ls hl => ?_)
  refine f_iconst (v := 0) C dX8_moved_213 (by decide) ?_
  refine f_istore (lv' := [(5, .int 0), (4, .int s0), (0, .ref (gad g 8 0)), (1, .int x1)]) C dX8_moved_214 hl (by decide) rfl (fun ls hl => ?_)
  refine f_iconst (v := 0) C dX8_moved_216 (by decide) ?_
  refine f_istore (lv' := [(6, .int 0), (5, .int 0), (4, .int s0), (0, .ref (gad g 8 0)), (1, .int x1)]) C dX8_moved_217 hl (by decide) rfl (fun ls hl => ?_)
  obtain ⟨n, h⟩ := h
  exact t_X8_moved_219 C hR n _ _ _ _ _ _ h ls (lv_sub hl [3, 4, 2, 1, 0] rfl)

def J_X8_moved_176 (Q : Int32 → MI → MJ → Prop) (C87 : MI → MJ → Int32 → Int32 → Int32 → Prop) (I : MI) (J : MJ) (x1 : Int32) (x3 : Int32) (x4 : Int32) (x5 : Int32) (x6 : Int32) : Prop :=
  vp_in x6 12 ∧ (C87 (up3 I 35 0 (x6.toNatClampNeg) x5) J x1 x3 (x4 + 1))
set_option maxRecDepth 20000 in
theorem t_X8_moved_176 {p : Program} {l : Launch} {e : Env} {R : Room} {s : State} {m : MethodId} {args : Array Value} {below : List Frame} {meth : Method} {c : Code} {g : Geo} (C : Cx g p s m args meth c cX8_moved 7 RX8 (some .int)) (hR : 1 ≤ R.frames ∧ 22 ≤ R.locals) {Q : Int32 → MI → MJ → Prop} {C87 : MI → MJ → Int32 → Int32 → Int32 → Prop} (hC87 : ∀ (I : MI) (J : MJ) (x1 : Int32) (x3 : Int32) (x4 : Int32), C87 I J x1 x3 x4 → ∀ ls : Array Slot, lv_has ls 7 [(0, .ref (gad g 8 0)), (1, .int x1), (3, .int x3), (4, .int x4)] → Wf p l e R s m args below meth c (MQ below (Qg g (PI Q)) args s 0 0 (gA g)) g I J (F0 m 87 ls [])) {I : MI} {J : MJ} {x1 : Int32} {x3 : Int32} {x4 : Int32} {x5 : Int32} {x6 : Int32} (h : J_X8_moved_176 Q C87 I J x1 x3 x4 x5 x6) (ls : Array Slot) (hl : lv_has ls 7 [(0, .ref (gad g 8 0)), (1, .int x1), (3, .int x3), (4, .int x4), (5, .int x5), (6, .int x6)]) : Wf p l e R s m args below meth c (MQ below (Qg g (PI Q)) args s 0 0 (gA g)) g I J (F0 m 176 ls []) := by
  refine f_aload_n C dX8_moved_176 rfl (lv_at hl 0 rfl) ?_
  refine ge_RX8_41 C (by decide) dX8_moved_177 ?_
  refine f_iload C dX8_moved_180 (lv_at hl 5 rfl) ?_
  refine f_iload C dX8_moved_182 (lv_at hl 4 rfl) ?_
  obtain ⟨hi19, h⟩ := h
  refine as_k (n := 12) (k := x6.toNatClampNeg) C (by decide) (fun _ => rfl) rfl hi19 dX8_moved_184 ?_
  refine f_iinc (v := x4 + 1) (lv' := [(4, .int (x4 + 1)), (0, .ref (gad g 8 0)), (1, .int x1), (3, .int x3), (5, .int x5), (6, .int x6)]) C dX8_moved_185 hl (k := 3) rfl rfl (by decide) rfl (fun ls hl => ?_)
  refine f_goto (tgt := 87) C dX8_moved_188 (by decide) ?_
  exact hC87 _ _ _ _ _ h ls (lv_sub hl [1, 2, 3, 0] rfl)

def B_X8_moved_135 (Q : Int32 → MI → MJ → Prop) (C87 : MI → MJ → Int32 → Int32 → Int32 → Prop) (C135 : MI → MJ → Int32 → Int32 → Int32 → Int32 → Int32 → Prop) (I : MI) (J : MJ) (x1 : Int32) (x3 : Int32) (x4 : Int32) (x5 : Int32) (x6 : Int32) : Prop :=
  (x6 ≤ 0 → J_X8_moved_176 Q C87 I J x1 x3 x4 x5 x6) ∧
  (¬ (x6 ≤ 0) → vp_in (x6 - 1) 12 ∧ ((x5 ≤ (I 35 0 ((x6 - 1).toNatClampNeg)) → J_X8_moved_176 Q C87 I J x1 x3 x4 x5 x6) ∧
  (¬ (x5 ≤ (I 35 0 ((x6 - 1).toNatClampNeg))) → vp_in (x6 - 1) 12 ∧ (vp_in x6 12 ∧ (C135 (up3 I 35 0 (x6.toNatClampNeg) (I 35 0 ((x6 - 1).toNatClampNeg))) J x1 x3 x4 x5 (x6 + (-1)))))))
set_option maxRecDepth 20000 in
theorem b_X8_moved_135 {p : Program} {l : Launch} {e : Env} {R : Room} {s : State} {m : MethodId} {args : Array Value} {below : List Frame} {meth : Method} {c : Code} {g : Geo} (C : Cx g p s m args meth c cX8_moved 7 RX8 (some .int)) (hR : 1 ≤ R.frames ∧ 22 ≤ R.locals) {Q : Int32 → MI → MJ → Prop} {C87 : MI → MJ → Int32 → Int32 → Int32 → Prop} (hC87 : ∀ (I : MI) (J : MJ) (x1 : Int32) (x3 : Int32) (x4 : Int32), C87 I J x1 x3 x4 → ∀ ls : Array Slot, lv_has ls 7 [(0, .ref (gad g 8 0)), (1, .int x1), (3, .int x3), (4, .int x4)] → Wf p l e R s m args below meth c (MQ below (Qg g (PI Q)) args s 0 0 (gA g)) g I J (F0 m 87 ls [])) {C135 : MI → MJ → Int32 → Int32 → Int32 → Int32 → Int32 → Prop} (hC135 : ∀ (I : MI) (J : MJ) (x1 : Int32) (x3 : Int32) (x4 : Int32) (x5 : Int32) (x6 : Int32), C135 I J x1 x3 x4 x5 x6 → ∀ ls : Array Slot, lv_has ls 7 [(0, .ref (gad g 8 0)), (1, .int x1), (3, .int x3), (4, .int x4), (5, .int x5), (6, .int x6)] → Wf p l e R s m args below meth c (MQ below (Qg g (PI Q)) args s 0 0 (gA g)) g I J (F0 m 135 ls [])) {I : MI} {J : MJ} {x1 : Int32} {x3 : Int32} {x4 : Int32} {x5 : Int32} {x6 : Int32} (h : B_X8_moved_135 Q C87 C135 I J x1 x3 x4 x5 x6) (ls : Array Slot) (hl : lv_has ls 7 [(0, .ref (gad g 8 0)), (1, .int x1), (3, .int x3), (4, .int x4), (5, .int x5), (6, .int x6)]) : Wf p l e R s m args below meth c (MQ below (Qg g (PI Q)) args s 0 0 (gA g)) g I J (F0 m 135 ls []) := by
  refine f_iload C dX8_moved_135 (lv_at hl 5 rfl) ?_
  refine f_if_le (tgt := 176) C dX8_moved_137 (by decide) (fun c18 => ?_) (fun c18 => ?_)
  · replace h := h.1 c18
    exact t_X8_moved_176 C hR hC87 h ls (lv_sub hl [0, 1, 2, 3, 4, 5] rfl)
  · replace h := h.2 c18
    refine f_aload_n C dX8_moved_140 rfl (lv_at hl 0 rfl) ?_
    refine ge_RX8_41 C (by decide) dX8_moved_141 ?_
    refine f_iload C dX8_moved_144 (lv_at hl 5 rfl) ?_
    refine f_iconst (v := 1) C dX8_moved_146 (by decide) ?_
    refine f_isub C dX8_moved_147 ?_
    obtain ⟨hi20, h⟩ := h
    refine al_k (n := 12) (k := (x6 - 1).toNatClampNeg) C (by decide) rfl rfl hi20 dX8_moved_148 ?_
    refine f_iload C dX8_moved_149 (lv_at hl 4 rfl) ?_
    refine f_icmp_ge (tgt := 176) C dX8_moved_151 (by decide) (fun c21 => ?_) (fun c21 => ?_)
    · replace h := h.1 c21
      exact t_X8_moved_176 C hR hC87 h ls (lv_sub hl [0, 1, 2, 3, 4, 5] rfl)
    · replace h := h.2 c21
      refine f_aload_n C dX8_moved_154 rfl (lv_at hl 0 rfl) ?_
      refine ge_RX8_41 C (by decide) dX8_moved_155 ?_
      refine f_iload C dX8_moved_158 (lv_at hl 5 rfl) ?_
      refine f_aload_n C dX8_moved_160 rfl (lv_at hl 0 rfl) ?_
      refine ge_RX8_41 C (by decide) dX8_moved_161 ?_
      refine f_iload C dX8_moved_164 (lv_at hl 5 rfl) ?_
      refine f_iconst (v := 1) C dX8_moved_166 (by decide) ?_
      refine f_isub C dX8_moved_167 ?_
      obtain ⟨hi22, h⟩ := h
      refine al_k (n := 12) (k := (x6 - 1).toNatClampNeg) C (by decide) rfl rfl hi22 dX8_moved_168 ?_
      obtain ⟨hi23, h⟩ := h
      refine as_k (n := 12) (k := x6.toNatClampNeg) C (by decide) (fun _ => rfl) rfl hi23 dX8_moved_169 ?_
      refine f_iinc (v := x6 + (-1)) (lv' := [(6, .int (x6 + (-1))), (0, .ref (gad g 8 0)), (1, .int x1), (3, .int x3), (4, .int x4), (5, .int x5)]) C dX8_moved_170 hl (k := 5) rfl rfl (by decide) rfl (fun ls hl => ?_)
      refine f_goto (tgt := 135) C dX8_moved_173 (by decide) ?_
      exact hC135 _ _ _ _ _ _ _ h ls (lv_sub hl [1, 2, 3, 4, 5, 0] rfl)

def L_X8_moved_135 (Q : Int32 → MI → MJ → Prop) (C87 : MI → MJ → Int32 → Int32 → Int32 → Prop) : Nat → MI → MJ → Int32 → Int32 → Int32 → Int32 → Int32 → Prop
  | 0 => fun _ _ _ _ _ _ _ => False
  | n + 1 => fun I J x1 x3 x4 x5 x6 => B_X8_moved_135 Q C87 (L_X8_moved_135 Q C87 n) I J x1 x3 x4 x5 x6
theorem t_X8_moved_135 {p : Program} {l : Launch} {e : Env} {R : Room} {s : State} {m : MethodId} {args : Array Value} {below : List Frame} {meth : Method} {c : Code} {g : Geo} (C : Cx g p s m args meth c cX8_moved 7 RX8 (some .int)) (hR : 1 ≤ R.frames ∧ 22 ≤ R.locals) {Q : Int32 → MI → MJ → Prop} {C87 : MI → MJ → Int32 → Int32 → Int32 → Prop} (hC87 : ∀ (I : MI) (J : MJ) (x1 : Int32) (x3 : Int32) (x4 : Int32), C87 I J x1 x3 x4 → ∀ ls : Array Slot, lv_has ls 7 [(0, .ref (gad g 8 0)), (1, .int x1), (3, .int x3), (4, .int x4)] → Wf p l e R s m args below meth c (MQ below (Qg g (PI Q)) args s 0 0 (gA g)) g I J (F0 m 87 ls [])) : ∀ (n : Nat), ∀ (I : MI) (J : MJ) (x1 : Int32) (x3 : Int32) (x4 : Int32) (x5 : Int32) (x6 : Int32), L_X8_moved_135 Q C87 n I J x1 x3 x4 x5 x6 → ∀ ls : Array Slot, lv_has ls 7 [(0, .ref (gad g 8 0)), (1, .int x1), (3, .int x3), (4, .int x4), (5, .int x5), (6, .int x6)] → Wf p l e R s m args below meth c (MQ below (Qg g (PI Q)) args s 0 0 (gA g)) g I J (F0 m 135 ls []) := by
  intro n
  induction n with
  | zero => intro I J x1 x3 x4 x5 x6 h; exact h.elim
  | succ n ih => intro I J x1 x3 x4 x5 x6 h ls hl; exact b_X8_moved_135 C hR hC87 ih h ls hl
def B_X8_moved_87 (Q : Int32 → MI → MJ → Prop) (C87 : MI → MJ → Int32 → Int32 → Int32 → Prop) (I : MI) (J : MJ) (x1 : Int32) (x3 : Int32) (x4 : Int32) : Prop :=
  (x3 ≤ x4 → ((I 29 0 0) ≤ x3 → J_X8_moved_211 Q I J x1 (I 29 0 0)) ∧
  (¬ ((I 29 0 0) ≤ x3) → J_X8_moved_211 Q I J x1 x3)) ∧
  (¬ (x3 ≤ x4) → vp_in x4 12 ∧ (((I 34 0 (x4.toNatClampNeg)) ≤ (x1 + (I 29 0 5)) → vp_in x4 12 ∧ (∃ n : Nat, L_X8_moved_135 Q C87 n I J x1 x3 x4 (I 34 0 (x4.toNatClampNeg)) x4)) ∧
  (¬ ((I 34 0 (x4.toNatClampNeg)) ≤ (x1 + (I 29 0 5))) → ∃ n : Nat, L_X8_moved_135 Q C87 n I J x1 x3 x4 (x1 + (I 29 0 5)) x4)))
set_option maxRecDepth 20000 in
theorem b_X8_moved_87 {p : Program} {l : Launch} {e : Env} {R : Room} {s : State} {m : MethodId} {args : Array Value} {below : List Frame} {meth : Method} {c : Code} {g : Geo} (C : Cx g p s m args meth c cX8_moved 7 RX8 (some .int)) (hR : 1 ≤ R.frames ∧ 22 ≤ R.locals) {Q : Int32 → MI → MJ → Prop} {C87 : MI → MJ → Int32 → Int32 → Int32 → Prop} (hC87 : ∀ (I : MI) (J : MJ) (x1 : Int32) (x3 : Int32) (x4 : Int32), C87 I J x1 x3 x4 → ∀ ls : Array Slot, lv_has ls 7 [(0, .ref (gad g 8 0)), (1, .int x1), (3, .int x3), (4, .int x4)] → Wf p l e R s m args below meth c (MQ below (Qg g (PI Q)) args s 0 0 (gA g)) g I J (F0 m 87 ls [])) {I : MI} {J : MJ} {x1 : Int32} {x3 : Int32} {x4 : Int32} (h : B_X8_moved_87 Q C87 I J x1 x3 x4) (ls : Array Slot) (hl : lv_has ls 7 [(0, .ref (gad g 8 0)), (1, .int x1), (3, .int x3), (4, .int x4)]) : Wf p l e R s m args below meth c (MQ below (Qg g (PI Q)) args s 0 0 (gA g)) g I J (F0 m 87 ls []) := by
  refine f_iload C dX8_moved_87 (lv_at hl 3 rfl) ?_
  refine f_iload_n C dX8_moved_89 rfl (lv_at hl 2 rfl) ?_
  refine f_icmp_ge (tgt := 191) C dX8_moved_90 (by decide) (fun c5 => ?_) (fun c5 => ?_)
  · replace h := h.1 c5
    refine f_iload_n C dX8_moved_191 rfl (lv_at hl 2 rfl) ?_
    refine f_aload_n C dX8_moved_192 rfl (lv_at hl 0 rfl) ?_
    refine ge_RX8_23 C (by decide) dX8_moved_193 ?_
    refine f_iconst (v := 0) C dX8_moved_196 (by decide) ?_
    refine al_k (n := 12) (k := 0) C (by decide) rfl (by decide) (vin_k (by decide)) dX8_moved_197 ?_
    refine f_icmp_ge (tgt := 205) C dX8_moved_198 (by decide) (fun c6 => ?_) (fun c6 => ?_)
    · replace h := h.1 c6
      refine f_aload_n C dX8_moved_205 rfl (lv_at hl 0 rfl) ?_
      refine ge_RX8_23 C (by decide) dX8_moved_206 ?_
      refine f_iconst (v := 0) C dX8_moved_209 (by decide) ?_
      refine al_k (n := 12) (k := 0) C (by decide) rfl (by decide) (vin_k (by decide)) dX8_moved_210 ?_
      exact t_X8_moved_211 C hR h ls (lv_sub hl [0, 1] rfl)
    · replace h := h.2 c6
      refine f_iload_n C dX8_moved_201 rfl (lv_at hl 2 rfl) ?_
      refine f_goto (tgt := 211) C dX8_moved_202 (by decide) ?_
      exact t_X8_moved_211 C hR h ls (lv_sub hl [0, 1] rfl)
  · replace h := h.2 c5
    refine f_aload_n C dX8_moved_93 rfl (lv_at hl 0 rfl) ?_
    refine ge_RX8_38 C (by decide) dX8_moved_94 ?_
    refine f_iload C dX8_moved_97 (lv_at hl 3 rfl) ?_
    obtain ⟨hi15, h⟩ := h
    refine al_k (n := 12) (k := x4.toNatClampNeg) C (by decide) rfl rfl hi15 dX8_moved_99 ?_
    refine f_iload_n C dX8_moved_100 rfl (lv_at hl 1 rfl) ?_
    refine f_aload_n C dX8_moved_101 rfl (lv_at hl 0 rfl) ?_
    refine ge_RX8_23 C (by decide) dX8_moved_102 ?_
    refine f_iconst (v := 5) C dX8_moved_105 (by decide) ?_
    refine al_k (n := 12) (k := 5) C (by decide) rfl (by decide) (vin_k (by decide)) dX8_moved_106 ?_
    refine f_iadd C dX8_moved_107 ?_
    refine f_icmp_le (tgt := 122) C dX8_moved_108 (by decide) (fun c16 => ?_) (fun c16 => ?_)
    · replace h := h.1 c16
      refine f_aload_n C dX8_moved_122 rfl (lv_at hl 0 rfl) ?_
      refine ge_RX8_38 C (by decide) dX8_moved_123 ?_
      refine f_iload C dX8_moved_126 (lv_at hl 3 rfl) ?_
      obtain ⟨hi17, h⟩ := h
      refine al_k (n := 12) (k := x4.toNatClampNeg) C (by decide) rfl rfl hi17 dX8_moved_128 ?_
      refine f_istore (lv' := [(5, .int (I 34 0 (x4.toNatClampNeg))), (0, .ref (gad g 8 0)), (1, .int x1), (3, .int x3), (4, .int x4)]) C dX8_moved_129 hl (by decide) rfl (fun ls hl => ?_)
      refine f_iload C dX8_moved_131 (lv_at hl 4 rfl) ?_
      refine f_istore (lv' := [(6, .int x4), (5, .int (I 34 0 (x4.toNatClampNeg))), (0, .ref (gad g 8 0)), (1, .int x1), (3, .int x3), (4, .int x4)]) C dX8_moved_133 hl (by decide) rfl (fun ls hl => ?_)
      obtain ⟨n, h⟩ := h
      exact t_X8_moved_135 C hR hC87 n _ _ _ _ _ _ _ h ls (lv_sub hl [2, 3, 4, 5, 1, 0] rfl)
    · replace h := h.2 c16
      refine f_iload_n C dX8_moved_111 rfl (lv_at hl 1 rfl) ?_
      refine f_aload_n C dX8_moved_112 rfl (lv_at hl 0 rfl) ?_
      refine ge_RX8_23 C (by decide) dX8_moved_113 ?_
      refine f_iconst (v := 5) C dX8_moved_116 (by decide) ?_
      refine al_k (n := 12) (k := 5) C (by decide) rfl (by decide) (vin_k (by decide)) dX8_moved_117 ?_
      refine f_iadd C dX8_moved_118 ?_
      refine f_goto (tgt := 129) C dX8_moved_119 (by decide) ?_
      refine f_istore (lv' := [(5, .int (x1 + (I 29 0 5))), (0, .ref (gad g 8 0)), (1, .int x1), (3, .int x3), (4, .int x4)]) C dX8_moved_129 hl (by decide) rfl (fun ls hl => ?_)
      refine f_iload C dX8_moved_131 (lv_at hl 4 rfl) ?_
      refine f_istore (lv' := [(6, .int x4), (5, .int (x1 + (I 29 0 5))), (0, .ref (gad g 8 0)), (1, .int x1), (3, .int x3), (4, .int x4)]) C dX8_moved_133 hl (by decide) rfl (fun ls hl => ?_)
      obtain ⟨n, h⟩ := h
      exact t_X8_moved_135 C hR hC87 n _ _ _ _ _ _ _ h ls (lv_sub hl [2, 3, 4, 5, 1, 0] rfl)

def L_X8_moved_87 (Q : Int32 → MI → MJ → Prop) : Nat → MI → MJ → Int32 → Int32 → Int32 → Prop
  | 0 => fun _ _ _ _ _ => False
  | n + 1 => fun I J x1 x3 x4 => B_X8_moved_87 Q (L_X8_moved_87 Q n) I J x1 x3 x4
theorem t_X8_moved_87 {p : Program} {l : Launch} {e : Env} {R : Room} {s : State} {m : MethodId} {args : Array Value} {below : List Frame} {meth : Method} {c : Code} {g : Geo} (C : Cx g p s m args meth c cX8_moved 7 RX8 (some .int)) (hR : 1 ≤ R.frames ∧ 22 ≤ R.locals) {Q : Int32 → MI → MJ → Prop} : ∀ (n : Nat), ∀ (I : MI) (J : MJ) (x1 : Int32) (x3 : Int32) (x4 : Int32), L_X8_moved_87 Q n I J x1 x3 x4 → ∀ ls : Array Slot, lv_has ls 7 [(0, .ref (gad g 8 0)), (1, .int x1), (3, .int x3), (4, .int x4)] → Wf p l e R s m args below meth c (MQ below (Qg g (PI Q)) args s 0 0 (gA g)) g I J (F0 m 87 ls []) := by
  intro n
  induction n with
  | zero => intro I J x1 x3 x4 h; exact h.elim
  | succ n ih => intro I J x1 x3 x4 h ls hl; exact b_X8_moved_87 C hR ih h ls hl
def J_X8_moved_53 (Q : Int32 → MI → MJ → Prop) (I : MI) (J : MJ) (x1 : Int32) (s0 : Int32) (s1 : Int32) : Prop :=
  (((up3 I 8 0 19 (s1 + s0)) 29 0 1) ≤ ((up3 I 8 0 19 (s1 + s0)) 8 0 19) → ∀ v4 : Int32, v4 = (up3 I 8 0 19 (s1 + s0)) 29 0 1 → (∃ n : Nat, L_X8_moved_87 Q n (up3 I 8 0 19 (s1 + s0)) J x1 v4 0)) ∧
  (¬ (((up3 I 8 0 19 (s1 + s0)) 29 0 1) ≤ ((up3 I 8 0 19 (s1 + s0)) 8 0 19)) → ∀ v24 : Int32, v24 = (up3 I 8 0 19 (s1 + s0)) 8 0 19 → (∃ n : Nat, L_X8_moved_87 Q n (up3 I 8 0 19 (s1 + s0)) J x1 v24 0))
set_option maxRecDepth 20000 in
theorem t_X8_moved_53 {p : Program} {l : Launch} {e : Env} {R : Room} {s : State} {m : MethodId} {args : Array Value} {below : List Frame} {meth : Method} {c : Code} {g : Geo} (C : Cx g p s m args meth c cX8_moved 7 RX8 (some .int)) (hR : 1 ≤ R.frames ∧ 22 ≤ R.locals) {Q : Int32 → MI → MJ → Prop} {I : MI} {J : MJ} {x1 : Int32} {s0 : Int32} {s1 : Int32} (h : J_X8_moved_53 Q I J x1 s0 s1) (ls : Array Slot) (hl : lv_has ls 7 [(0, .ref (gad g 8 0)), (1, .int x1)]) : Wf p l e R s m args below meth c (MQ below (Qg g (PI Q)) args s 0 0 (gA g)) g I J (F0 m 53 ls [.int s0, .int s1, .ref (gad g 8 0)]) := by
  refine f_iadd C dX8_moved_53 ?_
  refine pu_RX8_119 C (by decide) dX8_moved_54 ?_
  refine f_aload_n C dX8_moved_57 rfl (lv_at hl 0 rfl) ?_
  refine ge_RX8_119 C (by decide) dX8_moved_58 ?_
  refine f_aload_n C dX8_moved_61 rfl (lv_at hl 0 rfl) ?_
  refine ge_RX8_23 C (by decide) dX8_moved_62 ?_
  refine f_iconst (v := 1) C dX8_moved_65 (by decide) ?_
  refine al_k (n := 12) (k := 1) C (by decide) rfl (by decide) (vin_k (by decide)) dX8_moved_66 ?_
  refine f_icmp_ge (tgt := 77) C dX8_moved_67 (by decide) (fun c3 => ?_) (fun c3 => ?_)
  · replace h := h.1 c3
    refine f_aload_n C dX8_moved_77 rfl (lv_at hl 0 rfl) ?_
    refine ge_RX8_23 C (by decide) dX8_moved_78 ?_
    refine f_iconst (v := 1) C dX8_moved_81 (by decide) ?_
    refine al_k (n := 12) (k := 1) C (by decide) rfl (by decide) (vin_k (by decide)) dX8_moved_82 ?_
    generalize hv4 : (up3 I 8 0 19 (s1 + s0)) 29 0 1 = v4
    replace h := h v4 hv4.symm
    refine f_istore_n (lv' := [(3, .int v4), (0, .ref (gad g 8 0)), (1, .int x1)]) C dX8_moved_83 rfl hl (by decide) rfl (fun ls hl => ?_)
    refine f_iconst (v := 0) C dX8_moved_84 (by decide) ?_
    refine f_istore (lv' := [(4, .int 0), (3, .int v4), (0, .ref (gad g 8 0)), (1, .int x1)]) C dX8_moved_85 hl (by decide) rfl (fun ls hl => ?_)
    obtain ⟨n, h⟩ := h
    exact t_X8_moved_87 C hR n _ _ _ _ _ h ls (lv_sub hl [2, 3, 1, 0] rfl)
  · replace h := h.2 c3
    refine f_aload_n C dX8_moved_70 rfl (lv_at hl 0 rfl) ?_
    refine ge_RX8_119 C (by decide) dX8_moved_71 ?_
    refine f_goto (tgt := 83) C dX8_moved_74 (by decide) ?_
    generalize hv24 : (up3 I 8 0 19 (s1 + s0)) 8 0 19 = v24
    replace h := h v24 hv24.symm
    refine f_istore_n (lv' := [(3, .int v24), (0, .ref (gad g 8 0)), (1, .int x1)]) C dX8_moved_83 rfl hl (by decide) rfl (fun ls hl => ?_)
    refine f_iconst (v := 0) C dX8_moved_84 (by decide) ?_
    refine f_istore (lv' := [(4, .int 0), (3, .int v24), (0, .ref (gad g 8 0)), (1, .int x1)]) C dX8_moved_85 hl (by decide) rfl (fun ls hl => ?_)
    obtain ⟨n, h⟩ := h
    exact t_X8_moved_87 C hR n _ _ _ _ _ h ls (lv_sub hl [2, 3, 1, 0] rfl)

def B_X8_moved_3 (Q : Int32 → MI → MJ → Prop) (C3 : MI → MJ → Int32 → Int32 → Int32 → Prop) (I : MI) (J : MJ) (x1 : Int32) (x2 : Int32) (x3 : Int32) : Prop :=
  (x3 ≤ 0 → (12 ≤ ((up3 I 34 0 0 x2) 8 0 19) → J_X8_moved_53 Q (up3 I 34 0 0 x2) J x1 0 ((up3 I 34 0 0 x2) 8 0 19)) ∧
  (¬ (12 ≤ ((up3 I 34 0 0 x2) 8 0 19)) → J_X8_moved_53 Q (up3 I 34 0 0 x2) J x1 1 ((up3 I 34 0 0 x2) 8 0 19))) ∧
  (¬ (x3 ≤ 0) → vp_in (x3 - 1) 12 ∧ (vp_in x3 12 ∧ (C3 (up3 I 34 0 (x3.toNatClampNeg) (I 34 0 ((x3 - 1).toNatClampNeg))) J x1 x2 (x3 + (-1)))))
set_option maxRecDepth 20000 in
theorem b_X8_moved_3 {p : Program} {l : Launch} {e : Env} {R : Room} {s : State} {m : MethodId} {args : Array Value} {below : List Frame} {meth : Method} {c : Code} {g : Geo} (C : Cx g p s m args meth c cX8_moved 7 RX8 (some .int)) (hR : 1 ≤ R.frames ∧ 22 ≤ R.locals) {Q : Int32 → MI → MJ → Prop} {C3 : MI → MJ → Int32 → Int32 → Int32 → Prop} (hC3 : ∀ (I : MI) (J : MJ) (x1 : Int32) (x2 : Int32) (x3 : Int32), C3 I J x1 x2 x3 → ∀ ls : Array Slot, lv_has ls 7 [(0, .ref (gad g 8 0)), (1, .int x1), (2, .int x2), (3, .int x3)] → Wf p l e R s m args below meth c (MQ below (Qg g (PI Q)) args s 0 0 (gA g)) g I J (F0 m 3 ls [])) {I : MI} {J : MJ} {x1 : Int32} {x2 : Int32} {x3 : Int32} (h : B_X8_moved_3 Q C3 I J x1 x2 x3) (ls : Array Slot) (hl : lv_has ls 7 [(0, .ref (gad g 8 0)), (1, .int x1), (2, .int x2), (3, .int x3)]) : Wf p l e R s m args below meth c (MQ below (Qg g (PI Q)) args s 0 0 (gA g)) g I J (F0 m 3 ls []) := by
  refine f_iload_n C dX8_moved_3 rfl (lv_at hl 3 rfl) ?_
  refine f_if_le (tgt := 27) C dX8_moved_4 (by decide) (fun c1 => ?_) (fun c1 => ?_)
  · replace h := h.1 c1
    refine f_aload_n C dX8_moved_27 rfl (lv_at hl 0 rfl) ?_
    refine ge_RX8_38 C (by decide) dX8_moved_28 ?_
    refine f_iconst (v := 0) C dX8_moved_31 (by decide) ?_
    refine f_iload_n C dX8_moved_32 rfl (lv_at hl 2 rfl) ?_
    refine as_k (n := 12) (k := 0) C (by decide) (fun _ => rfl) (by decide) (vin_k (by decide)) dX8_moved_33 ?_
    refine f_aload_n C dX8_moved_34 rfl (lv_at hl 0 rfl) ?_
    refine f_dup C dX8_moved_35 rfl ?_
    refine ge_RX8_119 C (by decide) dX8_moved_36 ?_
    refine f_aload_n C dX8_moved_39 rfl (lv_at hl 0 rfl) ?_
    refine ge_RX8_119 C (by decide) dX8_moved_40 ?_
    refine f_bipush (v := 12) C dX8_moved_43 (by decide) ?_
    refine f_icmp_ge (tgt := 52) C dX8_moved_45 (by decide) (fun c2 => ?_) (fun c2 => ?_)
    · replace h := h.1 c2
      refine f_iconst (v := 0) C dX8_moved_52 (by decide) ?_
      exact t_X8_moved_53 C hR h ls (lv_sub hl [0, 1] rfl)
    · replace h := h.2 c2
      refine f_iconst (v := 1) C dX8_moved_48 (by decide) ?_
      refine f_goto (tgt := 53) C dX8_moved_49 (by decide) ?_
      exact t_X8_moved_53 C hR h ls (lv_sub hl [0, 1] rfl)
  · replace h := h.2 c1
    refine f_aload_n C dX8_moved_7 rfl (lv_at hl 0 rfl) ?_
    refine ge_RX8_38 C (by decide) dX8_moved_8 ?_
    refine f_iload_n C dX8_moved_11 rfl (lv_at hl 3 rfl) ?_
    refine f_aload_n C dX8_moved_12 rfl (lv_at hl 0 rfl) ?_
    refine ge_RX8_38 C (by decide) dX8_moved_13 ?_
    refine f_iload_n C dX8_moved_16 rfl (lv_at hl 3 rfl) ?_
    refine f_iconst (v := 1) C dX8_moved_17 (by decide) ?_
    refine f_isub C dX8_moved_18 ?_
    obtain ⟨hi25, h⟩ := h
    refine al_k (n := 12) (k := (x3 - 1).toNatClampNeg) C (by decide) rfl rfl hi25 dX8_moved_19 ?_
    obtain ⟨hi26, h⟩ := h
    refine as_k (n := 12) (k := x3.toNatClampNeg) C (by decide) (fun _ => rfl) rfl hi26 dX8_moved_20 ?_
    refine f_iinc (v := x3 + (-1)) (lv' := [(3, .int (x3 + (-1))), (0, .ref (gad g 8 0)), (1, .int x1), (2, .int x2)]) C dX8_moved_21 hl (k := 3) rfl rfl (by decide) rfl (fun ls hl => ?_)
    refine f_goto (tgt := 3) C dX8_moved_24 (by decide) ?_
    exact hC3 _ _ _ _ _ h ls (lv_sub hl [1, 2, 3, 0] rfl)

def L_X8_moved_3 (Q : Int32 → MI → MJ → Prop) : Nat → MI → MJ → Int32 → Int32 → Int32 → Prop
  | 0 => fun _ _ _ _ _ => False
  | n + 1 => fun I J x1 x2 x3 => B_X8_moved_3 Q (L_X8_moved_3 Q n) I J x1 x2 x3
theorem t_X8_moved_3 {p : Program} {l : Launch} {e : Env} {R : Room} {s : State} {m : MethodId} {args : Array Value} {below : List Frame} {meth : Method} {c : Code} {g : Geo} (C : Cx g p s m args meth c cX8_moved 7 RX8 (some .int)) (hR : 1 ≤ R.frames ∧ 22 ≤ R.locals) {Q : Int32 → MI → MJ → Prop} : ∀ (n : Nat), ∀ (I : MI) (J : MJ) (x1 : Int32) (x2 : Int32) (x3 : Int32), L_X8_moved_3 Q n I J x1 x2 x3 → ∀ ls : Array Slot, lv_has ls 7 [(0, .ref (gad g 8 0)), (1, .int x1), (2, .int x2), (3, .int x3)] → Wf p l e R s m args below meth c (MQ below (Qg g (PI Q)) args s 0 0 (gA g)) g I J (F0 m 3 ls []) := by
  intro n
  induction n with
  | zero => intro I J x1 x2 x3 h; exact h.elim
  | succ n ih => intro I J x1 x2 x3 h ls hl; exact b_X8_moved_3 C hR ih h ls hl
def wp_X8_moved (Q : Int32 → MI → MJ → Prop) (I : MI) (J : MJ) (x1 : Int32) (x2 : Int32) : Prop :=
  ∃ n : Nat, L_X8_moved_3 Q n I J x1 x2 11
set_option maxRecDepth 20000 in
theorem c_X8_moved {l : Launch} {g : Geo} {Q : Int32 → MI → MJ → Prop} {I : MI} {J : MJ} {x1 : Int32} {x2 : Int32} (h : wp_X8_moved Q I J x1 x2) : Ct g l yX8_moved cX8_moved 7 (some .int) 1 22 [.ref (gad g 8 0), .int x1, .int x2] I J (PI Q) := by
  refine Ct.of (by decide) ?_
  intro p e s m below meth c C
  have hR : 1 ≤ (Rm 1 22).frames ∧ 22 ≤ (Rm 1 22).locals := ⟨Nat.le_refl _, Nat.le_refl _⟩
  generalize Rm 1 22 = R at hR ⊢
  have hl := lv_entry ([.ref (gad g 8 0), .int x1, .int x2]) (n := 7) (Nat.le_of_ble_eq_true rfl)
  rw [lg_entry_eq]
  generalize (lg_sl ([.ref (gad g 8 0), .int x1, .int x2]) ++ List.replicate (7 - (lg_sl ([.ref (gad g 8 0), .int x1, .int x2])).length) Slot.unset).toArray = ls at hl ⊢
  have hl : lv_has ls 7 [(0, .ref (gad g 8 0)), (1, .int x1), (2, .int x2)] := hl
  refine f_bipush (v := 11) C dX8_moved_0 (by decide) ?_
  refine f_istore_n (lv' := [(3, .int 11), (0, .ref (gad g 8 0)), (1, .int x1), (2, .int x2)]) C dX8_moved_2 rfl hl (by decide) rfl (fun ls hl => ?_)
  obtain ⟨n, h⟩ := h
  exact t_X8_moved_3 C hR n _ _ _ _ _ h ls (lv_sub hl [1, 2, 3, 0] rfl)

def B_X8_ones_4 (Q : Int32 → MI → MJ → Prop) (C4 : MI → MJ → Int32 → Int32 → Int32 → Prop) (I : MI) (J : MJ) (x0 : Int32) (x1 : Int32) (x2 : Int32) : Prop :=
  (8 ≤ x2 → Q x1 I J) ∧
  (¬ (8 ≤ x2) → ∀ v2 : Int32, v2 = x1 + ((x0 >>> (x2 &&& 31)) &&& 1) → (C4 I J x0 v2 (x2 + 1)))
set_option maxRecDepth 20000 in
theorem b_X8_ones_4 {p : Program} {l : Launch} {e : Env} {R : Room} {s : State} {m : MethodId} {args : Array Value} {below : List Frame} {meth : Method} {c : Code} {g : Geo} (C : Cx g p s m args meth c cX8_ones 3 RX8 (some .int)) (hR : 0 ≤ R.frames ∧ 0 ≤ R.locals) {Q : Int32 → MI → MJ → Prop} {C4 : MI → MJ → Int32 → Int32 → Int32 → Prop} (hC4 : ∀ (I : MI) (J : MJ) (x0 : Int32) (x1 : Int32) (x2 : Int32), C4 I J x0 x1 x2 → ∀ ls : Array Slot, lv_has ls 3 [(0, .int x0), (1, .int x1), (2, .int x2)] → Wf p l e R s m args below meth c (MQ below (Qg g (PI Q)) args s 0 0 (gA g)) g I J (F0 m 4 ls [])) {I : MI} {J : MJ} {x0 : Int32} {x1 : Int32} {x2 : Int32} (h : B_X8_ones_4 Q C4 I J x0 x1 x2) (ls : Array Slot) (hl : lv_has ls 3 [(0, .int x0), (1, .int x1), (2, .int x2)]) : Wf p l e R s m args below meth c (MQ below (Qg g (PI Q)) args s 0 0 (gA g)) g I J (F0 m 4 ls []) := by
  refine f_iload_n C dX8_ones_4 rfl (lv_at hl 2 rfl) ?_
  refine f_bipush (v := 8) C dX8_ones_5 (by decide) ?_
  refine f_icmp_ge (tgt := 24) C dX8_ones_7 (by decide) (fun c1 => ?_) (fun c1 => ?_)
  · replace h := h.1 c1
    refine f_iload_n C dX8_ones_24 rfl (lv_at hl 1 rfl) ?_
    exact f_iret C h dX8_ones_25
  · replace h := h.2 c1
    refine f_iload_n C dX8_ones_10 rfl (lv_at hl 1 rfl) ?_
    refine f_iload_n C dX8_ones_11 rfl (lv_at hl 0 rfl) ?_
    refine f_iload_n C dX8_ones_12 rfl (lv_at hl 2 rfl) ?_
    refine f_ishr C dX8_ones_13 ?_
    refine f_iconst (v := 1) C dX8_ones_14 (by decide) ?_
    refine f_iand C dX8_ones_15 ?_
    refine f_iadd C dX8_ones_16 ?_
    generalize hv2 : x1 + ((x0 >>> (x2 &&& 31)) &&& 1) = v2
    replace h := h v2 hv2.symm
    refine f_istore_n (lv' := [(1, .int v2), (0, .int x0), (2, .int x2)]) C dX8_ones_17 rfl hl (by decide) rfl (fun ls hl => ?_)
    refine f_iinc (v := x2 + 1) (lv' := [(2, .int (x2 + 1)), (1, .int v2), (0, .int x0)]) C dX8_ones_18 hl (k := 2) rfl rfl (by decide) rfl (fun ls hl => ?_)
    refine f_goto (tgt := 4) C dX8_ones_21 (by decide) ?_
    exact hC4 _ _ _ _ _ h ls (lv_sub hl [2, 1, 0] rfl)

def L_X8_ones_4 (Q : Int32 → MI → MJ → Prop) : Nat → MI → MJ → Int32 → Int32 → Int32 → Prop
  | 0 => fun _ _ _ _ _ => False
  | n + 1 => fun I J x0 x1 x2 => B_X8_ones_4 Q (L_X8_ones_4 Q n) I J x0 x1 x2
theorem t_X8_ones_4 {p : Program} {l : Launch} {e : Env} {R : Room} {s : State} {m : MethodId} {args : Array Value} {below : List Frame} {meth : Method} {c : Code} {g : Geo} (C : Cx g p s m args meth c cX8_ones 3 RX8 (some .int)) (hR : 0 ≤ R.frames ∧ 0 ≤ R.locals) {Q : Int32 → MI → MJ → Prop} : ∀ (n : Nat), ∀ (I : MI) (J : MJ) (x0 : Int32) (x1 : Int32) (x2 : Int32), L_X8_ones_4 Q n I J x0 x1 x2 → ∀ ls : Array Slot, lv_has ls 3 [(0, .int x0), (1, .int x1), (2, .int x2)] → Wf p l e R s m args below meth c (MQ below (Qg g (PI Q)) args s 0 0 (gA g)) g I J (F0 m 4 ls []) := by
  intro n
  induction n with
  | zero => intro I J x0 x1 x2 h; exact h.elim
  | succ n ih => intro I J x0 x1 x2 h ls hl; exact b_X8_ones_4 C hR ih h ls hl
def wp_X8_ones (Q : Int32 → MI → MJ → Prop) (I : MI) (J : MJ) (x0 : Int32) : Prop :=
  ∃ n : Nat, L_X8_ones_4 Q n I J x0 0 0
set_option maxRecDepth 20000 in
theorem c_X8_ones {l : Launch} {g : Geo} {Q : Int32 → MI → MJ → Prop} {I : MI} {J : MJ} {x0 : Int32} (h : wp_X8_ones Q I J x0) : Ct g l yX8_ones cX8_ones 3 (some .int) 0 0 [.int x0] I J (PI Q) := by
  refine Ct.of (by decide) ?_
  intro p e s m below meth c C
  have hR : 0 ≤ (Rm 0 0).frames ∧ 0 ≤ (Rm 0 0).locals := ⟨Nat.le_refl _, Nat.le_refl _⟩
  generalize Rm 0 0 = R at hR ⊢
  have hl := lv_entry ([.int x0]) (n := 3) (Nat.le_of_ble_eq_true rfl)
  rw [lg_entry_eq]
  generalize (lg_sl ([.int x0]) ++ List.replicate (3 - (lg_sl ([.int x0])).length) Slot.unset).toArray = ls at hl ⊢
  have hl : lv_has ls 3 [(0, .int x0)] := hl
  refine f_iconst (v := 0) C dX8_ones_0 (by decide) ?_
  refine f_istore_n (lv' := [(1, .int 0), (0, .int x0)]) C dX8_ones_1 rfl hl (by decide) rfl (fun ls hl => ?_)
  refine f_iconst (v := 0) C dX8_ones_2 (by decide) ?_
  refine f_istore_n (lv' := [(2, .int 0), (1, .int 0), (0, .int x0)]) C dX8_ones_3 rfl hl (by decide) rfl (fun ls hl => ?_)
  obtain ⟨n, h⟩ := h
  exact t_X8_ones_4 C hR n _ _ _ _ _ h ls (lv_sub hl [2, 1, 0] rfl)

