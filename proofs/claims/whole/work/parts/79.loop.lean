/-! THE CLAIM OUT OF ONE WALK OF THE LAW'S BODY. Your part is whole_start (and what it stands on); all else here is the same for every law, but numbers. -/
def R_law : String := "EvenStrideLaw"
def lw_P (b : Addr) (xs : List Int32) (args : Array Value) (s : State) : Prop := args = #[.ref b] ∧ s.IntsAt b xs ∧ xs.length ≤ 2048 ∧ (Jvm.Cond.and given_1 narrow_1).before args s = true
def lw_Q (_ : Array Value) (s : State) (o : Outcome) (t : State) : Prop := o = .returned (some (.int 1)) ∧ Framed s o t [] 600000 7302250
def lw_Z (below : List Frame) (a : Array Value) (s : State) : State → Prop := fun t => ∃ o, t.status = .running ∧ Ended t below o ∧ lw_Q a s o t
/-- the law's own end, with 1 on the stack, nothing written that was there before, its room as the claim has it -/
theorem lw_ret {p : Program} {l : Launch} {e : Env} {s : State} {m : MethodId} {below : List Frame} {meth : Method} {c : Code} {b : Nat} (hx : p.tables.exec = Jvm.exec) (hb : c.code = code) (hr : meth.sig.returnType = ret) (hlocks : meth.locks = false) {pc : Nat} {H : Heap} {ls : Array Slot} (hdg : decode code pc = .ok (.ireturn, 1)) : W p l e room_1 s m #[Value.ref b] below meth c H [] 600000 7302250 (lw_Z below #[Value.ref b] s) (F0 m pc ls [.int 1]) := by
  intro T hT X
  obtain ⟨fs, hret, hrun, hended, hW, hframe⟩ := X.leave (v := some (.int 1)) (hlocks := hlocks) (fun h => by rw [hr] at h; cases h)
  have hmeth' : T.vm.method? m = some meth := X.method'
  refine ⟨T.setFrames fs, ?_, .returned (some (.int 1)), hrun, hended, rfl, ⟨_, rfl⟩, hW, hframe⟩
  jvm_step X.here [X.here.top, hx, hb, hdg, hmeth', hr, ret, narrow_b1]
  (try refine ⟨rfl, ?_⟩); (try refine ⟨rfl, ?_⟩)
  first | (intro acts; rw [hret _ acts rfl rfl rfl]) | rw [hret _ _ rfl rfl rfl]
  exact Steps.refl _
/-- what holds at the law's entry: the machine, the code, the tables' words (any of lw_tbl by 'hts w (by decide +kernel)'), the script of L ints xs at the cell b, what the Statement gives of the start (any of its parts by flat_of_before) -/
def lw_At (p : Program) (s : State) (m : MethodId) (meth : Method) (c : Code) (b L : Nat) (xs : Nat → Int32) : Prop :=
  p.tables.exec = Jvm.exec ∧ c.code = code ∧ meth.sig.returnType = ret ∧ c.maxLocals = 4 ∧ s.vm.findClass R_law = some m.cls ∧ (∀ w ∈ lw_tbl, w.before #[Value.ref b] s = true) ∧ va_X b L xs s s.heap ∧ b < s.heap.size ∧ meth.locks = false ∧ (Jvm.Cond.and given_1 narrow_1).before #[Value.ref b] s = true
section LOOP
variable {p : Program} {l : Launch} {e : Env} {s : State} {m : MethodId} {below : List Frame} {meth : Method} {c : Code} {g : Geo} {C0 S0 : Nat} {b L : Nat} {xs : Nat → Int32}
set_option maxHeartbeats 4000000 in
set_option maxRecDepth 100000 in
theorem law_loop (X : LX g p s m #[Value.ref b] meth c b L xs C0 S0) (hgA : ∀ q, gA g q → s.heap.size ≤ q) (hC : C0 ≤ 600000) (hS0 : S0 ≤ 7302250) : ∀ (k i : Nat) (I : MI) (J : MJ) (ls : Array Slot), L < i + 4 * k + 4 → i ≤ L → Inv I J → lv_has ls 4 [(3, .int (nI i)), (2, .ref (gad g 8 0)), (1, .ref (gad g 7 0)), (0, .ref b)] → WL p l e s m #[Value.ref b] below meth c (lw_Z below #[Value.ref b] s) g C0 S0 I J (F0 m 18 ls []) := by
  obtain ⟨C, hX, hbl, hbA, hL, -, -⟩ := id X
  have done : ∀ (I : MI) (J : MJ) (ls : Array Slot), WL p l e s m #[Value.ref b] below meth c (lw_Z below #[Value.ref b] s) g C0 S0 I J (F0 m 1037 ls []) := fun I J ls H locs hP hS =>
    lv_iconst (v := 1) C.1 C.2.1 dL_law_1037 (by decide) (va_forget (fun q hq => hgA _ (hS.2.2 q hq)) (W.widen hC hS0 (lw_ret C.1 C.2.1 C.2.2.2.2.2.2.2.2.2 C.2.2.2.2.2.2.2.2.1 dL_law_1038)))
  have head : ∀ (i : Nat) (I : MI) (J : MJ) (ls : Array Slot), i ≤ L → lv_has ls 4 [(3, .int (nI i)), (2, .ref (gad g 8 0)), (1, .ref (gad g 7 0)), (0, .ref b)] → (i + 4 ≤ L → WL p l e s m #[Value.ref b] below meth c (lw_Z below #[Value.ref b] s) g C0 S0 I J (F0 m 26 ls [])) → WL p l e s m #[Value.ref b] below meth c (lw_Z below #[Value.ref b] s) g C0 S0 I J (F0 m 18 ls []) := by
    intro i I J ls hi hl kf H locs hP hS
    refine lv_iload_n C.1 C.2.1 dL_law_18 rfl (lv_at hl 0 rfl) ?_
    refine lv_aload_n C.1 C.2.1 dL_law_19 rfl (lv_at hl 3 rfl) ?_
    refine va_slen C.1 C.2.1 hX hbl hbA hS dL_law_20 ?_
    refine lv_iconst (v := 4) C.1 C.2.1 dL_law_21 (by decide) ?_
    refine lv_isub C.1 C.2.1 dL_law_22 ?_
    have el : Int32.ofNat L - 4 < nI i ↔ L < i + 4 := by
      show nI L - 4 < nI i ↔ L < i + 4
      rw [iz_nI, iz_nI, zl4, iz_sub, iz_lt (by omega) (by omega) (by omega) (by omega)]
      omega
    refine lv_icmp_gt (tgt := 1037) C.1 C.2.1 dL_law_23 (by decide) (fun _ => done I J ls H locs hP hS) (fun q => kf ?_ H locs hP hS)
    rw [el] at q
    omega
  intro k
  induction k with
  | zero =>
    intro i I J ls h1 h2 hI hl
    exact head i I J ls h2 hl (fun h => absurd h (by omega))
  | succ k ih =>
    intro i I J ls h1 h2 hI hl
    refine head i I J ls h2 hl (fun h4 => ?_)
    have next : ∀ (I1 : MI) (J1 : MJ), Inv I1 J1 → WL p l e s m #[Value.ref b] below meth c (lw_Z below #[Value.ref b] s) g C0 S0 I1 J1 (F0 m 1031 ls []) := by
      intro I1 J1 hI1 H locs hP hS
      refine lv_iinc (v := nI (i + 4)) (lv' := [(3, .int (nI (i + 4))), (2, .ref (gad g 8 0)), (1, .ref (gad g 7 0)), (0, .ref b)]) C.1 C.2.1 dL_law_1031 hl (k := 0) rfl (nI_add i 4) (by decide) rfl (fun ls hl => ?_)
      exact lv_goto (tgt := 18) C.1 C.2.1 dL_law_1034 (by decide) (ih (i + 4) I1 J1 ls (by omega) h4 hI1 hl H locs hP hS)
    refine l_p (fun _ _ k => lv_aload_n C.1 C.2.1 dL_law_26 rfl (lv_at hl 3 rfl) k) ?_
    refine l_p (fun _ _ k => lv_iload_n C.1 C.2.1 dL_law_27 rfl (lv_at hl 0 rfl) k) ?_
    intro H locs hP hS
    refine va_sld C.1 C.2.1 hX hbl hbA hS (vp_in_nI (by omega) (by omega)) dL_law_28 ?_
    revert H locs hP hS
    show WL p l e s m #[Value.ref b] below meth c (lw_Z below #[Value.ref b] s) g C0 S0 I J (F0 m 29 ls [.int (xs (nI i).toNatClampNeg)])
    generalize xs (nI i).toNatClampNeg = x
    refine l_p (fun _ _ k => lv_bipush (v := 31) C.1 C.2.1 dL_law_29 (by decide) k) ?_
    refine l_p (fun _ _ k => lv_iand C.1 C.2.1 dL_law_31 k) ?_
    obtain ⟨j, hj, ej⟩ := pk_andE x (m := 31) 5 (by decide)
    rw [ej]
    have hj' : j < 32 := hj
    rcases (show j = 0 ∨ j = 1 ∨ j = 2 ∨ j = 3 ∨ j = 4 ∨ j = 5 ∨ j = 6 ∨ j = 7 ∨ j = 8 ∨ j = 9 ∨ j = 10 ∨ j = 11 ∨ j = 12 ∨ j = 13 ∨ j = 14 ∨ j = 15 ∨ j = 16 ∨ j = 17 ∨ j = 18 ∨ j = 19 ∨ j = 20 ∨ j = 21 ∨ j = 22 ∨ j = 23 ∨ j = 24 ∨ j = 25 ∨ j = 26 ∨ j = 27 ∨ j = 28 ∨ j = 29 ∨ j = 30 ∨ j = 31 by omega) with rfl | rfl | rfl | rfl | rfl | rfl | rfl | rfl | rfl | rfl | rfl | rfl | rfl | rfl | rfl | rfl | rfl | rfl | rfl | rfl | rfl | rfl | rfl | rfl | rfl | rfl | rfl | rfl | rfl | rfl | rfl | rfl
    · exact l_p (fun _ _ k => lv_tableIn (off := 124) (tgt := 156) C.1 C.2.1 dL_law_32 (by decide) (by decide) (by decide) (by decide) k) (lc_0 X h4 hl hI next)
    · exact l_p (fun _ _ k => lv_tableIn (off := 147) (tgt := 179) C.1 C.2.1 dL_law_32 (by decide) (by decide) (by decide) (by decide) k) (lc_1 X h4 hl hI next)
    · exact l_p (fun _ _ k => lv_tableIn (off := 190) (tgt := 222) C.1 C.2.1 dL_law_32 (by decide) (by decide) (by decide) (by decide) k) (lc_2 X h4 hl hI next)
    · exact l_p (fun _ _ k => lv_tableIn (off := 223) (tgt := 255) C.1 C.2.1 dL_law_32 (by decide) (by decide) (by decide) (by decide) k) (lc_3 X h4 hl hI next)
    · exact l_p (fun _ _ k => lv_tableIn (off := 256) (tgt := 288) C.1 C.2.1 dL_law_32 (by decide) (by decide) (by decide) (by decide) k) (lc_4 X h4 hl hI next)
    · exact l_p (fun _ _ k => lv_tableIn (off := 289) (tgt := 321) C.1 C.2.1 dL_law_32 (by decide) (by decide) (by decide) (by decide) k) (lc_5 X h4 hl hI next)
    · exact l_p (fun _ _ k => lv_tableIn (off := 312) (tgt := 344) C.1 C.2.1 dL_law_32 (by decide) (by decide) (by decide) (by decide) k) (lc_6 X h4 hl hI next)
    · exact l_p (fun _ _ k => lv_tableIn (off := 375) (tgt := 407) C.1 C.2.1 dL_law_32 (by decide) (by decide) (by decide) (by decide) k) (lc_7 X h4 hl hI next)
    · exact l_p (fun _ _ k => lv_tableIn (off := 388) (tgt := 420) C.1 C.2.1 dL_law_32 (by decide) (by decide) (by decide) (by decide) k) (lc_8 X h4 hl hI next)
    · exact l_p (fun _ _ k => lv_tableIn (off := 401) (tgt := 433) C.1 C.2.1 dL_law_32 (by decide) (by decide) (by decide) (by decide) k) (lc_9 X h4 hl hI next)
    · exact l_p (fun _ _ k => lv_tableIn (off := 424) (tgt := 456) C.1 C.2.1 dL_law_32 (by decide) (by decide) (by decide) (by decide) k) (lc_10 X h4 hl hI next)
    · exact l_p (fun _ _ k => lv_tableIn (off := 457) (tgt := 489) C.1 C.2.1 dL_law_32 (by decide) (by decide) (by decide) (by decide) k) (lc_11 X h4 hl hI next)
    · exact l_p (fun _ _ k => lv_tableIn (off := 490) (tgt := 522) C.1 C.2.1 dL_law_32 (by decide) (by decide) (by decide) (by decide) k) (lc_12 X h4 hl hI next)
    · exact l_p (fun _ _ k => lv_tableIn (off := 523) (tgt := 555) C.1 C.2.1 dL_law_32 (by decide) (by decide) (by decide) (by decide) k) (lc_13 X h4 hl hI next)
    · exact l_p (fun _ _ k => lv_tableIn (off := 567) (tgt := 599) C.1 C.2.1 dL_law_32 (by decide) (by decide) (by decide) (by decide) k) (lc_14 X h4 hl hI next)
    · exact l_p (fun _ _ k => lv_tableIn (off := 601) (tgt := 633) C.1 C.2.1 dL_law_32 (by decide) (by decide) (by decide) (by decide) k) (lc_15 X h4 hl hI next)
    · exact l_p (fun _ _ k => lv_tableIn (off := 645) (tgt := 677) C.1 C.2.1 dL_law_32 (by decide) (by decide) (by decide) (by decide) k) (lc_16 X h4 hl hI next)
    · exact l_p (fun _ _ k => lv_tableIn (off := 688) (tgt := 720) C.1 C.2.1 dL_law_32 (by decide) (by decide) (by decide) (by decide) k) (lc_17 X h4 hl hI next)
    · exact l_p (fun _ _ k => lv_tableIn (off := 731) (tgt := 763) C.1 C.2.1 dL_law_32 (by decide) (by decide) (by decide) (by decide) k) (lc_18 X h4 hl hI next)
    · exact l_p (fun _ _ k => lv_tableIn (off := 774) (tgt := 806) C.1 C.2.1 dL_law_32 (by decide) (by decide) (by decide) (by decide) k) (lc_19 X h4 hl hI next)
    · exact l_p (fun _ _ k => lv_tableIn (off := 817) (tgt := 849) C.1 C.2.1 dL_law_32 (by decide) (by decide) (by decide) (by decide) k) (lc_20 X h4 hl hI next)
    · exact l_p (fun _ _ k => lv_tableIn (off := 850) (tgt := 882) C.1 C.2.1 dL_law_32 (by decide) (by decide) (by decide) (by decide) k) (lc_21 X h4 hl hI next)
    · exact l_p (fun _ _ k => lv_tableIn (off := 883) (tgt := 915) C.1 C.2.1 dL_law_32 (by decide) (by decide) (by decide) (by decide) k) (lc_22 X h4 hl hI next)
    · exact l_p (fun _ _ k => lv_tableIn (off := 916) (tgt := 948) C.1 C.2.1 dL_law_32 (by decide) (by decide) (by decide) (by decide) k) (lc_23 X h4 hl hI next)
    · exact l_p (fun _ _ k => lv_tableIn (off := 939) (tgt := 971) C.1 C.2.1 dL_law_32 (by decide) (by decide) (by decide) (by decide) k) (lc_24 X h4 hl hI next)
    · exact l_p (fun _ _ k => lv_tableIn (off := 962) (tgt := 994) C.1 C.2.1 dL_law_32 (by decide) (by decide) (by decide) (by decide) k) (lc_25 X h4 hl hI next)
    · exact l_p (fun _ _ k => lv_tableIn (off := 985) (tgt := 1017) C.1 C.2.1 dL_law_32 (by decide) (by decide) (by decide) (by decide) k) (lc_26 X h4 hl hI next)
    · exact l_p (fun _ _ k => lv_tableOut (tgt := 1031) C.1 C.2.1 dL_law_32 (Or.inr (by decide)) (by decide) k) (next I J hI)
    · exact l_p (fun _ _ k => lv_tableOut (tgt := 1031) C.1 C.2.1 dL_law_32 (Or.inr (by decide)) (by decide) k) (next I J hI)
    · exact l_p (fun _ _ k => lv_tableOut (tgt := 1031) C.1 C.2.1 dL_law_32 (Or.inr (by decide)) (by decide) k) (next I J hI)
    · exact l_p (fun _ _ k => lv_tableOut (tgt := 1031) C.1 C.2.1 dL_law_32 (Or.inr (by decide)) (by decide) k) (next I J hI)
    · exact l_p (fun _ _ k => lv_tableOut (tgt := 1031) C.1 C.2.1 dL_law_32 (Or.inr (by decide)) (by decide) k) (next I J hI)
end LOOP
