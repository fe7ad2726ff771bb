section FM
variable {p : Program} {l : Launch} {e : Env} {R : Room} {s : State} {m : MethodId} {args : Array Value} {below : List Frame} {meth : Method} {c : Code} {Q : State → Prop} {g : Geo} {cc : ByteArray} {nL0 : Nat} {own : String} {ret : Option FieldType} {pc : Nat} {ls : Array Slot} {rest : List Value} {I : MI} {J : MJ} {t r n k : Nat} {i x : Int32}
theorem vin_k {i : Int32} {n : Nat} (h : ¬ (i < 0 ∨ n ≤ i.toNatClampNeg)) : vp_in i n := h
theorem al_k (C : Cx g p s m args meth c cc nL0 own ret) (hr : r < cnt t) (hc : cel g I J t r = .inl (gc g 0, n, .inl (I t r))) (hi : i.toNatClampNeg = k) (hin : vp_in i n) (hdg : decode cc pc = .ok (.iaload, 1)) (kk : Wf p l e R s m args below meth c Q g I J (F0 m (pc + 1) ls (.int (I t r k) :: rest))) : Wf p l e R s m args below meth c Q g I J (F0 m pc ls (.int i :: .ref (gad g t r) :: rest)) := by
  subst hi
  exact f_iald C hr hc hin hdg kk
theorem al_kZ (C : Cx g p s m args meth c cc nL0 own ret) (hr : r < cnt t) (hc : cel g I J t r = .inl (gc g 2, n, .inl (I t r))) (hi : i.toNatClampNeg = k) (hin : vp_in i n) (hdg : decode cc pc = .ok (.baload, 1)) (kk : Wf p l e R s m args below meth c Q g I J (F0 m (pc + 1) ls (.int (I t r k) :: rest))) : Wf p l e R s m args below meth c Q g I J (F0 m pc ls (.int i :: .ref (gad g t r) :: rest)) := by
  subst hi
  exact f_zald C hr hc hin hdg kk
theorem al_kL (C : Cx g p s m args meth c cc nL0 own ret) (hr : r < cnt t) (hc : cel g I J t r = .inl (gc g 1, n, .inr (.inl (J t r)))) (hi : i.toNatClampNeg = k) (hin : vp_in i n) (hdg : decode cc pc = .ok (.laload, 1)) (kk : Wf p l e R s m args below meth c Q g I J (F0 m (pc + 1) ls (.long (J t r k) :: rest))) : Wf p l e R s m args below meth c Q g I J (F0 m pc ls (.int i :: .ref (gad g t r) :: rest)) := by
  subst hi
  exact f_lald C hr hc hin hdg kk
theorem as_k (C : Cx g p s m args meth c cc nL0 own ret) (hr : r < cnt t) (hc : ∀ I' : MI, cel g I' J t r = .inl (gc g 0, n, .inl (I' t r))) (hi : i.toNatClampNeg = k) (hin : vp_in i n) (hdg : decode cc pc = .ok (.iastore, 1)) (kk : Wf p l e R s m args below meth c Q g (up3 I t r k x) J (F0 m (pc + 1) ls rest)) : Wf p l e R s m args below meth c Q g I J (F0 m pc ls (.int x :: .int i :: .ref (gad g t r) :: rest)) := by
  subst hi
  exact f_iast C hr hc hin hdg kk
theorem as_kZ (C : Cx g p s m args meth c cc nL0 own ret) (hr : r < cnt t) (hc : ∀ I' : MI, cel g I' J t r = .inl (gc g 2, n, .inl (I' t r))) (hi : i.toNatClampNeg = k) (hin : vp_in i n) (hx : x = 0 ∨ x = 1) (hdg : decode cc pc = .ok (.bastore, 1)) (kk : Wf p l e R s m args below meth c Q g (up3 I t r k x) J (F0 m (pc + 1) ls rest)) : Wf p l e R s m args below meth c Q g I J (F0 m pc ls (.int x :: .int i :: .ref (gad g t r) :: rest)) := by
  subst hi
  exact f_zast C hr hc hin (by rcases hx with rfl | rfl <;> decide +kernel) hdg kk
theorem as_kL {x : Int64} (C : Cx g p s m args meth c cc nL0 own ret) (hr : r < cnt t) (hc : ∀ J' : MJ, cel g I J' t r = .inl (gc g 1, n, .inr (.inl (J' t r)))) (hi : i.toNatClampNeg = k) (hin : vp_in i n) (hdg : decode cc pc = .ok (.lastore, 1)) (kk : Wf p l e R s m args below meth c Q g I (up3L J t r k x) (F0 m (pc + 1) ls rest)) : Wf p l e R s m args below meth c Q g I J (F0 m pc ls (.long x :: .int i :: .ref (gad g t r) :: rest)) := by
  subst hi
  exact f_last C hr hc hin hdg kk
theorem st_k (q : Nat) (hq : q < 6) (C : Cx g p s m args meth c cc nL0 own ret) (hi : i.toNatClampNeg = k) (hin : vp_in i (stL q)) (hdg : decode cc pc = .ok (.iaload, 1)) (kk : Wf p l e R s m args below meth c Q g I J (F0 m (pc + 1) ls (.int (stV q k) :: rest))) : Wf p l e R s m args below meth c Q g I J (F0 m pc ls (.int i :: .ref (gs g q) :: rest)) := by
  subst hi
  exact f_ialdS q hq C hin hdg kk
theorem ge_by (hy : ¬ I 5 0 7 = 0) (C : Cx g p s m args meth c cc nL0 RX5 ret) (hdg : decode cc pc = .ok (.getfield 35, 3)) (kk : Wf p l e R s m args below meth c Q g I J (F0 m (pc + 3) ls (.ref (gad g 2 0) :: rest))) : Wf p l e R s m args below meth c Q g I J (F0 m pc ls (.ref (gad g 5 0) :: rest)) := by
  refine ge_RX5_35 C (by decide) hdg ?_
  rw [if_neg hy]
  exact kk
theorem f_ifnnBy {x : Int32} {a tgt : Nat} {off : Int} (C : Cx g p s m args meth c cc nL0 own ret) (hdg : decode cc pc = .ok (.ifnonnull off, 3)) (ht : (pc : Int) + off = (tgt : Int)) (kt : ¬ x = 0 → Wf p l e R s m args below meth c Q g I J (F0 m tgt ls rest)) (kf : x = 0 → Wf p l e R s m args below meth c Q g I J (F0 m (pc + 3) ls rest)) : Wf p l e R s m args below meth c Q g I J (F0 m pc ls (va_rf (if x = 0 then none else some a) :: rest)) := by
  by_cases h : x = 0
  · rw [if_pos h]
    exact f_ifnonnullN C hdg (kf h)
  · rw [if_neg h]
    exact f_ifnonnull C hdg ht (kt h)
theorem pu_by (C : Cx g p s m args meth c cc nL0 RX5 ret) (hdg : decode cc pc = .ok (.putfield 35, 3)) (kk : Wf p l e R s m args below meth c Q g (up3 I 5 0 7 1) J (F0 m (pc + 3) ls rest)) : Wf p l e R s m args below meth c Q g I J (F0 m pc ls (.ref (gad g 2 0) :: .ref (gad g 5 0) :: rest)) := fun H locs hP hS => by
  obtain ⟨j, hj⟩ := wl_at (t := 5) (r := 0) (by decide)
  refine va_put (C := RX5) (T := TX5) (N := 8) (ref := "EvenStride$Stable") (ty := .object "EvenStride$Rule") (ci := 5) (fs := [.ref (gad g 17 0), .ref (gad g 18 0), .int (I 5 0 2), .int (I 5 0 3), .int (I 5 0 4), .int (I 5 0 5), .int (I 5 0 6), va_rf (if I 5 0 7 = 0 then none else some (gad g 2 0))]) C.1 C.2.1 C.2.2.2.2.1 uw_5 tyX5 tyX5_ok nmX5 C.2.2.2.1 C.2.2.2.2.2.1.1 hP (C.2.2.2.2.2.2.2.1.D I J) hS j (by rw [wl_get hj]; rfl) rfl 7 (by decide) (C.2.2.2.2.1 (Cond.fieldLink RX5 35 "EvenStride$Stable" "by" "LEvenStride$Rule;") (wG_t (i := 183) (by decide +kernel) (by decide +kernel))) (fun _ h => h) rfl (by decide +kernel) rfl rfl (by simp) hdg (fun H1 locs1 hP1 hD1 hS1 => kk H1 locs1 ?_ hS1)
  rw [wl_setI (j := 7) (v := 1) hj (by simp [cel, up3, va_rf])] at hP1
  exact hP1
theorem cp_k {t0 r0 n0 n1 index sp' dp' n' F Lo : Nat} {sp dp n : Int32} (C : Cx g p s m args meth c cc nL0 own ret) (hml : ls.size = nL0) (hlink : Cond.methodLink own index arraycopyName ∈ wG) (hr0 : r0 < cnt t0) (hr : r < cnt t) (hc0 : cel g I J t0 r0 = .inl (gc g 0, n0, .inl (I t0 r0))) (hc : ∀ I' : MI, cel g I' J t r = .inl (gc g 0, n1, .inl (I' t r)))
    (h1 : ¬ sp < 0) (h2 : ¬ dp < 0) (h3 : ¬ n < 0) (e1 : sp.toNatClampNeg = sp') (e2 : dp.toNatClampNeg = dp') (e3 : n.toNatClampNeg = n') (h4 : sp' + n' ≤ n0) (h5 : dp' + n' ≤ n1) (hR : F ≤ R.frames ∧ Lo ≤ R.locals) (hF : 1 ≤ F ∧ 60 ≤ Lo) (hdg : decode cc pc = .ok (.invokestatic index, 3)) (kk : Wf p l e R s m args below meth c Q g (row3 I t r (va_cpy (I t0 r0) (I t r) sp' dp' n')) J (F0 m (pc + 3) ls [])) : Wf p l e R s m args below meth c Q g I J (F0 m pc ls [.int n, .int dp, .ref (gad g t r), .int sp, .ref (gad g t0 r0)]) := by
  subst e1; subst e2; subst e3
  exact f_copy (rest := []) C hml hlink hr0 hr hc0 hc h1 h2 h3 h4 h5 ac_n ac_s ac_i (Nat.le_trans hF.1 hR.1) (Nat.le_trans (Nat.le_trans (by decide +kernel) hF.2) hR.2) hdg kk
theorem cp_s {n1 index F Lo : Nat} (C : Cx g p s m args meth c cc nL0 own ret) (hml : ls.size = nL0) (hlink : Cond.methodLink own index arraycopyName ∈ wG) (hr : r < cnt t) (hc : ∀ I' : MI, cel g I' J t r = .inl (gc g 0, n1, .inl (I' t r))) (hn1 : 6 ≤ n1) (hR : F ≤ R.frames ∧ Lo ≤ R.locals) (hF : 1 ≤ F ∧ 60 ≤ Lo) (hdg : decode cc pc = .ok (.invokestatic index, 3)) (kk : Wf p l e R s m args below meth c Q g (row3 I t r (va_cpy (stV 0) (I t r) 0 0 6)) J (F0 m (pc + 3) ls [])) : Wf p l e R s m args below meth c Q g I J (F0 m pc ls [.int 6, .int 0, .ref (gad g t r), .int 0, .ref (gs g 0)]) := fun H locs hP hS => by
  intro T hT X
  obtain ⟨j, hj⟩ := wl_at hr
  have ha1 : (wl g I J)[j]? = some (gad g t r, .inl (gc g 0, n1, .inl (I t r))) := by rw [wl_get hj, hc]
  have hD := C.2.2.2.2.2.2.2.1.D I J
  obtain ⟨scr, hs1, hs2, hs3, hs4, -, hs5, hs7⟩ := (C.2.2.2.2.2.2.1 0 (by decide)).2
  have hbl : gs g 0 < s.heap.size := (Array.getElem?_eq_some_iff.mp hs1).1
  have hc0 : H[gs g 0]? = some scr := by rw [hS.2.1 _ hbl hs7]; exact hs1
  have hc1 : H[gad g t r]? = some (vp_cell (gc g 0) (n1, .inl (I t r))) := hP j _ ha1
  have hs4' : (6 : Nat) ≤ scr.slots.size := hs4
  obtain ⟨hs6, k0, hk0, cm0, hkk0⟩ := hs2
  obtain ⟨-, k1, hk1, cm1, hkk1⟩ := (C.2.2.2.2.2.1.1.2 0 (gc g 0, .int) rfl).1 n1 (fun j => .int (I t r j))
  obtain ⟨vm', X', step⟩ := X.arraycopy C.1 C.2.2.2.1 (C.2.2.2.2.1 _ hlink) (C.2.2.2.2.1 _ ac_n) (C.2.2.2.2.1 _ ac_s) (C.2.2.2.2.1 _ ac_i) (src := gs g 0) (dst := gad g t r) (cs := scr) (cd := vp_cell (gc g 0) (n1, .inl (I t r))) (srcPos := 0) (destPos := 0) (n := 6) (by rw [hT]; exact hc0) (by rw [hT]; exact hc1)
    hs6 (fun _ h => by cases h) hs3 (fun h => by cases h) hk0 hk1 hkk0 hkk1 (by simp [refKind]) (by decide) (by decide) (by decide)
    (by show ¬ ((0 : Int) + 6 > (scr.slots.size : Int)); omega)
    (by show ¬ ((0 : Int) + 6 > ((arrV (gc g 0) n1 (fun j => .int (I t r j))).slots.size : Int)); rw [arrV_size]; omega)
    (fun vm₁ _ i hi => by
      have hi6 : i < 6 := hi
      have e : scr.slots.getD ((0 : Int32).toNatClampNeg + i) .null = .int (stV 0 i) := by
        rw [show (0 : Int32).toNatClampNeg + i = i by simp, Array.getD_eq_getD_getElem?, hs5 i hi6]
        rfl
      refine ⟨?_, ?_⟩
      · rw [e]
        rfl
      · rw [e]
        exact trivial)
    (g := F0 m pc ls [.int 6, .int 0, .ref (gad g t r), .int 0, .ref (gs g 0)]) rfl (by rw [C.2.2.1]; exact hml) (rest := []) rfl (by rw [C.2.1]; exact hdg) (Nat.le_trans hF.1 hR.1) (Nat.le_trans (Nat.le_trans (show 2 * 0 + 0 + (nativeFrameWords "java/lang/System" "arraycopy" 5 + 11) ≤ 60 from by decide +kernel) hF.2) hR.2)
  have e1 : copied scr (vp_cell (gc g 0) (n1, .inl (I t r))) 0 0 6 = vp_cell (gc g 0) (n1, .inl (va_cpy (stV 0) (I t r) 0 0 6)) := va_copiedX (fun z => .int z) scr (gc g 0) (n0 := 6) (sp := 0) (dp := 0) (n := 6) (stV 0) (I t r) hs5 (by decide)
  rw [e1] at X' step
  have hl : gad g t r < H.size := (Array.getElem?_eq_some_iff.mp hc1).1
  have hheap : ((T.setVm vm').setCell (gad g t r) (vp_cell (gc g 0) (n1, .inl (va_cpy (stV 0) (I t r) 0 0 6)))).heap = H.setIfInBounds (gad g t r) (vp_cell (gc g 0) (n1, .inl (va_cpy (stV 0) (I t r) 0 0 6))) := by rw [← hT]; rfl
  have oq : ∀ q : Nat, q ≠ gad g t r → (H.setIfInBounds (gad g t r) (vp_cell (gc g 0) (n1, .inl (va_cpy (stV 0) (I t r) 0 0 6))))[q]? = H[q]? := fun q hq => by simp [Array.getElem?_setIfInBounds, Ne.symm hq]
  have hat : va_at (gD g) vwCl (gad g t r, .inl (gc g 0, n1, .inl (va_cpy (stV 0) (I t r) 0 0 6))) (H.setIfInBounds (gad g t r) (vp_cell (gc g 0) (n1, .inl (va_cpy (stV 0) (I t r) 0 0 6)))) := by
    show (H.setIfInBounds (gad g t r) _)[gad g t r]? = some _
    simp [Array.getElem?_setIfInBounds, hl]
  have hP1 := hP.set hD ha1 hat oq
  rw [wl_setR (f := va_cpy (stV 0) (I t r) 0 0 6) hj (by rw [hc, row3_r])] at hP1
  obtain ⟨t2, a1, b1⟩ := kk _ _ hP1 ⟨by simp; exact hS.1, fun q g1 g2 => by
      rw [oq q (fun e => g2 (by rw [e]; exact hD.2 j _ ha1))]
      exact hS.2.1 q g1 g2, fun q hq => by
      rcases List.mem_append.mp hq with h | h
      · exact hS.2.2 q h
      · obtain ⟨z, -, hz⟩ := List.mem_map.mp h
        rw [← hz]
        exact hD.2 j _ ha1⟩ _ hheap X'
  exact ⟨t2, step t2 a1, b1⟩
theorem Ct.ofF {y : MethodName} {fr lo : Nat} {av : List Value} {post : Option Value → MI → MJ → Prop} {nL : Nat} (hy : plainFor y = true)
    (body : ∀ (p : Program) (e : Env) (s : State) (m : MethodId) (below : List Frame) (meth : Method) (c : Code), Cx g p s m av.toArray meth c cc nL y.cls ret → Wf p l e (Rm fr lo) s m av.toArray below meth c (MQ below (Qg g post) av.toArray s 0 0 (gA g)) g I J (entryFrame m av.toArray nL)) : Ct g l y cc nL ret fr lo av I J post := by
  unfold Ct Met
  refine MetFree.of_bodySF (code := cc) (maxLocals := nL) (ret := ret) hy ?_ ?_
  · intro args s m h hn
    obtain ⟨meth, c, h1, h2, h3, h4, h5, h6, -, -⟩ := Cond.code_spec hn (atoms_spec (ws := Cond.code y cc nL ret :: wG) h _ List.mem_cons_self)
    exact ⟨meth, c, h1, h2, h3, h4, h5, h6⟩
  · intro p e s m args below meth c s₁ B hml hv _
    have hh0 : s₁.heap = s.heap := by rw [B.state]; rfl
    obtain ⟨rfl, hP, hK, hZ, hD⟩ := hv
    have hts := atoms_spec (ws := Cond.code y cc nL ret :: wG) B.pre
    obtain ⟨t, a1, o, b1, b2, b3⟩ := body p e s m below meth c ⟨B.exec, B.bytes, hml, findClass_of_methodNamed B.named, fun w h => hts w (List.mem_cons_of_mem _ h), hK, hZ, hD, B.notSynchronized, B.returns⟩ s.heap [] hP va_S.rf s₁ hh0 (Stand.of_body B)
    exact ⟨t, o, a1, b1, b2, ⟨b3.1, b3.2⟩⟩
end FM
