section ZS
variable {p : Program} {l : Launch} {e : Env} {R : Room} {s : State} {m : MethodId} {args : Array Value} {below : List Frame} {meth : Method} {c : Code} {Q : State → Prop} {g : Geo} {cc : ByteArray} {nL0 : Nat} {own : String} {pc : Nat} {ls : Array Slot} {rest : List Value} {A : Nat → Prop} {ws : va_W} {cells slots : Nat}
theorem z_gets {index : Nat} (Z : Zx g p s m args meth c cc nL0 own A) (hlink : Cond.fieldLink own index (stC 0) (stN 0) "[I" ∈ wG) (hdg : decode cc pc = .ok (.getstatic index, 3)) (kk : Wz p l e R s m args below meth c Q g A ws cells slots (F0 m (pc + 3) ls (.ref (gs g 0) :: rest))) : Wz p l e R s m args below meth c Q g A ws cells slots (F0 m pc ls rest) := fun H locs hP hD hS => by
  obtain ⟨hx, hb, hml, hown, hts, hX, hst, hA, -, -⟩ := Z
  exact va_gets hx hb hst.1 hS hown (hts _ hlink) (fun _ h => h) hdg (kk H locs hP hD hS)
theorem z_cpS {a n1 index : Nat} {f : Nat → Int32} (Z : Zx g p s m args meth c cc nL0 own A) (hls : ls.size = nL0) (hlink : Cond.methodLink own index arraycopyName ∈ wG) (j : Nat) (ha1 : ws[j]? = some (a, .inl (gc g 0, n1, .inl f))) (hn1 : 6 ≤ n1) (hR : 1 ≤ R.frames ∧ 60 ≤ R.locals) (hdg : decode cc pc = .ok (.invokestatic index, 3)) {ws' : va_W} (hw : ws.set j (a, .inl (gc g 0, n1, .inl (va_cpy (stV 0) f 0 0 6))) = ws') (kk : Wz p l e R s m args below meth c Q g A ws' cells slots (F0 m (pc + 3) ls [])) : Wz p l e R s m args below meth c Q g A ws cells slots (F0 m pc ls [.int 6, .int 0, .ref a, .int 0, .ref (gs g 0)]) := fun H locs hP hD hS => by
  obtain ⟨hx, hb, hml, hown, hts, hX, hst, hA, -, -⟩ := Z
  subst hw
  intro T hT X
  obtain ⟨scr, hs1, hs2, hs3, hs4, -, hs5, hs7⟩ := hst.2
  have hbl : gs g 0 < s.heap.size := (Array.getElem?_eq_some_iff.mp hs1).1
  have hc0 : H[gs g 0]? = some scr := by rw [hS.2.1 _ hbl hs7]; exact hs1
  have hc1 : H[a]? = some (vp_cell (gc g 0) (n1, .inl f)) := hP j _ ha1
  have hs4' : (6 : Nat) ≤ scr.slots.size := hs4
  obtain ⟨hs6, k0, hk0, cm0, hkk0⟩ := hs2
  obtain ⟨-, k1, hk1, cm1, hkk1⟩ := (hX.1.1.2 0 (gc g 0, .int) rfl).1 n1 (fun j => .int (f j))
  obtain ⟨vm', X', step⟩ := X.arraycopy hx hown (hts _ hlink) (hts _ ac_n) (hts _ ac_s) (hts _ ac_i) (src := gs g 0) (dst := a) (cs := scr) (cd := vp_cell (gc g 0) (n1, .inl f)) (srcPos := 0) (destPos := 0) (n := 6) (by rw [hT]; exact hc0) (by rw [hT]; exact hc1)
    hs6 (fun _ h => by cases h) hs3 (fun h => by cases h) hk0 hk1 hkk0 hkk1 (by simp [refKind]) (by decide) (by decide) (by decide)
    (by show ¬ ((0 : Int) + 6 > (scr.slots.size : Int)); omega)
    (by show ¬ ((0 : Int) + 6 > ((arrV (gc g 0) n1 (fun j => .int (f j))).slots.size : Int)); rw [arrV_size]; omega)
    (fun vm₁ _ i hi => by
      have hi6 : i < 6 := hi
      have e : scr.slots.getD ((0 : Int32).toNatClampNeg + i) .null = .int (stV 0 i) := by
        rw [show (0 : Int32).toNatClampNeg + i = i by simp, Array.getD_eq_getD_getElem?, hs5 i hi6]
        rfl
      refine ⟨?_, ?_⟩
      · rw [e]
        rfl
      · rw [e]
        exact trivial)
    (g := F0 m pc ls [.int 6, .int 0, .ref a, .int 0, .ref (gs g 0)]) rfl (by rw [hml]; exact hls) (rest := []) rfl (by rw [hb]; exact hdg) hR.1 (Nat.le_trans (show 2 * 0 + 0 + (nativeFrameWords "java/lang/System" "arraycopy" 5 + 11) ≤ 60 from by decide +kernel) hR.2)
  have e1 : copied scr (vp_cell (gc g 0) (n1, .inl f)) 0 0 6 = vp_cell (gc g 0) (n1, .inl (va_cpy (stV 0) f 0 0 6)) := va_copiedX (fun z => .int z) scr (gc g 0) (n0 := 6) (sp := 0) (dp := 0) (n := 6) (stV 0) f hs5 (by decide)
  rw [e1] at X' step
  have hl : a < H.size := (Array.getElem?_eq_some_iff.mp hc1).1
  have hheap : ((T.setVm vm').setCell a (vp_cell (gc g 0) (n1, .inl (va_cpy (stV 0) f 0 0 6)))).heap = H.setIfInBounds a (vp_cell (gc g 0) (n1, .inl (va_cpy (stV 0) f 0 0 6))) := by rw [← hT]; rfl
  have oq : ∀ q : Nat, q ≠ a → (H.setIfInBounds a (vp_cell (gc g 0) (n1, .inl (va_cpy (stV 0) f 0 0 6))))[q]? = H[q]? := fun q hq => by simp [Array.getElem?_setIfInBounds, Ne.symm hq]
  have hat : va_at (gD g) vwCl (a, .inl (gc g 0, n1, .inl (va_cpy (stV 0) f 0 0 6))) (H.setIfInBounds a (vp_cell (gc g 0) (n1, .inl (va_cpy (stV 0) f 0 0 6)))) := by
    show (H.setIfInBounds a _)[a]? = some _
    simp [Array.getElem?_setIfInBounds, hl]
  have hP1 := hP.set hD ha1 hat oq
  have hD1 : va_D A (ws.set j (a, .inl (gc g 0, n1, .inl (va_cpy (stV 0) f 0 0 6)))) := hD.set ha1
  obtain ⟨t2, a1, b1⟩ := kk _ _ hP1 hD1 ⟨by simp; exact hS.1, fun q g1 g2 => by
      rw [oq q (fun e => g2 (by rw [e]; exact hD.2 j _ ha1))]
      exact hS.2.1 q g1 g2, fun q hq => by
      rcases List.mem_append.mp hq with h | h
      · exact hS.2.2 q h
      · obtain ⟨z, -, hz⟩ := List.mem_map.mp h
        rw [← hz]
        exact hD.2 j _ ha1⟩ _ hheap X'
  exact ⟨t2, step t2 a1, b1⟩
end ZS
set_option maxHeartbeats 4000000 in
set_option maxRecDepth 100000 in
theorem k_forget {g : Geo} {l : Launch} (h0 : Nat) (q1 : Nat) (f : Nat → Int32) : Kc g l yX2_forget cX2_forget 1 1 60 0 0 h0 [(h0, .inr (2, [.ref q1])), (q1, .inl (gc g 0, 6, .inl f))] (fun w => w = [(h0, .inr (2, [.ref q1])), (q1, .inl (gc g 0, 6, .inl (va_cpy (stV 0) f 0 0 6)))]) := by
  refine Kc.of (by decide) ?_
  intro p e s m below meth c A Qc Z hnm hQ
  have hl := lv_entry ([.ref h0]) (n := 1) (Nat.le_of_ble_eq_true rfl)
  rw [lg_entry_eq]
  generalize (lg_sl ([.ref h0]) ++ List.replicate (1 - (lg_sl ([.ref h0])).length) Slot.unset).toArray = ls at hl ⊢
  have hl : lv_has ls 1 [(0, .ref h0)] := hl
  refine z_gets Z (wG_t (i := 128) (by decide +kernel) (by decide +kernel)) dX2_forget_0 ?_
  refine z_p (fun _ _ k => lv_iconst (v := 0) Z.1 Z.2.1 dX2_forget_3 (by decide) k) ?_
  refine z_p (fun _ _ k => lv_aload_n Z.1 Z.2.1 dX2_forget_4 rfl (lv_at hl 0 rfl) k) ?_
  refine z_get (C := RX2) (T := TX2) (N := 1) (ci := 2) (v := .ref q1) Z uw_2 0 rfl rfl 0 (by decide) (wG_t (i := 133) (by decide +kernel) (by decide +kernel)) rfl rfl dX2_forget_5 ?_
  refine z_p (fun _ _ k => lv_iconst (v := 0) Z.1 Z.2.1 dX2_forget_8 (by decide) k) ?_
  refine z_p (fun _ _ k => lv_bipush (v := 6) Z.1 Z.2.1 dX2_forget_9 (by decide) k) ?_
  refine z_cpS (ws' := [(h0, .inr (2, [.ref q1])), (q1, .inl (gc g 0, 6, .inl (va_cpy (stV 0) f 0 0 6)))]) Z hl.1 kw_RX2_21 1 rfl (by decide) ⟨Nat.le_of_ble_eq_true rfl, Nat.le_of_ble_eq_true rfl⟩ dX2_forget_11 rfl ?_
  exact z_ret Z hQ rfl dX2_forget_14
set_option maxHeartbeats 4000000 in
set_option maxRecDepth 100000 in
theorem k_X2 {g : Geo} {l : Launch} (h0 : Nat) : Kc g l yX2_init cX2_init 1 2 80 1 6 h0 [(h0, .inr (2, [.null]))] (fun w => ∃ q1 : Nat, w = [(h0, .inr (2, [.ref q1])), (q1, .inl (gc g 0, 6, .inl (va_cpy (stV 0) (fun _ => 0) 0 0 6)))]) := by
  refine Kc.of (by decide) ?_
  intro p e s m below meth c A Qc Z hnm hQ
  have hl := lv_entry ([.ref h0]) (n := 1) (Nat.le_of_ble_eq_true rfl)
  rw [lg_entry_eq]
  generalize (lg_sl ([.ref h0]) ++ List.replicate (1 - (lg_sl ([.ref h0])).length) Slot.unset).toArray = ls at hl ⊢
  have hl : lv_has ls 1 [(0, .ref h0)] := hl
  refine z_p (fun _ _ k => lv_aload_n Z.1 Z.2.1 dX2_init_0 rfl (lv_at hl 0 rfl) k) ?_
  refine z_obj Z oil_2 oi_i oi_c hl.1 dX2_init_1 (Nat.le_of_ble_eq_true rfl) (Nat.le_of_ble_eq_true rfl) ?_
  refine z_p (fun _ _ k => lv_aload_n Z.1 Z.2.1 dX2_init_4 rfl (lv_at hl 0 rfl) k) ?_
  refine z_p (fun _ _ k => lv_bipush (v := 6) Z.1 Z.2.1 dX2_init_5 (by decide) k) ?_
  refine z_newI (N := 6) Z aci (by decide) (by decide) (by decide) (Nat.le_of_ble_eq_true rfl) (Nat.le_of_ble_eq_true rfl) dX2_init_7 [(h0, .inr (2, [.null]))] [] (fun q1 => ?_)
  refine z_eq (ws' := [(h0, .inr (2, [.null])), (q1, .inl (gc g 0, 6, .inl (fun _ => 0)))]) rfl ?_
  refine z_putF (C := RX2) (T := TX2) (N := 1) (ci := 2) (ws' := [(h0, .inr (2, [.ref q1])), (q1, .inl (gc g 0, 6, .inl (fun _ => 0)))]) Z uw_2 tyX2 tyX2_ok nmX2 0 rfl rfl 0 (by decide) (wG_t (i := 133) (by decide +kernel) (by decide +kernel)) rfl hnm rfl (tyX2_ok 0 (by decide)) rfl rfl (Nat.le_of_ble_eq_true rfl) dX2_init_9 rfl ?_
  refine z_p (fun _ _ k => lv_aload_n Z.1 Z.2.1 dX2_init_12 rfl (lv_at hl 0 rfl) k) ?_
  refine z_callV (ci := 2) (T0 := TX2) (N := 1) (fs := [.ref q1]) Z (k_forget h0 q1 (fun _ => 0)) ok_X2_forget im_X2_forget se_X2_forget kw_RX2_15 rfl rfl ⟨Nat.le_of_ble_eq_true rfl, Nat.le_of_ble_eq_true rfl⟩ hl.1 (by decide) dX2_init_13 ⟨Nat.le_of_ble_eq_true rfl, Nat.le_of_ble_eq_true rfl⟩ [] [] (fun w1 hw1 => ?_)
  subst hw1
  refine z_wd (k := 1) (n := 6) (Nat.le_of_ble_eq_true rfl) (Nat.le_of_ble_eq_true rfl) ?_
  exact z_ret Z hQ ⟨q1, rfl⟩ dX2_init_16
