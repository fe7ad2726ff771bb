section BCK
variable {I : MI} {J : MJ}
theorem hasB0 : ∀ i, i < 8 → ¬ hasB 0 i := by
  intro i hi h
  exact h ((by decide : ∀ i, i < 8 → (((0 : Int32) >>> (nI i &&& 31)) &&& 1) = 0) i hi)
theorem pr_back (h : Inv I J) (x : Int32) : wp_X7_back (fun r I1 J1 => wp_X8_back (fun r2 I2 J2 => r = r2 ∧ Inv I2 J2) I1 J1 x) I J x := by
  have hT := h.thrown
  unfold wp_X7_back wp_X8_back
  simp only [q_within, q_in, bi_0, decide_eq_false_iff_not]
  refine two (fun c => ?_) (fun c => twn c ⟨trivial, hT⟩)
  obtain ⟨b, hb, rfl⟩ := nI_le_ex (j := 1) rfl c.1 c.2 (by decide)
  have hv : vp_in (nI b) 2 := vp_in_nI (by omega) (by decide)
  obtain ⟨i1, i2, i3⟩ := h.2.1 b (by omega)
  rw [nI_clamp (by omega), i2]
  refine ⟨hv, ?_⟩
  by_cases c0 : I 27 0 b = 0
  · refine onp c0 (twp c ⟨hv, onp ?_ ⟨trivial, hT⟩⟩)
    rw [up3_t (by decide)]; exact c0
  have c1 : I 27 0 b = 1 := i1.resolve_left c0
  have hYI := i3 c1
  obtain ⟨n, hn, en, -⟩ := id hYI
  refine onn c0 ⟨hv, s_become6 (by omega) hn en (fun I1 hY => twp c ⟨hv, onn ?_ (s_mback (by omega) (fun I2 m1 m3 => ?_))⟩)⟩
  · obtain ⟨-, -, -, -, -, bo⟩ := hY
    rw [up3_t (by decide), up3_t (by decide), bo 27 0 (by omega) (by omega)]; exact c0
  obtain ⟨b1, b2, b3, b4, b5, bo⟩ := id hY
  generalize hI3 : up3 (up3 I1 7 0 13 0) 8 0 0 0 = I3 at m1 m3
  have q3 : ∀ t r, t ≠ 6 → t ≠ 7 → t ≠ 8 → ¬ ((t = 4 ∨ t = 15 ∨ t = 16) ∧ r < 8) → I3 t r = I t r := fun t r r1 r2 r4 r3 => by rw [← hI3, up3_t r4, up3_t r2, bo t r (by omega) (by omega)]
  have q36 : ∀ r, r ≠ 0 → I3 6 r = I 6 r := fun r hr => by rw [← hI3, up3_t (by decide), up3_t (by decide), bo 6 r (by omega) (by omega)]
  have q38 : ∀ j, j ≠ 0 → I3 8 0 j = I 8 0 j := fun j hj => by rw [← hI3, up3_n (by omega), up3_t (by decide), bo 8 0 (by omega) (by omega)]
  have q3r : ∀ t r, t = 4 ∨ t = 15 ∨ t = 16 → I3 t r = I1 t r := fun t r ht => by rw [← hI3, up3_t (by omega), up3_t (by omega)]
  have z : ∀ t, t ≠ 25 → t ≠ 8 → up3 I2 8 0 14 0 t = I3 t := fun t r1 r2 => by rw [up3_t r2, m3 t r1]
  have w : ∀ t, t ≠ 25 → t ≠ 8 → t ≠ 6 → t ≠ 7 → t ≠ 4 → t ≠ 15 → t ≠ 16 → up3 I2 8 0 14 0 t = I t := fun t r1 r2 r3 r4 r5 r6 r7 => by rw [z t r1 r2]; funext r; exact q3 t r r3 r4 r2 (by omega)
  have wr : ∀ t r, (t = 4 ∨ t = 15 ∨ t = 16) → 8 ≤ r → up3 I2 8 0 14 0 t r = I t r := fun t r r1 r2 => by rw [z t (by omega) (by omega), q3 t r (by omega) (by omega) (by omega) (by omega)]
  have e25 : ∀ j, j < 171 → up3 I2 8 0 14 0 25 0 j = I 26 0 (171 * b + j) := fun j hj => by rw [up3_t (by decide), m1 j hj, q3 26 0 (by decide) (by decide) (by decide) (by omega)]
  obtain ⟨-, hi, ht, hu, hx, -, hc, hh, hj⟩ := h
  refine ⟨?_, ?_, fun b' hb' => ?_, ht.congr (w _ (by decide) (by decide) (by decide) (by decide) (by decide) (by decide) (by decide)) (w _ (by decide) (by decide) (by decide) (by decide) (by decide) (by decide) (by decide)), hu.congr (fun _ _ => by rw [w 29 (by decide) (by decide) (by decide) (by decide) (by decide) (by decide) (by decide)]) (by rw [w 13 (by decide) (by decide) (by decide) (by decide) (by decide) (by decide) (by decide)]), hx.congr (by rw [w 3 (by decide) (by decide) (by decide) (by decide) (by decide) (by decide) (by decide)]) (by rw [up3_n (by decide), m3 8 (by decide), q38 8 (by decide)]) (w _ (by decide) (by decide) (by decide) (by decide) (by decide) (by decide) (by decide)) (w _ (by decide) (by decide) (by decide) (by decide) (by decide) (by decide) (by decide)), ⟨?_, fun i hi' q => ?_⟩, hc.congr (w _ (by decide) (by decide) (by decide) (by decide) (by decide) (by decide) (by decide)) (w _ (by decide) (by decide) (by decide) (by decide) (by decide) (by decide) (by decide)) (w _ (by decide) (by decide) (by decide) (by decide) (by decide) (by decide) (by decide)), hh.congr (w _ (by decide) (by decide) (by decide) (by decide) (by decide) (by decide) (by decide)) (w _ (by decide) (by decide) (by decide) (by decide) (by decide) (by decide) (by decide)), hj⟩
  · obtain ⟨-, -, -, -, -, z5, -⟩ := hYI
    rw [up3_t (by decide), b3, m1 170 (by decide), q3 26 0 (by decide) (by decide) (by decide) (by omega)]
    exact z5.symm
  · refine hYI.move hn en hY ⟨?_, ?_, ?_⟩ (fun r r1 r2 => ⟨?_, ?_, ?_⟩) (fun j hj => ?_)
    · rw [z 6 (by decide) (by decide), ← hI3, up3_t (by decide), up3_t (by decide)]
    · rw [z 6 (by decide) (by decide), ← hI3, up3_t (by decide), up3_t (by decide)]
    · rw [z 6 (by decide) (by decide), ← hI3, up3_t (by decide), up3_t (by decide)]
    · rw [z 4 (by decide) (by decide), q3r 4 r (by omega)]
    · rw [z 15 (by decide) (by decide), q3r 15 r (by omega)]
    · rw [z 16 (by decide) (by decide), q3r 16 r (by omega)]
    · rw [Nat.zero_add, e25 j hj]
  · obtain ⟨j1, j2, j3⟩ := hi b' hb'
    have e27 : up3 I2 8 0 14 0 27 = I 27 := w 27 (by decide) (by decide) (by decide) (by decide) (by decide) (by decide) (by decide)
    have e6 : up3 I2 8 0 14 0 6 (1 + b') = I 6 (1 + b') := by rw [z 6 (by decide) (by decide), q36 _ (by omega)]
    have e26 : up3 I2 8 0 14 0 26 = I 26 := w 26 (by decide) (by decide) (by decide) (by decide) (by decide) (by decide) (by decide)
    rw [e27, e6]
    refine ⟨j1, j2, fun q => ?_⟩
    obtain ⟨n', z1, z2, z3, z4, z5, z6⟩ := j3 q
    exact ⟨n', z1, by rw [e6]; exact z2, by rw [e26]; exact z3, by rw [e26, e6]; exact z4, by rw [e26, e6]; exact z5, fun k hk => (z6 k hk).congr (wr 4 _ (by omega) (by omega)) (wr 15 _ (by omega) (by omega)) (wr 16 _ (by omega) (by omega)) (by rw [e26])⟩
  · rw [up3_y, z 7 (by decide) (by decide), ← hI3, up3_t (by decide), up3_y]
  · refine absurd ?_ (hasB0 i hi')
    rw [z 7 (by decide) (by decide), ← hI3, up3_t (by decide), up3_y] at q
    exact q
theorem byteB (w : BitVec 64) (c : Nat) (hc : c ≤ 56) (i : Nat) (hi : i < 32) : ((BitVec.signExtend 32 (w >>> c)).getLsbD i && (255#32).getLsbD i) = ((BitVec.signExtend 32 (w.sshiftRight c)).getLsbD i && (255#32).getLsbD i) := by
  by_cases h8 : i < 8
  · rw [BitVec.getLsbD_signExtend, BitVec.getLsbD_signExtend, BitVec.getLsbD_ushiftRight, BitVec.getLsbD_sshiftRight, if_pos (show i < 64 by omega), if_pos (show i < 64 by omega), if_pos (show c + i < 64 by omega), decide_eq_false (show ¬ 64 ≤ i by omega)]
    simp
  · rw [(by decide : ∀ i, i < 32 → ¬ i < 8 → (255#32).getLsbD i = false) i hi h8, Bool.and_false, Bool.and_false]
theorem byte_k (v : Int64) (k : Nat) (hk : k < 8) : ((v.toUInt64 >>> ((8 * nI k).toInt64.toUInt64 &&& Int64.toUInt64 63)).toInt64).toInt32 &&& 255 = ((v >>> ((8 * nI k).toInt64 &&& 63)) &&& 255).toInt32 := by
  apply Int32.toBitVec_inj.mp
  apply BitVec.eq_of_getLsbD_eq
  intro i hi
  rcases (show k = 0 ∨ k = 1 ∨ k = 2 ∨ k = 3 ∨ k = 4 ∨ k = 5 ∨ k = 6 ∨ k = 7 by omega) with rfl | rfl | rfl | rfl | rfl | rfl | rfl | rfl
  · rw [show ((8 * nI 0).toInt64.toUInt64 &&& Int64.toUInt64 63) = 0 by decide, show ((8 * nI 0).toInt64 &&& 63) = 0 by decide]
    simp
  · rw [show ((8 * nI 1).toInt64.toUInt64 &&& Int64.toUInt64 63) = 8 by decide, show ((8 * nI 1).toInt64 &&& 63) = 8 by decide]
    simpa using byteB v.toBitVec 8 (by decide) i hi
  · rw [show ((8 * nI 2).toInt64.toUInt64 &&& Int64.toUInt64 63) = 16 by decide, show ((8 * nI 2).toInt64 &&& 63) = 16 by decide]
    simpa using byteB v.toBitVec 16 (by decide) i hi
  · rw [show ((8 * nI 3).toInt64.toUInt64 &&& Int64.toUInt64 63) = 24 by decide, show ((8 * nI 3).toInt64 &&& 63) = 24 by decide]
    simpa using byteB v.toBitVec 24 (by decide) i hi
  · rw [show ((8 * nI 4).toInt64.toUInt64 &&& Int64.toUInt64 63) = 32 by decide, show ((8 * nI 4).toInt64 &&& 63) = 32 by decide]
    simpa using byteB v.toBitVec 32 (by decide) i hi
  · rw [show ((8 * nI 5).toInt64.toUInt64 &&& Int64.toUInt64 63) = 40 by decide, show ((8 * nI 5).toInt64 &&& 63) = 40 by decide]
    simpa using byteB v.toBitVec 40 (by decide) i hi
  · rw [show ((8 * nI 6).toInt64.toUInt64 &&& Int64.toUInt64 63) = 48 by decide, show ((8 * nI 6).toInt64 &&& 63) = 48 by decide]
    simpa using byteB v.toBitVec 48 (by decide) i hi
  · rw [show ((8 * nI 7).toInt64.toUInt64 &&& Int64.toUInt64 63) = 56 by decide, show ((8 * nI 7).toInt64 &&& 63) = 56 by decide]
    simpa using byteB v.toBitVec 56 (by decide) i hi
/-- the byte k of v, as the system has it -/
def byC (v : Int64) (k : Nat) : Int32 := ((v.toUInt64 >>> ((8 * nI k).toInt64.toUInt64 &&& Int64.toUInt64 63)).toInt64).toInt32 &&& 255
theorem byC_bd (v : Int64) (k : Nat) : bd (byC v k) 0 255 := by
  unfold byC
  obtain ⟨j, hj, e⟩ := pk_andE (((v.toUInt64 >>> ((8 * nI k).toInt64.toUInt64 &&& Int64.toUInt64 63)).toInt64).toInt32) (m := 255) 8 (by decide)
  rw [e, iz_nI]
  exact bd_iz (by omega) (by omega) (by omega) (by omega)
theorem s_ctype {Q : Int32 → MI → MJ → Prop} {v : Int64} {n L : Nat} (hn : 1 ≤ n ∧ n ≤ 8) (hL : L + n ≤ 200) (e1 : I 3 0 1 = nI L) (hQ : ∀ I', (∀ j, j < n → I' 14 0 (L + j) = byC v (n - 1 - j)) → (∀ j, j < L → I' 14 0 j = I 14 0 j) → I' 3 0 1 = nI (L + n) → (∀ t, t ≠ 14 → t ≠ 3 → I' t = I t) → Q (nI (L + n)) I' J) : ∃ m : Nat, L_X7_type_35 Q m I J v (nI n - 1) := by
  have key : ∀ (k i : Nat) (I' : MI) (x : Int32), i + k = n → x = nI k - 1 → (∀ j, j < i → I' 14 0 (L + j) = byC v (n - 1 - j)) → (∀ j, j < L → I' 14 0 j = I 14 0 j) → I' 3 0 1 = nI (L + i) → (∀ t, t ≠ 14 → t ≠ 3 → I' t = I t) → L_X7_type_35 Q (k + 1) I' J v x := by
    intro k
    induction k with
    | zero =>
      intro i I' x e ex h1 h2 h3 h4
      obtain rfl : i = n := by omega
      refine onp (by rw [ex]; decide) ?_
      rw [h3]
      exact hQ I' h1 h2 h3 h4
    | succ k ih =>
      intro i I' x e ex h1 h2 h3 h4
      obtain rfl : x = nI k := by rw [ex, nI_pred]
      refine onn (nI_pos (by omega)) (onn (by rw [h3]; exact fun q => absurd ((nI_leI (a := 200) (by omega) (by omega)).mp q) (by omega)) ⟨by rw [h3]; exact vp_in_nI (by omega) (by decide), ?_⟩)
      have ek : n - 1 - i = k := by omega
      rw [h3, nI_clamp (by omega), up3_t (by decide), h3, nI_1]
      refine ih (i + 1) _ _ (by omega) (Int32.sub_eq_add_neg ..).symm (fun j hj => ?_) (fun j hj => ?_) ?_ (fun t r1 r2 => ?_)
      · rw [up3_t (by decide)]
        by_cases ej : j = i
        · rw [ej, up3_y, ek]; rfl
        · rw [up3_n (by omega)]; exact h1 j (by omega)
      · rw [up3_t (by decide), up3_n (by omega)]; exact h2 j hj
      · rw [up3_y, Nat.add_assoc]
      · rw [up3_t r2, up3_t r1]; exact h4 t r1 r2
  exact ⟨n + 1, key n 0 I _ (by omega) rfl (fun j hj => absurd hj (by omega)) (fun _ _ => rfl) e1 (fun _ _ _ => rfl)⟩
theorem s_mtype {Q : Int32 → MI → MJ → Prop} {v : Int64} {n L : Nat} (hn : 1 ≤ n ∧ n ≤ 8) (hL : L + n ≤ 200) (e1 : I 8 0 8 = nI L) (hQ : ∀ I', (∀ j, j < n → I' 30 0 (L + j) = byC v (n - 1 - j)) → (∀ j, j < L → I' 30 0 j = I 30 0 j) → I' 8 0 8 = nI (L + n) → I' 8 0 14 = I 8 0 14 → (∀ t, t ≠ 30 → t ≠ 8 → I' t = I t) → Q (nI (L + n)) I' J) : ∃ m : Nat, L_X8_type_37 Q m I J v (nI n - 1) := by
  have key : ∀ (k i : Nat) (I' : MI) (x : Int32), i + k = n → x = nI k - 1 → (∀ j, j < i → I' 30 0 (L + j) = byC v (n - 1 - j)) → (∀ j, j < L → I' 30 0 j = I 30 0 j) → I' 8 0 8 = nI (L + i) → I' 8 0 14 = I 8 0 14 → (∀ t, t ≠ 30 → t ≠ 8 → I' t = I t) → L_X8_type_37 Q (k + 1) I' J v x := by
    intro k
    induction k with
    | zero =>
      intro i I' x e ex h1 h2 h3 h5 h4
      obtain rfl : i = n := by omega
      refine onp (by rw [ex]; decide) ?_
      rw [h3]
      exact hQ I' h1 h2 h3 h5 h4
    | succ k ih =>
      intro i I' x e ex h1 h2 h3 h5 h4
      obtain rfl : x = nI k := by rw [ex, nI_pred]
      refine onn (nI_pos (by omega)) ⟨by rw [h3]; exact vp_in_nI (by omega) (by decide), fun I6 e6 => ?_⟩
      have ek : n - 1 - i = k := by omega
      rw [h3, nI_clamp (by omega), up3_t (by decide), h3, nI_1, ← byte_k v k (by omega)] at e6
      refine ih (i + 1) _ _ (by omega) (Int32.sub_eq_add_neg ..).symm (fun j hj => ?_) (fun j hj => ?_) ?_ ?_ (fun t r1 r2 => ?_)
      · rw [e6, up3_t (by decide)]
        by_cases ej : j = i
        · rw [ej, up3_y, ek]; rfl
        · rw [up3_n (by omega)]; exact h1 j (by omega)
      · rw [e6, up3_t (by decide), up3_n (by omega)]; exact h2 j hj
      · rw [e6, up3_y, Nat.add_assoc]
      · rw [e6, up3_n (by decide), up3_t (by decide)]; exact h5
      · rw [e6, up3_t r2, up3_t r1]; exact h4 t r1 r2
  exact ⟨n + 1, key n 0 I _ (by omega) rfl (fun j hj => absurd hj (by omega)) (fun _ _ => rfl) e1 rfl (fun _ _ _ => rfl)⟩
theorem pr_type (h : Inv I J) (v : Int64) (x : Int32) : wp_X7_type (fun r I1 J1 => wp_X8_type (fun r2 I2 J2 => r = r2 ∧ Inv I2 J2) I1 J1 v x) I J v x := by
  have hT := h.thrown
  obtain ⟨L, hL, x1, x2, x3⟩ := id h.2.2.2.2.1
  unfold wp_X7_type wp_X8_type
  simp only [q_within, q_in, bi_0, decide_eq_false_iff_not]
  have t8 : up3 I 8 0 0 0 8 0 8 = nI L := by rw [up3_n (by decide)]; exact x2
  refine two (fun c => ?_) (fun c => twn c ⟨trivial, hT⟩)
  obtain ⟨n, hn, rfl⟩ := nI_le_ex (j := 8) rfl (Int32.le_trans (by decide) c.1) c.2 (by decide)
  have hn1 : 1 ≤ n := (nI_leI (a := 1) (by omega) (by omega)).mp c.1
  have ec : (nI L + nI n ≤ 200) ↔ L + n ≤ 200 := by rw [nI_add]; exact nI_leI (b := 200) (by omega) (by omega)
  rw [x1, t8]
  by_cases cl : L + n ≤ 200
  · refine onp (ec.mpr cl) (s_ctype ⟨hn1, hn⟩ cl x1 (fun I1 g1 g2 g3 g4 => twp c (onp ?_ (s_mtype ⟨hn1, hn⟩ cl ?_ (fun I2 k1 k2 k3 k5 k4 => ⟨rfl, ?_⟩)))))
    · rw [up3_n (by decide), g4 8 (by decide) (by decide), x2]; exact ec.mpr cl
    · rw [up3_n (by decide), g4 8 (by decide) (by decide), x2]
    have w : ∀ t, t ≠ 14 → t ≠ 3 → t ≠ 8 → t ≠ 30 → I2 t = I t := fun t r1 r2 r3 r4 => by rw [k4 t r4 r3, up3_t r3, g4 t r1 r2]
    have ho : Only [14, 3, 8, 30] I I2 := fun t ht => w t (fun e => ht (by simp [e])) (fun e => ht (by simp [e])) (fun e => ht (by simp [e])) (fun e => ht (by simp [e]))
    obtain ⟨hy, hi, ht, hu, -, hl, hc, hh, hj⟩ := h
    have e14 : I2 14 = I1 14 := by rw [k4 14 (by decide) (by decide), up3_t (by decide)]
    refine ⟨ho.y hy (by decide), ho.i hi (by decide), ho.t ht (by decide), ho.u hu (by decide), ⟨L + n, cl, ?_, k3, fun j hj => ?_⟩, ho.l hl (by decide) ?_, ho.c hc (by decide), ho.h hh (by decide), hj⟩
    · rw [k4 3 (by decide) (by decide), up3_t (by decide)]; exact g3
    · rw [e14]
      by_cases hjL : j < L
      · rw [k2 j hjL, up3_t (by decide), g4 30 (by decide) (by decide), g2 j hjL]; exact x3 j hjL
      · obtain ⟨i, rfl⟩ : ∃ i, j = L + i := ⟨j - L, by omega⟩
        rw [k1 i (by omega), g1 i (by omega)]
        exact ⟨rfl, byC_bd v _⟩
    · rw [k5, up3_n (by decide), g4 8 (by decide) (by decide)]
  · exact onn (fun q => cl (ec.mp q)) (twp c (onn (fun q => cl (ec.mp q)) ⟨trivial, hT⟩))
end BCK
