section RACE
variable {I : MI} {J : MJ}
theorem fsS_congr {s : Nat} {sh sh' : Nat → Int32} : ∀ n, (∀ k, k < n → sh k = sh' k) → fsS s sh n = fsS s sh' n := by
  intro n
  induction n with
  | zero => intro _; rfl
  | succ n ih =>
    intro h
    have h1 := ih (fun k hk => h k (by omega))
    show (if s / 2 ^ n % 2 = 1 then (match fsS s sh n with
        | none => some n
        | some k => if sh n ≤ sh k then some k else some n) else fsS s sh n) = (if s / 2 ^ n % 2 = 1 then (match fsS s sh' n with
        | none => some n
        | some k => if sh' n ≤ sh' k then some k else some n) else fsS s sh' n)
    rw [h1]
    cases hf : fsS s sh' n with
    | none => rfl
    | some k =>
      have hk := fsS_in n k hf
      show (if s / 2 ^ n % 2 = 1 then (if sh n ≤ sh k then some k else some n) else some k) = (if s / 2 ^ n % 2 = 1 then (if sh' n ≤ sh' k then some k else some n) else some k)
      rw [h n (by omega), h k (by omega)]
theorem bit_lt {s n i : Nat} (hs : s < 2 ^ n) (hb : s / 2 ^ i % 2 = 1) : i < n := by
  rcases Nat.lt_or_ge i n with q | q
  · exact q
  · have : s / 2 ^ i = 0 := Nat.div_eq_of_lt (Nat.lt_of_lt_of_le hs (Nat.pow_le_pow_right (by decide) q))
    rw [this] at hb
    exact absurd hb (by decide)
theorem pr_race (h : Inv I J) (x y : Int32) : wp_X7_race (fun r I1 J1 => wp_X8_race (fun r2 I2 J2 => r = r2 ∧ Inv I2 J2) I1 J1 x y) I J x y := by
  obtain ⟨n, hn, e1, e3, y4, y5, hr⟩ := id h.1
  simp only [Nat.zero_add] at e3 y4 y5
  have hT := h.thrown
  have e2 : up3 I 8 0 0 0 25 0 168 = nI n := by rw [up3_t (by decide)]; exact e3
  unfold wp_X7_race
  refine s_canRace hn e1 (fun cg c => onn (by decide) ?_) (fun c => onp rfl ?_)
  rotate_left
  · unfold wp_X8_race
    dsimp only
    rw [q_in]
    simp only [bi_0, decide_eq_false_iff_not]
    refine two (fun cg => s_isField hn e2 (fun q => absurd ⟨cg, q⟩ c) (fun _ => onp rfl ⟨trivial, hT⟩)) (fun _ => ⟨trivial, hT⟩)
  obtain ⟨s, hs, rfl, hp⟩ := id c
  obtain ⟨g, hg, rfl⟩ := nI_le_ex (j := 2) rfl cg.1 cg.2 (by decide)
  obtain ⟨el, -, -, em⟩ := h.least hn e1 hs hp
  have hp8 := p28 hn
  have hs31 : s < 2 ^ 31 := by omega
  refine s_leastMark hn e1 hs31 ?_
  generalize hle : lmn (fun j => I 4 j 3) s 200 n = least at el
  -- the runners
  have hRR : ∀ k, k < n → RR I k 25 (21 * k) := fun k hk => by have := hr k hk; simp only [Nat.mul_zero, Nat.zero_add] at this; exact this
  have hRb : ∀ k, k < n → RbK I g k := fun k hk => by
    obtain ⟨-, b, ⟨q, c1, c2, c3⟩, d1, d2, -, -⟩ := hRR k hk
    exact ⟨⟨q, c1, c2, fun j hj => (c3 j hj).2⟩, d1, d2, (b g (by omega)).2⟩
  have hit := h.2.2.1
  obtain ⟨u1, u2⟩ := id h.2.2.2.1
  refine s_crace hn e1 hs31 (by omega) u2 hit hRb (fun I' hC => ?_)
  obtain ⟨c1, c2, c3, c4, c5⟩ := id hC
  -- the model starts
  generalize hIc : up3 (up3 I' 7 0 13 (nI s)) 6 0 3 (I 6 0 3 + 1) = Ic
  have oc : ∀ t r, t ≠ 4 → t ≠ 16 → t ≠ 6 → t ≠ 7 → t ≠ 22 → t ≠ 23 → t ≠ 24 → Ic t r = I t r := fun t r r1 r2 r3 r4 r5 r6 r7 => by rw [← hIc, up3_t r3, up3_t r4]; exact c5 t r r1 r2 (by omega) (by omega)
  have oc' : ∀ t, t ≠ 4 → t ≠ 16 → t ≠ 6 → t ≠ 7 → t ≠ 22 → t ≠ 23 → t ≠ 24 → Ic t = I t := fun t r1 r2 r3 r4 r5 r6 r7 => by funext r; exact oc t r r1 r2 r3 r4 r5 r6 r7
  have oI : ∀ t, t ≠ 6 → t ≠ 7 → Ic t = I' t := fun t r1 r2 => by rw [← hIc, up3_t r1, up3_t r2]
  generalize hM0 : up3 Ic 8 0 0 0 = M0
  have om : ∀ t, t ≠ 8 → M0 t = Ic t := fun t r1 => by rw [← hM0, up3_t r1]
  have M25 : M0 25 = I 25 := by rw [om 25 (by decide), oc' 25 (by decide) (by decide) (by decide) (by decide) (by decide) (by decide) (by decide)]
  have eM : M0 25 0 168 = nI n := by rw [M25]; exact e3
  unfold wp_X8_race
  rw [hM0, q_in]
  simp only [bi_0, decide_eq_false_iff_not]
  refine twp cg (s_isField hn eM (fun _ => onn (by decide) (s_weighs hn eM hs31 (fun Mw w1 w2 => ?_))) (fun q => absurd c q))
  rw [M25, el] at w1
  have W : ∀ k, k < n → Mw 36 0 k = I 4 k 3 - least := fun k hk => by rw [w1 k hk, em k hk]
  have Wt : ∀ t, t ≠ 36 → t ≠ 8 → t ≠ 4 → t ≠ 16 → t ≠ 6 → t ≠ 7 → t ≠ 22 → t ≠ 23 → t ≠ 24 → Mw t = I t := fun t r0 r r1 r2 r3 r4 r5 r6 r7 => by rw [w2 t r0, om t r, oc' t r1 r2 r3 r4 r5 r6 r7]
  have W25 : Mw 25 = I 25 := by rw [w2 25 (by decide), M25]
  have W28 : Mw 28 = I 28 := Wt 28 (by decide) (by decide) (by decide) (by decide) (by decide) (by decide) (by decide) (by decide) (by decide)
  have W29 : Mw 29 = I 29 := Wt 29 (by decide) (by decide) (by decide) (by decide) (by decide) (by decide) (by decide) (by decide) (by decide)
  have t0 : I 28 0 0 = I 21 0 0 := hit.1 0 (by decide)
  have eLk : ∀ k, mLuck Mw s k = rLuck I s k := fun k => by unfold mLuck rLuck; rw [W25, W28, y4, t0]
  have eBr : ∀ k, k < n → mbr Mw k g = brV I k g := fun k hk => by
    obtain ⟨⟨a1, a2, a3, -⟩, b, -, -, -, d3, -⟩ := hRR k hk
    unfold mbr brV
    rw [W25, W28, a1, a3, (b g (by omega)).1]
    obtain ⟨en, l, k'⟩ := bd_nat d3 (by decide)
    generalize (I 4 k 4).toNatClampNeg = hb at en l k'
    rcases (show hb = 0 ∨ hb = 1 ∨ hb = 2 by omega) with rfl | rfl | rfl
    · rw [en]; rfl
    · rw [en]
      have := hit.1 1 (by decide)
      rw [if_neg (by decide), if_pos (show nI 1 = 1 from rfl), this]
    · rw [en]
      have := hit.1 2 (by decide)
      rw [if_neg (by decide), if_neg (by decide), if_pos (show nI 2 = 2 from rfl), this]
  have eSh : ∀ k, k < n → mShow Mw s g k = rShow I s g least k := fun k hk => by
    unfold mShow rShow rFig
    rw [eBr k hk, eLk, W k hk]
  refine s_m35 hn (by rw [W25]; exact e3) hs31 (by omega) (by rw [W28, t0]; exact hit.2.1) (fun k hk => ?_) (fun M1 hM1 => ?_)
  · obtain ⟨⟨-, -, a3, -⟩, -, -, -, -, d3, -⟩ := hRR k hk
    rw [W25, a3]; exact d3
  obtain ⟨m1, m2, m3, m4⟩ := id hM1
  have F25 : ∀ i, i ≠ 169 → M1 25 0 i = I 25 0 i := fun i hi => by rw [m2 i hi, W25]
  have F36 : M1 36 = Mw 36 := m4 36 (by decide) (by decide)
  have F29 : M1 29 = I 29 := by rw [m4 29 (by decide) (by decide), W29]
  have eX : ∀ k, k < n → s / 2 ^ k % 2 = 1 → mX M1 k = rFig I s g k := fun k hk hb => by
    unfold mX
    rw [(m3 k hk hb).1, F36]
    unfold mShow
    rw [Int32.sub_add_cancel, eBr k hk, eLk]
    rfl
  have bFig : ∀ k, k < n → bd (rFig I s g k) (-1000) 1000 := fun k hk => by
    obtain ⟨-, b, -, d1, -⟩ := hRR k hk
    obtain ⟨a, ea, a1, a2⟩ := bd_ex (brV_bd (g := g) d1 (b g (by omega)).2 hit)
    obtain ⟨b', eb2, b1, b2⟩ := bd_ex (lcU_bd (L := ltS s (I 6 0 2) (k + 1)) hit.2.1)
    unfold rFig rLuck
    rw [ea, eb2, iz_add]
    exact bd_iz (by omega) (by omega) (by omega) (by omega)
  have u29 : RuB (M1 29 0) := by
    obtain ⟨r0, r1, r2, r3, r4, r5, r6, r7⟩ := u2
    unfold RuB
    rw [F29, u1 0 (by decide), u1 1 (by decide), u1 2 (by decide), u1 3 (by decide), u1 4 (by decide), u1 5 (by decide)]
    exact ⟨r0, r1, r2, r3, r4, r5, r6, r7⟩
  refine s_m214 hn (by rw [F25 168 (by decide)]; exact e3) hs31 u29 (fun k hk hb => ⟨⟨?_, ?_⟩, by rw [eX k hk hb]; exact bFig k hk⟩) (fun M2 hM2 => ?_)
  · obtain ⟨⟨-, -, -, -, -, a6⟩, -, ⟨q, p1, p2, p3⟩, -⟩ := hRR k hk
    exact ⟨q, p1, by rw [F25 _ (by omega), a6]; exact p2, fun j hj => by rw [F25 _ (by omega), (p3 j hj).1]; exact (p3 j hj).2⟩
  · obtain ⟨⟨-, a2, -⟩, -, -, -, d2, -⟩ := hRR k hk
    rw [F25 _ (by omega), a2]; exact d2
  obtain ⟨z1, z2, z3, z4, z5⟩ := id hM2
  have efs : fsS s (mShow Mw s g) n = fsS s (rShow I s g least) n := fsS_congr n eSh
  obtain ⟨win, hwin⟩ := fsS_some (s := s) (sh := rShow I s g least) n (by omega)
  rw [efs, hwin]
  refine ⟨rfl, ?_⟩
  -- what stands behind both
  generalize hMf : up3 (up3 M2 8 0 14 (nI s)) 25 0 170 (M1 25 0 170 + 1) = Mf
  have Q25 : ∀ i, i ≠ 170 → Mf 25 0 i = M2 25 0 i := fun i hi => by rw [← hMf, up3_n (by omega), up3_t (by decide)]
  have Qt : ∀ t, t ≠ 25 → t ≠ 8 → Mf t = M2 t := fun t r1 r2 => by rw [← hMf, up3_t r1, up3_t r2]
  have QI : ∀ t, t ≠ 25 → t ≠ 8 → t ≠ 34 → t ≠ 35 → t ≠ 31 → t ≠ 36 → Mf t = Ic t := fun t r1 r2 r3 r4 r5 r6 => by rw [Qt t r1 r2, z4 t r1 r3 r4 r2, m4 t r1 r5, w2 t r6, om t r2]
  have QQ : ∀ t, t ≠ 25 → t ≠ 8 → t ≠ 34 → t ≠ 35 → t ≠ 31 → t ≠ 36 → t ≠ 4 → t ≠ 16 → t ≠ 6 → t ≠ 7 → t ≠ 22 → t ≠ 23 → t ≠ 24 → Mf t = I t := fun t r1 r2 r3 r4 r5 r6 s1 s2 s3 s4 s5 s6 s7 => by rw [QI t r1 r2 r3 r4 r5 r6, oc' t s1 s2 s3 s4 s5 s6 s7]
  have Q4 : Mf 4 = I' 4 := by rw [QI 4 (by decide) (by decide) (by decide) (by decide) (by decide) (by decide), oI 4 (by decide) (by decide)]
  have Q16 : Mf 16 = I' 16 := by rw [QI 16 (by decide) (by decide) (by decide) (by decide) (by decide) (by decide), oI 16 (by decide) (by decide)]
  have Q15 : Mf 15 = I 15 := QQ 15 (by decide) (by decide) (by decide) (by decide) (by decide) (by decide) (by decide) (by decide) (by decide) (by decide) (by decide) (by decide) (by decide)
  have Q6 : ∀ r, r ≠ 0 → Mf 6 r = I 6 r := fun r hr0 => by rw [QI 6 (by decide) (by decide) (by decide) (by decide) (by decide) (by decide), ← hIc, up3_o (by omega), up3_t (by decide), c5 6 r (by decide) (by decide) (by omega) (by omega)]
  have Q60 : ∀ i, i ≠ 3 → Mf 6 0 i = I' 6 0 i := fun i hi => by rw [QI 6 (by decide) (by decide) (by decide) (by decide) (by decide) (by decide), ← hIc, up3_n (by omega), up3_t (by decide)]
  have Q63 : Mf 6 0 3 = I 6 0 3 + 1 := by rw [QI 6 (by decide) (by decide) (by decide) (by decide) (by decide) (by decide), ← hIc, up3_y]
  have Q8 : ∀ i, i ≠ 14 → i ≠ 19 → i ≠ 0 → Mf 8 0 i = I 8 0 i := fun i r1 r2 r3 => by rw [← hMf, up3_t (by decide), up3_n (by omega), z5 i r2, m4 8 (by decide) (by decide), w2 8 (by decide), ← hM0, up3_n (by omega), oc 8 0 (by decide) (by decide) (by decide) (by decide) (by decide) (by decide) (by decide)]
  have Qr : ∀ r, ¬ (r < n ∧ s / 2 ^ r % 2 = 1) → Mf 4 r = I 4 r ∧ Mf 15 r = I 15 r ∧ Mf 16 r = I 16 r := fun r hr0 => by
    obtain ⟨a, b⟩ := c4 r hr0
    exact ⟨by rw [Q4]; exact a, by rw [Q15], by rw [Q16]; exact b⟩
  obtain ⟨hy, hi, ht, hu, hx, hl, hc, hh, hj⟩ := h
  refine ⟨⟨n, hn, ?_, ?_, ?_, ?_, fun k hk => ?_⟩, ?_, ht.congr ?_ ?_, hu.congr (fun _ _ => ?_) ?_, hx.congr ?_ ?_ ?_ ?_, ⟨?_, fun i hi8 hb => ?_⟩, hc.congr ?_ ?_ ?_, hh.congr ?_ ?_, hj⟩
  · rw [Q60 1 (by decide), c2 1 (by decide)]; exact e1
  · rw [Q25 _ (by decide), z3 _ (by omega), F25 _ (by decide)]; exact e3
  · rw [Q25 _ (by decide), z3 _ (by omega), Q60 2 (by decide), c1, Nat.zero_add, m1, W25, y4]
  · rw [Q63, ← hMf, Nat.zero_add, up3_y, F25 170 (by decide), y5]
  · simp only [Nat.mul_zero, Nat.zero_add]
    have hk8 : k < 8 := by omega
    have G25 : ∀ c, c < 21 → Mf 25 0 (21 * k + c) = M2 25 0 (21 * k + c) := fun c hc => Q25 _ (by omega)
    obtain ⟨⟨a1, a2, a3, a4, a5, a6⟩, b, ⟨q, p1, p2, p3⟩, d1, d2, d3, d4⟩ := hRR k hk
    by_cases hb : s / 2 ^ k % 2 = 1
    · obtain ⟨-, -, -, q', o1, o2, f0, fj, f7, f6, f3, f2, f4, f5⟩ := c3 k hk hb
      obtain rfl : q' = q := (nI_eq (by omega) (by omega)).mp (o2.symm.trans p2)
      obtain ⟨q'', o3, o4, g0, gj, g8, g7, g1, g00, g2⟩ := z1 k hk hb
      obtain rfl : q'' = q' := (nI_eq (by omega) (by omega)).mp (o4.symm.trans (by rw [F25 _ (by omega), a6]; exact p2))
      have fig : ∀ j, j < min 12 (q'' + 1) → M2 25 0 (21 * k + 9 + j) = I' 16 k j := fun j hj => by
        by_cases e0 : j = 0
        · subst e0
          rw [f0, ← eX k hk hb]; exact g0
        · rw [gj j (by omega) (by omega), fj j (by omega) (by omega), F25 _ (by omega), (p3 (j - 1) (by omega)).1]
      unfold RR
      rw [Q4, Q15, Q16]
      refine ⟨⟨?_, ?_, ?_, ?_, ?_, ?_⟩, fun j hj => ?_, ⟨min 12 (q'' + 1), by omega, f7, fun j hj => ?_⟩, ?_, ?_, ?_, ?_⟩
      · have g0' : Mf 25 0 (21 * k) = M2 25 0 (21 * k) := G25 0 (by decide)
        rw [g0', g00, F25 _ (by omega), F25 _ (by omega), a1, a4, f2]
      · rw [G25 1 (by decide), g1, f3, F25 _ (by omega), a2, F29]
        exact newM_congr u1 (fun j hj => congrArg Int32.toInt (fig j hj))
      · rw [G25 2 (by decide), g2 2 (by decide) (by decide), F25 _ (by omega), a3, f4]
      · rw [G25 3 (by decide), g2 3 (by decide) (by decide), F25 _ (by omega), a4, f5]
      · rw [G25 7 (by decide), g7, F25 _ (by omega), a5, f6]
      · rw [G25 8 (by decide), g8, f7]
      · rw [Nat.add_assoc, G25 (4 + j) (by omega), g2 (4 + j) (by omega) (by omega), F25 _ (by omega), ← Nat.add_assoc]; exact b j hj
      · rw [Nat.add_assoc, G25 (9 + j) (by omega), ← Nat.add_assoc, fig j hj]
        refine ⟨rfl, ?_⟩
        by_cases e0 : j = 0
        · rw [e0, f0]; exact bFig k hk
        · rw [fj j (by omega) (by omega)]; exact (p3 (j - 1) (by omega)).2
      · rw [f2]; exact clI_bd _
      · rw [f3]; exact newM_bd _ _ _ _
      · rw [f4]; exact d3
      · rw [f5]; exact d4
    · obtain ⟨v4, v15, v16⟩ := Qr k (fun q2 => hb q2.2)
      have B : ∀ c, c < 21 → Mf 25 0 (21 * k + c) = I 25 0 (21 * k + c) := fun c hc => by rw [G25 c hc, z2 k (fun q2 => hb q2.2) hk8 c hc, F25 _ (by omega)]
      unfold RR
      rw [v4, v15, v16]
      refine ⟨⟨(B 0 (by decide)).trans a1, by rw [B 1 (by decide)]; exact a2, by rw [B 2 (by decide)]; exact a3, by rw [B 3 (by decide)]; exact a4, by rw [B 7 (by decide)]; exact a5, by rw [B 8 (by decide)]; exact a6⟩, fun j hj => ?_, ⟨q, p1, p2, fun j hj => ?_⟩, d1, d2, d3, d4⟩
      · rw [Nat.add_assoc, B (4 + j) (by omega), ← Nat.add_assoc]; exact b j hj
      · rw [Nat.add_assoc, B (9 + j) (by omega), ← Nat.add_assoc]; exact p3 j hj
  · intro b' hb'
    obtain ⟨i1, i2, i3⟩ := hi b' hb'
    have e27 : Mf 27 = I 27 := QQ 27 (by decide) (by decide) (by decide) (by decide) (by decide) (by decide) (by decide) (by decide) (by decide) (by decide) (by decide) (by decide) (by decide)
    have e26 : Mf 26 = I 26 := QQ 26 (by decide) (by decide) (by decide) (by decide) (by decide) (by decide) (by decide) (by decide) (by decide) (by decide) (by decide) (by decide) (by decide)
    rw [e27, Q6 (1 + b') (by omega)]
    refine ⟨i1, i2, fun q => ?_⟩
    obtain ⟨n', x1, x2, x3, x4, x5, x6⟩ := i3 q
    refine ⟨n', x1, by rw [Q6 (1 + b') (by omega)]; exact x2, by rw [e26]; exact x3, by rw [e26, Q6 (1 + b') (by omega)]; exact x4, by rw [e26, Q6 (1 + b') (by omega)]; exact x5, fun k hk => ?_⟩
    obtain ⟨v4, v15, v16⟩ := Qr (8 * (1 + b') + k) (by omega)
    exact (x6 k hk).congr v4 v15 v16 (by rw [e26])
  · exact QQ 28 (by decide) (by decide) (by decide) (by decide) (by decide) (by decide) (by decide) (by decide) (by decide) (by decide) (by decide) (by decide) (by decide)
  · exact QQ 21 (by decide) (by decide) (by decide) (by decide) (by decide) (by decide) (by decide) (by decide) (by decide) (by decide) (by decide) (by decide) (by decide)
  · rw [QQ 29 (by decide) (by decide) (by decide) (by decide) (by decide) (by decide) (by decide) (by decide) (by decide) (by decide) (by decide) (by decide) (by decide)]
  · rw [QQ 13 (by decide) (by decide) (by decide) (by decide) (by decide) (by decide) (by decide) (by decide) (by decide) (by decide) (by decide) (by decide) (by decide)]
  · rw [QQ 3 (by decide) (by decide) (by decide) (by decide) (by decide) (by decide) (by decide) (by decide) (by decide) (by decide) (by decide) (by decide) (by decide)]
  · exact Q8 8 (by decide) (by decide) (by decide)
  · exact QQ 30 (by decide) (by decide) (by decide) (by decide) (by decide) (by decide) (by decide) (by decide) (by decide) (by decide) (by decide) (by decide) (by decide)
  · exact QQ 14 (by decide) (by decide) (by decide) (by decide) (by decide) (by decide) (by decide) (by decide) (by decide) (by decide) (by decide) (by decide) (by decide)
  · rw [QI 7 (by decide) (by decide) (by decide) (by decide) (by decide) (by decide), ← hMf, up3_t (by decide), up3_y, ← hIc, up3_t (by decide), up3_y]
  · have q7 : Mf 7 0 13 = nI s := by rw [QI 7 (by decide) (by decide) (by decide) (by decide) (by decide) (by decide), ← hIc, up3_t (by decide), up3_y]
    rw [q7, hasB_i hs31 (by omega)] at hb
    have hin := bit_lt hs hb
    obtain ⟨s0, s1, s2, -⟩ := c3 i hin hb
    obtain ⟨r0, r1, r2⟩ := m3 i hin hb
    have q31 : Mf 31 = M1 31 := by rw [Qt 31 (by decide) (by decide), z4 31 (by decide) (by decide) (by decide) (by decide)]
    have q22 : ∀ t, t = 22 ∨ t = 23 ∨ t = 24 → Mf t = I' t := fun t ht' => by rw [QI t (by omega) (by omega) (by omega) (by omega) (by omega) (by omega), oI t (by omega) (by omega)]
    rw [q31, q22 22 (by omega), q22 23 (by omega), q22 24 (by omega), r0, r1, r2, s0, s1, s2, eSh i hin, W i hin, eLk]
    exact ⟨rfl, rfl, rfl⟩
  · exact QQ 32 (by decide) (by decide) (by decide) (by decide) (by decide) (by decide) (by decide) (by decide) (by decide) (by decide) (by decide) (by decide) (by decide)
  · exact QQ 17 (by decide) (by decide) (by decide) (by decide) (by decide) (by decide) (by decide) (by decide) (by decide) (by decide) (by decide) (by decide) (by decide)
  · exact QQ 18 (by decide) (by decide) (by decide) (by decide) (by decide) (by decide) (by decide) (by decide) (by decide) (by decide) (by decide) (by decide) (by decide)
  · exact QQ 33 (by decide) (by decide) (by decide) (by decide) (by decide) (by decide) (by decide) (by decide) (by decide) (by decide) (by decide) (by decide) (by decide)
  · exact QQ 12 (by decide) (by decide) (by decide) (by decide) (by decide) (by decide) (by decide) (by decide) (by decide) (by decide) (by decide) (by decide) (by decide)
end RACE
