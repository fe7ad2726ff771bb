section ODDS
variable {I : MI} {J : MJ}
theorem bcf_place : ∀ s, s < 256 → ∀ k, k < 8 → bcf (nI s &&& (((1 : Int32) <<< (nI k &&& 31)) - 1)) = nI (pcn s k) := by decide +kernel
theorem pcn_inv {s p : Nat} : ∀ n, p < pcn s n → ∃ k, k < n ∧ s / 2 ^ k % 2 = 1 ∧ pcn s k = p := by
  intro n
  induction n with
  | zero => intro h; exact absurd h (Nat.not_lt_zero _)
  | succ n ih =>
    intro h
    have ep : pcn s (n + 1) = pcn s n + s / 2 ^ n % 2 := rfl
    by_cases c : p < pcn s n
    · obtain ⟨k, h1, h2, h3⟩ := ih c
      exact ⟨k, by omega, h2, h3⟩
    · exact ⟨n, by omega, by omega, by omega⟩
theorem mbr_eq (h : Inv I J) {n k g : Nat} {M : MI} (hn : n ≤ 8) (e1 : I 6 0 1 = nI n) (hk : k < n) (hg : g < 3) (M25 : M 25 = I 25) (M28 : M 28 = I 28) : mbr M k g = brV I k g ∧ bd (M 25 0 (21 * k + 2)) 0 2 ∧ bd (brV I k g) (-100) 300 ∧ bd (I 4 k 3) 0 200 := by
  obtain ⟨n', hn', y2, y3, -, -, hr⟩ := id h.1
  obtain rfl : n' = n := (nI_eq (by omega) (by omega)).mp (y2.symm.trans e1)
  have hit := h.2.2.1
  have hRR : RR I k 25 (21 * k) := by have := hr k hk; simp only [Nat.mul_zero, Nat.zero_add] at this; exact this
  obtain ⟨⟨a1, a2, a3, -⟩, b, -, d1, d2, d3, -⟩ := hRR
  refine ⟨?_, by rw [M25, a3]; exact d3, brV_bd d1 (b g hg).2 hit, d2⟩
  unfold mbr brV
  rw [M25, M28, a1, a3, (b g hg).1]
  obtain ⟨en, l, k'⟩ := bd_nat d3 (by decide)
  generalize (I 4 k 4).toNatClampNeg = hb at en l k'
  rcases (show hb = 0 ∨ hb = 1 ∨ hb = 2 by omega) with rfl | rfl | rfl
  · rw [en]; rfl
  · rw [en]
    have := hit.1 1 (by decide)
    rw [if_neg (by decide), if_pos (show nI 1 = 1 from rfl), this]
  · rw [en]
    have := hit.1 2 (by decide)
    rw [if_neg (by decide), if_neg (by decide), if_pos (show nI 2 = 2 from rfl), this]
theorem lmn_bd {f : Nat → Int32} {s : Nat} : ∀ n, (∀ j, j < n → bd (f j) 0 200) → bd (lmn f s 200 n) 0 200 := by
  intro n
  induction n with
  | zero => intro _; exact bd_iz (z := 200) (by decide) (by decide) (by decide) (by decide)
  | succ n ih =>
    intro h
    have h1 := ih (fun j hj => h j (by omega))
    show bd (if s / 2 ^ n % 2 = 1 then (if f n < lmn f s 200 n then f n else lmn f s 200 n) else lmn f s 200 n) 0 200
    split
    · split
      · exact h n (by omega)
      · exact h1
    · exact h1
/-- what both sides' odds stand on -/
theorem Inv.ent (h : Inv I J) {n s g : Nat} {I' : MI} (hn : n ≤ 8) (e1 : I 6 0 1 = nI n) (hg : g < 3) (hE : ENT I I' s g (lmn (fun j => I 4 j 3) s 200 n) n) : ∃ (t : Nat) (B w l : Nat → Int), t ≤ 5 ∧ I 21 0 0 = nI t ∧ I 28 0 0 = nI t ∧ FS I' (pcn s n) t l ∧ ∀ k, k < n → s / 2 ^ k % 2 = 1 → brV I k g = iz (B k) ∧ -100 ≤ B k ∧ B k ≤ 300 ∧ I 4 k 3 - lmn (fun j => I 4 j 3) s 200 n = iz (w k) ∧ -200 ≤ w k ∧ w k ≤ 200 ∧ l (pcn s k) = B k - w k := by
  obtain ⟨c1, c2, c3, c4⟩ := id hE
  have hit := h.2.2.1
  obtain ⟨et, l1, l2⟩ := bd_nat hit.2.1 (by decide)
  have hbl := lmn_bd (f := fun j => I 4 j 3) (s := s) n (fun j hj => (mbr_eq (M := I) h hn e1 hj hg rfl rfl).2.2.2)
  generalize lmn (fun j => I 4 j 3) s 200 n = least at c3 hbl
  have hk : ∀ k, k < n → s / 2 ^ k % 2 = 1 → brV I k g = iz (brV I k g).toInt ∧ -100 ≤ (brV I k g).toInt ∧ (brV I k g).toInt ≤ 300 ∧ I 4 k 3 - least = iz ((I 4 k 3).toInt - least.toInt) ∧ -200 ≤ (I 4 k 3).toInt - least.toInt ∧ (I 4 k 3).toInt - least.toInt ≤ 200 ∧ (I' 10 0 (pcn s k)).toInt = (brV I k g).toInt - ((I 4 k 3).toInt - least.toInt) := fun k hk hb => by
    obtain ⟨-, -, hb1, hb2⟩ := mbr_eq (M := I) h hn e1 hk hg rfl rfl
    have e2 : I 4 k 3 - least = iz ((I 4 k 3).toInt - least.toInt) := by rw [← iz_sub, iz_of, iz_of]
    have := hb1.1
    have := hb1.2
    have := hb2.1
    have := hb2.2
    have := hbl.1
    have := hbl.2
    refine ⟨(iz_of _).symm, hb1.1, hb1.2, e2, by omega, by omega, ?_⟩
    rw [(c3 k hk hb).2, e2]
    have e3 : brV I k g - iz ((I 4 k 3).toInt - least.toInt) = iz ((brV I k g).toInt - ((I 4 k 3).toInt - least.toInt)) := by rw [← iz_sub (brV I k g).toInt, iz_of]
    rw [e3, iz_toInt (by omega) (by omega)]
  refine ⟨(I 21 0 0).toNatClampNeg, fun k => (brV I k g).toInt, fun k => (I 4 k 3).toInt - least.toInt, fun p => (I' 10 0 p).toInt, by omega, et, (hit.1 0 (by decide)).trans et, ⟨Nat.le_trans (pcn_le s n) hn, by omega, c1, c2.trans et, fun p hp => ⟨(iz_of _).symm, ?_⟩⟩, hk⟩
  obtain ⟨k, k1, k2, rfl⟩ := pcn_inv n hp
  obtain ⟨-, z1, z2, -, z3, z4, z5⟩ := hk k k1 k2
  dsimp only
  omega
theorem ENT.keep {I' : MI} {s g n : Nat} {least : Int32} (h : ENT I I' s g least n) : Keep I I' := by
  have c4 := h.2.2.2
  exact ⟨fun t ht => c4 t (fun e => by rw [e] at ht; exact absurd ht (by decide)) (fun e => by rw [e] at ht; exact absurd ht (by decide)) (fun e => by rw [e] at ht; exact absurd ht (by decide)), fun r _ => ⟨by rw [c4 4 (by decide) (by decide) (by decide)], by rw [c4 15 (by decide) (by decide) (by decide)], by rw [c4 16 (by decide) (by decide) (by decide)]⟩, by rw [c4 13 (by decide) (by decide) (by decide)], fun j _ => by rw [c4 29 (by decide) (by decide) (by decide)], by rw [c4 3 (by decide) (by decide) (by decide)], by rw [c4 8 (by decide) (by decide) (by decide)], by rw [c4 8 (by decide) (by decide) (by decide)]⟩
theorem keep1 {I' : MI} {t0 : Nat} (ht : t0 ∈ [0, 1, 2, 5, 9, 10, 11, 34, 35, 36, 37, 38]) (g2 : ∀ t, t ≠ t0 → I' t = I t) : Keep I I' := by
  have h0 : ∀ t, t ∈ [6, 7, 12, 14, 17, 18, 21, 22, 23, 24, 25, 26, 27, 28, 30, 31, 32, 33] → t ≠ t0 := fun t h1 e => by
    subst e
    simp only [List.mem_cons, List.not_mem_nil, or_false] at ht h1
    omega
  simp only [List.mem_cons, List.not_mem_nil, or_false] at ht
  refine ⟨fun t ht => g2 t (h0 t ht), fun r _ => ⟨by rw [g2 4 (by omega)], by rw [g2 15 (by omega)], by rw [g2 16 (by omega)]⟩, by rw [g2 13 (by omega)], fun j _ => by rw [g2 29 (by omega)], by rw [g2 3 (by omega)], by rw [g2 8 (by omega)], by rw [g2 8 (by omega)]⟩
/-- whom a call may ask about -/
def ASK (n : Nat) (y z : Int32) : Prop := z = -1 ∨ ((0 ≤ z ∧ z < nI n) ∧ ¬ ((y >>> (z &&& 31)) &&& 1) = 0)
theorem s_canAsk {Q : Int32 → MI → MJ → Prop} {n : Nat} (hn : n ≤ 8) (en : I 6 0 1 = nI n) {g x z : Int32} (h1 : 0 ≤ g ∧ g ≤ 2 → FOK n x → ASK n x z → Q 1 I J) (h0 : ¬ ((0 ≤ g ∧ g ≤ 2) ∧ FOK n x ∧ ASK n x z) → Q 0 I J) : wp_X7_canAsk Q I J g x z := by
  unfold wp_X7_canAsk
  refine s_canRace hn en (fun cg c => onn (by decide) ?_) (fun c => onp rfl (h0 (fun q => c ⟨q.1, q.2.1⟩)))
  by_cases c1 : z = -1
  · exact onp c1 (h1 cg c (Or.inl c1))
  refine onn c1 ?_
  simp only [q_isHere, en, q_isOf, bi_0, decide_eq_false_iff_not]
  refine two (fun c2 => two (fun c3 => h1 cg c (Or.inr ⟨c2, c3⟩)) (fun c3 => h0 (fun q => ?_))) (fun c2 => h0 (fun q => ?_))
  · rcases q.2.2 with q1 | q1
    · exact c1 q1
    · exact c3 q1.2
  · rcases q.2.2 with q1 | q1
    · exact c1 q1
    · exact c2 q1.1
theorem pr_odds (h : Inv I J) (x y z : Int32) : wp_X7_odds (fun r I1 J1 => wp_X8_odds (fun r2 I2 J2 => r = r2 ∧ Inv I2 J2) I1 J1 x y z) I J x y z := by
  obtain ⟨n, hn, e1, e3, -, -, -⟩ := id h.1
  simp only [Nat.zero_add] at e3
  unfold wp_X7_odds
  refine s_canAsk hn e1 (fun cg c ca => onn (by decide) ?_) (fun c => onp rfl ?_)
  rotate_left
  · have hT := h.thrown
    have e2 : up3 I 8 0 0 0 25 0 168 = nI n := by rw [up3_t (by decide)]; exact e3
    unfold wp_X8_odds
    dsimp only
    rw [q_in]
    simp only [bi_0, decide_eq_false_iff_not]
    refine two (fun cg => s_isField hn e2 (fun q => onn (by decide) ?_) (fun _ => onp rfl ⟨trivial, hT⟩)) (fun _ => ⟨trivial, hT⟩)
    by_cases c1 : z = -1
    · exact absurd ⟨cg, q, Or.inl c1⟩ c
    refine onn c1 ?_
    simp only [q_run hn e2, q_has, bi_0, decide_eq_false_iff_not]
    exact two (fun c2 => two (fun c3 => absurd ⟨cg, q, Or.inr ⟨c2, c3⟩⟩ c) (fun _ => ⟨trivial, hT⟩)) (fun _ => ⟨trivial, hT⟩)
  obtain ⟨s, hs, rfl, hp⟩ := id c
  obtain ⟨g, hg, rfl⟩ := nI_le_ex (j := 2) rfl cg.1 cg.2 (by decide)
  obtain ⟨el, -, -, em⟩ := h.least hn e1 hs hp
  have hp8 := p28 hn
  have hs31 : s < 2 ^ 31 := by omega
  refine s_enter hn e1 hs31 (by omega) (fun I' hE => ?_)
  obtain ⟨t, B, w, l, ht, et, et2, hF, hk⟩ := h.ent hn e1 (by omega) hE
  have hK := hE.keep
  have hI' : Inv I' J := h.keep hK ⟨rfl, rfl⟩
  have hT := hI'.thrown
  -- the model
  have hM : ∀ r : Int64, (z = -1 → r = lz (((2 * t + 1 : Nat) : Int) ^ pcn s n)) → (∀ k, k < n → s / 2 ^ k % 2 = 1 → z = nI k → r = lz (rw1 t l (pcn s n) (pcn s k))) → wp_X8_odds (fun r2 I2 J2 => r = r2 ∧ Inv I2 J2) I' J (nI g) (nI s) z := by
    intro r r1 r2
    have e2 : up3 I' 8 0 0 0 25 0 168 = nI n := by rw [up3_t (by decide), hK.1 25 (by decide)]; exact e3
    have go : J_X8_odds_47 (fun r2 I2 J2 => r = r2 ∧ Inv I2 J2) (up3 I' 8 0 0 0) J (nI g) (nI s) z := by
      refine s_weighs hn e2 hs31 (fun M g1 g2 => ?_)
      have M25 : M 25 = I 25 := by rw [g2 25 (by decide), up3_t (by decide), hK.1 25 (by decide)]
      have M28 : M 28 = I 28 := by rw [g2 28 (by decide), up3_t (by decide), hK.1 28 (by decide)]
      have hKM : Inv M J := hT.keep (keep1 (t0 := 36) (by decide) g2) ⟨rfl, rfl⟩
      rw [up3_t (by decide), hK.1 25 (by decide), el] at g1
      have hMF : MF M n s g t B w l := ⟨hn, hs, by omega, ht, by rw [M25]; exact e3, by rw [M28]; exact et2, fun k hk' => (mbr_eq (g := g) h hn e1 hk' (by omega) M25 M28).2.1, fun k hk' hb => by
        obtain ⟨a1, a2, a3, a4, a5, a6, a7⟩ := hk k hk' hb
        exact ⟨by rw [(mbr_eq h hn e1 hk' (by omega) M25 M28).1]; exact a1, by rw [g1 k hk', em k hk']; exact a4, a7, by omega, by omega, by omega, by omega⟩⟩
      refine s_races hMF (fun J' j1 j2 => ?_)
      have hKJ : Inv M J' := hKM.keep Keep.rf ⟨by rw [j2 8 (by decide)], by rw [j2 7 (by decide)]⟩
      by_cases c1 : z = -1
      · exact onp c1 (s_mallRows hn hs ht (by rw [M28]; exact et2) ⟨r1 c1, hKJ⟩)
      · refine onn c1 ?_
        rcases ca with q | ⟨q1, q2⟩
        · exact absurd q c1
        obtain ⟨k, hk', rfl⟩ := here_ex hn q1
        have hb : s / 2 ^ k % 2 = 1 := by rw [bit_0 hs31 (by omega)] at q2; omega
        refine ⟨vp_in_nI (by omega) (by decide), ?_, hKJ⟩
        rw [nI_clamp (by omega), j1 k hk' hb]
        exact r2 k hk' hb rfl
    unfold wp_X8_odds
    dsimp only
    rw [q_in]
    simp only [bi_0, decide_eq_false_iff_not]
    refine twp cg (s_isField hn e2 (fun _ => onn (by decide) ?_) (fun q => absurd c q))
    by_cases c1 : z = -1
    · exact onp c1 go
    · refine onn c1 ?_
      simp only [q_run hn e2, q_has, bi_0, decide_eq_false_iff_not]
      rcases ca with q | ⟨q1, q2⟩
      · exact absurd q c1
      · exact twp q1 (twp q2 go)
  by_cases c1 : z = -1
  · refine onp c1 (s_allRows hF (hM _ (fun _ => rfl) (fun k hk' _ ez => ?_)))
    rw [c1, iz_nI, show (-1 : Int32) = iz (-1) from rfl, iz_eq (by omega) (by omega) (by omega) (by omega)] at ez
    omega
  · refine onn c1 ?_
    rcases ca with q | ⟨q1, q2⟩
    · exact absurd q c1
    obtain ⟨k, hk', rfl⟩ := here_ex hn q1
    have hb : s / 2 ^ k % 2 = 1 := by rw [bit_0 hs31 (by omega)] at q2; omega
    unfold wp_X7_placeIn
    rw [q_bitCount, bcf_place s (by omega) k (by omega)]
    refine s_rowsFirst hF (pcn_lt hk' hb) (hM _ (fun q => absurd q c1) (fun k2 h1 h2 h3 => ?_))
    obtain rfl : k = k2 := (nI_eq (by omega) (by omega)).mp h3
    rfl
theorem pr_close (h : Inv I J) (x y : Int32) : wp_X7_close (fun r I1 J1 => wp_X8_close (fun r2 I2 J2 => r = r2 ∧ Inv I2 J2) I1 J1 x y) I J x y := by
  obtain ⟨n, hn, e1, e3, -, -, -⟩ := id h.1
  simp only [Nat.zero_add] at e3
  unfold wp_X7_close
  refine s_canRace hn e1 (fun cg c => onn (by decide) ?_) (fun c => onp rfl ?_)
  rotate_left
  · have hT := h.thrown
    have e2 : up3 I 8 0 0 0 25 0 168 = nI n := by rw [up3_t (by decide)]; exact e3
    unfold wp_X8_close
    dsimp only
    rw [q_in]
    simp only [bi_0, decide_eq_false_iff_not]
    exact two (fun cg => s_isField hn e2 (fun q => absurd ⟨cg, q⟩ c) (fun _ => onp rfl ⟨trivial, hT⟩)) (fun _ => ⟨trivial, hT⟩)
  obtain ⟨s, hs, rfl, hp⟩ := id c
  obtain ⟨g, hg, rfl⟩ := nI_le_ex (j := 2) rfl cg.1 cg.2 (by decide)
  obtain ⟨el, -, -, em⟩ := h.least hn e1 hs hp
  have hp8 := p28 hn
  have hs31 : s < 2 ^ 31 := by omega
  refine s_enter hn e1 hs31 (by omega) (fun I' hE => ?_)
  obtain ⟨t, B, w, l, ht, et, et2, hF, hk⟩ := h.ent hn e1 (by omega) hE
  have hK := hE.keep
  have hI' : Inv I' J := h.keep hK ⟨rfl, rfl⟩
  have hT := hI'.thrown
  have hcl := offs_bd (t := t) (m := pcn s n) (l := l) ht hF.1 (pcn s n) hF.1
  show wp_X0_distance _ I' J (lz 1152921504606846976)
  refine s_distance (by decide) (by decide) hF (by omega) (fun D d1 _ _ _ => ?_)
  have hD := d1 (by unfold clo; omega)
  rw [hD]
  have e2 : up3 I' 8 0 0 0 25 0 168 = nI n := by rw [up3_t (by decide), hK.1 25 (by decide)]; exact e3
  unfold wp_X8_close
  dsimp only
  rw [q_in]
  simp only [bi_0, decide_eq_false_iff_not]
  refine twp cg (s_isField hn e2 (fun _ => onn (by decide) ?_) (fun q => absurd c q))
  refine s_weighs hn e2 hs31 (fun M g1 g2 => ?_)
  have M25 : M 25 = I 25 := by rw [g2 25 (by decide), up3_t (by decide), hK.1 25 (by decide)]
  have M28 : M 28 = I 28 := by rw [g2 28 (by decide), up3_t (by decide), hK.1 28 (by decide)]
  have hKM : Inv M J := hT.keep (keep1 (t0 := 36) (by decide) g2) ⟨rfl, rfl⟩
  rw [up3_t (by decide), hK.1 25 (by decide), el] at g1
  have hMF : MF M n s g t B w l := ⟨hn, hs, by omega, ht, by rw [M25]; exact e3, by rw [M28]; exact et2, fun k hk' => (mbr_eq (g := g) h hn e1 hk' (by omega) M25 M28).2.1, fun k hk' hb => by
    obtain ⟨a1, a2, a3, a4, a5, a6, a7⟩ := hk k hk' hb
    exact ⟨by rw [(mbr_eq h hn e1 hk' (by omega) M25 M28).1]; exact a1, by rw [g1 k hk', em k hk']; exact a4, a7, by omega, by omega, by omega, by omega⟩⟩
  refine s_races hMF (fun J' j1 j2 => ?_)
  exact s_closeness hn hs ht (by rw [M25]; exact e3) (by rw [M28]; exact et2) j1 ⟨rfl, hKM.keep Keep.rf ⟨by rw [j2 8 (by decide)], by rw [j2 7 (by decide)]⟩⟩
end ODDS
