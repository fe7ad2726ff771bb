section PEVEN
variable {I : MI} {J : MJ}
theorem EV.keep {t m N : Nat} {Bp : Nat → Int} {I' : MI} {J' : MJ} (h : EV I J t m Bp N I' J') : Keep I I' := by
  have c4 := h.2.2.2.2.2.1
  exact ⟨fun t ht => c4 t (fun e => by rw [e] at ht; exact absurd ht (by decide)) (fun e => by rw [e] at ht; exact absurd ht (by decide)), fun r _ => ⟨by rw [c4 4 (by decide) (by decide)], by rw [c4 15 (by decide) (by decide)], by rw [c4 16 (by decide) (by decide)]⟩, by rw [c4 13 (by decide) (by decide)], fun j _ => by rw [c4 29 (by decide) (by decide)], by rw [c4 3 (by decide) (by decide)], by rw [c4 8 (by decide) (by decide)], by rw [c4 8 (by decide) (by decide)]⟩
theorem ME.keep {n s t m N : Nat} {Bp : Nat → Int} {I' : MI} {J' : MJ} (h : ME I J n s t m Bp N I' J') : Keep I I' := by
  have c4 := h.2.2.1
  exact ⟨fun t ht => c4 t (fun e => by rw [e] at ht; exact absurd ht (by decide)) (fun e => by rw [e] at ht; exact absurd ht (by decide)), fun r _ => ⟨by rw [c4 4 (by decide) (by decide)], by rw [c4 15 (by decide) (by decide)], by rw [c4 16 (by decide) (by decide)]⟩, by rw [c4 13 (by decide) (by decide)], fun j _ => by rw [c4 29 (by decide) (by decide)], by rw [c4 3 (by decide) (by decide)], by rw [c4 8 (by decide) (by decide)], by rw [c4 8 (by decide) (by decide)]⟩
theorem evb_ex {t : Nat} {Bp : Nat → Int} {m : Nat} (hm : m = 2 ∨ m = 3) : ∀ N, 1 ≤ N → ∃ b, evb t Bp m N = some b := by
  intro N
  induction N with
  | zero => intro h; exact absurd h (by decide)
  | succ N ih =>
    intro _
    by_cases e : N = 0
    · subst e
      have hok : okN m 0 = true := by rw [ok_iff hm]; exact ⟨0, by omega, by unfold dg; rw [Nat.zero_div]⟩
      exact ⟨0, evb_y (d := 0) hok (Or.inl rfl)⟩
    · obtain ⟨b, hb⟩ := ih (by omega)
      show ∃ b', (if okN m N = true then (match evb t Bp m N with
      | none => some N
      | some b => if vlN t Bp m N < vlN t Bp m b then some N else some b) else evb t Bp m N) = some b'
      rw [hb]
      by_cases c : okN m N = true
      · rw [if_pos c]
        dsimp only
        by_cases c2 : vlN t Bp m N < vlN t Bp m b
        · exact ⟨N, if_pos c2⟩
        · exact ⟨b, if_neg c2⟩
      · exact ⟨b, if_neg c⟩
theorem pr_even (h : Inv I J) (x y z : Int32) : wp_X7_even (fun r I1 J1 => wp_X8_even (fun r2 I2 J2 => r = r2 ∧ Inv I2 J2) I1 J1 x y z) I J x y z := by
  obtain ⟨n, hn, e1, e3, -, -, -⟩ := id h.1
  simp only [Nat.zero_add] at e3
  have hT := h.thrown
  have e2 : up3 I 8 0 0 0 25 0 168 = nI n := by rw [up3_t (by decide)]; exact e3
  unfold wp_X7_even
  refine s_canAsk hn e1 (fun cg c ca => onn (by decide) ?_) (fun c => onp rfl ?_)
  rotate_left
  · unfold wp_X8_even
    dsimp only
    rw [q_in]
    simp only [bi_0, decide_eq_false_iff_not]
    refine two (fun cg => s_isField hn e2 (fun q => onn (by decide) ?_) (fun _ => onp rfl ⟨trivial, hT⟩)) (fun _ => ⟨trivial, hT⟩)
    by_cases c1 : z = -1
    · exact absurd ⟨cg, q, Or.inl c1⟩ c
    refine onn c1 ?_
    simp only [q_run hn e2, q_has, bi_0, decide_eq_false_iff_not]
    exact two (fun c2 => two (fun c3 => absurd ⟨cg, q, Or.inr ⟨c2, c3⟩⟩ c) (fun _ => ⟨trivial, hT⟩)) (fun _ => ⟨trivial, hT⟩)
  obtain ⟨s, hs, rfl, hp⟩ := id c
  obtain ⟨g, hg, rfl⟩ := nI_le_ex (j := 2) rfl cg.1 cg.2 (by decide)
  have hp8 := p28 hn
  have hs31 : s < 2 ^ 31 := by omega
  have hpn := pcn_le s n
  -- the model, once more, at any memory with the tie
  have hM : ∀ (I' : MI) (J' : MJ) (r : Int64), I' 25 0 168 = nI n → J_X8_even_47 (fun r2 I2 J2 => r = r2 ∧ Inv I2 J2) (up3 I' 8 0 0 0) J' (nI g) (nI s) z → wp_X8_even (fun r2 I2 J2 => r = r2 ∧ Inv I2 J2) I' J' (nI g) (nI s) z := by
    intro I' J' r en go
    have e2' : up3 I' 8 0 0 0 25 0 168 = nI n := by rw [up3_t (by decide)]; exact en
    unfold wp_X8_even
    dsimp only
    rw [q_in]
    simp only [bi_0, decide_eq_false_iff_not]
    refine twp cg (s_isField hn e2' (fun _ => onn (by decide) ?_) (fun q => absurd c q))
    by_cases c1 : z = -1
    · exact onp c1 go
    · refine onn c1 ?_
      simp only [q_run hn e2', q_has, bi_0, decide_eq_false_iff_not]
      rcases ca with q | ⟨q1, q2⟩
      · exact absurd q c1
      · exact twp q1 (twp q2 go)
  rw [q_bitCount, bcf_pc s (by omega), pcn_hi hs 10 (by omega)]
  by_cases c3 : pcn s n ≤ 3
  rotate_left
  · refine onn (fun q => c3 ((nI_leI (b := 3) (by omega) (by omega)).mp q)) (hM I J _ e3 (s_ones hs31 ?_))
    rw [pcn_hi hs 8 hn]
    exact onn (fun q => c3 ((nI_leI (b := 3) (by omega) (by omega)).mp q)) ⟨rfl, hT⟩
  refine onp ((nI_leI (b := 3) (by omega) (by omega)).mpr c3) ?_
  refine s_enter hn e1 hs31 (by omega) (fun I' hE => ?_)
  obtain ⟨t, B, w, l, ht, et, et2, hF, hk⟩ := h.ent hn e1 (by omega) hE
  have hK := hE.keep
  have hI' : Inv I' J := h.keep hK ⟨rfl, rfl⟩
  have hm : pcn s n = 2 ∨ pcn s n = 3 := by omega
  -- the bare levels by place
  generalize hBp : (fun p => (I' 9 0 p).toInt) = Bp
  have eBp : ∀ p, Bp p = (I' 9 0 p).toInt := fun p => by rw [← hBp]
  have hBk : ∀ k, k < n → s / 2 ^ k % 2 = 1 → Bp (pcn s k) = B k ∧ -100 ≤ B k ∧ B k ≤ 300 := fun k hk' hb => by
    obtain ⟨a1, a2, a3, -⟩ := hk k hk' hb
    refine ⟨?_, a2, a3⟩
    rw [eBp, (hE.2.2.1 k hk' hb).1, a1, iz_toInt (by omega) (by omega)]
  have hBb : ∀ p, p < pcn s n → -1000 ≤ Bp p ∧ Bp p ≤ 1000 := fun p hp => by
    obtain ⟨k, k1, k2, rfl⟩ := pcn_inv n hp
    have := hBk k k1 k2
    omega
  refine s_seekEven (m := pcn s n) (Bp := Bp) ht hm hBb hF.2.2.1 hF.2.2.2.1 (fun p hp => by rw [eBp, iz_of]) (fun I2 J2 hV => ?_)
  have hK2 := hV.keep
  obtain ⟨-, -, -, v4, v5, v6, v7⟩ := id hV
  have hI2 : Inv I2 J2 := hI'.keep hK2 ⟨by rw [v7 8 (by decide)], by rw [v7 7 (by decide)]⟩
  have hT2 := hI2.thrown
  have n2 : I2 25 0 168 = nI n := by rw [hK2.1 25 (by decide), hK.1 25 (by decide)]; exact e3
  have M25 : up3 I2 8 0 0 0 25 = I 25 := by rw [up3_t (by decide), hK2.1 25 (by decide), hK.1 25 (by decide)]
  have M28 : up3 I2 8 0 0 0 28 = I 28 := by rw [up3_t (by decide), hK2.1 28 (by decide), hK.1 28 (by decide)]
  have hG : MG (up3 I2 8 0 0 0) n s g t (pcn s n) B Bp := ⟨hn, hs, by omega, ht, by rw [M25]; exact e3, by rw [M28]; exact et2, rfl, hm, fun k hk' => (mbr_eq (g := g) h hn e1 hk' (by omega) M25 M28).2.1, fun k hk' hb => by
    obtain ⟨a1, a2, a3⟩ := hBk k hk' hb
    exact ⟨by rw [(mbr_eq h hn e1 hk' (by omega) M25 M28).1]; exact (hk k hk' hb).1, a1, by omega, by omega⟩⟩
  obtain ⟨b, hb⟩ := evb_ex (t := t) (Bp := Bp) hm (cnt2 (pcn s n) 21 0) (by unfold cnt2; split <;> omega)
  have hM2 : ∀ r : Int64, (z = -1 → r = lz (vlN t Bp (pcn s n) b)) → (∀ k, k < n → s / 2 ^ k % 2 = 1 → z = nI k → r = (nI (dg (pcn s n) b (pcn s k))).toInt64) → wp_X8_even (fun r2 I2 J2 => r = r2 ∧ Inv I2 J2) I2 J2 (nI g) (nI s) z := by
    intro r r1 r2
    refine hM I2 J2 r n2 (s_ones hs31 ?_)
    rw [pcn_hi hs 8 hn]
    refine onp ((nI_leI (b := 3) (by omega) (by omega)).mpr c3) (s_evens hG (fun I3 J3 h3 => ?_))
    have hI3 : Inv I3 J3 := hT2.keep h3.keep ⟨h3.2.2.2.2, by rw [h3.2.2.2.1 7 (by decide) (by decide)]⟩
    by_cases c1 : z = -1
    · refine onp c1 ⟨?_, hI3⟩
      rw [h3.1, hb]
      exact r1 c1
    · refine onn c1 ?_
      rcases ca with q | ⟨q1, q2⟩
      · exact absurd q c1
      obtain ⟨k, hk', rfl⟩ := here_ex hn q1
      have hbit : s / 2 ^ k % 2 = 1 := by rw [bit_0 hs31 (by omega)] at q2; omega
      refine ⟨vp_in_nI (by omega) (by decide), ?_, hI3⟩
      rw [nI_clamp (by omega), h3.2.1 b hb k hk' hbit]
      exact r2 k hk' hbit rfl
  by_cases c1 : z = -1
  · refine onp c1 (hM2 _ (fun _ => by rw [v4, hb]; rfl) (fun k hk' _ ez => ?_))
    rw [c1, iz_nI, show (-1 : Int32) = iz (-1) from rfl, iz_eq (by omega) (by omega) (by omega) (by omega)] at ez
    omega
  · refine onn c1 ?_
    rcases ca with q | ⟨q1, q2⟩
    · exact absurd q c1
    obtain ⟨k, hk', rfl⟩ := here_ex hn q1
    have hbit : s / 2 ^ k % 2 = 1 := by rw [bit_0 hs31 (by omega)] at q2; omega
    have hlt := pcn_lt hk' hbit
    unfold wp_X7_placeIn
    rw [q_bitCount, bcf_place s (by omega) k (by omega)]
    refine ⟨vp_in_nI (by omega) (by decide), ?_⟩
    rw [nI_clamp (by omega), v5 b hb _ hlt]
    refine hM2 _ (fun q => absurd q c1) (fun k2 h1 h2 h3 => ?_)
    obtain rfl : k = k2 := (nI_eq (by omega) (by omega)).mp h3
    rfl
end PEVEN
