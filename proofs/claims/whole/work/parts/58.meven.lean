section MEVEN
variable {I : MI} {J : MJ}
/-- the model while the closest weights are sought -/
def ME (I : MI) (J : MJ) (n s t m : Nat) (Bp : Nat → Int) (N : Nat) (I' : MI) (J' : MJ) : Prop :=
  J' 8 0 24 = lz (oV t Bp m (-1) (evb t Bp m N)) ∧ (∀ b, evb t Bp m N = some b → ∀ k, k < n → s / 2 ^ k % 2 = 1 → I' 38 0 k = nI (dg m b (pcn s k))) ∧ (∀ t, t ≠ 36 → t ≠ 38 → I' t = I t) ∧ (∀ t, t ≠ 8 → t ≠ 37 → J' t = J t) ∧ J' 8 0 1 = J 8 0 1
/-- what the search stands on -/
def MG (I : MI) (n s g t m : Nat) (B Bp : Nat → Int) : Prop := n ≤ 8 ∧ s < 2 ^ n ∧ g < 3 ∧ t ≤ 5 ∧ I 25 0 168 = nI n ∧ I 28 0 0 = nI t ∧ pcn s n = m ∧ (m = 2 ∨ m = 3) ∧ (∀ k, k < n → bd (I 25 0 (21 * k + 2)) 0 2) ∧ ∀ k, k < n → s / 2 ^ k % 2 = 1 → mbr I k g = iz (B k) ∧ Bp (pcn s k) = B k ∧ -1000 ≤ B k ∧ B k ≤ 1000
theorem s_e161 {Q : MI → MJ → Prop} {C31 : MI → MJ → Int32 → Int32 → Int32 → Int32 → Prop} {x1 x2 x4 x5 : Int32} (hC : ∀ I2, (∀ k, k < 8 → I2 38 0 k = I 36 0 k) → (∀ t, t ≠ 38 → I2 t = I t) → C31 I2 J x1 x2 x4 (x5 + 1)) : ∃ k : Nat, L_X8_evens_161 Q C31 k I J x1 x2 x4 x5 0 := by
  have key : ∀ (d j : Nat) (I2 : MI), j + d = 8 → (∀ k, k < j → I2 38 0 k = I 36 0 k) → (∀ t, t ≠ 38 → I2 t = I t) → L_X8_evens_161 Q C31 (d + 1) I2 J x1 x2 x4 x5 (nI j) := by
    intro d
    induction d with
    | zero =>
      intro j I2 e h1 h2
      obtain rfl : j = 8 := by omega
      exact onp (by decide) (hC I2 h1 h2)
    | succ d ih =>
      intro j I2 e h1 h2
      have hv : vp_in (nI j) 8 := vp_in_nI (by omega) (by decide)
      refine onn (fun q => absurd ((nI_leI (a := 8) (by omega) (by omega)).mp q) (by omega)) ⟨hv, hv, ?_⟩
      rw [nI_clamp (by omega), nI_1]
      refine ih (j + 1) _ (by omega) (fun k hk => ?_) (fun t ht => by rw [up3_t ht]; exact h2 t ht)
      by_cases e1 : k = j
      · subst e1; rw [up3_y, h2 36 (by decide)]
      · rw [up3_n (by omega)]; exact h1 k (by omega)
  exact ⟨9, key 8 0 I (by omega) (fun k hk => absurd hk (by omega)) (fun _ _ => rfl)⟩
theorem rem21 {a : Nat} (ha : a < 2 ^ 31) : nI a - nI a / 21 * 21 = nI (a % 21) := by
  rw [show (21 : Int32) = nI 21 from rfl, pk_rem (by omega) (by decide) (by decide)]
theorem div21 {a : Nat} (ha : a < 2 ^ 31) : nI a / 21 = nI (a / 21) := by
  rw [show (21 : Int32) = nI 21 from rfl, pk_div (by omega) (by decide) (by decide)]
theorem s_e50 {Q : MI → MJ → Prop} {C31 : MI → MJ → Int32 → Int32 → Int32 → Int32 → Prop} {n s g t m N : Nat} {B Bp : Nat → Int} {x4 : Int32} {I' : MI} {J' : MJ} (hG : MG I n s g t m B Bp) (hN : N < 9261) (h : ME I J n s t m Bp N I' J') (hC : ∀ I2 J2, ME I J n s t m Bp (N + 1) I2 J2 → C31 I2 J2 (nI g) (nI s) x4 (nI N + 1)) : ∃ k : Nat, L_X8_evens_50 Q C31 k I' J' (nI g) (nI s) x4 (nI N) (nI N) 21 7 := by
  obtain ⟨hn, hs, hg, ht, e168, e28, hpn, hm, hh, hk⟩ := id hG
  obtain ⟨m1, m2, m3, m4, m5⟩ := id h
  have hp8 := p28 hn
  have hs31 : s < 2 ^ 31 := by omega
  have hm8 : pcn s 8 = m := by rw [pcn_hi hs 8 hn]; exact hpn
  have key : ∀ (i : Nat) (I2 : MI) (L : Nat), i ≤ 8 → (∀ t, t ≠ 36 → I2 t = I' t) → (∀ k, i ≤ k → k < 8 → s / 2 ^ k % 2 = 1 → I2 36 0 k = nI (dg m N (pcn s k))) → L ≤ 21 → (L = 0 ↔ ∃ p, pcn s i ≤ p ∧ p < m ∧ dg m N p = 0) → L_X8_evens_50 Q C31 (i + 1) I2 J' (nI g) (nI s) x4 (nI N) (nI (N / 21 ^ (m - pcn s i))) (nI L) (iz ((i : Int) - 1)) := by
    intro i
    induction i with
    | zero =>
      intro I2 L _ h1 h2 hL hL0
      refine onp (by decide) ?_
      have o2 : ∀ t, t ≠ 36 → t ≠ 38 → I2 t = I t := fun t r1 r2 => by rw [h1 t r1]; exact m3 t r1 r2
      have i25 : I2 25 = I 25 := o2 25 (by decide) (by decide)
      have i28 : I2 28 = I 28 := o2 28 (by decide) (by decide)
      have hL1 : L = 0 ↔ okN m N = true := by
        rw [hL0, ok_iff hm]
        exact ⟨fun ⟨p, _, q1, q2⟩ => ⟨p, q1, q2⟩, fun ⟨p, q1, q2⟩ => ⟨p, Nat.zero_le _, q1, q2⟩⟩
      by_cases c : L = 0
      · have hok := hL1.mp c
        refine onp (by rw [c]; rfl) ?_
        have hMF : MF I2 n s g t B (fun k => (dg m N (pcn s k) : Int)) (fun p => Bp p - dg m N p) := ⟨hn, hs, hg, ht, by rw [i25]; exact e168, by rw [i28]; exact e28, fun k hk' => by rw [i25]; exact hh k hk', fun k hk' hb => by
          obtain ⟨a1, a2, a3, a4⟩ := hk k hk' hb
          have hd := dg_lt m N (pcn s k)
          refine ⟨by unfold mbr at a1 ⊢; rw [i25, i28]; exact a1, by rw [h2 k (by omega) (by omega) hb, iz_nI], by dsimp only; rw [a2], by omega, by omega, by dsimp only; omega, by dsimp only; omega⟩⟩
        refine s_races hMF (fun J2 j1 j2 => ?_)
        refine s_closeness hn hs ht (by rw [i25]; exact e168) (by rw [i28]; exact e28) j1 ?_
        have j8 : J2 8 0 24 = lz (oV t Bp m (-1) (evb t Bp m N)) := by rw [j2 8 (by decide)]; exact m1
        rw [hpn]
        show (lg_cmp (J2 8 0 24) 0 < 0 → J_X8_evens_152 Q C31 I2 J2 (nI g) (nI s) x4 (nI N) (lz (vlN t Bp m N))) ∧ (¬ (lg_cmp (J2 8 0 24) 0 < 0) → (0 ≤ lg_cmp (lz (vlN t Bp m N)) (J2 8 0 24) → C31 I2 J2 (nI g) (nI s) x4 (nI N + 1)) ∧ (¬ (0 ≤ lg_cmp (lz (vlN t Bp m N)) (J2 8 0 24)) → J_X8_evens_152 Q C31 I2 J2 (nI g) (nI s) x4 (nI N) (lz (vlN t Bp m N))))
        have hv := vl_bd (t := t) (m := m) (N := N) (Bp := Bp) ht (by omega)
        have hE : -1 ≤ oV t Bp m (-1) (evb t Bp m N) ∧ oV t Bp m (-1) (evb t Bp m N) ≤ 150908652224 ∧ (evb t Bp m N = none → oV t Bp m (-1) (evb t Bp m N) = -1) ∧ (¬ evb t Bp m N = none → 0 ≤ oV t Bp m (-1) (evb t Bp m N)) := by
          cases hb : evb t Bp m N with
          | none => exact ⟨by show (-1 : Int) ≤ -1; decide, by show (-1 : Int) ≤ _; decide, fun _ => rfl, fun q => absurd rfl q⟩
          | some b =>
            have := vl_bd (t := t) (m := m) (N := b) (Bp := Bp) ht (by omega)
            exact ⟨by show -1 ≤ vlN t Bp m b; omega, this.2, fun q => by simp at q, fun _ => this.1⟩
        obtain ⟨q1, q2, q3, q4⟩ := hE
        rw [j8, ll0, ← Int32.not_le, cmp_ge (by omega) (by omega) (by omega) (by omega), cmp_ge (by omega) (by omega) (by omega) (by omega)]
        have put : evb t Bp m (N + 1) = some N → J_X8_evens_152 Q C31 I2 J2 (nI g) (nI s) x4 (nI N) (lz (vlN t Bp m N)) := fun eb => by
          unfold J_X8_evens_152
          refine s_e161 (fun I3 f1 f2 => hC _ _ ?_)
          unfold ME
          rw [eb]
          refine ⟨up3L_y, fun b hb k hk' hbit => ?_, fun t r1 r2 => by rw [f2 t r2]; exact o2 t r1 r2, fun t r1 r2 => by rw [up3L_t r1, j2 t r2]; exact m4 t r1 r2, by rw [up3L_n (by decide), j2 8 (by decide)]; exact m5⟩
          simp only [Option.some.injEq] at hb
          subst hb
          rw [f1 k (by omega), h2 k (by omega) (by omega) hbit]
        by_cases c1 : evb t Bp m N = none
        · exact onp (by rw [q3 c1]; decide) (put (evb_y (d := 0) hok (Or.inl c1)))
        · refine onn (fun q => q (q4 c1)) ?_
          by_cases c2 : oV t Bp m (-1) (evb t Bp m N) ≤ vlN t Bp m N
          · refine onp c2 (hC _ _ ?_)
            have eb := evb_n (t := t) (Bp := Bp) (d := -1) hok c1 (by omega)
            unfold ME
            rw [eb]
            exact ⟨j8, fun b hb k hk' hbit => by rw [h1 38 (by decide)]; exact m2 b hb k hk' hbit, o2, fun t r1 r2 => by rw [j2 t r2]; exact m4 t r1 r2, by rw [j2 8 (by decide)]; exact m5⟩
          · exact onn c2 (put (evb_y (d := -1) hok (Or.inr (by omega))))
      · refine onn (fun q => c ((nI_eq (b := 0) (by omega) (by omega)).mp q)) (hC _ _ ?_)
        have hok : okN m N = false := by rw [Bool.eq_false_iff]; exact fun q => c (hL1.mpr q)
        have eb := evb_skip (t := t) (Bp := Bp) (m := m) (N := N) 1 (fun i hi => by obtain rfl : i = 0 := by omega
                                                                                    exact hok)
        unfold ME
        rw [eb]
        exact ⟨m1, fun b hb k hk' hbit => by rw [h1 38 (by decide)]; exact m2 b hb k hk' hbit, o2, m4, m5⟩
    | succ j ih =>
      intro I2 L hj h1 h2 hL hL0
      have ex : iz (((j + 1 : Nat) : Int) - 1) = nI j := by rw [iz_nI]; exact iz_inj (by omega)
      rw [ex]
      refine onn (fun q => absurd ((nI_ltI (b := 0) (by omega) (by omega)).mp q) (by omega)) ?_
      rw [q_has]
      simp only [bi_0, decide_eq_false_iff_not]
      rw [bit_0 hs31 (by omega), show nI j + -1 = iz ((j : Int) - 1) by rw [iz_nI, show (-1 : Int32) = iz (-1) from rfl, iz_add]; exact iz_inj (by omega)]
      have ep : pcn s (j + 1) = pcn s j + s / 2 ^ j % 2 := rfl
      by_cases hb : s / 2 ^ j % 2 = 1
      · have hv : vp_in (nI j) 8 := vp_in_nI (by omega) (by decide)
        have hlt : pcn s j < m := by rw [← hm8]; exact pcn_lt (by omega) hb
        have hR : N / 21 ^ (m - pcn s (j + 1)) < 2 ^ 31 := Nat.lt_of_le_of_lt (Nat.div_le_self _ _) (by omega)
        have ed : N / 21 ^ (m - pcn s (j + 1)) % 21 = dg m N (pcn s j) := by
          unfold dg
          rw [show m - pcn s (j + 1) = m - 1 - pcn s j by omega]
        have er : N / 21 ^ (m - pcn s (j + 1)) / 21 = N / 21 ^ (m - pcn s j) := by
          rw [Nat.div_div_eq_div_mul, ← Nat.pow_succ, show (m - pcn s (j + 1)).succ = m - pcn s j by omega]
        have hdl := dg_lt m N (pcn s j)
        refine twp (by omega) ⟨hv, hv, ?_⟩
        rw [nI_clamp (by omega), rem21 hR, div21 hR, up3_y, ed, er]
        have nx : ∀ L' : Nat, L' ≤ 21 → (L' = 0 ↔ L = 0 ∨ dg m N (pcn s j) = 0) → L_X8_evens_50 Q C31 (j + 1) (up3 I2 36 0 j (nI (dg m N (pcn s j)))) J' (nI g) (nI s) x4 (nI N) (nI (N / 21 ^ (m - pcn s j))) (nI L') (iz ((j : Int) - 1)) := by
          intro L' hL' hz
          refine ih _ L' (by omega) (fun t r => by rw [up3_t r]; exact h1 t r) (fun k hk1 hk2 hbit => ?_) hL' ?_
          · by_cases e1 : k = j
            · subst e1; rw [up3_y]
            · rw [up3_n (by omega)]; exact h2 k (by omega) hk2 hbit
          · rw [hz, hL0]
            constructor
            · rintro (⟨p, a1, a2, a3⟩ | q)
              · exact ⟨p, by omega, a2, a3⟩
              · exact ⟨pcn s j, Nat.le_refl _, hlt, q⟩
            · rintro ⟨p, a1, a2, a3⟩
              by_cases e1 : p = pcn s j
              · right; rw [← e1]; exact a3
              · exact Or.inl ⟨p, by omega, a2, a3⟩
        by_cases c : L ≤ dg m N (pcn s j)
        · exact onp (nI_le c (by omega)) (nx L hL (by omega))
        · refine onn (nI_ge (by omega) (by omega)) ⟨hv, fun v hv' => ?_⟩
          rw [hv']
          exact nx _ (by omega) (by omega)
      · refine twn (by omega) ?_
        have e0 : pcn s (j + 1) = pcn s j := by omega
        rw [e0] at hL0 ⊢
        refine ih I2 L (by omega) h1 (fun k hk1 hk2 hbit => ?_) hL hL0
        by_cases e1 : k = j
        · subst e1; exact absurd hbit hb
        · exact h2 k (by omega) hk2 hbit
  have h8 := key 8 I' 21 (Nat.le_refl _) (fun _ _ => rfl) (fun k h1 h2 => absurd h2 (by omega)) (Nat.le_refl _) ⟨fun q => absurd q (by decide), fun ⟨p, a1, a2, _⟩ => by omega⟩
  rw [hm8, Nat.sub_self, Nat.pow_zero, Nat.div_one] at h8
  exact ⟨9, h8⟩
theorem s_evens {Q : MI → MJ → Prop} {n s g t m : Nat} {B Bp : Nat → Int} (hG : MG I n s g t m B Bp) (hQ : ∀ I2 J2, ME I J n s t m Bp (cnt2 m 21 0) I2 J2 → Q I2 J2) : wp_X8_evens Q I J (nI g) (nI s) := by
  obtain ⟨hn, hs, hg, ht, e168, e28, hpn, hm, hh, hk⟩ := id hG
  have hp8 := p28 hn
  refine s_ones (by omega) ?_
  rw [pcn_hi hs 8 hn, hpn]
  have h0 : ME I J n s t m Bp 0 I (up3L J 8 0 24 (-1)) := ⟨up3L_y, fun b hb => absurd hb (by simp [evb]), fun _ _ _ => rfl, fun t r _ => up3L_t r, up3L_n (by decide)⟩
  have key : ∀ (R : Nat), R ≤ 9261 → R = cnt2 m 21 0 → ∀ (d N : Nat) (I2 : MI) (J2 : MJ), N + d = R → ME I J n s t m Bp N I2 J2 → L_X8_evens_31 Q (d + 1) I2 J2 (nI g) (nI s) (nI R) (nI N) := by
    intro R hR eR d
    induction d with
    | zero =>
      intro N I2 J2 e h2
      refine onp (nI_le (by omega) (by omega)) (hQ I2 J2 ?_)
      rw [← eR, ← e]
      exact h2
    | succ d ih =>
      intro N I2 J2 e h2
      refine onn (nI_ge (by omega) (by omega)) (s_e50 hG (by omega) h2 (fun I3 J3 h3 => ?_))
      rw [nI_1]
      exact ih (N + 1) I3 J3 (by omega) h3
  rcases hm with rfl | rfl
  · exact onp rfl ⟨442, key 441 (by decide) rfl 441 0 I _ (by omega) h0⟩
  · exact onn (by decide) ⟨9262, key 9261 (by decide) rfl 9261 0 I _ (by omega) h0⟩
end MEVEN
