section MRCS
variable {I : MI} {J : MJ}
/-- what the model's odds stand on: bare levels B, weights w, the levels l by their order in the set -/
def MF (I : MI) (n s g t : Nat) (B w l : Nat → Int) : Prop := n ≤ 8 ∧ s < 2 ^ n ∧ g < 3 ∧ t ≤ 5 ∧ I 25 0 168 = nI n ∧ I 28 0 0 = nI t ∧ (∀ k, k < n → bd (I 25 0 (21 * k + 2)) 0 2) ∧ ∀ k, k < n → s / 2 ^ k % 2 = 1 → mbr I k g = iz (B k) ∧ I 36 0 k = iz (w k) ∧ l (pcn s k) = B k - w k ∧ -2000 ≤ B k ∧ B k ≤ 2000 ∧ -2000 ≤ w k ∧ w k ≤ 2000
theorem s_prod {Q : MI → MJ → Prop} {C10 : MI → MJ → Int32 → Int32 → Int32 → Int32 → Prop} {C35 : MI → MJ → Int32 → Int32 → Int32 → Int32 → Int32 → Prop} {n s g t i : Nat} {B w l : Nat → Int} {v : Int} {x5 : Int32} (h : MF I n s g t B w l) (hi : i < n) (hb : s / 2 ^ i % 2 = 1) (hv : -20000 ≤ v ∧ v ≤ 20000) (hC : C35 I (up3L J 37 0 i (J 37 0 i + lz (wy t l (pcn s n) (pcn s i) v))) (nI g) (nI s) (nI t) (nI i) (x5 + 1)) : ∃ m : Nat, L_X8_races_76 Q C10 C35 m I J (nI g) (nI s) (nI t) (nI i) x5 (iz v) 1 0 := by
  obtain ⟨hn, hs, hg, ht, e168, e28, hh, hk⟩ := h
  have hp8 := p28 hn
  have hs31 : s < 2 ^ 31 := by omega
  generalize ha : (fun o => Gv t (l o) v) = a
  generalize hbb : (fun o => Gv t (l o) (v - 1)) = b
  have ea : ∀ o, a o = clZ (v - l o + t + 1) t := fun o => by rw [← ha]; rfl
  have eb : ∀ o, b o = clZ (v - 1 - l o + t + 1) t := fun o => by rw [← hbb]; rfl
  have hC' : C35 I (up3L J 37 0 i (J 37 0 i + lz (wq a b (pcn s i) (pcn s n)))) (nI g) (nI s) (nI t) (nI i) (x5 + 1) := by
    rw [← ha, ← hbb]; exact hC
  have key : ∀ (d j : Nat), j + d = n → L_X8_races_76 Q C10 C35 (d + 1) I J (nI g) (nI s) (nI t) (nI i) x5 (iz v) (lz (wq a b (pcn s i) (pcn s j))) (nI j) := by
    intro d
    induction d with
    | zero =>
      intro j e
      obtain rfl : j = n := by omega
      have hv8 : vp_in (nI i) 8 := vp_in_nI (by omega) (by decide)
      refine onp (by rw [e168]; exact nI_le (Nat.le_refl _) (by omega)) ⟨hv8, hv8, ?_⟩
      rw [nI_clamp (by omega)]
      exact hC'
    | succ d ih =>
      intro j e
      have hnx := ih (j + 1) (by omega)
      have ep : pcn s (j + 1) = pcn s j + s / 2 ^ j % 2 := rfl
      have es : ∀ o, wq a b (pcn s i) (o + 1) = wq a b (pcn s i) o * (if o = pcn s i then 1 else if o < pcn s i then b o else a o) := fun _ => rfl
      refine onn (by rw [e168]; exact nI_ge (by omega) (by omega)) ?_
      by_cases c1 : j = i
      · subst c1
        rw [ep, hb, es, if_pos rfl, Int.mul_one] at hnx
        rw [nI_1]
        exact onp rfl hnx
      refine onn (fun q => c1 ((nI_eq (by omega) (by omega)).mp q)) ?_
      rw [q_has]
      simp only [bi_0, decide_eq_false_iff_not]
      rw [bit_0 hs31 (by omega), nI_1]
      by_cases c : s / 2 ^ j % 2 = 1
      · refine twp (by omega) ?_
        obtain ⟨eB, ew, el, b1, b2, w1, w2⟩ := hk j (by omega) c
        rw [ep, c, es] at hnx
        have hpj : pcn s j ≠ pcn s i := by
          rcases Nat.lt_or_ge j i with q | q
          · have := pcn_lt q c; omega
          · have := pcn_lt (show i < j by omega) hb; omega
        rw [if_neg hpj] at hnx
        have go : ∀ s0 : Nat, s0 ≤ 1 → (if pcn s j < pcn s i then b (pcn s j) else a (pcn s j)) = clZ (v - s0 - l (pcn s j) + t + 1) t → J_X8_races_119 Q C10 C35 (L_X8_races_76 Q C10 C35 (d + 1)) I J (nI g) (nI s) (nI t) (nI i) x5 (iz v) (lz (wq a b (pcn s i) (pcn s j))) (nI j) (nI s0) (iz v) := by
          intro s0 hs0 ef
          unfold J_X8_races_119
          refine s_mbare (by omega) hg (hh j (by omega)) ⟨vp_in_nI (by omega) (by decide), fun v18 e18 => ?_⟩
          rw [nI_clamp (by omega), eB, ew, iz_nI, iz_sub, iz_sub, iz_add, show v - (s0 : Int) - B j + w j = v - s0 - l (pcn s j) by rw [el]; omega] at e18
          rw [q_mwithin, e18, two_t, iz_nI t, iz_nI (2 * t + 1), zl1, zl0, iz_add, iz_add]
          have ec : (if iz (v - s0 - l (pcn s j) + t + 1) < iz 0 then iz 0 else if iz ((2 * t + 1 : Nat) : Int) < iz (v - s0 - l (pcn s j) + t + 1) then iz ((2 * t + 1 : Nat) : Int) else iz (v - s0 - l (pcn s j) + t + 1)) = iz (clZ (v - s0 - l (pcn s j) + t + 1) t) := by
            rw [el]
            simp only [iz_lt (show -2147483648 ≤ v - s0 - (B j - w j) + t + 1 by omega) (show v - s0 - (B j - w j) + t + 1 ≤ 2147483647 by omega) (show (-2147483648 : Int) ≤ 0 by decide) (show (0 : Int) ≤ 2147483647 by decide), iz_lt (show -2147483648 ≤ ((2 * t + 1 : Nat) : Int) by omega) (show ((2 * t + 1 : Nat) : Int) ≤ 2147483647 by omega) (show -2147483648 ≤ v - s0 - (B j - w j) + t + 1 by omega) (show v - s0 - (B j - w j) + t + 1 ≤ 2147483647 by omega)]
            unfold clZ
            by_cases q1 : v - s0 - (B j - w j) + t + 1 < 0
            · rw [if_pos q1, if_pos q1]
            · rw [if_neg q1, if_neg q1]
              by_cases q2 : ((2 * t + 1 : Nat) : Int) < v - s0 - (B j - w j) + t + 1
              · rw [if_pos q2, if_pos (show (2 * (t : Int) + 1) < v - s0 - (B j - w j) + t + 1 by omega)]
                exact iz_inj (by omega)
              · rw [if_neg q2, if_neg (show ¬ (2 * (t : Int) + 1) < v - s0 - (B j - w j) + t + 1 by omega)]
          rw [ec]
          have cb := clZ_bd (v - s0 - l (pcn s j) + t + 1) t
          rw [iz_l (by omega) (by omega), lz_mul, ← zl1, nI_1, ← ef]
          exact hnx
        rcases Nat.lt_or_ge j i with q | q
        · have hlt := pcn_lt q c
          refine onn (nI_ge (by omega) (by omega)) (go 1 (by decide) ?_)
          rw [if_pos hlt, eb]
          rfl
        · have hlt := pcn_lt (show i < j by omega) hb
          refine onp (nI_le (by omega) (by omega)) (go 0 (by decide) ?_)
          rw [if_neg (by omega), ea]
          congr 1
          omega
      · rw [ep, show s / 2 ^ j % 2 = 0 by omega, Nat.add_zero] at hnx
        exact twn (by omega) hnx
  exact ⟨n + 1, key n 0 (by omega)⟩
end MRCS
