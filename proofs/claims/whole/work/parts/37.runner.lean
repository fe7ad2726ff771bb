section RNR
variable {I : MI} {J : MJ}
/-- begin: what a new runner is -/
def Beg (I I' : MI) (r : Nat) (x : Int32) : Prop := I' 4 r 2 = x ∧ I' 4 r 3 = x ∧ I' 4 r 4 = 0 ∧ I' 4 r 5 = 0 ∧ I' 4 r 6 = 0 ∧ I' 4 r 7 = 0 ∧ (∀ j, j < 3 → I' 15 r j = 0) ∧ ∀ t r', ¬ (r' = r ∧ (t = 4 ∨ t = 15)) → I' t r' = I t r'
theorem s_begin {Q : MI → MJ → Prop} {r : Nat} {x : Int32} (hQ : ∀ I', Beg I I' r x → Q I' J) : wp_X4_begin Q I J r x := by
  unfold wp_X4_begin
  generalize hI : (up3 (up3 (up3 (up3 (up3 (up3 I 4 r 2 x) 4 r 3 x) 4 r 4 0) 4 r 5 0) 4 r 6 0) 4 r 7 0) = I1
  refine ⟨4, onn (by decide) ⟨vin_k (by decide), onn (by decide) ⟨vin_k (by decide), onn (by decide) ⟨vin_k (by decide), onp (by decide) (hQ _ ?_)⟩⟩⟩⟩
  rw [show (0 : Int32).toNatClampNeg = 0 by decide, show (0 + 1 : Int32).toNatClampNeg = 1 by decide, show (0 + 1 + 1 : Int32).toNatClampNeg = 2 by decide]
  have g4 : up3 (up3 (up3 I1 15 r 0 0) 15 r 1 0) 15 r 2 0 4 = I1 4 := by rw [up3_t (by decide), up3_t (by decide), up3_t (by decide)]
  refine ⟨?_, ?_, ?_, ?_, ?_, ?_, fun j hj => ?_, fun t r' h => ?_⟩
  · rw [g4, ← hI, up3_n (by simp), up3_n (by simp), up3_n (by simp), up3_n (by simp), up3_n (by simp), up3_y]
  · rw [g4, ← hI, up3_n (by simp), up3_n (by simp), up3_n (by simp), up3_n (by simp), up3_y]
  · rw [g4, ← hI, up3_n (by simp), up3_n (by simp), up3_n (by simp), up3_y]
  · rw [g4, ← hI, up3_n (by simp), up3_n (by simp), up3_y]
  · rw [g4, ← hI, up3_n (by simp), up3_y]
  · rw [g4, ← hI, up3_y]
  · rcases (show j = 0 ∨ j = 1 ∨ j = 2 by omega) with rfl | rfl | rfl
    · rw [up3_n (by simp), up3_n (by simp), up3_y]
    · rw [up3_n (by simp), up3_y]
    · rw [up3_y]
  · rw [up3_o (by omega), up3_o (by omega), up3_o (by omega), ← hI, up3_o (by omega), up3_o (by omega), up3_o (by omega), up3_o (by omega), up3_o (by omega), up3_o (by omega)]
/-- the model's loop: a block of 21 places -/
theorem s_mrunner {Q : Int32 → MI → MJ → Prop} {x : Int32} {n : Nat} (hn : n < 8) (hn1 : I 25 0 168 = nI n)
    (hQ : ∀ I', (∀ j, j < 21 → I' 25 0 (21 * n + j) = if j < 2 then x else 0) → (∀ j, ¬ (21 * n ≤ j ∧ j < 21 * n + 21) → I' 25 0 j = I 25 0 j) → (∀ t, t ≠ 25 → I' t = I t) → Q (nI n) (up3 I' 25 0 168 (nI (n + 1))) J) :
    ∃ m : Nat, L_X8_runner_48 Q m I J x (21 * I 25 0 168) 0 := by
  rw [hn1, show (21 : Int32) * nI n = nI (21 * n) by rw [show (21 : Int32) = nI 21 from rfl, pk_mul]]
  have key : ∀ (k j : Nat) (I' : MI), j + k = 21 → (∀ i, i < j → I' 25 0 (21 * n + i) = if i < 2 then x else 0) → (∀ i, ¬ (21 * n ≤ i ∧ i < 21 * n + j) → I' 25 0 i = I 25 0 i) → (∀ t, t ≠ 25 → I' t = I t) → L_X8_runner_48 Q (k + 1) I' J x (nI (21 * n)) (nI j) := by
    intro k
    induction k with
    | zero =>
      intro j I' e h1 h2 h3
      obtain rfl : j = 21 := by omega
      refine onp (by decide) ?_
      have e168 : I' 25 0 168 = nI n := by rw [h2 168 (by omega)]; exact hn1
      rw [up3_y, e168, nI_1, nI_pred]
      exact hQ I' h1 h2 h3
    | succ k ih =>
      intro j I' e h1 h2 h3
      have hj : j < 21 := by omega
      have c1 : ¬ (21 : Int32) ≤ nI j := fun q => absurd ((nI_leI (a := 21) (by omega) (by omega)).mp q) (by omega)
      have ei : nI (21 * n) + nI j = nI (21 * n + j) := nI_add _ _
      have hv : vp_in (nI (21 * n) + nI j) 171 := by rw [ei]; exact vp_in_nI (by omega) (by decide)
      have hcl : (nI (21 * n) + nI j).toNatClampNeg = 21 * n + j := by rw [ei, nI_clamp (by omega)]
      have go : ∀ v : Int32, v = (if j < 2 then x else 0) → L_X8_runner_48 Q (k + 1) (up3 I' 25 0 (nI (21 * n) + nI j).toNatClampNeg v) J x (nI (21 * n)) (nI j + 1) := by
        intro v hv'
        rw [hcl, nI_1]
        refine ih (j + 1) _ (by omega) (fun i hi => ?_) (fun i hi => ?_) (fun t ht => ?_)
        · by_cases e2 : i = j
          · rw [e2, up3_y]; exact hv'
          · rw [up3_n (by omega)]; exact h1 i (by omega)
        · rw [up3_n (by omega)]; exact h2 i (by omega)
        · rw [up3_t ht]; exact h3 t ht
      refine onn c1 ?_
      by_cases h2j : j < 2
      · exact onn (fun q => absurd ((nI_leI (a := 2) (by omega) (by omega)).mp q) (by omega)) ⟨hv, go x (by rw [if_pos h2j])⟩
      · exact onp ((nI_leI (a := 2) (by omega) (by omega)).mpr (by omega)) ⟨hv, go 0 (by rw [if_neg h2j])⟩
  exact ⟨22, key 21 0 I (by omega) (fun i hi => absurd hi (by omega)) (fun _ _ => rfl) (fun _ _ => rfl)⟩
theorem pr_runner (h : Inv I J) (x : Int32) : wp_X7_runner (fun r I1 J1 => wp_X8_runner (fun r2 I2 J2 => r = r2 ∧ Inv I2 J2) I1 J1 x) I J x := by
  obtain ⟨n, hn, e1, e3, y4, y5, hr⟩ := id h.1
  have hT := h.thrown
  have t25 : up3 I 8 0 0 0 25 0 168 = nI n := by rw [up3_t (by decide)]; exact e3
  unfold wp_X7_runner wp_X8_runner
  simp only [q_within, q_in, bi_0, decide_eq_false_iff_not]
  refine two (fun c => ?_) (fun c => twn c ⟨trivial, hT⟩)
  by_cases hn8 : n = 8
  · subst hn8
    rw [e1]
    exact onn (by decide) (twp c (onp t25 ⟨trivial, hT⟩))
  have hn7 : n < 8 := by omega
  have hbx : bd x 0 200 := (bd_le (by decide) (by decide) (by decide) (by decide)).mpr c
  rw [e1, nI_clamp (by omega)]
  refine onp ((nI_ltI (b := 8) (by omega) (by omega)).mpr hn7) ⟨vp_in_nI (by omega) (by decide), s_begin (fun I1 hb => ?_)⟩
  simp only [Nat.mul_zero, Nat.zero_add] at hb
  obtain ⟨b2, b3, b4, b5, b6, b7, b15, bo⟩ := hb
  have f6 : I1 6 0 1 = nI n := by rw [bo 6 0 (by omega)]; exact e1
  rw [f6, up3_y, nI_1, nI_pred]
  refine twp c ?_
  have g25 : up3 (up3 I1 6 0 1 (nI (n + 1))) 8 0 0 0 25 0 168 = nI n := by rw [up3_t (by decide), up3_t (by decide), bo 25 0 (by omega)]; exact e3
  refine onn (by rw [g25]; exact fun q => absurd ((nI_eq (b := 8) (by omega) (by omega)).mp q) (by omega)) (s_mrunner hn7 g25 (fun I2 h1 h2 h3 => ⟨rfl, ?_⟩))
  have k25 : ∀ j, ¬ (21 * n ≤ j ∧ j < 21 * n + 21) → I2 25 0 j = I 25 0 j := fun j hj => by rw [h2 j hj, up3_t (by decide), up3_t (by decide), bo 25 0 (by omega)]
  have ko : ∀ t r, t ≠ 25 → t ≠ 6 → t ≠ 8 → ¬ (r = n ∧ (t = 4 ∨ t = 15)) → I2 t r = I t r := fun t r q1 q2 q3 q4 => by rw [h3 t q1, up3_t q3, up3_t q2, bo t r q4]
  have kt : ∀ t, t ≠ 25 → t ≠ 6 → t ≠ 8 → t ≠ 4 → t ≠ 15 → I2 t = I t := fun t q1 q2 q3 q4 q5 => by funext r; exact ko t r q1 q2 q3 (by omega)
  have F : ∀ t, t ≠ 25 → up3 I2 25 0 168 (nI (n + 1)) t = I2 t := fun t q => up3_t q
  have G25 : ∀ j, j ≠ 168 → up3 I2 25 0 168 (nI (n + 1)) 25 0 j = I2 25 0 j := fun j q => up3_n (by omega)
  have k8 : ∀ j, j ≠ 0 → I2 8 0 j = I 8 0 j := fun j q => by rw [h3 8 (by decide), up3_n (by omega), up3_t (by decide), bo 8 0 (by omega)]
  have k6 : ∀ r, r ≠ 0 → I2 6 r = I 6 r := fun r q => by rw [h3 6 (by decide), up3_t (by decide), up3_o (by omega), bo 6 r (by omega)]
  have k60 : ∀ j, j ≠ 1 → I2 6 0 j = I 6 0 j := fun j q => by rw [h3 6 (by decide), up3_t (by decide), up3_n (by omega), bo 6 0 (by omega)]
  have k4 : I2 4 n = I1 4 n := by rw [h3 4 (by decide), up3_t (by decide), up3_t (by decide)]
  have k15 : I2 15 n = I1 15 n := by rw [h3 15 (by decide), up3_t (by decide), up3_t (by decide)]
  obtain ⟨-, hi, ht, hu, hx, hl, hc, hh, hj⟩ := h
  refine ⟨⟨n + 1, by omega, ?_, up3_y, ?_, ?_, fun k hk => ?_⟩, ?_, ht.congr ?_ ?_, hu.congr (fun _ _ => ?_) ?_, hx.congr ?_ ?_ ?_ ?_, hl.congr ?_ ?_ ?_ ?_ ?_ ?_, hc.congr ?_ ?_ ?_, hh.congr ?_ ?_, hj⟩
  · rw [F 6 (by decide), h3 6 (by decide), up3_t (by decide), up3_y]
  · rw [G25 _ (by decide), F 6 (by decide), k25 _ (by omega), k60 2 (by decide)]; exact y4
  · rw [G25 _ (by decide), F 6 (by decide), k25 _ (by omega), k60 3 (by decide)]; exact y5
  · have hk8 : k < 8 := by omega
    simp only [Nat.mul_zero, Nat.zero_add]
    have GG : ∀ c, c < 21 → up3 I2 25 0 168 (nI (n + 1)) 25 0 (21 * k + c) = I2 25 0 (21 * k + c) := fun c hc => G25 _ (by omega)
    by_cases e : k = n
    · subst e
      unfold RR
      rw [F 4 (by decide), F 15 (by decide), F 16 (by decide), k4, k15]
      have g0 : up3 I2 25 0 168 (nI (k + 1)) 25 0 (21 * k) = I2 25 0 (21 * k) := GG 0 (by decide)
      have v0 : I2 25 0 (21 * k) = if 0 < 2 then x else 0 := h1 0 (by decide)
      refine ⟨⟨?_, ?_, ?_, ?_, ?_, ?_⟩, fun j hj => ?_, ⟨0, by decide, b7, fun j hj => absurd hj (by omega)⟩, by rw [b2]; exact hbx, by rw [b3]; exact hbx, ?_, ?_⟩
      · rw [g0, v0, b2]; rfl
      · rw [GG 1 (by decide), h1 1 (by decide), b3]; rfl
      · rw [GG 2 (by decide), h1 2 (by decide), b4]; rfl
      · rw [GG 3 (by decide), h1 3 (by decide), b5]; rfl
      · rw [GG 7 (by decide), h1 7 (by decide), b6]; rfl
      · rw [GG 8 (by decide), h1 8 (by decide), b7]; rfl
      · rw [Nat.add_assoc, GG (4 + j) (by omega), h1 (4 + j) (by omega), if_neg (by omega), b15 j hj]
        exact ⟨rfl, by decide, by decide⟩
      · rw [b4]; exact ⟨by decide, by decide⟩
      · rw [b5]; exact ⟨by decide, by decide⟩
    · have hkn : k < n := by omega
      have hR := hr k hkn
      simp only [Nat.mul_zero, Nat.zero_add] at hR
      have g : ∀ c, c < 21 → up3 I2 25 0 168 (nI (n + 1)) 25 0 (21 * k + c) = I 25 0 (21 * k + c) := fun c hc => by rw [GG c hc, k25 _ (by omega)]
      obtain ⟨⟨a1, a2, a3, a4, a5, a6⟩, b, ⟨q, c1, c2, c3⟩, d⟩ := hR
      unfold RR
      rw [F 4 (by decide), F 15 (by decide), F 16 (by decide), ko 4 k (by decide) (by decide) (by decide) (by omega), ko 15 k (by decide) (by decide) (by decide) (by omega), ko 16 k (by decide) (by decide) (by decide) (by omega)]
      refine ⟨⟨?_, ?_, ?_, ?_, ?_, ?_⟩, fun i hi => ?_, ⟨q, c1, c2, fun i hi => ?_⟩, d⟩
      · exact Eq.trans (g 0 (by decide)) a1
      · rw [g 1 (by decide)]; exact a2
      · rw [g 2 (by decide)]; exact a3
      · rw [g 3 (by decide)]; exact a4
      · rw [g 7 (by decide)]; exact a5
      · rw [g 8 (by decide)]; exact a6
      · have := g (4 + i) (by omega); rw [← Nat.add_assoc] at this; rw [this]; exact b i hi
      · have := g (9 + i) (by omega); rw [← Nat.add_assoc] at this; rw [this]; exact c3 i hi
  · intro b hb
    obtain ⟨i1, i2, i3⟩ := hi b hb
    rw [F 27 (by decide), F 6 (by decide), kt 27 (by decide) (by decide) (by decide) (by decide) (by decide), k6 (1 + b) (by omega)]
    refine ⟨i1, i2, fun q => ?_⟩
    obtain ⟨n', z1, z2, z3, z4, z5, z6⟩ := i3 q
    have e26 : up3 I2 25 0 168 (nI (n + 1)) 26 = I 26 := by rw [F 26 (by decide), kt 26 (by decide) (by decide) (by decide) (by decide) (by decide)]
    have e6 : up3 I2 25 0 168 (nI (n + 1)) 6 (1 + b) = I 6 (1 + b) := by rw [F 6 (by decide), k6 (1 + b) (by omega)]
    refine ⟨n', z1, by rw [e6]; exact z2, by rw [e26]; exact z3, by rw [e26, e6]; exact z4, by rw [e26, e6]; exact z5, fun j hj => ?_⟩
    exact (z6 j hj).congr (by rw [F 4 (by decide), ko 4 _ (by decide) (by decide) (by decide) (by omega)]) (by rw [F 15 (by decide), ko 15 _ (by decide) (by decide) (by decide) (by omega)]) (by rw [F 16 (by decide), ko 16 _ (by decide) (by decide) (by decide) (by omega)]) (by rw [e26])
  · rw [F 28 (by decide)]; exact kt _ (by decide) (by decide) (by decide) (by decide) (by decide)
  · rw [F 21 (by decide)]; exact kt _ (by decide) (by decide) (by decide) (by decide) (by decide)
  · rw [F 29 (by decide), kt 29 (by decide) (by decide) (by decide) (by decide) (by decide)]
  · rw [F 13 (by decide), kt 13 (by decide) (by decide) (by decide) (by decide) (by decide)]
  · rw [F 3 (by decide), kt 3 (by decide) (by decide) (by decide) (by decide) (by decide)]
  · rw [F 8 (by decide), k8 8 (by decide)]
  · rw [F 30 (by decide)]; exact kt _ (by decide) (by decide) (by decide) (by decide) (by decide)
  · rw [F 14 (by decide)]; exact kt _ (by decide) (by decide) (by decide) (by decide) (by decide)
  · rw [F 8 (by decide), k8 14 (by decide)]
  · rw [F 7 (by decide)]; exact kt _ (by decide) (by decide) (by decide) (by decide) (by decide)
  · rw [F 31 (by decide)]; exact kt _ (by decide) (by decide) (by decide) (by decide) (by decide)
  · rw [F 22 (by decide)]; exact kt _ (by decide) (by decide) (by decide) (by decide) (by decide)
  · rw [F 23 (by decide)]; exact kt _ (by decide) (by decide) (by decide) (by decide) (by decide)
  · rw [F 24 (by decide)]; exact kt _ (by decide) (by decide) (by decide) (by decide) (by decide)
  · rw [F 32 (by decide)]; exact kt _ (by decide) (by decide) (by decide) (by decide) (by decide)
  · rw [F 17 (by decide)]; exact kt _ (by decide) (by decide) (by decide) (by decide) (by decide)
  · rw [F 18 (by decide)]; exact kt _ (by decide) (by decide) (by decide) (by decide) (by decide)
  · rw [F 33 (by decide)]; exact kt _ (by decide) (by decide) (by decide) (by decide) (by decide)
  · rw [F 12 (by decide)]; exact kt _ (by decide) (by decide) (by decide) (by decide) (by decide)
end RNR
