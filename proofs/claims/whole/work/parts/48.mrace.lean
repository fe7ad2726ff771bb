section MRC
variable {I : MI} {J : MJ}
/-- a block of the model behind a race -/
def MB (I I' : MI) (k : Nat) (x : Int32) (q : Nat) : Prop := I' 25 0 (21 * k + 9) = x ∧ (∀ j, 1 ≤ j → j < 12 → I' 25 0 (21 * k + 9 + j) = I 25 0 (21 * k + 9 + (j - 1))) ∧ I' 25 0 (21 * k + 8) = nI (min 12 (q + 1)) ∧ I' 25 0 (21 * k + 7) = I 25 0 (21 * k + 7) + 1 ∧ I' 25 0 (21 * k + 1) = newM (I 29 0) (I 25 0 (21 * k + 1)) (Fg (fun j => I' 25 0 (21 * k + 9 + j))) (min 12 (q + 1)) ∧ I' 25 0 (21 * k) = clI (I 25 0 (21 * k) + I 25 0 (21 * k + 3)) 0 200 ∧ ∀ j, 2 ≤ j → j < 7 → I' 25 0 (21 * k + j) = I 25 0 (21 * k + j)
theorem s_mone {Q : Int32 → MI → MJ → Prop} {C214 : MI → MJ → Int32 → Int32 → Int32 → Prop} {k q : Nat} {xs x3 : Int32} (hk : k < 8) (hq : q ≤ 12) (e8 : I 25 0 (21 * k + 8) = nI q) (hu : RuB (I 29 0)) (hm : bd (I 25 0 (21 * k + 1)) 0 200) (hx : bd (I 31 0 (3 * k) + I 36 0 k) (-1000) 1000) (hf : ∀ j, j < q → bd (I 25 0 (21 * k + 9 + j)) (-1000) 1000)
    (hC : ∀ I', MB I I' k (I 31 0 (3 * k) + I 36 0 k) q → (∀ j, ¬ (21 * k ≤ j ∧ j < 21 * k + 21) → I' 25 0 j = I 25 0 j) → (∀ t, t ≠ 25 → t ≠ 34 → t ≠ 35 → t ≠ 8 → I' t = I t) → (∀ j, j ≠ 19 → I' 8 0 j = I 8 0 j) → C214 I' J xs x3 (nI k + 1)) : ∃ n : Nat, L_X8_race_260 Q C214 n (up3 I 8 0 19 (nI q)) J xs x3 (nI k) (nI (21 * k)) 0 := by
  have ix : ∀ c : Nat, nI (21 * k) + nI c = nI (21 * k + c) := fun c => nI_add _ _
  have vx : ∀ c : Nat, c < 21 → vp_in (nI (21 * k) + nI c) 171 := fun c hc => by rw [ix]; exact vp_in_nI (by omega) (by decide)
  have cx : ∀ c : Nat, c < 21 → (nI (21 * k) + nI c).toNatClampNeg = 21 * k + c := fun c hc => by rw [ix, nI_clamp (by omega)]
  have ix9 : ∀ i : Nat, nI (21 * k) + 9 + nI i = nI (21 * k + 9 + i) := fun i => by rw [show (9 : Int32) = nI 9 from rfl, nI_add, nI_add]
  -- the last loop: the figures go back
  have back : ∀ (r : Int32) (I4 : MI), MMv (up3 I 8 0 19 (nI q)) I4 (I 31 0 (3 * k) + I 36 0 k) q → False ∨ True := fun _ _ _ => Or.inr trivial
  have key2 : ∀ (I5 : MI), (∀ j, j ≠ 1 → j ≠ 8 → I5 25 0 (21 * k + j) = I 25 0 (21 * k + j)) → I5 25 0 (21 * k + 8) = nI (min 12 (q + 1)) → I5 34 0 0 = I 31 0 (3 * k) + I 36 0 k → (∀ j, 1 ≤ j → j < 12 → I5 34 0 j = I 25 0 (21 * k + 9 + (j - 1))) → I5 25 0 (21 * k + 1) = newM (I 29 0) (I 25 0 (21 * k + 1)) (Fg (I5 34 0)) (min 12 (q + 1)) → (∀ j, ¬ (21 * k ≤ j ∧ j < 21 * k + 21) → I5 25 0 j = I 25 0 j) → (∀ t, t ≠ 25 → t ≠ 34 → t ≠ 35 → t ≠ 8 → I5 t = I t) → (∀ j, j ≠ 19 → I5 8 0 j = I 8 0 j) → ∃ n : Nat, L_X8_race_349 Q C214 n I5 J xs x3 (nI k) (nI (21 * k)) 0 := by
    intro I5 h0 h8 f0 fj h1 ho ht h88
    have kk : ∀ (d i : Nat) (I' : MI), i + d = 12 → (∀ j, j < i → I' 25 0 (21 * k + 9 + j) = I5 34 0 j) → (∀ j, ¬ (21 * k + 9 ≤ j ∧ j < 21 * k + 9 + i) → I' 25 0 j = I5 25 0 j) → (∀ t, t ≠ 25 → I' t = I5 t) → L_X8_race_349 Q C214 (d + 1) I' J xs x3 (nI k) (nI (21 * k)) (nI i) := by
      intro d
      induction d with
      | zero =>
        intro i I' e g1 g2 g3
        obtain rfl : i = 12 := by omega
        have v0 := vx 0 (by decide)
        have v3 := vx 3 (by decide)
        have v7 := vx 7 (by decide)
        refine onp (by decide) ⟨v0, v3, ?_⟩
        rw [q_mwithin]
        rw [show (0 : Int32) = nI 0 from rfl, show (3 : Int32) = nI 3 from rfl, cx 0 (by decide), cx 3 (by decide)]
        refine ⟨v0, v7, v7, fun I26 e26 => ?_⟩
        rw [show (7 : Int32) = nI 7 from rfl, cx 7 (by decide)] at e26
        have b : ∀ j, j < 9 → I' 25 0 (21 * k + j) = I5 25 0 (21 * k + j) := fun j hj => g2 _ (by omega)
        have w : ∀ j, j ≠ 21 * k + 0 → j ≠ 21 * k + 7 → I26 25 0 j = I' 25 0 j := fun j r1 r2 => by rw [e26, up3_n (by omega), up3_n (by omega)]
        have wf : ∀ j, j < 12 → I26 25 0 (21 * k + 9 + j) = I5 34 0 j := fun j hj => by rw [w _ (by omega) (by omega), g1 j hj]
        refine hC I26 ⟨?_, fun j r1 r2 => ?_, ?_, ?_, ?_, ?_, fun j r1 r2 => ?_⟩ (fun j hj => ?_) (fun t r1 r2 r3 r4 => ?_) (fun j hj => ?_)
        · exact (wf 0 (by decide)).trans f0
        · rw [wf j r2, fj j r1 r2]
        · rw [w _ (by omega) (by omega), b 8 (by decide), h8]
        · rw [e26, up3_y, up3_n (by omega), b 7 (by decide), h0 7 (by decide) (by decide)]
        · rw [w _ (by omega) (by omega), b 1 (by decide), h1]
          exact newM_congr (fun _ _ => rfl) (fun j hj => congrArg Int32.toInt (wf j (by omega)).symm)
        · have e0 : I' 25 0 (21 * k + 0) = I 25 0 (21 * k) := (b 0 (by decide)).trans (h0 0 (by decide) (by decide))
          have e3 : I' 25 0 (21 * k + 3) = I 25 0 (21 * k + 3) := (b 3 (by decide)).trans (h0 3 (by decide) (by decide))
          rw [e26, up3_n (by omega)]
          rw [e0, e3]
          exact up3_y
        · rw [w _ (by omega) (by omega), b j (by omega), h0 j (by omega) (by omega)]
        · rw [w _ (by omega) (by omega), g2 _ (by omega), ho j hj]
        · rw [e26, up3_t r1, up3_t r1, g3 t r1, ht t r1 r2 r3 r4]
        · rw [e26, up3_t (by decide), up3_t (by decide), g3 8 (by decide), h88 j hj]
      | succ d ih =>
        intro i I' e g1 g2 g3
        refine onn (fun q2 => absurd ((nI_leI (a := 12) (by omega) (by omega)).mp q2) (by omega)) ⟨vp_in_nI (by omega) (by decide), by rw [ix9]; exact vp_in_nI (by omega) (by decide), ?_⟩
        rw [ix9, nI_clamp (by omega), nI_clamp (by omega), nI_1, g3 34 (by decide)]
        refine ih (i + 1) _ (by omega) (fun j hj => ?_) (fun j hj => ?_) (fun t r1 => by rw [up3_t r1]; exact g3 t r1)
        · by_cases ej : j = i
          · rw [ej, up3_y]
          · rw [up3_n (by omega)]; exact g1 j (by omega)
        · rw [up3_n (by omega)]; exact g2 j (by omega)
    exact ⟨13, kk 12 0 I5 (by omega) (fun j hj => absurd hj (by omega)) (fun _ _ => rfl) (fun _ _ => rfl)⟩
  -- the first loop: the figures come, then the mark moves
  have key1 : ∀ (d i : Nat) (I' : MI), i + d = 12 → (∀ j, j < i → I' 34 0 j = I 25 0 (21 * k + 9 + j)) → (∀ t, t ≠ 34 → I' t = up3 I 8 0 19 (nI q) t) → L_X8_race_260 Q C214 (d + 1) I' J xs x3 (nI k) (nI (21 * k)) (nI i) := by
    intro d
    induction d with
    | zero =>
      intro i I' e g1 g3
      obtain rfl : i = 12 := by omega
      have g25 : I' 25 = I 25 := by rw [g3 25 (by decide), up3_t (by decide)]
      have g29 : I' 29 = I 29 := by rw [g3 29 (by decide), up3_t (by decide)]
      have v1 := vx 1 (by decide)
      have v8 := vx 8 (by decide)
      have e3k : 3 * nI k = nI (3 * k) := by rw [show (3 : Int32) = nI 3 from rfl, pk_mul]
      refine onp (by decide) ⟨v1, by rw [e3k]; exact vp_in_nI (by omega) (by decide), vp_in_nI (by omega) (by decide), ?_⟩
      rw [show (1 : Int32) = nI 1 from rfl, cx 1 (by decide), e3k, nI_clamp (by omega), nI_clamp (by omega), g25, g3 31 (by decide), g3 36 (by decide), up3_t (t' := 31) (by decide), up3_t (t' := 36) (by decide)]
      refine s_mmoved hq (by rw [g3 8 (by decide), up3_y]) (by rw [g29]; exact hu) hm hx (fun j hj => by rw [g1 j (by omega)]; exact hf j hj) (fun I4 hM => ⟨v1, v8, fun I5 e5 => ?_⟩)
      obtain ⟨m0, mj, m19, m8, mo⟩ := hM
      rw [show (8 : Int32) = nI 8 from rfl, cx 8 (by decide), up3_t (t' := 8) (by decide), m19] at e5
      have f25 : I4 25 = I 25 := by rw [mo 25 (by decide) (by decide) (by decide), g25]
      have e34 : I5 34 = I4 34 := by rw [e5, up3_t (by decide), up3_t (by decide)]
      refine key2 I5 (fun j r1 r2 => ?_) ?_ ?_ (fun j r1 r2 => ?_) ?_ (fun j hj => ?_) (fun t r1 r2 r3 r4 => ?_) (fun j hj => ?_)
      · rw [e5, up3_n (by omega), up3_n (by omega), f25]
      · rw [e5, up3_y]
      · rw [e34, m0]
      · rw [e34, mj j r1 r2, g1 (j - 1) (by omega)]
      · rw [e34, e5, up3_n (by omega), up3_y, g29]
      · rw [e5, up3_n (by omega), up3_n (by omega), f25]
      · rw [e5, up3_t r1, up3_t r1, mo t r2 r3 r4, g3 t r2, up3_t r4]
      · rw [e5, up3_t (by decide), up3_t (by decide), m8 j hj, g3 8 (by decide), up3_n (by omega)]
    | succ d ih =>
      intro i I' e g1 g3
      refine onn (fun q2 => absurd ((nI_leI (a := 12) (by omega) (by omega)).mp q2) (by omega)) ⟨by rw [ix9]; exact vp_in_nI (by omega) (by decide), vp_in_nI (by omega) (by decide), ?_⟩
      rw [ix9, nI_clamp (by omega), nI_clamp (by omega), nI_1, g3 25 (by decide), up3_t (t' := 25) (by decide)]
      refine ih (i + 1) _ (by omega) (fun j hj => ?_) (fun t r1 => by rw [up3_t r1]; exact g3 t r1)
      by_cases ej : j = i
      · rw [ej, up3_y]
      · rw [up3_n (by omega)]; exact g1 j (by omega)
  exact ⟨13, key1 12 0 _ (by omega) (fun j hj => absurd hj (by omega)) (fun _ _ => rfl)⟩
end MRC
