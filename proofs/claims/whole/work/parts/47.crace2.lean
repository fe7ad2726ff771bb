section CRC2
variable {I : MI} {J : MJ}
def rLuck (I : MI) (s k : Nat) : Int32 := lcU (ltS s (I 6 0 2) (k + 1)) (I 21 0 0)
def rFig (I : MI) (s g k : Nat) : Int32 := brV I k g + rLuck I s k
def rShow (I : MI) (s g : Nat) (least : Int32) (k : Nat) : Int32 := rFig I s g k - (I 4 k 3 - least)
/-- what a runner must be, that it can run -/
def RbK (I : MI) (g k : Nat) : Prop := (∃ q : Nat, q ≤ 12 ∧ I 4 k 7 = nI q ∧ ∀ j, j < q → bd (I 16 k j) (-1000) 1000) ∧ bd (I 4 k 2) 0 200 ∧ bd (I 4 k 3) 0 200 ∧ bd (I 15 k g) (-20) 20
/-- the system behind the first j of the set -/
def CR (I I' : MI) (s g : Nat) (least : Int32) (j : Nat) : Prop := I' 6 0 2 = ltS s (I 6 0 2) j ∧ (∀ i, i ≠ 2 → I' 6 0 i = I 6 0 i) ∧ (∀ k, k < j → s / 2 ^ k % 2 = 1 → I' 22 0 k = rShow I s g least k ∧ I' 23 0 k = I 4 k 3 - least ∧ I' 24 0 k = rLuck I s k ∧ ∃ q : Nat, q ≤ 12 ∧ I 4 k 7 = nI q ∧ FR I I' k (rFig I s g k) q) ∧ (∀ k, ¬ (k < j ∧ s / 2 ^ k % 2 = 1) → I' 4 k = I 4 k ∧ I' 16 k = I 16 k) ∧ ∀ t r, t ≠ 4 → t ≠ 16 → ¬ (t = 6 ∧ r = 0) → ¬ ((t = 22 ∨ t = 23 ∨ t = 24) ∧ r = 0) → I' t r = I t r
theorem s_crace {Q : Int32 → MI → MJ → Prop} {n s g : Nat} {least : Int32} (hn : n ≤ 8) (en : I 6 0 1 = nI n) (hs : s < 2 ^ 31) (hg : g < 3) (hu : RuB (I 13 0)) (hit : It I) (hR : ∀ k, k < n → RbK I g k) (hQ : ∀ I', CR I I' s g least n → Q (opI (-1) (fsS s (rShow I s g least) n)) (up3 (up3 I' 7 0 13 (nI s)) 6 0 3 (I 6 0 3 + 1)) J) : ∃ m : Nat, L_X7_race_23 Q m I J (nI g) (nI s) least (-1) 0 := by
  have key : ∀ (d j : Nat) (I' : MI), j + d = n → CR I I' s g least j → L_X7_race_23 Q (d + 1) I' J (nI g) (nI s) least (opI (-1) (fsS s (rShow I s g least) j)) (nI j) := by
    intro d
    induction d with
    | zero =>
      intro j I' e h
      obtain rfl : j = n := by omega
      refine onp (by rw [h.2.1 1 (by decide), en]; exact nI_le (Nat.le_refl _) (by omega)) ?_
      rw [up3_t (t' := 6) (by decide), h.2.1 3 (by decide)]
      exact hQ I' h
    | succ d ih =>
      intro j I' e h
      obtain ⟨c1, c2, c3, c4, c5⟩ := id h
      refine onn (by rw [c2 1 (by decide), en]; exact nI_ge (by omega) (by omega)) ?_
      rw [q_isOf]
      simp only [bi_0, decide_eq_false_iff_not]
      rw [bit_0 hs (by omega), nI_1]
      have ef : fsS s (rShow I s g least) (j + 1) = if s / 2 ^ j % 2 = 1 then (match fsS s (rShow I s g least) j with
        | none => some j
        | some k => if rShow I s g least j ≤ rShow I s g least k then some k else some j) else fsS s (rShow I s g least) j := rfl
      have el : ltS s (I 6 0 2) (j + 1) = if s / 2 ^ j % 2 = 1 then ltS s (I 6 0 2) j * 1103515245 + 12345 else ltS s (I 6 0 2) j := rfl
      by_cases c : s / 2 ^ j % 2 = 1
      · rw [if_pos c] at ef el
        refine twp (by omega) ?_
        have hj8 : j < 8 := by omega
        obtain ⟨e4, e16⟩ := c4 j (by omega)
        have e21 : I' 21 = I 21 := by funext r; exact c5 21 r (by decide) (by decide) (by omega) (by omega)
        have e13 : I' 13 0 = I 13 0 := c5 13 0 (by decide) (by decide) (by omega) (by omega)
        have e15 : I' 15 j = I 15 j := c5 15 j (by decide) (by decide) (by omega) (by omega)
        have hit' : It I' := hit.congr (by funext r; exact c5 28 r (by decide) (by decide) (by omega) (by omega)) e21
        obtain ⟨⟨q, hq, e7, hf⟩, b2, b3, b15⟩ := hR j (by omega)
        refine s_runOne hj8 hg hq (by rw [e4]; exact e7) (by rw [e13]; exact hu) hit' (by rw [e4]; exact b2) (by rw [e4]; exact b3) (by rw [e15]; exact b15) (fun i hi => by rw [e16]; exact hf i hi) (fun I'' x hx => ?_)
        obtain ⟨o1, o2, o3, o4, o5, o6, o7, o8, o9⟩ := hx
        rw [c1, e21] at o3 o4
        rw [c1] at o1
        rw [e4] at o5 o6
        have ebr : brV I' j g = brV I j g := by unfold brV; rw [e4, e15, e21]
        have elk : lcU (ltS s (I 6 0 2) j * 1103515245 + 12345) (I 21 0 0) = rLuck I s j := by unfold rLuck; rw [el]
        rw [elk] at o3 o4
        have ex : x = rFig I s g j := by rw [o3, ebr]; rfl
        rw [ex] at o6 o8
        have hC : CR I I'' s g least (j + 1) := by
          refine ⟨by rw [o1, el], fun i hi => by rw [o2 i hi, c2 i hi], fun k hk hb => ?_, fun k hk => ?_, fun t r r1 r2 r3 r4 => by rw [o9 t r r3 r4 (by omega), c5 t r r1 r2 r3 r4]⟩
          · by_cases ek : k = j
            · subst ek
              exact ⟨o6, o5, o4, q, hq, e7, o8.congr e16.symm e4.symm e13.symm rfl rfl⟩
            · obtain ⟨d1, d2, d3, q', d4, d5, d6⟩ := c3 k (by omega) hb
              refine ⟨by rw [o7 22 k (by omega) ek]; exact d1, by rw [o7 23 k (by omega) ek]; exact d2, by rw [o7 24 k (by omega) ek]; exact d3, q', d4, d5, d6.congr rfl rfl rfl (o9 16 k (by omega) (by omega) (by omega)) (o9 4 k (by omega) (by omega) (by omega))⟩
          · have hkj : k ≠ j := fun e2 => hk ⟨by omega, by rw [e2]; exact c⟩
            obtain ⟨d1, d2⟩ := c4 k (fun q2 => hk ⟨by omega, q2.2⟩)
            exact ⟨by rw [o9 4 k (by omega) (by omega) (by omega)]; exact d1, by rw [o9 16 k (by omega) (by omega) (by omega)]; exact d2⟩
        have hi := ih (j + 1) I'' (by omega) hC
        rw [ef] at hi
        cases hf0 : fsS s (rShow I s g least) j with
        | none =>
          rw [hf0] at hi
          exact onp (by decide) hi
        | some k =>
          rw [hf0] at hi
          have hk := fsS_in j k hf0
          refine onn (nI_pos (by omega)) ⟨vp_in_nI (by omega) (by decide), vp_in_nI (by omega) (by decide), ?_⟩
          rw [nI_clamp (by omega)]
          show (I'' 22 0 j ≤ I'' 22 0 ((nI k).toNatClampNeg) → _) ∧ (¬ (I'' 22 0 j ≤ I'' 22 0 ((nI k).toNatClampNeg)) → _)
          rw [nI_clamp (by omega), o6, (hC.2.2.1 k (by omega) hk.2).1]
          have ej : rFig I s g j - (I 4 j 3 - least) = rShow I s g least j := rfl
          rw [ej]
          by_cases c6 : rShow I s g least j ≤ rShow I s g least k
          · simp only [c6, if_true] at hi
            exact onp c6 hi
          · simp only [c6, if_false] at hi
            exact onn c6 hi
      · rw [if_neg c] at ef el
        refine twn (by omega) ?_
        have hi := ih (j + 1) I' (by omega) ⟨by rw [c1, el], c2, fun k hk hb => c3 k (by
          rcases Nat.lt_or_ge k j with q | q
          · exact q
          · exact absurd (show s / 2 ^ j % 2 = 1 by rw [show j = k by omega]; exact hb) c) hb, fun k hk => c4 k (fun q => hk ⟨by omega, q.2⟩), c5⟩
        rw [ef] at hi
        exact hi
  exact ⟨n + 1, key n 0 I (by omega) ⟨rfl, fun _ _ => rfl, fun k hk => absurd hk (by omega), fun _ _ => ⟨rfl, rfl⟩, fun _ _ _ _ _ _ => rfl⟩⟩
end CRC2
