section MRC2
variable {I : MI} {J : MJ}
theorem MB.congr {I I' I'' : MI} {k : Nat} {x : Int32} {q : Nat} (h : MB I I' k x q) (hc : ∀ c, c < 21 → I'' 25 0 (21 * k + c) = I' 25 0 (21 * k + c)) : MB I I'' k x q := by
  obtain ⟨h1, h2, h3, h4, h5, h6, h7⟩ := h
  have c9 : ∀ j, j < 12 → I'' 25 0 (21 * k + 9 + j) = I' 25 0 (21 * k + 9 + j) := fun j hj => by rw [Nat.add_assoc]; exact hc (9 + j) (by omega)
  refine ⟨(c9 0 (by decide)).trans h1, fun j r1 r2 => by rw [c9 j r2]; exact h2 j r1 r2, by rw [hc 8 (by decide)]; exact h3, by rw [hc 7 (by decide)]; exact h4, ?_, (hc 0 (by decide)).trans h6, fun j r1 r2 => by rw [hc j (by omega)]; exact h7 j r1 r2⟩
  rw [hc 1 (by decide), h5]
  exact newM_congr (fun _ _ => rfl) (fun j hj => congrArg Int32.toInt (c9 j (by omega)).symm)
def mX (I : MI) (k : Nat) : Int32 := I 31 0 (3 * k) + I 36 0 k
/-- the model behind the second loop's first j -/
def MR2 (I I' : MI) (s j : Nat) : Prop := (∀ k, k < j → s / 2 ^ k % 2 = 1 → ∃ q : Nat, q ≤ 12 ∧ I 25 0 (21 * k + 8) = nI q ∧ MB I I' k (mX I k) q) ∧ (∀ k, ¬ (k < j ∧ s / 2 ^ k % 2 = 1) → k < 8 → ∀ c, c < 21 → I' 25 0 (21 * k + c) = I 25 0 (21 * k + c)) ∧ (∀ i, 168 ≤ i → I' 25 0 i = I 25 0 i) ∧ (∀ t, t ≠ 25 → t ≠ 34 → t ≠ 35 → t ≠ 8 → I' t = I t) ∧ ∀ i, i ≠ 19 → I' 8 0 i = I 8 0 i
/-- what a block must be, that it can run -/
def MbK (I : MI) (k : Nat) : Prop := (∃ q : Nat, q ≤ 12 ∧ I 25 0 (21 * k + 8) = nI q ∧ ∀ j, j < q → bd (I 25 0 (21 * k + 9 + j)) (-1000) 1000) ∧ bd (I 25 0 (21 * k + 1)) 0 200
theorem s_m214 {Q : Int32 → MI → MJ → Prop} {n s : Nat} {x3 : Int32} (hn : n ≤ 8) (en : I 25 0 168 = nI n) (hs : s < 2 ^ 31) (hu : RuB (I 29 0)) (hR : ∀ k, k < n → s / 2 ^ k % 2 = 1 → MbK I k ∧ bd (mX I k) (-1000) 1000) (hQ : ∀ I', MR2 I I' s n → Q x3 (up3 (up3 I' 8 0 14 (nI s)) 25 0 170 (I 25 0 170 + 1)) J) : ∃ m : Nat, L_X8_race_214 Q m I J (nI s) x3 0 := by
  have key : ∀ (d j : Nat) (I' : MI), j + d = n → MR2 I I' s j → L_X8_race_214 Q (d + 1) I' J (nI s) x3 (nI j) := by
    intro d
    induction d with
    | zero =>
      intro j I' e h
      obtain rfl : j = n := by omega
      refine onp (by rw [h.2.2.1 168 (by omega), en]; exact nI_le (Nat.le_refl _) (by omega)) ?_
      rw [up3_t (t' := 25) (by decide), h.2.2.1 170 (by omega)]
      exact hQ I' h
    | succ d ih =>
      intro j I' e h
      obtain ⟨c1, c2, c3, c4, c5⟩ := id h
      refine onn (by rw [c3 168 (by omega), en]; exact nI_ge (by omega) (by omega)) ?_
      rw [q_has]
      simp only [bi_0, decide_eq_false_iff_not]
      rw [bit_0 hs (by omega), nI_1]
      by_cases c : s / 2 ^ j % 2 = 1
      · refine twp (by omega) ?_
        have eb := c2 j (by omega) (by omega)
        have e31 : I' 31 = I 31 := c4 31 (by decide) (by decide) (by decide) (by decide)
        have e36 : I' 36 = I 36 := c4 36 (by decide) (by decide) (by decide) (by decide)
        have e29 : I' 29 = I 29 := c4 29 (by decide) (by decide) (by decide) (by decide)
        obtain ⟨⟨⟨q, hq, e8, hf⟩, hm⟩, hx⟩ := hR j (by omega) c
        have e8' : 21 * nI j + 8 = nI (21 * j + 8) := m21 j 8
        have e0' : (21 : Int32) * nI j = nI (21 * j) := by rw [show (21 : Int32) = nI 21 from rfl, pk_mul]
        refine ⟨by rw [e8']; exact vp_in_nI (by omega) (by decide), ?_⟩
        rw [e8', nI_clamp (by omega), e0', eb 8 (by decide), e8]
        refine s_mone (by omega) hq (by rw [eb 8 (by decide)]; exact e8) (by rw [e29]; exact hu) (by rw [eb 1 (by decide)]; exact hm) (by rw [e31, e36]; exact hx) (fun i hi => by rw [Nat.add_assoc, eb (9 + i) (by omega), ← Nat.add_assoc]; exact hf i hi) (fun I'' g1 g2 g3 g4 => ?_)
        rw [nI_1]
        refine ih (j + 1) I'' (by omega) ⟨fun k hk hb => ?_, fun k hk hk8 cc hcc => ?_, fun i hi => by rw [g2 i (by omega), c3 i hi], fun t r1 r2 r3 r4 => by rw [g3 t r1 r2 r3 r4, c4 t r1 r2 r3 r4], fun i hi => by rw [g4 i hi, c5 i hi]⟩
        · by_cases ek : k = j
          · subst ek
            refine ⟨q, hq, e8, ?_⟩
            obtain ⟨h1, h2, h3, h4, h5, h6, h7⟩ := g1
            rw [e31, e36] at h1
            refine ⟨h1, fun i r1 r2 => ?_, h3, by rw [h4, eb 7 (by decide)], by rw [h5, e29, eb 1 (by decide)], ?_, fun i r1 r2 => by rw [h7 i r1 r2, eb i (by omega)]⟩
            · rw [h2 i r1 r2, Nat.add_assoc, eb (9 + (i - 1)) (by omega)]
            · rw [h6, eb 3 (by decide)]
              have := eb 0 (by decide)
              rw [show I' 25 0 (21 * k) = I 25 0 (21 * k) from this]
          · obtain ⟨q', d1, d2, d3⟩ := c1 k (by omega) hb
            exact ⟨q', d1, d2, d3.congr (fun cc hcc => g2 _ (by omega))⟩
        · have hkj : k ≠ j := fun e2 => hk ⟨by omega, by rw [e2]; exact c⟩
          rw [g2 _ (by omega)]
          exact c2 k (fun q2 => hk ⟨by omega, q2.2⟩) hk8 cc hcc
      · refine twn (by omega) ?_
        exact ih (j + 1) I' (by omega) ⟨fun k hk hb => c1 k (by
          rcases Nat.lt_or_ge k j with q | q
          · exact q
          · exact absurd (show s / 2 ^ j % 2 = 1 by rw [show j = k by omega]; exact hb) c) hb, fun k hk => c2 k (fun q => hk ⟨by omega, q.2⟩), c3, c4, c5⟩
  exact ⟨n + 1, key n 0 I (by omega) ⟨fun k hk => absurd hk (by omega), fun _ _ _ _ _ => rfl, fun _ _ => rfl, fun _ _ _ _ _ => rfl, fun _ _ => rfl⟩⟩
/-- the two ways to cut a lot are one -/
theorem shr16 (L : Int32) : (L >>> ((16 : Int32) &&& 31)) &&& 65535 = (L.toUInt32 >>> ((16 : Int32).toUInt32 &&& Int32.toUInt32 31)).toInt32 := by
  rw [show ((16 : Int32) &&& 31) = 16 by decide, show ((16 : Int32).toUInt32 &&& Int32.toUInt32 31) = 16 by decide]
  apply Int32.toBitVec_inj.mp
  apply BitVec.eq_of_getLsbD_eq
  intro i hi
  have e1 : ((L >>> (16 : Int32)) &&& 65535).toBitVec = (L.toBitVec.sshiftRight 16) &&& 65535#32 := rfl
  have e2 : ((L.toUInt32 >>> (16 : UInt32)).toInt32).toBitVec = L.toBitVec >>> 16 := rfl
  rw [e1, e2, BitVec.getLsbD_and, BitVec.getLsbD_sshiftRight, BitVec.getLsbD_ushiftRight]
  by_cases h : i < 16
  · rw [(by decide : ∀ i, i < 16 → (65535#32).getLsbD i = true) i h, if_pos (show 16 + i < 32 by omega), decide_eq_false (show ¬ 32 ≤ i by omega)]
    simp
  · rw [(by decide : ∀ i, i < 32 → ¬ i < 16 → (65535#32).getLsbD i = false) i hi h, Bool.and_false]
    exact (BitVec.getLsbD_of_ge _ _ (by omega)).symm
def mbr (I : MI) (k g : Nat) : Int32 := (I 25 0 (21 * k) + I 25 0 (21 * k + 4 + g)) - (if I 25 0 (21 * k + 2) = 0 then 0 else I 28 0 (I 25 0 (21 * k + 2)).toNatClampNeg)
theorem s_mbare {Q : Int32 → MI → MJ → Prop} {k g : Nat} (hk : k < 8) (hg : g < 3) (hh : bd (I 25 0 (21 * k + 2)) 0 2) (hQ : Q (mbr I k g) I J) : wp_X8_bare Q I J (nI k) (nI g) := by
  have e2 : 21 * nI k + 2 = nI (21 * k + 2) := m21 k 2
  have e0 : 21 * nI k + 0 = nI (21 * k) := m21 k 0
  have e4 : 21 * nI k + 4 + nI g = nI (21 * k + 4 + g) := by rw [show 21 * nI k + 4 = nI (21 * k + 4) from m21 k 4, nI_add]
  unfold wp_X8_bare
  rw [e2, e0, e4, nI_clamp (by omega), nI_clamp (by omega), nI_clamp (by omega)]
  refine ⟨vp_in_nI (by omega) (by decide), fun v hv => ⟨vp_in_nI (by omega) (by decide), vp_in_nI (by omega) (by decide), ?_⟩⟩
  unfold mbr at hQ
  rw [← hv] at hQ hh
  by_cases c : v = 0
  · rw [if_pos c] at hQ; exact onp c hQ
  · rw [if_neg c] at hQ
    refine onn c ⟨?_, hQ⟩
    rw [vp_in_iff]
    have := hh.1
    have := hh.2
    omega
def mLuck (I : MI) (s k : Nat) : Int32 := lcU (ltS s (I 25 0 169) (k + 1)) (I 28 0 0)
def mShow (I : MI) (s g k : Nat) : Int32 := mbr I k g + mLuck I s k - I 36 0 k
/-- the model behind the first loop's first j -/
def MR1 (I I' : MI) (s g j : Nat) : Prop := I' 25 0 169 = ltS s (I 25 0 169) j ∧ (∀ i, i ≠ 169 → I' 25 0 i = I 25 0 i) ∧ (∀ k, k < j → s / 2 ^ k % 2 = 1 → I' 31 0 (3 * k) = mShow I s g k ∧ I' 31 0 (3 * k + 1) = I 36 0 k ∧ I' 31 0 (3 * k + 2) = mLuck I s k) ∧ ∀ t, t ≠ 25 → t ≠ 31 → I' t = I t
theorem s_m35 {Q : Int32 → MI → MJ → Prop} {n s g : Nat} (hn : n ≤ 8) (en : I 25 0 168 = nI n) (hs : s < 2 ^ 31) (hg : g < 3) (ht : bd (I 28 0 0) 0 5) (hh : ∀ k, k < n → bd (I 25 0 (21 * k + 2)) 0 2) (hQ : ∀ I', MR1 I I' s g n → ∃ m : Nat, L_X8_race_214 Q m I' J (nI s) (opI (-9) (fsS s (mShow I s g) n)) 0) : ∃ m : Nat, L_X8_race_35 Q m I J (nI g) (nI s) (-9) 0 := by
  have key : ∀ (d j : Nat) (I' : MI), j + d = n → MR1 I I' s g j → L_X8_race_35 Q (d + 1) I' J (nI g) (nI s) (opI (-9) (fsS s (mShow I s g) j)) (nI j) := by
    intro d
    induction d with
    | zero =>
      intro j I' e h
      obtain rfl : j = n := by omega
      exact onp (by rw [h.2.1 168 (by decide), en]; exact nI_le (Nat.le_refl _) (by omega)) (hQ I' h)
    | succ d ih =>
      intro j I' e h
      obtain ⟨c1, c2, c3, c4⟩ := id h
      refine onn (by rw [c2 168 (by decide), en]; exact nI_ge (by omega) (by omega)) ?_
      rw [q_has]
      simp only [bi_0, decide_eq_false_iff_not]
      rw [bit_0 hs (by omega), nI_1]
      have ef : fsS s (mShow I s g) (j + 1) = if s / 2 ^ j % 2 = 1 then (match fsS s (mShow I s g) j with
        | none => some j
        | some k => if mShow I s g j ≤ mShow I s g k then some k else some j) else fsS s (mShow I s g) j := rfl
      have el : ltS s (I 25 0 169) (j + 1) = if s / 2 ^ j % 2 = 1 then ltS s (I 25 0 169) j * 1103515245 + 12345 else ltS s (I 25 0 169) j := rfl
      by_cases c : s / 2 ^ j % 2 = 1
      · rw [if_pos c] at ef el
        refine twp (by omega) ?_
        rw [up3_y, c1, ← el]
        generalize hI1 : up3 I' 25 0 169 (ltS s (I 25 0 169) (j + 1)) = I1
        have e28 : I1 28 = I 28 := by rw [← hI1, up3_t (by decide), c4 28 (by decide) (by decide)]
        have e36 : I1 36 = I 36 := by rw [← hI1, up3_t (by decide), c4 36 (by decide) (by decide)]
        have b25 : ∀ i, i ≠ 169 → I1 25 0 i = I 25 0 i := fun i hi => by rw [← hI1, up3_n (by omega), c2 i hi]
        rw [e28]
        refine ⟨?_, fun v hv => ?_⟩
        · obtain ⟨a, ea, a1, a2⟩ := bd_ex ht
          rw [ea, zl2, zl1, zl0, iz_mul, iz_add, iz_eq (by omega) (by omega) (by omega) (by omega)]
          omega
        rw [shr16] at hv
        have hv' : v = mLuck I s j := hv
        have ebr : mbr I1 j g = mbr I j g := by unfold mbr; rw [b25 _ (by omega), b25 _ (by omega), b25 _ (by omega), e28]
        refine s_mbare (by omega) hg (by rw [b25 _ (by omega)]; exact hh j (by omega)) ?_
        rw [ebr, hv']
        have e3 : 3 * nI j = nI (3 * j) := by rw [show (3 : Int32) = nI 3 from rfl, pk_mul]
        have e31 : 3 * nI j + 1 = nI (3 * j + 1) := by rw [e3]; exact nI_add _ 1
        have e32 : 3 * nI j + 2 = nI (3 * j + 2) := by rw [e3]; exact nI_add _ 2
        have v8 : vp_in (nI j) 8 := vp_in_nI (by omega) (by decide)
        have v24 : vp_in (nI (3 * j)) 24 := vp_in_nI (by omega) (by decide)
        rw [e31, e32, e3, nI_clamp (n := 3 * j) (by omega)]
        rw [nI_clamp (by omega), nI_clamp (by omega), nI_clamp (by omega), e36]
        refine ⟨v8, v24, v8, vp_in_nI (by omega) (by decide), fun I40 e40 => ⟨vp_in_nI (by omega) (by decide), ?_⟩⟩
        rw [up3_t (t' := 36) (by decide), e36] at e40
        have esh : mbr I j g + mLuck I s j - I 36 0 j = mShow I s g j := rfl
        rw [esh] at e40
        generalize hI5 : up3 I40 31 0 (3 * j + 2) (mLuck I s j) = I5
        have w0 : I5 31 0 (3 * j) = mShow I s g j := by rw [← hI5, up3_n (by omega), e40, up3_n (by omega), up3_y]
        have w1 : I5 31 0 (3 * j + 1) = I 36 0 j := by rw [← hI5, up3_n (by omega), e40, up3_y]
        have w2 : I5 31 0 (3 * j + 2) = mLuck I s j := by rw [← hI5, up3_y]
        have wo : ∀ i, ¬ (3 * j ≤ i ∧ i < 3 * j + 3) → I5 31 0 i = I' 31 0 i := fun i hi => by rw [← hI5, up3_n (by omega), e40, up3_n (by omega), up3_n (by omega), ← hI1, up3_t (by decide)]
        have wt : ∀ t, t ≠ 31 → I5 t = I1 t := fun t r1 => by rw [← hI5, up3_t r1, e40, up3_t r1, up3_t r1]
        have hC : MR1 I I5 s g (j + 1) := by
          refine ⟨by rw [wt 25 (by decide), ← hI1, up3_y], fun i hi => by rw [wt 25 (by decide), b25 i hi], fun k hk hb => ?_, fun t r1 r2 => by rw [wt t r2, ← hI1, up3_t r1, c4 t r1 r2]⟩
          by_cases ek : k = j
          · subst ek
            exact ⟨w0, w1, w2⟩
          · obtain ⟨d1, d2, d3⟩ := c3 k (by omega) hb
            exact ⟨by rw [wo _ (by omega)]; exact d1, by rw [wo _ (by omega)]; exact d2, by rw [wo _ (by omega)]; exact d3⟩
        have hi := ih (j + 1) I5 (by omega) hC
        rw [ef] at hi
        unfold J_X8_race_198
        rw [nI_1]
        cases hf0 : fsS s (mShow I s g) j with
        | none =>
          rw [hf0] at hi
          exact onp rfl hi
        | some k =>
          rw [hf0] at hi
          have hk := fsS_in j k hf0
          have e3k : 3 * opI (-9) (some k) = nI (3 * k) := by rw [show (3 : Int32) = nI 3 from rfl]; exact pk_mul 3 k
          rw [e3k, nI_clamp (by omega), w0]
          have wk : I5 31 0 (3 * k) = mShow I s g k := (hC.2.2.1 k (by omega) hk.2).1
          rw [wk]
          refine onn (nI_n9 (by omega)) ⟨v24, vp_in_nI (by omega) (by decide), ?_⟩
          by_cases c6 : mShow I s g j ≤ mShow I s g k
          · simp only [c6, if_true] at hi
            exact onp c6 hi
          · simp only [c6, if_false] at hi
            exact onn c6 hi
      · rw [if_neg c] at ef el
        refine twn (by omega) ?_
        have hi := ih (j + 1) I' (by omega) ⟨by rw [c1, el], c2, fun k hk hb => c3 k (by
          rcases Nat.lt_or_ge k j with q | q
          · exact q
          · exact absurd (show s / 2 ^ j % 2 = 1 by rw [show j = k by omega]; exact hb) c) hb, c4⟩
        rw [ef] at hi
        exact hi
  exact ⟨n + 1, key n 0 I (by omega) ⟨rfl, fun _ _ => rfl, fun k hk => absurd hk (by omega), fun _ _ _ => rfl⟩⟩
end MRC2
