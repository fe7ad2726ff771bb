theorem pRule_rd {b : Nat → Nat} {n : Nat} {r : (Nat → Nat) × Nat} : ∀ (k : Nat) (D : Nat → Nat) (M : Nat) (s : Tks) (it : Nat), RD D → pRule b n k D M s it = .inr r → RD r.1 := by
  intro k
  induction k with
  | zero => intro D M s it _ h; exact absurd h (by intro q; cases q)
  | succ k ih =>
    intro D M s it hD h
    rw [pRule_s] at h
    by_cases c : s.2.2.1 = 0
    · rw [if_pos c] at h
      rw [← Sum.inr.inj h]
      exact hD
    · rw [if_neg c] at h
      cases hi : pItem b n D M s with
      | inl q => rw [hi] at h; exact absurd h (by intro q; cases q)
      | inr r' =>
        rw [hi] at h
        exact ih r'.1 _ r'.2 _ (pItem_rd hD hi).1 h
section PRR
variable {I : MI} {J : MJ}
theorem bd_nI {k : Nat} {a c : Int} (h1 : a ≤ k) (h2 : (k : Int) ≤ c) (h : k < 2 ^ 31) : bd (nI k) a c := by
  unfold bd
  rw [nI_toInt h]
  exact ⟨h1, h2⟩
theorem pr_rule (h : Inv I J) : wp_X7_rule (fun r I1 J1 => wp_X8_rule (fun r2 I2 J2 => r = r2 ∧ Inv I2 J2) I1 J1) I J := by
  obtain ⟨n, hn, x1, x2, x3⟩ := id h.2.2.2.2.1
  generalize hb : (fun j => (I 14 0 j).toNatClampNeg) = b
  have hbj : ∀ j, j < n → I 14 0 j = nI (b j) ∧ b j < 256 := by
    intro j hj
    obtain ⟨e, l1, l2⟩ := bd_nat (x3 j hj).2 (by decide)
    rw [← hb]
    exact ⟨e, by show (I 14 0 j).toNatClampNeg < 256; omega⟩
  have hx : Ctx I b n := ⟨hn, x1, hbj⟩
  have hmx : ∀ I1 : MI, I1 8 0 8 = I 8 0 8 → I1 30 0 = I 30 0 → Mtx I1 b n := fun I1 e1 e2 => ⟨hn, by rw [e1]; exact x2, fun j hj => by rw [e2, (x3 j hj).1]; exact hbj j hj⟩
  unfold wp_X7_rule
  refine s_readInto hx (fun q e1 hq I1 cl => ?_) (fun r e1 h4 I1 cl hD => ?_)
  · refine onp ((iz_lt (b := 0) (by omega) (by omega) (by omega) (by omega)).mpr (by omega)) ?_
    refine s_mrule (hmx I1 (by rw [cl.1 8 0 (by decide) (by decide)]) (cl.1 30 0 (by decide) (by decide))) (fun q' e2 I2 ml => ?_) (fun r e2 => absurd (e1.symm.trans e2) (by intro q; cases q))
    have eq : q = q' := Sum.inl.inj (e1.symm.trans e2)
    refine ⟨by rw [eq], h.keep (I' := I2) ?_ ⟨rfl, rfl⟩⟩
    have k1 : Keep I I1 := ⟨fun t ht => by
        funext r
        refine cl.1 t r (fun q => ?_) (fun q => ?_)
        · rw [q] at ht; exact absurd ht (by decide)
        · rw [q.1] at ht; exact absurd ht (by decide), fun r _ => ⟨cl.1 4 r (by decide) (by omega), cl.1 15 r (by decide) (by omega), cl.1 16 r (by decide) (by omega)⟩, cl.1 13 0 (by decide) (by decide), fun j _ => by rw [cl.1 29 0 (by decide) (by decide)], cl.2, by rw [cl.1 8 0 (by decide) (by decide)], by rw [cl.1 8 0 (by decide) (by decide)]⟩
    refine k1.tr ⟨fun t ht => ml.1 t (fun q => ?_) (fun q => ?_), fun r _ => ⟨by rw [ml.1 4 (by decide) (by decide)], by rw [ml.1 15 (by decide) (by decide)], by rw [ml.1 16 (by decide) (by decide)]⟩, by rw [ml.1 13 (by decide) (by decide)], fun j hj => ml.2.2.2 j hj, by rw [ml.1 3 (by decide) (by decide)], ml.2.1, ml.2.2.1⟩
    · rw [q] at ht; exact absurd ht (by decide)
    · rw [q] at ht; exact absurd ht (by decide)
  · have hRD := pRule_rd 5 D0 0 (tk b n 0) 0 (by unfold RD; decide) e1
    refine onn (nI_pos (by omega)) ?_
    unfold wp_X2_become
    dsimp only
    generalize hI3 : up3 (row3 I1 13 0 (va_cpy (I1 13 1) (I1 13 0) 0 0 6)) 3 0 1 0 = I3
    have o3 : ∀ t, t ≠ 3 → t ≠ 13 → I3 t = I t := fun t a c => by
      rw [← hI3, up3_t a, row3_t c]
      funext r
      exact cl.1 t r a (fun q => c q.1)
    have d3 : ∀ j, j < 6 → I3 13 0 j = nI (r.1 j) := fun j hj => by
      rw [← hI3, up3_t (by decide), row3_r, pk_cpy_in (by omega) (by omega), show 0 + (j - 0) = j by omega]
      exact hD j hj
    have l3 : I3 3 0 1 = 0 := by rw [← hI3, up3_y]
    refine s_mrule (hmx I3 (by rw [o3 8 (by decide) (by decide)]) (by rw [o3 30 (by decide) (by decide)])) (fun q' e2 => absurd (e1.symm.trans e2) (by intro q; cases q)) (fun r' e2 I4 ml hD4 => m_copy (fun I5 c1 c2 c3 c4 => ?_))
    have er : r = r' := Sum.inr.inj (e1.symm.trans e2)
    subst er
    have o5 : ∀ t, t ≠ 3 → t ≠ 13 → t ≠ 8 → t ≠ 29 → I5 t = I t := fun t a1 a2 a3 a4 => by rw [c2 t a3 a4, ml.1 t a3 a4, o3 t a1 a2]
    have ho : Only [3, 13, 8, 29] I I5 := fun t ht => o5 t (fun e => ht (by simp [e])) (fun e => ht (by simp [e])) (fun e => ht (by simp [e])) (fun e => ht (by simp [e]))
    have d5 : ∀ j, j < 6 → I5 13 0 j = nI (r.1 j) := fun j hj => by rw [c2 13 (by decide) (by decide), ml.1 13 (by decide) (by decide)]; exact d3 j hj
    obtain ⟨hy, hi, ht, -, -, hl, hc, hh, hj⟩ := h
    refine ⟨rfl, ho.y hy (by decide), ho.i hi (by decide), ho.t ht (by decide), ⟨fun j hj => by rw [c1 j hj, hD4 j hj, d5 j hj], ?_⟩, ⟨0, by decide, ?_, c3, fun j hj => absurd hj (by omega)⟩, ho.l hl (by decide) ?_, ho.c hc (by decide), ho.h hh (by decide), hj⟩
    · unfold RuB
      unfold RD at hRD
      rw [d5 0 (by decide), d5 1 (by decide), d5 2 (by decide), d5 3 (by decide), d5 4 (by decide), d5 5 (by decide)]
      exact ⟨bd_nI (by omega) (by omega) (by omega), bd_nI (by omega) (by omega) (by omega), bd_nI (by omega) (by omega) (by omega), bd_nI (by omega) (by omega) (by omega), bd_nI (by omega) (by omega) (by omega), bd_nI (by omega) (by omega) (by omega), nI_le (by omega) (by omega), nI_le (by omega) (by omega)⟩
    · rw [c2 3 (by decide) (by decide), ml.1 3 (by decide) (by decide), l3]; rfl
    · rw [c4, ml.2.2.1, o3 8 (by decide) (by decide)]
end PRR
