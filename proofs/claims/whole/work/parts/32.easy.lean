theorem two {p A B : Prop} (hp : p → B) (hn : ¬ p → A) : (¬ p → A) ∧ (¬ ¬ p → B) := ⟨hn, fun q => hp (Classical.not_not.mp q)⟩
theorem twp {p A B : Prop} (c : p) (hp : B) : (¬ p → A) ∧ (¬ ¬ p → B) := ⟨fun q => absurd c q, fun _ => hp⟩
theorem twn {p A B : Prop} (c : ¬ p) (hn : A) : (¬ p → A) ∧ (¬ ¬ p → B) := ⟨fun _ => hn, fun q => absurd c q⟩
theorem onp {p A B : Prop} (c : p) (hp : A) : (p → A) ∧ (¬ p → B) := ⟨fun _ => hp, fun q => absurd c q⟩
theorem onn {p A B : Prop} (c : ¬ p) (hn : B) : (p → A) ∧ (¬ p → B) := ⟨fun q => absurd q c, fun _ => hn⟩
section EASY
variable {I : MI} {J : MJ}
theorem Inv.n (h : Inv I J) : ∃ n : Nat, n ≤ 8 ∧ I 6 0 1 = nI n ∧ I 25 0 168 = nI n := by
  obtain ⟨⟨n, h1, h2, h3, -⟩, -⟩ := h
  exact ⟨n, h1, h2, h3⟩
/-- who is here: the same on both sides -/
theorem here_iff {n : Nat} (hn : n ≤ 8) (x : Int32) : (0 ≤ x ∧ x ≤ nI n - 1) ↔ (0 ≤ x ∧ x < nI n) := by
  obtain ⟨a, rfl, ha, hb⟩ := iz_ex x
  rw [iz_nI, zl0, zl1, iz_sub, iz_le (by omega) (by omega) (by omega) (by omega), iz_le (by omega) (by omega) (by omega) (by omega), iz_lt (by omega) (by omega) (by omega) (by omega)]
  omega
theorem q_run {Q : Int32 → MI → MJ → Prop} {n : Nat} (hn : n ≤ 8) (e : I 25 0 168 = nI n) (x : Int32) : wp_X8_isRunner Q I J x ↔ Q (bi (decide (0 ≤ x ∧ x < nI n))) I J := by
  rw [q_isRunner, e]
  simp only [here_iff hn]
theorem pr_lot (h : Inv I J) (x1 : Int32) : wp_X7_lot (fun r I1 J1 => wp_X8_lot (fun r2 I2 J2 => r = r2 ∧ Inv I2 J2) I1 J1 x1) I J x1 := by
  obtain ⟨⟨n, y1, y2, y3, y4, y5, y6⟩, hi, ht, hu, hx, hl, hc, hh, hj⟩ := h
  show I 6 0 2 = up3 (up3 I 6 0 2 x1) 8 0 0 0 25 0 169 ∧ _
  refine ⟨by rw [up3_t (by decide), up3_t (by decide)]; exact y4.symm, ⟨n, y1, ?_, ?_, ?_, ?_, fun k hk => ?_⟩, ?_, ?_, ?_, ?_, ?_, ?_, ?_, hj⟩
  · rw [up3_t (by decide), up3_t (by decide), up3_n (by decide)]; exact y2
  · rw [up3_n (by decide), up3_t (by decide), up3_t (by decide)]; exact y3
  · rw [up3_y, up3_t (by decide), up3_t (by decide), up3_y]
  · rw [up3_n (by decide), up3_t (by decide), up3_t (by decide), up3_t (by decide), up3_t (by decide), up3_n (by decide)]; exact y5
  · have e25 : ∀ j, j < 169 → up3 (up3 (up3 I 6 0 2 x1) 8 0 0 0) 25 0 169 x1 25 0 j = I 25 0 j := fun j hj => by rw [up3_n (by omega), up3_t (by decide), up3_t (by decide)]
    obtain ⟨⟨a1, a2, a3, a4, a5, a6⟩, b, ⟨q, c1, c2, c3⟩, d⟩ := y6 k hk
    rw [Nat.zero_add] at a1 a2 a3 a4 a5 a6 b c3
    unfold RR
    rw [up3_t (t' := 4) (by decide), up3_t (t' := 4) (by decide), up3_t (t' := 4) (by decide), up3_t (t' := 15) (by decide), up3_t (t' := 15) (by decide), up3_t (t' := 15) (by decide), up3_t (t' := 16) (by decide), up3_t (t' := 16) (by decide), up3_t (t' := 16) (by decide), Nat.zero_add]
    refine ⟨⟨?_, ?_, ?_, ?_, ?_, ?_⟩, fun j hj => ?_, ⟨q, c1, c2, fun j hj => ?_⟩, d⟩
    · rw [e25 _ (by omega)]; exact a1
    · rw [e25 _ (by omega)]; exact a2
    · rw [e25 _ (by omega)]; exact a3
    · rw [e25 _ (by omega)]; exact a4
    · rw [e25 _ (by omega)]; exact a5
    · rw [e25 _ (by omega)]; exact a6
    · rw [e25 _ (by omega)]; exact b j hj
    · rw [e25 _ (by omega)]; exact c3 j hj
  · exact hi.congr (fun b hb => by rw [up3_t (by decide), up3_t (by decide), up3_o (by omega)]) (by rw [up3_t (by decide), up3_t (by decide), up3_t (by decide)]) (by rw [up3_t (by decide), up3_t (by decide), up3_t (by decide)]) (by rw [up3_t (by decide), up3_t (by decide), up3_t (by decide)]) (by rw [up3_t (by decide), up3_t (by decide), up3_t (by decide)]) (by rw [up3_t (by decide), up3_t (by decide), up3_t (by decide)])
  · exact ht.congr (by rw [up3_t (by decide), up3_t (by decide), up3_t (by decide)]) (by rw [up3_t (by decide), up3_t (by decide), up3_t (by decide)])
  · exact hu.congr (fun _ _ => by rw [up3_t (by decide), up3_t (by decide), up3_t (by decide)]) (by rw [up3_t (by decide), up3_t (by decide), up3_t (by decide)])
  · exact hx.congr (by rw [up3_t (by decide), up3_t (by decide), up3_t (by decide)]) (by rw [up3_t (by decide), up3_n (by decide), up3_t (by decide)]) (by rw [up3_t (by decide), up3_t (by decide), up3_t (by decide)]) (by rw [up3_t (by decide), up3_t (by decide), up3_t (by decide)])
  · exact hl.congr (by rw [up3_t (by decide), up3_n (by decide), up3_t (by decide)]) (by rw [up3_t (by decide), up3_t (by decide), up3_t (by decide)]) (by rw [up3_t (by decide), up3_t (by decide), up3_t (by decide)]) (by rw [up3_t (by decide), up3_t (by decide), up3_t (by decide)]) (by rw [up3_t (by decide), up3_t (by decide), up3_t (by decide)]) (by rw [up3_t (by decide), up3_t (by decide), up3_t (by decide)])
  · exact hc.congr (by rw [up3_t (by decide), up3_t (by decide), up3_t (by decide)]) (by rw [up3_t (by decide), up3_t (by decide), up3_t (by decide)]) (by rw [up3_t (by decide), up3_t (by decide), up3_t (by decide)])
  · exact hh.congr (by rw [up3_t (by decide), up3_t (by decide), up3_t (by decide)]) (by rw [up3_t (by decide), up3_t (by decide), up3_t (by decide)])
end EASY
