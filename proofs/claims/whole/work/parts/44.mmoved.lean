section MMV
variable {I : MI} {J : MJ}
theorem rk_self_ge {w : Nat → Int} {k j : Nat} (h : w j < w k) : rk w k k ≤ rk w k j := cn_mono k (fun x _ hp => by rw [pre_iff] at hp ⊢; omega)
theorem rk_self_lt {w : Nat → Int} {k j : Nat} (hj : j < k) (h : w k ≤ w j) : rk w k j < rk w k k := rk_lt hj (pre_iff.mpr (by omega))
theorem rk_succ (w : Nat → Int) (k j : Nat) : rk w (k + 1) j = rk w k j + (if pre w k j = true then 1 else 0) := rfl
/-- the first k are sorted -/
def Srt (I' : MI) (w : Nat → Int) (k : Nat) : Prop := ∀ j, j < k → I' 35 0 (rk w k j) = iz (w j)
theorem s_insert {Q : Int32 → MI → MJ → Prop} {C87 : MI → MJ → Int32 → Int32 → Int32 → Prop} {m n0 : Int32} {w : Nat → Int} {k : Nat} (hk : k < 12) (hw : ∀ j, j ≤ k → -1000 ≤ w j ∧ w j ≤ 1000) (hs : Srt I w k) (hC : ∀ I', Srt I' w (k + 1) → (∀ t, t ≠ 35 → I' t = I t) → C87 I' J m n0 (nI k + 1)) : ∃ n : Nat, L_X8_moved_135 Q C87 n I J m n0 (nI k) (iz (w k)) (nI k) := by
  have hp : rk w k k ≤ k := cn_le _ _
  have hat : ∀ i, i < k → ∃ j, j < k ∧ rk w k j = i := fun i hi => bij_ex (fun j hj => rk_b hj) (fun j o hj ho => rk_inj hj ho) hi
  have fin : ∀ (I' : MI), (∀ i, i < rk w k k → I' 35 0 i = I 35 0 i) → (∀ i, rk w k k < i → i ≤ k → I' 35 0 i = I 35 0 (i - 1)) → (∀ t, t ≠ 35 → I' t = I t) → J_X8_moved_176 Q C87 I' J m n0 (nI k) (iz (w k)) (nI (rk w k k)) := by
    intro I' h1 h2 h3
    refine ⟨vp_in_nI (by omega) (by decide), ?_⟩
    rw [nI_clamp (by omega)]
    refine hC _ (fun j hj => ?_) (fun t ht => by rw [up3_t ht]; exact h3 t ht)
    rw [rk_succ]
    by_cases e : j = k
    · subst e
      rw [if_neg (fun q => by rw [pre_iff] at q; omega), Nat.add_zero, up3_y]
    · have hj' : j < k := by omega
      by_cases c : w k ≤ w j
      · have := rk_self_lt hj' c
        rw [if_neg (fun q => by rw [pre_iff] at q; omega), Nat.add_zero, up3_n (by omega), h1 _ this]
        exact hs j hj'
      · have h4 := rk_self_ge (w := w) (k := k) (j := j) (by omega)
        have h5 := rk_b (F := w) hj'
        rw [if_pos (pre_iff.mpr (by omega)), up3_n (by omega), h2 _ (by omega) (by omega), Nat.add_sub_cancel]
        exact hs j hj'
  have key : ∀ (d a : Nat) (I' : MI), a = rk w k k + d → a ≤ k → (∀ i, i < a → I' 35 0 i = I 35 0 i) → (∀ i, a < i → i ≤ k → I' 35 0 i = I 35 0 (i - 1)) → (∀ t, t ≠ 35 → I' t = I t) → L_X8_moved_135 Q C87 (d + 1) I' J m n0 (nI k) (iz (w k)) (nI a) := by
    intro d
    induction d with
    | zero =>
      intro a I' e ha h1 h2 h3
      obtain rfl : a = rk w k k := by omega
      by_cases c0 : rk w k k = 0
      · exact onp (by rw [c0]; decide) (fin I' h1 h2 h3)
      · have e1 : nI (rk w k k) - 1 = nI (rk w k k - 1) := pk_sub (b := 1) (by omega)
        refine onn (nI_nle (by omega) (by omega)) ⟨by rw [e1]; exact vp_in_nI (by omega) (by decide), onp ?_ (fin I' h1 h2 h3)⟩
        rw [e1, nI_clamp (by omega), h1 _ (by omega)]
        obtain ⟨j, hj, ej⟩ := hat (rk w k k - 1) (by omega)
        rw [← ej, hs j hj]
        have hwj := hw j (by omega)
        have hwk := hw k (by omega)
        refine (iz_le (by omega) (by omega) (by omega) (by omega)).mpr ?_
        exact Classical.byContradiction fun q => by have := rk_self_ge (w := w) (k := k) (j := j) (by omega); omega
    | succ d ih =>
      intro a I' e ha h1 h2 h3
      have e1 : nI a - 1 = nI (a - 1) := pk_sub (b := 1) (by omega)
      have hv : vp_in (nI (a - 1)) 12 := vp_in_nI (by omega) (by decide)
      obtain ⟨j, hj, ej⟩ := hat (a - 1) (by omega)
      have hwj := hw j (by omega)
      have hwk := hw k (by omega)
      refine onn (nI_nle (by omega) (by omega)) ⟨by rw [e1]; exact hv, onn ?_ ⟨by rw [e1]; exact hv, vp_in_nI (by omega) (by decide), ?_⟩⟩
      · rw [e1, nI_clamp (by omega), h1 _ (by omega), ← ej, hs j hj]
        intro q
        have q' := (iz_le (by omega) (by omega) (by omega) (by omega)).mp q
        have := rk_self_lt hj q'
        omega
      · rw [e1, nI_clamp (by omega), nI_clamp (by omega), h1 _ (by omega), show nI a + (-1) = nI (a - 1) by rw [← e1]; exact (Int32.sub_eq_add_neg ..).symm]
        refine ih (a - 1) _ (by omega) (by omega) (fun i hi => ?_) (fun i h4 h5 => ?_) (fun t ht => by rw [up3_t ht]; exact h3 t ht)
        · rw [up3_n (by omega)]; exact h1 i (by omega)
        · by_cases ei : i = a
          · rw [ei, up3_y]
          · rw [up3_n (by omega)]; exact h2 i (by omega) h5
  exact ⟨k - rk w k k + 1, key (k - rk w k k) k I (by omega) (Nat.le_refl _) (fun _ _ => rfl) (fun i h1 h2 => absurd h1 (by omega)) (fun _ _ => rfl)⟩
theorem mn_le {x y : Int32} : (if x ≤ y then x else y) = iz (min x.toInt y.toInt) := by
  by_cases h : x ≤ y
  · have := Int32.le_iff_toInt_le.mp h
    rw [if_pos h, show min x.toInt y.toInt = x.toInt by omega, iz_of]
  · have : ¬ x.toInt ≤ y.toInt := fun q => h (Int32.le_iff_toInt_le.mpr q)
    rw [if_neg h, show min x.toInt y.toInt = y.toInt by omega, iz_of]
/-- the sum of the first b of what is sorted -/
theorem s_msum {Q : Int32 → MI → MJ → Prop} {m : Int32} {w : Nat → Int} {n b : Nat} (hb : 1 ≤ b) (hbn : b ≤ n) (hn : n ≤ 12) (hw : ∀ j, j < n → -1000 ≤ w j ∧ w j ≤ 1000) (hs : Srt I w n) (h3 : bd (I 29 0 3) 1 20) (hQ : Q (mvA (I 29 0) m (iz (topS w w n b / (b : Int)))) I J) : ∃ k : Nat, L_X8_moved_219 Q k I J m (nI b) 0 0 := by
  have hS : sm (fun _ => true) (fun i => (I 35 0 i).toInt) b = topS w w n b := by
    rw [← bij_sm (h := rk w n) (n := n) (fun j hj => rk_b hj) (fun j o hj ho => rk_inj hj ho) (fun i => (I 35 0 i).toInt) b hbn]
    refine sm_congr n (fun j hj => ?_)
    have := hw j hj
    rw [hs j hj, iz_toInt (by omega) (by omega)]
  have hSb := sm_bd (P := fun k => decide (rk w n k < b)) (w := w) (c := 1000) (by decide) n (fun k hk => hw k hk)
  have key : ∀ (d j : Nat), j + d = b → L_X8_moved_219 Q (d + 1) I J m (nI b) (iz (sm (fun _ => true) (fun i => (I 35 0 i).toInt) j)) (nI j) := by
    intro d
    induction d with
    | zero =>
      intro j e
      obtain rfl : j = b := by omega
      refine onp (nI_le (Nat.le_refl _) (by omega)) ?_
      rw [hS]
      have hT : -1000000 ≤ topS w w n j ∧ topS w w n j ≤ 1000000 := by unfold topS; omega
      refine s_mfloor hT.1 hT.2 hb (by omega) ⟨?_, fun v hv => ?_⟩
      · intro q
        have h3' := (bd_le (by decide) (by decide) (by decide) (by decide)).mp h3
        rw [q] at h3'
        exact absurd h3'.1 (by decide)
      · rw [q_mwithin, q_mwithin, hv]
        exact hQ
    | succ d ih =>
      intro j e
      refine onn (nI_ge (by omega) (by omega)) ⟨vp_in_nI (by omega) (by decide), fun v hv => ?_⟩
      rw [nI_clamp (by omega)] at hv
      have hi := ih (j + 1) (by omega)
      have es : sm (fun _ => true) (fun i => (I 35 0 i).toInt) (j + 1) = sm (fun _ => true) (fun i => (I 35 0 i).toInt) j + (I 35 0 j).toInt := rfl
      rw [es, ← iz_add, iz_of, ← hv] at hi
      rw [nI_1]
      exact hi
  exact ⟨b + 1, key b 0 (by omega)⟩
/-- the model's moved -/
def MMv (I I' : MI) (x : Int32) (q : Nat) : Prop := I' 34 0 0 = x ∧ (∀ j, 1 ≤ j → j < 12 → I' 34 0 j = I 34 0 (j - 1)) ∧ I' 8 0 19 = nI (min 12 (q + 1)) ∧ (∀ j, j ≠ 19 → I' 8 0 j = I 8 0 j) ∧ ∀ t, t ≠ 34 → t ≠ 35 → t ≠ 8 → I' t = I t
theorem s_mmoved {Q : Int32 → MI → MJ → Prop} {q : Nat} {m x : Int32} (hq : q ≤ 12) (e19 : I 8 0 19 = nI q) (hu : RuB (I 29 0)) (hm : bd m 0 200) (hx : bd x (-1000) 1000) (hf : ∀ j, j < q → bd (I 34 0 j) (-1000) 1000) (hQ : ∀ I', MMv I I' x q → Q (newM (I 29 0) m (Fg (I' 34 0)) (min 12 (q + 1))) I' J) : wp_X8_moved Q I J m x := by
  obtain ⟨b0, b1, b2, b3, b4, b5, -, -⟩ := id hu
  obtain ⟨n0, l0, k0⟩ := bd_nat b0 (by decide)
  obtain ⟨n1, l1, k1⟩ := bd_nat b1 (by decide)
  have hl : ∀ q1, lst (I 29 0) q1 = min (I 29 0 1).toNatClampNeg q1 := fun _ => rfl
  have hb : ∀ q1, bsf (I 29 0) q1 = min (I 29 0 0).toNatClampNeg (lst (I 29 0) q1) := fun _ => rfl
  -- behind the shift
  have after : ∀ (I3 : MI) (n : Int32), MMv I I3 x q → n = nI (lst (I 29 0) (min 12 (q + 1))) → ∃ k : Nat, L_X8_moved_87 Q k I3 J m n 0 := by
    intro I3 n h3 hn
    obtain ⟨f0, fj, g19, g8, go⟩ := id h3
    generalize hq1 : min 12 (q + 1) = q1 at hn g19
    have hl1 := hl q1
    have hb1 := hb q1
    have u29 : I3 29 = I 29 := go 29 (by decide) (by decide) (by decide)
    generalize hw : (fun k => min (Fg (I3 34 0) k) (m + I 29 0 5).toInt) = w
    have hwk : ∀ k, w k = min (Fg (I3 34 0) k) (m + I 29 0 5).toInt := fun k => by rw [← hw]
    have hcb : 0 ≤ (m + I 29 0 5).toInt ∧ (m + I 29 0 5).toInt ≤ 400 := by
      obtain ⟨a, ea, a1, a2⟩ := bd_ex hm
      obtain ⟨c, ec, c1, c2⟩ := bd_ex b5
      rw [ea, ec, iz_add, iz_toInt (by omega) (by omega)]
      omega
    have hFb : ∀ j, j < q1 → -1000 ≤ Fg (I3 34 0) j ∧ Fg (I3 34 0) j ≤ 1000 := by
      intro j hj
      unfold Fg
      by_cases e : j = 0
      · rw [e, f0]; exact hx
      · rw [fj j (by omega) (by omega)]; exact hf (j - 1) (by omega)
    have hwb : ∀ j, j < q1 → -1000 ≤ w j ∧ w j ≤ 1000 := fun j hj => by have := hFb j hj; rw [hwk]; omega
    have key : ∀ (d k : Nat) (I' : MI), k + d = lst (I 29 0) q1 → Srt I' w k → (∀ t, t ≠ 35 → I' t = I3 t) → L_X8_moved_87 Q (d + 1) I' J m n (nI k) := by
      intro d
      induction d with
      | zero =>
        intro k I' e hs ho
        have hMM : MMv I I' x q := ⟨by rw [ho 34 (by decide)]; exact f0, fun j h1 h2 => by rw [ho 34 (by decide)]; exact fj j h1 h2, by rw [ho 8 (by decide), hq1]; exact g19, fun j hj => by rw [ho 8 (by decide)]; exact g8 j hj, fun t h1 h2 h4 => by rw [ho t h2]; exact go t h1 h2 h4⟩
        have e29 : I' 29 = I 29 := by rw [ho 29 (by decide), u29]
        have res : J_X8_moved_211 Q I' J m (nI (bsf (I 29 0) q1)) := by
          refine s_msum (n := lst (I 29 0) q1) (by omega) (by omega) (by omega) (fun j hj => hwb j (by omega)) (by rw [show lst (I 29 0) q1 = k by omega]; exact hs) (by rw [e29]; exact b3) ?_
          have hq2 := hQ I' hMM
          rw [hq1] at hq2
          have e34 : Fg (I' 34 0) = Fg (I3 34 0) := by rw [ho 34 (by decide)]
          unfold newM smF at hq2
          rw [e34, topS_cut _ _ (by omega), hw] at hq2
          rw [e29]
          exact hq2
        refine onp (by rw [hn]; exact nI_le (by omega) (by omega)) ?_
        rw [e29, n0, hn]
        by_cases c : (I 29 0 0).toNatClampNeg ≤ lst (I 29 0) q1
        · rw [show bsf (I 29 0) q1 = (I 29 0 0).toNatClampNeg by omega] at res
          exact onp (nI_le c (by omega)) res
        · rw [show bsf (I 29 0) q1 = lst (I 29 0) q1 by omega] at res
          exact onn (nI_ge (by omega) (by omega)) res
      | succ d ih =>
        intro k I' e hs ho
        have hv : vp_in (nI k) 12 := vp_in_nI (by omega) (by decide)
        refine onn (by rw [hn]; exact nI_ge (by omega) (by omega)) ⟨hv, ?_⟩
        rw [nI_clamp (by omega), ho 34 (by decide), ho 29 (by decide), u29]
        have ev := mn_le (x := I3 34 0 k) (y := m + I 29 0 5)
        have ew : iz (min (I3 34 0 k).toInt (m + I 29 0 5).toInt) = iz (w k) := by rw [hwk]; rfl
        rw [ew] at ev
        have ins : ∃ n' : Nat, L_X8_moved_135 Q (L_X8_moved_87 Q (d + 1)) n' I' J m n (nI k) (iz (w k)) (nI k) := s_insert (by omega) (fun j hj => hwb j (by omega)) hs (fun I'' g1 g2 => by rw [nI_1]; exact ih (k + 1) I'' (by omega) g1 (fun t ht => by rw [g2 t ht]; exact ho t ht))
        by_cases c : I3 34 0 k ≤ m + I 29 0 5
        · rw [if_pos c] at ev
          rw [← ev] at ins
          exact onp c ⟨hv, ins⟩
        · rw [if_neg c] at ev
          rw [← ev] at ins
          exact onn c ins
    exact ⟨lst (I 29 0) q1 + 1, key (lst (I 29 0) q1) 0 I3 (by omega) (fun j hj => absurd hj (by omega)) (fun _ _ => rfl)⟩
  -- the shift
  have key : ∀ (k : Nat) (I' : MI), k ≤ 11 → (∀ j, j ≤ k → I' 34 0 j = I 34 0 j) → (∀ j, k < j → j < 12 → I' 34 0 j = I 34 0 (j - 1)) → (∀ t, t ≠ 34 → I' t = I t) → L_X8_moved_3 Q (k + 1) I' J m x (nI k) := by
    intro k
    induction k with
    | zero =>
      intro I' _ h1 h2 h3
      refine onp (by decide) ?_
      have e8 : up3 I' 34 0 0 x 8 0 19 = nI q := by rw [up3_t (by decide), h3 8 (by decide)]; exact e19
      have go : ∀ s0 : Nat, q + s0 = min 12 (q + 1) → J_X8_moved_53 Q (up3 I' 34 0 0 x) J m (nI s0) (nI q) := by
        intro s0 es
        unfold J_X8_moved_53
        rw [nI_add, es]
        generalize hI3 : up3 (up3 I' 34 0 0 x) 8 0 19 (nI (min 12 (q + 1))) = I3
        have hM : MMv I I3 x q := ⟨by rw [← hI3, up3_t (by decide), up3_y], fun j g1 g2 => by rw [← hI3, up3_t (by decide), up3_n (by omega)]; exact h2 j (by omega) g2, by rw [← hI3, up3_y], fun j hj => by rw [← hI3, up3_n (by omega), up3_t (by decide), h3 8 (by decide)], fun t g1 g2 g3 => by rw [← hI3, up3_t g3, up3_t g1, h3 t g1]⟩
        have e29 : I3 29 0 1 = I 29 0 1 := by rw [hM.2.2.2.2 29 (by decide) (by decide) (by decide)]
        rw [e29, hM.2.2.1]
        have hl1 := hl (min 12 (q + 1))
        by_cases c : (I 29 0 1).toNatClampNeg ≤ min 12 (q + 1)
        · refine onp (by rw [n1]; exact nI_le c (by omega)) (fun v hv => after I3 v hM ?_)
          rw [hv, hl1, show min (I 29 0 1).toNatClampNeg (min 12 (q + 1)) = (I 29 0 1).toNatClampNeg by omega]
          exact n1
        · refine onn (by rw [n1]; exact nI_ge (by omega) (by omega)) (fun v hv => after I3 v hM ?_)
          rw [hv, hl1, show min (I 29 0 1).toNatClampNeg (min 12 (q + 1)) = min 12 (q + 1) by omega]
      rw [e8]
      by_cases c : 12 ≤ q
      · exact onp (nI_le (a := 12) c (by omega)) (go 0 (by omega))
      · exact onn (nI_ge (b := 12) (by omega) (by omega)) (go 1 (by omega))
    | succ k ih =>
      intro I' hk h1 h2 h3
      have e1 : nI (k + 1) - 1 = nI k := nI_pred k
      refine onn (nI_nle (by omega) (by omega)) ⟨by rw [e1]; exact vp_in_nI (by omega) (by decide), vp_in_nI (by omega) (by decide), ?_⟩
      rw [e1, nI_clamp (by omega), nI_clamp (by omega), pk_m1]
      refine ih _ (by omega) (fun j hj => ?_) (fun j g1 g2 => ?_) (fun t ht => by rw [up3_t ht]; exact h3 t ht)
      · rw [up3_n (by omega)]; exact h1 j (by omega)
      · by_cases ej : j = k + 1
        · rw [ej, up3_y, Nat.add_sub_cancel]; exact h1 k (by omega)
        · rw [up3_n (by omega)]; exact h2 j (by omega) g2
  exact ⟨12, key 11 I (by omega) (fun _ _ => rfl) (fun j g1 g2 => absurd g2 (by omega)) (fun _ _ => rfl)⟩
theorem sm_cgF {P P' : Nat → Bool} {w w' : Nat → Int} {n : Nat} (h : ∀ k, k < n → P k = P' k ∧ w k = w' k) : sm P w n = sm P' w' n := sm_congr n (fun k hk => by rw [(h k hk).1, (h k hk).2])
theorem newM_congr {u u' : Nat → Int32} {m : Int32} {F G : Nat → Int} {q : Nat} (hu : ∀ j, j < 6 → u j = u' j) (hF : ∀ j, j < q → F j = G j) : newM u m F q = newM u' m G q := by
  have e1 : lst u q = lst u' q := by unfold lst; rw [hu 1 (by decide)]
  have e2 : bsf u q = bsf u' q := by unfold bsf; rw [hu 0 (by decide), e1]
  have hl : lst u' q ≤ q := Nat.min_le_right _ _
  have e3 : smF u m F q = smF u' m G q := by
    unfold smF topS
    rw [e1, e2, hu 5 (by decide)]
    refine sm_cgF (fun k hk => ⟨?_, by rw [hF k (by omega)]⟩)
    have : rk F (lst u' q) k = rk G (lst u' q) k := cn_congr _ (fun o ho => by unfold pre; rw [hF o (by omega), hF k (by omega)])
    rw [this]
  unfold newM mvA
  rw [e3, e2, hu 2 (by decide), hu 3 (by decide), hu 4 (by decide)]
theorem newM_bd (u : Nat → Int32) (m : Int32) (F : Nat → Int) (q : Nat) : bd (newM u m F q) 0 200 := clI_bd _
end MMV
