/-! the rule's text, item by item -/
abbrev Tks : Type := Nat × Nat × Nat × Nat
noncomputable def nx (b : Nat → Nat) (n : Nat) (s : Tks) : Tks := tk b n s.1
abbrev nmOk (s : Tks) (lo hi : Nat) : Prop := s.2.2.1 = 2 ∧ lo ≤ s.2.2.2 ∧ s.2.2.2 ≤ hi
def dset (D : Nat → Nat) (i v : Nat) : Nat → Nat := fun j => if j = i then v else D j
noncomputable def pFin (b : Nat → Nat) (n : Nat) (D : Nat → Nat) (s : Tks) : Nat ⊕ ((Nat → Nat) × Tks) := if s.2.2.1 = 4 then .inr (D, nx b n s) else .inl s.2.1
noncomputable def pB1 (b : Nat → Nat) (n : Nat) (D : Nat → Nat) (s : Tks) (i : Nat) : Nat ⊕ ((Nat → Nat) × Tks) := if nmOk s 0 200 then pFin b n (dset D i s.2.2.2) (nx b n s) else .inl s.2.1
noncomputable def pB2 (b : Nat → Nat) (n : Nat) (D : Nat → Nat) (s : Tks) (i hi sg : Nat) : Nat ⊕ ((Nat → Nat) × Tks) :=
  if nmOk s 1 hi then (if (nx b n s).2.2.1 = sg then (if nmOk (nx b n (nx b n s)) s.2.2.2 hi then pFin b n (dset (dset D i s.2.2.2) (i + 1) (nx b n (nx b n s)).2.2.2) (nx b n (nx b n (nx b n s))) else .inl (nx b n (nx b n s)).2.1) else .inl (nx b n s).2.1) else .inl s.2.1
def kd (t : Nat) : Nat := if t = 5 then 0 else if t = 7 then 1 else if t = 8 then 2 else if t = 9 then 3 else 4
noncomputable def pItem (b : Nat → Nat) (n : Nat) (D : Nat → Nat) (M : Nat) (s : Tks) : Nat ⊕ ((Nat → Nat) × Tks) :=
  if kd s.2.2.1 < 4 ∧ M / 2 ^ kd s.2.2.1 % 2 = 0 then (if s.2.2.1 = 5 then pB2 b n D (nx b n s) 0 12 6 else if s.2.2.1 = 7 then pB2 b n D (nx b n s) 2 20 3 else if s.2.2.1 = 8 then pB1 b n D (nx b n s) 4 else pB1 b n D (nx b n s) 5) else .inl s.2.1
noncomputable def pRule (b : Nat → Nat) (n : Nat) : Nat → (Nat → Nat) → Nat → Tks → Nat → Nat ⊕ ((Nat → Nat) × Nat)
  | 0, _, _, _, _ => .inl 0
  | k + 1, D, M, s, it => if s.2.2.1 = 0 then .inr (D, it) else (match pItem b n D M s with
    | .inl q => .inl q
    | .inr r => pRule b n k r.1 (M + 2 ^ kd s.2.2.1) r.2 (it + 1))
theorem pRule_s (b : Nat → Nat) (n k : Nat) (D : Nat → Nat) (M : Nat) (s : Tks) (it : Nat) : pRule b n (k + 1) D M s it = if s.2.2.1 = 0 then .inr (D, it) else (match pItem b n D M s with
    | .inl q => .inl q
    | .inr r => pRule b n k r.1 (M + 2 ^ kd s.2.2.1) r.2 (it + 1)) := rfl
def Ws (n : Nat) (s : Tks) : Prop := s.1 ≤ n ∧ s.2.1 ≤ n ∧ s.2.2.1 ≤ 9 ∧ (s.2.2.1 = 2 → s.2.2.2 ≤ 999)
theorem Ws.nx {b : Nat → Nat} {n : Nat} {s : Tks} (h : Ws n s) : Ws n (nx b n s) := (tk_ok b n s.1).bd h.1
/-- what the numbers keep to -/
def RD (D : Nat → Nat) : Prop := 1 ≤ D 0 ∧ D 0 ≤ D 1 ∧ D 1 ≤ 12 ∧ 1 ≤ D 2 ∧ D 2 ≤ D 3 ∧ D 3 ≤ 20 ∧ D 4 ≤ 200 ∧ D 5 ≤ 200
theorem pFin_r {b : Nat → Nat} {n : Nat} {D : Nat → Nat} {s : Tks} {r : (Nat → Nat) × Tks} (h : pFin b n D s = .inr r) : r.1 = D := by
  unfold pFin at h
  by_cases c : s.2.2.1 = 4
  · rw [if_pos c] at h; rw [← Sum.inr.inj h]
  · rw [if_neg c] at h; exact absurd h (by intro q; cases q)
theorem pB1_rd {b : Nat → Nat} {n : Nat} {D : Nat → Nat} {s : Tks} {i : Nat} {r : (Nat → Nat) × Tks} (hi : i = 4 ∨ i = 5) (hD : RD D) (h : pB1 b n D s i = .inr r) : RD r.1 := by
  unfold pB1 at h
  by_cases c : nmOk s 0 200
  · rw [if_pos c] at h
    rw [pFin_r h]
    unfold RD at hD ⊢
    unfold nmOk at c
    rcases hi with rfl | rfl
    · show 1 ≤ D 0 ∧ D 0 ≤ D 1 ∧ D 1 ≤ 12 ∧ 1 ≤ D 2 ∧ D 2 ≤ D 3 ∧ D 3 ≤ 20 ∧ s.2.2.2 ≤ 200 ∧ D 5 ≤ 200; omega
    · show 1 ≤ D 0 ∧ D 0 ≤ D 1 ∧ D 1 ≤ 12 ∧ 1 ≤ D 2 ∧ D 2 ≤ D 3 ∧ D 3 ≤ 20 ∧ D 4 ≤ 200 ∧ s.2.2.2 ≤ 200; omega
  · rw [if_neg c] at h; exact absurd h (by intro q; cases q)
theorem pB2_rd {b : Nat → Nat} {n : Nat} {D : Nat → Nat} {s : Tks} {i hi sg : Nat} {r : (Nat → Nat) × Tks} (hh : (i = 0 ∧ hi = 12) ∨ (i = 2 ∧ hi = 20)) (hD : RD D) (h : pB2 b n D s i hi sg = .inr r) : RD r.1 := by
  unfold pB2 at h
  by_cases c : nmOk s 1 hi
  · rw [if_pos c] at h
    by_cases c2 : (nx b n s).2.2.1 = sg
    · rw [if_pos c2] at h
      by_cases c3 : nmOk (nx b n (nx b n s)) s.2.2.2 hi
      · rw [if_pos c3] at h
        rw [pFin_r h]
        unfold RD at hD ⊢
        unfold nmOk at c c3
        rcases hh with ⟨rfl, rfl⟩ | ⟨rfl, rfl⟩
        · show 1 ≤ s.2.2.2 ∧ s.2.2.2 ≤ (nx b n (nx b n s)).2.2.2 ∧ (nx b n (nx b n s)).2.2.2 ≤ 12 ∧ 1 ≤ D 2 ∧ D 2 ≤ D 3 ∧ D 3 ≤ 20 ∧ D 4 ≤ 200 ∧ D 5 ≤ 200; omega
        · show 1 ≤ D 0 ∧ D 0 ≤ D 1 ∧ D 1 ≤ 12 ∧ 1 ≤ s.2.2.2 ∧ s.2.2.2 ≤ (nx b n (nx b n s)).2.2.2 ∧ (nx b n (nx b n s)).2.2.2 ≤ 20 ∧ D 4 ≤ 200 ∧ D 5 ≤ 200; omega
      · rw [if_neg c3] at h; exact absurd h (by intro q; cases q)
    · rw [if_neg c2] at h; exact absurd h (by intro q; cases q)
  · rw [if_neg c] at h; exact absurd h (by intro q; cases q)
theorem pItem_rd {b : Nat → Nat} {n : Nat} {D : Nat → Nat} {M : Nat} {s : Tks} {r : (Nat → Nat) × Tks} (hD : RD D) (h : pItem b n D M s = .inr r) : RD r.1 ∧ kd s.2.2.1 < 4 ∧ M / 2 ^ kd s.2.2.1 % 2 = 0 := by
  unfold pItem at h
  by_cases c : kd s.2.2.1 < 4 ∧ M / 2 ^ kd s.2.2.1 % 2 = 0
  · rw [if_pos c] at h
    refine ⟨?_, c⟩
    by_cases c1 : s.2.2.1 = 5
    · rw [if_pos c1] at h; exact pB2_rd (Or.inl ⟨rfl, rfl⟩) hD h
    rw [if_neg c1] at h
    by_cases c2 : s.2.2.1 = 7
    · rw [if_pos c2] at h; exact pB2_rd (Or.inr ⟨rfl, rfl⟩) hD h
    rw [if_neg c2] at h
    by_cases c3 : s.2.2.1 = 8
    · rw [if_pos c3] at h; exact pB1_rd (Or.inl rfl) hD h
    rw [if_neg c3] at h
    exact pB1_rd (Or.inr rfl) hD h
  · rw [if_neg c] at h; exact absurd h (by intro q; cases q)
theorem kd_4 {t : Nat} (h9 : t ≤ 9) : kd t < 4 ↔ (5 ≤ t ∧ ¬ t = 6) := by
  have : ∀ t, t ≤ 9 → (kd t < 4 ↔ (5 ≤ t ∧ ¬ t = 6)) := by decide
  exact this t h9
/-- the class's marks of what is told -/
def cm (M : Nat) : Nat := 32 * (M % 2) + 128 * (M / 2 % 2) + 256 * (M / 4 % 2) + 512 * (M / 8 % 2)
theorem cm_bit : ∀ M, M < 16 → ∀ t, t ≤ 9 → kd t < 4 → cm M / 2 ^ t % 2 = M / 2 ^ kd t % 2 := by decide +kernel
theorem cm_bd : ∀ M, M < 16 → cm M < 1024 := by decide
theorem cm_or : ∀ M, M < 16 → ∀ t, t ≤ 9 → kd t < 4 → M / 2 ^ kd t % 2 = 0 → nI (cm M) ||| ((1 : Int32) <<< (nI t &&& 31)) = nI (cm (M + 2 ^ kd t)) := by decide +kernel
theorem pc_or : ∀ M, M < 16 → ∀ k, k < 4 → M / 2 ^ k % 2 = 0 → M + 2 ^ k < 16 ∧ pcn (M + 2 ^ k) 4 = pcn M 4 + 1 := by decide +kernel
section PARC
variable {I I0 : MI} {J : MJ} {b : Nat → Nat} {n : Nat}
def CL (I I' : MI) : Prop := (∀ t r, t ≠ 3 → ¬ (t = 13 ∧ r = 1) → I' t r = I t r) ∧ I' 3 0 1 = I 3 0 1
theorem CL.tr {I I' I'' : MI} (h : CL I I') (h' : CL I' I'') : CL I I'' := ⟨fun t r a c => (h'.1 t r a c).trans (h.1 t r a c), h'.2.trans h.2⟩
theorem CK.cl {I I' : MI} (h : CK I I') : CL I I' := ⟨fun t r a _ => by rw [h.1 t a], h.2.1⟩
def CS (I0 I : MI) (b : Nat → Nat) (n : Nat) (D : Nat → Nat) (M : Nat) (s : Tks) : Prop := CL I0 I ∧ Ctx I b n ∧ (∀ j, j < 6 → I 13 1 j = nI (D j)) ∧ I 3 0 6 = nI (cm M) ∧ Cs I s ∧ Ws n s
theorem CS.next {Q : MI → MJ → Prop} {D : Nat → Nat} {M : Nat} {s : Tks} (h : CS I0 I b n D M s) (hQ : ∀ I', CS I0 I' b n D M (nx b n s) → Q I' J) : wp_X3_next Q I J := by
  obtain ⟨h1, h2, h3, h4, h5, h6⟩ := h
  exact s_next3 h2 h6.1 h5.1 (fun I' k c => hQ I' ⟨h1.tr k.cl, h2.ck k, fun j hj => by rw [k.1 13 (by decide)]; exact h3 j hj, by rw [k.2.2]; exact h4, c, h6.nx⟩)
theorem s_sign {Q : Int32 → MI → MJ → Prop} {D : Nat → Nat} {M : Nat} {s : Tks} {sg : Nat} (hg : sg < 100) (h : CS I0 I b n D M s) (h1 : s.2.2.1 = sg → ∀ I', CS I0 I' b n D M (nx b n s) → Q 1 I' J) (h0 : ¬ s.2.2.1 = sg → Q 0 I J) : wp_X3_sign Q I J (nI sg) := by
  unfold wp_X3_sign
  have h9 := h.2.2.2.2.2.2.2.1
  rw [h.2.2.2.2.1.2.2.1, nI_eq (by omega) (by omega)]
  exact ⟨fun q => h.next (fun I' h' => h1 q I' h'), h0⟩
theorem s_numeral {Q : Int32 → MI → MJ → Prop} {D : Nat → Nat} {M : Nat} {s : Tks} {i lo hi : Nat} (hi6 : i < 6) (hlo : lo < 2000) (hhi : hi < 2000) (h : CS I0 I b n D M s) (h1 : nmOk s lo hi → ∀ I', CS I0 I' b n (dset D i s.2.2.2) M (nx b n s) → Q 1 I' J) (h0 : ¬ nmOk s lo hi → Q 0 I J) : wp_X3_numeral Q I J 1 (nI i) (nI lo) (nI hi) := by
  unfold wp_X3_numeral
  obtain ⟨k1, k2, k3, k4, k5, k6⟩ := id h
  have h9 := k6.2.2.1
  rw [k5.2.2.1, lkE (x := 2) (k := 2) rfl (by omega) (by omega)]
  by_cases c : s.2.2.1 = 2
  · refine onp c ?_
    have hv := k6.2.2.2 c
    have e5 := k5.2.2.2 c
    have hin : (nI lo ≤ nI s.2.2.2 ∧ nI s.2.2.2 ≤ nI hi) ↔ (lo ≤ s.2.2.2 ∧ s.2.2.2 ≤ hi) := by rw [nI_leI (by omega) (by omega), nI_leI (by omega) (by omega)]
    rw [q_within, e5]
    by_cases c2 : lo ≤ s.2.2.2 ∧ s.2.2.2 ≤ hi
    · rw [decide_eq_true (hin.mpr c2)]
      refine onn (by decide) ⟨vp_in_nI hi6 (by decide), ?_⟩
      rw [nI_clamp (by omega)]
      have kU : CS I0 (up3 I 13 1 i (nI s.2.2.2)) b n (dset D i s.2.2.2) M s := by
        refine ⟨k1.tr ⟨fun t r a c => up3_o (fun q => c q), up3_n (by omega)⟩, ⟨k2.1, by rw [up3_n (by omega)]; exact k2.2.1, fun j hj => by rw [up3_n (by omega)]; exact k2.2.2 j hj⟩, fun j hj => ?_, by rw [up3_n (by omega)]; exact k4, ⟨by rw [up3_n (by omega)]; exact k5.1, by rw [up3_n (by omega)]; exact k5.2.1, by rw [up3_n (by omega)]; exact k5.2.2.1, fun q => by rw [up3_n (by omega)]; exact k5.2.2.2 q⟩, k6⟩
        unfold dset
        by_cases ej : j = i
        · rw [if_pos ej, ej, up3_y]
        · rw [if_neg ej, up3_n (by omega)]; exact k3 j hj
      exact kU.next (fun I' h' => h1 ⟨c, c2⟩ I' h')
    · rw [decide_eq_false (fun q => c2 (hin.mp q))]
      exact onp rfl (h0 (fun q => c2 q.2))
  · exact onn c (h0 (fun q => c q.1))
/-- what an item comes to -/
def CRs (I0 : MI) (J : MJ) (b : Nat → Nat) (n M : Nat) (R : Nat ⊕ ((Nat → Nat) × Tks)) (Q : Int32 → MI → MJ → Prop) : Prop := (∀ q, R = .inl q → q ≤ n → ∀ I', CL I0 I' → I' 3 0 3 = nI q → Q 0 I' J) ∧ (∀ r, R = .inr r → ∀ I', CS I0 I' b n r.1 M r.2 → Q 1 I' J)
theorem CRs.no {Q : Int32 → MI → MJ → Prop} {D : Nat → Nat} {M M' : Nat} {s : Tks} (h : CS I0 I b n D M s) (hR : CRs I0 J b n M' (.inl s.2.1) Q) : Q 0 I J := hR.1 _ rfl h.2.2.2.2.2.2.1 I h.1 h.2.2.2.2.1.2.1
theorem s_fin {Q : Int32 → MI → MJ → Prop} {D : Nat → Nat} {M : Nat} {s : Tks} (h : CS I0 I b n D M s) (hR : CRs I0 J b n M (pFin b n D s) Q) : J_X3_item_188 Q I J 1 := by
  unfold pFin at hR
  refine onn (by decide) (s_sign (sg := 4) (by decide) h (fun c I' h' => ?_) (fun c => ?_))
  · rw [if_pos c] at hR
    exact onn (by decide) (hR.2 _ rfl I' h')
  · rw [if_neg c] at hR
    exact onp rfl (CRs.no h hR)
theorem s_b1 {Q : Int32 → MI → MJ → Prop} {D : Nat → Nat} {M : Nat} {s : Tks} {i : Nat} (hi : i < 6) (h : CS I0 I b n D M s) (hR : CRs I0 J b n M (pB1 b n D s i) Q) : wp_X3_numeral (fun r I1 J1 => J_X3_item_188 Q I1 J1 r) I J 1 (nI i) 0 200 := by
  unfold pB1 at hR
  refine s_numeral (lo := 0) (hi := 200) hi (by decide) (by decide) h (fun c I' h' => ?_) (fun c => ?_)
  · rw [if_pos c] at hR
    exact s_fin h' hR
  · rw [if_neg c] at hR
    exact onp rfl (CRs.no h hR)
theorem s_b2 {Q : Int32 → MI → MJ → Prop} {D : Nat → Nat} {M : Nat} {s : Tks} {i hi sg : Nat} {x1 x2 xh xs : Int32} (e1 : x1 = nI i) (e2 : x2 = nI (i + 1)) (eh : xh = nI hi) (es : xs = nI sg) (hi' : i + 1 < 6) (hh : hi < 100) (hg : sg < 100) (h : CS I0 I b n D M s) (hR : CRs I0 J b n M (pB2 b n D s i hi sg) Q) :
    wp_X3_numeral (fun r7 I7 J7 => (r7 = 0 → J_X3_item_188 Q I7 J7 0) ∧ (¬ (r7 = 0) → wp_X3_sign (fun r12 I12 J12 => (r12 = 0 → J_X3_item_188 Q I12 J12 0) ∧ (¬ (r12 = 0) → wp_X3_numeral (fun r14 I14 J14 => (r14 = 0 → J_X3_item_188 Q I14 J14 0) ∧ (¬ (r14 = 0) → J_X3_item_188 Q I14 J14 1)) I12 J12 1 x2 (I12 13 1 i) xh)) I7 J7 xs)) I J 1 x1 1 xh := by
  subst e1 e2 eh es
  unfold pB2 at hR
  refine s_numeral (lo := 1) (by omega) (by decide) (by omega) h (fun c I1 h1 => onn (by decide) ?_) (fun c => onp rfl ?_)
  · rw [if_pos c] at hR
    refine s_sign hg h1 (fun c2 I2 h2 => onn (by decide) ?_) (fun c2 => onp rfl ?_)
    · rw [if_pos c2] at hR
      have ei : I2 13 1 i = nI s.2.2.2 := by rw [h2.2.2.1 i (by omega)]; unfold dset; rw [if_pos rfl]
      rw [ei]
      refine s_numeral (by omega) (by have := c.2.2; omega) (by omega) h2 (fun c3 I3 h3 => onn (by decide) ?_) (fun c3 => onp rfl ?_)
      · rw [if_pos c3] at hR
        exact s_fin h3 hR
      · rw [if_neg c3] at hR
        exact onp rfl (CRs.no h2 hR)
    · rw [if_neg c2] at hR
      exact onp rfl (CRs.no h1 hR)
  · rw [if_neg c] at hR
    exact onp rfl (CRs.no h hR)
theorem s_item {Q : Int32 → MI → MJ → Prop} {D : Nat → Nat} {M : Nat} {s : Tks} (hM : M < 16) (h : CS I0 I b n D M s) (hR : CRs I0 J b n (M + 2 ^ kd s.2.2.1) (pItem b n D M s) Q) : wp_X3_item Q I J 1 := by
  obtain ⟨k1, k2, k3, k4, k5, k6⟩ := id h
  have h9 := k6.2.2.1
  have hc := cm_bd M hM
  unfold wp_X3_item J_X3_item_115 J_X3_item_116 J_X3_item_158 J_X3_item_159
  simp only [q_isOf]
  rw [k5.2.2.1, k4, lkL (x := 5) (k := 5) rfl (by omega) (by omega), lkE (x := 6) (k := 6) rfl (by omega) (by omega), lkE (x := 5) (k := 5) rfl (by omega) (by omega), lkE (x := 7) (k := 7) rfl (by omega) (by omega), lkE (x := 8) (k := 8) rfl (by omega) (by omega)]
  have hk := kd_4 h9
  unfold pItem at hR
  by_cases c1 : s.2.2.1 < 5
  · rw [if_neg (by omega)] at hR
    exact onp c1 (CRs.no h hR)
  refine onn c1 ?_
  by_cases c2 : s.2.2.1 = 6
  · rw [if_neg (by omega)] at hR
    exact onp c2 (CRs.no h hR)
  refine onn c2 ?_
  have hk4 : kd s.2.2.1 < 4 := by omega
  have hbit := cm_bit M hM s.2.2.1 h9 hk4
  by_cases c3 : M / 2 ^ kd s.2.2.1 % 2 = 0
  · rw [if_pos ⟨hk4, c3⟩] at hR
    rw [decide_eq_false (by rw [Classical.not_not, bit_0 (by omega) (by omega)]; omega)]
    refine onp rfl ?_
    rw [cm_or M hM _ h9 hk4 c3]
    have hU : CS I0 (up3 I 3 0 6 (nI (cm (M + 2 ^ kd s.2.2.1)))) b n D (M + 2 ^ kd s.2.2.1) s := by
      refine ⟨k1.tr ⟨fun t r a c => up3_o (by omega), up3_n (by omega)⟩, ⟨k2.1, by rw [up3_n (by omega)]; exact k2.2.1, fun j hj => by rw [up3_n (by omega)]; exact k2.2.2 j hj⟩, fun j hj => by rw [up3_n (by omega)]; exact k3 j hj, up3_y, ⟨by rw [up3_n (by omega)]; exact k5.1, by rw [up3_n (by omega)]; exact k5.2.1, by rw [up3_n (by omega)]; exact k5.2.2.1, fun q => by rw [up3_n (by omega)]; exact k5.2.2.2 q⟩, k6⟩
    refine hU.next (fun I' h' => ?_)
    by_cases c5 : s.2.2.1 = 5
    · rw [if_pos c5] at hR
      exact onp c5 (s_b2 rfl rfl rfl rfl (by decide) (by decide) (by decide) h' hR)
    rw [if_neg c5] at hR
    refine onn c5 (onn c2 ?_)
    by_cases c7 : s.2.2.1 = 7
    · rw [if_pos c7] at hR
      exact onp c7 (s_b2 rfl rfl rfl rfl (by decide) (by decide) (by decide) h' hR)
    rw [if_neg c7] at hR
    refine onn c7 ?_
    by_cases c8 : s.2.2.1 = 8
    · rw [if_pos c8] at hR
      exact onp c8 (s_b1 (by decide) h' hR)
    rw [if_neg c8] at hR
    exact onn c8 (s_b1 (by decide) h' hR)
  · rw [if_neg (fun q => c3 q.2)] at hR
    rw [decide_eq_true (by rw [bit_0 (by omega) (by omega)]; omega)]
    exact onn (by decide) (CRs.no h hR)
theorem s_items {Q : Int32 → MI → MJ → Prop} : ∀ (k it : Nat) (I : MI) (D : Nat → Nat) (M : Nat) (s : Tks), k + it = 5 → M < 16 → pcn M 4 = it → CS I0 I b n D M s → (∀ q, pRule b n k D M s it = .inl q → q ≤ n → ∀ I', CL I0 I' → Q (iz (-10 - (q : Int))) I' J) → (∀ r, pRule b n k D M s it = .inr r → r.2 ≤ 4 → ∀ I', CL I0 I' → (∀ j, j < 6 → I' 13 1 j = nI (r.1 j)) → Q (nI r.2) I' J) → L_X3_readInto_20 Q k I J 1 (nI it) := by
  intro k
  induction k with
  | zero => intro it I D M s e hM hp; have := pcn_le M 4; omega
  | succ k ih =>
    intro it I D M s e hM hp h hF hS
    have h9 := h.2.2.2.2.2.2.2.1
    rw [pRule_s] at hF hS
    show B_X3_readInto_20 Q _ I J 1 (nI it)
    unfold B_X3_readInto_20
    rw [h.2.2.2.2.1.2.2.1, lkE (x := 0) (k := 0) rfl (by omega) (by omega)]
    refine onn (fun q => absurd ((nI_ltI (a := 4) (by omega) (by omega)).mp q) (by omega)) ?_
    by_cases c0 : s.2.2.1 = 0
    · rw [if_pos c0] at hS
      exact onp c0 (hS _ rfl (by show it ≤ 4; omega) I h.1 h.2.2.1)
    rw [if_neg c0] at hF hS
    refine onn c0 (s_item hM h ⟨fun q e1 hq I' h1 h2 => onp rfl ?_, fun r e1 I' h1 => onn (by decide) ?_⟩)
    · rw [e1] at hF
      rw [h2, iz_nI, show (-10 : Int32) = iz (-10) from rfl, iz_sub]
      exact hF q rfl hq I' h1
    · rw [e1] at hF hS
      have hk : kd s.2.2.1 < 4 ∧ M / 2 ^ kd s.2.2.1 % 2 = 0 := by
        unfold pItem at e1
        by_cases c : kd s.2.2.1 < 4 ∧ M / 2 ^ kd s.2.2.1 % 2 = 0
        · exact c
        · rw [if_neg c] at e1; exact absurd e1 (by intro q; cases q)
      have hpc := pc_or M hM _ hk.1 hk.2
      rw [nI_1]
      exact ih (it + 1) I' r.1 (M + 2 ^ kd s.2.2.1) r.2 (by omega) hpc.1 (by omega) h1 hF hS
/-- the first numbers of a rule -/
def D0 : Nat → Nat := fun j => if j < 4 then 1 else 200
theorem s_readInto {Q : Int32 → MI → MJ → Prop} (hx : Ctx I b n) (hF : ∀ q, pRule b n 5 D0 0 (tk b n 0) 0 = .inl q → q ≤ n → ∀ I', CL I I' → Q (iz (-10 - (q : Int))) I' J) (hS : ∀ r, pRule b n 5 D0 0 (tk b n 0) 0 = .inr r → r.2 ≤ 4 → ∀ I', CL I I' → (∀ j, j < 6 → I' 13 1 j = nI (r.1 j)) → Q (nI r.2) I' J) : wp_X3_readInto Q I J 1 := by
  unfold wp_X3_readInto wp_X2_forget
  generalize hI1 : row3 I 13 1 (va_cpy (stV 0) (I 13 1) 0 0 6) = I1
  have o1 : ∀ t r, ¬ (t = 13 ∧ r = 1) → I1 t r = I t r := fun t r h => by rw [← hI1, row3_o h]
  generalize hI2 : up3 (up3 I1 3 0 2 0) 3 0 6 0 = I2
  have cl : CL I I2 := ⟨fun t r a c => by rw [← hI2, up3_t a, up3_t a, o1 t r c], by rw [← hI2, up3_n (by decide), up3_n (by decide), o1 3 0 (by decide)]⟩
  have hx2 : Ctx I2 b n := ⟨hx.1, by rw [cl.2]; exact hx.2.1, fun j hj => by rw [cl.1 14 0 (by decide) (by decide)]; exact hx.2.2 j hj⟩
  have hD : ∀ j, j < 6 → I2 13 1 j = nI (D0 j) := by
    intro j hj
    rw [← hI2, up3_t (by decide), up3_t (by decide), ← hI1, row3_r, pk_cpy_in (by omega) (by omega)]
    have : ∀ j, j < 6 → stV 0 (0 + (j - 0)) = nI (D0 j) := by decide
    exact this j hj
  refine s_next3 (p := 0) hx2 (by omega) (by rw [← hI2, up3_n (by decide), up3_y]; rfl) (fun I3 k3 c3 => ⟨5, ?_⟩)
  refine s_items 5 0 I3 D0 0 (tk b n 0) rfl (by decide) rfl ⟨cl.tr k3.cl, hx2.ck k3, fun j hj => by rw [k3.1 13 (by decide)]; exact hD j hj, ?_, c3, (tk_ok b n 0).bd (by omega)⟩ hF hS
  rw [k3.2.2, ← hI2, up3_y]
  rfl
end PARC
