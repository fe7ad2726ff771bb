section PLAND
variable {I : MI} {J : MJ}
theorem s_bestFrom {Q0 : Unit} {n : Nat} {S pl sp : Int} {mp : Bool} (hn : n ≤ 10) (e4 : I 5 0 4 = nI n) (e2 : I 5 0 2 = bi mp) (e7 : I 5 0 7 = 1) (e3 : I 5 0 3 = iz S) (e5 : I 5 0 5 = iz sp) (e6 : I 5 0 6 = iz pl) (hS1 : 0 ≤ S) (hS2 : S ≤ 200) (hs1 : 0 ≤ sp) (hs2 : sp ≤ 5) (hl1 : 0 ≤ pl) (hl2 : pl ≤ 50) (hu : RuB (I 13 0)) (hc : ∀ r, r < 10 → bd (I 17 0 r) 0 200 ∧ bd (I 18 0 r) 0 200) :
    ∀ (k f r p : Nat) (Q : Int32 → MI → MJ → Prop), k < f → r + k = n → p < 2 ^ r → Q (iz (bsc n (psc (fun s => pW (I 13 0) S pl sp (I 17 0) (I 18 0) s n)) mp k p)) I J → wd_X5_bestFrom f Q I J (nI r) (pMk (I 13 0) S pl p r) (nI p) (iz (pW (I 13 0) S pl sp (I 17 0) (I 18 0) p r)) := by
  have hprz : ∀ r, r < n → bd (I 18 0 r) 0 200 := fun r hr => (hc r (by omega)).2
  have p10 : 2 ^ n ≤ 1024 := Nat.le_trans (Nat.pow_le_pow_right (by decide) hn) (by decide)
  have hbb : ∀ (k r p : Nat), r + k = n → p < 2 ^ r → -1 ≤ bsc n (psc (fun s => pW (I 13 0) S pl sp (I 17 0) (I 18 0) s n)) mp k p ∧ bsc n (psc (fun s => pW (I 13 0) S pl sp (I 17 0) (I 18 0) s n)) mp k p ≤ 30000000 := by
    intro k
    induction k with
    | zero =>
      intro r p e hp
      obtain rfl : r = n := by omega
      have h1 := pW_bd (u := I 13 0) (S := S) (pl := pl) (bar := I 17 0) (s := p) hs1 hs2 hprz r (Nat.le_refl _)
      show -1 ≤ pW (I 13 0) S pl sp (I 17 0) (I 18 0) p r * 1024 + 1023 - (p : Int) ∧ pW (I 13 0) S pl sp (I 17 0) (I 18 0) p r * 1024 + 1023 - (p : Int) ≤ 30000000
      omega
    | succ k ih =>
      intro r p e hp
      have h1 := ih (r + 1) p (by omega) (by rw [Nat.pow_succ]; omega)
      have h2 := ih (r + 1) (p + 2 ^ r) (by omega) (by rw [Nat.pow_succ]; omega)
      have er : n - (k + 1) = r := by omega
      have e0 : bsc n (psc (fun s => pW (I 13 0) S pl sp (I 17 0) (I 18 0) s n)) mp (k + 1) p = if mp = true then max (bsc n (psc (fun s => pW (I 13 0) S pl sp (I 17 0) (I 18 0) s n)) mp k p) (bsc n (psc (fun s => pW (I 13 0) S pl sp (I 17 0) (I 18 0) s n)) mp k (p + 2 ^ (n - (k + 1)))) else bsc n (psc (fun s => pW (I 13 0) S pl sp (I 17 0) (I 18 0) s n)) mp k p := rfl
      rw [e0, er]
      split <;> omega
  intro k
  induction k with
  | zero =>
    intro f r p Q hf e hp hQ
    obtain ⟨f', rfl⟩ : ∃ f', f = f' + 1 := ⟨f - 1, by omega⟩
    obtain rfl : r = n := by omega
    show E_X5_bestFrom (wd_X5_bestFrom f') Q I J _ _ _ _
    unfold E_X5_bestFrom
    rw [e4]
    refine onn (nI_nlt (Nat.le_refl _) (by omega)) ?_
    have ev : (((iz (pW (I 13 0) S pl sp (I 17 0) (I 18 0) p r) * 1024) + 1024) - 1) - nI p = iz (psc (fun s => pW (I 13 0) S pl sp (I 17 0) (I 18 0) s r) p) := by
      rw [show (1024 : Int32) = iz 1024 from rfl, zl1, iz_nI, iz_mul, iz_add, iz_sub, iz_sub]
      show _ = iz (pW (I 13 0) S pl sp (I 17 0) (I 18 0) p r * 1024 + 1023 - (p : Int))
      exact iz_inj (by omega)
    rw [ev]
    exact hQ
  | succ k ih =>
    intro f r p Q hf e hp hQ
    obtain ⟨f', rfl⟩ : ∃ f', f = f' + 1 := ⟨f - 1, by omega⟩
    have er : n - (k + 1) = r := by omega
    have hp1 : p < 2 ^ (r + 1) := by rw [Nat.pow_succ]; omega
    have hp2 : p + 2 ^ r < 2 ^ (r + 1) := by rw [Nat.pow_succ]; omega
    have hmk := pMk_bd (u := I 13 0) (pl := pl) (s := p) hS1 hS2 r
    have e0 : bsc n (psc (fun s => pW (I 13 0) S pl sp (I 17 0) (I 18 0) s n)) mp (k + 1) p = if mp = true then max (bsc n (psc (fun s => pW (I 13 0) S pl sp (I 17 0) (I 18 0) s n)) mp k p) (bsc n (psc (fun s => pW (I 13 0) S pl sp (I 17 0) (I 18 0) s n)) mp k (p + 2 ^ (n - (k + 1)))) else bsc n (psc (fun s => pW (I 13 0) S pl sp (I 17 0) (I 18 0) s n)) mp k p := rfl
    rw [e0, er] at hQ
    show E_X5_bestFrom (wd_X5_bestFrom f') Q I J _ _ _ _
    unfold E_X5_bestFrom
    rw [e4]
    refine onp (nI_lt (by omega) (by omega)) ?_
    refine s_markAfter (by omega) hp1 e7 e3 e6 hS1 hS2 hl1 hl2 hu hmk ?_
    refine s_wonAt (by omega) e3 e5 hS1 hS2 hs1 hs2 hmk (hc r (by omega)).1 ?_
    have em1 : newM (I 13 0) (pMk (I 13 0) S pl p r) (pF S pl p r) (r + 1) = pMk (I 13 0) S pl p (r + 1) := rfl
    have ew1 : pW (I 13 0) S pl sp (I 17 0) (I 18 0) p r + wv S sp (pMk (I 13 0) S pl p r).toInt (I 17 0 r).toInt (I 18 0 r).toInt = pW (I 13 0) S pl sp (I 17 0) (I 18 0) p (r + 1) := by
      show _ = pW (I 13 0) S pl sp (I 17 0) (I 18 0) p r + (if p / 2 ^ r % 2 = 1 then 0 else wv S sp (pMk (I 13 0) S pl p r).toInt (I 17 0 r).toInt (I 18 0 r).toInt)
      rw [if_neg (by rw [bit_z hp]; decide)]
    rw [em1, iz_add, ew1, nI_1]
    refine ih f' (r + 1) p _ (by omega) (by omega) hp1 ?_
    rw [e2]
    by_cases cm : mp = true
    · rw [if_pos cm] at hQ
      rw [cm]
      refine onn (by decide) (fun v hv => ?_)
      rw [or_bit r (by omega) p hp] at hv
      rw [hv]
      refine s_markAfter (by omega) hp2 e7 e3 e6 hS1 hS2 hl1 hl2 hu hmk ?_
      have elow : pMk (I 13 0) S pl p r = pMk (I 13 0) S pl (p + 2 ^ r) r := pMk_low r (fun i hi => (bit_lo hi).symm)
      have em2 : newM (I 13 0) (pMk (I 13 0) S pl p r) (pF S pl (p + 2 ^ r) r) (r + 1) = pMk (I 13 0) S pl (p + 2 ^ r) (r + 1) := by rw [elow]; rfl
      have ew2 : pW (I 13 0) S pl sp (I 17 0) (I 18 0) p r = pW (I 13 0) S pl sp (I 17 0) (I 18 0) (p + 2 ^ r) (r + 1) := by
        show _ = pW (I 13 0) S pl sp (I 17 0) (I 18 0) (p + 2 ^ r) r + (if (p + 2 ^ r) / 2 ^ r % 2 = 1 then 0 else wv S sp (pMk (I 13 0) S pl (p + 2 ^ r) r).toInt (I 17 0 r).toInt (I 18 0 r).toInt)
        rw [if_pos (bit_hi hp), Int.add_zero]
        exact pW_low r (fun i hi => (bit_lo hi).symm)
      rw [em2, ew2]
      refine ih f' (r + 1) (p + 2 ^ r) _ (by omega) (by omega) hp2 ?_
      rw [q_max]
      have h1 := hbb k (r + 1) p (by omega) hp1
      have h2 := hbb k (r + 1) (p + 2 ^ r) (by omega) hp2
      rw [cm] at h1 h2 hQ ⊢
      generalize bsc n (psc (fun s => pW (I 13 0) S pl sp (I 17 0) (I 18 0) s n)) true k p = a at *
      generalize bsc n (psc (fun s => pW (I 13 0) S pl sp (I 17 0) (I 18 0) s n)) true k (p + 2 ^ r) = b at *
      have l1 : iz a < iz b ↔ a < b := iz_lt (by omega) (by omega) (by omega) (by omega)
      by_cases c : a < b
      · rw [if_pos (l1.mpr c)]
        rw [show max a b = b by omega] at hQ
        exact hQ
      · rw [if_neg (fun q => c (l1.mp q))]
        rw [show max a b = a by omega] at hQ
        exact hQ
    · rw [if_neg cm] at hQ
      have cf : mp = false := by cases mp with | true => exact absurd rfl cm | false => rfl
      rw [cf] at hQ ⊢
      exact onp rfl hQ
/-- what the model's counting of a set leaves alone -/
def WK (I I' : MI) : Prop := (∀ t, t ≠ 34 → t ≠ 35 → t ≠ 8 → I' t = I t) ∧ ∀ j, j ≠ 19 → I' 8 0 j = I 8 0 j
theorem WK.tr {I I' I'' : MI} (h : WK I I') (h' : WK I' I'') : WK I I'' := ⟨fun t a b c => (h'.1 t a b c).trans (h.1 t a b c), fun j hj => (h'.2 j hj).trans (h.2 j hj)⟩
theorem WK.keep {I I' : MI} (h : WK I I') : Keep I I' := by
  refine ⟨fun t ht => h.1 t (fun q => ?_) (fun q => ?_) (fun q => ?_), fun r _ => ⟨by rw [h.1 4 (by decide) (by decide) (by decide)], by rw [h.1 15 (by decide) (by decide) (by decide)], by rw [h.1 16 (by decide) (by decide) (by decide)]⟩, by rw [h.1 13 (by decide) (by decide) (by decide)], fun j _ => by rw [h.1 29 (by decide) (by decide) (by decide)], by rw [h.1 3 (by decide) (by decide) (by decide)], h.2 8 (by decide), h.2 14 (by decide)⟩
  all_goals rw [q] at ht; exact absurd ht (by decide)
theorem s_wins {Q : Int32 → MI → MJ → Prop} {u bar prize : Nat → Int32} {n s : Nat} {S pl sp : Int} (hn : n ≤ 10) (hs : s < 1024) (hu : RuB (I 29 0)) (hU : ∀ j, j < 6 → u j = I 29 0 j) (e0 : I 28 0 0 = iz sp) (e2 : I 28 0 2 = iz pl) (hS1 : 0 ≤ S) (hS2 : S ≤ 200) (hs1 : 0 ≤ sp) (hs2 : sp ≤ 5) (hl1 : 0 ≤ pl) (hl2 : pl ≤ 50) (hc : ∀ r, r < 10 → I 32 0 (2 * r) = bar r ∧ I 32 0 (2 * r + 1) = prize r ∧ bd (bar r) 0 200 ∧ bd (prize r) 0 200)
    (hQ : ∀ I', WK I I' → Q (iz (pW u S pl sp bar prize s n)) I' J) : wp_X8_wins Q I J (iz S) (nI n) (nI s) := by
  have key : ∀ (k r : Nat) (I' : MI), r + k = n → WK I I' → I' 8 0 19 = nI r → (∀ i, i < r → I' 34 0 i = iz (pF S pl s (r - 1) i)) → L_X8_wins_14 Q (k + 1) I' J (iz S) (nI n) (nI s) (pMk u S pl s r) (iz (pW u S pl sp bar prize s r)) (nI r) := by
    intro k
    induction k with
    | zero =>
      intro r I' e hW h19 hf
      obtain rfl : r = n := by omega
      exact onp (nI_le (Nat.le_refl _) (by omega)) (hQ I' hW)
    | succ k ih =>
      intro r I' e hW h19 hf
      obtain ⟨c1, c2, c3, c4⟩ := hc r (by omega)
      have hmk := pMk_bd (u := u) (pl := pl) (s := s) hS1 hS2 r
      have e32 : I' 32 = I 32 := hW.1 32 (by decide) (by decide) (by decide)
      have e28 : I' 28 = I 28 := hW.1 28 (by decide) (by decide) (by decide)
      have e29 : I' 29 = I 29 := hW.1 29 (by decide) (by decide) (by decide)
      have e2r : 2 * nI r = nI (2 * r) := by rw [show (2 : Int32) = nI 2 from rfl, pk_mul]
      have e2r1 : 2 * nI r + 1 = nI (2 * r + 1) := by rw [e2r, nI_1]
      have hfig : ∀ x : Int32, x = iz (pF S pl s r 0) → ∀ w : Int32, w = iz (pW u S pl sp bar prize s (r + 1)) → J_X8_wins_137 Q (L_X8_wins_14 Q (k + 1)) I' J (iz S) (nI n) (nI s) w (nI r) x (pMk u S pl s r) := by
        intro x hx w hw
        unfold J_X8_wins_137
        have hpb : ∀ r' i, -1000 ≤ pF S pl s r' i ∧ pF S pl s r' i ≤ 1000 := by
          intro r' i
          unfold pF
          split <;> omega
        refine s_mmoved (q := r) (by omega) h19 (by rw [e29]; exact hu) hmk (by rw [hx]; exact bd_iz (hpb r 0).1 (hpb r 0).2 (by have := hpb r 0; omega) (by have := hpb r 0; omega)) (fun j hj => by rw [hf j hj]; exact bd_iz (hpb _ _).1 (hpb _ _).2 (by have := hpb (r - 1) j; omega) (by have := hpb (r - 1) j; omega)) (fun I'' hM => ?_)
        obtain ⟨f0, fj, f19, f8, fo⟩ := hM
        have hfn : ∀ i, i < r + 1 → I'' 34 0 i = iz (pF S pl s r i) := by
          intro i hi
          by_cases ei : i = 0
          · rw [ei, f0, hx]
          · rw [fj i (by omega) (by omega), hf (i - 1) (by omega)]
            unfold pF
            rw [show r - 1 - (i - 1) = r - i by omega]
        have emin : min 12 (r + 1) = r + 1 := by omega
        have en : newM (I' 29 0) (pMk u S pl s r) (Fg (I'' 34 0)) (min 12 (r + 1)) = pMk u S pl s (r + 1) := by
          rw [emin, e29]
          show _ = newM u (pMk u S pl s r) (pF S pl s r) (r + 1)
          refine newM_congr (fun j hj => (hU j hj).symm) (fun j hj => ?_)
          unfold Fg
          have := hpb r j
          rw [hfn j hj, iz_toInt (by omega) (by omega)]
        rw [en, hw, nI_1]
        refine ih (r + 1) I'' (by omega) (hW.tr ⟨fun t a b c => fo t a b c, f8⟩) (by rw [f19, emin]) (fun i hi => by rw [Nat.add_sub_cancel]; exact hfn i hi)
      obtain ⟨b, eb, b1, b2⟩ := bd_ex c3
      obtain ⟨z, ez, z1, z2⟩ := bd_ex hmk
      have ezt : (pMk u S pl s r).toInt = z := by rw [ez, iz_toInt (by omega) (by omega)]
      have ebt : (bar r).toInt = b := by rw [eb, iz_toInt (by omega) (by omega)]
      have esucc : pW u S pl sp bar prize s (r + 1) = pW u S pl sp bar prize s r + (if s / 2 ^ r % 2 = 1 then 0 else wv S sp (pMk u S pl s r).toInt (bar r).toInt (prize r).toInt) := rfl
      have go : ∀ w : Int, w = max 0 (z - b) → J_X8_wins_47 Q (L_X8_wins_14 Q (k + 1)) I' J (iz S) (nI n) (nI s) (pMk u S pl s r) (iz (pW u S pl sp bar prize s r)) (nI r) (iz b) (iz w) := by
        intro w hw
        unfold J_X8_wins_47
        rw [q_mwithin, q_has, e28, e0]
        have e1' : (((iz S - iz w) - iz b) + iz sp) + 1 = iz (sp + 1 + S - b - max 0 (z - b)) := by rw [iz_sub, iz_sub, iz_add, zl1, iz_add]; exact iz_inj (by omega)
        have e2' : (2 * iz sp) + 1 = iz (2 * sp + 1) := by rw [zl2, iz_mul, zl1, iz_add]
        rw [e1', e2', clz (by omega) (by omega) (by omega) (by omega)]
        by_cases cb : s / 2 ^ r % 2 = 1
        · have hb1 : decide (¬ ((nI s >>> (nI r &&& 31)) &&& 1) = 0) = true := decide_eq_true (by rw [bit_0 (by omega) (by omega)]; omega)
          rw [hb1]
          refine onn (by decide) (onn (by decide) (hfig _ ?_ _ ?_))
          · rw [e28, e2, iz_sub]
            unfold pF
            rw [Nat.sub_zero, if_pos cb]
          · rw [esucc, if_pos cb, zl0, iz_add]
        · have hb1 : decide (¬ ((nI s >>> (nI r &&& 31)) &&& 1) = 0) = false := decide_eq_false (by rw [bit_0 (by omega) (by omega)]; omega)
          rw [hb1]
          refine onp rfl ⟨by rw [e2r1]; exact vp_in_nI (by omega) (by decide), onp rfl (hfig _ ?_ _ ?_)⟩
          · unfold pF
            rw [Nat.sub_zero, if_neg cb]
          · rw [e2r1, nI_clamp (by omega), e32, c2, esucc, if_neg cb, ezt, ebt]
            unfold wv
            rw [← iz_add, ← iz_mul, iz_of]
      refine onn (nI_ge (by omega) (by omega)) ⟨by rw [e2r]; exact vp_in_nI (by omega) (by decide), fun v hv => ?_⟩
      rw [e2r, nI_clamp (by omega), e32, c1, eb] at hv
      rw [hv]
      by_cases cc : z ≤ b
      · refine onp (by rw [ez]; exact (iz_le (by omega) (by omega) (by omega) (by omega)).mpr cc) ?_
        exact go 0 (by omega)
      · refine onn (by rw [ez, iz_le (by omega) (by omega) (by omega) (by omega)]; exact cc) ?_
        have h := go (z - b) (by omega)
        rw [← iz_sub, ← ez] at h
        exact h
  exact ⟨n + 1, key n 0 (up3 I 8 0 19 0) (by omega) ⟨fun t a b c => up3_t c, fun j hj => up3_n (by omega)⟩ up3_y (fun i hi => absurd hi (by omega))⟩
theorem s_mplan {Q : Int32 → MI → MJ → Prop} {n : Nat} {S : Int} {x3 : Int32} {w : Nat → Int} (hn1 : 1 ≤ n) (hn : n ≤ 10) (hw : ∀ s, s < 2 ^ n → 0 ≤ w s ∧ w s ≤ 30000)
    (hwins : ∀ (s : Nat) (I' : MI) (Q' : Int32 → MI → MJ → Prop), s < 2 ^ n → WK I I' → (∀ I'', WK I I'' → Q' (iz (w s)) I'' J) → wp_X8_wins Q' I' J (iz S) (nI n) (nI s))
    (hQ : ∀ I' b, WK I I' → b < 2 ^ n → (∀ s, s < 2 ^ n → w s < w b ∨ (w s = w b ∧ b ≤ s)) → (x3 = 0 → Q (nI b) I' J) ∧ (¬ x3 = 0 → Q (iz (w b)) I' J)) : ∀ I', WK I I' → ∃ m : Nat, L_X8_plan_60 Q m I' J (iz S) (nI n) x3 0 (iz (w 0)) 1 := by
  have p10 : 2 ^ n ≤ 1024 := Nat.le_trans (Nat.pow_le_pow_right (by decide) hn) (by decide)
  have p1 : 1 ≤ 2 ^ n := Nat.one_le_two_pow
  have hsh : ((1 : Int32) <<< (nI n &&& 31)) = nI (2 ^ n) := by
    have : ∀ n, n ≤ 10 → ((1 : Int32) <<< (nI n &&& 31)) = nI (2 ^ n) := by decide
    exact this n hn
  have key : ∀ (k x b : Nat) (I' : MI), x + k = 2 ^ n → b < x → (∀ s, s < x → w s < w b ∨ (w s = w b ∧ b ≤ s)) → WK I I' → L_X8_plan_60 Q (k + 1) I' J (iz S) (nI n) x3 (nI b) (iz (w b)) (nI x) := by
    intro k
    induction k with
    | zero =>
      intro x b I' e hb hm hW
      refine onp (by rw [hsh]; exact nI_le (by omega) (by omega)) (hQ I' b hW (by omega) (fun s hs => hm s (by omega)))
    | succ k ih =>
      intro x b I' e hb hm hW
      have wb := hw b (by omega)
      have wx := hw x (by omega)
      refine onn (by rw [hsh]; exact nI_ge (by omega) (by omega)) (hwins x I' _ (by omega) hW (fun I'' hW' => ?_))
      rw [iz_le (by omega) (by omega) (by omega) (by omega)]
      by_cases c : w x ≤ w b
      · refine onp c ?_
        unfold J_X8_plan_92
        rw [iz_le (by omega) (by omega) (by omega) (by omega), nI_1]
        refine onp c (ih (x + 1) b I'' (by omega) (by omega) (fun s hs => ?_) hW')
        by_cases es : s = x
        · rw [es]; omega
        · exact hm s (by omega)
      · refine onn c ?_
        unfold J_X8_plan_92
        rw [iz_le (by omega) (by omega) (by omega) (by omega), nI_1]
        refine onn c (ih (x + 1) x I'' (by omega) (by omega) (fun s hs => ?_) hW')
        by_cases es : s = x
        · rw [es]; omega
        · have := hm s (by omega); omega
  intro I' hW
  exact ⟨2 ^ n - 1 + 1, key (2 ^ n - 1) 1 0 I' (by omega) (by omega) (fun s hs => Or.inr ⟨by rw [show s = 0 by omega], by omega⟩) hW⟩
end PLAND
section PLANP
variable {I : MI} {J : MJ}
theorem pr_plan (h : Inv I J) (x y z : Int32) : wp_X7_plan (fun r I1 J1 => wp_X8_plan (fun r2 I2 J2 => r = r2 ∧ Inv I2 J2) I1 J1 x y z) I J x y z := by
  have hT := h.thrown
  have eM : ∀ (r : Int32) (I1 : MI), wp_X8_plan (fun r2 I2 J2 => r = r2 ∧ Inv I2 J2) I1 J x y z ↔ ((¬ (0 ≤ x ∧ x ≤ 200) → r = -1 ∧ Inv (up3 I1 8 0 0 0) J) ∧ (¬ ¬ (0 ≤ x ∧ x ≤ 200) → (¬ (1 ≤ y ∧ y ≤ 10) → r = -1 ∧ Inv (up3 I1 8 0 0 0) J) ∧ (¬ ¬ (1 ≤ y ∧ y ≤ 10) → (¬ (0 ≤ z ∧ z ≤ 2) → r = -1 ∧ Inv (up3 I1 8 0 0 0) J) ∧ (¬ ¬ (0 ≤ z ∧ z ≤ 2) → wp_X8_wins (fun r7 I7 J7 => (z = 2 → r = r7 ∧ Inv I7 J7) ∧
  (¬ (z = 2) → ∃ n : Nat, L_X8_plan_60 (fun r2 I2 J2 => r = r2 ∧ Inv I2 J2) n I7 J7 x y z 0 r7 1)) (up3 I1 8 0 0 0) J x y 0)))) := by
    intro r I1
    unfold wp_X8_plan
    simp only [q_in, bi_0, decide_eq_false_iff_not]
  unfold wp_X7_plan wp_X5_begin
  simp only [q_within, bi_0, decide_eq_false_iff_not]
  refine two (fun c => ?_) (fun c => (eM _ I).mpr (twn c ⟨rfl, hT⟩))
  refine two (fun c2 => ?_) (fun c2 => (eM _ I).mpr (twp c (twn c2 ⟨rfl, hT⟩)))
  refine two (fun c3 => ?_) (fun c3 => (eM _ I).mpr (twp c (twp c2 (twn c3 ⟨rfl, hT⟩))))
  obtain ⟨S, rfl, hS1, hS2⟩ := bd_ex ((bd_le (x := x) (a := 0) (b := 200) (by decide) (by decide) (by decide) (by decide)).mpr c)
  obtain ⟨n, hn, rfl⟩ := nI_le_ex (j := 10) rfl (Int32.le_trans (by decide) c2.1) c2.2 (by decide)
  have hn1 : 1 ≤ n := (nI_leI (a := 1) (by omega) (by omega)).mp c2.1
  obtain ⟨t1, t0, -, t2⟩ := h.2.2.1
  obtain ⟨sp, esp, hs1, hs2⟩ := bd_ex t0
  obtain ⟨pl, epl, hl1, hl2⟩ := bd_ex t2
  obtain ⟨u1, u2⟩ := h.2.2.2.1
  have hC := h.2.2.2.2.2.2.1
  have p10 : 2 ^ n ≤ 1024 := Nat.le_trans (Nat.pow_le_pow_right (by decide) hn) (by decide)
  rw [q_min, show (10 : Int32) = nI 10 from rfl, mn_nI (by omega) (by omega), show min n 10 = n by omega]
  generalize hI7 : up3 (up3 (up3 (up3 (up3 I 5 0 3 (iz S)) 5 0 4 (nI n)) 5 0 5 (I 21 0 0)) 5 0 6 (I 21 0 2)) 5 0 7 1 = I7
  have o7 : ∀ t, t ≠ 5 → I7 t = I t := fun t ht => by rw [← hI7, up3_t ht, up3_t ht, up3_t ht, up3_t ht, up3_t ht]
  have a3 : I7 5 0 3 = iz S := by rw [← hI7, up3_n (by decide), up3_n (by decide), up3_n (by decide), up3_n (by decide), up3_y]
  have a4 : I7 5 0 4 = nI n := by rw [← hI7, up3_n (by decide), up3_n (by decide), up3_n (by decide), up3_y]
  have a5 : I7 5 0 5 = iz sp := by rw [← hI7, up3_n (by decide), up3_n (by decide), up3_y, esp]
  have a6 : I7 5 0 6 = iz pl := by rw [← hI7, up3_n (by decide), up3_y, epl]
  have a7 : I7 5 0 7 = 1 := by rw [← hI7, up3_y]
  generalize hw : (fun s => pW (I 13 0) S pl sp (I 17 0) (I 18 0) s n) = w
  have ew : ∀ s, w s = pW (I 13 0) S pl sp (I 17 0) (I 18 0) s n := fun s => by rw [← hw]
  have hwb : ∀ s, 0 ≤ w s ∧ w s ≤ 30000 := by
    intro s
    have := pW_bd (u := I 13 0) (S := S) (pl := pl) (bar := I 17 0) (s := s) hs1 hs2 (fun r hr => (hC r (by omega)).2.2.2) n (Nat.le_refl _)
    rw [ew]
    omega
  -- the class
  have hcl : ∀ (mp : Bool) (Q : Int32 → MI → MJ → Prop), (∀ I8, (∀ t, t ≠ 5 → I8 t = I t) → Q (iz (bsc n (psc w) mp n 0)) I8 J) → wp_X5_bestScore Q I7 J (bi mp) := by
    intro mp Q hQ
    refine ⟨bi_01 mp, ?_⟩
    unfold wp_X5_bestFrom
    generalize hI8 : up3 I7 5 0 2 (bi mp) = I8
    have o8 : ∀ t, t ≠ 5 → I8 t = I t := fun t ht => by rw [← hI8, up3_t ht]; exact o7 t ht
    have b8 : ∀ j, j ≠ 2 → I8 5 0 j = I7 5 0 j := fun j hj => by rw [← hI8, up3_n (by omega)]
    have b2 : I8 5 0 2 = bi mp := by rw [← hI8, up3_y]
    have g := s_bestFrom (I := I8) (J := J) (Q0 := ()) (mp := mp) hn (by rw [b8 4 (by decide)]; exact a4) b2 (by rw [b8 7 (by decide)]; exact a7) (by rw [b8 3 (by decide)]; exact a3) (by rw [b8 5 (by decide)]; exact a5) (by rw [b8 6 (by decide)]; exact a6) hS1 hS2 hs1 hs2 hl1 hl2 (by rw [o8 13 (by decide)]; exact u2) (fun r hr => by rw [o8 17 (by decide), o8 18 (by decide)]; exact (hC r hr).2.2) n 11 0 0 Q (by omega) (by omega) (by decide)
    rw [o8 13 (by decide), o8 17 (by decide), o8 18 (by decide), hw] at g
    have g2 := g (hQ I8 o8)
    rw [b8 3 (by decide), a3]
    exact g2
  -- the model
  have hfin : ∀ (I8 : MI) (r : Int32), (∀ t, t ≠ 5 → I8 t = I t) → (z = 2 → r = iz (w 0)) → (∀ b, ¬ z = 2 → b < 2 ^ n → (∀ s, s < 2 ^ n → w s < w b ∨ (w s = w b ∧ b ≤ s)) → (z = 0 → r = nI b) ∧ (¬ z = 0 → r = iz (w b))) → wp_X8_plan (fun r2 I2 J2 => r = r2 ∧ Inv I2 J2) I8 J (iz S) (nI n) z := by
    intro I8 r o8 hz2 hz
    refine (eM r I8).mpr (twp c (twp c2 (twp c3 ?_)))
    generalize hI9 : up3 I8 8 0 0 0 = I9
    have o9 : ∀ t, t ≠ 5 → t ≠ 8 → I9 t = I t := fun t g1 g2 => by rw [← hI9, up3_t g2]; exact o8 t g1
    have K9 : Keep I I9 := by
      refine ⟨fun t ht => o9 t (fun q => ?_) (fun q => ?_), fun r _ => ⟨by rw [o9 4 (by decide) (by decide)], by rw [o9 15 (by decide) (by decide)], by rw [o9 16 (by decide) (by decide)]⟩, by rw [o9 13 (by decide) (by decide)], fun j _ => by rw [o9 29 (by decide) (by decide)], by rw [o9 3 (by decide) (by decide)], ?_, ?_⟩
      · rw [q] at ht; exact absurd ht (by decide)
      · rw [q] at ht; exact absurd ht (by decide)
      · rw [← hI9, up3_n (by decide), o8 8 (by decide)]
      · rw [← hI9, up3_n (by decide), o8 8 (by decide)]
    have hI : ∀ I', WK I9 I' → Inv I' J := fun I' hW => h.keep (K9.tr hW.keep) ⟨rfl, rfl⟩
    have hW : ∀ (s : Nat) (I' : MI) (Q' : Int32 → MI → MJ → Prop), s < 2 ^ n → WK I9 I' → (∀ I'', WK I9 I'' → Q' (iz (w s)) I'' J) → wp_X8_wins Q' I' J (iz S) (nI n) (nI s) := by
      intro s I' Q' hs hWK hQ'
      have f29 : I' 29 = I 29 := by rw [hWK.1 29 (by decide) (by decide) (by decide), o9 29 (by decide) (by decide)]
      have f28 : I' 28 = I 28 := by rw [hWK.1 28 (by decide) (by decide) (by decide), o9 28 (by decide) (by decide)]
      have f32 : I' 32 = I 32 := by rw [hWK.1 32 (by decide) (by decide) (by decide), o9 32 (by decide) (by decide)]
      refine s_wins (u := I 13 0) (bar := I 17 0) (prize := I 18 0) (pl := pl) (sp := sp) hn (by omega) ?_ (fun j hj => by rw [f29, u1 j hj]) (by rw [f28, t1 0 (by decide)]; exact esp) (by rw [f28, t1 2 (by decide)]; exact epl) hS1 hS2 hs1 hs2 hl1 hl2 (fun r hr => by rw [f32]; exact hC r hr) (fun I'' hW' => ?_)
      · obtain ⟨r0, r1, r2, r3, r4, r5, r6, r7⟩ := u2
        unfold RuB
        rw [f29, u1 0 (by decide), u1 1 (by decide), u1 2 (by decide), u1 3 (by decide), u1 4 (by decide), u1 5 (by decide)]
        exact ⟨r0, r1, r2, r3, r4, r5, r6, r7⟩
      · rw [← ew]
        exact hQ' I'' (hWK.tr hW')
    have rfW : WK I9 I9 := ⟨fun _ _ _ _ => rfl, fun _ _ => rfl⟩
    refine hW 0 I9 _ (Nat.two_pow_pos n) rfW (fun I'' hW' => ?_)
    by_cases cz : z = 2
    · exact onp cz ⟨hz2 cz, hI I'' hW'⟩
    · refine onn cz (s_mplan (I := I9) (S := S) (w := w) hn1 hn (fun s _ => hwb s) hW (fun I' b hW2 hb hm => ?_) I'' hW')
      have h3 := hz b cz hb hm
      exact ⟨fun q => ⟨h3.1 q, hI I' hW2⟩, fun q => ⟨h3.2 q, hI I' hW2⟩⟩
  have hdiv : ∀ a : Int, ∀ b : Nat, 0 ≤ a → a ≤ 30000 → b < 1024 → iz (a * 1024 + 1023 - b) / 1024 = iz a ∧ 1023 - (iz (a * 1024 + 1023 - b) - iz (a * 1024 + 1023 - b) / 1024 * 1024) = nI b := by
    intro a b g1 g2 g3
    have e1 : iz (a * 1024 + 1023 - b) / 1024 = iz a := by
      rw [show (1024 : Int32) = iz 1024 from rfl, iz_div (by omega) (by omega) (by omega) (by omega)]
      congr 1
      rw [Int.tdiv_eq_ediv_of_nonneg (by omega)]
      omega
    refine ⟨e1, ?_⟩
    rw [e1, show (1024 : Int32) = iz 1024 from rfl, show (1023 : Int32) = iz 1023 from rfl, iz_mul, iz_sub, iz_sub, iz_nI]
    exact iz_inj (by omega)
  by_cases cz : z = 2
  · refine onp cz ?_
    unfold J_X7_plan_71 wp_X5_pullsOf wp_X5_wonOf
    refine hcl false _ (fun I8 o8 => ?_)
    rw [bsc_no]
    refine onn (by rw [cz]; decide) ?_
    have e1 := hdiv (w 0) 0 (hwb 0).1 (hwb 0).2 (by decide)
    unfold psc
    rw [e1.1]
    exact hfin I8 _ o8 (fun _ => rfl) (fun b q => absurd cz q)
  · refine onn cz ?_
    unfold J_X7_plan_71 wp_X5_pullsOf wp_X5_wonOf
    refine hcl true _ (fun I8 o8 => ?_)
    obtain ⟨m1, tb, m2, m3⟩ := bsc_max (n := n) (sc := psc w) n 0 (Nat.le_refl _)
    have e0 : ∀ t, 0 + 2 ^ (n - n) * t = t := fun t => by rw [Nat.sub_self, Nat.pow_zero, Nat.one_mul, Nat.zero_add]
    rw [e0] at m3
    have m1' : ∀ t, t < 2 ^ n → psc w t ≤ psc w tb := fun t ht => by have := m1 t ht; rw [e0, m3] at this; exact this
    rw [m3]
    have huniq : ∀ b, b < 2 ^ n → (∀ s, s < 2 ^ n → w s < w b ∨ (w s = w b ∧ b ≤ s)) → tb = b := by
      intro b hb hm
      have g1 := hm tb m2
      have g2 := m1' b hb
      unfold psc at g2
      omega
    have e1 := hdiv (w tb) tb (hwb tb).1 (hwb tb).2 (by omega)
    unfold psc
    refine ⟨fun q => ?_, fun q => ?_⟩
    · rw [e1.2]
      exact hfin I8 _ o8 (fun q2 => absurd q2 cz) (fun b _ hb hm => ⟨fun _ => by rw [huniq b hb hm], fun q3 => absurd q q3⟩)
    · rw [e1.1]
      exact hfin I8 _ o8 (fun q2 => absurd q2 cz) (fun b _ hb hm => ⟨fun q3 => absurd q3 q, fun _ => by rw [huniq b hb hm]⟩)
end PLANP
