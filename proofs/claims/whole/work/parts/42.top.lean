/-! counts and sums over the first n; ranks; the sum of the best b -/
def cn (P : Nat → Bool) : Nat → Nat
  | 0 => 0
  | n + 1 => cn P n + (if P n = true then 1 else 0)
def sm (P : Nat → Bool) (w : Nat → Int) : Nat → Int
  | 0 => 0
  | n + 1 => sm P w n + (if P n = true then w n else 0)
theorem cn_le (P : Nat → Bool) (n : Nat) : cn P n ≤ n := by
  induction n with
  | zero => exact Nat.le_refl _
  | succ n ih => show cn P n + (if P n = true then 1 else 0) ≤ n + 1; split <;> omega
theorem cn_mono {P P' : Nat → Bool} : ∀ n, (∀ k, k < n → P k = true → P' k = true) → cn P n ≤ cn P' n := by
  intro n
  induction n with
  | zero => intro _; exact Nat.le_refl _
  | succ n ih =>
    intro h
    have := ih (fun k hk => h k (by omega))
    show cn P n + (if P n = true then 1 else 0) ≤ cn P' n + (if P' n = true then 1 else 0)
    by_cases c : P n = true
    · rw [if_pos c, if_pos (h n (by omega) c)]; omega
    · rw [if_neg c]; omega
theorem cn_lt {P P' : Nat → Bool} {j : Nat} : ∀ n, (∀ k, k < n → P k = true → P' k = true) → j < n → P' j = true → ¬ P j = true → cn P n < cn P' n := by
  intro n
  induction n with
  | zero => intro _ h; exact absurd h (by omega)
  | succ n ih =>
    intro h hj h1 h2
    show cn P n + (if P n = true then 1 else 0) < cn P' n + (if P' n = true then 1 else 0)
    by_cases e : j = n
    · subst e
      have := cn_mono j (fun k hk => h k (by omega))
      rw [if_neg h2, if_pos h1]; omega
    · have := ih (fun k hk => h k (by omega)) (by omega) h1 h2
      by_cases c : P n = true
      · rw [if_pos c, if_pos (h n (by omega) c)]; omega
      · rw [if_neg c]; omega
theorem cn_all (n : Nat) : cn (fun _ => true) n = n := by
  induction n with
  | zero => rfl
  | succ n ih => show cn (fun _ => true) n + 1 = n + 1; rw [ih]
theorem cn_congr {P P' : Nat → Bool} : ∀ n, (∀ k, k < n → P k = P' k) → cn P n = cn P' n := by
  intro n
  induction n with
  | zero => intro _; rfl
  | succ n ih =>
    intro h
    show cn P n + (if P n = true then 1 else 0) = cn P' n + (if P' n = true then 1 else 0)
    rw [ih (fun k hk => h k (by omega)), h n (by omega)]
theorem sm_congr {P P' : Nat → Bool} {w w' : Nat → Int} : ∀ n, (∀ k, k < n → (if P k = true then w k else 0) = (if P' k = true then w' k else 0)) → sm P w n = sm P' w' n := by
  intro n
  induction n with
  | zero => intro _; rfl
  | succ n ih =>
    intro h
    show sm P w n + (if P n = true then w n else 0) = sm P' w' n + (if P' n = true then w' n else 0)
    rw [ih (fun k hk => h k (by omega)), h n (by omega)]
theorem sm_add {P P1 P2 : Nat → Bool} {w : Nat → Int} : ∀ n, (∀ k, k < n → (if P k = true then w k else 0) = (if P1 k = true then w k else 0) + (if P2 k = true then w k else 0)) → sm P w n = sm P1 w n + sm P2 w n := by
  intro n
  induction n with
  | zero => intro _; rfl
  | succ n ih =>
    intro h
    show sm P w n + (if P n = true then w n else 0) = (sm P1 w n + (if P1 n = true then w n else 0)) + (sm P2 w n + (if P2 n = true then w n else 0))
    rw [ih (fun k hk => h k (by omega)), h n (by omega)]
    omega
theorem cn_add {P P1 P2 : Nat → Bool} : ∀ n, (∀ k, k < n → (if P k = true then 1 else 0 : Nat) = (if P1 k = true then 1 else 0) + (if P2 k = true then 1 else 0)) → cn P n = cn P1 n + cn P2 n := by
  intro n
  induction n with
  | zero => intro _; rfl
  | succ n ih =>
    intro h
    show cn P n + (if P n = true then 1 else 0) = (cn P1 n + (if P1 n = true then 1 else 0)) + (cn P2 n + (if P2 n = true then 1 else 0))
    rw [ih (fun k hk => h k (by omega)), h n (by omega)]
    omega
theorem sm_none {P : Nat → Bool} {w : Nat → Int} : ∀ n, (∀ k, k < n → ¬ P k = true) → sm P w n = 0 := by
  intro n
  induction n with
  | zero => intro _; rfl
  | succ n ih =>
    intro h
    show sm P w n + (if P n = true then w n else 0) = 0
    rw [ih (fun k hk => h k (by omega)), if_neg (h n (by omega))]
    rfl
theorem cn_none {P : Nat → Bool} : ∀ n, (∀ k, k < n → ¬ P k = true) → cn P n = 0 := by
  intro n
  induction n with
  | zero => intro _; rfl
  | succ n ih =>
    intro h
    show cn P n + (if P n = true then 1 else 0) = 0
    rw [ih (fun k hk => h k (by omega)), if_neg (h n (by omega))]
theorem cn_ex {P : Nat → Bool} {n : Nat} (h : cn P n ≠ 0) : ∃ k, k < n ∧ P k = true :=
  Classical.byContradiction fun q => h (cn_none n (fun k hk hp => q ⟨k, hk, hp⟩))
theorem sm_one {P : Nat → Bool} {w : Nat → Int} {k0 : Nat} : ∀ n, k0 < n → (∀ k, k < n → (P k = true ↔ k = k0)) → sm P w n = w k0 := by
  intro n
  induction n with
  | zero => intro h; exact absurd h (by omega)
  | succ n ih =>
    intro h hp
    show sm P w n + (if P n = true then w n else 0) = w k0
    by_cases e : k0 = n
    · subst e
      rw [if_pos ((hp k0 (by omega)).mpr rfl), sm_none k0 (fun k hk hc => absurd ((hp k (by omega)).mp hc) (by omega))]
      omega
    · rw [if_neg (fun hc => e ((hp n (by omega)).mp hc).symm), ih (by omega) (fun k hk => hp k (by omega))]
      omega
theorem cn_one_le {P : Nat → Bool} : ∀ n, (∀ k o, k < n → o < n → P k = true → P o = true → k = o) → cn P n ≤ 1 := by
  intro n
  induction n with
  | zero => intro _; exact Nat.zero_le _
  | succ n ih =>
    intro h
    show cn P n + (if P n = true then 1 else 0) ≤ 1
    by_cases c : P n = true
    · rw [if_pos c, cn_none n (fun k hk hp => absurd (h k n (by omega) (by omega) hp c) (by omega))]
      omega
    · rw [if_neg c]
      exact ih (fun k o hk ho => h k o (by omega) (by omega))
section BIJ
variable {h : Nat → Nat} {n : Nat}
theorem bij_cn (hb : ∀ k, k < n → h k < n) (hi : ∀ k o, k < n → o < n → h k = h o → k = o) : ∀ b, b ≤ n → cn (fun k => decide (h k < b)) n = b := by
  have step : ∀ b, cn (fun k => decide (h k < b + 1)) n = cn (fun k => decide (h k < b)) n + cn (fun k => decide (h k = b)) n := fun b => cn_add n (fun k hk => by
    by_cases c : h k < b
    · simp [c, show h k < b + 1 by omega, show ¬ h k = b by omega]
    · by_cases c2 : h k = b
      · simp [c2]
      · simp [c, c2, show ¬ h k < b + 1 by omega])
  have one : ∀ b, cn (fun k => decide (h k = b)) n ≤ 1 := fun b => cn_one_le n (fun k o hk ho h1 h2 => hi k o hk ho ((of_decide_eq_true h1).trans (of_decide_eq_true h2).symm))
  have up : ∀ b, cn (fun k => decide (h k < b)) n ≤ b := by
    intro b
    induction b with
    | zero => rw [cn_none n (fun k hk hc => absurd (of_decide_eq_true hc) (by omega))]; exact Nat.le_refl _
    | succ b ih => rw [step b]; have := one b; omega
  have all : cn (fun k => decide (h k < n)) n = n := by
    rw [cn_congr (P' := fun _ => true) n (fun k hk => decide_eq_true (hb k hk)), cn_all]
  have down : ∀ d b, b + d = n → b ≤ cn (fun k => decide (h k < b)) n := by
    intro d
    induction d with
    | zero => intro b e; obtain rfl : b = n := by omega
              rw [all]; exact Nat.le_refl _
    | succ d ih =>
      intro b e
      have h1 := ih (b + 1) (by omega)
      rw [step b] at h1
      have := one b
      omega
  intro b hb'
  have h1 := up b
  have h2 := down (n - b) b (by omega)
  omega
theorem bij_ex (hb : ∀ k, k < n → h k < n) (hi : ∀ k o, k < n → o < n → h k = h o → k = o) {b : Nat} (hbn : b < n) : ∃ k, k < n ∧ h k = b := by
  have h1 := bij_cn hb hi b (by omega)
  have h2 := bij_cn hb hi (b + 1) (by omega)
  have hs : cn (fun k => decide (h k < b + 1)) n = cn (fun k => decide (h k < b)) n + cn (fun k => decide (h k = b)) n := cn_add n (fun k hk => by
    by_cases c : h k < b
    · simp [c, show h k < b + 1 by omega, show ¬ h k = b by omega]
    · by_cases c2 : h k = b
      · simp [c2]
      · simp [c, c2, show ¬ h k < b + 1 by omega])
  obtain ⟨k, hk, hc⟩ := cn_ex (P := fun k => decide (h k = b)) (n := n) (by omega)
  exact ⟨k, hk, of_decide_eq_true hc⟩
theorem bij_sm (hb : ∀ k, k < n → h k < n) (hi : ∀ k o, k < n → o < n → h k = h o → k = o) (s : Nat → Int) : ∀ b, b ≤ n → sm (fun k => decide (h k < b)) (fun k => s (h k)) n = sm (fun _ => true) s b := by
  intro b
  induction b with
  | zero => intro _; exact sm_none n (fun k hk hc => absurd (of_decide_eq_true hc) (by omega))
  | succ b ih =>
    intro hbn
    obtain ⟨k0, hk0, e0⟩ := bij_ex hb hi (b := b) (by omega)
    have hs : sm (fun k => decide (h k < b + 1)) (fun k => s (h k)) n = sm (fun k => decide (h k < b)) (fun k => s (h k)) n + sm (fun k => decide (h k = b)) (fun k => s (h k)) n := sm_add n (fun k hk => by
      by_cases c : h k < b
      · simp [c, show h k < b + 1 by omega, show ¬ h k = b by omega]
      · by_cases c2 : h k = b
        · simp [c2]
        · simp [c, c2, show ¬ h k < b + 1 by omega])
    rw [hs, ih (by omega), sm_one (k0 := k0) n hk0 (fun k hk => ⟨fun hc => hi k k0 hk hk0 ((of_decide_eq_true hc).trans e0.symm), fun e => by rw [e]; exact decide_eq_true e0⟩), e0]
    rfl
end BIJ
/-- o stands before k: greater, or equal and earlier -/
def pre (F : Nat → Int) (o k : Nat) : Bool := decide (F k < F o ∨ (F o = F k ∧ o < k))
def rk (F : Nat → Int) (n k : Nat) : Nat := cn (fun o => pre F o k) n
theorem pre_iff {F : Nat → Int} {o k : Nat} : pre F o k = true ↔ (F k < F o ∨ (F o = F k ∧ o < k)) := decide_eq_true_iff
theorem rk_lt {F : Nat → Int} {n o k : Nat} (ho : o < n) (h : pre F o k = true) : rk F n o < rk F n k := by
  refine cn_lt (j := o) n (fun x hx hp => ?_) ho h ?_
  · rw [pre_iff] at h hp ⊢
    omega
  · rw [pre_iff]
    omega
theorem rk_inj {F : Nat → Int} {n k o : Nat} (hk : k < n) (ho : o < n) (h : rk F n k = rk F n o) : k = o := by
  rcases Nat.lt_trichotomy k o with c | c | c
  · by_cases e : F k < F o
    · have := rk_lt (F := F) ho (k := k) (pre_iff.mpr (Or.inl e)); omega
    · have := rk_lt (F := F) hk (k := o) (pre_iff.mpr (by omega)); omega
  · exact c
  · by_cases e : F o < F k
    · have := rk_lt (F := F) hk (k := o) (pre_iff.mpr (Or.inl e)); omega
    · have := rk_lt (F := F) ho (k := k) (pre_iff.mpr (by omega)); omega
theorem rk_b {F : Nat → Int} {n k : Nat} (hk : k < n) : rk F n k < n := by
  have h1 := cn_lt (P := fun o => pre F o k) (P' := fun _ => true) (j := k) n (fun _ _ _ => rfl) hk rfl (by rw [pre_iff]; omega)
  rw [cn_all] at h1
  exact h1
/-- two sets of one size, each of the greatest: one sum -/
theorem exchange {P P' : Nat → Bool} {w : Nat → Int} {n : Nat} (hc : cn P n = cn P' n) (hP : ∀ k o, k < n → o < n → P k = true → ¬ P o = true → w o ≤ w k) (hP' : ∀ k o, k < n → o < n → P' k = true → ¬ P' o = true → w o ≤ w k) : sm P w n = sm P' w n := by
  have lin : ∀ (c : Int) (m : Nat), (∀ k, k < m → P k ≠ P' k → w k = c) → sm P w m - sm P' w m = c * ((cn P m : Int) - (cn P' m : Int)) := by
    intro c m
    induction m with
    | zero => intro _; show (0 : Int) - 0 = c * (0 - 0); simp
    | succ m ih =>
      intro hd
      have h1 := ih (fun k hk => hd k (by omega))
      show (sm P w m + (if P m = true then w m else 0)) - (sm P' w m + (if P' m = true then w m else 0)) = c * (((cn P m + (if P m = true then 1 else 0) : Nat) : Int) - ((cn P' m + (if P' m = true then 1 else 0) : Nat) : Int))
      by_cases c1 : P m = true <;> by_cases c2 : P' m = true
      · rw [if_pos c1, if_pos c2, if_pos c1, if_pos c2]
        have : (((cn P m + 1 : Nat) : Int) - ((cn P' m + 1 : Nat) : Int)) = (cn P m : Int) - (cn P' m : Int) := by omega
        rw [this]; omega
      · have e := hd m (by omega) (fun q => c2 (q ▸ c1))
        rw [if_pos c1, if_neg c2, if_pos c1, if_neg c2, e]
        have : (((cn P m + 1 : Nat) : Int) - ((cn P' m + 0 : Nat) : Int)) = ((cn P m : Int) - (cn P' m : Int)) + 1 := by omega
        rw [this, Int.mul_add]; omega
      · have e := hd m (by omega) (fun q => c1 (q ▸ c2))
        rw [if_neg c1, if_pos c2, if_neg c1, if_pos c2, e]
        have : (((cn P m + 0 : Nat) : Int) - ((cn P' m + 1 : Nat) : Int)) = ((cn P m : Int) - (cn P' m : Int)) - 1 := by omega
        rw [this, Int.mul_sub]; omega
      · rw [if_neg c1, if_neg c2, if_neg c1, if_neg c2]
        have : (((cn P m + 0 : Nat) : Int) - ((cn P' m + 0 : Nat) : Int)) = (cn P m : Int) - (cn P' m : Int) := by omega
        rw [this]; omega
  have fin : ∀ c : Int, (∀ k, k < n → P k ≠ P' k → w k = c) → sm P w n = sm P' w n := fun c h => by
    have h1 := lin c n h
    rw [hc, Int.sub_self, Int.mul_zero] at h1
    omega
  by_cases hA : ∃ k, k < n ∧ P k = true ∧ ¬ P' k = true
  · obtain ⟨k0, hk0, a1, a2⟩ := hA
    by_cases hB : ∃ o, o < n ∧ P' o = true ∧ ¬ P o = true
    · obtain ⟨o0, ho0, b1, b2⟩ := hB
      refine fin (w k0) (fun k hk hd => ?_)
      by_cases c1 : P k = true
      · have c2 : ¬ P' k = true := fun q => hd (c1.trans q.symm)
        have r1 := hP k o0 hk ho0 c1 b2
        have r2 := hP' o0 k ho0 hk b1 c2
        have r3 := hP k0 o0 hk0 ho0 a1 b2
        have r4 := hP' o0 k0 ho0 hk0 b1 a2
        omega
      · have c2 : P' k = true := by
          cases h1 : P' k
          · cases h2 : P k
            · exact absurd (h2.trans h1.symm) hd
            · exact absurd h2 c1
          · rfl
        have r3 := hP k0 k hk0 hk a1 c1
        have r4 := hP' k k0 hk hk0 c2 a2
        omega
    · exact absurd (cn_lt (P := P') (P' := P) (j := k0) n (fun k hk hp => Classical.byContradiction fun q => hB ⟨k, hk, hp, q⟩) hk0 a1 a2) (by omega)
  · by_cases hB : ∃ o, o < n ∧ P' o = true ∧ ¬ P o = true
    · obtain ⟨o0, ho0, b1, b2⟩ := hB
      exact absurd (cn_lt (P := P) (P' := P') (j := o0) n (fun k hk hp => Classical.byContradiction fun q => hA ⟨k, hk, hp, q⟩) ho0 b1 b2) (by omega)
    · refine fin 0 (fun k hk hd => absurd ?_ hd)
      cases h1 : P k <;> cases h2 : P' k
      · rfl
      · exact absurd ⟨k, hk, h2, by rw [h1]; decide⟩ hB
      · exact absurd ⟨k, hk, h1, by rw [h2]; decide⟩ hA
      · rfl
/-- the best b of the first n, cut at c: by the rank of what was shown, or of what is counted -/
def topS (F w : Nat → Int) (n b : Nat) : Int := sm (fun k => decide (rk F n k < b)) w n
theorem topS_cut (F : Nat → Int) (c : Int) {n b : Nat} (hb : b ≤ n) : topS F (fun k => min (F k) c) n b = topS (fun k => min (F k) c) (fun k => min (F k) c) n b := by
  refine exchange ?_ (fun k o hk ho h1 h2 => ?_) (fun k o hk ho h1 h2 => ?_)
  · rw [bij_cn (fun k hk => rk_b hk) (fun k o hk ho => rk_inj hk ho) b hb, bij_cn (fun k hk => rk_b hk) (fun k o hk ho => rk_inj hk ho) b hb]
  · have g1 := of_decide_eq_true h1
    have g2 : ¬ rk F n o < b := fun q => h2 (decide_eq_true q)
    have : ¬ pre F o k = true := fun q => by have := rk_lt ho q; omega
    rw [pre_iff] at this
    show min (F o) c ≤ min (F k) c
    omega
  · have g1 := of_decide_eq_true h1
    have g2 : ¬ rk (fun k => min (F k) c) n o < b := fun q => h2 (decide_eq_true q)
    have : ¬ pre (fun k => min (F k) c) o k = true := fun q => by have := rk_lt ho q; omega
    rw [pre_iff] at this
    show min (F o) c ≤ min (F k) c
    omega
