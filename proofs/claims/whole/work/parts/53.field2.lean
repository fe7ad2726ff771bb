theorem sg_front (f : Nat → Int) : ∀ n, sg f (n + 1) = f 0 + sg (fun k => f (k + 1)) n := by
  intro n
  induction n with
  | zero => show (0 : Int) + f 0 = f 0 + 0; omega
  | succ n ih =>
    show sg f (n + 1) + f (n + 1) = f 0 + (sg (fun k => f (k + 1)) n + f (n + 1))
    rw [ih]; omega
theorem sg_rev (f : Nat → Int) : ∀ n, sg (fun u => f (n - 1 - u)) n = sg f n := by
  intro n
  induction n with
  | zero => rfl
  | succ n ih =>
    rw [sg_front]
    show f (n + 1 - 1 - 0) + sg (fun k => f (n + 1 - 1 - (k + 1))) n = sg f n + f n
    rw [sg_congr (g := fun u => f (n - 1 - u)) n (fun k hk => by show f (n + 1 - 1 - (k + 1)) = f (n - 1 - k); congr 1; omega), ih, show n + 1 - 1 - 0 = n by omega]
    omega
theorem wq_mono {a b a' b' : Nat → Int} {p : Nat} (ha : ∀ o, 0 ≤ a' o ∧ a' o ≤ a o) (hb : ∀ o, 0 ≤ b' o ∧ b' o ≤ b o) : ∀ o, 0 ≤ wq a' b' p o ∧ wq a' b' p o ≤ wq a b p o := by
  intro o
  induction o with
  | zero => exact ⟨by show (0 : Int) ≤ 1; decide, Int.le_refl _⟩
  | succ o ih =>
    have hf : 0 ≤ (if o = p then 1 else if o < p then b' o else a' o) ∧ (if o = p then 1 else if o < p then b' o else a' o) ≤ (if o = p then (1 : Int) else if o < p then b o else a o) := by
      by_cases c : o = p
      · rw [if_pos c, if_pos c]; decide
      · rw [if_neg c, if_neg c]
        by_cases c2 : o < p
        · rw [if_pos c2, if_pos c2]; exact hb o
        · rw [if_neg c2, if_neg c2]; exact ha o
    show 0 ≤ wq a' b' p o * (if o = p then 1 else if o < p then b' o else a' o) ∧ wq a' b' p o * (if o = p then 1 else if o < p then b' o else a' o) ≤ wq a b p o * (if o = p then (1 : Int) else if o < p then b o else a o)
    exact ⟨Int.mul_nonneg ih.1 hf.1, Int.mul_le_mul ih.2 hf.2 hf.1 (Int.le_trans ih.1 ih.2)⟩
theorem wy_mono {t m p : Nat} {l : Nat → Int} {v v' : Int} (h : v' ≤ v) : 0 ≤ wy t l m p v' ∧ wy t l m p v' ≤ wy t l m p v :=
  wq_mono (fun o => ⟨(clZ_bd _ t).1, clZ_mono (by omega)⟩) (fun o => ⟨(clZ_bd _ t).1, clZ_mono (by omega)⟩) m
theorem wy_bd {t m p : Nat} {l : Nat → Int} {v : Int} (ht : t ≤ 5) (hm : m ≤ 8) : 0 ≤ wy t l m p v ∧ wy t l m p v ≤ 214358881 := by
  have h := wq_bd (a := fun o => Gv t (l o) v) (b := fun o => Gv t (l o) (v - 1)) (c := ((2 * t + 1 : Nat) : Int)) (p := p) (by omega) (fun o => by have := clZ_bd (v - l o + t + 1) t; show 0 ≤ clZ _ t ∧ clZ _ t ≤ _; omega) (fun o => by have := clZ_bd (v - 1 - l o + t + 1) t; show 0 ≤ clZ _ t ∧ clZ _ t ≤ _; omega) m
  exact ⟨h.1, Int.le_trans h.2 (pw_bd ht hm).2⟩
theorem sg_bd {f : Nat → Int} {c : Int} : ∀ n, (∀ k, k < n → 0 ≤ f k ∧ f k ≤ c) → 0 ≤ sg f n ∧ sg f n ≤ c * n := by
  intro n
  induction n with
  | zero => intro _; show (0 : Int) ≤ 0 ∧ (0 : Int) ≤ c * 0; omega
  | succ n ih =>
    intro h
    have h1 := ih (fun k hk => h k (by omega))
    have h2 := h n (by omega)
    have e : c * ((n + 1 : Nat) : Int) = c * n + c := by rw [Int.natCast_add, Int.mul_add]; omega
    show 0 ≤ sg f n + f n ∧ sg f n + f n ≤ c * ((n + 1 : Nat) : Int)
    rw [e]; omega
theorem sg_tail {f : Nat → Int} {i : Nat} (h : ∀ u, i ≤ u → f u = 0) : ∀ d, sg f (i + d) = sg f i := by
  intro d
  induction d with
  | zero => rfl
  | succ d ih => show sg f (i + d) + f (i + d) = sg f i; rw [ih, h _ (by omega)]; omega
theorem rw1_bd {t m p : Nat} {l : Nat → Int} (ht : t ≤ 5) (hm : m ≤ 8) : 0 ≤ rw1 t l m p ∧ rw1 t l m p ≤ 2357947691 := by
  have h := sg_bd (f := fun u => wy t l m p (l p - t + (u : Int))) (c := 214358881) (2 * t + 1) (fun k _ => wy_bd ht hm)
  unfold rw1
  omega
section FLD2
variable {I : MI} {J : MJ}
theorem s_rowsFirst {Q : Int64 → MI → MJ → Prop} {m t p : Nat} {l : Nat → Int} (h : FS I m t l) (hp : p < m) (hQ : Q (lz (rw1 t l m p)) I J) : wp_X0_rowsFirst Q I J (nI p) := by
  obtain ⟨hm, ht, e4, e5, hl⟩ := id h
  obtain ⟨el, l1, l2⟩ := hl p hp
  generalize hg : (fun u : Nat => wy t l m p (l p + t - (u : Int))) = g
  have eg : ∀ u : Nat, g u = wy t l m p (l p + t - (u : Int)) := fun u => by rw [← hg]
  have hS : sg g (2 * t + 1) = rw1 t l m p := by
    unfold rw1
    rw [← sg_rev (fun u => wy t l m p (l p - t + (u : Int))) (2 * t + 1)]
    refine sg_congr (2 * t + 1) (fun u hu => ?_)
    rw [eg]
    show wy t l m p _ = wy t l m p _
    congr 1
    omega
  have gb : ∀ u, 0 ≤ g u ∧ g u ≤ 214358881 := fun u => by rw [eg]; exact wy_bd ht hm
  have key : ∀ (d i : Nat), i + d = 2 * t + 1 → L_X0_rowsFirst_8 Q (d + 1) I J (nI p) (lz (sg g i)) (iz ((t : Int) - i)) := by
    intro d
    induction d with
    | zero =>
      intro i e
      refine onp ?_ ?_
      · rw [e5, iz_nI, iz_neg, iz_lt (by omega) (by omega) (by omega) (by omega)]; omega
      · rw [show i = 2 * t + 1 by omega, hS]; exact hQ
    | succ d ih =>
      intro i e
      refine onn ?_ ⟨vp_in_nI (by omega) (by decide), ?_⟩
      · rw [e5, iz_nI, iz_neg, iz_lt (by omega) (by omega) (by omega) (by omega)]; omega
      rw [nI_clamp (by omega), el, iz_add]
      have ev : l p + ((t : Int) - i) = l p + t - (i : Int) := by omega
      rw [ev]
      refine s_ways h hp (by omega) ?_
      rw [← eg i]
      have b := gb i
      rw [ll0, cmp_0 (by omega) (by omega) (by omega) (by omega), lz_add]
      by_cases c : g i = 0
      · refine onp c ?_
        have hz : ∀ u, i ≤ u → g u = 0 := fun u hu => by
          have h1 := wy_mono (t := t) (m := m) (p := p) (l := l) (show l p + t - (u : Int) ≤ l p + t - (i : Int) by omega)
          rw [← eg, ← eg] at h1
          omega
        have h2 := sg_tail hz (2 * t + 1 - i)
        rw [show i + (2 * t + 1 - i) = 2 * t + 1 by omega, hS] at h2
        rw [← h2]
        exact hQ
      · refine onn c ?_
        have hi := ih (i + 1) (by omega)
        rw [show iz ((t : Int) - i) + (-1) = iz ((t : Int) - ((i + 1 : Nat) : Int)) by rw [show (-1 : Int32) = iz (-1) from rfl, iz_add]; exact iz_inj (by omega)]
        exact hi
  have h0 := key (2 * t + 1) 0 (by omega)
  refine ⟨2 * t + 1 + 1, ?_⟩
  rw [e5, iz_nI]
  rw [show ((t : Int) - ((0 : Nat) : Int)) = (t : Int) by omega] at h0
  exact h0
theorem pcn_mono {s : Nat} : ∀ d j, pcn s j ≤ pcn s (j + d) := by
  intro d
  induction d with
  | zero => intro j; exact Nat.le_refl _
  | succ d ih => intro j; have := ih j; show pcn s j ≤ pcn s (j + d) + s / 2 ^ (j + d) % 2; omega
theorem pcn_lt {s k j : Nat} (hk : k < j) (hb : s / 2 ^ k % 2 = 1) : pcn s k < pcn s j := by
  have h1 : pcn s (k + 1) = pcn s k + s / 2 ^ k % 2 := rfl
  have h2 := pcn_mono (s := s) (j - (k + 1)) (k + 1)
  rw [show k + 1 + (j - (k + 1)) = j by omega] at h2
  omega
/-- the field behind enter: who is in the set, in its order -/
def ENT (I I' : MI) (s g : Nat) (least : Int32) (j : Nat) : Prop := I' 0 0 4 = nI (pcn s j) ∧ I' 0 0 5 = I 21 0 0 ∧ (∀ k, k < j → s / 2 ^ k % 2 = 1 → I' 9 0 (pcn s k) = brV I k g ∧ I' 10 0 (pcn s k) = brV I k g - (I 4 k 3 - least)) ∧ ∀ t, t ≠ 0 → t ≠ 9 → t ≠ 10 → I' t = I t
theorem s_enter {Q : MI → MJ → Prop} {n s g : Nat} (hn : n ≤ 8) (en : I 6 0 1 = nI n) (hs : s < 2 ^ 31) (hg : g < 3) (hQ : ∀ I', ENT I I' s g (lmn (fun j => I 4 j 3) s 200 n) n → Q I' J) : wp_X7_enter Q I J (nI g) (nI s) := by
  unfold wp_X7_enter
  refine s_leastMark hn en hs ?_
  generalize hle : lmn (fun j => I 4 j 3) s 200 n = least at hQ ⊢
  have key : ∀ (d j : Nat) (I' : MI), j + d = n → ENT I I' s g least j → L_X7_enter_22 Q (d + 1) I' J (nI g) (nI s) least (nI j) := by
    intro d
    induction d with
    | zero =>
      intro j I' e h
      obtain rfl : j = n := by omega
      exact onp (by rw [h.2.2.2 6 (by decide) (by decide) (by decide), en]; exact nI_le (Nat.le_refl _) (by omega)) (hQ I' h)
    | succ d ih =>
      intro j I' e h
      obtain ⟨c1, c2, c3, c4⟩ := id h
      refine onn (by rw [c4 6 (by decide) (by decide) (by decide), en]; exact nI_ge (by omega) (by omega)) ?_
      rw [q_isOf]
      simp only [bi_0, decide_eq_false_iff_not]
      rw [bit_0 hs (by omega), nI_1]
      have ep : pcn s (j + 1) = pcn s j + s / 2 ^ j % 2 := rfl
      by_cases c : s / 2 ^ j % 2 = 1
      · refine twp (by omega) ⟨vp_in_nI (by omega) (by decide), ?_⟩
        rw [nI_clamp (by omega)]
        simp only [Nat.mul_zero, Nat.zero_add]
        refine s_bare hg ?_
        have e4 : I' 4 = I 4 := c4 4 (by decide) (by decide) (by decide)
        have ebr : brV I' j g = brV I j g := by unfold brV; rw [e4, c4 15 (by decide) (by decide) (by decide), c4 21 (by decide) (by decide) (by decide)]
        rw [ebr, e4]
        have hp := pcn_le s j
        have hv : vp_in (nI (pcn s j)) 8 := vp_in_nI (by omega) (by decide)
        unfold wp_X0_add
        rw [c1, nI_clamp (by omega), up3_t (t' := 0) (by decide), c1, nI_clamp (by omega)]
        refine onn (fun q => absurd ((nI_leI (a := 8) (by omega) (by omega)).mp q) (by omega)) ⟨hv, hv, fun I4 e4' => ?_⟩
        have e0 : I4 0 0 4 = nI (pcn s j) := by rw [e4', up3_t (by decide), up3_t (by decide)]; exact c1
        rw [e0, nI_1]
        refine ih (j + 1) _ (by omega) ⟨by rw [up3_y, ep, c], by rw [up3_n (by decide), e4', up3_t (by decide), up3_t (by decide)]; exact c2, fun k hk hb => ?_, fun t r1 r2 r3 => by rw [up3_t r1, e4', up3_t r3, up3_t r2]; exact c4 t r1 r2 r3⟩
        rw [up3_t (t' := 9) (by decide), up3_t (t' := 10) (by decide), e4', up3_t (t' := 9) (by decide)]
        by_cases ek : k = j
        · subst ek
          rw [up3_y, up3_y]
          exact ⟨rfl, rfl⟩
        · have hlt := pcn_lt (s := s) (show k < j by omega) hb
          rw [up3_n (by omega), up3_n (by omega), up3_t (t' := 10) (by decide)]
          exact c3 k (by omega) hb
      · refine twn (by omega) ?_
        exact ih (j + 1) I' (by omega) ⟨by rw [c1, ep, show s / 2 ^ j % 2 = 0 by omega, Nat.add_zero], c2, fun k hk hb => c3 k (by
          rcases Nat.lt_or_ge k j with q | q
          · exact q
          · exact absurd (show s / 2 ^ j % 2 = 1 by rw [show j = k by omega]; exact hb) c) hb, c4⟩
  exact ⟨n + 1, key n 0 _ (by omega) ⟨by rw [up3_n (by decide), up3_y]; rfl, up3_y, fun k hk => absurd hk (by omega), fun t r1 _ _ => by rw [up3_t r1, up3_t r1]⟩⟩
end FLD2
