theorem up3L_n {J : MJ} {t r k t' r' k' : Nat} {v : Int64} (h : ¬ (t' = t ∧ r' = r ∧ k' = k)) : up3L J t r k v t' r' k' = J t' r' k' := if_neg h
theorem up3L_y {J : MJ} {t r k : Nat} {v : Int64} : up3L J t r k v t r k = v := if_pos ⟨rfl, rfl, rfl⟩
section MRC2
variable {I : MI} {J : MJ}
theorem s_r35 {Q : MI → MJ → Prop} {C10 : MI → MJ → Int32 → Int32 → Int32 → Int32 → Prop} {n s g t i : Nat} {B w l : Nat → Int} (h : MF I n s g t B w l) (hi : i < n) (h0 : J 37 0 i = 0) (hC : ∀ J', (s / 2 ^ i % 2 = 1 → J' 37 0 i = lz (rw1 t l (pcn s n) (pcn s i))) → (∀ j, j ≠ i → J' 37 0 j = J 37 0 j) → (∀ t, t ≠ 37 → J' t = J t) → C10 I J' (nI g) (nI s) (nI t) (nI i + 1)) : ∃ m : Nat, L_X8_races_35 Q C10 m I J (nI g) (nI s) (nI t) (nI i) (-nI t) := by
  obtain ⟨hn, hs, hg, ht, e168, e28, hh, hk⟩ := id h
  have hp8 := p28 hn
  have hs31 : s < 2 ^ 31 := by omega
  have e0 : -nI t = iz (((0 : Nat) : Int) - t) := by rw [iz_nI, iz_neg]; exact iz_inj (by omega)
  by_cases hb : s / 2 ^ i % 2 = 1
  · obtain ⟨eB, ew, el, b1, b2, w1, w2⟩ := hk i hi hb
    generalize hf : (fun u : Nat => wy t l (pcn s n) (pcn s i) (l (pcn s i) - t + (u : Int))) = f
    have ef : ∀ u : Nat, f u = wy t l (pcn s n) (pcn s i) (l (pcn s i) - t + (u : Int)) := fun u => by rw [← hf]
    have hS : sg f (2 * t + 1) = rw1 t l (pcn s n) (pcn s i) := by rw [← hf]; rfl
    have key : ∀ (d u : Nat) (J' : MJ), u + d = 2 * t + 1 → J' 37 0 i = lz (sg f u) → (∀ j, j ≠ i → J' 37 0 j = J 37 0 j) → (∀ t, t ≠ 37 → J' t = J t) → L_X8_races_35 Q C10 (d + 1) I J' (nI g) (nI s) (nI t) (nI i) (iz ((u : Int) - t)) := by
      intro d
      induction d with
      | zero =>
        intro u J' e h1 h2 h3
        refine onp ?_ (hC J' (fun _ => ?_) h2 h3)
        · rw [iz_nI, iz_lt (by omega) (by omega) (by omega) (by omega)]; omega
        · rw [h1, show u = 2 * t + 1 by omega, hS]
      | succ d ih =>
        intro u J' e h1 h2 h3
        refine onn ?_ ?_
        · rw [iz_nI, iz_lt (by omega) (by omega) (by omega) (by omega)]; omega
        rw [q_has]
        simp only [bi_0, decide_eq_false_iff_not]
        rw [bit_0 hs31 (by omega)]
        refine twp (by omega) (s_mbare (by omega) hg (hh i hi) ⟨vp_in_nI (by omega) (by decide), fun v8 e8 => ?_⟩)
        rw [nI_clamp (by omega), eB, ew, iz_sub, iz_add, show B i - w i + ((u : Int) - t) = l (pcn s i) - t + (u : Int) by rw [el]; omega] at e8
        rw [e8]
        refine s_prod h hi hb (by rw [el]; omega) ?_
        rw [show iz ((u : Int) - t) + 1 = iz (((u + 1 : Nat) : Int) - t) by rw [zl1, iz_add]; exact iz_inj (by omega)]
        refine ih (u + 1) _ (by omega) ?_ (fun j hj => by rw [up3L_n (by omega)]; exact h2 j hj) (fun t' ht' => by rw [up3L_t ht']; exact h3 t' ht')
        rw [up3L_y, h1, lz_add, ← ef u]
        rfl
    exact ⟨2 * t + 1 + 1, by rw [e0]; exact key (2 * t + 1) 0 J (by omega) h0 (fun _ _ => rfl) (fun _ _ => rfl)⟩
  · refine ⟨1, onn ?_ ?_⟩
    · rw [e0, iz_nI, iz_lt (by omega) (by omega) (by omega) (by omega)]; omega
    · rw [q_has]
      simp only [bi_0, decide_eq_false_iff_not]
      rw [bit_0 hs31 (by omega)]
      exact twn (by omega) (hC J (fun q => absurd q hb) (fun _ _ => rfl) (fun _ _ => rfl))
theorem s_races {Q : MI → MJ → Prop} {n s g t : Nat} {B w l : Nat → Int} (h : MF I n s g t B w l) (hQ : ∀ J', (∀ i, i < n → s / 2 ^ i % 2 = 1 → J' 37 0 i = lz (rw1 t l (pcn s n) (pcn s i))) → (∀ t, t ≠ 37 → J' t = J t) → Q I J') : wp_X8_races Q I J (nI g) (nI s) := by
  obtain ⟨hn, hs, hg, ht, e168, e28, hh, hk⟩ := id h
  have key : ∀ (d i : Nat) (J' : MJ), i + d = n → (∀ k, k < i → s / 2 ^ k % 2 = 1 → J' 37 0 k = lz (rw1 t l (pcn s n) (pcn s k))) → (∀ t, t ≠ 37 → J' t = J t) → L_X8_races_10 Q (d + 1) I J' (nI g) (nI s) (nI t) (nI i) := by
    intro d
    induction d with
    | zero =>
      intro i J' e h1 h2
      obtain rfl : i = n := by omega
      exact onp (by rw [e168]; exact nI_le (Nat.le_refl _) (by omega)) (hQ J' h1 h2)
    | succ d ih =>
      intro i J' e h1 h2
      refine onn (by rw [e168]; exact nI_ge (by omega) (by omega)) ⟨vp_in_nI (by omega) (by decide), ?_⟩
      rw [nI_clamp (by omega)]
      refine s_r35 h (by omega) up3L_y (fun J2 g1 g2 g3 => ?_)
      rw [nI_1]
      refine ih (i + 1) J2 (by omega) (fun k hk' hb => ?_) (fun t' ht' => by rw [g3 t' ht', up3L_t ht']; exact h2 t' ht')
      by_cases e1 : k = i
      · subst e1; exact g1 hb
      · rw [g2 k e1, up3L_n (by omega)]; exact h1 k (by omega) hb
  unfold wp_X8_races
  rw [e28]
  exact ⟨n + 1, key n 0 J (by omega) (fun k hk' => absurd hk' (by omega)) (fun _ _ => rfl)⟩
theorem s_mallRows {Q : Int64 → MI → MJ → Prop} {n s t : Nat} (hn : n ≤ 8) (hs : s < 2 ^ n) (ht : t ≤ 5) (e28 : I 28 0 0 = nI t) (hQ : Q (lz (((2 * t + 1 : Nat) : Int) ^ pcn s n)) I J) : wp_X8_allRows Q I J (nI s) := by
  have hp8 := p28 hn
  refine s_ones (by omega) ?_
  rw [pcn_hi hs 8 hn]
  have hpn := pcn_le s n
  generalize pcn s n = m at hQ hpn
  have key : ∀ (d j : Nat), j + d = m → L_X8_allRows_8 Q (d + 1) I J (lz (((2 * t + 1 : Nat) : Int) ^ j)) (nI d) := by
    intro d
    induction d with
    | zero =>
      intro j e
      obtain rfl : j = m := by omega
      exact onp (by decide) hQ
    | succ d ih =>
      intro j e
      refine onn (fun q => absurd ((nI_leI (b := 0) (by omega) (by omega)).mp q) (by omega)) (fun v hv => ?_)
      rw [e28, two_t, iz_nI, iz_l (by omega) (by omega), lz_mul, ← Int.pow_succ] at hv
      rw [hv, show nI (d + 1) + -1 = nI d by rw [iz_nI, iz_nI, show (-1 : Int32) = iz (-1) from rfl, iz_add]; exact iz_inj (by omega)]
      exact ih (j + 1) (by omega)
  exact ⟨m + 1, key m 0 (by omega)⟩
def iab (x : Int) : Int := if 0 ≤ x then x else -x
/-- how far from even -/
def off1 (t : Nat) (l : Nat → Int) (m p : Nat) : Int := iab (m * rw1 t l m p - ((2 * t + 1 : Nat) : Int) ^ m)
def clo (t : Nat) (l : Nat → Int) (m : Nat) : Int := sg (off1 t l m) m
theorem mrw_bd {t m p : Nat} {l : Nat → Int} (ht : t ≤ 5) (hm : m ≤ 8) : -214358881 ≤ m * rw1 t l m p - ((2 * t + 1 : Nat) : Int) ^ m ∧ m * rw1 t l m p - ((2 * t + 1 : Nat) : Int) ^ m ≤ 18863581528 := by
  have h1 := rw1_bd (t := t) (m := m) (p := p) (l := l) ht hm
  have h2 := pw_bd ht hm
  have h3 : (m : Int) * rw1 t l m p ≤ 8 * 2357947691 := Int.mul_le_mul (by omega) h1.2 h1.1 (by decide)
  have h4 : 0 ≤ (m : Int) * rw1 t l m p := Int.mul_nonneg (by omega) h1.1
  omega
theorem off1_bd {t m p : Nat} {l : Nat → Int} (ht : t ≤ 5) (hm : m ≤ 8) : 0 ≤ off1 t l m p ∧ off1 t l m p ≤ 18863581528 := by
  have := mrw_bd (t := t) (m := m) (p := p) (l := l) ht hm
  unfold off1 iab
  split <;> omega
theorem offs_bd {t m : Nat} {l : Nat → Int} (ht : t ≤ 5) (hm : m ≤ 8) (k : Nat) (hk : k ≤ 8) : 0 ≤ sg (off1 t l m) k ∧ sg (off1 t l m) k ≤ 150908652224 := by
  have := sg_bd (f := off1 t l m) (c := 18863581528) k (fun j _ => off1_bd ht hm)
  omega
theorem s_closeness {Q : Int64 → MI → MJ → Prop} {n s t : Nat} {l : Nat → Int} (hn : n ≤ 8) (hs : s < 2 ^ n) (ht : t ≤ 5) (e168 : I 25 0 168 = nI n) (e28 : I 28 0 0 = nI t) (hJ : ∀ i, i < n → s / 2 ^ i % 2 = 1 → J 37 0 i = lz (rw1 t l (pcn s n) (pcn s i))) (hQ : Q (lz (clo t l (pcn s n))) I J) : wp_X8_closeness Q I J (nI s) := by
  have hp8 := p28 hn
  have hs31 : s < 2 ^ 31 := by omega
  have hpn := pcn_le s n
  refine s_mallRows hn hs ht e28 ?_
  generalize hm : pcn s n = m at hQ hJ hpn
  have key : ∀ (d i : Nat), i + d = n → L_X8_closeness_12 Q (d + 1) I J (nI s) (lz (sg (off1 t l m) (pcn s i))) (lz (((2 * t + 1 : Nat) : Int) ^ m)) (nI i) := by
    intro d
    induction d with
    | zero =>
      intro i e
      obtain rfl : i = n := by omega
      refine onp (by rw [e168]; exact nI_le (Nat.le_refl _) (by omega)) ?_
      rw [hm]; exact hQ
    | succ d ih =>
      intro i e
      have hi := ih (i + 1) (by omega)
      have ep : pcn s (i + 1) = pcn s i + s / 2 ^ i % 2 := rfl
      refine onn (by rw [e168]; exact nI_ge (by omega) (by omega)) ?_
      rw [q_has]
      simp only [bi_0, decide_eq_false_iff_not]
      rw [bit_0 hs31 (by omega)]
      by_cases hb : s / 2 ^ i % 2 = 1
      · refine twp (by omega) (s_ones hs31 ⟨vp_in_nI (by omega) (by decide), ?_⟩)
        rw [pcn_hi hs 8 hn, hm, nI_clamp (by omega), hJ i (by omega) hb, iz_nI m, iz_l (by omega) (by omega), lz_mul, lz_sub]
        have hbd := mrw_bd (t := t) (m := m) (p := pcn s i) (l := l) ht (by omega)
        rw [ep, hb] at hi
        have e1 : sg (off1 t l m) (pcn s i + 1) = sg (off1 t l m) (pcn s i) + off1 t l m (pcn s i) := rfl
        rw [e1] at hi
        unfold J_X8_closeness_54
        rw [ll0, cmp_ge (by omega) (by omega) (by omega) (by omega), nI_1, lz_add, lz_neg, lz_add]
        unfold off1 at hi
        unfold iab at hi
        by_cases c : 0 ≤ (m : Int) * rw1 t l m (pcn s i) - ((2 * t + 1 : Nat) : Int) ^ m
        · refine onp c ?_
          rw [if_pos c] at hi
          exact hi
        · refine onn c ?_
          rw [if_neg c] at hi
          exact hi
      · refine twn (by omega) ?_
        rw [ep, show s / 2 ^ i % 2 = 0 by omega, Nat.add_zero] at hi
        unfold J_X8_closeness_54
        refine onp (by decide) ?_
        rw [Int64.add_zero, nI_1]
        exact hi
  exact ⟨n + 1, key n 0 (by omega)⟩
theorem s_distance {Q : Int64 → MI → MJ → Prop} {m t : Nat} {l : Nat → Int} {E : Int} (hE : 0 ≤ E) (hE2 : E ≤ 1152921504606846976) (h : FS I m t l) (hm : 1 ≤ m) (hQ : ∀ D : Int, (clo t l m < E → D = clo t l m) → (E ≤ clo t l m → E ≤ D) → 0 ≤ D → D ≤ 150908652224 → Q (lz D) I J) : wp_X0_distance Q I J (lz E) := by
  obtain ⟨hm8, ht, e4, e5, hl⟩ := id h
  refine s_allRows h ?_
  have hall := rw1_all t l m hm (fun p hp => (hl p hp).2) (by omega)
  have hin : ∀ d k, k + d = m → sg (off1 t l m) k ≤ clo t l m := by
    intro d
    induction d with
    | zero => intro k e; obtain rfl : k = m := by omega
              exact Int.le_refl _
    | succ d ih =>
      intro k e
      have h1 := ih (k + 1) (by omega)
      have h2 : sg (off1 t l m) (k + 1) = sg (off1 t l m) k + off1 t l m k := rfl
      have h3 := off1_bd (t := t) (m := m) (p := k) (l := l) ht hm8
      omega
  have key : ∀ (d k : Nat), k + d = m → L_X0_distance_14 Q (d + 1) I J (lz E) (lz (((2 * t + 1 : Nat) : Int) ^ m)) (lz (((2 * t + 1 : Nat) : Int) ^ m - sg (fun p => rw1 t l m p) k)) (lz (sg (off1 t l m) k)) (nI k) := by
    intro d
    induction d with
    | zero =>
      intro k e
      obtain rfl : k = m := by omega
      have hb := offs_bd (t := t) (m := k) (l := l) ht hm8 k hm8
      exact onp (by rw [e4]; exact nI_le (Nat.le_refl _) (by omega)) (hQ _ (fun _ => rfl) (fun q => q) hb.1 hb.2)
    | succ d ih =>
      intro k e
      have hb := offs_bd (t := t) (m := m) (l := l) ht hm8 k (by omega)
      refine onn (by rw [e4]; exact nI_ge (by omega) (by omega)) ?_
      rw [cmp_ge (by omega) (by omega) (by omega) (by omega)]
      by_cases c : E ≤ sg (off1 t l m) k
      · have := hin (d + 1) k e
        exact onp c (hQ _ (fun q => by omega) (fun _ => c) hb.1 hb.2)
      refine onn c ?_
      have hi := ih (k + 1) (by omega)
      have es1 : sg (fun p => rw1 t l m p) (k + 1) = sg (fun p => rw1 t l m p) k + rw1 t l m k := rfl
      have es2 : sg (off1 t l m) (k + 1) = sg (off1 t l m) k + off1 t l m k := rfl
      rw [es1, es2] at hi
      have hbd := mrw_bd (t := t) (m := m) (p := k) (l := l) ht hm8
      have go : J_X0_distance_52 Q (L_X0_distance_14 Q (d + 1)) I J (lz E) (lz (((2 * t + 1 : Nat) : Int) ^ m)) (lz (((2 * t + 1 : Nat) : Int) ^ m - sg (fun p => rw1 t l m p) k)) (lz (sg (off1 t l m) k)) (nI k) (lz (rw1 t l m k)) := by
        unfold J_X0_distance_52 wp_J9_abs_067f4
        rw [e4, iz_nI m, iz_l (by omega) (by omega), lz_mul, lz_sub, ll0, cmp_ge (by omega) (by omega) (by omega) (by omega), lz_sub, lz_neg]
        dsimp only
        rw [lz_add, lz_add, nI_1, show ((2 * t + 1 : Nat) : Int) ^ m - sg (fun p => rw1 t l m p) k - rw1 t l m k = ((2 * t + 1 : Nat) : Int) ^ m - (sg (fun p => rw1 t l m p) k + rw1 t l m k) by omega]
        unfold off1 at hi
        unfold iab at hi
        by_cases c2 : 0 ≤ (m : Int) * rw1 t l m k - ((2 * t + 1 : Nat) : Int) ^ m
        · rw [if_pos c2] at hi
          exact onp c2 hi
        · rw [if_neg c2] at hi
          exact onn c2 hi
      by_cases ek : k = m - 1
      · refine onp (by rw [e4, iz_nI, iz_nI, zl1, iz_sub]; exact iz_inj (by omega)) ?_
        rw [show ((2 * t + 1 : Nat) : Int) ^ m - sg (fun p => rw1 t l m p) k = rw1 t l m k by
          rw [← hall]
          have : sg (fun p => rw1 t l m p) m = sg (fun p => rw1 t l m p) k + rw1 t l m k := by rw [show m = k + 1 by omega]; rfl
          omega] at go ⊢
        exact go
      · refine onn (by rw [e4, iz_nI, iz_nI, zl1, iz_sub, iz_eq (by omega) (by omega) (by omega) (by omega)]; omega) ?_
        exact s_rowsFirst h (by omega) go
  have h0 := key m 0 (by omega)
  rw [show ((2 * t + 1 : Nat) : Int) ^ m - sg (fun p => rw1 t l m p) 0 = ((2 * t + 1 : Nat) : Int) ^ m from Int.sub_zero _] at h0
  exact ⟨m + 1, h0⟩
end MRC2
