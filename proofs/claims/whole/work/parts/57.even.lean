/-! the closest weights: one count through all of them -/
/-- the weight of place p in the count N -/
def dg (m N p : Nat) : Nat := N / 21 ^ (m - 1 - p) % 21
def okN (m N : Nat) : Bool := decide (dg m N 0 = 0) || decide (dg m N 1 = 0) || (decide (m = 3) && decide (dg m N 2 = 0))
def vlN (t : Nat) (Bp : Nat → Int) (m N : Nat) : Int := clo t (fun p => Bp p - dg m N p) m
def evb (t : Nat) (Bp : Nat → Int) (m : Nat) : Nat → Option Nat
  | 0 => none
  | N + 1 => if okN m N = true then (match evb t Bp m N with
      | none => some N
      | some b => if vlN t Bp m N < vlN t Bp m b then some N else some b) else evb t Bp m N
def oV (t : Nat) (Bp : Nat → Int) (m : Nat) (d : Int) (o : Option Nat) : Int := match o with
  | none => d
  | some b => vlN t Bp m b
theorem evb_skip {t : Nat} {Bp : Nat → Int} {m N : Nat} : ∀ d, (∀ i, i < d → okN m (N + i) = false) → evb t Bp m (N + d) = evb t Bp m N := by
  intro d
  induction d with
  | zero => intro _; rfl
  | succ d ih =>
    intro h
    show (if okN m (N + d) = true then _ else evb t Bp m (N + d)) = _
    rw [h d (by omega), if_neg (by decide)]
    exact ih (fun i hi => h i (by omega))
theorem evb_ok {t : Nat} {Bp : Nat → Int} {m : Nat} : ∀ N b, evb t Bp m N = some b → b < N := by
  intro N
  induction N with
  | zero => intro b h; exact absurd h (by simp [evb])
  | succ N ih =>
    intro b h
    change (if okN m N = true then (match evb t Bp m N with
      | none => some N
      | some b => if vlN t Bp m N < vlN t Bp m b then some N else some b) else evb t Bp m N) = some b at h
    by_cases c : okN m N = true
    · rw [if_pos c] at h
      cases hb : evb t Bp m N with
      | none => rw [hb] at h; simp only [Option.some.injEq] at h; omega
      | some b' =>
        rw [hb] at h
        have := ih b' hb
        dsimp only at h
        by_cases c2 : vlN t Bp m N < vlN t Bp m b'
        · rw [if_pos c2] at h; simp only [Option.some.injEq] at h; omega
        · rw [if_neg c2] at h; simp only [Option.some.injEq] at h; omega
    · rw [if_neg c] at h
      have := ih b h
      omega
theorem evb_y {t : Nat} {Bp : Nat → Int} {m N : Nat} {d : Int} (hok : okN m N = true) (h : evb t Bp m N = none ∨ vlN t Bp m N < oV t Bp m d (evb t Bp m N)) : evb t Bp m (N + 1) = some N := by
  show (if okN m N = true then (match evb t Bp m N with
      | none => some N
      | some b => if vlN t Bp m N < vlN t Bp m b then some N else some b) else evb t Bp m N) = some N
  rw [if_pos hok]
  cases hb : evb t Bp m N with
  | none => rfl
  | some b =>
    rw [hb] at h
    rcases h with q | q
    · exact absurd q (by simp)
    · exact if_pos q
theorem evb_n {t : Nat} {Bp : Nat → Int} {m N : Nat} {d : Int} (hok : okN m N = true) (h : ¬ evb t Bp m N = none) (h2 : ¬ vlN t Bp m N < oV t Bp m d (evb t Bp m N)) : evb t Bp m (N + 1) = evb t Bp m N := by
  show (if okN m N = true then (match evb t Bp m N with
      | none => some N
      | some b => if vlN t Bp m N < vlN t Bp m b then some N else some b) else evb t Bp m N) = evb t Bp m N
  rw [if_pos hok]
  cases hb : evb t Bp m N with
  | none => exact absurd hb h
  | some b => rw [hb] at h2; exact if_neg h2
theorem vl_bd {t m N : Nat} {Bp : Nat → Int} (ht : t ≤ 5) (hm : m ≤ 8) : 0 ≤ vlN t Bp m N ∧ vlN t Bp m N ≤ 150908652224 := offs_bd ht hm m hm
theorem dg_lt (m N p : Nat) : dg m N p < 21 := Nat.mod_lt _ (by decide)
theorem dg20 {N : Nat} : dg 2 N 0 = N / 21 % 21 := rfl
theorem dg21 {N : Nat} : dg 2 N 1 = N % 21 := by show N / 1 % 21 = _; rw [Nat.div_one]
theorem dg30 {N : Nat} : dg 3 N 0 = N / 441 % 21 := rfl
theorem dg31 {N : Nat} : dg 3 N 1 = N / 21 % 21 := rfl
theorem dg32 {N : Nat} : dg 3 N 2 = N % 21 := by show N / 1 % 21 = _; rw [Nat.div_one]
theorem ok2 {N : Nat} : okN 2 N = true ↔ N / 21 % 21 = 0 ∨ N % 21 = 0 := by
  unfold okN
  rw [dg20, dg21]
  simp
theorem ok3 {N : Nat} : okN 3 N = true ↔ N / 441 % 21 = 0 ∨ N / 21 % 21 = 0 ∨ N % 21 = 0 := by
  unfold okN
  rw [dg30, dg31, dg32]
  simp [or_assoc]
theorem ok_iff {m N : Nat} (hm : m = 2 ∨ m = 3) : okN m N = true ↔ ∃ p, p < m ∧ dg m N p = 0 := by
  rcases hm with rfl | rfl
  · rw [ok2]
    constructor
    · rintro (h | h)
      · exact ⟨0, by decide, h⟩
      · exact ⟨1, by decide, by rw [dg21]; exact h⟩
    · rintro ⟨p, hp, h⟩
      rcases (show p = 0 ∨ p = 1 by omega) with rfl | rfl
      · exact Or.inl h
      · rw [dg21] at h; exact Or.inr h
  · rw [ok3]
    constructor
    · rintro (h | h | h)
      · exact ⟨0, by decide, h⟩
      · exact ⟨1, by decide, h⟩
      · exact ⟨2, by decide, by rw [dg32]; exact h⟩
    · rintro ⟨p, hp, h⟩
      rcases (show p = 0 ∨ p = 1 ∨ p = 2 by omega) with rfl | rfl | rfl
      · exact Or.inl h
      · exact Or.inr (Or.inl h)
      · rw [dg32] at h; exact Or.inr (Or.inr h)
section EVEN
variable {I : MI} {J : MJ}
/-- the field while the closest weights are sought: all counts below N are tried -/
def EV (I : MI) (J : MJ) (t m : Nat) (Bp : Nat → Int) (N : Nat) (I' : MI) (J' : MJ) : Prop :=
  I' 0 0 4 = nI m ∧ I' 0 0 5 = nI t ∧ (∀ p, p < m → I' 9 0 p = iz (Bp p)) ∧ J' 0 0 3 = lz (oV t Bp m 1152921504606846976 (evb t Bp m N)) ∧ (∀ b, evb t Bp m N = some b → ∀ p, p < m → I' 11 0 p = nI (dg m b p)) ∧ (∀ t, t ≠ 10 → t ≠ 11 → I' t = I t) ∧ ∀ t, t ≠ 0 → J' t = J t
theorem s_try {Q : MI → MJ → Prop} {t m N a b c : Nat} {Bp : Nat → Int} {I' : MI} {J' : MJ} (ht : t ≤ 5) (hm : m = 2 ∨ m = 3) (hB : ∀ p, p < m → -1000 ≤ Bp p ∧ Bp p ≤ 1000) (h : EV I J t m Bp N I' J') (hok : okN m N = true) (ha : dg m N 0 = a) (hb : dg m N 1 = b) (hc : m = 3 → dg m N 2 = c) (hQ : ∀ I2 J2, EV I J t m Bp (N + 1) I2 J2 → Q I2 J2) : wp_X0_tryWeights Q I' J' (nI a) (nI b) (nI c) := by
  obtain ⟨h1, h2, h3, h4, h5, h6, h7⟩ := id h
  intro I1 e1
  have o1 : ∀ t, t ≠ 10 → I1 t = I' t := fun t ht => by rw [e1, up3_t ht, up3_t ht, up3_t ht]
  have e10 : ∀ p, p < m → I1 10 0 p = iz (Bp p - dg m N p) := fun p hp => by
    rw [← iz_sub, ← iz_nI, ← h3 p hp]
    rcases (show p = 0 ∨ p = 1 ∨ (p = 2 ∧ m = 3) by omega) with rfl | rfl | ⟨rfl, hm3⟩
    · rw [e1, up3_n (by decide), up3_n (by decide), up3_y, ha]
    · rw [e1, up3_n (by decide), up3_y, up3_t (by decide), hb]
    · rw [e1, up3_y, up3_t (by decide), up3_t (by decide), hc hm3]
  have hF : FS I1 m t (fun p => Bp p - dg m N p) := ⟨by omega, ht, by rw [o1 0 (by decide)]; exact h1, by rw [o1 0 (by decide)]; exact h2, fun p hp => ⟨e10 p hp, by have := hB p hp; have := dg_lt m N p; dsimp only; omega⟩⟩
  have hv := vl_bd (t := t) (m := m) (N := N) (Bp := Bp) ht (by omega)
  have hE : 0 ≤ oV t Bp m 1152921504606846976 (evb t Bp m N) ∧ oV t Bp m 1152921504606846976 (evb t Bp m N) ≤ 1152921504606846976 := by
    cases hb : evb t Bp m N with
    | none => show (0 : Int) ≤ 1152921504606846976 ∧ (1152921504606846976 : Int) ≤ 1152921504606846976; decide
    | some b =>
      have := vl_bd (t := t) (m := m) (N := b) (Bp := Bp) ht (by omega)
      show 0 ≤ vlN t Bp m b ∧ vlN t Bp m b ≤ _
      omega
  rw [h4]
  refine s_distance hE.1 hE.2 hF (by omega) (fun D d1 d2 d3 d4 => ?_)
  rw [h4, cmp_ge (by omega) (by omega) (by omega) (by omega)]
  by_cases c1 : vlN t Bp m N < oV t Bp m 1152921504606846976 (evb t Bp m N)
  · have hD : D = vlN t Bp m N := d1 c1
    refine onn (by omega) (hQ _ _ ?_)
    have eb := evb_y (t := t) (Bp := Bp) hok (Or.inr c1)
    unfold EV
    rw [eb]
    have o2 : ∀ t, t ≠ 10 → t ≠ 11 → up3 (up3 (up3 I1 11 0 0 (nI a)) 11 0 1 (nI b)) 11 0 2 (nI c) t = I' t := fun t r1 r2 => by rw [up3_t r2, up3_t r2, up3_t r2, o1 t r1]
    refine ⟨by rw [o2 0 (by decide) (by decide)]; exact h1, by rw [o2 0 (by decide) (by decide)]; exact h2, fun p hp => by rw [o2 9 (by decide) (by decide)]; exact h3 p hp, by rw [up3L_y, hD]; rfl, fun b' hb' p hp => ?_, fun t r1 r2 => by rw [o2 t r1 r2]; exact h6 t r1 r2, fun t r1 => by rw [up3L_t r1]; exact h7 t r1⟩
    simp only [Option.some.injEq] at hb'
    subst hb'
    rcases (show p = 0 ∨ p = 1 ∨ (p = 2 ∧ m = 3) by omega) with rfl | rfl | ⟨rfl, hm3⟩
    · rw [up3_n (by decide), up3_n (by decide), up3_y, ha]
    · rw [up3_n (by decide), up3_y, hb]
    · rw [up3_y, hc hm3]
  · have hD := d2 (by show _ ≤ vlN t Bp m N; omega)
    refine onp hD (hQ _ _ ?_)
    have hne : ¬ evb t Bp m N = none := fun q => c1 (by rw [q]; show vlN t Bp m N < 1152921504606846976; omega)
    have eb := evb_n (t := t) (Bp := Bp) hok hne c1
    unfold EV
    rw [eb]
    exact ⟨by rw [o1 0 (by decide)]; exact h1, by rw [o1 0 (by decide)]; exact h2, fun p hp => by rw [o1 9 (by decide)]; exact h3 p hp, h4, fun b hb p hp => by rw [o1 11 (by decide)]; exact h5 b hb p hp, fun t r1 r2 => by rw [o1 t r1]; exact h6 t r1 r2, h7⟩
theorem EV.skip {t m N : Nat} {Bp : Nat → Int} {I' : MI} {J' : MJ} (h : EV I J t m Bp N I' J') (d : Nat) (hd : ∀ i, i < d → okN m (N + i) = false) : EV I J t m Bp (N + d) I' J' := by
  unfold EV at h ⊢
  rw [evb_skip d hd]
  exact h
def cnt2 (m a b : Nat) : Nat := if m = 2 then 21 * a + b else 441 * a + 21 * b
/-- one pair of weights: all thirds -/
theorem s_thirds {Q : MI → MJ → Prop} {C9 : MI → MJ → Int32 → Prop} {C17 : MI → MJ → Int32 → Int32 → Prop} {t m a b : Nat} {Bp : Nat → Int} {I' : MI} {J' : MJ} {z : Int32} (ht : t ≤ 5) (hm : m = 2 ∨ m = 3) (hB : ∀ p, p < m → -1000 ≤ Bp p ∧ Bp p ≤ 1000) (ha : a < 21) (hb : b < 21) (hz : z = 1 ∧ (a = 0 ∨ b = 0) ∨ z = 0 ∧ a ≠ 0 ∧ b ≠ 0) (h : EV I J t m Bp (cnt2 m a b) I' J') (hC : ∀ I2 J2, EV I J t m Bp (cnt2 m a (b + 1)) I2 J2 → C17 I2 J2 (nI a) (nI b + 1)) : J_X0_seekEven_37 Q C9 C17 I' J' (nI a) (nI b) z := by
  unfold J_X0_seekEven_37 wp_X0_thirdWeights
  rw [h.1]
  rcases hm with rfl | rfl
  · have hN : ∀ a b, cnt2 2 a b = 21 * a + b := fun _ _ => if_pos rfl
    rw [hN] at h hC
    refine onp (by decide) ?_
    rcases hz with ⟨rfl, hz⟩ | ⟨rfl, hz1, hz2⟩
    · refine onn (by decide) ⟨2, onn (by decide) ?_⟩
      have hok : okN 2 (21 * a + b) = true := by rw [ok2]; omega
      refine s_try (c := 0) ht (Or.inl rfl) hB h hok (by rw [dg20]; omega) (by rw [dg21]; omega) (fun q => absurd q (by decide)) (fun I2 J2 h2 => ?_)
      exact onp (by decide) (hC I2 J2 h2)
    · refine onp rfl ⟨1, onp (by decide) (hC I' J' ?_)⟩
      exact h.skip 1 (fun i hi => by
        obtain rfl : i = 0 := by omega
        rw [Bool.eq_false_iff]
        intro q
        rw [ok2] at q
        omega)
  · have hN : ∀ a b, cnt2 3 a b = 441 * a + 21 * b := fun _ _ => if_neg (by decide)
    rw [hN] at h hC
    refine onn (by decide) ?_
    rcases hz with ⟨rfl, hz⟩ | ⟨rfl, hz1, hz2⟩
    · refine onn (by decide) ?_
      have key : ∀ (d c : Nat) (I2 : MI) (J2 : MJ), c + d = 21 → EV I J t 3 Bp (441 * a + 21 * b + c) I2 J2 → L_X0_seekEven_44 Q C9 C17 (d + 1) I2 J2 (nI a) (nI b) 21 (nI c) := by
        intro d
        induction d with
        | zero =>
          intro c I2 J2 e h2
          obtain rfl : c = 21 := by omega
          exact onp (by decide) (hC I2 J2 h2)
        | succ d ih =>
          intro c I2 J2 e h2
          refine onn (fun q => absurd ((nI_leI (a := 21) (by omega) (by omega)).mp q) (by omega)) ?_
          have hok : okN 3 (441 * a + 21 * b + c) = true := by rw [ok3]; omega
          refine s_try (c := c) ht (Or.inr rfl) hB h2 hok (by rw [dg30]; omega) (by rw [dg31]; omega) (fun _ => by rw [dg32]; omega) (fun I3 J3 h3 => ?_)
          rw [nI_1]
          exact ih (c + 1) I3 J3 (by omega) h3
      exact ⟨22, key 21 0 I' J' (by omega) h⟩
    · refine onp rfl ⟨2, onn (by decide) ?_⟩
      have hok : okN 3 (441 * a + 21 * b) = true := by rw [ok3]; omega
      refine s_try (c := 0) ht (Or.inr rfl) hB h hok (by rw [dg30]; omega) (by rw [dg31]; omega) (fun _ => by rw [dg32]; omega) (fun I3 J3 h3 => ?_)
      refine onp (by decide) (hC I3 J3 ?_)
      have := h3.skip 20 (fun i hi => by
        rw [Bool.eq_false_iff]
        intro q
        rw [ok3] at q
        omega)
      rw [show 441 * a + 21 * (b + 1) = 441 * a + 21 * b + 1 + 20 by omega]
      exact this
theorem s_seekEven {Q : MI → MJ → Prop} {t m : Nat} {Bp : Nat → Int} (ht : t ≤ 5) (hm : m = 2 ∨ m = 3) (hB : ∀ p, p < m → -1000 ≤ Bp p ∧ Bp p ≤ 1000) (e4 : I 0 0 4 = nI m) (e5 : I 0 0 5 = nI t) (e9 : ∀ p, p < m → I 9 0 p = iz (Bp p)) (hQ : ∀ I2 J2, EV I J t m Bp (cnt2 m 21 0) I2 J2 → Q I2 J2) : wp_X0_seekEven Q I J := by
  have hn : ∀ a, cnt2 m a 21 = cnt2 m (a + 1) 0 := fun a => by unfold cnt2; split <;> omega
  have key : ∀ (d a : Nat) (I2 : MI) (J2 : MJ), a + d = 21 → EV I J t m Bp (cnt2 m a 0) I2 J2 → L_X0_seekEven_9 Q (d + 1) I2 J2 (nI a) := by
    intro d
    induction d with
    | zero =>
      intro a I2 J2 e h2
      obtain rfl : a = 21 := by omega
      exact onp (by decide) (hQ I2 J2 h2)
    | succ d ih =>
      intro a I2 J2 e h2
      refine onn (fun q => absurd ((nI_ltI (a := 20) (by omega) (by omega)).mp q) (by omega)) ?_
      have key2 : ∀ (d2 b : Nat) (I3 : MI) (J3 : MJ), b + d2 = 21 → EV I J t m Bp (cnt2 m a b) I3 J3 → L_X0_seekEven_17 Q (L_X0_seekEven_9 Q (d + 1)) (d2 + 1) I3 J3 (nI a) (nI b) := by
        intro d2
        induction d2 with
        | zero =>
          intro b I3 J3 e3 h3
          obtain rfl : b = 21 := by omega
          refine onp (by decide) ?_
          rw [nI_1]
          rw [hn] at h3
          exact ih (a + 1) I3 J3 (by omega) h3
        | succ d2 ih2 =>
          intro b I3 J3 e3 h3
          refine onn (fun q => absurd ((nI_ltI (a := 20) (by omega) (by omega)).mp q) (by omega)) ?_
          have hgo : ∀ I4 J4, EV I J t m Bp (cnt2 m a (b + 1)) I4 J4 → L_X0_seekEven_17 Q (L_X0_seekEven_9 Q (d + 1)) (d2 + 1) I4 J4 (nI a) (nI b + 1) := fun I4 J4 h4 => by
            rw [nI_1]; exact ih2 (b + 1) I4 J4 (by omega) h4
          have z0 : ∀ j : Nat, j < 21 → (nI j = 0 ↔ j = 0) := fun j hj => by rw [show (0 : Int32) = nI 0 from rfl, nI_eq (by omega) (by omega)]
          by_cases ca : a = 0
          · exact onp ((z0 a (by omega)).mpr ca) (s_thirds ht hm hB (by omega) (by omega) (Or.inl ⟨rfl, Or.inl ca⟩) h3 hgo)
          refine onn (fun q => ca ((z0 a (by omega)).mp q)) ?_
          by_cases cb : b = 0
          · exact onp ((z0 b (by omega)).mpr cb) (s_thirds ht hm hB (by omega) (by omega) (Or.inl ⟨rfl, Or.inr cb⟩) h3 hgo)
          · exact onn (fun q => cb ((z0 b (by omega)).mp q)) (s_thirds ht hm hB (by omega) (by omega) (Or.inr ⟨rfl, ca, cb⟩) h3 hgo)
      exact ⟨22, key2 21 0 I2 J2 (by omega) h2⟩
  refine ⟨22, key 21 0 I _ (by omega) ?_⟩
  have e0 : cnt2 m 0 0 = 0 := by unfold cnt2; split <;> rfl
  rw [e0]
  exact ⟨e4, e5, e9, up3L_y, fun b hb => absurd hb (by simp [evb]), fun _ _ _ => rfl, fun t r => up3L_t r⟩
end EVEN
