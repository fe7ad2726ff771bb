section GOODM
variable {J : MJ}
theorem frc_eq {α : Type} (n : Nat) (k : Nat → α) : frc n k = k n := by cases n <;> rfl
theorem incK_ida (H : List Nat) : ∀ (α : Type) (e w : Nat) (k : List Nat → α), incK H e w k = k (incK H e w id) := by
  induction H with
  | nil => intro α e w k; rfl
  | cons h t ih =>
    intro α e w k
    cases e with
    | zero => show frc (h + w) (fun x => k (x :: t)) = k (frc (h + w) (fun x => id (x :: t))); rw [frc_eq, frc_eq]; rfl
    | succ e =>
      cases t with
      | nil => show frc (h + w) (fun x => k [x]) = k (frc (h + w) (fun x => id [x])); rw [frc_eq, frc_eq]; rfl
      | cons b t =>
        have e1 : incK (h :: b :: t) (e + 1) w k = incK (b :: t) e w (fun t' => k (h :: t')) := rfl
        have e2 : incK (h :: b :: t) (e + 1) w id = incK (b :: t) e w (fun t' => id (h :: t')) := rfl
        rw [e1, e2, ih α e w (fun t' => k (h :: t')), ih _ e w (fun t' => id (h :: t'))]
        rfl
theorem incK_id {α : Type} (H : List Nat) (e w : Nat) (k : List Nat → α) : incK H e w k = k (incK H e w id) := incK_ida H α e w k
theorem inc_z (h : Nat) (t : List Nat) (w : Nat) : incK (h :: t) 0 w id = (h + w) :: t := by
  show frc (h + w) (fun x => id (x :: t)) = _
  rw [frc_eq]; rfl
theorem inc_1 (h e w : Nat) : incK [h] (e + 1) w id = [h + w] := by
  show frc (h + w) (fun x => id [x]) = _
  rw [frc_eq]; rfl
theorem inc_s (h b : Nat) (t : List Nat) (e w : Nat) : incK (h :: b :: t) (e + 1) w id = h :: incK (b :: t) e w id := by
  have e2 : incK (h :: b :: t) (e + 1) w id = incK (b :: t) e w (fun t' => id (h :: t')) := rfl
  rw [e2, incK_id]
  rfl
theorem inc_len (H : List Nat) : ∀ (e w : Nat), (incK H e w id).length = H.length := by
  induction H with
  | nil => intro e w; rfl
  | cons h t ih =>
    intro e w
    cases e with
    | zero => rw [inc_z]; rfl
    | succ e =>
      cases t with
      | nil => rw [inc_1]; rfl
      | cons b t => rw [inc_s, List.length_cons, ih e w]; rfl
theorem inc_sum (H : List Nat) : ∀ (d e w : Nat), d < H.length → sumL ((incK H e w id).drop d) = sumL (H.drop d) + (if d ≤ e then w else 0) := by
  induction H with
  | nil => intro d e w h; exact absurd h (Nat.not_lt_zero _)
  | cons h t ih =>
    intro d e w hd
    cases e with
    | zero =>
      rw [inc_z]
      cases d with
      | zero => rw [if_pos (Nat.le_refl _)]; show h + w + sumL t = h + sumL t + w; omega
      | succ d => rw [if_neg (by omega)]; rfl
    | succ e =>
      cases t with
      | nil =>
        rw [inc_1]
        obtain rfl : d = 0 := by rw [List.length_cons, List.length_nil] at hd; omega
        rw [if_pos (Nat.zero_le _)]
        show h + w + 0 = h + 0 + w
        omega
      | cons b t =>
        rw [inc_s]
        cases d with
        | zero =>
          have h1 := ih 0 e w (by rw [List.length_cons]; omega)
          rw [List.drop_zero, List.drop_zero, if_pos (Nat.zero_le _)] at h1
          rw [if_pos (Nat.zero_le _)]
          show h + sumL (incK (b :: t) e w id) = h + sumL (b :: t) + w
          omega
        | succ d =>
          have h1 := ih d e w (by rw [List.length_cons] at hd; omega)
          rw [List.drop_succ_cons, List.drop_succ_cons, h1]
          by_cases c : d ≤ e
          · rw [if_pos c, if_pos (by omega)]
          · rw [if_neg c, if_neg (by omega)]
theorem wys_2 (a b : Nat) (t : List Nat) : wys (a :: b :: t) = if a = b then ((wys (b :: t)).1 * ((b :: t).length + 1) / ((wys (b :: t)).2 + 1), (wys (b :: t)).2 + 1) else ((wys (b :: t)).1 * ((b :: t).length + 1), 1) := by
  have e : wys (a :: b :: t) = if Nat.beq a b = true then ((wys (b :: t)).1 * ((b :: t).length + 1) / ((wys (b :: t)).2 + 1), (wys (b :: t)).2 + 1) else ((wys (b :: t)).1 * ((b :: t).length + 1), 1) := rfl
  rw [e]
  simp only [Nat.beq_eq]
theorem wys_bd (l : List Nat) : l.length ≤ 6 → (wys l).1 ≤ 6 ^ l.length ∧ (wys l).2 ≤ l.length := by
  induction l with
  | nil => intro _; exact ⟨by decide, by decide⟩
  | cons a r ih =>
    intro h
    cases r with
    | nil => exact ⟨by show 1 ≤ 6 ^ 1; decide, Nat.le_refl _⟩
    | cons b t =>
      have h1 := ih (by rw [List.length_cons] at h; omega)
      rw [wys_2]
      generalize hr : (b :: t) = r at *
      have hl : (a :: r).length = r.length + 1 := rfl
      rw [hl] at h ⊢
      have hm : (wys r).1 * (r.length + 1) ≤ 6 ^ (r.length + 1) := by
        rw [Nat.pow_succ]
        exact Nat.mul_le_mul h1.1 h
      by_cases c : a = b
      · rw [if_pos c]
        exact ⟨Nat.le_trans (Nat.div_le_self _ _) hm, Nat.succ_le_succ h1.2⟩
      · rw [if_neg c]
        exact ⟨hm, by show 1 ≤ r.length + 1; omega⟩
theorem nxt_split (top : Nat) (l : List Nat) : (∀ x ∈ l, x ≤ top) → (l = List.replicate l.length top ∧ nxt top l = []) ∨ ∃ (i a : Nat) (r : List Nat), l = List.replicate i top ++ a :: r ∧ a < top ∧ nxt top l = List.replicate (i + 1) (a + 1) ++ r := by
  induction l with
  | nil => intro _; exact Or.inl ⟨rfl, rfl⟩
  | cons b t ih =>
    intro h
    have ht := ih (fun x hx => h x (List.mem_cons_of_mem _ hx))
    have e : nxt top (b :: t) = if b = top then (match nxt top t with | [] => [] | c :: r' => c :: c :: r') else (b + 1) :: t := by
      have e0 : nxt top (b :: t) = if Nat.beq b top = true then (match nxt top t with | [] => [] | c :: r' => c :: c :: r') else (b + 1) :: t := rfl
      rw [e0]
      simp only [Nat.beq_eq]
    by_cases c : b = top
    · rw [if_pos c] at e
      rcases ht with ⟨h1, h2⟩ | ⟨i, a, r, h1, h2, h3⟩
      · refine Or.inl ⟨?_, by rw [e, h2]⟩
        rw [List.length_cons, List.replicate_succ, c, ← h1]
      · refine Or.inr ⟨i + 1, a, r, ?_, h2, ?_⟩
        · rw [List.replicate_succ, List.cons_append, ← h1, c]
        · rw [e, h3, List.replicate_succ, List.cons_append]
          rfl
    · rw [if_neg c] at e
      exact Or.inr ⟨0, b, t, rfl, by have := h b (List.mem_cons_self ..); omega, e⟩
/-- the model's row of lucks, the last first -/
def Rp (I : MI) (l : List Nat) : Prop := ∀ j, j < l.length → I 35 0 (l.length - 1 - j) = nI (l.getD j 0)
theorem gD_ap {i j : Nat} {v a : Nat} {r : List Nat} : (List.replicate i v ++ a :: r).getD j 0 = if j < i then v else if j = i then a else r.getD (j - i - 1) 0 := by
  rw [List.getD_eq_getElem?_getD]
  by_cases c : j < i
  · rw [if_pos c, List.getElem?_append_left (by rw [List.length_replicate]; exact c), List.getElem?_replicate, if_pos c]
    rfl
  · rw [if_neg c, List.getElem?_append_right (by rw [List.length_replicate]; omega), List.length_replicate]
    by_cases c2 : j = i
    · rw [if_pos c2, c2, Nat.sub_self]
      rfl
    · rw [if_neg c2, show j - i = (j - i - 1) + 1 by omega, List.getElem?_cons_succ, ← List.getD_eq_getElem?_getD, Nat.add_sub_cancel]
theorem gD_rep {i j v : Nat} {r : List Nat} : (List.replicate i v ++ r).getD j 0 = if j < i then v else r.getD (j - i) 0 := by
  rw [List.getD_eq_getElem?_getD]
  by_cases c : j < i
  · rw [if_pos c, List.getElem?_append_left (by rw [List.length_replicate]; exact c), List.getElem?_replicate, if_pos c]
    rfl
  · rw [if_neg c, List.getElem?_append_right (by rw [List.length_replicate]; omega), List.length_replicate, ← List.getD_eq_getElem?_getD]
theorem s_next {Q : Int32 → MI → MJ → Prop} {C102 : MI → MJ → Int32 → Int32 → Int32 → Int32 → Int32 → Int32 → Int32 → Prop} {I : MI} {n top : Nat} {l : List Nat} {x2 x3 x5 x6 : Int32} (hn1 : 1 ≤ n) (hn : n ≤ 6) (ht : top ≤ 10) (hl : l.length = n) (hb : ∀ x ∈ l, x ≤ top) (hR : Rp I l)
    (h0 : nxt top l = [] → C102 I J (nI n) x2 x3 (nI (top + 1)) x5 x6 0) (h1 : ∀ l' I', nxt top l = l' → l' ≠ [] → l'.length = n → (∀ x ∈ l', x ≤ top) → Rp I' l' → (∀ t, t ≠ 35 → I' t = I t) → C102 I' J (nI n) x2 x3 (nI (top + 1)) x5 x6 1) : ∃ m : Nat, L_X8_good_204 Q C102 m I J (nI n) x2 x3 (nI (top + 1)) x5 x6 (nI n - 1) := by
  have e1 : nI (top + 1) - 1 = nI top := nI_pred top
  rcases nxt_split top l hb with ⟨hA, hN⟩ | ⟨i, a, r, hA, ha, hN⟩
  · have hx : ∀ k, k < n → I 35 0 k = nI top := by
      intro k hk
      have := hR (n - 1 - k) (by omega)
      rw [hl, show n - 1 - (n - 1 - k) = k by omega, hA, hl, List.getD_eq_getElem?_getD, List.getElem?_replicate, if_pos (by omega)] at this
      exact this
    have key : ∀ (k j : Nat), j + k = n → L_X8_good_204 Q C102 (k + 1) I J (nI n) x2 x3 (nI (top + 1)) x5 x6 (iz ((n : Int) - 1 - j)) := by
      intro k
      induction k with
      | zero =>
        intro j e
        obtain rfl : j = n := by omega
        have em : iz ((j : Int) - 1 - j) = -1 := by rw [show (j : Int) - 1 - j = -1 by omega]; rfl
        rw [em]
        refine onp (by decide) (onp (by decide) (onp rfl ⟨1, ?_⟩))
        exact onn (fun q => absurd (Int32.le_iff_toInt_le.mp q) (by rw [nI_toInt (by omega)]; show ¬ (j : Int) ≤ -1; omega)) (onp rfl (h0 hN))
      | succ k ih =>
        intro j e
        have em : iz ((n : Int) - 1 - j) = nI (n - 1 - j) := by rw [iz_nI]; exact iz_inj (by omega)
        have ei := ih (j + 1) (by omega)
        have em2 : nI (n - 1 - j) + (-1) = iz ((n : Int) - 1 - ((j + 1 : Nat) : Int)) := by
          rw [iz_nI, show (-1 : Int32) = iz (-1) from rfl, iz_add]; exact iz_inj (by omega)
        rw [em]
        refine onn (nI_pos (by omega)) ⟨vp_in_nI (by omega) (by decide), onp ?_ ?_⟩
        · rw [nI_clamp (by omega), e1]; exact hx _ (by omega)
        · rw [em2]; exact ei
    have h := key n 0 (by omega)
    rw [show iz ((n : Int) - 1 - ((0 : Nat) : Int)) = nI n - 1 by rw [iz_nI, zl1, iz_sub]; exact iz_inj (by omega)] at h
    exact ⟨n + 1, h⟩
  · have hln : n = i + 1 + r.length := by rw [← hl, hA, List.length_append, List.length_replicate, List.length_cons]; omega
    have hat : ∀ j, j < n → I 35 0 (n - 1 - j) = nI (if j < i then top else if j = i then a else r.getD (j - i - 1) 0) := by
      intro j hj
      have h2 := hR j (by omega)
      rw [hl, hA, gD_ap] at h2
      exact h2
    have hlen' : (List.replicate (i + 1) (a + 1) ++ r).length = n := by rw [List.length_append, List.length_replicate]; omega
    have fin : ∀ (k p : Nat) (I' : MI), p + k = n → r.length ≤ p → (∀ q, q < r.length → I' 35 0 q = I 35 0 q) → (∀ q, r.length ≤ q → q < p → I' 35 0 q = nI (a + 1)) → (∀ t, t ≠ 35 → I' t = I t) → L_X8_good_265 Q C102 (k + 1) I' J (nI n) x2 x3 (nI (top + 1)) x5 x6 1 (nI (a + 1)) (nI p) := by
      intro k
      induction k with
      | zero =>
        intro p I' e g0 g1 g2 g3
        obtain rfl : p = n := by omega
        refine onp (nI_le (Nat.le_refl _) (by omega)) (h1 _ I' hN ?_ hlen' ?_ ?_ g3)
        · intro q; rw [q] at hlen'; rw [List.length_nil] at hlen'; omega
        · intro x hx
          rcases List.mem_append.mp hx with h2 | h2
          · rw [(List.mem_replicate.mp h2).2]; omega
          · exact hb x (by rw [hA]; exact List.mem_append_right _ (List.mem_cons_of_mem _ h2))
        · intro j hj
          rw [hlen'] at hj ⊢
          rw [gD_rep]
          by_cases c : j < i + 1
          · rw [if_pos c, g2 _ (by omega) (by omega)]
          · rw [if_neg c, g1 _ (by omega), hat j hj, if_neg (by omega), if_neg (by omega), show j - i - 1 = j - (i + 1) by omega]
      | succ k ih =>
        intro p I' e g0 g1 g2 g3
        refine onn (nI_ge (by omega) (by omega)) (onn (by decide) ⟨vp_in_nI (by omega) (by decide), ?_⟩)
        rw [nI_clamp (by omega), nI_1]
        refine ih (p + 1) _ (by omega) (by omega) (fun q hq => ?_) (fun q h2 h3 => ?_) (fun t ht' => by rw [up3_t ht']; exact g3 t ht')
        · rw [up3_n (by omega)]; exact g1 q hq
        · by_cases c : q = p
          · rw [c, up3_y]
          · rw [up3_n (by omega)]; exact g2 q h2 (by omega)
    have key : ∀ (k j : Nat), j + k = i → L_X8_good_204 Q C102 (k + 1) I J (nI n) x2 x3 (nI (top + 1)) x5 x6 (nI (n - 1 - j)) := by
      intro k
      induction k with
      | zero =>
        intro j e
        obtain rfl : j = i := by omega
        have ea : I 35 0 (n - 1 - j) = nI a := by rw [hat j (by omega), if_neg (by omega), if_pos rfl]
        have hv : vp_in (nI (n - 1 - j)) 12 := vp_in_nI (by omega) (by decide)
        refine onn (nI_pos (by omega)) ⟨hv, onn ?_ (onn (nI_pos (by omega)) (onn (by decide) ⟨hv, fun v hw => ?_⟩))⟩
        · rw [nI_clamp (by omega), e1, ea]
          intro q
          have := (nI_eq (by omega) (by omega)).mp q
          omega
        · rw [nI_clamp (by omega), ea, nI_1] at hw
          rw [hw]
          exact ⟨n - (n - 1 - j) + 1, fin (n - (n - 1 - j)) (n - 1 - j) I (by omega) (by omega) (fun _ _ => rfl) (fun q g1 g2 => absurd g2 (by omega)) (fun _ _ => rfl)⟩
      | succ k ih =>
        intro j e
        have ei := ih (j + 1) (by omega)
        refine onn (nI_pos (by omega)) ⟨vp_in_nI (by omega) (by decide), onp ?_ ?_⟩
        · rw [nI_clamp (by omega), e1, hat j (by omega), if_pos (by omega)]
        · rw [show n - 1 - j = (n - 1 - (j + 1)) + 1 by omega, pk_m1]
          exact ei
    have h := key i 0 (by omega)
    rw [show nI (n - 1 - 0) = nI n - 1 from (pk_sub (a := n) (b := 1) hn1).symm] at h
    exact ⟨i + 1, h⟩
theorem s_wys {Q : Int32 → MI → MJ → Prop} {C102 : MI → MJ → Int32 → Int32 → Int32 → Int32 → Int32 → Int32 → Int32 → Prop} {I : MI} {n : Nat} {l : List Nat} {x2 x3 x4 x5 x6 : Int32} (hn1 : 1 ≤ n) (hn : n ≤ 6) (hl : l.length = n) (hb : ∀ x ∈ l, x ≤ 10) (hR : Rp I l)
    (hC : ∃ m : Nat, L_X8_good_204 Q C102 m I J (nI n) x2 x3 x4 x5 (x6 + nI (wys l).1) (nI n - 1)) : ∃ m : Nat, L_X8_good_139 Q C102 m I J (nI n) x2 x3 x4 x5 x6 1 1 1 := by
  have hat : ∀ j (hj : j < l.length), I 35 0 (n - 1 - j) = nI l[j] := by
    intro j hj
    have h2 := hR j hj
    rw [hl, List.getD_eq_getElem?_getD, List.getElem?_eq_getElem hj] at h2
    exact h2
  have key : ∀ (k j : Nat), j + k = n → 1 ≤ j → L_X8_good_139 Q C102 (k + 1) I J (nI n) x2 x3 x4 x5 x6 (nI (wys (l.drop (n - j))).1) (nI (wys (l.drop (n - j))).2) (nI j) := by
    intro k
    induction k with
    | zero =>
      intro j e hj
      obtain rfl : j = n := by omega
      rw [Nat.sub_self, List.drop_zero]
      exact onp (nI_le (Nat.le_refl _) (by omega)) hC
    | succ k ih =>
      intro j e hj
      have hi := ih (j + 1) (by omega) (by omega)
      have hA : n - (j + 1) < l.length := by omega
      have hB : n - j < l.length := by omega
      have d1 : l.drop (n - j) = l[n - j] :: l.drop (n - j + 1) := List.drop_eq_getElem_cons hB
      have d2 : l.drop (n - (j + 1)) = l[n - (j + 1)] :: l.drop (n - (j + 1) + 1) := List.drop_eq_getElem_cons hA
      rw [show n - (j + 1) + 1 = n - j by omega, d1] at d2
      have hlen : (l.drop (n - j)).length = j := by rw [List.length_drop]; omega
      have hbd := wys_bd (l.drop (n - j)) (by omega)
      rw [hlen] at hbd
      rw [d2, wys_2] at hi
      rw [d1] at hbd hlen ⊢
      generalize hw : wys (l[n - j] :: l.drop (n - j + 1)) = W at *
      rw [hlen] at hi
      have h6 : 6 ^ j ≤ 6 ^ 6 := Nat.pow_le_pow_right (by decide) (by omega)
      have hm : W.1 * (j + 1) ≤ 6 ^ 6 * 6 := Nat.mul_le_mul (Nat.le_trans hbd.1 h6) (by omega)
      have a1 : I 35 0 j = nI l[n - (j + 1)] := by
        have := hat (n - (j + 1)) hA
        rw [show n - 1 - (n - (j + 1)) = j by omega] at this
        exact this
      have a2 : I 35 0 (j - 1) = nI l[n - j] := by
        have := hat (n - j) hB
        rw [show n - 1 - (n - j) = j - 1 by omega] at this
        exact this
      have b1 := hb l[n - (j + 1)] (List.getElem_mem hA)
      have b2 := hb l[n - j] (List.getElem_mem hB)
      have ep : nI j - 1 = nI (j - 1) := pk_sub (b := 1) (by omega)
      refine onn (nI_ge (by omega) (by omega)) ⟨vp_in_nI (by omega) (by decide), by rw [ep]; exact vp_in_nI (by omega) (by decide), ?_⟩
      rw [ep, nI_clamp (by omega), nI_clamp (by omega), a1, a2]
      by_cases c : l[n - (j + 1)] = l[n - j]
      · rw [if_pos c] at hi
        refine onp (by rw [c]) ⟨?_, ?_⟩
        · rw [nI_1]; exact nI_ne0 (by omega) (by omega)
        · rw [nI_1, nI_1, pk_mul, pk_div (by omega) (by omega) (by omega)]
          exact hi
      · rw [if_neg c] at hi
        refine onn (fun q => c ((nI_eq (by omega) (by omega)).mp q)) ⟨by decide, ?_⟩
        rw [nI_1, pk_mul, show (1 : Int32) = nI 1 from rfl, pk_div (by omega) (by omega) (by omega), Nat.div_one]
        exact hi
  have h := key (n - 1) 1 (by omega) (Nat.le_refl _)
  have hB : n - 1 < l.length := by omega
  have d1 : l.drop (n - 1) = l[n - 1] :: l.drop (n - 1 + 1) := List.drop_eq_getElem_cons hB
  have d3 : l.drop (n - 1 + 1) = [] := List.drop_eq_nil_of_le (by omega)
  rw [d1, d3] at h
  exact ⟨n - 1 + 1, h⟩
theorem hD_gD (l : List Nat) : l.headD 0 = l.getD 0 0 := by cases l <;> rfl
theorem s_gol {Q : Int32 → MI → MJ → Prop} {n d top mid : Nat} {x3 all : Int32} (hn1 : 1 ≤ n) (hn : n ≤ 6) (hd : d ≤ 20) (ht : top ≤ 10) (hmid : mid = (n - 1) - (n - 1) / 2) : ∀ (fu : Nat) (l H R : List Nat) (g : Int) (I : MI), gol top mid fu l H = R → R ≠ [] → l.length = n → (∀ x ∈ l, x ≤ top) → H.length = 21 → Rp I l →
    (∀ I' : MI, (∀ t, t ≠ 35 → I' t = I t) → (x3 = 0 → Q (iz (g + (sumL (R.drop d) : Nat) - (sumL (H.drop d) : Nat))) I' J) ∧ (¬ x3 = 0 → Q all I' J)) → L_X8_good_102 Q (fu + 1) I J (nI n) (nI d) x3 (nI (top + 1)) all (iz g) 1 := by
  intro fu
  induction fu with
  | zero => intro l H R g I h1 h2; exact absurd h1.symm h2
  | succ fu ih =>
    intro l H R g I h1 h2 hl hb hH hR hQ
    have eg : gol top mid (fu + 1) l H = if Nat.ble (l.getD mid 0) (l.headD 0) = true then
      incK H (l.headD 0 - l.getD mid 0) (wys l).1 (fun H' => match nxt top l with
        | [] => H'
        | b :: r => gol top mid fu (b :: r) H') else [] := rfl
    rw [eg] at h1
    by_cases c : Nat.ble (l.getD mid 0) (l.headD 0) = true
    · rw [if_pos c, incK_id] at h1
      rw [Nat.ble_eq] at c
      rw [hD_gD] at h1 c
      generalize hE : l.getD 0 0 - l.getD mid 0 = e at h1
      generalize hH' : incK H e (wys l).1 id = H' at h1
      have hs := inc_sum H d e (wys l).1 (by omega)
      rw [hH'] at hs
      have hlen' : H'.length = 21 := by rw [← hH', inc_len]; exact hH
      have go : ∀ g' : Int, g' = g + ((if d ≤ e then (wys l).1 else 0 : Nat) : Int) → ∃ m : Nat, L_X8_good_204 Q (L_X8_good_102 Q (fu + 1)) m I J (nI n) (nI d) x3 (nI (top + 1)) all (iz g') (nI n - 1) := by
        intro g' eg'
        refine s_next hn1 hn ht hl hb hR (fun q => ?_) (fun l' I' q1 q2 q3 q4 q5 q6 => ?_)
        · rw [q] at h1
          have h1' : H' = R := h1
          have hq := hQ I (fun _ _ => rfl)
          rw [← h1', hs] at hq
          refine onp rfl ?_
          rw [show g' = g + ((sumL (H.drop d) + (if d ≤ e then (wys l).1 else 0) : Nat) : Int) - (sumL (H.drop d) : Nat) by omega]
          exact hq
        · cases l' with
          | nil => exact absurd rfl q2
          | cons b r =>
            rw [q1] at h1
            refine ih (b :: r) H' R g' I' h1 h2 q3 q4 hlen' q5 (fun I'' h6 => ?_)
            have hq := hQ I'' (fun t ht' => (h6 t ht').trans (q6 t ht'))
            rw [show g' + (sumL (R.drop d) : Nat) - (sumL (H'.drop d) : Nat) = g + (sumL (R.drop d) : Nat) - (sumL (H.drop d) : Nat) by omega]
            exact hq
      have hv1 : nI n - 1 = nI (n - 1) := pk_sub (b := 1) hn1
      have hv2 : (nI n - 1) / 2 = nI ((n - 1) / 2) := by rw [hv1, show (2 : Int32) = nI 2 from rfl, pk_div (by omega) (by decide) (by decide)]
      have r1 := hR 0 (by omega)
      have r2 := hR mid (by omega)
      rw [hl] at r1 r2
      rw [show n - 1 - 0 = n - 1 by omega] at r1
      rw [show n - 1 - mid = (n - 1) / 2 by omega] at r2
      have hb0 : ∀ j, j < n → l.getD j 0 ≤ top := by
        intro j hj
        rw [List.getD_eq_getElem?_getD, List.getElem?_eq_getElem (by omega)]
        exact hb _ (List.getElem_mem (by omega))
      have hb1 := hb0 0 (by omega)
      have hb2 := hb0 mid (by omega)
      refine onn (by decide) ⟨by rw [hv1]; exact vp_in_nI (by omega) (by decide), by rw [hv2]; exact vp_in_nI (by omega) (by decide), ?_⟩
      rw [hv2, nI_clamp (by omega), hv1, nI_clamp (by omega), r1, r2, pk_sub c, hE, ← hv1]
      by_cases c2 : e < d
      · refine onp (nI_lt c2 (by omega)) (go g ?_)
        rw [if_neg (by omega)]
        show g = g + 0
        omega
      · refine onn (nI_nlt (by omega) (by omega)) (s_wys hn1 hn hl (fun x hx => Nat.le_trans (hb x hx) ht) hR ?_)
        rw [iz_nI (wys l).1, iz_add]
        exact go _ (by rw [if_pos (by omega)])
    · rw [if_neg c] at h1
      exact absurd h1.symm h2
theorem allD_ok (n most : Nat) (L : List Nat) : ∀ d0, allD n most d0 L = true → d0 + L.length = 21 ∧ ∀ j, j < L.length → cX n (d0 + j) most = cY n (d0 + j) most + sumL (L.drop j) := by
  induction L with
  | nil => intro d0 h; exact ⟨Nat.eq_of_beq_eq_true h, fun j hj => absurd hj (Nat.not_lt_zero _)⟩
  | cons a l ih =>
    intro d0 h
    have h' : (Nat.beq (cX n d0 most) (cY n d0 most + sumL (a :: l)) && allD n most (d0 + 1) l) = true := h
    rw [Bool.and_eq_true] at h'
    obtain ⟨h1, h2⟩ := ih (d0 + 1) h'.2
    refine ⟨by rw [List.length_cons]; omega, fun j hj => ?_⟩
    cases j with
    | zero => exact Nat.eq_of_beq_eq_true h'.1
    | succ j =>
      have := h2 j (by rw [List.length_cons] at hj; omega)
      rw [show d0 + 1 + j = d0 + (j + 1) by omega] at this
      exact this
theorem s_mgood {Q : Int32 → MI → MJ → Prop} {I : MI} {n d t : Nat} {x3 : Int32} (hn1 : 1 ≤ n) (hn : n ≤ 6) (hd : d ≤ 20) (ht : t ≤ 5) (hQ : ∀ I' : MI, (∀ t, t ≠ 35 → I' t = I t) → (x3 = 0 → Q (iz ((cX n d (2 * t) : Nat) - (cY n d (2 * t) : Nat) : Int)) I' J) ∧ (¬ x3 = 0 → Q (iz (((2 * t + 1 : Nat) : Int) ^ n)) I' J)) : ∃ m : Nat, L_X8_good_54 Q m I J (nI n) (nI d) x3 (nI (2 * t + 1)) 1 0 := by
  obtain ⟨n', rfl⟩ : ∃ n', n = n' + 1 := ⟨n - 1, by omega⟩
  have hch := chk_ok t (by omega) n' (by omega)
  unfold chk at hch
  generalize hG : gol (2 * t) ((n' + 1 - 1) - (n' + 1 - 1) / 2) 10000 (List.replicate (n' + 1) 0) (List.replicate 21 0) = R at hch
  obtain ⟨k1, k2⟩ := allD_ok _ _ _ _ hch
  have k3 := k2 d (by omega)
  rw [Nat.zero_add] at k3
  have hRn : R ≠ [] := by intro q; rw [q] at k1; exact absurd k1 (by decide)
  have h21 : ∀ d', sumL ((List.replicate 21 0).drop d') = 0 := by
    intro d'
    have : ∀ k, sumL (List.replicate k 0) = 0 := by
      intro k
      induction k with
      | zero => rfl
      | succ k ih => rw [List.replicate_succ]; show 0 + sumL (List.replicate k 0) = 0; omega
    rw [List.drop_replicate]
    exact this _
  have zero : ∀ (k j : Nat) (I' : MI), j + k = n' + 1 → (∀ q, q < j → I' 35 0 q = 0) → (∀ t, t ≠ 35 → I' t = I t) → L_X8_good_79 Q (k + 1) I' J (nI (n' + 1)) (nI d) x3 (nI (2 * t + 1)) (iz (((2 * t + 1 : Nat) : Int) ^ (n' + 1))) 0 (nI j) := by
    intro k
    induction k with
    | zero =>
      intro j I' e g1 g2
      obtain rfl : j = n' + 1 := by omega
      refine onp (nI_le (Nat.le_refl _) (by omega)) ⟨10001, ?_⟩
      refine s_gol hn1 hn hd (by omega) rfl 10000 (List.replicate (n' + 1) 0) (List.replicate 21 0) R 0 I' hG hRn List.length_replicate (fun x hx => by rw [(List.mem_replicate.mp hx).2]; omega) List.length_replicate ?_ (fun I'' h6 => ?_)
      · intro j hj
        rw [List.length_replicate] at hj ⊢
        rw [g1 _ (by omega), List.getD_eq_getElem?_getD, List.getElem?_replicate, if_pos hj]
        rfl
      · have hq := hQ I'' (fun t ht' => (h6 t ht').trans (g2 t ht'))
        rw [h21, show (0 : Int) + (sumL (R.drop d) : Nat) - (0 : Nat) = (cX (n' + 1) d (2 * t) : Nat) - (cY (n' + 1) d (2 * t) : Nat) by omega]
        exact hq
    | succ k ih =>
      intro j I' e g1 g2
      refine onn (nI_ge (by omega) (by omega)) ⟨vp_in_nI (by omega) (by decide), ?_⟩
      rw [nI_clamp (by omega), nI_1]
      refine ih (j + 1) _ (by omega) (fun q hq => ?_) (fun t' ht' => by rw [up3_t ht']; exact g2 t' ht')
      by_cases c : q = j
      · rw [c, up3_y]
      · rw [up3_n (by omega)]; exact g1 q (by omega)
  have key : ∀ (k j : Nat), j + k = n' + 1 → L_X8_good_54 Q (k + 1) I J (nI (n' + 1)) (nI d) x3 (nI (2 * t + 1)) (iz (((2 * t + 1 : Nat) : Int) ^ j)) (nI j) := by
    intro k
    induction k with
    | zero =>
      intro j e
      obtain rfl : j = n' + 1 := by omega
      exact onp (nI_le (Nat.le_refl _) (by omega)) ⟨n' + 1 + 1, zero (n' + 1) 0 I (by omega) (fun q hq => absurd hq (by omega)) (fun _ _ => rfl)⟩
    | succ k ih =>
      intro j e
      refine onn (nI_ge (by omega) (by omega)) ?_
      rw [iz_nI (2 * t + 1), iz_mul, ← Int.pow_succ, ← iz_nI (2 * t + 1), nI_1]
      exact ih (j + 1) (by omega)
  have h0 := key (n' + 1) 0 (by omega)
  rw [Int.pow_zero] at h0
  exact ⟨n' + 1 + 1, h0⟩
end GOODM
section GOODP
variable {I : MI} {J : MJ}
theorem pr_good (h : Inv I J) (x y z : Int32) : wp_X7_good (fun r I1 J1 => wp_X8_good (fun r2 I2 J2 => r = r2 ∧ Inv I2 J2) I1 J1 x y z) I J x y z := by
  have hT := h.thrown
  have eM : ∀ (r : Int32) (I1 : MI), wp_X8_good (fun r2 I2 J2 => r = r2 ∧ Inv I2 J2) I1 J x y z ↔ ((¬ (1 ≤ x ∧ x ≤ 6) → r = -1 ∧ Inv (up3 I1 8 0 0 0) J) ∧ (¬ ¬ (1 ≤ x ∧ x ≤ 6) → (¬ (0 ≤ y ∧ y ≤ 20) → r = -1 ∧ Inv (up3 I1 8 0 0 0) J) ∧ (¬ ¬ (0 ≤ y ∧ y ≤ 20) → (¬ (0 ≤ z ∧ z ≤ 1) → r = -1 ∧ Inv (up3 I1 8 0 0 0) J) ∧ (¬ ¬ (0 ≤ z ∧ z ≤ 1) → ∃ n : Nat, L_X8_good_54 (fun r2 I2 J2 => r = r2 ∧ Inv I2 J2) n (up3 I1 8 0 0 0) J x y z ((2 * (up3 I1 8 0 0 0 28 0 0)) + 1) 1 0)))) := by
    intro r I1
    unfold wp_X8_good
    simp only [q_in, bi_0, decide_eq_false_iff_not]
  unfold wp_X7_good
  simp only [q_within, bi_0, decide_eq_false_iff_not]
  refine two (fun c => ?_) (fun c => (eM _ I).mpr (twn c ⟨rfl, hT⟩))
  refine two (fun c2 => ?_) (fun c2 => (eM _ I).mpr (twp c (twn c2 ⟨rfl, hT⟩)))
  refine two (fun c3 => ?_) (fun c3 => (eM _ I).mpr (twp c (twp c2 (twn c3 ⟨rfl, hT⟩))))
  obtain ⟨n, hn, rfl⟩ := nI_le_ex (j := 6) rfl (Int32.le_trans (by decide) c.1) c.2 (by decide)
  have hn1 : 1 ≤ n := (nI_leI (a := 1) (by omega) (by omega)).mp c.1
  obtain ⟨d, hd, rfl⟩ := nI_le_ex (j := 20) rfl c2.1 c2.2 (by decide)
  obtain ⟨w, hw, rfl⟩ := nI_le_ex (j := 1) rfl c3.1 c3.2 (by decide)
  obtain ⟨t1, t0, -, -⟩ := h.2.2.1
  obtain ⟨et, l1, l2⟩ := bd_nat t0 (by decide)
  generalize (I 21 0 0).toNatClampNeg = t at et l1 l2
  have e2 : 2 * nI t + 1 = nI (2 * t + 1) := by rw [show (2 : Int32) = nI 2 from rfl, pk_mul, nI_1]
  have fin : ∀ r : Int32, (nI w = 0 → r = iz ((cX n d (2 * t) : Nat) - (cY n d (2 * t) : Nat) : Int)) → (¬ nI w = 0 → r = iz (((2 * t + 1 : Nat) : Int) ^ n)) → wp_X8_good (fun r2 I2 J2 => r = r2 ∧ Inv I2 J2) I J (nI n) (nI d) (nI w) := by
    intro r h1 h2
    refine (eM r I).mpr (twp c (twp c2 (twp c3 ?_)))
    rw [up3_t (by decide), t1 0 (by decide), et, e2]
    refine s_mgood hn1 hn hd (by omega) (fun I' h3 => ?_)
    have hI : Inv I' J := hT.keep ⟨fun t' ht' => h3 t' (fun q => by rw [q] at ht'; exact absurd ht' (by decide)), fun r _ => ⟨by rw [h3 4 (by decide)], by rw [h3 15 (by decide)], by rw [h3 16 (by decide)]⟩, by rw [h3 13 (by decide)], fun j _ => by rw [h3 29 (by decide)], by rw [h3 3 (by decide)], by rw [h3 8 (by decide)], by rw [h3 8 (by decide)]⟩ ⟨rfl, rfl⟩
    exact ⟨fun q => ⟨h1 q, hI⟩, fun q => ⟨h2 q, hI⟩⟩
  rw [et, e2]
  rcases (show w = 0 ∨ w = 1 by omega) with rfl | rfl
  · refine onn (by decide) ?_
    rw [nI_pred]
    exact s_tooGood (by omega) (by omega) (by omega) (fin _ (fun _ => rfl) (fun q => absurd rfl q))
  · refine onp rfl ?_
    rw [iz_nI (2 * t + 1)]
    exact s_power (by omega) (fin _ (fun q => absurd q (by decide)) (fun _ => rfl))
end GOODP
