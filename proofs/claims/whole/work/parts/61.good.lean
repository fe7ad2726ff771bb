section GOODC
variable {I : MI} {J : MJ}
theorem s_power {Q : Int32 → MI → MJ → Prop} {a : Int} {k : Nat} (hk : k < 2 ^ 31) (hQ : Q (iz (a ^ k)) I J) : wp_X7_power Q I J (iz a) (nI k) := by
  have key : ∀ (d j : Nat), j + d = k → L_X7_power_4 Q (d + 1) I J (iz a) (nI k) (iz (a ^ j)) (nI j) := by
    intro d
    induction d with
    | zero =>
      intro j e
      obtain rfl : j = k := by omega
      exact onp (nI_le (Nat.le_refl _) (by omega)) hQ
    | succ d ih =>
      intro j e
      refine onn (nI_ge (by omega) (by omega)) ?_
      rw [iz_mul, ← Int.pow_succ, nI_1]
      exact ih (j + 1) (by omega)
  have h0 := key k 0 (by omega)
  rw [Int.pow_zero] at h0
  exact ⟨k + 1, h0⟩
theorem bn_bd : ∀ n, n < 7 → ∀ k, k < 8 → bn n k ≤ 20 := by decide
theorem s_rmu {Q : Int32 → MI → MJ → Prop} {n a c : Nat} {x1 x2 : Int32} (hn : n < 7) (e1 : x1 = iz ((a : Int) - 1)) (e2 : x2 = iz ((a : Int) - 1 + c)) (hQ : Q (iz (rmu n a c : Nat)) I J) : wp_X7_rowsMiddleUpTo Q I J (nI n) x1 x2 := by
  unfold wp_X7_rowsMiddleUpTo
  rw [e1, e2]
  have en : (nI n + 1) / 2 = nI ((n + 1) / 2) := by rw [nI_1, show (2 : Int32) = nI 2 from rfl, pk_div (by omega) (by decide) (by decide)]
  rw [en]
  generalize hf : (fun k => if Nat.ble ((n + 1) / 2) k = true then bn n k * a ^ k * c ^ (n - k) else 0) = f
  have ef : ∀ k, f k = if (n + 1) / 2 ≤ k then bn n k * a ^ k * c ^ (n - k) else 0 := fun k => by rw [← hf]; simp only [Nat.ble_eq]
  have hS : sN f (n + 1) = rmu n a c := by rw [← hf]; rfl
  have key : ∀ (d k : Nat), k + d = n + 1 → L_X7_rowsMiddleUpTo_15 Q (d + 1) I J (nI n) (iz ((a : Int) - 1)) (iz ((a : Int) - 1 + c)) (nI ((n + 1) / 2)) (nI (bn n k)) (iz ((sN f k : Nat) : Int)) (nI k) := by
    intro d
    induction d with
    | zero =>
      intro k e
      obtain rfl : k = n + 1 := by omega
      refine onp (nI_lt (by omega) (by omega)) ?_
      rw [hS]; exact hQ
    | succ d ih =>
      intro k e
      have hi := ih (k + 1) (by omega)
      have hb := bn_bd n hn k (by omega)
      have hbm : bn n k * (n - k) ≤ 20 * 7 := Nat.mul_le_mul hb (by omega)
      refine onn (fun q => absurd ((nI_ltI (by omega) (by omega)).mp q) (by omega)) ?_
      have esub : nI n - nI k = nI (n - k) := by rw [iz_nI, iz_nI, iz_nI, iz_sub]; exact iz_inj (by omega)
      have ew : (nI (bn n k) * (nI n - nI k)) / (nI k + 1) = nI (bn n (k + 1)) := by
        rw [esub, pk_mul, nI_1, pk_div (by omega) (by omega) (by omega)]
        rfl
      have es : sN f (k + 1) = sN f k + f k := rfl
      have go : ∀ S : Nat, S = f k → J_X7_rowsMiddleUpTo_54 Q (L_X7_rowsMiddleUpTo_15 Q (d + 1)) I J (nI n) (iz ((a : Int) - 1)) (iz ((a : Int) - 1 + c)) (nI ((n + 1) / 2)) (nI (bn n k)) (iz (((sN f k : Nat) : Int) + S)) (nI k) := by
        intro S eS
        refine ⟨?_, ?_⟩
        · rw [nI_1]
          intro q
          have := (nI_eq (a := k + 1) (b := 0) (by omega) (by omega)).mp q
          omega
        · rw [ew, nI_1, eS, ← Int.natCast_add, ← es]
          exact hi
      rw [ef k] at go
      by_cases c1 : k < (n + 1) / 2
      · refine onp (nI_lt c1 (by omega)) ?_
        have h0 := go 0 (by rw [if_neg (by omega)])
        rw [Int.natCast_zero, Int.add_zero] at h0
        exact h0
      · refine onn (fun q => c1 ((nI_ltI (by omega) (by omega)).mp q)) ?_
        have ea : iz ((a : Int) - 1) + 1 = iz (a : Int) := by rw [zl1, iz_add]; exact iz_inj (by omega)
        have ec : iz ((a : Int) - 1 + c) - iz ((a : Int) - 1) = iz (c : Int) := by rw [iz_sub]; exact iz_inj (by omega)
        rw [ea]
        refine s_power (by omega) ?_
        rw [ec, esub]
        refine s_power (by omega) ?_
        rw [iz_nI (bn n k), iz_mul, iz_mul, iz_add, ← iz_nI (bn n k)]
        have h1 := go (bn n k * a ^ k * c ^ (n - k)) (by rw [if_pos (by omega)])
        rw [Int.natCast_mul, Int.natCast_mul, Int.natCast_pow, Int.natCast_pow] at h1
        exact h1
  exact ⟨n + 1 + 1, key (n + 1) 0 (by omega)⟩
theorem s_rwm {Q : Int32 → MI → MJ → Prop} {n mid gr : Nat} (hn : n < 7) (hm : mid ≤ gr) (hQ : Q (iz ((rmu n (mid + 1) (gr - mid) : Nat) - (rmu n mid (gr - mid + 1) : Nat) : Int)) I J) : wp_X7_rowsWithMiddle Q I J (nI n) (nI mid) (nI gr) := by
  unfold wp_X7_rowsWithMiddle
  refine s_rmu (a := mid + 1) (c := gr - mid) hn (by rw [iz_nI]; exact iz_inj (by omega)) (by rw [iz_nI]; exact iz_inj (by omega)) ?_
  refine s_rmu (a := mid) (c := gr - mid + 1) hn (by rw [iz_nI, zl1, iz_sub]) (by rw [iz_nI]; exact iz_inj (by omega)) ?_
  rw [iz_sub]
  exact hQ
theorem s_tooGood {Q : Int32 → MI → MJ → Prop} {n d most : Nat} (hn : n < 7) (hd : d < 21) (hm : most < 12) (hQ : Q (iz ((cX n d most : Nat) - (cY n d most : Nat) : Int)) I J) : wp_X7_rowsTooGood Q I J (nI n) (nI d) (nI most) := by
  unfold wp_X7_rowsTooGood
  generalize hX : (fun mid => rmu n (mid + 1) (most - mid) + (if d = 0 then 0 else rmu n mid (mng most mid d - mid + 1))) = X
  generalize hY : (fun mid => rmu n mid (most - mid + 1) + (if d = 0 then 0 else rmu n (mid + 1) (mng most mid d - mid))) = Y
  have eX : ∀ mid, X mid = rmu n (mid + 1) (most - mid) + (if d = 0 then 0 else rmu n mid (mng most mid d - mid + 1)) := fun mid => by rw [← hX]
  have eY : ∀ mid, Y mid = rmu n mid (most - mid + 1) + (if d = 0 then 0 else rmu n (mid + 1) (mng most mid d - mid)) := fun mid => by rw [← hY]
  have sX : sN X (most + 1) = cX n d most := by rw [← hX]; rfl
  have sY : sN Y (most + 1) = cY n d most := by rw [← hY]; rfl
  have key : ∀ (k mid : Nat), mid + k = most + 1 → L_X7_rowsTooGood_5 Q (k + 1) I J (nI n) (nI d) (nI most) (iz ((sN X mid : Nat) - (sN Y mid : Nat) : Int)) (nI mid) := by
    intro k
    induction k with
    | zero =>
      intro mid e
      obtain rfl : mid = most + 1 := by omega
      refine onp (nI_lt (by omega) (by omega)) ?_
      rw [sX, sY]; exact hQ
    | succ k ih =>
      intro mid e
      have hi := ih (mid + 1) (by omega)
      have e1 : sN X (mid + 1) = sN X mid + X mid := rfl
      have e2 : sN Y (mid + 1) = sN Y mid + Y mid := rfl
      rw [e1, e2, eX, eY] at hi
      refine onn (fun q => absurd ((nI_ltI (by omega) (by omega)).mp q) (by omega)) ?_
      refine s_rwm hn (by omega) ?_
      rw [nI_1]
      by_cases c : d = 0
      · subst c
        refine onp (by decide) ?_
        rw [if_pos rfl, if_pos rfl] at hi
        rw [iz_add]
        have : ((sN X mid : Nat) : Int) - (sN Y mid : Nat) + ((rmu n (mid + 1) (most - mid) : Nat) - (rmu n mid (most - mid + 1) : Nat)) = ((sN X mid + (rmu n (mid + 1) (most - mid) + 0) : Nat) : Int) - ((sN Y mid + (rmu n mid (most - mid + 1) + 0) : Nat) : Int) := by omega
        rw [this]
        exact hi
      · refine onn (fun q => c (by have := (nI_leI (b := 0) (by omega) (by omega)).mp q; omega)) ?_
        rw [if_neg c, if_neg c] at hi
        have em : (nI mid + nI d) - 1 = nI (mid + d - 1) := by rw [nI_add, iz_nI, iz_nI, zl1, iz_sub]; exact iz_inj (by omega)
        rw [em, q_min]
        have emn : (if nI (mid + d - 1) < nI most then nI (mid + d - 1) else nI most) = nI (mng most mid d) := by
          unfold mng
          simp only [Nat.ble_eq]
          by_cases c2 : most ≤ mid + d - 1
          · rw [if_pos c2, if_neg (fun q => absurd ((nI_ltI (by omega) (by omega)).mp q) (by omega))]
          · rw [if_neg c2, if_pos (nI_lt (by omega) (by omega))]
        rw [emn]
        have hmg : mid ≤ mng most mid d := by
          unfold mng
          split <;> omega
        refine s_rwm hn hmg ?_
        rw [iz_add, iz_sub]
        have : ((sN X mid : Nat) : Int) - (sN Y mid : Nat) + ((rmu n (mid + 1) (most - mid) : Nat) - (rmu n mid (most - mid + 1) : Nat)) - ((rmu n (mid + 1) (mng most mid d - mid) : Nat) - (rmu n mid (mng most mid d - mid + 1) : Nat)) = ((sN X mid + (rmu n (mid + 1) (most - mid) + rmu n mid (mng most mid d - mid + 1)) : Nat) : Int) - ((sN Y mid + (rmu n mid (most - mid + 1) + rmu n (mid + 1) (mng most mid d - mid)) : Nat) : Int) := by omega
        rw [this]
        exact hi
  exact ⟨most + 1 + 1, key (most + 1) 0 (by omega)⟩
end GOODC
