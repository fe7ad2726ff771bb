/-! what ties the system's memory to the model's -/
def bd (x : Int32) (a b : Int) : Prop := a ≤ x.toInt ∧ x.toInt ≤ b
theorem bd_ex {x : Int32} {a b : Int} (h : bd x a b) : ∃ z : Int, x = iz z ∧ a ≤ z ∧ z ≤ b := ⟨x.toInt, (iz_of x).symm, h.1, h.2⟩
theorem bd_iz {z a b : Int} (h1 : a ≤ z) (h2 : z ≤ b) (h3 : -2147483648 ≤ z) (h4 : z ≤ 2147483647) : bd (iz z) a b := by
  unfold bd
  rw [iz_toInt h3 h4]
  exact ⟨h1, h2⟩
theorem bd_w {x : Int32} {a b a' b' : Int} (h : bd x a b) (h1 : a' ≤ a) (h2 : b ≤ b') : bd x a' b' := ⟨by have := h.1; omega, by have := h.2; omega⟩
theorem bd_le {x : Int32} {a b : Int} (ha : -2147483648 ≤ a) (ha' : a ≤ 2147483647) (hb : -2147483648 ≤ b) (hb' : b ≤ 2147483647) : bd x a b ↔ iz a ≤ x ∧ x ≤ iz b := by
  rw [Int32.le_iff_toInt_le, Int32.le_iff_toInt_le, iz_toInt ha ha', iz_toInt hb hb']
  exact Iff.rfl
/-- one runner: r in the system, from C on in the model's row T -/
def RR (I : MI) (r T C : Nat) : Prop :=
  (I T 0 C = I 4 r 2 ∧ I T 0 (C + 1) = I 4 r 3 ∧ I T 0 (C + 2) = I 4 r 4 ∧ I T 0 (C + 3) = I 4 r 5 ∧ I T 0 (C + 7) = I 4 r 6 ∧ I T 0 (C + 8) = I 4 r 7) ∧
  (∀ j, j < 3 → I T 0 (C + 4 + j) = I 15 r j ∧ bd (I 15 r j) (-20) 20) ∧
  (∃ q : Nat, q ≤ 12 ∧ I 4 r 7 = nI q ∧ ∀ j, j < q → I T 0 (C + 9 + j) = I 16 r j ∧ bd (I 16 r j) (-1000) 1000) ∧
  bd (I 4 r 2) 0 200 ∧ bd (I 4 r 3) 0 200 ∧ bd (I 4 r 4) 0 2 ∧ bd (I 4 r 5) (-9) 9
/-- a yard y against the model's row T from B on -/
def YR (I : MI) (y T B : Nat) : Prop :=
  ∃ n : Nat, n ≤ 8 ∧ I 6 y 1 = nI n ∧ I T 0 (B + 168) = nI n ∧ I T 0 (B + 169) = I 6 y 2 ∧ I T 0 (B + 170) = I 6 y 3 ∧ ∀ k, k < n → RR I (8 * y + k) T (B + 21 * k)
def Ii (I : MI) : Prop := ∀ b, b < 2 → (I 27 0 b = 0 ∨ I 27 0 b = 1) ∧ I 6 (1 + b) 4 = I 27 0 b ∧ (I 27 0 b = 1 → YR I (1 + b) 26 (171 * b))
def It (I : MI) : Prop := (∀ j, j < 3 → I 28 0 j = I 21 0 j) ∧ bd (I 21 0 0) 0 5 ∧ bd (I 21 0 1) 0 50 ∧ bd (I 21 0 2) 0 50
/-- the six numbers of a rule -/
def RuB (f : Nat → Int32) : Prop := bd (f 0) 1 12 ∧ bd (f 1) 1 12 ∧ bd (f 2) 1 20 ∧ bd (f 3) 1 20 ∧ bd (f 4) 0 200 ∧ bd (f 5) 0 200 ∧ f 0 ≤ f 1 ∧ f 2 ≤ f 3
def Iu (I : MI) : Prop := (∀ j, j < 6 → I 29 0 j = I 13 0 j) ∧ RuB (I 13 0)
def Ix (I : MI) : Prop := ∃ n : Nat, n ≤ 200 ∧ I 3 0 1 = nI n ∧ I 8 0 8 = nI n ∧ ∀ j, j < n → I 30 0 j = I 14 0 j ∧ bd (I 14 0 j) 0 255
def hasB (s : Int32) (i : Nat) : Prop := ¬ ((s >>> (nI i &&& 31)) &&& 1) = 0
def Il (I : MI) : Prop := I 8 0 14 = I 7 0 13 ∧ ∀ i, i < 8 → hasB (I 7 0 13) i → I 31 0 (3 * i) = I 22 0 i ∧ I 31 0 (3 * i + 1) = I 23 0 i ∧ I 31 0 (3 * i + 2) = I 24 0 i
def Ic (I : MI) : Prop := ∀ r, r < 10 → I 32 0 (2 * r) = I 17 0 r ∧ I 32 0 (2 * r + 1) = I 18 0 r ∧ bd (I 17 0 r) 0 200 ∧ bd (I 18 0 r) 0 200
def Ih (I : MI) : Prop := ∀ k, k < 6 → I 33 0 k = I 12 0 k ∧ bd (I 12 0 k) (-9) 9
def Inv (I : MI) (J : MJ) : Prop := YR I 0 25 0 ∧ Ii I ∧ It I ∧ Iu I ∧ Ix I ∧ Il I ∧ Ic I ∧ Ih I ∧ J 8 0 1 = J 7 0 14
theorem RR.congr {I I' : MI} {r T C : Nat} (h4 : I' 4 r = I 4 r) (h15 : I' 15 r = I 15 r) (h16 : I' 16 r = I 16 r) (hT : I' T 0 = I T 0) (h : RR I r T C) : RR I' r T C := by
  unfold RR at h ⊢
  rw [h4, h15, h16, hT]
  exact h
theorem YR.congr {I I' : MI} {y T B : Nat} (h6 : I' 6 y = I 6 y) (h4 : I' 4 = I 4) (h15 : I' 15 = I 15) (h16 : I' 16 = I 16) (hT : I' T 0 = I T 0) (h : YR I y T B) : YR I' y T B := by
  obtain ⟨n, h1, h2, h3, h5, h7, h8⟩ := h
  exact ⟨n, h1, by rw [h6]; exact h2, by rw [hT]; exact h3, by rw [hT, h6]; exact h5, by rw [hT, h6]; exact h7, fun k hk => (h8 k hk).congr (by rw [h4]) (by rw [h15]) (by rw [h16]) hT⟩
theorem Ii.congr {I I' : MI} (h6 : ∀ b, b < 2 → I' 6 (1 + b) = I 6 (1 + b)) (h4 : I' 4 = I 4) (h15 : I' 15 = I 15) (h16 : I' 16 = I 16) (h26 : I' 26 = I 26) (h27 : I' 27 = I 27) (h : Ii I) : Ii I' := fun b hb => by
  obtain ⟨h1, h2, h3⟩ := h b hb
  rw [h27, h6 b hb]
  exact ⟨h1, h2, fun q => (h3 q).congr (h6 b hb) h4 h15 h16 (by rw [h26])⟩
theorem It.congr {I I' : MI} (h28 : I' 28 = I 28) (h21 : I' 21 = I 21) (h : It I) : It I' := by
  unfold It at h ⊢
  rw [h28, h21]
  exact h
theorem Iu.congr {I I' : MI} (h29 : ∀ j, j < 6 → I' 29 0 j = I 29 0 j) (h13 : I' 13 0 = I 13 0) (h : Iu I) : Iu I' := by
  unfold Iu at h ⊢
  rw [h13]
  exact ⟨fun j hj => by rw [h29 j hj]; exact h.1 j hj, h.2⟩
theorem Ix.congr {I I' : MI} (h3 : I' 3 0 1 = I 3 0 1) (h8 : I' 8 0 8 = I 8 0 8) (h30 : I' 30 = I 30) (h14 : I' 14 = I 14) (h : Ix I) : Ix I' := by
  unfold Ix at h ⊢
  rw [h3, h8, h30, h14]
  exact h
theorem Il.congr {I I' : MI} (h8 : I' 8 0 14 = I 8 0 14) (h7 : I' 7 = I 7) (h31 : I' 31 = I 31) (h22 : I' 22 = I 22) (h23 : I' 23 = I 23) (h24 : I' 24 = I 24) (h : Il I) : Il I' := by
  unfold Il at h ⊢
  rw [h8, h7, h31, h22, h23, h24]
  exact h
theorem Ic.congr {I I' : MI} (h32 : I' 32 = I 32) (h17 : I' 17 = I 17) (h18 : I' 18 = I 18) (h : Ic I) : Ic I' := by
  unfold Ic at h ⊢
  rw [h32, h17, h18]
  exact h
theorem Ih.congr {I I' : MI} (h33 : I' 33 = I 33) (h12 : I' 12 = I 12) (h : Ih I) : Ih I' := by
  unfold Ih at h ⊢
  rw [h33, h12]
  exact h
theorem up3_t {I : MI} {t r k t' : Nat} {v : Int32} (h : t' ≠ t) : up3 I t r k v t' = I t' := by
  funext r' k'
  exact if_neg (fun q => h q.1)
theorem up3_n {I : MI} {t r k t' r' k' : Nat} {v : Int32} (h : ¬ (t' = t ∧ r' = r ∧ k' = k)) : up3 I t r k v t' r' k' = I t' r' k' := if_neg h
theorem up3_y {I : MI} {t r k : Nat} {v : Int32} : up3 I t r k v t r k = v := if_pos ⟨rfl, rfl, rfl⟩
theorem row3_t {I : MI} {t r t' : Nat} {f : Nat → Int32} (h : t' ≠ t) : row3 I t r f t' = I t' := by
  funext r' k'
  exact if_neg (fun q => h q.1)
theorem up3L_t {J : MJ} {t r k t' : Nat} {v : Int64} (h : t' ≠ t) : up3L J t r k v t' = J t' := by
  funext r' k'
  exact if_neg (fun q => h q.1)
/-- the model's mark that nothing was thrown is no part of it -/
theorem Inv.thrown {I : MI} {J : MJ} (h : Inv I J) : Inv (up3 I 8 0 0 0) J :=
  ⟨h.1.congr (by rw [up3_t (by decide)]) (up3_t (by decide)) (up3_t (by decide)) (up3_t (by decide)) (by rw [up3_t (by decide)]),
   h.2.1.congr (fun _ _ => by rw [up3_t (by decide)]) (up3_t (by decide)) (up3_t (by decide)) (up3_t (by decide)) (up3_t (by decide)) (up3_t (by decide)),
   h.2.2.1.congr (up3_t (by decide)) (up3_t (by decide)), h.2.2.2.1.congr (fun _ _ => by rw [up3_t (by decide)]) (by rw [up3_t (by decide)]),
   h.2.2.2.2.1.congr (by rw [up3_t (by decide)]) (up3_n (by decide)) (up3_t (by decide)) (up3_t (by decide)),
   h.2.2.2.2.2.1.congr (up3_n (by decide)) (up3_t (by decide)) (up3_t (by decide)) (up3_t (by decide)) (up3_t (by decide)) (up3_t (by decide)),
   h.2.2.2.2.2.2.1.congr (up3_t (by decide)) (up3_t (by decide)) (up3_t (by decide)), h.2.2.2.2.2.2.2.1.congr (up3_t (by decide)) (up3_t (by decide)), h.2.2.2.2.2.2.2.2⟩
theorem nI_ne {j : Nat} {x : Int32} (h1 : 0 ≤ x) (h2 : x < nI j) (hj : j < 2 ^ 31) : ∃ k : Nat, k < j ∧ x = nI k := by
  obtain ⟨a, rfl, ha, hb⟩ := iz_ex x
  rw [iz_nI] at h2
  rw [zl0] at h1
  have h1' := (iz_le (by omega) (by omega) (by omega) (by omega)).mp h1
  have h2' := (iz_lt (by omega) (by omega) (by omega) (by omega)).mp h2
  exact ⟨a.toNat, by omega, by rw [iz_nI]; exact iz_inj (by omega)⟩
theorem nI_le_ex {j : Nat} {x c : Int32} (hc : c = nI j) (h1 : 0 ≤ x) (h2 : x ≤ c) (hj : j < 2 ^ 31 - 1) : ∃ k : Nat, k ≤ j ∧ x = nI k := by
  obtain ⟨a, rfl, ha, hb⟩ := iz_ex x
  rw [hc, iz_nI] at h2
  rw [zl0] at h1
  have h1' := (iz_le (by omega) (by omega) (by omega) (by omega)).mp h1
  have h2' := (iz_le (by omega) (by omega) (by omega) (by omega)).mp h2
  exact ⟨a.toNat, by omega, by rw [iz_nI]; exact iz_inj (by omega)⟩
