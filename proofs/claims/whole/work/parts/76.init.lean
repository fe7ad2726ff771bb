/-! the store at the start -/
def ykL (y : Nat) : List (Nat × Nat) := [(6, y), (19, y)] ++ ([7, 6, 5, 4, 3, 2, 1, 0] : List Nat).flatMap (fun i => [(4, 8 * y + i), (15, 8 * y + i), (16, 8 * y + i)])
def keysP : List (Nat × Nat) := [(8, 0), (25, 0), (26, 0), (27, 0), (28, 0), (29, 0), (30, 0), (31, 0), (32, 0), (33, 0), (34, 0), (35, 0), (36, 0), (37, 0), (38, 0)] ++ ([(7, 0), (20, 0)] ++ (ykL 2 ++ (ykL 1 ++ ((24, 0) :: (23, 0) :: (22, 0) :: ([(1, 0), (12, 0)] ++ ([(5, 0), (17, 0), (18, 0)] ++ ([(0, 0), (9, 0), (10, 0), (11, 0)] ++ ([(4, 24), (15, 24), (16, 24)] ++ ([(2, 1), (13, 1)] ++ ([(2, 0), (13, 0)] ++ ([(3, 0), (14, 0)] ++ ((21, 0) :: (ykL 0 ++ []))))))))))))) 
theorem keysP_pm : keysP.Perm keys := List.isPerm_iff.mp (by decide +kernel)
def I0 (fr : Nat → Int32) : MI := fun t => match t with
  | 6 => fun _ k => if k = 2 then 1 else 0
  | 12 => fun _ => upd (upd (upd (upd (upd (upd (fun _ => 0) 0 1) 1 0) 2 0) 3 0) 4 0) 5 1
  | 13 => fun _ => va_cpy (stV 0) (fun _ => 0) 0 0 6
  | 21 => fun _ => upd (upd (upd (fun _ => 0) 0 2) 1 3) 2 10
  | 25 => fun _ => upd (fun _ => 0) 169 1
  | 28 => fun _ => upd (upd (upd (fun _ => 0) 0 2) 1 3) 2 10
  | 29 => fun _ => fr
  | 33 => fun _ => upd (upd (fun _ => 0) 0 1) 5 1
  | _ => fun _ _ => 0
def J0 : MJ := fun _ _ _ => 0
def gadF (h8 h7 : Nat) (ya yr : Nat → Nat) (rs ts fs : Nat → Nat → Nat) (im tu tx tb l0 m0 l1 m1 ln lt lf fi f1 f2 f3 sb s1 s2 hu hn a1 a2 a3 q1 q2 q3 q4 q5 q6 q7 q8 q9 q10 q11 q12 q13 q14 : Nat) (t r : Nat) : Nat := match t with
  | 0 => fi | 1 => hu | 2 => (match r with | 0 => l0 | _ => l1) | 3 => tx | 4 => (match r with | 24 => ln | _ => rs (r / 8) (r % 8)) | 5 => sb | 6 => ya r | 7 => h7 | 8 => h8 | 9 => f1 | 10 => f2 | 11 => f3 | 12 => hn | 13 => (match r with | 0 => m0 | _ => m1) | 14 => tb | 15 => (match r with | 24 => lt | _ => ts (r / 8) (r % 8)) | 16 => (match r with | 24 => lf | _ => fs (r / 8) (r % 8)) | 17 => s1 | 18 => s2 | 19 => yr r | 20 => im | 21 => tu | 22 => a1 | 23 => a2 | 24 => a3 | 25 => q1 | 26 => q2 | 27 => q3 | 28 => q4 | 29 => q5 | 30 => q6 | 31 => q7 | 32 => q8 | 33 => q9 | 34 => q10 | 35 => q11 | 36 => q12 | 37 => q13 | _ => q14
def reG (g : Geo) (ad : Nat → Nat → Nat) : Geo := (g.1, g.2.1, ad, gA g, gc g, gs g)
section INIT
variable {g : Geo} {h8 h7 : Nat} {ya yr : Nat → Nat} {rs ts fs : Nat → Nat → Nat} {im tu tx tb l0 m0 l1 m1 ln lt lf fi f1 f2 f3 sb s1 s2 hu hn a1 a2 a3 q1 q2 q3 q4 q5 q6 q7 q8 q9 q10 q11 q12 q13 q14 : Nat} {fr : Nat → Int32}
set_option maxHeartbeats 4000000 in
set_option maxRecDepth 100000 in
theorem W_yd (y : Nat) (hy : y < 3) {ad : Nat → Nat → Nat} (h1 : ad 6 y = ya y) (h2 : ad 19 y = yr y) (h3 : ∀ k, k < 8 → ad 4 (8 * y + k) = rs y k ∧ ad 15 (8 * y + k) = ts y k ∧ ad 16 (8 * y + k) = fs y k) (hq : (fun k => some (rs y k)) = (fun k => some (ad 4 (8 * y + k))) ∨ True) : yL g (rs y) (ts y) (fs y) 8 = (([7, 6, 5, 4, 3, 2, 1, 0] : List Nat).flatMap (fun i => [(4, 8 * y + i), (15, 8 * y + i), (16, 8 * y + i)])).map (fun q => (ad q.1 q.2, cel (reG g ad) (I0 fr) J0 q.1 q.2)) := by
  have e : ∀ i, i < 8 → rnL g (rs y i) (ts y i) (fs y i) = [(4, 8 * y + i), (15, 8 * y + i), (16, 8 * y + i)].map (fun q => (ad q.1 q.2, cel (reG g ad) (I0 fr) J0 q.1 q.2)) := by
    intro i hi
    obtain ⟨e1, e2, e3⟩ := h3 i hi
    rw [← e1, ← e2, ← e3]
    rfl
  show rnL g (rs y 7) (ts y 7) (fs y 7) ++ (rnL g (rs y 6) (ts y 6) (fs y 6) ++ (rnL g (rs y 5) (ts y 5) (fs y 5) ++ (rnL g (rs y 4) (ts y 4) (fs y 4) ++ (rnL g (rs y 3) (ts y 3) (fs y 3) ++ (rnL g (rs y 2) (ts y 2) (fs y 2) ++ (rnL g (rs y 1) (ts y 1) (fs y 1) ++ (rnL g (rs y 0) (ts y 0) (fs y 0) ++ []))))))) = _
  rw [e 7 (by decide), e 6 (by decide), e 5 (by decide), e 4 (by decide), e 3 (by decide), e 2 (by decide), e 1 (by decide), e 0 (by decide)]
  rfl
end INIT
