/-! of all lucks just one is first: the rows of all add up -/
def sg (f : Nat → Int) : Nat → Int
  | 0 => 0
  | n + 1 => sg f n + f n
def pg (f : Nat → Int) : Nat → Int
  | 0 => 1
  | n + 1 => pg f n * f n
/-- the product over all but p: b before it, a behind it -/
def wq (a b : Nat → Int) (p : Nat) : Nat → Int
  | 0 => 1
  | o + 1 => wq a b p o * (if o = p then 1 else if o < p then b o else a o)
theorem sg_congr {f g : Nat → Int} : ∀ n, (∀ k, k < n → f k = g k) → sg f n = sg g n := by
  intro n
  induction n with
  | zero => intro _; rfl
  | succ n ih => intro h; show sg f n + f n = sg g n + g n; rw [ih (fun k hk => h k (by omega)), h n (by omega)]
theorem pg_congr {f g : Nat → Int} : ∀ n, (∀ k, k < n → f k = g k) → pg f n = pg g n := by
  intro n
  induction n with
  | zero => intro _; rfl
  | succ n ih => intro h; show pg f n * f n = pg g n * g n; rw [ih (fun k hk => h k (by omega)), h n (by omega)]
theorem sg_add (f g : Nat → Int) : ∀ n, sg (fun k => f k + g k) n = sg f n + sg g n := by
  intro n
  induction n with
  | zero => rfl
  | succ n ih => show sg (fun k => f k + g k) n + (f n + g n) = (sg f n + f n) + (sg g n + g n); rw [ih]; omega
theorem sg_mul (f : Nat → Int) (c : Int) : ∀ n, sg (fun k => f k * c) n = sg f n * c := by
  intro n
  induction n with
  | zero => show (0 : Int) = 0 * c; rw [Int.zero_mul]
  | succ n ih => show sg (fun k => f k * c) n + f n * c = (sg f n + f n) * c; rw [ih, Int.add_mul]
theorem sg_zero : ∀ n, sg (fun _ => 0) n = 0 := by
  intro n
  induction n with
  | zero => rfl
  | succ n ih => show sg (fun _ => 0) n + 0 = 0; rw [ih]; rfl
theorem sg_swap (f : Nat → Nat → Int) (m : Nat) : ∀ n, sg (fun i => sg (fun p => f p i) m) n = sg (fun p => sg (f p) n) m := by
  intro n
  induction n with
  | zero => exact (sg_zero m).symm
  | succ n ih =>
    show sg (fun i => sg (fun p => f p i) m) n + sg (fun p => f p n) m = sg (fun p => sg (f p) n + f p n) m
    rw [ih, sg_add]
theorem sg_tele (P : Nat → Int) : ∀ n, sg (fun i => P (i + 1) - P i) n = P n - P 0 := by
  intro n
  induction n with
  | zero => show (0 : Int) = P 0 - P 0; omega
  | succ n ih => show sg (fun i => P (i + 1) - P i) n + (P (n + 1) - P n) = P (n + 1) - P 0; rw [ih]; omega
theorem wq_self {a b : Nat → Int} {m : Nat} : ∀ o, o ≤ m → wq a b m o = pg b o := by
  intro o
  induction o with
  | zero => intro _; rfl
  | succ o ih =>
    intro h
    show wq a b m o * (if o = m then 1 else if o < m then b o else a o) = pg b o * b o
    rw [ih (by omega), if_neg (by omega), if_pos (by omega)]
theorem wq_top {a b : Nat → Int} {m : Nat} : wq a b m (m + 1) = pg b m := by
  show wq a b m m * (if m = m then 1 else if m < m then b m else a m) = pg b m
  rw [if_pos rfl, Int.mul_one, wq_self m (Nat.le_refl _)]
/-- the step of a product, cut into its factors' steps -/
theorem pg_step (a b : Nat → Int) : ∀ m, pg a m - pg b m = sg (fun p => (a p - b p) * wq a b p m) m := by
  intro m
  induction m with
  | zero => rfl
  | succ m ih =>
    show pg a m * a m - pg b m * b m = sg (fun p => (a p - b p) * wq a b p (m + 1)) m + (a m - b m) * wq a b m (m + 1)
    rw [wq_top]
    have e : sg (fun p => (a p - b p) * wq a b p (m + 1)) m = sg (fun p => (a p - b p) * wq a b p m) m * a m := by
      rw [← sg_mul]
      refine sg_congr m (fun p hp => ?_)
      show (a p - b p) * (wq a b p m * (if m = p then 1 else if m < p then b m else a m)) = (a p - b p) * wq a b p m * a m
      rw [if_neg (by omega), if_neg (by omega), Int.mul_assoc]
    rw [e, ← ih, Int.sub_mul, Int.sub_mul]
    have e2 : pg b m * b m = b m * pg b m := Int.mul_comm _ _
    have e3 : pg b m * a m = a m * pg b m := Int.mul_comm _ _
    omega
/-- a sum over a window -/
theorem sg_win (f : Int → Int) (V lo : Int) (w : Nat) : ∀ n : Nat, V + 1 ≤ lo → lo + (w : Int) ≤ V + 1 + (n : Int) → sg (fun i => (if lo ≤ V + 1 + (i : Int) ∧ V + 1 + (i : Int) < lo + (w : Int) then 1 else 0) * f (V + 1 + (i : Int))) n = sg (fun u => f (lo + (u : Int))) w := by
  have key : ∀ n : Nat, V + 1 ≤ lo → sg (fun i => (if lo ≤ V + 1 + (i : Int) ∧ V + 1 + (i : Int) < lo + (w : Int) then 1 else 0) * f (V + 1 + (i : Int))) n = sg (fun u => f (lo + (u : Int))) (min w (V + 1 + (n : Int) - lo).toNat) := by
    intro n hlo
    induction n with
    | zero => rw [show min w (V + 1 + ((0 : Nat) : Int) - lo).toNat = 0 by omega]; rfl
    | succ n ih =>
      show sg (fun i => (if lo ≤ V + 1 + (i : Int) ∧ V + 1 + (i : Int) < lo + (w : Int) then 1 else 0) * f (V + 1 + (i : Int))) n + (if lo ≤ V + 1 + (n : Int) ∧ V + 1 + (n : Int) < lo + (w : Int) then 1 else 0) * f (V + 1 + (n : Int)) = _
      rw [ih]
      by_cases c : lo ≤ V + 1 + (n : Int) ∧ V + 1 + (n : Int) < lo + (w : Int)
      · rw [if_pos c, Int.one_mul]
        have e1 : min w (V + 1 + (n : Int) - lo).toNat = (V + 1 + (n : Int) - lo).toNat := by omega
        have e2 : min w (V + 1 + ((n + 1 : Nat) : Int) - lo).toNat = (V + 1 + (n : Int) - lo).toNat + 1 := by omega
        rw [e1, e2]
        show _ = sg (fun u => f (lo + (u : Int))) (V + 1 + (n : Int) - lo).toNat + f (lo + ((V + 1 + (n : Int) - lo).toNat : Int))
        rw [show lo + ((V + 1 + (n : Int) - lo).toNat : Int) = V + 1 + (n : Int) by omega]
      · rw [if_neg c, Int.zero_mul, Int.add_zero, show min w (V + 1 + ((n + 1 : Nat) : Int) - lo).toNat = min w (V + 1 + (n : Int) - lo).toNat by omega]
  intro n h1 h2
  rw [key n h1, show min w (V + 1 + (n : Int) - lo).toNat = w by omega]
def clZ (x : Int) (t : Nat) : Int := if x < 0 then 0 else if (2 * t + 1 : Int) < x then 2 * t + 1 else x
/-- how many lucks of the one at level l come to v at most -/
def Gv (t : Nat) (l v : Int) : Int := clZ (v - l + t + 1) t
theorem Gv_step (t : Nat) (l v : Int) : Gv t l v - Gv t l (v - 1) = if l - t ≤ v ∧ v < l - t + ((2 * t + 1 : Nat) : Int) then 1 else 0 := by
  unfold Gv clZ
  split <;> split <;> (try split) <;> (try split) <;> (try split) <;> omega
/-- the rows in which p is first, at what it shows being v -/
def wy (t : Nat) (l : Nat → Int) (m p : Nat) (v : Int) : Int := wq (fun o => Gv t (l o) v) (fun o => Gv t (l o) (v - 1)) p m
/-- the rows in which p is first -/
def rw1 (t : Nat) (l : Nat → Int) (m p : Nat) : Int := sg (fun u => wy t l m p (l p - t + (u : Int))) (2 * t + 1)
theorem pg_const {f : Nat → Int} {c : Int} : ∀ n, (∀ k, k < n → f k = c) → pg f n = c ^ n := by
  intro n
  induction n with
  | zero => intro _; exact (Int.pow_zero c).symm
  | succ n ih => intro h; show pg f n * f n = c ^ (n + 1); rw [ih (fun k hk => h k (by omega)), h n (by omega), Int.pow_succ]
/-- just one is first: the rows of all are all rows -/
theorem rw1_all (t : Nat) (l : Nat → Int) (m : Nat) (hm : 1 ≤ m) (hl : ∀ p, p < m → -10000 ≤ l p ∧ l p ≤ 10000) (ht : t ≤ 100) : sg (fun p => rw1 t l m p) m = ((2 * t + 1 : Nat) : Int) ^ m := by
  have e1 : ∀ v : Int, pg (fun o => Gv t (l o) v) m - pg (fun o => Gv t (l o) (v - 1)) m = sg (fun p => (if l p - t ≤ v ∧ v < l p - t + ((2 * t + 1 : Nat) : Int) then 1 else 0) * wy t l m p v) m := fun v => by
    rw [pg_step]
    exact sg_congr m (fun p hp => by rw [Gv_step]; rfl)
  have e2 : sg (fun i => pg (fun o => Gv t (l o) (-20000 + ((i + 1 : Nat) : Int))) m - pg (fun o => Gv t (l o) (-20000 + (i : Int))) m) 40000 = ((2 * t + 1 : Nat) : Int) ^ m := by
    rw [sg_tele (fun i => pg (fun o => Gv t (l o) (-20000 + (i : Int))) m) 40000]
    have a1 : pg (fun o => Gv t (l o) (-20000 + ((40000 : Nat) : Int))) m = ((2 * t + 1 : Nat) : Int) ^ m := pg_const m (fun k hk => by
      have := hl k hk
      show clZ _ t = _
      unfold clZ
      split
      · omega
      · split <;> omega)
    have a0 : pg (fun o => Gv t (l o) (-20000 + ((0 : Nat) : Int))) m = 0 := by
      rw [pg_const (c := 0) m (fun k hk => by
        have := hl k hk
        show clZ _ t = _
        unfold clZ
        rw [if_pos (by omega)])]
      exact Int.zero_pow (by omega)
    show pg (fun o => Gv t (l o) (-20000 + ((40000 : Nat) : Int))) m - pg (fun o => Gv t (l o) (-20000 + ((0 : Nat) : Int))) m = _
    rw [a1, a0]
    omega
  rw [← e2]
  have e3 : ∀ i : Nat, pg (fun o => Gv t (l o) (-20000 + ((i + 1 : Nat) : Int))) m - pg (fun o => Gv t (l o) (-20000 + (i : Int))) m = sg (fun p => (if l p - t ≤ -20000 + 1 + (i : Int) ∧ -20000 + 1 + (i : Int) < l p - t + ((2 * t + 1 : Nat) : Int) then 1 else 0) * wy t l m p (-20000 + 1 + (i : Int))) m := fun i => by
    rw [← e1, show -20000 + 1 + (i : Int) - 1 = -20000 + (i : Int) by omega, show -20000 + ((i + 1 : Nat) : Int) = -20000 + 1 + (i : Int) by omega]
  rw [sg_congr 40000 (fun i _ => e3 i), sg_swap (fun p i => (if l p - t ≤ -20000 + 1 + (i : Int) ∧ -20000 + 1 + (i : Int) < l p - t + ((2 * t + 1 : Nat) : Int) then 1 else 0) * wy t l m p (-20000 + 1 + (i : Int))) m 40000]
  refine sg_congr m (fun p hp => ?_)
  have := hl p hp
  unfold rw1
  rw [sg_win (fun v => wy t l m p v) (-20000) (l p - t) (2 * t + 1) 40000 (by omega) (by omega)]
