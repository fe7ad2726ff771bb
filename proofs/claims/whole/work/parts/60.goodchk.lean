/-! runs too good: both ways to count, side by side -/
def frc {α : Type} (n : Nat) (k : Nat → α) : α := match n with | 0 => k 0 | m+1 => k (m+1)
def nxt (top : Nat) : List Nat → List Nat
  | [] => []
  | a :: r => if Nat.beq a top = true then (match nxt top r with | [] => [] | b :: r' => b :: b :: r') else (a + 1) :: r
def wys : List Nat → Nat × Nat
  | [] => (1, 0)
  | a :: r => match r with
    | [] => (1, 1)
    | b :: _ => match wys r with
      | (w, s) => if Nat.beq a b = true then (w * (r.length + 1) / (s + 1), s + 1) else (w * (r.length + 1), 1)
def incK {α : Type} : List Nat → Nat → Nat → (List Nat → α) → α
  | [], _, _, k => k []
  | h :: t, 0, w, k => frc (h + w) (fun x => k (x :: t))
  | h :: t, e + 1, w, k => match t with
    | [] => frc (h + w) (fun x => k [x])
    | _ :: _ => incK t e w (fun t' => k (h :: t'))
def gol (top mid : Nat) : Nat → List Nat → List Nat → List Nat
  | 0, _, _ => []
  | fu + 1, l, H =>
    if Nat.ble (l.getD mid 0) (l.headD 0) = true then
      incK H (l.headD 0 - l.getD mid 0) (wys l).1 (fun H' => match nxt top l with
        | [] => H'
        | b :: r => gol top mid fu (b :: r) H')
    else []
def sN (f : Nat → Nat) : Nat → Nat
  | 0 => 0
  | n + 1 => sN f n + f n
def bn (n : Nat) : Nat → Nat
  | 0 => 1
  | k + 1 => bn n k * (n - k) / (k + 1)
def rmu (n a c : Nat) : Nat := sN (fun k => if Nat.ble ((n + 1) / 2) k = true then bn n k * a ^ k * c ^ (n - k) else 0) (n + 1)
def mng (most mid d : Nat) : Nat := if Nat.ble most (mid + d - 1) = true then most else mid + d - 1
def cX (n d most : Nat) : Nat := sN (fun mid => rmu n (mid + 1) (most - mid) + (if d = 0 then 0 else rmu n mid (mng most mid d - mid + 1))) (most + 1)
def cY (n d most : Nat) : Nat := sN (fun mid => rmu n mid (most - mid + 1) + (if d = 0 then 0 else rmu n (mid + 1) (mng most mid d - mid))) (most + 1)
def sumL : List Nat → Nat
  | [] => 0
  | a :: l => a + sumL l
def allD (n most : Nat) : Nat → List Nat → Bool
  | d, [] => Nat.beq d 21
  | d, a :: l => Nat.beq (cX n d most) (cY n d most + sumL (a :: l)) && allD n most (d + 1) l
def chk (t n : Nat) : Bool := allD n (2 * t) 0 (gol (2 * t) ((n - 1) - (n - 1) / 2) 10000 (List.replicate n 0) (List.replicate 21 0))
theorem chk_ok : ∀ t, t < 6 → ∀ n, n < 6 → chk t (n + 1) = true := by decide +kernel
