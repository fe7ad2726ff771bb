def CE (g : Geo) (ws ws' : va_W) : Prop := (∀ H : Heap, va_P (gD g) vwCl ws H → va_P (gD g) vwCl ws' H) ∧ ws.map Prod.fst = ws'.map Prod.fst
theorem CE.rf {g : Geo} {ws : va_W} : CE g ws ws := ⟨fun _ h => h, rfl⟩
theorem CE.app {g : Geo} {a a' b b' : va_W} (h1 : CE g a a') (h2 : CE g b b') : CE g (a ++ b) (a' ++ b') := by
  refine ⟨fun H h => va_P.ofMem (fun q hq => ?_), by rw [List.map_append, List.map_append, h1.2, h2.2]⟩
  rcases List.mem_append.mp hq with h3 | h3
  · exact (h1.1 H (va_P.ofMem (fun q hq => h.mem (List.mem_append_left _ hq)))).mem h3
  · exact (h2.1 H (va_P.ofMem (fun q hq => h.mem (List.mem_append_right _ hq)))).mem h3
theorem CE.cons {g : Geo} {x : Nat × va_E} {b b' : va_W} (h2 : CE g b b') : CE g (x :: b) (x :: b') := CE.app (a := [x]) (a' := [x]) CE.rf h2
theorem CE.D {g : Geo} {A : Nat → Prop} {ws ws' : va_W} (h : CE g ws ws') (hD : va_D A ws) : va_D A ws' := by
  rw [va_D.nd] at hD ⊢
  refine ⟨by rw [← h.2]; exact hD.1, fun q hq => ?_⟩
  have h1 : q.1 ∈ ws'.map Prod.fst := List.mem_map.mpr ⟨q, hq, rfl⟩
  rw [← h.2] at h1
  obtain ⟨q', h2, h3⟩ := List.mem_map.mp h1
  rw [← h3]
  exact hD.2 q' h2
def ydM (g : Geo) (h0 q1 : Nat) (f : Nat → Option Nat) (rs ts fs : Nat → Nat) : va_W := [(h0, .inr (6, [.ref q1, .int 0, .int 1, .int 0, .int 0])), (q1, .inl (gc g 3, 8, .inr (.inr (.inr (.inr f)))))] ++ yL g rs ts fs 8
theorem CE.arr {g : Geo} {a n : Nat} {cA : ClassId} {f f' : Nat → Option Nat} (h : ∀ j, j < n → f j = f' j) : CE g [(a, .inl (cA, n, .inr (.inr (.inr (.inr f)))))] [(a, .inl (cA, n, .inr (.inr (.inr (.inr f')))))] := by
  refine ⟨fun H hP => va_P.ofMem (fun q hq => ?_), rfl⟩
  rw [List.mem_singleton] at hq
  subst hq
  have h3 : H[a]? = some (vp_cell cA (n, .inr (.inr (.inr (.inr f))))) := hP.mem (q := (a, .inl (cA, n, .inr (.inr (.inr (.inr f)))))) (List.mem_singleton.mpr rfl)
  show H[a]? = some (vp_cell cA (n, .inr (.inr (.inr (.inr f')))))
  rw [h3, vp_cell_q, vp_cell_q, arrV_cg cA (fun j hj => by rw [h j hj])]
theorem CE.yd {g : Geo} {h0 q1 : Nat} {f : Nat → Option Nat} {rs ts fs : Nat → Nat} (h : ∀ k, k < 8 → some (rs k) = f k) : CE g (ydL g h0 q1 rs ts fs) (ydM g h0 q1 f rs ts fs) := CE.cons (CE.app (CE.arr h) CE.rf)
def W7M (g : Geo) (ad : Nat → Nat → Nat) (h0 : Nat) (ya yr : Nat → Nat) (rs ts fs : Nat → Nat → Nat) (im tu tx tb l0 m0 l1 m1 ln lt lf fi f1 f2 f3 sb s1 s2 hu hn a1 a2 a3 : Nat) : va_W := [(h0, .inr (7, [.ref (ya 0), .ref im, .ref tu, .ref tx, .ref l0, .ref l1, .ref ln, .ref fi, .ref sb, .ref hu, .ref a1, .ref a2, .ref a3, .int 0, .long 0])), (im, .inl (gc g 4, 2, .inr (.inr (.inr (.inr (fun k => some (ad 6 (1 + k))))))))] ++ (ydM g (ya 2) (yr 2) (fun k => some (ad 4 (8 * 2 + k))) (rs 2) (ts 2) (fs 2) ++ (ydM g (ya 1) (yr 1) (fun k => some (ad 4 (8 * 1 + k))) (rs 1) (ts 1) (fs 1) ++ ((a3, .inl (gc g 0, 8, .inl (fun _ => 0))) :: ((a2, .inl (gc g 0, 8, .inl (fun _ => 0))) :: ((a1, .inl (gc g 0, 8, .inl (fun _ => 0))) :: (([(hu, .inr (1, [.ref hn, .int 0, .int 0, .int 0, .int 0])), (hn, .inl (gc g 0, 6, .inl (upd (upd (upd (upd (upd (upd (fun _ => 0) 0 1) 1 0) 2 0) 3 0) 4 0) 5 1)))] : va_W) ++ (([(sb, .inr (5, [.ref s1, .ref s2, .int 0, .int 0, .int 0, .int 0, .int 0, .null])), (s1, .inl (gc g 0, 10, .inl (fun _ => 0))), (s2, .inl (gc g 0, 10, .inl (fun _ => 0)))] : va_W) ++ (([(fi, .inr (0, [.ref f1, .ref f2, .ref f3, .long 0, .int 0, .int 0])), (f1, .inl (gc g 0, 8, .inl (fun _ => 0))), (f2, .inl (gc g 0, 8, .inl (fun _ => 0))), (f3, .inl (gc g 0, 3, .inl (fun _ => 0)))] : va_W) ++ (rnL g ln lt lf ++ (([(l1, .inr (2, [.ref m1])), (m1, .inl (gc g 0, 6, .inl (va_cpy (stV 0) (fun _ => 0) 0 0 6)))] : va_W) ++ (([(l0, .inr (2, [.ref m0])), (m0, .inl (gc g 0, 6, .inl (va_cpy (stV 0) (fun _ => 0) 0 0 6)))] : va_W) ++ (([(tx, .inr (3, [.ref tb, .int 0, .int 0, .int 0, .int 0, .int 0, .int 0])), (tb, .inl (gc g 0, 200, .inl (fun _ => 0)))] : va_W) ++ ((tu, .inl (gc g 0, 3, .inl (upd (upd (upd (fun _ => 0) 0 2) 1 3) 2 10))) :: (ydM g (ya 0) (yr 0) (fun k => some (ad 4 (8 * 0 + k))) (rs 0) (ts 0) (fs 0) ++ []))))))))))))))
section INI2
variable {g : Geo} {h8 h7 : Nat} {ya yr : Nat → Nat} {rs ts fs : Nat → Nat → Nat} {im tu tx tb l0 m0 l1 m1 ln lt lf fi f1 f2 f3 sb s1 s2 hu hn a1 a2 a3 q1 q2 q3 q4 q5 q6 q7 q8 q9 q10 q11 q12 q13 q14 : Nat} {fr : Nat → Int32}
set_option maxHeartbeats 4000000 in
set_option maxRecDepth 100000 in
theorem W7_ce {ad : Nat → Nat → Nat} (h6 : ∀ r, ad 6 r = ya r) (h4 : ∀ y, y < 3 → ∀ k, k < 8 → ad 4 (8 * y + k) = rs y k) : CE g (W7 g h7 ya yr rs ts fs im tu tx tb l0 m0 l1 m1 ln lt lf fi f1 f2 f3 sb s1 s2 hu hn a1 a2 a3) (W7M g ad h7 ya yr rs ts fs im tu tx tb l0 m0 l1 m1 ln lt lf fi f1 f2 f3 sb s1 s2 hu hn a1 a2 a3) := by
  have hy : ∀ y, y < 3 → ∀ k, k < 8 → some (rs y k) = (fun k => some (ad 4 (8 * y + k))) k := fun y hy k hk => by show some (rs y k) = some (ad 4 (8 * y + k)); rw [h4 y hy k hk]
  unfold W7 W7M
  exact CE.app (CE.cons (CE.arr (fun j _ => by rw [h6]))) (CE.app (CE.yd (hy 2 (by decide))) (CE.app (CE.yd (hy 1 (by decide))) (CE.cons (CE.cons (CE.cons (CE.app CE.rf (CE.app CE.rf (CE.app CE.rf (CE.app CE.rf (CE.app CE.rf (CE.app CE.rf (CE.app CE.rf (CE.cons (CE.app (CE.yd (hy 0 (by decide))) CE.rf))))))))))))))
theorem W_ydM (y : Nat) (hy : y < 3) {ad : Nat → Nat → Nat} (h1 : ad 6 y = ya y) (h2 : ad 19 y = yr y) (h3 : ∀ k, k < 8 → ad 4 (8 * y + k) = rs y k ∧ ad 15 (8 * y + k) = ts y k ∧ ad 16 (8 * y + k) = fs y k) : ydM g (ya y) (yr y) (fun k => some (ad 4 (8 * y + k))) (rs y) (ts y) (fs y) = (ykL y).map (fun q => (ad q.1 q.2, cel (reG g ad) (I0 fr) J0 q.1 q.2)) := by
  unfold ydM ykL
  rw [List.map_append, ← W_yd (g := g) (ya := ya) (yr := yr) (rs := rs) (ts := ts) (fs := fs) (fr := fr) y hy h1 h2 h3 (Or.inr trivial), ← h1, ← h2]
  rfl
set_option maxHeartbeats 8000000 in
set_option maxRecDepth 100000 in
theorem W_all {ad : Nat → Nat → Nat} (had : ad = gadF h8 h7 ya yr rs ts fs im tu tx tb l0 m0 l1 m1 ln lt lf fi f1 f2 f3 sb s1 s2 hu hn a1 a2 a3 q1 q2 q3 q4 q5 q6 q7 q8 q9 q10 q11 q12 q13 q14) : mdL g h8 q1 q2 q3 q4 q5 q6 q7 q8 q9 q10 q11 q12 q13 q14 (upd (fun _ => 0) 169 1) (upd (upd (upd (fun _ => 0) 0 2) 1 3) 2 10) fr (upd (upd (fun _ => 0) 0 1) 5 1) ++ W7M g ad h7 ya yr rs ts fs im tu tx tb l0 m0 l1 m1 ln lt lf fi f1 f2 f3 sb s1 s2 hu hn a1 a2 a3 = keysP.map (fun q => (ad q.1 q.2, cel (reG g ad) (I0 fr) J0 q.1 q.2)) := by
  have e : ∀ y, y < 3 → ydM g (ya y) (yr y) (fun k => some (ad 4 (8 * y + k))) (rs y) (ts y) (fs y) = (ykL y).map (fun q => (ad q.1 q.2, cel (reG g ad) (I0 fr) J0 q.1 q.2)) := by
    intro y hy
    refine W_ydM y hy (by rw [had]; rfl) (by rw [had]; rfl) (fun k hk => ?_)
    have e1 : (8 * y + k) / 8 = y := by omega
    have e2 : (8 * y + k) % 8 = k := by omega
    have e3 : 8 * y + k ≠ 24 := by omega
    have key : ∀ (x : Nat) (F : Nat → Nat → Nat), (match 8 * y + k with | 24 => x | _ => F ((8 * y + k) / 8) ((8 * y + k) % 8)) = F y k := by
      intro x F
      rw [e1, e2]
      split
      · rename_i h; exact absurd h e3
      · rfl
    rw [had]
    exact ⟨key ln rs, key lt ts, key lf fs⟩
  unfold W7M
  rw [e 2 (by decide), e 1 (by decide), e 0 (by decide)]
  unfold keysP
  simp only [List.map_append, List.map_cons, List.map_nil]
  subst had
  rfl
theorem Inv_0 (hf : ∀ j, j < 12 → fr j = nI (if j % 6 < 4 then 1 else 200)) : Inv (I0 fr) J0 := by
  have b : ∀ {x : Int32} (k : Int32) {a c : Int}, x = k → (a ≤ k.toInt ∧ k.toInt ≤ c) → bd x a c := fun k a c e h => by rw [e]; exact h
  refine ⟨⟨0, by decide, rfl, rfl, rfl, rfl, fun k hk => absurd hk (by omega)⟩, fun y hy => ⟨Or.inl rfl, rfl, fun h => absurd h (by show ¬ (0 : Int32) = 1; decide)⟩, ⟨fun _ _ => rfl, b 2 rfl (by decide), b 3 rfl (by decide), b 10 rfl (by decide)⟩, ⟨fun j hj => ?_, b 1 rfl (by decide), b 1 rfl (by decide), b 1 rfl (by decide), b 1 rfl (by decide), b 200 rfl (by decide), b 200 rfl (by decide), by show (1 : Int32) ≤ 1; decide, by show (1 : Int32) ≤ 1; decide⟩, ⟨0, by decide, rfl, rfl, fun j hj => absurd hj (by omega)⟩, ⟨rfl, fun _ _ _ => ⟨rfl, rfl, rfl⟩⟩, fun r _ => ⟨rfl, rfl, b 0 rfl (by decide), b 0 rfl (by decide)⟩, fun k hk => ?_, rfl⟩
  · show fr j = va_cpy (stV 0) (fun _ => 0) 0 0 6 j
    rw [hf j (by omega)]
    rcases (show j = 0 ∨ j = 1 ∨ j = 2 ∨ j = 3 ∨ j = 4 ∨ j = 5 by omega) with rfl | rfl | rfl | rfl | rfl | rfl <;> rfl
  · rcases (show k = 0 ∨ k = 1 ∨ k = 2 ∨ k = 3 ∨ k = 4 ∨ k = 5 by omega) with rfl | rfl | rfl | rfl | rfl | rfl
    · exact ⟨rfl, b 1 rfl (by decide)⟩
    · exact ⟨rfl, b 0 rfl (by decide)⟩
    · exact ⟨rfl, b 0 rfl (by decide)⟩
    · exact ⟨rfl, b 0 rfl (by decide)⟩
    · exact ⟨rfl, b 0 rfl (by decide)⟩
    · exact ⟨rfl, b 1 rfl (by decide)⟩
end INI2
