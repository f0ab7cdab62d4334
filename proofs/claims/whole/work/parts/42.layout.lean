/-! THE LAY-OUT in whole numbers: X c v, c = 0 width, 1 height, 2 left, 3 across, 4 its points, 5 top, 6 down, 7 its points -/
theorem y_ac_congr {x x' y y' : Nat → Nat} {p : Nat} : ∀ n : Nat, (∀ j, j < n → x (p + j) = x' (p + j) ∧ y (p + j) = y' (p + j)) → y_ac x y p n = y_ac x' y' p n
  | 0, _ => rfl
  | n + 1, h => by
    show ((y_ac x y p n).1 * y (p + n) + x (p + n) * (y_ac x y p n).2, (y_ac x y p n).2 * y (p + n)) = ((y_ac x' y' p n).1 * y' (p + n) + x' (p + n) * (y_ac x' y' p n).2, (y_ac x' y' p n).2 * y' (p + n))
    rw [y_ac_congr n (fun j hj => h j (by omega)), (h n (by omega)).1, (h n (by omega)).2]
theorem ysum_congr {f g : Nat → Nat} : ∀ n : Nat, (∀ j, j < n → f j = g j) → ysum f n = ysum g n
  | 0, _ => rfl
  | n + 1, h => by
    show ysum f n + f n = ysum g n + g n
    rw [ysum_congr n (fun j hj => h j (by omega)), h n (by omega)]
theorem ysum_mono {f : Nat → Nat} {m n : Nat} (h : m ≤ n) : ysum f m ≤ ysum f n := by
  induction n with
  | zero =>
    obtain rfl : m = 0 := by omega
    exact Nat.le_refl _
  | succ n ih =>
    by_cases e : m = n + 1
    · rw [e]; exact Nat.le_refl _
    · exact Nat.le_trans (ih (by omega)) (Nat.le_add_right _ _)
def yAs (T : Nat → Nat → Nat) (w h : Nat → Nat) (r : Nat → Nat × Nat) (v : Nat) : Nat × Nat := if T 1 v = 0 then (w (T 3 v), h (T 3 v)) else if T 1 v = 1 then y_ac (fun i => (r i).1) (fun i => (r i).2) (T 4 v) (T 6 v) else ((y_ac (fun i => (r i).2) (fun i => (r i).1) (T 4 v) (T 6 v)).2, (y_ac (fun i => (r i).2) (fun i => (r i).1) (T 4 v) (T 6 v)).1)
def yA (T : Nat → Nat → Nat) (w h : Nat → Nat) : Nat → Nat → Nat × Nat
  | 0, v => (w (T 3 v), h (T 3 v))
  | f + 1, v => yAs T w h (yA T w h f) v
def yBr (a b W H c : Nat) : Nat := if c = 3 then (if W * b ≤ H * a then W else H * a) else if c = 4 then (if W * b ≤ H * a then 1 else b) else if c = 6 then (if W * b ≤ H * a then W * b else H) else if c = 7 then (if W * b ≤ H * a then a else 1) else 0
def yBc (T : Nat → Nat → Nat) (A : Nat → Nat × Nat) (r : Nat → Nat) (v c : Nat) : Nat :=
  if T 1 (T 8 v) = 1 then (if c = 2 then r 2 * (A (T 8 v)).1 + r 3 * ysum (fun j => (A (T 8 v)).2 / (A (T 4 (T 8 v) + j)).2 * (A (T 4 (T 8 v) + j)).1) (T 9 v) else if c = 3 then r 3 * ((A (T 8 v)).2 / (A v).2 * (A v).1) else if c = 4 then r 4 * (A (T 8 v)).1 else r c)
  else (if c = 5 then r 5 * (A (T 8 v)).2 + r 6 * ysum (fun j => (A (T 8 v)).1 / (A (T 4 (T 8 v) + j)).1 * (A (T 4 (T 8 v) + j)).2) (T 9 v) else if c = 6 then r 6 * ((A (T 8 v)).1 / (A v).1 * (A v).2) else if c = 7 then r 7 * (A (T 8 v)).2 else r c)
def yB (T : Nat → Nat → Nat) (A : Nat → Nat × Nat) (W H : Nat) : Nat → Nat → Nat → Nat
  | 0, _ => yBr (A 0).1 (A 0).2 W H
  | f + 1, v => if v = 0 then yBr (A 0).1 (A 0).2 W H else yBc T A (yB T A W H f (T 8 v)) v
def yX (T : Nat → Nat → Nat) (w h : Nat → Nat) (W H c v : Nat) : Nat := if c = 0 then (yA T w h 4 v).1 else if c = 1 then (yA T w h 4 v).2 else yB T (yA T w h 4) W H 8 v c
def yLay (M : Nat) (T : Nat → Nat → Nat) (w h : Nat → Nat) (W H : Nat) (X : Nat → Nat → Nat) : Prop :=
  (∀ v, v < M → T 1 v = 0 → X 0 v = w (T 3 v) ∧ X 1 v = h (T 3 v)) ∧
  (∀ v, v < M → T 1 v = 1 → X 0 v = (y_ac (X 0) (X 1) (T 4 v) (T 6 v)).1 ∧ X 1 v = (y_ac (X 0) (X 1) (T 4 v) (T 6 v)).2) ∧
  (∀ v, v < M → T 1 v = 2 → X 0 v = (y_ac (X 1) (X 0) (T 4 v) (T 6 v)).2 ∧ X 1 v = (y_ac (X 1) (X 0) (T 4 v) (T 6 v)).1) ∧
  (X 2 0 = 0 ∧ X 3 0 = (if W * X 1 0 ≤ H * X 0 0 then W else H * X 0 0) ∧ X 4 0 = (if W * X 1 0 ≤ H * X 0 0 then 1 else X 1 0) ∧ X 5 0 = 0 ∧ X 6 0 = (if W * X 1 0 ≤ H * X 0 0 then W * X 1 0 else H) ∧ X 7 0 = (if W * X 1 0 ≤ H * X 0 0 then X 0 0 else 1)) ∧
  (∀ v, v < M → T 1 v = 1 → ∀ j, j < T 6 v → yPa T X v j) ∧
  (∀ v, v < M → T 1 v = 2 → ∀ j, j < T 6 v → yPd T X v j)
section LAYOUT
variable {M n : Nat} {T : Nat → Nat → Nat} {w h : Nat → Nat} {W H : Nat}
theorem yAs_congr (hT : zTok M n T) {r s : Nat → Nat × Nat} {v : Nat} (hv : v < M) (hr : ∀ j, j < T 6 v → r (T 4 v + j) = s (T 4 v + j)) : yAs T w h r v = yAs T w h s v := by
  unfold yAs
  rw [y_ac_congr (x := fun i => (r i).1) (x' := fun i => (s i).1) (y := fun i => (r i).2) (y' := fun i => (s i).2) (T 6 v) (fun j hj => by rw [hr j hj]; exact ⟨rfl, rfl⟩), y_ac_congr (x := fun i => (r i).2) (x' := fun i => (s i).2) (y := fun i => (r i).1) (y' := fun i => (s i).1) (T 6 v) (fun j hj => by rw [hr j hj]; exact ⟨rfl, rfl⟩)]
theorem yA_st (hT : zTok M n T) : ∀ f v : Nat, v < M → T 7 v ≤ f → yA T w h f v = yA T w h (f + 1) v
  | 0, v, hv, hf => by
    show (w (T 3 v), h (T 3 v)) = yAs T w h (yA T w h 0) v
    rcases (hT.2.1 v hv).1 with q | q
    · unfold yAs
      rw [if_pos q.1]
    · have := (q.2.2.2.2.2.1 0 q.2.2.2.1).2.2.2.1
      omega
  | f + 1, v, hv, hf => by
    show yAs T w h (yA T w h f) v = yAs T w h (yA T w h (f + 1)) v
    refine yAs_congr hT hv fun j hj => ?_
    rcases (hT.2.1 v hv).1 with q | q
    · have := q.2.1
      omega
    · have h1 := (q.2.2.2.2.2.1 j hj).2.2.2.1
      have h2 := q.2.2.2.2.1
      exact yA_st hT f (T 4 v + j) (by omega) (by omega)
theorem yA_eq (hT : zTok M n T) {v : Nat} (hv : v < M) : yA T w h 4 v = yAs T w h (yA T w h 4) v := yA_st hT 4 v hv (by have := (hT.2.1 v hv).2.1; omega)
theorem yB_st (hT : zTok M n T) {A : Nat → Nat × Nat} : ∀ f v : Nat, v < M → v ≤ f → yB T A W H f v = yB T A W H (f + 1) v
  | 0, v, hv, hf => by
    obtain rfl : v = 0 := by omega
    rfl
  | f + 1, v, hv, hf => by
    show (if v = 0 then yBr (A 0).1 (A 0).2 W H else yBc T A (yB T A W H f (T 8 v)) v) = (if v = 0 then yBr (A 0).1 (A 0).2 W H else yBc T A (yB T A W H (f + 1) (T 8 v)) v)
    by_cases e : v = 0
    · rw [if_pos e, if_pos e]
    · have := (hT.2.2.1 v hv (by omega)).1
      rw [if_neg e, if_neg e, yB_st hT f (T 8 v) (by omega) (by omega)]
theorem yB_eq (hT : zTok M n T) {A : Nat → Nat × Nat} {v : Nat} (hv : v < M) (h0 : 0 < v) : yB T A W H 8 v = yBc T A (yB T A W H 8 (T 8 v)) v := by
  have := hT.1.2.1
  rw [yB_st hT 8 v hv (by omega)]
  show (if v = 0 then yBr (A 0).1 (A 0).2 W H else yBc T A (yB T A W H 8 (T 8 v)) v) = _
  rw [if_neg (by omega)]
theorem yX_lay (hT : zTok M n T) : yLay M T w h W H (yX T w h W H) := by
  have hs : ∀ v, v < M → yAs T w h (yA T w h 4) v = yA T w h 4 v := fun v hv => (yA_eq hT hv).symm
  refine ⟨fun v hv hc => ?_, fun v hv hc => ?_, fun v hv hc => ?_, ⟨rfl, rfl, rfl, rfl, rfl, rfl⟩, fun v hv hc j hj => ?_, fun v hv hc j hj => ?_⟩
  · show (yA T w h 4 v).1 = _ ∧ (yA T w h 4 v).2 = _
    rw [← hs v hv]
    unfold yAs
    rw [if_pos hc]
    exact ⟨rfl, rfl⟩
  · show (yA T w h 4 v).1 = _ ∧ (yA T w h 4 v).2 = _
    rw [← hs v hv]
    unfold yAs
    rw [if_neg (by omega), if_pos hc]
    exact ⟨rfl, rfl⟩
  · show (yA T w h 4 v).1 = _ ∧ (yA T w h 4 v).2 = _
    rw [← hs v hv]
    unfold yAs
    rw [if_neg (by omega), if_neg (by omega)]
    exact ⟨rfl, rfl⟩
  · rcases (hT.2.1 v hv).1 with q | q
    · have := q.1
      omega
    · obtain ⟨k1, k2, k3, -⟩ := q.2.2.2.2.2.1 j hj
      have hp := q.2.2.2.2.1
      have e := yB_eq (W := W) (H := H) hT (A := yA T w h 4) (v := T 4 v + j) (by omega) (by have := q.2.2.1; omega)
      rw [k2] at e
      have e2 : ∀ c, yB T (yA T w h 4) W H 8 (T 4 v + j) c = yBc T (yA T w h 4) (yB T (yA T w h 4) W H 8 v) (T 4 v + j) c := fun c => by rw [e]
      unfold yBc at e2
      rw [k2, k3] at e2
      exact ⟨(e2 2).trans (if_pos hc), (e2 3).trans (if_pos hc), (e2 4).trans (if_pos hc), (e2 5).trans (if_pos hc), (e2 6).trans (if_pos hc), (e2 7).trans (if_pos hc)⟩
  · rcases (hT.2.1 v hv).1 with q | q
    · have := q.1
      omega
    · obtain ⟨k1, k2, k3, -⟩ := q.2.2.2.2.2.1 j hj
      have hp := q.2.2.2.2.1
      have e := yB_eq (W := W) (H := H) hT (A := yA T w h 4) (v := T 4 v + j) (by omega) (by have := q.2.2.1; omega)
      rw [k2] at e
      have e2 : ∀ c, yB T (yA T w h 4) W H 8 (T 4 v + j) c = yBc T (yA T w h 4) (yB T (yA T w h 4) W H 8 v) (T 4 v + j) c := fun c => by rw [e]
      unfold yBc at e2
      rw [k2, k3] at e2
      have hc2 : ¬ T 1 v = 1 := by omega
      exact ⟨(e2 5).trans (if_neg hc2), (e2 6).trans (if_neg hc2), (e2 7).trans (if_neg hc2), (e2 2).trans (if_neg hc2), (e2 3).trans (if_neg hc2), (e2 4).trans (if_neg hc2)⟩
/-- parts one behind the other: sizes -/
theorem y_ac_ok {x y s : Nat → Nat} {p : Nat} : ∀ m : Nat, (∀ j, j < m + 1 → 0 < x (p + j) ∧ 0 < y (p + j) ∧ 2 * x (p + j) ≤ 24 ^ s j ∧ 2 * y (p + j) ≤ 24 ^ s j) → 0 < (y_ac x y p (m + 1)).1 ∧ 0 < (y_ac x y p (m + 1)).2 ∧ 2 * (y_ac x y p (m + 1)).1 ≤ 24 ^ ysum s (m + 1) ∧ 2 * (y_ac x y p (m + 1)).2 ≤ 24 ^ ysum s (m + 1)
  | 0, hh => by
    obtain ⟨h1, h2, h3, h4⟩ := hh 0 (by omega)
    show 0 < 0 * y (p + 0) + x (p + 0) * 1 ∧ 0 < 1 * y (p + 0) ∧ 2 * (0 * y (p + 0) + x (p + 0) * 1) ≤ 24 ^ (0 + s 0) ∧ 2 * (1 * y (p + 0)) ≤ 24 ^ (0 + s 0)
    rw [Nat.zero_add, Nat.zero_mul, Nat.zero_add, Nat.mul_one, Nat.one_mul]
    exact ⟨h1, h2, h3, h4⟩
  | m + 1, hh => by
    obtain ⟨h1, h2, h3, h4⟩ := hh (m + 1) (by omega)
    obtain ⟨k1, k2, k3, k4⟩ := y_ac_ok (x := x) (y := y) (s := s) (p := p) m (fun j hj => hh j (by omega))
    show 0 < (y_ac x y p (m + 1)).1 * y (p + (m + 1)) + x (p + (m + 1)) * (y_ac x y p (m + 1)).2 ∧ 0 < (y_ac x y p (m + 1)).2 * y (p + (m + 1)) ∧ 2 * ((y_ac x y p (m + 1)).1 * y (p + (m + 1)) + x (p + (m + 1)) * (y_ac x y p (m + 1)).2) ≤ 24 ^ (ysum s (m + 1) + s (m + 1)) ∧ 2 * ((y_ac x y p (m + 1)).2 * y (p + (m + 1))) ≤ 24 ^ (ysum s (m + 1) + s (m + 1))
    have e1 := Nat.mul_le_mul k3 h4
    have e2 := Nat.mul_le_mul k4 h3
    have e3 := Nat.mul_le_mul k4 h4
    rw [← Nat.pow_add] at e1 e2 e3
    have f1 : 2 * (y_ac x y p (m + 1)).1 * (2 * y (p + (m + 1))) = 4 * ((y_ac x y p (m + 1)).1 * y (p + (m + 1))) := by rw [Nat.mul_mul_mul_comm]
    have f2 : 2 * (y_ac x y p (m + 1)).2 * (2 * x (p + (m + 1))) = 4 * (x (p + (m + 1)) * (y_ac x y p (m + 1)).2) := by rw [Nat.mul_mul_mul_comm, Nat.mul_comm (x (p + (m + 1)))]
    have f3 : 2 * (y_ac x y p (m + 1)).2 * (2 * y (p + (m + 1))) = 4 * ((y_ac x y p (m + 1)).2 * y (p + (m + 1))) := by rw [Nat.mul_mul_mul_comm]
    have g1 := Nat.mul_pos k1 h2
    have g2 := Nat.mul_pos k2 h2
    omega
theorem y_ac_dv {x y : Nat → Nat} {p : Nat} : ∀ m j : Nat, j < m → y (p + j) ∣ (y_ac x y p m).2
  | 0, j, hj => by omega
  | m + 1, j, hj => by
    show y (p + j) ∣ (y_ac x y p m).2 * y (p + m)
    by_cases e : j = m
    · rw [e]
      exact Nat.dvd_mul_left _ _
    · exact Nat.dvd_trans (y_ac_dv m j (by omega)) (Nat.dvd_mul_right _ _)
theorem y_ac_sum {x y : Nat → Nat} {p : Nat} : ∀ m K : Nat, (∀ j, j < m → 0 < y (p + j)) → K * (y_ac x y p m).1 = ysum (fun j => K * (y_ac x y p m).2 / y (p + j) * x (p + j)) m
  | 0, K, _ => rfl
  | m + 1, K, hy => by
    have ih := y_ac_sum (x := x) (y := y) (p := p) m (K * y (p + m)) (fun j hj => hy j (by omega))
    have e : K * ((y_ac x y p m).2 * y (p + m)) = K * y (p + m) * (y_ac x y p m).2 := by simp only [Nat.mul_assoc, Nat.mul_comm, Nat.mul_left_comm]
    show K * ((y_ac x y p m).1 * y (p + m) + x (p + m) * (y_ac x y p m).2) = ysum (fun j => K * ((y_ac x y p m).2 * y (p + m)) / y (p + j) * x (p + j)) m + K * ((y_ac x y p m).2 * y (p + m)) / y (p + m) * x (p + m)
    rw [e, ← ih]
    have e2 : K * y (p + m) * (y_ac x y p m).2 / y (p + m) = K * (y_ac x y p m).2 := by
      rw [Nat.mul_right_comm]
      exact Nat.mul_div_cancel _ (hy m (by omega))
    rw [e2, Nat.mul_add]
    simp only [Nat.mul_assoc, Nat.mul_comm, Nat.mul_left_comm]
theorem yPos (hT : zTok M n T) {X : Nat → Nat → Nat} (hX : yLay M T w h W H X) (hw : ∀ i, i < n → 0 < w i ∧ w i ≤ 12 ∧ 0 < h i ∧ h i ≤ 12) : ∀ d v : Nat, v < M → T 7 v ≤ d → 0 < X 0 v ∧ 0 < X 1 v ∧ 2 * X 0 v ≤ 24 ^ T 0 v ∧ 2 * X 1 v ≤ 24 ^ T 0 v := by
  intro d
  induction d with
  | zero =>
    intro v hv hd
    rcases (hT.2.1 v hv).1 with q | q
    · obtain ⟨a1, a2⟩ := hX.1 v hv q.1
      have a3 := hw (T 3 v) q.2.2.2.2.1
      rw [a1, a2, q.2.2.1]
      omega
    · have := (q.2.2.2.2.2.1 0 q.2.2.2.1).2.2.2.1
      omega
  | succ d ih =>
    intro v hv hd
    rcases (hT.2.1 v hv).1 with q | q
    · obtain ⟨a1, a2⟩ := hX.1 v hv q.1
      have a3 := hw (T 3 v) q.2.2.2.2.1
      rw [a1, a2, q.2.2.1]
      omega
    · obtain ⟨q1, q2, q3, q4, q5, q6, q7⟩ := q
      have hp : ∀ j, j < T 6 v → 0 < X 0 (T 4 v + j) ∧ 0 < X 1 (T 4 v + j) ∧ 2 * X 0 (T 4 v + j) ≤ 24 ^ T 0 (T 4 v + j) ∧ 2 * X 1 (T 4 v + j) ≤ 24 ^ T 0 (T 4 v + j) := fun j hj => ih (T 4 v + j) (by omega) (by have := (q6 j hj).2.2.2.1; omega)
      obtain ⟨m, hm⟩ : ∃ m, T 6 v = m + 1 := ⟨T 6 v - 1, by omega⟩
      rcases q1 with c | c
      · obtain ⟨e1, e2⟩ := hX.2.1 v hv c
        have r := y_ac_ok (x := X 0) (y := X 1) (s := fun i => T 0 (T 4 v + i)) (p := T 4 v) m (fun j hj => hp j (by omega))
        rw [← hm, q7] at r
        rw [e1, e2]
        exact r
      · obtain ⟨e1, e2⟩ := hX.2.2.1 v hv c
        have r := y_ac_ok (x := X 1) (y := X 0) (s := fun i => T 0 (T 4 v + i)) (p := T 4 v) m (fun j hj => ⟨(hp j (by omega)).2.1, (hp j (by omega)).1, (hp j (by omega)).2.2.2, (hp j (by omega)).2.2.1⟩)
        rw [← hm, q7] at r
        rw [e1, e2]
        exact ⟨r.2.1, r.1, r.2.2.2, r.2.2.1⟩
end LAYOUT
