/-! what is lined up stays so: the pictures' rectangles fill the whole's -/
theorem ysum_add {f : Nat → Nat} (a : Nat) : ∀ b : Nat, ysum f (a + b) = ysum f a + ysum (fun i => f (a + i)) b
  | 0 => rfl
  | b + 1 => by
    show ysum f (a + b) + f (a + b) = ysum f a + (ysum (fun i => f (a + i)) b + f (a + b))
    rw [ysum_add a b, Nat.add_assoc]
theorem ysum_cat {f s : Nat → Nat} : ∀ m : Nat, ysum f (ysum s m) = ysum (fun j => ysum (fun i => f (ysum s j + i)) (s j)) m
  | 0 => rfl
  | m + 1 => by
    show ysum f (ysum s m + s m) = ysum (fun j => ysum (fun i => f (ysum s j + i)) (s j)) m + ysum (fun i => f (ysum s m + i)) (s m)
    rw [ysum_add, ysum_cat m]
theorem ysum_tel {e : Nat → Nat} {K : Nat} (he : ∀ j, e j ≤ e (j + 1)) : ∀ m : Nat, e 0 ≤ e m ∧ ysum (fun j => (e (j + 1) - e j) * K) m = (e m - e 0) * K
  | 0 => ⟨Nat.le_refl _, by rw [Nat.sub_self, Nat.zero_mul]; rfl⟩
  | m + 1 => by
    obtain ⟨h1, h2⟩ := ysum_tel he m
    have h3 := he m
    refine ⟨by omega, ?_⟩
    show ysum (fun j => (e (j + 1) - e j) * K) m + (e (m + 1) - e m) * K = _
    rw [h2, ← Nat.add_mul]
    congr 1
    omega
theorem ysum_mul {f : Nat → Nat} {K : Nat} : ∀ m : Nat, ysum (fun j => f j * K) m = ysum f m * K
  | 0 => by rw [show ysum f 0 = 0 from rfl, Nat.zero_mul]; rfl
  | m + 1 => by
    show ysum (fun j => f j * K) m + f m * K = (ysum f m + f m) * K
    rw [ysum_mul m, Nat.add_mul]
def eE (X : Nat → Nat → Nat) (v c : Nat) : Nat := if c = 0 then nr (X 2 v) (X 4 v) else if c = 1 then nr (X 5 v) (X 7 v) else if c = 2 then nr (X 2 v + X 3 v) (X 4 v) else nr (X 5 v + X 6 v) (X 7 v)
def eA (X : Nat → Nat → Nat) (v : Nat) : Nat := (eE X v 2 - eE X v 0) * (eE X v 3 - eE X v 1)
section TILE
variable {M n : Nat} {T : Nat → Nat → Nat} {w h : Nat → Nat} {W H : Nat} {X : Nat → Nat → Nat}
theorem eE_02 {v : Nat} : eE X v 0 ≤ eE X v 2 := nr_mono (Nat.le_add_right _ _)
theorem eE_13 {v : Nat} : eE X v 1 ≤ eE X v 3 := nr_mono (Nat.le_add_right _ _)
theorem eE_2 (hT : zTok M n T) (hX : yLay M T w h W H X) (hw : yOk n w h) {v : Nat} (hv : v < M) : eE X v 2 ≤ W := nr_le (yGo hT hX hw hv).1 (yGo hT hX hw hv).2.2.2.2.1
theorem eE_3 (hT : zTok M n T) (hX : yLay M T w h W H X) (hw : yOk n w h) {v : Nat} (hv : v < M) : eE X v 3 ≤ H := nr_le (yGo hT hX hw hv).2.1 (yGo hT hX hw hv).2.2.2.2.2.1
theorem eA_cut (hT : zTok M n T) (hX : yLay M T w h W H X) (hw : yOk n w h) {v : Nat} (hv : v < M) (hc : ¬ T 1 v = 0) : ysum (fun j => eA X (T 4 v + j)) (T 6 v) = eA X v := by
  obtain ⟨q1, q2, q3, q4, q5, q6, q7⟩ := y_cut hT hv hc
  obtain ⟨g1, g2, -⟩ := yGo hT hX hw hv
  obtain ⟨p1, p2, -⟩ := yPo hT hX hw hv
  rcases q1 with c | c
  · obtain ⟨s1, s2⟩ := yShare1 hT hX hw hv c
    have t := ysum_tel (e := fun j => nr (X 2 v * X 0 v + X 3 v * ysum (fun j => X 1 v / X 1 (T 4 v + j) * X 0 (T 4 v + j)) j) (X 4 v * X 0 v)) (K := eE X v 3 - eE X v 1) (fun j => nr_mono (Nat.add_le_add_left (Nat.mul_le_mul_left _ (ysum_mono (Nat.le_succ j))) _)) (T 6 v)
    have e0 : nr (X 2 v * X 0 v + X 3 v * ysum (fun j => X 1 v / X 1 (T 4 v + j) * X 0 (T 4 v + j)) 0) (X 4 v * X 0 v) = eE X v 0 := by
      show nr (X 2 v * X 0 v + X 3 v * 0) (X 4 v * X 0 v) = nr (X 2 v) (X 4 v)
      rw [Nat.mul_zero, Nat.add_zero]
      exact nr_cross (Nat.mul_pos g1 p1) g1 (by simp only [Nat.mul_assoc, Nat.mul_comm, Nat.mul_left_comm])
    have eM : nr (X 2 v * X 0 v + X 3 v * ysum (fun j => X 1 v / X 1 (T 4 v + j) * X 0 (T 4 v + j)) (T 6 v)) (X 4 v * X 0 v) = eE X v 2 := by
      show _ = nr (X 2 v + X 3 v) (X 4 v)
      rw [s2, ← Nat.add_mul]
      exact nr_cross (Nat.mul_pos g1 p1) g1 (by simp only [Nat.mul_assoc, Nat.mul_comm, Nat.mul_left_comm])
    rw [show eA X v = (eE X v 2 - eE X v 0) * (eE X v 3 - eE X v 1) from rfl, ← e0, ← eM, ← t.2]
    refine ysum_congr _ fun j hj => ?_
    obtain ⟨x2, x3, x4, x5, x6, x7⟩ := hX.2.2.2.2.1 v hv c j hj
    show (nr (X 2 (T 4 v + j) + X 3 (T 4 v + j)) (X 4 (T 4 v + j)) - nr (X 2 (T 4 v + j)) (X 4 (T 4 v + j))) * (nr (X 5 (T 4 v + j) + X 6 (T 4 v + j)) (X 7 (T 4 v + j)) - nr (X 5 (T 4 v + j)) (X 7 (T 4 v + j))) = (nr (X 2 v * X 0 v + X 3 v * (ysum (fun j => X 1 v / X 1 (T 4 v + j) * X 0 (T 4 v + j)) j + X 1 v / X 1 (T 4 v + j) * X 0 (T 4 v + j))) (X 4 v * X 0 v) - nr (X 2 v * X 0 v + X 3 v * ysum (fun j => X 1 v / X 1 (T 4 v + j) * X 0 (T 4 v + j)) j) (X 4 v * X 0 v)) * (nr (X 5 v + X 6 v) (X 7 v) - nr (X 5 v) (X 7 v))
    rw [x2, x3, x4, x5, x6, x7, Nat.mul_add, Nat.add_assoc]
  · obtain ⟨s1, s2⟩ := yShare2 hT hX hw hv c
    have t := ysum_tel (e := fun j => nr (X 5 v * X 1 v + X 6 v * ysum (fun j => X 0 v / X 0 (T 4 v + j) * X 1 (T 4 v + j)) j) (X 7 v * X 1 v)) (K := eE X v 2 - eE X v 0) (fun j => nr_mono (Nat.add_le_add_left (Nat.mul_le_mul_left _ (ysum_mono (Nat.le_succ j))) _)) (T 6 v)
    have e0 : nr (X 5 v * X 1 v + X 6 v * ysum (fun j => X 0 v / X 0 (T 4 v + j) * X 1 (T 4 v + j)) 0) (X 7 v * X 1 v) = eE X v 1 := by
      show nr (X 5 v * X 1 v + X 6 v * 0) (X 7 v * X 1 v) = nr (X 5 v) (X 7 v)
      rw [Nat.mul_zero, Nat.add_zero]
      exact nr_cross (Nat.mul_pos g2 p2) g2 (by simp only [Nat.mul_assoc, Nat.mul_comm, Nat.mul_left_comm])
    have eM : nr (X 5 v * X 1 v + X 6 v * ysum (fun j => X 0 v / X 0 (T 4 v + j) * X 1 (T 4 v + j)) (T 6 v)) (X 7 v * X 1 v) = eE X v 3 := by
      show _ = nr (X 5 v + X 6 v) (X 7 v)
      rw [s2, ← Nat.add_mul]
      exact nr_cross (Nat.mul_pos g2 p2) g2 (by simp only [Nat.mul_assoc, Nat.mul_comm, Nat.mul_left_comm])
    rw [show eA X v = (eE X v 3 - eE X v 1) * (eE X v 2 - eE X v 0) from Nat.mul_comm _ _, ← e0, ← eM, ← t.2]
    refine ysum_congr _ fun j hj => ?_
    obtain ⟨x5, x6, x7, x2, x3, x4⟩ := hX.2.2.2.2.2 v hv c j hj
    show (nr (X 2 (T 4 v + j) + X 3 (T 4 v + j)) (X 4 (T 4 v + j)) - nr (X 2 (T 4 v + j)) (X 4 (T 4 v + j))) * (nr (X 5 (T 4 v + j) + X 6 (T 4 v + j)) (X 7 (T 4 v + j)) - nr (X 5 (T 4 v + j)) (X 7 (T 4 v + j))) = (nr (X 5 v * X 1 v + X 6 v * (ysum (fun j => X 0 v / X 0 (T 4 v + j) * X 1 (T 4 v + j)) j + X 0 v / X 0 (T 4 v + j) * X 1 (T 4 v + j))) (X 7 v * X 1 v) - nr (X 5 v * X 1 v + X 6 v * ysum (fun j => X 0 v / X 0 (T 4 v + j) * X 1 (T 4 v + j)) j) (X 7 v * X 1 v)) * (nr (X 2 v + X 3 v) (X 4 v) - nr (X 2 v) (X 4 v))
    rw [x2, x3, x4, x5, x6, x7, Nat.mul_add, Nat.add_assoc, Nat.mul_comm]
theorem eA_sum (hT : zTok M n T) (hX : yLay M T w h W H X) (hw : yOk n w h) : ∀ d v : Nat, v < M → T 7 v ≤ d → ysum (fun i => eA X (T 12 (T 3 v + i))) (T 0 v) = eA X v := by
  intro d
  induction d with
  | zero =>
    intro v hv hd
    rcases (hT.2.1 v hv).1 with q | q
    · rw [q.2.2.1]
      show 0 + eA X (T 12 (T 3 v + 0)) = _
      rw [Nat.zero_add, Nat.add_zero, q.2.2.2.2.2]
    · have := (q.2.2.2.2.2.1 0 q.2.2.2.1).2.2.2.1
      omega
  | succ d ih =>
    intro v hv hd
    rcases (hT.2.1 v hv).1 with q | q
    · rw [q.2.2.1]
      show 0 + eA X (T 12 (T 3 v + 0)) = _
      rw [Nat.zero_add, Nat.add_zero, q.2.2.2.2.2]
    · rw [← eA_cut hT hX hw hv (by have := q.1; omega)]
      obtain ⟨q1, q2, q3, q4, q5, q6, q7⟩ := q
      rw [← q7, ysum_cat]
      refine ysum_congr _ fun j hj => ?_
      obtain ⟨-, -, -, k7, -, -, k3⟩ := q6 j hj
      rw [← ih (T 4 v + j) (by omega) (by omega), k3]
      refine ysum_congr _ fun i _ => ?_
      rw [Nat.add_assoc]
theorem eA_all (hT : zTok M n T) (hX : yLay M T w h W H X) (hw : yOk n w h) : ysum (fun i => eA X (T 12 i)) n ≤ W * H := by
  have h0 := hT.1.1
  have s := eA_sum hT hX hw (T 7 0) 0 h0 (Nat.le_refl _)
  rw [hT.1.2.2.1, hT.1.2.2.2.1] at s
  have e : ysum (fun i => eA X (T 12 i)) n = ysum (fun i => eA X (T 12 (0 + i))) n := ysum_congr _ fun i _ => by rw [Nat.zero_add]
  rw [e, s]
  exact Nat.mul_le_mul (Nat.le_trans (Nat.sub_le _ _) (eE_2 hT hX hw h0)) (Nat.le_trans (Nat.sub_le _ _) (eE_3 hT hX hw h0))
end TILE
/-- the cost of areas a and worths u on a page of R points -/
def yU (a u : Nat → Nat) (n : Nat) : Nat := ysum (fun i => (a i * ysum u n - ysum a n * u i) + (ysum a n * u i - a i * ysum u n)) n
def yCo (a u : Nat → Nat) (R n : Nat) : Nat := R - ysum a n + yU a u n / ysum u n
theorem ysum_le {f g : Nat → Nat} : ∀ n : Nat, (∀ j, j < n → f j ≤ g j) → ysum f n ≤ ysum g n
  | 0, _ => Nat.le_refl _
  | n + 1, hh => Nat.add_le_add (ysum_le n fun j hj => hh j (by omega)) (hh n (by omega))
theorem ysum_plus {f g : Nat → Nat} : ∀ n : Nat, ysum (fun j => f j + g j) n = ysum f n + ysum g n
  | 0 => rfl
  | n + 1 => by
    show ysum (fun j => f j + g j) n + (f n + g n) = ysum f n + f n + (ysum g n + g n)
    rw [ysum_plus n]
    omega
theorem yU_le (a u : Nat → Nat) (n : Nat) : yU a u n ≤ 2 * ysum a n * ysum u n := by
  have h1 : yU a u n ≤ ysum (fun i => a i * ysum u n + u i * ysum a n) n := ysum_le n fun j _ => by
    rw [Nat.mul_comm (u j)]
    omega
  rw [ysum_plus, ysum_mul, ysum_mul, Nat.mul_comm (ysum u n), ← Nat.two_mul, ← Nat.mul_assoc] at h1
  exact h1
theorem yCo_le {a u : Nat → Nat} {R n : Nat} (ha : ysum a n ≤ R) (hu : 0 < ysum u n) : yCo a u R n ≤ 3 * R := by
  have h1 : yU a u n / ysum u n ≤ 2 * ysum a n := by
    rw [← Nat.mul_div_cancel (2 * ysum a n) hu]
    exact Nat.div_le_div_right (yU_le a u n)
  unfold yCo
  omega
