/-! what holds at every node of a lay-out -/
section LAYOUT2
variable {M n : Nat} {T : Nat → Nat → Nat} {w h : Nat → Nat} {W H : Nat} {X : Nat → Nat → Nat}
def yOk (n : Nat) (w h : Nat → Nat) : Prop := ∀ i, i < n → 0 < w i ∧ w i ≤ 12 ∧ 0 < h i ∧ h i ≤ 12
theorem yPo (hT : zTok M n T) (hX : yLay M T w h W H X) (hw : yOk n w h) {v : Nat} (hv : v < M) : 0 < X 0 v ∧ 0 < X 1 v ∧ 2 * X 0 v ≤ 24 ^ T 0 v ∧ 2 * X 1 v ≤ 24 ^ T 0 v := yPos hT hX hw (T 7 v) v hv (Nat.le_refl _)
theorem y_cut (hT : zTok M n T) {v : Nat} (hv : v < M) (hc : ¬ T 1 v = 0) : zT2 M T v := by
  rcases (hT.2.1 v hv).1 with q | q
  · exact absurd q.1 hc
  · exact q
theorem yShare1 (hT : zTok M n T) (hX : yLay M T w h W H X) (hw : yOk n w h) {v : Nat} (hv : v < M) (hc : T 1 v = 1) : (∀ j, j < T 6 v → X 1 v / X 1 (T 4 v + j) * X 0 (T 4 v + j) * X 1 (T 4 v + j) = X 1 v * X 0 (T 4 v + j)) ∧ ysum (fun j => X 1 v / X 1 (T 4 v + j) * X 0 (T 4 v + j)) (T 6 v) = X 0 v := by
  obtain ⟨q1, q2, q3, q4, q5, q6, q7⟩ := y_cut hT hv (by omega)
  obtain ⟨e1, e2⟩ := hX.2.1 v hv hc
  refine ⟨fun j hj => ?_, ?_⟩
  · have dv : X 1 (T 4 v + j) ∣ X 1 v := by rw [e2]; exact y_ac_dv (T 6 v) j hj
    rw [Nat.mul_right_comm, Nat.div_mul_cancel dv]
  · have s := y_ac_sum (x := X 0) (y := X 1) (p := T 4 v) (T 6 v) 1 (fun j hj => (yPo hT hX hw (show T 4 v + j < M by omega)).2.1)
    rw [Nat.one_mul, Nat.one_mul, ← e2] at s
    rw [e1]
    exact s.symm
theorem yShare2 (hT : zTok M n T) (hX : yLay M T w h W H X) (hw : yOk n w h) {v : Nat} (hv : v < M) (hc : T 1 v = 2) : (∀ j, j < T 6 v → X 0 v / X 0 (T 4 v + j) * X 1 (T 4 v + j) * X 0 (T 4 v + j) = X 0 v * X 1 (T 4 v + j)) ∧ ysum (fun j => X 0 v / X 0 (T 4 v + j) * X 1 (T 4 v + j)) (T 6 v) = X 1 v := by
  obtain ⟨q1, q2, q3, q4, q5, q6, q7⟩ := y_cut hT hv (by omega)
  obtain ⟨e1, e2⟩ := hX.2.2.1 v hv hc
  refine ⟨fun j hj => ?_, ?_⟩
  · have dv : X 0 (T 4 v + j) ∣ X 0 v := by rw [e1]; exact y_ac_dv (T 6 v) j hj
    rw [Nat.mul_right_comm, Nat.div_mul_cancel dv]
  · have s := y_ac_sum (x := X 1) (y := X 0) (p := T 4 v) (T 6 v) 1 (fun j hj => (yPo hT hX hw (show T 4 v + j < M by omega)).1)
    rw [Nat.one_mul, Nat.one_mul, ← e1] at s
    rw [e2]
    exact s.symm
def yGd (T : Nat → Nat → Nat) (X : Nat → Nat → Nat) (W H v : Nat) : Prop := 0 < X 4 v ∧ 0 < X 7 v ∧ X 4 v ≤ 24 ^ T 10 v ∧ X 7 v ≤ 24 ^ T 11 v ∧ X 2 v + X 3 v ≤ W * X 4 v ∧ X 5 v + X 6 v ≤ H * X 7 v ∧ X 3 v * X 7 v * X 1 v = X 6 v * X 4 v * X 0 v
theorem y_24 {a : Nat} (h : a ≤ 4) : 24 ^ a ≤ 24 ^ 4 := Nat.pow_le_pow_right (by decide) h
theorem yGood (hT : zTok M n T) (hX : yLay M T w h W H X) (hw : yOk n w h) : ∀ b v : Nat, v < b → v < M → yGd T X W H v := by
  intro b
  induction b with
  | zero => intro v h1 _; omega
  | succ b ih =>
    intro v h1 hv
    by_cases h0 : v = 0
    · subst h0
      obtain ⟨p1, p2, p3, p4⟩ := yPo hT hX hw hv
      obtain ⟨x2, x3, x4, x5, x6, x7⟩ := hX.2.2.2.1
      have t0 := hT.1.2.2.1
      have t4 := hT.1.2.2.2.2.2.1
      have e1 := hT.1.2.2.2.2.2.2.1
      have e2 := hT.1.2.2.2.2.2.2.2
      have b1 := y_24 (a := T 0 0) (by omega)
      unfold yGd
      rw [x2, x3, x4, x5, x6, x7, e1, e2]
      by_cases f : W * X 1 0 ≤ H * X 0 0
      · simp only [if_pos f]
        refine ⟨by omega, p1, by decide, by omega, by omega, by omega, ?_⟩
        rw [Nat.mul_one]
        simp only [Nat.mul_assoc, Nat.mul_comm, Nat.mul_left_comm]
      · simp only [if_neg f]
        refine ⟨p2, by omega, by omega, by decide, by omega, by omega, ?_⟩
        simp only [Nat.mul_assoc, Nat.mul_comm, Nat.mul_left_comm, Nat.mul_one]
    · obtain ⟨k1, k2, k3, k4⟩ := hT.2.2.1 v hv (by omega)
      have hp : T 8 v < M := by omega
      obtain ⟨g1, g2, g3, g4, g5, g6, g7⟩ := ih (T 8 v) (by omega) hp
      generalize hp8 : T 8 v = u at *
      generalize hp9 : T 9 v = j at *
      obtain ⟨q1, q2, q3, q4, q5, q6, q7⟩ := y_cut hT hp k4
      obtain ⟨-, -, -, -, c10, c11, -⟩ := q6 j k3
      obtain ⟨p1, p2, p3, p4⟩ := yPo hT hX hw hp
      obtain ⟨r1, r2, r3, r4⟩ := yPo hT hX hw hv
      rw [k2] at c10 c11
      unfold yGd
      rcases q1 with c | c
      · obtain ⟨x2, x3, x4, x5, x6, x7⟩ := hX.2.2.2.2.1 u hp c j k3
        obtain ⟨s1, s2⟩ := yShare1 hT hX hw hp c
        have s3 := s1 j k3
        rw [k2] at x2 x3 x4 x5 x6 x7 s3
        have s4 : ysum (fun j => X 1 u / X 1 (T 4 u + j) * X 0 (T 4 u + j)) j + X 1 u / X 1 v * X 0 v ≤ X 0 u := by
          have m := ysum_mono (f := fun j => X 1 u / X 1 (T 4 u + j) * X 0 (T 4 u + j)) (show j + 1 ≤ T 6 u by omega)
          rw [s2] at m
          have m2 : ysum (fun j => X 1 u / X 1 (T 4 u + j) * X 0 (T 4 u + j)) (j + 1) = ysum (fun j => X 1 u / X 1 (T 4 u + j) * X 0 (T 4 u + j)) j + X 1 u / X 1 (T 4 u + j) * X 0 (T 4 u + j) := rfl
          rw [m2, k2] at m
          exact m
        rw [if_pos c] at c10
        rw [if_neg (by omega), Nat.add_zero] at c11
        generalize ysum (fun j => X 1 u / X 1 (T 4 u + j) * X 0 (T 4 u + j)) j = A at *
        generalize X 1 u / X 1 v * X 0 v = B at *
        rw [x2, x3, x4, x5, x6, x7, c10, c11, Nat.pow_add]
        refine ⟨Nat.mul_pos g1 p1, g2, Nat.mul_le_mul g3 (by omega), g4, ?_, g6, ?_⟩
        · calc X 2 u * X 0 u + X 3 u * A + X 3 u * B = X 2 u * X 0 u + X 3 u * (A + B) := by rw [Nat.mul_add, Nat.add_assoc]
            _ ≤ X 2 u * X 0 u + X 3 u * X 0 u := Nat.add_le_add_left (Nat.mul_le_mul_left _ s4) _
            _ = (X 2 u + X 3 u) * X 0 u := (Nat.add_mul _ _ _).symm
            _ ≤ W * X 4 u * X 0 u := Nat.mul_le_mul_right _ g5
            _ = _ := Nat.mul_assoc _ _ _
        · calc X 3 u * B * X 7 u * X 1 v = X 3 u * X 7 u * (B * X 1 v) := by simp only [Nat.mul_assoc, Nat.mul_comm, Nat.mul_left_comm]
            _ = X 3 u * X 7 u * X 1 u * X 0 v := by rw [s3, Nat.mul_assoc (X 3 u * X 7 u)]
            _ = X 6 u * X 4 u * X 0 u * X 0 v := by rw [g7]
            _ = _ := by simp only [Nat.mul_assoc, Nat.mul_comm, Nat.mul_left_comm]
      · obtain ⟨x5, x6, x7, x2, x3, x4⟩ := hX.2.2.2.2.2 u hp c j k3
        obtain ⟨s1, s2⟩ := yShare2 hT hX hw hp c
        have s3 := s1 j k3
        rw [k2] at x2 x3 x4 x5 x6 x7 s3
        have s4 : ysum (fun j => X 0 u / X 0 (T 4 u + j) * X 1 (T 4 u + j)) j + X 0 u / X 0 v * X 1 v ≤ X 1 u := by
          have m := ysum_mono (f := fun j => X 0 u / X 0 (T 4 u + j) * X 1 (T 4 u + j)) (show j + 1 ≤ T 6 u by omega)
          rw [s2] at m
          have m2 : ysum (fun j => X 0 u / X 0 (T 4 u + j) * X 1 (T 4 u + j)) (j + 1) = ysum (fun j => X 0 u / X 0 (T 4 u + j) * X 1 (T 4 u + j)) j + X 0 u / X 0 (T 4 u + j) * X 1 (T 4 u + j) := rfl
          rw [m2, k2] at m
          exact m
        rw [if_pos c] at c11
        rw [if_neg (by omega), Nat.add_zero] at c10
        generalize ysum (fun j => X 0 u / X 0 (T 4 u + j) * X 1 (T 4 u + j)) j = A at *
        generalize X 0 u / X 0 v * X 1 v = B at *
        rw [x2, x3, x4, x5, x6, x7, c10, c11, Nat.pow_add]
        refine ⟨g1, Nat.mul_pos g2 p2, g3, Nat.mul_le_mul g4 (by omega), g5, ?_, ?_⟩
        · calc X 5 u * X 1 u + X 6 u * A + X 6 u * B = X 5 u * X 1 u + X 6 u * (A + B) := by rw [Nat.mul_add, Nat.add_assoc]
            _ ≤ X 5 u * X 1 u + X 6 u * X 1 u := Nat.add_le_add_left (Nat.mul_le_mul_left _ s4) _
            _ = (X 5 u + X 6 u) * X 1 u := (Nat.add_mul _ _ _).symm
            _ ≤ H * X 7 u * X 1 u := Nat.mul_le_mul_right _ g6
            _ = _ := Nat.mul_assoc _ _ _
        · calc X 3 u * (X 7 u * X 1 u) * X 1 v = X 3 u * X 7 u * X 1 u * X 1 v := by simp only [Nat.mul_assoc]
            _ = X 6 u * X 4 u * (X 0 u * X 1 v) := by rw [g7]; simp only [Nat.mul_assoc]
            _ = X 6 u * X 4 u * (B * X 0 v) := by rw [s3]
            _ = _ := by simp only [Nat.mul_assoc, Nat.mul_comm, Nat.mul_left_comm]
theorem yGo (hT : zTok M n T) (hX : yLay M T w h W H X) (hw : yOk n w h) {v : Nat} (hv : v < M) : yGd T X W H v := yGood hT hX hw (v + 1) v (by omega) hv
/-- all numbers are far below a long's end -/
theorem yBd (hT : zTok M n T) (hX : yLay M T w h W H X) (hw : yOk n w h) (hW : W ≤ 400) (hH : H ≤ 200) {v : Nat} (hv : v < M) : X 0 v < 2 ^ 31 ∧ X 1 v < 2 ^ 31 ∧ X 4 v < 2 ^ 50 ∧ X 7 v < 2 ^ 50 ∧ X 2 v + X 3 v < 2 ^ 60 ∧ X 5 v + X 6 v < 2 ^ 60 := by
  obtain ⟨g1, g2, g3, g4, g5, g6, g7⟩ := yGo hT hX hw hv
  obtain ⟨p1, p2, p3, p4⟩ := yPo hT hX hw hv
  obtain ⟨-, -, t10, t11, t0, -⟩ := hT.2.1 v hv
  have b0 := y_24 t0
  have b1 : 24 ^ T 10 v ≤ 24 ^ 10 := Nat.pow_le_pow_right (by decide) t10
  have b2 : 24 ^ T 11 v ≤ 24 ^ 10 := Nat.pow_le_pow_right (by decide) t11
  have m1 : W * X 4 v ≤ 400 * 24 ^ 10 := Nat.mul_le_mul hW (by omega)
  have m2 : H * X 7 v ≤ 200 * 24 ^ 10 := Nat.mul_le_mul hH (by omega)
  have k1 : 24 ^ 10 < 2 ^ 50 := by decide
  have k2 : 400 * 24 ^ 10 < 2 ^ 60 := by decide
  have k3 : 200 * 24 ^ 10 < 2 ^ 60 := by decide
  have k4 : 24 ^ 4 < 2 ^ 31 := by decide
  omega
end LAYOUT2
