/-! THE LAY-OUT OF THE REFERENCE -/
theorem rd_n1 (n : Nat) : rd1 n 1 = n ∧ rd2 n 1 = 1 := by
  unfold rd1 rd2
  rw [Nat.gcd_one_right, Nat.div_one]
  exact ⟨rfl, rfl⟩
theorem rd_z {P : Nat} (hP : 0 < P) : rd1 0 P = 0 ∧ rd2 0 P = 1 := by
  unfold rd1 rd2
  rw [Nat.gcd_zero_left, Nat.zero_div, Nat.div_self hP]
  exact ⟨rfl, rfl⟩
section LAYS
variable {p : ZP} {S : Nat → Int32} {G : Nat → Nat → Int32}
/-- node u is laid -/
def lQ (X : Nat → Nat → Nat) (Q : Nat → Nat → Int64) (u : Nat) : Prop := Q 12 u = lN (rd1 (X 2 u) (X 4 u)) ∧ Q 13 u = lN (rd2 (X 2 u) (X 4 u)) ∧ Q 14 u = lN (rd1 (X 5 u) (X 7 u)) ∧ Q 15 u = lN (rd2 (X 5 u) (X 7 u)) ∧ Q 16 u = lN (rd1 (X 3 u) (X 4 u)) ∧ Q 17 u = lN (rd2 (X 3 u) (X 4 u)) ∧ Q 18 u = lN (rd1 (X 6 u) (X 7 u)) ∧ Q 19 u = lN (rd2 (X 6 u) (X 7 u))
def sQ (M : Nat) (X : Nat → Nat → Nat) (Q : Nat → Nat → Int64) : Prop := ∀ v, v < M → Q 10 v = lN (rd1 (X 0 v) (X 1 v)) ∧ Q 11 v = lN (rd2 (X 0 v) (X 1 v))
theorem lQ_fr {X : Nat → Nat → Nat} {Q Q' : Nat → Nat → Int64} {u : Nat} (h : lQ X Q u) (hf : ∀ a, 12 ≤ a → a ≤ 19 → Q' a u = Q a u) : lQ X Q' u := by
  obtain ⟨h1, h2, h3, h4, h5, h6, h7, h8⟩ := h
  exact ⟨(hf 12 (by omega) (by omega)).trans h1, (hf 13 (by omega) (by omega)).trans h2, (hf 14 (by omega) (by omega)).trans h3, (hf 15 (by omega) (by omega)).trans h4, (hf 16 (by omega) (by omega)).trans h5, (hf 17 (by omega) (by omega)).trans h6, (hf 18 (by omega) (by omega)).trans h7, (hf 19 (by omega) (by omega)).trans h8⟩
/-- one part across -/
theorem lays_1 (d : Nat) {M n v i : Nat} {T : Nat → Nat → Nat} {w q : Nat → Nat} {W H : Nat} {X : Nat → Nat → Nat} {Q : Nat → Nat → Int64} {l1 l2 : Value} (hT : zTok M n T) (hX : yLay M T w q W H X) (hw : yOk n w q) (hW : W ≤ 400) (hH : H ≤ 200) (hv : v < M) (hc : T 1 v = 1) (hi : i < T 6 v) (h5 : G 5 v = nI (T 1 v)) (hs : sQ M X Q) (hl : lQ X Q v) :
    ∃ Q', zres (d + 3) 105 239 [.ref 256, l1, l2, .int (nI v), .long (lN (rd1 (X 2 (T 4 v + i)) (X 4 (T 4 v + i)))), zj, .long (lN (rd2 (X 2 (T 4 v + i)) (X 4 (T 4 v + i)))), zj, .int (nI (T 4 v + i))] [] (zRh p S G Q) = zres (d + 3) 105 221 [.ref 256, l1, l2, .int (nI v), .long (lN (rd1 (X 2 (T 4 v + i) + X 3 (T 4 v + i)) (X 4 (T 4 v + i)))), zj, .long (lN (rd2 (X 2 (T 4 v + i) + X 3 (T 4 v + i)) (X 4 (T 4 v + i)))), zj, .int (nI (T 4 v + i + 1))] [] (zRh p S G Q') ∧ lQ X Q' (T 4 v + i) ∧ (Q' 10 = Q 10 ∧ Q' 11 = Q 11) ∧ ∀ a u, 12 ≤ a → u ≠ T 4 v + i → Q' a u = Q a u := by
  have hwi : ∀ x, Value.category (.int x) = 1 := fun _ => rfl
  have hwj : Value.category zj = 1 := rfl
  have z0 : zcs [] ≤ 8 := by decide
  have hM7 := hT.1.2.1
  obtain ⟨q1, q2, q3, q4, q5, q6, q7⟩ := y_cut hT hv (by omega)
  have hcM : T 4 v + i < M := by omega
  obtain ⟨x2, x3, x4, x5, x6, x7⟩ := hX.2.2.2.2.1 v hv hc i hi
  obtain ⟨g1, g2, g3, g4, g5, g6, g7⟩ := yGo hT hX hw hcM
  obtain ⟨b0, b1, b4, b7, b23, b56⟩ := yBd hT hX hw hW hH hcM
  obtain ⟨vb0, vb1, vb4, vb7, vb23, vb56⟩ := yBd hT hX hw hW hH hv
  obtain ⟨p0, p1, -⟩ := yPo hT hX hw hcM
  obtain ⟨s10, s11⟩ := hs (T 4 v + i) hcM
  obtain ⟨v1, v2, v3, v4, v5, v6, v7, v8⟩ := hl
  have cc : nI (T 1 v) = 1 := by rw [hc]; rfl
  have vne : v ≠ T 4 v + i := by omega
  have hv8 : v < 8 := by omega
  generalize hcd : T 4 v + i = c at *
  have hc8 : c < 8 := by omega
  have tm := fun Q => c_times (p := p) (S := S) (G := G) (Q := Q) d (l := X 6 v) (P := X 7 v) (q := X 0 c) (R := X 1 c) (u := X 3 c) (V := X 4 c) (by rw [← x7]; exact g2) (by omega) (by omega) p1 (by omega) (by omega) g1 (by omega) (by omega) (by
    rw [x6, x7] at g7
    calc X 6 v * X 0 c * X 4 c = X 6 v * X 4 c * X 0 c := Nat.mul_right_comm _ _ _
      _ = X 3 c * X 7 v * X 1 c := g7.symm
      _ = _ := by simp only [Nat.mul_assoc, Nat.mul_comm, Nat.mul_left_comm])
  have pl := fun Q => c_plus (p := p) (S := S) (G := G) (Q := Q) d (l := X 2 c) (q := X 3 c) (V := X 4 c) g1 (by omega) (by omega)
  simp only [g105_239, g105_240, g105_243, g105_245, g105_246, g105_249, g105_250, g105_251, g105_252, g105_253, g105_256, g105_258, g105_259, g105_262, g105_263, g105_264, g105_265, g105_266, g105_269, g105_271, g105_272, g105_275, g105_276, g105_277, g105_278, g105_279, g105_282, g105_284, g105_285, g105_288, g105_289, g105_290, g105_291, g105_292, g105_295, g105_297, g105_298, g105_301, g105_302, g105_303, g105_304, g105_305, g105_308, g105_310, g105_311, g105_314, g105_315, g105_316, g105_317, g105_318, g105_321, g105_323, g105_324, g105_327, g105_328, g105_329, g105_330, g105_331, g105_334, g105_336, g105_337, g105_340, g105_341, g105_342, rg17, rg18, rg19, rg20, rg21, rg22, rg23, rg24, ra12 hv8, ra13 hv8, ra14 hv8, ra15 hv8, ra16 hv8, ra17 hv8, ra18 hv8, ra19 hv8, rw12 hc8, rw13 hc8, rw14 hc8, rw15 hc8, rw16 hc8, rw17 hc8, rw18 hc8, rw19 hc8, uq_i vne, v1, v2, v3, v4, v5, v6, v7, v8, Option.bind_some]
  simp only [g105_343, g105_344, g105_347, g105_348, g105_349, g105_350, rg8, ra5 hv8, h5, cc, Option.bind_some, not_true_eq_false, ↓reduceIte]
  simp only [g105_353, g105_354, g105_357, g105_359, g105_361, g105_362, g105_363, g105_366, g105_368, g105_370, g105_371, g105_372, g105_373, g105_376, g105_377, g105_378, g105_379, g105_382, g105_383, g105_384, g105_385, g105_388, g105_390, g105_391, g105_392, g105_395, g105_397, rg15, rg16, rg17, rg18, rg23, rg24, ra10 hc8, ra11 hc8, ra18 hv8, ra19 hv8, rw12 hc8, rw13 hc8, uq_i vne, v7, v8, uq_n, ne_eq, Nat.reduceEqDiff, not_false_eq_true, s10, s11, Option.bind_some]
  simp only [g105_398 z0 rb0, tm, Option.bind_some, Option.toList_none, List.nil_append]
  simp only [g105_401, g105_402, g105_405, g105_407, g105_408, g105_411, g105_412, g105_413, g105_416, g105_418, g105_419, g105_422, g105_423, g105_496, g105_497, g105_499, g105_501, g105_502, g105_505, g105_506, rg13, rg14, rg21, rg22, rw16 hc8, rw17 hc8, qs_1, qs_2, uq_n, ne_eq, Nat.reduceEqDiff, not_false_eq_true, Option.bind_some]
  simp only [g105_509 z0 rb0, pl, Option.bind_some, Option.toList_none, List.nil_append]
  simp only [g105_512, g105_513, g105_516, g105_518, g105_519, g105_522, g105_524, g105_527, rg13, rg14, qs_1, qs_2, hwi, hwj, nI_1, Option.bind_some]
  refine ⟨_, rfl, ?_, ?_, fun a u ha hu => ?_⟩
  · unfold lQ
    rw [x5, x6, x7]
    refine ⟨?_, ?_, ?_, ?_, ?_, ?_, ?_, ?_⟩
    all_goals simp only [qs, uq_a, uq_n, ne_eq, Nat.reduceEqDiff, not_false_eq_true]
  · refine ⟨?_, ?_⟩
    all_goals simp only [qs, uq_n, ne_eq, Nat.reduceEqDiff, not_false_eq_true]
  · have a0 : a ≠ 0 := by omega
    simp only [qs_n a0, uq_i hu]
end LAYS
