/-! lays(w, h) -/
section LAYS2
variable {p : ZP} {S : Nat → Int32} {G : Nat → Nat → Int32}
/-- one part down -/
theorem lays_2 (d : Nat) {M n v i : Nat} {T : Nat → Nat → Nat} {w q : Nat → Nat} {W H : Nat} {X : Nat → Nat → Nat} {Q : Nat → Nat → Int64} {l1 l2 : Value} (hT : zTok M n T) (hX : yLay M T w q W H X) (hw : yOk n w q) (hW : W ≤ 400) (hH : H ≤ 200) (hv : v < M) (hc : T 1 v = 2) (hi : i < T 6 v) (h5 : G 5 v = nI (T 1 v)) (hs : sQ M X Q) (hl : lQ X Q v) :
    ∃ Q', zres (d + 3) 105 239 [.ref 256, l1, l2, .int (nI v), .long (lN (rd1 (X 5 (T 4 v + i)) (X 7 (T 4 v + i)))), zj, .long (lN (rd2 (X 5 (T 4 v + i)) (X 7 (T 4 v + i)))), zj, .int (nI (T 4 v + i))] [] (zRh p S G Q) = zres (d + 3) 105 221 [.ref 256, l1, l2, .int (nI v), .long (lN (rd1 (X 5 (T 4 v + i) + X 6 (T 4 v + i)) (X 7 (T 4 v + i)))), zj, .long (lN (rd2 (X 5 (T 4 v + i) + X 6 (T 4 v + i)) (X 7 (T 4 v + i)))), zj, .int (nI (T 4 v + i + 1))] [] (zRh p S G Q') ∧ lQ X Q' (T 4 v + i) ∧ (Q' 10 = Q 10 ∧ Q' 11 = Q 11) ∧ ∀ a u, 12 ≤ a → u ≠ T 4 v + i → Q' a u = Q a u := by
  have hwi : ∀ x, Value.category (.int x) = 1 := fun _ => rfl
  have hwj : Value.category zj = 1 := rfl
  have z0 : zcs [] ≤ 8 := by decide
  have hM7 := hT.1.2.1
  obtain ⟨q1, q2, q3, q4, q5, q6, q7⟩ := y_cut hT hv (by omega)
  have hcM : T 4 v + i < M := by omega
  obtain ⟨x5, x6, x7, x2, x3, x4⟩ := hX.2.2.2.2.2 v hv hc i hi
  obtain ⟨g1, g2, g3, g4, g5, g6, g7⟩ := yGo hT hX hw hcM
  obtain ⟨b0, b1, b4, b7, b23, b56⟩ := yBd hT hX hw hW hH hcM
  obtain ⟨vb0, vb1, vb4, vb7, vb23, vb56⟩ := yBd hT hX hw hW hH hv
  obtain ⟨p0, p1, -⟩ := yPo hT hX hw hcM
  obtain ⟨s10, s11⟩ := hs (T 4 v + i) hcM
  obtain ⟨v1, v2, v3, v4, v5, v6, v7, v8⟩ := hl
  have cc : ¬ nI (T 1 v) = 1 := by rw [hc]; decide
  rw [← rd_sw2] at s10
  rw [← rd_sw1] at s11
  have vne : v ≠ T 4 v + i := by omega
  have hv8 : v < 8 := by omega
  generalize hcd : T 4 v + i = c at *
  have hc8 : c < 8 := by omega
  have tm := fun Q => c_times (p := p) (S := S) (G := G) (Q := Q) d (l := X 3 v) (P := X 4 v) (q := X 1 c) (R := X 0 c) (u := X 6 c) (V := X 7 c) (by rw [← x4]; exact g1) (by omega) (by omega) p0 (by omega) (by omega) g2 (by omega) (by omega) (by
    rw [x3, x4] at g7
    calc X 3 v * X 1 c * X 7 c = X 3 v * X 7 c * X 1 c := Nat.mul_right_comm _ _ _
      _ = X 6 c * X 4 v * X 0 c := g7
      _ = _ := by simp only [Nat.mul_assoc, Nat.mul_comm, Nat.mul_left_comm])
  have pl := fun Q => c_plus (p := p) (S := S) (G := G) (Q := Q) d (l := X 5 c) (q := X 6 c) (V := X 7 c) g2 (by omega) (by omega)
  simp only [g105_239, g105_240, g105_243, g105_245, g105_246, g105_249, g105_250, g105_251, g105_252, g105_253, g105_256, g105_258, g105_259, g105_262, g105_263, g105_264, g105_265, g105_266, g105_269, g105_271, g105_272, g105_275, g105_276, g105_277, g105_278, g105_279, g105_282, g105_284, g105_285, g105_288, g105_289, g105_290, g105_291, g105_292, g105_295, g105_297, g105_298, g105_301, g105_302, g105_303, g105_304, g105_305, g105_308, g105_310, g105_311, g105_314, g105_315, g105_316, g105_317, g105_318, g105_321, g105_323, g105_324, g105_327, g105_328, g105_329, g105_330, g105_331, g105_334, g105_336, g105_337, g105_340, g105_341, g105_342, rg17, rg18, rg19, rg20, rg21, rg22, rg23, rg24, ra12 hv8, ra13 hv8, ra14 hv8, ra15 hv8, ra16 hv8, ra17 hv8, ra18 hv8, ra19 hv8, rw12 hc8, rw13 hc8, rw14 hc8, rw15 hc8, rw16 hc8, rw17 hc8, rw18 hc8, rw19 hc8, uq_i vne, v1, v2, v3, v4, v5, v6, v7, v8, Option.bind_some]
  simp only [g105_343, g105_344, g105_347, g105_348, g105_349, g105_350, rg8, ra5 hv8, h5, cc, Option.bind_some, not_false_eq_true, ↓reduceIte]
  simp only [g105_426, g105_427, g105_430, g105_432, g105_434, g105_435, g105_436, g105_439, g105_441, g105_443, g105_444, g105_445, g105_446, g105_449, g105_450, g105_451, g105_452, g105_455, g105_456, g105_457, g105_458, g105_461, g105_463, g105_464, g105_465, g105_468, g105_470, rg15, rg16, rg19, rg20, rg21, rg22, ra10 hc8, ra11 hc8, ra16 hv8, ra17 hv8, rw14 hc8, rw15 hc8, uq_i vne, v5, v6, uq_n, ne_eq, Nat.reduceEqDiff, not_false_eq_true, s10, s11, Option.bind_some]
  simp only [g105_471 z0 rb0, tm, Option.bind_some, Option.toList_none, List.nil_append]
  simp only [g105_474, g105_475, g105_478, g105_480, g105_481, g105_484, g105_485, g105_486, g105_489, g105_491, g105_492, g105_495, g105_496, g105_497, g105_499, g105_501, g105_502, g105_505, g105_506, rg13, rg14, rg23, rg24, rw18 hc8, rw19 hc8, qs_1, qs_2, uq_n, ne_eq, Nat.reduceEqDiff, not_false_eq_true, Option.bind_some]
  simp only [g105_509 z0 rb0, pl, Option.bind_some, Option.toList_none, List.nil_append]
  simp only [g105_512, g105_513, g105_516, g105_518, g105_519, g105_522, g105_524, g105_527, rg13, rg14, qs_1, qs_2, hwi, hwj, nI_1, Option.bind_some]
  refine ⟨_, rfl, ?_, ?_, fun a u ha hu => ?_⟩
  · unfold lQ
    rw [x2, x3, x4]
    refine ⟨?_, ?_, ?_, ?_, ?_, ?_, ?_, ?_⟩
    all_goals simp only [qs, uq_a, uq_n, ne_eq, Nat.reduceEqDiff, not_false_eq_true]
  · refine ⟨?_, ?_⟩
    all_goals simp only [qs, uq_n, ne_eq, Nat.reduceEqDiff, not_false_eq_true]
  · have a0 : a ≠ 0 := by omega
    simp only [qs_n a0, uq_i hu]
theorem lays_in (d : Nat) {M n v : Nat} {T : Nat → Nat → Nat} {w q : Nat → Nat} {W H : Nat} {X : Nat → Nat → Nat} {l1 l2 : Value} (hT : zTok M n T) (hX : yLay M T w q W H X) (hw : yOk n w q) (hW : W ≤ 400) (hH : H ≤ 200) (hv : v < M) (hc : ¬ T 1 v = 0) (h5 : G 5 v = nI (T 1 v)) (h7 : G 7 v = nI (T 6 v)) (h8 : G 8 v = nI (T 4 v)) :
    ∀ (r i : Nat) (Q : Nat → Nat → Int64) (x y : Int64), i + r = T 6 v → sQ M X Q → lQ X Q v → (i < T 6 v → x = (if T 1 v = 1 then lN (rd1 (X 2 (T 4 v + i)) (X 4 (T 4 v + i))) else lN (rd1 (X 5 (T 4 v + i)) (X 7 (T 4 v + i)))) ∧ y = (if T 1 v = 1 then lN (rd2 (X 2 (T 4 v + i)) (X 4 (T 4 v + i))) else lN (rd2 (X 5 (T 4 v + i)) (X 7 (T 4 v + i))))) →
      ∃ Q' x' y' l8, zres (d + 3) 105 221 [.ref 256, l1, l2, .int (nI v), .long x, zj, .long y, zj, .int (nI (T 4 v + i))] [] (zRh p S G Q) = zres (d + 3) 105 530 [.ref 256, l1, l2, .int (nI v), .long x', zj, .long y', zj, .int l8] [] (zRh p S G Q') ∧ (∀ j, i ≤ j → j < T 6 v → lQ X Q' (T 4 v + j)) ∧ sQ M X Q' ∧ ∀ a u, 12 ≤ a → (u < T 4 v + i ∨ T 4 v + T 6 v ≤ u) → Q' a u = Q a u := by
  have hwi : ∀ x, Value.category (.int x) = 1 := fun _ => rfl
  have hM7 := hT.1.2.1
  obtain ⟨q1, q2, q3, q4, q5, q6, q7⟩ := y_cut hT hv hc
  have hv8 : v < 8 := by omega
  intro r
  induction r with
  | zero =>
    intro i Q x y hi hs hl hxy
    obtain rfl : i = T 6 v := by omega
    have c1 : nI (T 4 v + T 6 v) ≤ nI (T 4 v + T 6 v) := nI_le (Nat.le_refl _) (by omega)
    refine ⟨Q, x, y, nI (T 4 v + T 6 v), ?_, fun j h1 h2 => by omega, hs, fun _ _ _ _ => rfl⟩
    simp only [g105_221, g105_223, g105_224, g105_227, g105_228, g105_229, g105_230, g105_233, g105_234, g105_235, g105_236, rg10, rg11, ra7 hv8, ra8 hv8, h7, h8, nI_add, c1, Option.bind_some, ↓reduceIte]
  | succ r ih =>
    intro i Q x y hi hs hl hxy
    have hi6 : i < T 6 v := by omega
    have c1 : ¬ nI (T 4 v + T 6 v) ≤ nI (T 4 v + i) := nI_ge (by omega) (by omega)
    obtain ⟨ex, ey⟩ := hxy hi6
    have go : ∀ (Q1 : Nat → Nat → Int64) (x1 y1 : Int64), zres (d + 3) 105 239 [.ref 256, l1, l2, .int (nI v), .long x, zj, .long y, zj, .int (nI (T 4 v + i))] [] (zRh p S G Q) = zres (d + 3) 105 221 [.ref 256, l1, l2, .int (nI v), .long x1, zj, .long y1, zj, .int (nI (T 4 v + i + 1))] [] (zRh p S G Q1) → lQ X Q1 (T 4 v + i) → (Q1 10 = Q 10 ∧ Q1 11 = Q 11) → (∀ a u, 12 ≤ a → u ≠ T 4 v + i → Q1 a u = Q a u) → (i + 1 < T 6 v → x1 = (if T 1 v = 1 then lN (rd1 (X 2 (T 4 v + (i + 1))) (X 4 (T 4 v + (i + 1)))) else lN (rd1 (X 5 (T 4 v + (i + 1))) (X 7 (T 4 v + (i + 1))))) ∧ y1 = (if T 1 v = 1 then lN (rd2 (X 2 (T 4 v + (i + 1))) (X 4 (T 4 v + (i + 1)))) else lN (rd2 (X 5 (T 4 v + (i + 1))) (X 7 (T 4 v + (i + 1)))))) →
        ∃ Q' x' y' l8, zres (d + 3) 105 221 [.ref 256, l1, l2, .int (nI v), .long x, zj, .long y, zj, .int (nI (T 4 v + i))] [] (zRh p S G Q) = zres (d + 3) 105 530 [.ref 256, l1, l2, .int (nI v), .long x', zj, .long y', zj, .int l8] [] (zRh p S G Q') ∧ (∀ j, i ≤ j → j < T 6 v → lQ X Q' (T 4 v + j)) ∧ sQ M X Q' ∧ ∀ a u, 12 ≤ a → (u < T 4 v + i ∨ T 4 v + T 6 v ≤ u) → Q' a u = Q a u := by
      intro Q1 x1 y1 e1 e2 e3 e4 e5
      obtain ⟨Q', x', y', l8, o1, o2, o3, o4⟩ := ih (i + 1) Q1 x1 y1 (by omega) (fun u hu => by rw [e3.1, e3.2]; exact hs u hu) (lQ_fr hl fun a h1 _ => e4 a v h1 (by omega)) e5
      refine ⟨Q', x', y', l8, ?_, fun j h1 h2 => ?_, o3, fun a u ha hu => ?_⟩
      · simp only [g105_221, g105_223, g105_224, g105_227, g105_228, g105_229, g105_230, g105_233, g105_234, g105_235, g105_236, rg10, rg11, ra7 hv8, ra8 hv8, h7, h8, nI_add, c1, Option.bind_some, ↓reduceIte]
        rw [e1]
        exact o1
      · by_cases z : j = i
        · subst z
          exact lQ_fr e2 fun a h3 _ => o4 a _ h3 (by omega)
        · exact o2 j (by omega) h2
      · rw [o4 a u ha (by omega), e4 a u ha (by omega)]
    rcases q1 with c | c
    · rw [if_pos c] at ex ey
      subst ex ey
      obtain ⟨Q1, e1, e2, e3, e4⟩ := lays_1 (p := p) (S := S) (l1 := l1) (l2 := l2) d hT hX hw hW hH hv c hi6 h5 hs hl
      refine go Q1 _ _ e1 e2 e3 e4 fun hn => ?_
      obtain ⟨x2, x3, x4, -⟩ := hX.2.2.2.2.1 v hv c i hi6
      obtain ⟨y2, -, y4, -⟩ := hX.2.2.2.2.1 v hv c (i + 1) hn
      rw [if_pos c, if_pos c, y2, y4, x2, x3, x4]
      have e : X 2 v * X 0 v + X 3 v * ysum (fun j => X 1 v / X 1 (T 4 v + j) * X 0 (T 4 v + j)) i + X 3 v * (X 1 v / X 1 (T 4 v + i) * X 0 (T 4 v + i)) = X 2 v * X 0 v + X 3 v * ysum (fun j => X 1 v / X 1 (T 4 v + j) * X 0 (T 4 v + j)) (i + 1) := by
        show _ = X 2 v * X 0 v + X 3 v * (ysum (fun j => X 1 v / X 1 (T 4 v + j) * X 0 (T 4 v + j)) i + X 1 v / X 1 (T 4 v + i) * X 0 (T 4 v + i))
        rw [Nat.mul_add, Nat.add_assoc]
      rw [e]
      exact ⟨rfl, rfl⟩
    · have c' : ¬ T 1 v = 1 := by omega
      rw [if_neg c'] at ex ey
      subst ex ey
      obtain ⟨Q1, e1, e2, e3, e4⟩ := lays_2 (p := p) (S := S) (l1 := l1) (l2 := l2) d hT hX hw hW hH hv c hi6 h5 hs hl
      refine go Q1 _ _ e1 e2 e3 e4 fun hn => ?_
      obtain ⟨x2, x3, x4, -⟩ := hX.2.2.2.2.2 v hv c i hi6
      obtain ⟨y2, -, y4, -⟩ := hX.2.2.2.2.2 v hv c (i + 1) hn
      rw [if_neg c', if_neg c', y2, y4, x2, x3, x4]
      have e : X 5 v * X 1 v + X 6 v * ysum (fun j => X 0 v / X 0 (T 4 v + j) * X 1 (T 4 v + j)) i + X 6 v * (X 0 v / X 0 (T 4 v + i) * X 1 (T 4 v + i)) = X 5 v * X 1 v + X 6 v * ysum (fun j => X 0 v / X 0 (T 4 v + j) * X 1 (T 4 v + j)) (i + 1) := by
        show _ = X 5 v * X 1 v + X 6 v * (ysum (fun j => X 0 v / X 0 (T 4 v + j) * X 1 (T 4 v + j)) i + X 0 v / X 0 (T 4 v + i) * X 1 (T 4 v + i))
        rw [Nat.mul_add, Nat.add_assoc]
      rw [e]
      exact ⟨rfl, rfl⟩
end LAYS2
