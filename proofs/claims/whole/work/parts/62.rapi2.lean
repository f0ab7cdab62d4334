section RAPI2
variable {p : ZP} {S : Nat → Int32} {G : Nat → Nat → Int32} {Q : Nat → Nat → Int64} {A : AV}
theorem r_shape (d : Nat) (hR : zRs S G A) (hA : zVa A) {s m k c : Nat} (hF : zFe A.1 A.2.2.2 s m) (hk : k < th m) (hc : c < 2) : ∃ S' G' Q', zcl (d + 6) 111 [.ref 256, .int (nI s), .int (nI m), .int (nI k), .int (nI c)] (zRh p S G Q) = some (some (.long (if c = 0 then lN (rd1 (aX A s m k 0 0) (aX A s m k 1 0)) else lN (rd2 (aX A s m k 0 0) (aX A s m k 1 0)))), zRh p S' G' Q') ∧ zqF A S S' G G' := by
  have z0 : zcs [] ≤ 8 := by decide
  obtain ⟨S1, G1, b0, b1, b2, b3, b4⟩ := c_beg hR
  have cl := c_canLay (p := p) (S := S1) (G := G1) (Q := Q) (d + 1) b2 hA hF hk
  obtain ⟨S2, G2, Q2, o1, o2, o3, o4, o5⟩ := c_makes (p := p) (S := S1) (G := G1) (Q := Q) d b2 hA hF hk
  obtain ⟨t1, -⟩ := tft m (by have := hF.2.1; omega) k hk
  obtain ⟨q1, q2⟩ := o5 0 (tok t1).1.1
  have e1 : zald 11 (zRh p S2 G2 Q2) 266 0 = some (.long (lN (rd1 (aX A s m k 0 0) (aX A s m k 1 0)))) := (ra10 (j := 0) (by decide)).trans (by rw [q1])
  have e2 : zald 11 (zRh p S2 G2 Q2) 267 0 = some (.long (lN (rd2 (aX A s m k 0 0) (aX A s m k 1 0)))) := (ra11 (j := 0) (by decide)).trans (by rw [q2])
  have c1 : ¬ nI c < 0 := nI_pos (by omega)
  have c2 : nI c ≤ 1 := nI_le (b := 1) (by omega) (by decide)
  refine ⟨S2, G2, Q2, ?_, zqF_of b1 b2 b3 b4 o2⟩
  rw [e111]
  simp only [g111_0, g111_1, g111_2, g111_5, g111_6, g111_9, g111_10, g111_11, g111_12, g111_13, rfp0, b0 (d + 4), cl, z0, rb0, Option.bind_some, Option.toList_some, Option.toList_none, List.cons_append, List.nil_append]
  rw [g111_16, if_neg (by decide)]
  simp only [g111_19, g111_21, c1, ↓reduceIte]
  simp only [g111_24, g111_26, g111_27, c2, ↓reduceIte]
  simp only [g111_34, g111_35, g111_36, g111_37, g111_38, g111_41, o1, z0, rb0, Option.bind_some, Option.toList_none, List.nil_append]
  by_cases z : c = 0
  · subst z
    rw [g111_43, if_neg (fun w => w nI_0), if_pos rfl]
    simp only [g111_46, g111_47, g111_50, g111_51, g111_52, g111_61, rg15, e1, Option.bind_some]
  · rw [g111_43, if_pos (nI_ne0 (by omega) (by omega)), if_neg z]
    simp only [g111_55, g111_56, g111_59, g111_60, g111_61, rg16, e2, Option.bind_some]
theorem r_shape_no (d : Nat) (hR : zRs S G A) (hA : zVa A) {x y z v : Int32} (hn : ¬ ∃ s m k c, x = nI s ∧ y = nI m ∧ z = nI k ∧ v = nI c ∧ zFe A.1 A.2.2.2 s m ∧ k < th m ∧ c < 2) : ∃ S' G', zcl (d + 6) 111 [.ref 256, .int x, .int y, .int z, .int v] (zRh p S G Q) = some (some (.long (-1)), zRh p S' G' Q) ∧ zqF A S S' G G' := by
  have z0 : zcs [] ≤ 8 := by decide
  obtain ⟨S1, G1, b0, b1, b2, b3, b4⟩ := c_beg hR
  refine ⟨S1, G1, ?_, zqF_of b1 b2 b3 b4 dF_rf⟩
  have no : ∀ L, zres (d + 5) 111 30 L [] (zRh p S1 G1 Q) = some (some (.long (-1)), zRh p S1 G1 Q) := fun L => by rw [g111_30, g111_33]
  rw [e111]
  by_cases q : ∃ s m k, x = nI s ∧ y = nI m ∧ z = nI k ∧ zFe A.1 A.2.2.2 s m ∧ k < th m
  · obtain ⟨s, m, k, rfl, rfl, rfl, hF, hk⟩ := q
    have cl := c_canLay (p := p) (S := S1) (G := G1) (Q := Q) (d + 1) b2 hA hF hk
    simp only [g111_0, g111_1, g111_2, g111_5, g111_6, g111_9, g111_10, g111_11, g111_12, g111_13, rfp0, b0 (d + 4), cl, z0, rb0, Option.bind_some, Option.toList_some, Option.toList_none, List.cons_append, List.nil_append]
    rw [g111_16, if_neg (by decide)]
    by_cases q1 : v < 0
    · simp only [g111_19, g111_21, q1, ↓reduceIte]
      exact no _
    · by_cases q2 : v ≤ 1
      · obtain ⟨c1, -, c2⟩ := i_rng (a := 0) (b := 1) (by decide) (by decide) (i_nlt.mp q1) q2
        exact absurd ⟨s, m, k, v.toNatClampNeg, rfl, rfl, rfl, c1, hF, hk, by omega⟩ hn
      · simp only [g111_19, g111_21, q1, ↓reduceIte]
        simp only [g111_24, g111_26, g111_27, q2, ↓reduceIte]
        exact no _
  · have cl := c_canLay_no (p := p) (S := S1) (G := G1) (Q := Q) (d + 1) b2 hA q
    simp only [g111_0, g111_1, g111_2, g111_5, g111_6, g111_9, g111_10, g111_11, g111_12, g111_13, rfp0, b0 (d + 4), cl, z0, rb0, Option.bind_some, Option.toList_some, Option.toList_none, List.cons_append, List.nil_append]
    rw [g111_16, if_pos rfl]
    exact no _
theorem r_side (d : Nat) (hR : zRs S G A) (hA : zVa A) {s m k i c : Nat} (hF : zFe A.1 A.2.2.2 s m) (hk : k < th m) (hi : i < m) (hc : c < 4) : ∃ S' G' Q', zcl (d + 6) 113 [.ref 256, .int (nI s), .int (nI m), .int (nI k), .int (nI i), .int (nI c)] (zRh p S G Q) = some (some (.int (nI (eE (aX A s m k) (tT (tf m + k) 12 i) c))), zRh p S' G' Q') ∧ zqF A S S' G G' := by
  have z0 : zcs [] ≤ 8 := by decide
  have zr : ∀ x, zcs [.ref x] ≤ 8 := fun _ => Nat.le_of_ble_eq_true rfl
  have m4 := hF.2.1
  obtain ⟨S1, G1, b0, b1, b2, b3, b4⟩ := c_beg hR
  have cl := c_canLay (p := p) (S := S1) (G := G1) (Q := Q) (d + 1) b2 hA hF hk
  obtain ⟨S2, G2, Q2, o1, o2, o3, o4, o5⟩ := c_makes (p := p) (S := S1) (G := G1) (Q := Q) d b2 hA hF hk
  obtain ⟨t1, t2, t3⟩ := tft m (by omega) k hk
  have hT := tok t1
  have hX := yX_lay (w := fun i => pN A.2.2.2 (5 * (s + i))) (h := fun i => pN A.2.2.2 (5 * (s + i) + 1)) (W := aW A s) (H := A.2.2.1) hT
  have hw := aw_ok (s := s) (m := tn (tf m + k)) hA (by rw [t2]; exact hF.2.2.1)
  have la := (hT.2.2.2 i (by rw [t2]; exact hi)).1
  have no := c_nodeOf (p := p) (S := S2) (Q := Q2) (d + 4) t1 (show i < tn (tf m + k) by rw [t2]; exact hi) o3
  obtain ⟨Q3, s1, -⟩ := c_sideOf (p := p) (S := S2) (G := G2) (Q := Q2) (d + 1) hT hX hw (aW_le hA) hA.2.2.1.2 la hc (o4 _ la)
  have c1 : ¬ nI i < 0 := nI_pos (by omega)
  have c2 : ¬ nI m ≤ nI i := nI_ge hi (by omega)
  have c3 : ¬ nI c < 0 := nI_pos (by omega)
  have c4 : nI c ≤ 3 := nI_le (b := 3) (by omega) (by decide)
  refine ⟨S2, G2, Q3, ?_, zqF_of b1 b2 b3 b4 o2⟩
  rw [e113]
  simp only [g113_0, g113_1, g113_2, g113_5, g113_6, g113_9, g113_10, g113_11, g113_12, g113_13, rfp0, b0 (d + 4), cl, z0, rb0, Option.bind_some, Option.toList_some, Option.toList_none, List.cons_append, List.nil_append]
  rw [g113_16, if_neg (by decide)]
  simp only [g113_19, g113_21, c1, ↓reduceIte]
  simp only [g113_24, g113_26, g113_27, c2, ↓reduceIte]
  simp only [g113_30, g113_32, c3, ↓reduceIte]
  simp only [g113_35, g113_37, g113_38, c4, ↓reduceIte]
  simp only [g113_43, g113_44, g113_45, g113_46, g113_47, g113_50, g113_51, g113_52, g113_54, g113_57, g113_59, o1, no, z0, zr, rb0, Option.bind_some, Option.toList_some, Option.toList_none, List.cons_append, List.nil_append]
  have s1' : zcl (d + 5) 107 [.ref 256, .int (nI (tT (tf m + k) 12 i)), .int (nI c)] (zRh p S2 G2 Q2) = some (some (.int (nI (eE (aX A s m k) (tT (tf m + k) 12 i) c))), zRh p S2 G2 Q3) := s1
  simp only [s1', Option.bind_some, Option.toList_some, List.cons_append, List.nil_append, g113_62]
theorem r_side_no (d : Nat) (hR : zRs S G A) (hA : zVa A) {x y z w v : Int32} (hn : ¬ ∃ s m k i c, x = nI s ∧ y = nI m ∧ z = nI k ∧ w = nI i ∧ v = nI c ∧ zFe A.1 A.2.2.2 s m ∧ k < th m ∧ i < m ∧ c < 4) : ∃ S' G', zcl (d + 6) 113 [.ref 256, .int x, .int y, .int z, .int w, .int v] (zRh p S G Q) = some (some (.int (-1)), zRh p S' G' Q) ∧ zqF A S S' G G' := by
  have z0 : zcs [] ≤ 8 := by decide
  obtain ⟨S1, G1, b0, b1, b2, b3, b4⟩ := c_beg hR
  refine ⟨S1, G1, ?_, zqF_of b1 b2 b3 b4 dF_rf⟩
  have no : ∀ L, zres (d + 5) 113 41 L [] (zRh p S1 G1 Q) = some (some (.int (-1)), zRh p S1 G1 Q) := fun L => by rw [g113_41, g113_42]
  rw [e113]
  by_cases q : ∃ s m k, x = nI s ∧ y = nI m ∧ z = nI k ∧ zFe A.1 A.2.2.2 s m ∧ k < th m
  · obtain ⟨s, m, k, rfl, rfl, rfl, hF, hk⟩ := q
    have m4 := hF.2.1
    have cl := c_canLay (p := p) (S := S1) (G := G1) (Q := Q) (d + 1) b2 hA hF hk
    simp only [g113_0, g113_1, g113_2, g113_5, g113_6, g113_9, g113_10, g113_11, g113_12, g113_13, rfp0, b0 (d + 4), cl, z0, rb0, Option.bind_some, Option.toList_some, Option.toList_none, List.cons_append, List.nil_append]
    rw [g113_16, if_neg (by decide)]
    by_cases q1 : w < 0
    · simp only [g113_19, g113_21, q1, ↓reduceIte]
      exact no _
    simp only [g113_19, g113_21, q1, ↓reduceIte]
    by_cases q2 : nI m ≤ w
    · simp only [g113_24, g113_26, g113_27, q2, ↓reduceIte]
      exact no _
    simp only [g113_24, g113_26, g113_27, q2, ↓reduceIte]
    by_cases q3 : v < 0
    · simp only [g113_30, g113_32, q3, ↓reduceIte]
      exact no _
    simp only [g113_30, g113_32, q3, ↓reduceIte]
    by_cases q4 : v ≤ 3
    · obtain ⟨c1, -, c2⟩ := i_rng (a := 0) (b := 3) (by decide) (by decide) (i_nlt.mp q3) q4
      obtain ⟨i, i1, rfl⟩ := nI_of q1
      have il := (nI_ltI i1 (show m < 2 ^ 31 by omega)).mp (i_nle.mp q2)
      exact absurd ⟨s, m, k, i, v.toNatClampNeg, rfl, rfl, rfl, rfl, c1, hF, hk, il, by omega⟩ hn
    · simp only [g113_35, g113_37, g113_38, q4, ↓reduceIte]
      exact no _
  · have cl := c_canLay_no (p := p) (S := S1) (G := G1) (Q := Q) (d + 1) b2 hA q
    simp only [g113_0, g113_1, g113_2, g113_5, g113_6, g113_9, g113_10, g113_11, g113_12, g113_13, rfp0, b0 (d + 4), cl, z0, rb0, Option.bind_some, Option.toList_some, Option.toList_none, List.cons_append, List.nil_append]
    rw [g113_16, if_pos rfl]
    exact no _
theorem r_about (d : Nat) (hR : zRs S G A) (hN : A.1 ≤ 12) (x : Int32) : ∃ S' G', zcl (d + 2) 89 [.ref 256, .int x] (zRh p S G Q) = some (some (.int (zabt A x)), zRh p S' G' Q) ∧ zqF A S S' G G' := by
  have z0 : zcs [] ≤ 8 := by decide
  have hwi : ∀ x, Value.category (.int x) = 1 := fun _ => rfl
  obtain ⟨S1, G1, b0, b1, b2, b3, b4⟩ := c_beg hR
  refine ⟨S1, G1, ?_, zqF_of b1 b2 b3 b4 dF_rf⟩
  have no : ∀ L, zres (d + 1) 89 75 L [] (zRh p S1 G1 Q) = some (some (.int (-1)), zRh p S1 G1 Q) := fun L => by rw [g89_75, g89_76]
  rw [e89]
  simp only [g89_0, g89_1, g89_2, g89_5, g89_6, rfp0, b0 d, z0, rb0, Option.bind_some, Option.toList_none, List.nil_append]
  by_cases q : 0 ≤ x ∧ x < 3
  · have e : ∃ j, j < 3 ∧ x = nI j := by
      rcases pk_ix x (n := 3) (by decide) with w | w | w
      · exact absurd w (i_nlt.mpr q.1)
      · exact absurd q.2 (i_nlt.mpr w)
      · exact w
    obtain ⟨j, j3, rfl⟩ := e
    have c2 : ¬ (3 : Int32) ≤ nI j := i_nle.mpr q.2
    simp only [g89_9, g89_10, i_nlt.mpr q.1, ↓reduceIte]
    simp only [g89_13, g89_14, g89_15, c2, ↓reduceIte]
    simp only [g89_18, g89_19, g89_22, g89_23, g89_24, rg1, ra1 (show j < 63 by omega), Option.bind_some]
    match j, j3 with
    | 0, _ => rw [b2.1]; rfl
    | 1, _ => rw [b2.2.1]; rfl
    | 2, _ => rw [b2.2.2.1]; rfl
  · have n10 : ¬ (10 : Int32) = 0 := by decide
    have go : zres (d + 1) 89 9 [.ref 256, .int x, zj, zj] [] (zRh p S1 G1 Q) = zres (d + 1) 89 25 [.ref 256, .int x, zj, zj] [] (zRh p S1 G1 Q) := by
      by_cases q1 : x < 0
      · simp only [g89_9, g89_10, q1, ↓reduceIte]
      · have q2 : (3 : Int32) ≤ x := i_nlt.mp fun w => q ⟨i_nlt.mp q1, w⟩
        simp only [g89_9, g89_10, q1, ↓reduceIte]
        simp only [g89_13, g89_14, g89_15, q2, ↓reduceIte]
    have k0 : ¬ x = 0 := fun w => q (by rw [w]; decide)
    have k1 : ¬ x = 1 := fun w => q (by rw [w]; decide)
    have k2 : ¬ x = 2 := fun w => q (by rw [w]; decide)
    unfold zabt
    rw [go, if_neg k0, if_neg k1, if_neg k2]
    simp only [g89_25, g89_26, g89_28, g89_29, g89_31, g89_32, g89_33, g89_34, g89_36, g89_37, g89_39, g89_40, g89_41, g89_42, n10, not_false_eq_true, hwi]
    by_cases q3 : x < 10
    · simp only [g89_44, q3, ↓reduceIte]
      exact no _
    · rw [if_neg q3]
      have ge : ∃ j, 10 ≤ j ∧ j < 2 ^ 31 ∧ x = nI j := by
        have h1 := i_nlt.mp q3
        have h0 : ¬ x < 0 := fun w => q3 (by
          have a := Int32.lt_iff_toInt_lt.mp w
          rw [Int32.lt_iff_toInt_lt]
          have e0 : (0 : Int32).toInt = 0 := rfl
          have e1 : (10 : Int32).toInt = 10 := rfl
          omega)
        obtain ⟨j, j1, rfl⟩ := nI_of h0
        exact ⟨j, (nI_leI (a := 10) (by decide) j1).mp h1, j1, rfl⟩
      obtain ⟨j, j10, j31, rfl⟩ := ge
      have s1 : nI j - 10 = nI (j - 10) := by rw [show (10 : Int32) = nI 10 from rfl]; exact pk_sub j10
      have s2 : nI (j - 10) / 10 = nI ((j - 10) / 10) := by rw [show (10 : Int32) = nI 10 from rfl]; exact pk_div (by omega) (by decide) (by decide)
      have s3 : nI (j - 10) - nI ((j - 10) / 10) * 10 = nI (j % 10) := by
        have := pk_rem (a := j - 10) (d := 10) (by omega) (by decide) (by decide)
        rw [pk_div (by omega) (by decide) (by decide)] at this
        rw [show (10 : Int32) = nI 10 from rfl, this]
        congr 1
        omega
      have s4 : nI j - nI j / 10 * 10 = nI (j % 10) := by
        have := pk_rem (a := j) (d := 10) (by omega) (by decide) (by decide)
        exact this
      have ip := c_isPic (p := p) (S := S1) (G := G1) (Q := Q) d b2.1 (nI ((j - 10) / 10))
      simp only [g89_44, q3, ↓reduceIte]
      simp only [g89_47, g89_48, g89_49, s1, s2, s3, s4, ip, z0, rb0, Option.bind_some, Option.toList_some, List.cons_append, List.nil_append]
      generalize hi : (j - 10) / 10 = i
      have i31 : i < 2 ^ 31 := by omega
      by_cases q4 : 0 ≤ nI i ∧ nI i < nI A.1
      · rw [if_pos q4, g89_52, if_neg (by decide)]
        have iN := (nI_ltI i31 (show A.1 < 2 ^ 31 by omega)).mp q4.2
        by_cases q5 : j % 10 < 5
        · have c5 : ¬ (5 : Int32) ≤ nI (j % 10) := nI_ge (b := 5) q5 (by decide)
          have e1 : nI (3 + 5 * i) + nI (j % 10) = nI (3 + 5 * i + j % 10) := nI_add _ _
          have bb : 3 + 5 * i + j % 10 < 63 := by omega
          have gg : G1 1 (3 + 5 * i + j % 10) = A.2.2.2 (5 * i + j % 10) := by rw [Nat.add_assoc]; exact b2.2.2.2 _ (by omega)
          simp only [g89_55, g89_56, g89_57, c5, ↓reduceIte]
          simp only [g89_60, g89_61, g89_64, g89_65, g89_66, g89_67, g89_68, g89_69, g89_70, g89_71, g89_72, g89_76, rg1, ix35, e1, ra1 bb, gg, Option.bind_some]
          rw [znum_nI hN iN q5]
        · have c5 : (5 : Int32) ≤ nI (j % 10) := nI_le (a := 5) (by omega) (by omega)
          simp only [g89_55, g89_56, g89_57, c5, ↓reduceIte]
          rw [no]
          unfold znum
          rw [if_neg (fun w => absurd w.2.2 (i_nlt.mpr c5))]
      · rw [if_neg q4, g89_52, if_pos rfl, no, znum_no q4]
end RAPI2
