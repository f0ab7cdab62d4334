/-! THE REFERENCE'S CALLS THAT CHANGE NOTHING -/
def zRs (S : Nat → Int32) (G : Nat → Nat → Int32) (A : AV) : Prop := (S 4 = 1 ∧ zGA (G 1) A) ∨ (S 4 = 0 ∧ G 1 0 = 0 ∧ A.1 = 0 ∧ A.2.1 = 100 ∧ A.2.2.1 = 100)
def zqF (A : AV) (S S' : Nat → Int32) (G G' : Nat → Nat → Int32) : Prop := S' 4 = 1 ∧ zGA (G' 1) A ∧ (∀ j, j ≠ 0 → j ≠ 4 → j ≠ 5 → S' j = S j) ∧ ∀ a, (a = 2 ∨ 9 < a) → G' a = G a
theorem c_beg {S : Nat → Int32} {G : Nat → Nat → Int32} {A : AV} (h : zRs S G A) : ∃ S' G', (∀ (d : Nat) (p : ZP) (Q : Nat → Nat → Int64), zcl (d + 1) 78 [.ref 256] (zRh p (upd S 0 0) G Q) = some (none, zRh p S' G' Q)) ∧ S' 4 = 1 ∧ zGA (G' 1) A ∧ (∀ j, j ≠ 0 → j ≠ 4 → S' j = S j) ∧ ∀ a, a ≠ 1 → G' a = G a := by
  rcases h with ⟨h1, h2⟩ | ⟨h1, h2, h3, h4, h5⟩
  · refine ⟨upd S 0 0, G, fun d p Q => ?_, by rw [pk_un (by decide)]; exact h1, h2, fun j h0 _ => pk_un h0, fun _ _ => rfl⟩
    have e : upd S 0 0 4 = 1 := by rw [pk_un (by decide)]; exact h1
    rw [e78]
    simp only [g78_0, g78_1, rg4, e, Option.bind_some]
    rw [g78_4, if_neg (by decide), g78_7]
  · refine ⟨upd (upd S 0 0) 4 1, ug (ug G 1 1 100) 1 2 100, fun d p Q => ?_, pk_us, ⟨?_, ?_, ?_, fun j hj => by omega⟩, fun j h0 h4 => by rw [pk_un h4, pk_un h0], fun a ha => by rw [ug_n ha, ug_n ha]⟩
    · have e : upd S 0 0 4 = 0 := by rw [pk_un (by decide)]; exact h1
      have w1 : zast 10 (zRh p (upd (upd S 0 0) 4 1) G Q) 257 1 (.int 100) = some (zRh p (upd (upd S 0 0) 4 1) (ug G 1 1 100) Q) := rw1 (j := 1) (by decide)
      have w2 : zast 10 (zRh p (upd (upd S 0 0) 4 1) (ug G 1 1 100) Q) 257 2 (.int 100) = some (zRh p (upd (upd S 0 0) 4 1) (ug (ug G 1 1 100) 1 2 100) Q) := rw1 (j := 2) (by decide)
      rw [e78]
      simp only [g78_0, g78_1, rg4, e, Option.bind_some]
      rw [g78_4, if_pos rfl]
      simp only [g78_8, g78_9, g78_10, g78_13, g78_14, g78_17, g78_18, g78_20, g78_21, g78_22, g78_25, g78_26, g78_28, g78_29, rg1, rfp4 zone, w1, w2, Option.bind_some]
    · rw [ug_s, pk_un (by decide), ug_s, pk_un (by decide), h2, h3]; rfl
    · rw [ug_s, pk_un (by decide), ug_s, pk_us, h4]; rfl
    · rw [ug_s, pk_us, h5]; rfl
theorem zqF_of {A : AV} {S S1 S' : Nat → Int32} {G G1 G' : Nat → Nat → Int32} (b1 : S1 4 = 1) (b2 : zGA (G1 1) A) (b3 : ∀ j, j ≠ 0 → j ≠ 4 → S1 j = S j) (b4 : ∀ a, a ≠ 1 → G1 a = G a) (h : dF S1 S' G1 G') : zqF A S S' G G' := ⟨by rw [h.1 4 (by decide)]; exact b1, by rw [h.2 1 (by omega)]; exact b2, fun j h0 h4 h5 => (h.1 j h5).trans (b3 j h0 h4), fun a ha => (h.2 a (by omega)).trans (b4 a (by omega))⟩
section RAPI
variable {p : ZP} {S : Nat → Int32} {G : Nat → Nat → Int32} {Q : Nat → Nat → Int64} {A : AV}
theorem r_trees (d : Nat) (hR : zRs S G A) (x : Int32) : ∃ S' G', zcl (d + 3) 97 [.ref 256, .int x] (zRh p S G Q) = some (some (.int (if 1 ≤ x ∧ x ≤ 4 then zhm x else -1)), zRh p S' G' Q) ∧ zqF A S S' G G' := by
  have z0 : zcs [] ≤ 8 := by decide
  obtain ⟨S1, G1, b0, b1, b2, b3, b4⟩ := c_beg hR
  refine ⟨S1, G1, ?_, zqF_of b1 b2 b3 b4 dF_rf⟩
  rw [e97]
  simp only [g97_0, g97_1, g97_2, g97_5, g97_6, rfp0, b0 (d + 1), z0, rb0, Option.bind_some, Option.toList_none, List.nil_append]
  by_cases q : 1 ≤ x ∧ x ≤ 4
  · obtain ⟨j1, j2, j3⟩ := i_rng (a := 1) (b := 4) (by decide) (by decide) q.1 q.2
    generalize x.toNatClampNeg = n at *
    subst j1
    have to := c_treesOf (p := p) (S := S1) (G := G1) (Q := Q) d (n := n) (by omega) j2
    rw [if_pos q, th_ok n (by omega)]
    simp only [g97_9, g97_10, g97_11, i_nlt.mpr q.1, ↓reduceIte]
    simp only [g97_14, g97_15, g97_16, q.2, ↓reduceIte]
    simp only [g97_23, g97_24, g97_25, g97_28, to, z0, rb0, Option.bind_some, Option.toList_some, List.cons_append, List.nil_append]
  · rw [if_neg q]
    by_cases q1 : x < 1
    · simp only [g97_9, g97_10, g97_11, q1, ↓reduceIte]
      rw [g97_19, g97_20, g97_28]
    · have q2 : ¬ x ≤ 4 := fun w => q ⟨i_nlt.mp q1, w⟩
      simp only [g97_9, g97_10, g97_11, q1, ↓reduceIte]
      simp only [g97_14, g97_15, g97_16, q2, ↓reduceIte]
      rw [g97_19, g97_20, g97_28]
theorem r_tree (d : Nat) (hR : zRs S G A) {t : Nat} (ht : t < 31) (i : Int32) : ∃ S' G', zcl (d + 4) 99 [.ref 256, .int (nI (tn t)), .int (nI (tk t)), .int i] (zRh p S G Q) = some (some (.int (ztre t i)), zRh p S' G' Q) ∧ zqF A S S' G G' := by
  have z0 : zcs [] ≤ 8 := by decide
  obtain ⟨S1, G1, b0, b1, b2, b3, b4⟩ := c_beg hR
  have it := c_isTree (p := p) (S := S1) (G := G1) (Q := Q) d ht
  have pre : zcl (d + 4) 99 [.ref 256, .int (nI (tn t)), .int (nI (tk t)), .int i] (zRh p S G Q) = zres (d + 3) 99 18 [.ref 256, .int (nI (tn t)), .int (nI (tk t)), .int i] [] (zRh p S1 G1 Q) := by
    rw [e99]
    simp only [g99_0, g99_1, g99_2, g99_5, g99_6, g99_9, g99_10, g99_11, g99_12, rfp0, b0 (d + 2), it, z0, rb0, Option.bind_some, Option.toList_some, Option.toList_none, List.cons_append, List.nil_append]
    rw [g99_15, if_neg (by decide)]
  rw [pre]
  unfold ztre
  have hT := tok ht
  have hM0 := hT.1.1
  have hM7 := hT.1.2.1
  by_cases q : -1 ≤ i
  · obtain ⟨S2, G2, o1, o2, o3, o4⟩ := c_decodes (p := p) (Q := Q) d ht S1 G1
    obtain ⟨⟨g3, g4, g5, g6⟩, -, g78⟩ := o3 0 hM0
    obtain ⟨g7, g8⟩ := g78 hM0
    refine ⟨S2, G2, ?_, zqF_of b1 b2 b3 b4 o4⟩
    have z5 : zald 10 (zRh p S2 G2 Q) 261 0 = some (.int (nI (tT t 1 0))) := (ra5 (j := 0) (by decide)).trans (by rw [g5])
    have z7 : zald 10 (zRh p S2 G2 Q) 263 0 = some (.int (nI (tT t 6 0))) := (ra7 (j := 0) (by decide)).trans (by rw [g7])
    simp only [g99_18, g99_19, g99_20, q, ↓reduceIte]
    simp only [g99_25, g99_26, g99_27, g99_28, g99_31, g99_32, o1, z0, rb0, Option.bind_some, Option.toList_none, List.nil_append]
    by_cases q1 : i = -1
    · rw [if_pos q1, g99_33, if_neg (fun w => w q1)]
      simp only [g99_36, g99_37, g99_40, g99_41, g99_42, rg8, z5, Option.bind_some]
    · rw [if_neg q1, g99_33, if_pos q1]
      simp only [g99_43, g99_44, g99_45, g99_48, g99_49, g99_50, rg10, z7, Option.bind_some]
      have i0 : 0 ≤ i := by
        have h1 := Int32.le_iff_toInt_le.mp q
        have e1 : (-1 : Int32).toInt = -1 := rfl
        have h2 : ¬ i.toInt = -1 := fun w => q1 (Int32.toInt_inj.mp (by rw [w]; rfl))
        rw [Int32.le_iff_toInt_le]
        have e0 : (0 : Int32).toInt = 0 := rfl
        omega
      by_cases q2 : nI (tT t 6 0) ≤ i
      · rw [if_pos q2, if_neg (fun w => absurd w.2 (i_nlt.mpr q2)), g99_69, g99_70]
      · have q3 := i_nle.mp q2
        rw [if_neg q2, if_pos ⟨i0, q3⟩]
        obtain ⟨j, j1, rfl⟩ := nI_of (i_nlt.mpr i0)
        have t6 := tr_6 t ht
        have jl := (nI_ltI j1 (show tT t 6 0 < 2 ^ 31 by omega)).mp q3
        have hc : ¬ tT t 1 0 = 0 := fun w => by
          have := (tok_b1 t ht 0 hM0 w).1
          omega
        have z8 : zald 10 (zRh p S2 G2 Q) 264 0 = some (.int (nI (tT t 4 0))) := (ra8 (j := 0) (by decide)).trans (by rw [g8 hc])
        obtain ⟨a1, a2, a3⟩ := tr_0 t ht j jl
        have hp := (y_cut hT hM0 hc).2.2.2.2.1
        have gj := (o3 (tT t 4 0 + j) (by omega)).1.1
        rw [nI_clamp j1]
        simp only [g99_53, g99_54, g99_57, g99_58, g99_61, g99_62, g99_63, g99_64, g99_65, g99_66, g99_70, rg6, rg11, z8, nI_add, ra3 a3, gj, Option.bind_some]
  · refine ⟨S1, G1, ?_, zqF_of b1 b2 b3 b4 dF_rf⟩
    have q1 : ¬ i = -1 := fun w => q (by rw [w]; exact Int32.le_iff_toInt_le.mpr (Int.le_refl _))
    have q2 : ¬ (0 ≤ i ∧ i < nI (tT t 6 0)) := fun w => q (by
      have h1 := Int32.le_iff_toInt_le.mp w.1
      rw [Int32.le_iff_toInt_le]
      have e1 : (-1 : Int32).toInt = -1 := rfl
      have e0 : (0 : Int32).toInt = 0 := rfl
      omega)
    rw [if_neg q1, if_neg q2]
    simp only [g99_18, g99_19, g99_20, q, ↓reduceIte]
    rw [g99_23, g99_24]
theorem r_tree_no (d : Nat) (hR : zRs S G A) {n k i : Int32} (hn : ¬ ∃ t, t < 31 ∧ n = nI (tn t) ∧ k = nI (tk t)) : ∃ S' G', zcl (d + 4) 99 [.ref 256, .int n, .int k, .int i] (zRh p S G Q) = some (some (.int (-1)), zRh p S' G' Q) ∧ zqF A S S' G G' := by
  have z0 : zcs [] ≤ 8 := by decide
  obtain ⟨S1, G1, b0, b1, b2, b3, b4⟩ := c_beg hR
  have it := c_isTree_no (p := p) (S := S1) (G := G1) (Q := Q) d hn
  refine ⟨S1, G1, ?_, zqF_of b1 b2 b3 b4 dF_rf⟩
  rw [e99]
  simp only [g99_0, g99_1, g99_2, g99_5, g99_6, g99_9, g99_10, g99_11, g99_12, rfp0, b0 (d + 2), it, z0, rb0, Option.bind_some, Option.toList_some, Option.toList_none, List.cons_append, List.nil_append]
  rw [g99_15, if_pos rfl, g99_23, g99_24]
theorem r_cost (d : Nat) (hR : zRs S G A) (hA : zVa A) {s m k : Nat} (hF : zFe A.1 A.2.2.2 s m) (hk : k < th m) : ∃ S' G' Q', zcl (d + 7) 115 [.ref 256, .int (nI s), .int (nI m), .int (nI k)] (zRh p S G Q) = some (some (.int (nI (aC A s m k))), zRh p S' G' Q') ∧ zqF A S S' G G' := by
  have z0 : zcs [] ≤ 8 := by decide
  obtain ⟨S1, G1, b0, b1, b2, b3, b4⟩ := c_beg hR
  have cl := c_canLay (p := p) (S := S1) (G := G1) (Q := Q) (d + 2) b2 hA hF hk
  obtain ⟨S2, G2, Q2, o1, o2⟩ := c_costOf (p := p) (S := S1) (G := G1) (Q := Q) d b2 hA hF hk
  refine ⟨S2, G2, Q2, ?_, zqF_of b1 b2 b3 b4 o2⟩
  rw [e115]
  simp only [g115_0, g115_1, g115_2, g115_5, g115_6, g115_9, g115_10, g115_11, g115_12, g115_13, rfp0, b0 (d + 5), cl, z0, rb0, Option.bind_some, Option.toList_some, Option.toList_none, List.cons_append, List.nil_append]
  rw [g115_16, if_neg (by decide)]
  simp only [g115_19, g115_20, g115_21, g115_22, g115_23, g115_26, g115_30, o1, z0, rb0, Option.bind_some, Option.toList_some, List.cons_append, List.nil_append]
theorem r_cost_no (d : Nat) (hR : zRs S G A) (hA : zVa A) {x y z : Int32} (hn : ¬ ∃ s m k, x = nI s ∧ y = nI m ∧ z = nI k ∧ zFe A.1 A.2.2.2 s m ∧ k < th m) : ∃ S' G', zcl (d + 7) 115 [.ref 256, .int x, .int y, .int z] (zRh p S G Q) = some (some (.int (-1)), zRh p S' G' Q) ∧ zqF A S S' G G' := by
  have z0 : zcs [] ≤ 8 := by decide
  obtain ⟨S1, G1, b0, b1, b2, b3, b4⟩ := c_beg hR
  have cl := c_canLay_no (p := p) (S := S1) (G := G1) (Q := Q) (d + 2) b2 hA hn
  refine ⟨S1, G1, ?_, zqF_of b1 b2 b3 b4 dF_rf⟩
  rw [e115]
  simp only [g115_0, g115_1, g115_2, g115_5, g115_6, g115_9, g115_10, g115_11, g115_12, g115_13, rfp0, b0 (d + 5), cl, z0, rb0, Option.bind_some, Option.toList_some, Option.toList_none, List.cons_append, List.nil_append]
  rw [g115_16, if_pos rfl, g115_29, g115_30]
theorem r_best (d : Nat) (hR : zRs S G A) (hA : zVa A) {s m : Nat} (hF : zFe A.1 A.2.2.2 s m) : ∃ S' G' Q', zcl (d + 8) 117 [.ref 256, .int (nI s), .int (nI m)] (zRh p S G Q) = some (some (.int (nI (aB A s m))), zRh p S' G' Q') ∧ zqF A S S' G G' := by
  have z0 : zcs [] ≤ 8 := by decide
  obtain ⟨S1, G1, b0, b1, b2, b3, b4⟩ := c_beg hR
  have cl : zcl (d + 7) 108 [.ref 256, .int (nI s), .int (nI m), .int 0] (zRh p S1 G1 Q) = some (some (.int 1), zRh p S1 G1 Q) := c_canLay (p := p) (S := S1) (G := G1) (Q := Q) (d + 3) b2 hA hF (k := 0) (th_pos m (by have := hF.2.1; omega) hF.1)
  obtain ⟨S2, G2, Q2, o1, o2⟩ := c_bestOf (p := p) (S := S1) (G := G1) (Q := Q) d b2 hA hF
  refine ⟨S2, G2, Q2, ?_, zqF_of b1 b2 b3 b4 o2⟩
  rw [e117]
  simp only [g117_0, g117_1, g117_2, g117_5, g117_6, g117_9, g117_10, g117_11, g117_12, g117_13, rfp0, b0 (d + 6), cl, z0, rb0, Option.bind_some, Option.toList_some, Option.toList_none, List.cons_append, List.nil_append]
  rw [g117_16, if_neg (by decide)]
  simp only [g117_19, g117_20, g117_21, g117_22, g117_25, g117_29, o1, z0, rb0, Option.bind_some, Option.toList_some, List.cons_append, List.nil_append]
theorem r_best_no (d : Nat) (hR : zRs S G A) (hA : zVa A) {x y : Int32} (hn : ¬ ∃ s m, x = nI s ∧ y = nI m ∧ zFe A.1 A.2.2.2 s m) : ∃ S' G', zcl (d + 8) 117 [.ref 256, .int x, .int y] (zRh p S G Q) = some (some (.int (-1)), zRh p S' G' Q) ∧ zqF A S S' G G' := by
  have z0 : zcs [] ≤ 8 := by decide
  obtain ⟨S1, G1, b0, b1, b2, b3, b4⟩ := c_beg hR
  have cl := c_canLay_no (p := p) (S := S1) (G := G1) (Q := Q) (d + 3) (x := x) (y := y) (z := 0) b2 hA (fun ⟨s, m, k, h1, h2, h3, h4, h5⟩ => hn ⟨s, m, h1, h2, h4⟩)
  refine ⟨S1, G1, ?_, zqF_of b1 b2 b3 b4 dF_rf⟩
  rw [e117]
  simp only [g117_0, g117_1, g117_2, g117_5, g117_6, g117_9, g117_10, g117_11, g117_12, g117_13, rfp0, b0 (d + 6), cl, z0, rb0, Option.bind_some, Option.toList_some, Option.toList_none, List.cons_append, List.nil_append]
  rw [g117_16, if_pos rfl, g117_28, g117_29]
end RAPI
