/-! THE REFERENCE'S CALLS ABOUT THE BOOK -/
def zsF (A : AV) (S S' : Nat → Int32) (G G' : Nat → Nat → Int32) : Prop := S' 4 = 1 ∧ zGA (G' 1) A ∧ (∀ j, j ≠ 0 → j ≠ 4 → j ≠ 5 → j ≠ 29 → S' j = S j) ∧ ∀ a, (a = 2 ∨ 26 < a) → G' a = G a
theorem zqF_s {A : AV} {S S' : Nat → Int32} {G G' : Nat → Nat → Int32} (h : zqF A S S' G G') : zsF A S S' G G' := ⟨h.1, h.2.1, fun j h0 h4 h5 _ => h.2.2.1 j h0 h4 h5, fun a ha => h.2.2.2 a (by omega)⟩
theorem zsF_of {A : AV} {S S1 S' : Nat → Int32} {G G1 G' : Nat → Nat → Int32} (b1 : S1 4 = 1) (b2 : zGA (G1 1) A) (b3 : ∀ j, j ≠ 0 → j ≠ 4 → S1 j = S j) (b4 : ∀ a, a ≠ 1 → G1 a = G a) (h : sF S1 S' G1 G') : zsF A S S' G G' := ⟨by rw [h.1 4 (by decide) (by decide)]; exact b1, by rw [h.2 1 (by omega)]; exact b2, fun j h0 h4 h5 h9 => (h.1 j h5 h9).trans (b3 j h0 h4), fun a ha => (h.2 a (by omega)).trans (b4 a (by omega))⟩
theorem exI_0 {A : AV} (h : (DD A 0 0).1 = none) : exI A = 0 := by unfold exI; rw [h]
theorem exI_1 {A : AV} {v : Nat} (h : (DD A 0 0).1 = some v) : exI A = 1 := by unfold exI; rw [h]
theorem PGS_0 {A : AV} (h : (DD A 0 0).1 = none) : PGS A = [] := by unfold PGS; rw [h]
def oldR (S : Nat → Int32) (G : Nat → Nat → Int32) (B : AV) : Prop := S 34 = exI B ∧ S 35 = nI (PGS B).length ∧ ∀ q, q < (PGS B).length → G 27 q = (Lg (PGS B) q).1 ∧ G 28 q = (Lg (PGS B) q).2.1 ∧ G 29 q = (Lg (PGS B) q).2.2
section RAPI3
variable {p : ZP} {S : Nat → Int32} {G : Nat → Nat → Int32} {Q : Nat → Nat → Int64} {A : AV}
theorem r_book (d : Nat) (hR : zRs S G A) (hA : zVa A) : ∃ S' G' Q', zcl (d + 10) 125 [.ref 256] (zRh p S G Q) = some (some (.int (en1 (DD A 0 0).1)), zRh p S' G' Q') ∧ zsF A S S' G G' := by
  have z0 : zcs [] ≤ 8 := by decide
  obtain ⟨S1, G1, b0, b1, b2, b3, b4⟩ := c_beg hR
  obtain ⟨S2, G2, Q2, o1, o2, o3, o4, o5⟩ := c_sets (p := p) d hA S1 G1 Q b2
  have r0 : zald 10 (zRh p S2 G2 Q2) 277 0 = some (.int (en2 (DD A 0 0).1)) := (ra21 (j := 0) (by decide)).trans (by rw [o4])
  refine ⟨S2, G2, Q2, ?_, zsF_of b1 b2 b3 b4 o2⟩
  rw [e125]
  simp only [g125_0, g125_1, g125_2, g125_5, g125_6, g125_9, g125_10, rfp0, b0 (d + 8), o1, z0, rb0, Option.bind_some, Option.toList_some, Option.toList_none, List.cons_append, List.nil_append]
  cases hd : (DD A 0 0).1 with
  | none =>
    rw [exI_0 hd, g125_13, if_pos rfl, g125_25, g125_26]
    rfl
  | some v =>
    rw [hd] at r0
    rw [exI_1 hd, g125_13, if_neg (by decide)]
    simp only [g125_16, g125_17, g125_20, g125_21, g125_22, g125_26, rg26, r0, Option.bind_some]
    rfl
theorem r_pages (d : Nat) (hR : zRs S G A) (hA : zVa A) : ∃ S' G' Q', zcl (d + 10) 126 [.ref 256] (zRh p S G Q) = some (some (.int (if exI A = 0 then -1 else nI (PGS A).length)), zRh p S' G' Q') ∧ zsF A S S' G G' := by
  have z0 : zcs [] ≤ 8 := by decide
  obtain ⟨S1, G1, b0, b1, b2, b3, b4⟩ := c_beg hR
  obtain ⟨S2, G2, Q2, o1, o2, o3, o4, o5⟩ := c_sets (p := p) d hA S1 G1 Q b2
  refine ⟨S2, G2, Q2, ?_, zsF_of b1 b2 b3 b4 o2⟩
  rw [e126]
  simp only [g126_0, g126_1, g126_2, g126_5, g126_6, g126_9, g126_10, rfp0, b0 (d + 8), o1, z0, rb0, Option.bind_some, Option.toList_some, Option.toList_none, List.cons_append, List.nil_append]
  by_cases z : exI A = 0
  · rw [if_pos z, g126_13, if_pos z, g126_23, g126_24]
  · rw [if_neg z, g126_13, if_neg z]
    simp only [g126_16, g126_17, g126_20, g126_24, rg29, o3.1, Option.bind_some]
theorem r_books (d : Nat) (hR : zRs S G A) (hA : zVa A) : ∃ S' G' Q', zcl (d + 10) 129 [.ref 256] (zRh p S G Q) = some (some (.int (if exI A = 0 then -1 else (DD A 0 0).2.1)), zRh p S' G' Q') ∧ zsF A S S' G G' := by
  have z0 : zcs [] ≤ 8 := by decide
  obtain ⟨S1, G1, b0, b1, b2, b3, b4⟩ := c_beg hR
  obtain ⟨S2, G2, Q2, o1, o2, o3, o4, o5⟩ := c_sets (p := p) d hA S1 G1 Q b2
  have r0 : zald 10 (zRh p S2 G2 Q2) 278 0 = some (.int (DD A 0 0).2.1) := (ra22 (j := 0) (by decide)).trans (by rw [o5])
  refine ⟨S2, G2, Q2, ?_, zsF_of b1 b2 b3 b4 o2⟩
  rw [e129]
  simp only [g129_0, g129_1, g129_2, g129_5, g129_6, g129_9, g129_10, rfp0, b0 (d + 8), o1, z0, rb0, Option.bind_some, Option.toList_some, Option.toList_none, List.cons_append, List.nil_append]
  by_cases z : exI A = 0
  · rw [if_pos z, g129_13, if_pos z, g129_25, g129_26]
  · rw [if_neg z, g129_13, if_neg z]
    simp only [g129_16, g129_17, g129_20, g129_21, g129_22, g129_26, rg27, r0, Option.bind_some]
theorem r_leaf (d : Nat) (hR : zRs S G A) (hA : zVa A) (x y : Int32) : ∃ S' G' Q', zcl (d + 10) 127 [.ref 256, .int x, .int y] (zRh p S G Q) = some (some (.int (lfv (PGS A) x y)), zRh p S' G' Q') ∧ zsF A S S' G G' := by
  have z0 : zcs [] ≤ 8 := by decide
  have len := PGS_len hA
  obtain ⟨S1, G1, b0, b1, b2, b3, b4⟩ := c_beg hR
  obtain ⟨S2, G2, Q2, o1, o2, o3, o4, o5⟩ := c_sets (p := p) d hA S1 G1 Q b2
  refine ⟨S2, G2, Q2, ?_, zsF_of b1 b2 b3 b4 o2⟩
  have no : ∀ L, zres (d + 9) 127 28 L [] (zRh p S2 G2 Q2) = some (some (.int (-1)), zRh p S2 G2 Q2) := fun L => by rw [g127_28, g127_29]
  rw [e127]
  simp only [g127_0, g127_1, g127_2, g127_5, g127_6, g127_9, g127_10, rfp0, b0 (d + 8), o1, z0, rb0, Option.bind_some, Option.toList_some, Option.toList_none, List.cons_append, List.nil_append]
  unfold lfv
  cases hd : (DD A 0 0).1 with
  | none =>
    rw [exI_0 hd, g127_13, if_pos rfl, PGS_0 hd, if_neg (fun w => absurd w.1.2 (i_nlt.mpr w.1.1))]
    exact no _
  | some v =>
    rw [exI_1 hd, g127_13, if_neg (by decide)]
    by_cases q1 : x < 0
    · rw [if_neg (fun w => absurd q1 (i_nlt.mpr w.1.1))]
      simp only [g127_16, g127_17, q1, ↓reduceIte]
      exact no _
    simp only [g127_16, g127_17, q1, ↓reduceIte]
    by_cases q2 : x < nI (PGS A).length
    · obtain ⟨j, j1, rfl⟩ := nI_of q1
      have jl := (nI_ltI j1 (show (PGS A).length < 2 ^ 31 by omega)).mp q2
      have j64 : j < 64 := by omega
      obtain ⟨l1, l2, l3⟩ := o3.2 j jl
      simp only [g127_20, g127_21, g127_22, g127_25, rg29, o3.1, q2, Option.bind_some, ↓reduceIte]
      rw [nI_clamp j1]
      by_cases y0 : y = 0
      · subst y0
        rw [if_pos ⟨⟨i_nlt.mp q1, trivial⟩, by decide, by decide⟩, if_pos rfl, g127_30, g127_31, if_neg (fun w => w rfl)]
        simp only [g127_34, g127_35, g127_38, g127_39, g127_40, rg30, ra24 j64, l1, Option.bind_some]
      · rw [g127_30, g127_31, if_pos y0]
        by_cases y1 : y = 1
        · subst y1
          rw [if_pos ⟨⟨i_nlt.mp q1, trivial⟩, by decide, by decide⟩, if_neg y0, if_pos rfl, g127_41, g127_42, g127_43, if_neg (fun w => w rfl)]
          simp only [g127_46, g127_47, g127_50, g127_51, g127_52, g127_70, rg31, ra25 j64, l2, Option.bind_some]
        · rw [g127_41, g127_42, g127_43, if_pos y1]
          by_cases y2 : y = 2
          · subst y2
            rw [if_pos ⟨⟨i_nlt.mp q1, trivial⟩, by decide, by decide⟩, if_neg y0, if_neg y1, g127_55, g127_56, g127_57, if_neg (fun w => w rfl)]
            simp only [g127_60, g127_61, g127_64, g127_65, g127_66, g127_70, rg32, ra26 j64, l3, Option.bind_some]
          · rw [g127_55, g127_56, g127_57, if_pos y2, g127_69, g127_70, if_neg (fun w => by
              rcases pk_ix y (n := 3) (by decide) with u | u | ⟨c, c3, u⟩
              · exact absurd u (i_nlt.mpr w.2.1)
              · exact absurd w.2.2 (i_nlt.mpr u)
              · match c, c3 with
                | 0, _ => exact y0 u
                | 1, _ => exact y1 u
                | 2, _ => exact y2 u)]
    · rw [if_neg (fun w => q2 w.1.2)]
      simp only [g127_20, g127_21, g127_22, g127_25, rg29, o3.1, q2, Option.bind_some, ↓reduceIte]
      exact no _
theorem r_pageOf (d : Nat) (hR : zRs S G A) (hA : zVa A) {j v n : Nat} (hj : j < A.1) (hv : (DD A 0 0).1 = some v) (hn : n < (PGS A).length) (hc : ctn (Lg (PGS A) n) j) (hf : ∀ q, q < n → ¬ ctn (Lg (PGS A) q) j) : ∃ S' G' Q', zcl (d + 10) 128 [.ref 256, .int (nI j)] (zRh p S G Q) = some (some (.int (nI n)), zRh p S' G' Q') ∧ zsF A S S' G G' := by
  have z0 : zcs [] ≤ 8 := by decide
  have hwi : ∀ x, Value.category (.int x) = 1 := fun _ => rfl
  have N12 := hA.1
  have len := PGS_len hA
  obtain ⟨S1, G1, b0, b1, b2, b3, b4⟩ := c_beg hR
  obtain ⟨S2, G2, Q2, o1, o2, o3, o4, o5⟩ := c_sets (p := p) d hA S1 G1 Q b2
  have ip := c_isPic (p := p) (S := S1) (G := G1) (Q := Q) (d + 8) b2.1 (nI j)
  rw [if_pos ⟨nI_pos' (by omega), nI_lt hj (by omega)⟩] at ip
  refine ⟨S2, G2, Q2, ?_, zsF_of b1 b2 b3 b4 o2⟩
  have loop : ∀ (r q : Nat), q + r = n → zres (d + 9) 128 28 [.ref 256, .int (nI j), .int (nI q)] [] (zRh p S2 G2 Q2) = some (some (.int (nI n)), zRh p S2 G2 Q2) := by
    intro r
    induction r with
    | zero =>
      intro q hq
      obtain rfl : q = n := by omega
      have q64 : q < 64 := by omega
      obtain ⟨l1, l2, l3⟩ := o3.2 q hn
      have c1 : ¬ nI j < (Lg (PGS A) q).2.1 := i_nlt.mpr hc.2.1
      simp only [g128_28, g128_29, g128_32, g128_33, rg30, ra24 q64, l1, Option.bind_some]
      rw [g128_34, if_neg hc.1]
      simp only [g128_37, g128_38, g128_39, g128_42, g128_43, g128_44, rg31, ra25 q64, l2, c1, Option.bind_some, ↓reduceIte]
      simp only [g128_47, g128_48, g128_49, g128_52, g128_53, g128_54, g128_55, g128_58, g128_59, g128_60, g128_61, rg30, rg31, ra24 q64, ra25 q64, l1, l2, hc.2.2, Option.bind_some, ↓reduceIte]
      simp only [g128_71, g128_72]
    | succ r ih =>
      intro q hq
      have qn : q < n := by omega
      have q64 : q < 64 := by omega
      obtain ⟨l1, l2, l3⟩ := o3.2 q (by omega)
      have no := hf q qn
      have next : zres (d + 9) 128 64 [.ref 256, .int (nI j), .int (nI q)] [] (zRh p S2 G2 Q2) = some (some (.int (nI n)), zRh p S2 G2 Q2) := by
        simp only [g128_64, g128_65, g128_66, g128_67, g128_68, hwi, nI_1]
        exact ih (q + 1) (by omega)
      simp only [g128_28, g128_29, g128_32, g128_33, rg30, ra24 q64, l1, Option.bind_some]
      by_cases u1 : (Lg (PGS A) q).1 = 0
      · rw [g128_34, if_pos u1]
        exact next
      · rw [g128_34, if_neg u1]
        by_cases u2 : nI j < (Lg (PGS A) q).2.1
        · simp only [g128_37, g128_38, g128_39, g128_42, g128_43, g128_44, rg31, ra25 q64, l2, u2, Option.bind_some, ↓reduceIte]
          exact next
        · have u3 : ¬ nI j < (Lg (PGS A) q).2.1 + (Lg (PGS A) q).1 := fun w => no ⟨u1, i_nlt.mp u2, w⟩
          simp only [g128_37, g128_38, g128_39, g128_42, g128_43, g128_44, rg31, ra25 q64, l2, u2, Option.bind_some, ↓reduceIte]
          simp only [g128_47, g128_48, g128_49, g128_52, g128_53, g128_54, g128_55, g128_58, g128_59, g128_60, g128_61, rg30, rg31, ra24 q64, ra25 q64, l1, l2, u3, Option.bind_some, ↓reduceIte]
          exact next
  rw [e128]
  simp only [g128_0, g128_1, g128_2, g128_5, g128_6, g128_9, g128_10, g128_11, rfp0, b0 (d + 8), ip, z0, rb0, Option.bind_some, Option.toList_some, Option.toList_none, List.cons_append, List.nil_append]
  rw [g128_14, if_neg (by decide)]
  simp only [g128_17, g128_18, o1, exI_1 hv, z0, rb0, Option.bind_some, Option.toList_some, List.cons_append, List.nil_append]
  rw [g128_21, if_pos (by decide)]
  simp only [g128_26, g128_27, hwi]
  exact loop n 0 (by omega)
theorem r_pageOf_no (d : Nat) (hR : zRs S G A) (hA : zVa A) (x : Int32) (hn : ¬ ((0 ≤ x ∧ x < nI A.1) ∧ ∃ v, (DD A 0 0).1 = some v)) : ∃ S' G' Q', zcl (d + 10) 128 [.ref 256, .int x] (zRh p S G Q) = some (some (.int (-1)), zRh p S' G' Q') ∧ zsF A S S' G G' := by
  have z0 : zcs [] ≤ 8 := by decide
  obtain ⟨S1, G1, b0, b1, b2, b3, b4⟩ := c_beg hR
  have ip := c_isPic (p := p) (S := S1) (G := G1) (Q := Q) (d + 8) b2.1 x
  rw [e128]
  by_cases q : 0 ≤ x ∧ x < nI A.1
  · rw [if_pos q] at ip
    obtain ⟨S2, G2, Q2, o1, o2, -⟩ := c_sets (p := p) d hA S1 G1 Q b2
    refine ⟨S2, G2, Q2, ?_, zsF_of b1 b2 b3 b4 o2⟩
    have hd : (DD A 0 0).1 = none := by
      cases hd : (DD A 0 0).1 with
      | none => rfl
      | some v => exact absurd ⟨q, v, hd⟩ hn
    simp only [g128_0, g128_1, g128_2, g128_5, g128_6, g128_9, g128_10, g128_11, rfp0, b0 (d + 8), ip, z0, rb0, Option.bind_some, Option.toList_some, Option.toList_none, List.cons_append, List.nil_append]
    rw [g128_14, if_neg (by decide)]
    simp only [g128_17, g128_18, o1, exI_0 hd, z0, rb0, Option.bind_some, Option.toList_some, List.cons_append, List.nil_append]
    rw [g128_21, if_neg (fun w => w rfl), g128_24, g128_25]
  · rw [if_neg q] at ip
    refine ⟨S1, G1, Q, ?_, zsF_of b1 b2 b3 b4 sF_rf⟩
    simp only [g128_0, g128_1, g128_2, g128_5, g128_6, g128_9, g128_10, g128_11, rfp0, b0 (d + 8), ip, z0, rb0, Option.bind_some, Option.toList_some, Option.toList_none, List.cons_append, List.nil_append]
    rw [g128_14, if_pos rfl, g128_24, g128_25]
theorem r_changed_no (d : Nat) (hR : zRs S G A) (hc : S 33 = 0) : ∃ S' G', zcl (d + 10) 130 [.ref 256] (zRh p S G Q) = some (some (.int (-1)), zRh p S' G' Q) ∧ zsF A S S' G G' := by
  have z0 : zcs [] ≤ 8 := by decide
  obtain ⟨S1, G1, b0, b1, b2, b3, b4⟩ := c_beg hR
  have h33 : S1 33 = 0 := (b3 33 (by decide) (by decide)).trans hc
  refine ⟨S1, G1, ?_, zsF_of b1 b2 b3 b4 sF_rf⟩
  rw [e130]
  simp only [g130_0, g130_1, g130_2, g130_5, g130_6, g130_9, g130_10, rfp0, rg33, b0 (d + 8), h33, z0, rb0, Option.bind_some, Option.toList_none, List.nil_append]
  rw [g130_13, if_neg (fun w => w rfl), g130_16, g130_17]
theorem r_changed (d : Nat) (hR : zRs S G A) (hA : zVa A) {B : AV} (hB : zVa B) (hc : S 33 = 1) (ho : oldR S G B) {n : Nat} (hn : fuP (PGS A) (PGS B) n) : ∃ S' G' Q', zcl (d + 10) 130 [.ref 256] (zRh p S G Q) = some (some (.int (if exI A = 0 ∨ exI B = 0 then 0 else nI n)), zRh p S' G' Q') ∧ zsF A S S' G G' := by
  have z0 : zcs [] ≤ 8 := by decide
  have hwi : ∀ x, Value.category (.int x) = 1 := fun _ => rfl
  have hwr : ∀ x, Value.category (.ref x) = 1 := fun _ => rfl
  have lA := PGS_len hA
  have lB := PGS_len hB
  obtain ⟨S1, G1, b0, b1, b2, b3, b4⟩ := c_beg hR
  obtain ⟨S2, G2, Q2, o1, o2, o3, o4, o5⟩ := c_sets (p := p) d hA S1 G1 Q b2
  have zf := zsF_of b1 b2 b3 b4 o2
  have h33 : S1 33 = 1 := (b3 33 (by decide) (by decide)).trans hc
  have h34 : S2 34 = exI B := (zf.2.2.1 34 (by decide) (by decide) (by decide) (by decide)).trans ho.1
  have h35 : S2 35 = nI (PGS B).length := (zf.2.2.1 35 (by decide) (by decide) (by decide) (by decide)).trans ho.2.1
  have hold : ∀ q, q < (PGS B).length → G2 27 q = (Lg (PGS B) q).1 ∧ G2 28 q = (Lg (PGS B) q).2.1 ∧ G2 29 q = (Lg (PGS B) q).2.2 := fun q hq => by
    rw [zf.2.2.2 27 (by omega), zf.2.2.2 28 (by omega), zf.2.2.2 29 (by omega)]
    exact ho.2.2 q hq
  refine ⟨S2, G2, Q2, ?_, zf⟩
  have zero : ∀ L, zres (d + 9) 130 32 L [] (zRh p S2 G2 Q2) = some (some (.int 0), zRh p S2 G2 Q2) := fun L => by rw [g130_32, g130_33]
  rw [e130]
  simp only [g130_0, g130_1, g130_2, g130_5, g130_6, g130_9, g130_10, rfp0, rg33, b0 (d + 8), h33, z0, rb0, Option.bind_some, Option.toList_none, List.nil_append]
  rw [g130_13, if_pos (by decide)]
  simp only [g130_18, g130_19, o1, z0, rb0, Option.bind_some, Option.toList_some, List.cons_append, List.nil_append]
  by_cases zA : exI A = 0
  · rw [if_pos (Or.inl zA), g130_22, if_pos zA]
    exact zero _
  · rw [g130_22, if_neg zA]
    simp only [g130_25, g130_26, rg34, h34, Option.bind_some]
    by_cases zB : exI B = 0
    · rw [if_pos (Or.inr zB), g130_29, if_neg (fun w => w zB)]
      exact zero _
    · rw [if_neg (fun w => w.elim zA zB), g130_29, if_pos zB]
      simp only [g130_34, g130_35, hwi, hwr]
      generalize PGS A = L at *
      generalize PGS B = K at *
      have loop : ∀ (r q : Nat), q + r = n → zres (d + 9) 130 36 [.ref 256, .int (nI q)] [] (zRh p S2 G2 Q2) = some (some (.int (nI n)), zRh p S2 G2 Q2) := by
        intro r
        induction r with
        | zero =>
          intro q hq
          obtain rfl : q = n := by omega
          have fin : zres (d + 9) 130 104 [.ref 256, .int (nI q)] [] (zRh p S2 G2 Q2) = some (some (.int (nI q)), zRh p S2 G2 Q2) := by rw [g130_104, g130_105]
          have hm := hn.1
          by_cases u1 : L.length ≤ q
          · have c1 : nI L.length ≤ nI q := nI_le u1 (by omega)
            simp only [g130_36, g130_37, g130_38, g130_41, rg29, o3.1, c1, Option.bind_some, ↓reduceIte]
            exact fin
          · have c1 : ¬ nI L.length ≤ nI q := nI_ge (by omega) (by omega)
            simp only [g130_36, g130_37, g130_38, g130_41, rg29, o3.1, c1, Option.bind_some, ↓reduceIte]
            by_cases u2 : K.length ≤ q
            · have c2 : nI K.length ≤ nI q := nI_le u2 (by omega)
              simp only [g130_44, g130_45, g130_46, g130_49, rg35, h35, c2, Option.bind_some, ↓reduceIte]
              exact fin
            · have c2 : ¬ nI K.length ≤ nI q := nI_ge (by omega) (by omega)
              simp only [g130_44, g130_45, g130_46, g130_49, rg35, h35, c2, Option.bind_some, ↓reduceIte]
              have df : ¬ Lg L q = Lg K q := hn.2.2.resolve_left (by omega)
              have q64 : q < 64 := by omega
              obtain ⟨l1, l2, l3⟩ := o3.2 q (by omega)
              obtain ⟨k1, k2, k3⟩ := hold q (by omega)
              simp only [g130_52, g130_53, g130_56, g130_57, g130_58, g130_59, g130_62, g130_63, rg30, rg36, ra24 q64, ra27 q64, l1, k1, Option.bind_some]
              by_cases w1 : (Lg L q).1 = (Lg K q).1
              · rw [g130_64, if_neg (fun w => w w1)]
                simp only [g130_67, g130_68, g130_71, g130_72, g130_73, g130_74, g130_77, g130_78, rg31, rg37, ra25 q64, ra28 q64, l2, k2, Option.bind_some]
                by_cases w2 : (Lg L q).2.1 = (Lg K q).2.1
                · rw [g130_79, if_neg (fun w => w w2)]
                  simp only [g130_82, g130_83, g130_86, g130_87, g130_88, g130_89, g130_92, g130_93, rg32, rg38, ra26 q64, ra29 q64, l3, k3, Option.bind_some]
                  by_cases w3 : (Lg L q).2.2 = (Lg K q).2.2
                  · exact absurd (Prod.ext w1 (Prod.ext w2 w3)) df
                  · rw [g130_94, if_pos w3]
                    exact fin
                · rw [g130_79, if_pos w2]
                  exact fin
              · rw [g130_64, if_pos w1]
                exact fin
        | succ r ih =>
          intro q hq
          have hm := hn.1
          have eqv := hn.2.1 q (by omega)
          have c1 : ¬ nI L.length ≤ nI q := nI_ge (by omega) (by omega)
          have c2 : ¬ nI K.length ≤ nI q := nI_ge (by omega) (by omega)
          have q64 : q < 64 := by omega
          obtain ⟨l1, l2, l3⟩ := o3.2 q (by omega)
          obtain ⟨k1, k2, k3⟩ := hold q (by omega)
          rw [← eqv] at k1 k2 k3
          simp only [g130_36, g130_37, g130_38, g130_41, rg29, o3.1, c1, Option.bind_some, ↓reduceIte]
          simp only [g130_44, g130_45, g130_46, g130_49, rg35, h35, c2, Option.bind_some, ↓reduceIte]
          simp only [g130_52, g130_53, g130_56, g130_57, g130_58, g130_59, g130_62, g130_63, rg30, rg36, ra24 q64, ra27 q64, l1, k1, Option.bind_some]
          rw [g130_64, if_neg (fun w => w rfl)]
          simp only [g130_67, g130_68, g130_71, g130_72, g130_73, g130_74, g130_77, g130_78, rg31, rg37, ra25 q64, ra28 q64, l2, k2, Option.bind_some]
          rw [g130_79, if_neg (fun w => w rfl)]
          simp only [g130_82, g130_83, g130_86, g130_87, g130_88, g130_89, g130_92, g130_93, rg32, rg38, ra26 q64, ra29 q64, l3, k3, Option.bind_some]
          rw [g130_94, if_neg (fun w => w rfl)]
          simp only [g130_97, g130_98, g130_99, g130_100, g130_101, hwi, hwr, nI_1]
          exact ih (q + 1) (by omega)
      exact loop n 0 (by omega)
end RAPI3
