/-! THE REFERENCE'S BOOK: isTied, isLeaf, comes -/
abbrev NVR : Int32 := 1000000000
def en2 (o : Option Nat) : Int32 := match o with
  | none => 1000000000
  | some v => nI v
noncomputable def rE (A : AV) (i o : Nat) : EN := cif (aT A i) ez (DD A i o)
def enR (G : Nat → Nat → Int32) (q : Nat) (E : EN) : Prop := G 21 q = en2 E.1 ∧ G 22 q = E.2.1
def lf (A : AV) (i k : Nat) : Prop := zFe A.1 A.2.2.2 i k ∧ ¬ A.2.2.2 (5 * i + 3) = 1 ∧ ¬ aT A i ∧ ¬ aT A (i + k)
noncomputable def lcv (A : AV) (i k : Nat) : Int32 := cif (lf A i k) (nI (aP A i k)) 1000000000
theorem nvr_n {v : Nat} (h : v < 1000000000) : nI v < (1000000000 : Int32) ∧ ¬ nI v = (1000000000 : Int32) ∧ ¬ (1000000000 : Int32) ≤ nI v := ⟨nI_lt (b := 1000000000) h (by decide), fun w => by
  have := (nI_eq (a := v) (b := 1000000000) (by omega) (by decide)).mp w
  omega, nI_ge (b := 1000000000) h (by decide)⟩
section RBOOK
variable {p : ZP} {S : Nat → Int32} {G : Nat → Nat → Int32} {Q : Nat → Nat → Int64} {A : AV}
theorem c_isTied (d : Nat) (hG : zGA (G 1) A) (hA : zVa A) {i : Nat} (hi : i ≤ A.1) : ∃ r : Int32, zcl (d + 2) 118 [.ref 256, .int (nI i - 1)] (zRh p S G Q) = some (some (.int r), zRh p S G Q) ∧ (aT A i → r = 1) ∧ (¬ aT A i → r = 0) := by
  have z0 : zcs [] ≤ 8 := by decide
  have hwi : ∀ x, Value.category (.int x) = 1 := fun _ => rfl
  have N12 := hA.1
  have no : ∀ L, zres (d + 1) 118 34 L [] (zRh p S G Q) = some (some (.int 0), zRh p S G Q) := fun L => by rw [g118_34, g118_35 zzero]
  rw [e118]
  by_cases z : i = 0
  · subst z
    have c1 : nI 0 - 1 < 0 := by decide
    refine ⟨0, ?_, fun t => absurd t.1 (Nat.lt_irrefl _), fun _ => rfl⟩
    simp only [g118_0, g118_1, c1, ↓reduceIte]
    exact no _
  · obtain ⟨j, rfl⟩ : ∃ j, i = j + 1 := ⟨i - 1, by omega⟩
    rw [nI_pred]
    have c1 : ¬ nI j < 0 := nI_pos (by omega)
    simp only [g118_0, g118_1, c1, ↓reduceIte]
    by_cases q : A.1 ≤ j + 1
    · have c2 : nI A.1 ≤ nI (j + 1) := nI_le q (by omega)
      refine ⟨0, ?_, fun t => absurd t.2.1 (by omega), fun _ => rfl⟩
      simp only [g118_4, g118_5, g118_6, g118_7, g118_8, g118_11, g118_12, g118_13, rg1, ra1z, hG.1, nI_1, c2, Option.bind_some, ↓reduceIte]
      exact no _
    · have c2 : ¬ nI A.1 ≤ nI (j + 1) := nI_ge (by omega) (by omega)
      have w1 := c_isWideR (p := p) (S := S) (Q := Q) d (i := j) hG N12 (by omega)
      have w2 := c_isWideR (p := p) (S := S) (Q := Q) d (i := j + 1) hG N12 (by omega)
      have k1 := (zcan_w (hA.2.2.2 j (by omega))).2.2.2.1
      have k2 := (zcan_w (hA.2.2.2 (j + 1) (by omega))).2.2.2.1
      simp only [g118_4, g118_5, g118_6, g118_7, g118_8, g118_11, g118_12, g118_13, rg1, ra1z, hG.1, nI_1, c2, Option.bind_some, ↓reduceIte]
      simp only [g118_16, g118_17, g118_18, w1, z0, rb0, Option.bind_some, Option.toList_some, List.cons_append, List.nil_append]
      by_cases q1 : A.2.2.2 (5 * j + 3) = 1
      · rw [if_pos q1, g118_21, if_pos (by decide)]
        refine ⟨0, no _, fun t => ?_, fun _ => rfl⟩
        have := t.2.2.1
        rw [show j + 1 - 1 = j by omega, q1] at this
        exact absurd this (by decide)
      · rw [if_neg q1, g118_21, if_neg (fun w => w rfl)]
        have q1' := k1.resolve_right q1
        simp only [g118_24, g118_25, g118_26, g118_27, g118_28, w2, nI_1, z0, rb0, Option.bind_some, Option.toList_some, List.cons_append, List.nil_append]
        by_cases q2 : A.2.2.2 (5 * (j + 1) + 3) = 1
        · rw [if_pos q2, g118_31, if_neg (by decide)]
          refine ⟨0, no _, fun t => ?_, fun _ => rfl⟩
          have := t.2.2.2.1
          rw [q2] at this
          exact absurd this (by decide)
        · rw [if_neg q2, g118_31, if_pos rfl]
          have q2' := k2.resolve_right q2
          have i4 : nI (3 + 5 * j) + 4 = nI (3 + 5 * j + 4) := nI_add _ 4
          have i9 : nI (3 + 5 * j) + 9 = nI (3 + 5 * j + 9) := nI_add _ 9
          have b4 : 3 + 5 * j + 4 < 63 := by omega
          have b9 : 3 + 5 * j + 9 < 63 := by omega
          have g4 : G 1 (3 + 5 * j + 4) = A.2.2.2 (5 * j + 4) := by rw [Nat.add_assoc]; exact hG.2.2.2 _ (by omega)
          have g9 : G 1 (3 + 5 * j + 9) = A.2.2.2 (5 * (j + 1) + 4) := by
            rw [Nat.add_assoc, hG.2.2.2 _ (by omega)]
            congr 1
          have fin : ∀ L, zres (d + 1) 118 74 L [] (zRh p S G Q) = some (some (.int 0), zRh p S G Q) := fun L => by rw [g118_74, g118_75 zzero]
          simp only [g118_36, g118_37, g118_40, g118_41, g118_42, g118_43, g118_44, g118_45, g118_46, g118_47, g118_48, g118_49, rg1, ix35, i4, ra1 b4, g4, hwi, Option.bind_some]
          by_cases q3 : A.2.2.2 (5 * j + 4) = 0
          · rw [g118_50, if_pos q3, fin]
            refine ⟨0, rfl, fun t => ?_, fun _ => rfl⟩
            have h5 := t.2.2.2.2.1
            rw [show j + 1 - 1 = j by omega, q3] at h5
            exact absurd h5 t.2.2.2.2.2
          · rw [g118_50, if_neg q3]
            simp only [g118_53, g118_54, g118_55, g118_58, g118_59, g118_60, g118_61, g118_62, g118_63, g118_65, g118_66, rg1, ix35, i9, ra1 b9, g9, Option.bind_some]
            by_cases q4 : A.2.2.2 (5 * j + 4) = A.2.2.2 (5 * (j + 1) + 4)
            · rw [g118_67, if_neg (fun w => w q4), g118_70, g118_71, g118_75 zone]
              refine ⟨1, rfl, fun _ => rfl, fun t => absurd ⟨by omega, by omega, ?_, q2', ?_, ?_⟩ t⟩
              · rw [show j + 1 - 1 = j by omega]; exact q1'
              · rw [show j + 1 - 1 = j by omega]; exact q4.symm
              · rw [← q4]; exact q3
            · rw [g118_67, if_pos q4, fin]
              refine ⟨0, rfl, fun t => ?_, fun _ => rfl⟩
              have h5 := t.2.2.2.2.1
              rw [show j + 1 - 1 = j by omega] at h5
              exact absurd h5.symm q4
theorem c_isLeaf (d : Nat) (hG : zGA (G 1) A) (hA : zVa A) {i k : Nat} (hi : i < A.1) (hk1 : 1 ≤ k) (hk : k ≤ 4) : ∃ r : Int32, zcl (d + 5) 119 [.ref 256, .int (nI i), .int (nI k)] (zRh p S G Q) = some (some (.int r), zRh p S G Q) ∧ (lf A i k → r = 1) ∧ (¬ lf A i k → r = 0) := by
  have z0 : zcs [] ≤ 8 := by decide
  have N12 := hA.1
  rw [e119]
  by_cases q : zFe A.1 A.2.2.2 i k
  · have cl : zcl (d + 4) 108 [.ref 256, .int (nI i), .int (nI k), .int 0] (zRh p S G Q) = some (some (.int 1), zRh p S G Q) := c_canLay (p := p) (S := S) (G := G) (Q := Q) d hG hA q (k := 0) (th_pos k (by omega) hk1)
    have w1 := c_isWideR (p := p) (S := S) (Q := Q) (d + 3) (i := i) hG N12 hi
    simp only [g119_0, g119_1, g119_2, g119_3, g119_4, cl, z0, rb0, Option.bind_some, Option.toList_some, List.cons_append, List.nil_append]
    rw [g119_7, if_neg (by decide)]
    simp only [g119_10, g119_11, g119_12, w1, z0, rb0, Option.bind_some, Option.toList_some, List.cons_append, List.nil_append]
    by_cases q1 : A.2.2.2 (5 * i + 3) = 1
    · rw [if_pos q1, g119_15, if_neg (by decide), g119_18, g119_19 zzero]
      exact ⟨0, rfl, fun t => absurd q1 t.2.1, fun _ => rfl⟩
    · rw [if_neg q1, g119_15, if_pos rfl]
      obtain ⟨r1, t1, t2, t3⟩ := c_isTied (p := p) (S := S) (Q := Q) (d + 2) hG hA (i := i) (by omega)
      obtain ⟨r2, v1, v2, v3⟩ := c_isTied (p := p) (S := S) (Q := Q) (d + 2) hG hA (i := i + k) q.2.2.1
      have fin : ∀ L, zres (d + 4) 119 46 L [] (zRh p S G Q) = some (some (.int 0), zRh p S G Q) := fun L => by rw [g119_46, g119_47 zzero]
      simp only [g119_20, g119_21, g119_22, g119_23, g119_24, t1, z0, rb0, Option.bind_some, Option.toList_some, List.cons_append, List.nil_append]
      by_cases q2 : aT A i
      · rw [t2 q2, g119_27, if_pos (by decide), fin]
        exact ⟨0, rfl, fun t => absurd q2 t.2.2.1, fun _ => rfl⟩
      · rw [t3 q2, g119_27, if_neg (fun w => w rfl)]
        simp only [g119_30, g119_31, g119_32, g119_33, g119_34, g119_35, g119_36, nI_add, v1, z0, rb0, Option.bind_some, Option.toList_some, List.cons_append, List.nil_append]
        by_cases q3 : aT A (i + k)
        · rw [v2 q3, g119_39, if_pos (by decide), fin]
          exact ⟨0, rfl, fun t => absurd q3 t.2.2.2, fun _ => rfl⟩
        · rw [v3 q3, g119_39, if_neg (fun w => w rfl), g119_42, g119_43, g119_47 zone]
          exact ⟨1, rfl, fun _ => rfl, fun t => absurd ⟨q, q1, q2, q3⟩ t⟩
  · have cl := c_canLay_no (p := p) (S := S) (G := G) (Q := Q) d (x := nI i) (y := nI k) (z := 0) hG hA (fun ⟨s', m', k', w1, w2, w3, w4, w5⟩ => q (by
      have h2 := w4.2.1
      have h3 := w4.2.2.1
      have a1 := (nI_eq (show i < 2 ^ 31 by omega) (show s' < 2 ^ 31 by omega)).mp w1
      have a2 := (nI_eq (show k < 2 ^ 31 by omega) (show m' < 2 ^ 31 by omega)).mp w2
      rw [a1, a2]
      exact w4))
    simp only [g119_0, g119_1, g119_2, g119_3, g119_4, cl, z0, rb0, Option.bind_some, Option.toList_some, List.cons_append, List.nil_append]
    rw [g119_7, if_pos rfl, g119_18, g119_19 zzero]
    exact ⟨0, rfl, fun t => absurd t.1 q, fun _ => rfl⟩
/-- comes(at, cost, ways) -/
theorem c_comes (d : Nat) {q n e r : Nat} {E F : EN} (hq : q < 26) (hE : enR G q E) (hF : F.1 = some r) (bE : ∀ v, E.1 = some v → v < 2 ^ 29) (be : e + r < 2 ^ 29) : ∃ G', zcl (d + 1) 121 [.ref 256, .int (nI q), .int (nI (e + r)), .int F.2.1] (zRh p S G Q) = some (none, zRh p S G' Q) ∧ enR G' q (eo E n e F) ∧ (∀ a j, j ≠ q → G' a j = G a j) ∧ ∀ a, a ≠ 21 → a ≠ 22 → G' a = G a := by
  obtain ⟨E1, E2⟩ := hE
  rw [e121]
  have new : eo E n e F = (some (e + r), F.2.1, n) → nI (e + r) < en2 E.1 → ∃ G', zres d 121 0 [.ref 256, .int (nI q), .int (nI (e + r)), .int F.2.1] [] (zRh p S G Q) = some (none, zRh p S G' Q) ∧ enR G' q (eo E n e F) ∧ (∀ a j, j ≠ q → G' a j = G a j) ∧ ∀ a, a ≠ 21 → a ≠ 22 → G' a = G a := by
    intro e2 lt
    have c1 : ¬ en2 E.1 ≤ nI (e + r) := i_nle.mpr lt
    refine ⟨ug (ug G 21 q (nI (e + r))) 22 q F.2.1, ?_, ?_, fun a j hj => by rw [ug_i hj, ug_i hj], fun a h1 h2 => by rw [ug_n h2, ug_n h1]⟩
    · simp only [g121_0, g121_1, g121_2, g121_5, g121_6, g121_7, rg26, ra21 hq, E1, c1, Option.bind_some, ↓reduceIte]
      simp only [g121_10, g121_11, g121_14, g121_15, g121_16, g121_17, g121_18, g121_21, g121_22, g121_23, g121_24, g121_51, rg26, rg27, rw21 hq, rw22 hq, Option.bind_some]
    · rw [e2]
      exact ⟨by rw [ug_n (by decide), ug_a]; rfl, ug_a⟩
  cases hg : E.1 with
  | none =>
    exact new (by unfold eo; rw [hF, hg]) (by rw [hg]; exact (nvr_n (by omega)).1)
  | some k =>
    have k29 := bE k hg
    by_cases lt : e + r < k
    · exact new (by
        unfold eo
        rw [hF, hg]
        exact if_pos lt) (by rw [hg]; exact nI_lt lt (by omega))
    · rw [hg] at E1
      have E1' : G 21 q = nI k := E1
      have c1 : nI k ≤ nI (e + r) := nI_le (by omega) (by omega)
      by_cases eq : e + r = k
      · have e2 : eo E n e F = (some k, E.2.1 + F.2.1, E.2.2) := by
          unfold eo
          rw [hF, hg]
          show (if e + r < k then _ else _ : EN) = _
          rw [if_neg lt, if_pos eq]
        refine ⟨ug G 22 q (E.2.1 + F.2.1), ?_, ?_, fun a j hj => ug_i hj, fun a _ h2 => ug_n h2⟩
        · simp only [g121_0, g121_1, g121_2, g121_5, g121_6, g121_7, rg26, ra21 hq, E1', c1, Option.bind_some, ↓reduceIte]
          simp only [g121_27, g121_28, g121_29, g121_32, g121_33, rg26, ra21 hq, E1', Option.bind_some]
          rw [g121_34, if_neg (fun w => w (by rw [eq]))]
          simp only [g121_37, g121_38, g121_41, g121_42, g121_43, g121_46, g121_47, g121_48, g121_49, g121_50, g121_51, rg27, ra22 hq, rw22 hq, E2, Option.bind_some]
        · rw [e2]
          exact ⟨by rw [ug_n (by decide)]; exact E1', ug_a⟩
      · have e2 : eo E n e F = E := by
          unfold eo
          rw [hF, hg]
          show (if e + r < k then _ else _ : EN) = _
          rw [if_neg lt, if_neg eq]
        refine ⟨G, ?_, by rw [e2]; exact ⟨by rw [hg]; exact E1', E2⟩, fun _ _ _ => rfl, fun _ _ _ => rfl⟩
        simp only [g121_0, g121_1, g121_2, g121_5, g121_6, g121_7, rg26, ra21 hq, E1', c1, Option.bind_some, ↓reduceIte]
        simp only [g121_27, g121_28, g121_29, g121_32, g121_33, rg26, ra21 hq, E1', Option.bind_some]
        rw [g121_34, if_pos (fun w => eq ((nI_eq (by omega) (by omega)).mp w)), g121_51]
end RBOOK
