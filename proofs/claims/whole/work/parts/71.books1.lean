section BOOKS1
variable {p : ZP} {A : AV}
theorem rE_wide {v o : Nat} (hA : zVa A) (hv : v < A.1) (hw : A.2.2.2 (5 * v + 3) = 1) : rE A v o = eo ez 1 (aC A v 1 0 + o * (A.2.1 * A.2.2.1)) (DD A (v + 1) 0) ∧ rE A (v + 1) 0 = DD A (v + 1) 0 := by
  have h1 : ¬ aT A v := fun t => by
    have := t.2.2.2.1
    rw [hw] at this
    exact absurd this (by decide)
  have h2 : ¬ aT A (v + 1) := fun t => by
    have := t.2.2.1
    rw [show v + 1 - 1 = v by omega, hw] at this
    exact absurd this (by decide)
  refine ⟨?_, cif_neg h2⟩
  rw [show rE A v o = DD A v o from cif_neg h1, DD_eq hA.1 hv]
  unfold dS
  rw [if_pos hw]
theorem rE_plain {v o : Nat} (hA : zVa A) (hv : v < A.1) (hw : ¬ A.2.2.2 (5 * v + 3) = 1) : rE A v o = cif (aT A v) ez (dG A (DD A) v o 4) := by
  unfold rE
  rw [DD_eq hA.1 hv]
  unfold dS
  rw [if_neg hw]
/-- both pages, even and odd -/
theorem b0_odd (d : Nat) (hA : zVa A) {v : Nat} {l1 : Value} {S : Nat → Int32} {Q : Nat → Nat → Int64} {wv : Int32} (hv : v < A.1) (hwv : A.2.2.2 (5 * v + 3) = 1 → wv = nI (aC A v 1 0)) :
    ∀ (r o : Nat) (G : Nat → Nat → Int32) (l5 l6 : Value), o + r = 2 → zGA (G 1) A → lcS A G v 4 → (∀ q o', v < q → q ≤ A.1 → o' ≤ 1 → enR G (2 * q + o') (rE A q o')) →
      ∃ G' l5' l6', zres (d + 7) 120 124 [.ref 256, l1, .int (nI v), .int wv, .int (nI o), l5, l6] [] (zRh p S G Q) = zres (d + 7) 120 342 [.ref 256, l1, .int (nI v), .int wv, .int (nI 2), l5', l6'] [] (zRh p S G' Q) ∧ (∀ o', o ≤ o' → o' ≤ 1 → enR G' (2 * v + o') (rE A v o')) ∧ (∀ a j, (j < 2 * v + o ∨ 2 * v + 1 < j) → G' a j = G a j) ∧ ∀ a, a ≠ 21 → a ≠ 22 → G' a = G a := by
  have z0 : zcs [] ≤ 8 := by decide
  have hwi : ∀ x, Value.category (.int x) = 1 := fun _ => rfl
  have N12 := hA.1
  intro r
  induction r with
  | zero =>
    intro o G l5 l6 ho hG hl he
    obtain rfl : o = 2 := by omega
    have c1 : (2 : Int32) ≤ nI 2 := by decide
    refine ⟨G, l5, l6, ?_, fun o' h1 h2 => by omega, fun _ _ _ => rfl, fun _ _ _ => rfl⟩
    simp only [g120_124, g120_126, g120_127, c1, ↓reduceIte]
  | succ r ih =>
    intro o G l5 l6 ho hG hl he
    have c1 : ¬ (2 : Int32) ≤ nI o := nI_ge (b := 2) (by omega) (by decide)
    have s2 : (2 : Int32) * nI v = nI (2 * v) := by rw [show (2 : Int32) = nI 2 from rfl, pk_mul]
    have b26 : 2 * v + o < 26 := by omega
    generalize hG1 : ug (ug G 21 (2 * v + o) 1000000000) 22 (2 * v + o) 0 = G1
    have g1c : ∀ a, a ≠ 21 → a ≠ 22 → G1 a = G a := fun a h1 h2 => by rw [← hG1, ug_n h2, ug_n h1]
    have g1j : ∀ a j, j ≠ 2 * v + o → G1 a j = G a j := fun a j hj => by rw [← hG1, ug_i hj, ug_i hj]
    have hGA1 : zGA (G1 1) A := by rw [g1c 1 (by decide) (by decide)]; exact hG
    have e1 : enR G1 (2 * v + o) ez := by
      rw [← hG1]
      exact ⟨by rw [ug_n (by decide), ug_a]; rfl, ug_a⟩
    have he1 : ∀ q o', v < q → q ≤ A.1 → o' ≤ 1 → enR G1 (2 * q + o') (rE A q o') := fun q o' h1 h2 h3 => by
      have hq := he q o' h1 h2 h3
      exact ⟨(g1j 21 _ (by omega)).trans hq.1, (g1j 22 _ (by omega)).trans hq.2⟩
    have hl1 : lcS A G1 v 4 := fun k h1 h2 => by rw [g1c 23 (by decide) (by decide)]; exact hl k h1 h2
    have iw := c_isWideR (p := p) (S := S) (G := G1) (Q := Q) (d + 6) (i := v) hGA1 N12 hv
    have pre : zres (d + 7) 120 124 [.ref 256, l1, .int (nI v), .int wv, .int (nI o), l5, l6] [] (zRh p S G Q) = zres (d + 7) 120 160 [.ref 256, l1, .int (nI v), .int wv, .int (nI o), l5, l6] [.int (if A.2.2.2 (5 * v + 3) = 1 then 1 else 0)] (zRh p S G1 Q) := by
      simp only [g120_124, g120_126, g120_127, c1, ↓reduceIte]
      simp only [g120_130, g120_131, g120_134, g120_135, g120_136, g120_137, g120_139, g120_140, g120_142, g120_143, g120_144, g120_147, g120_148, g120_149, g120_150, g120_152, g120_153, g120_154, rg26, rg27, s2, nI_add, rw21 b26, rw22 b26, Option.bind_some]
      rw [hG1]
      simp only [g120_155, g120_156, g120_157, iw, z0, rb0, Option.bind_some, Option.toList_some, List.cons_append, List.nil_append]
    -- what is left once the entry stands
    have goOn : ∀ (G2 : Nat → Nat → Int32) (l5 l6 : Value), enR G2 (2 * v + o) (rE A v o) → (∀ a j, j ≠ 2 * v + o → G2 a j = G1 a j) → (∀ a, a ≠ 21 → a ≠ 22 → G2 a = G1 a) → ∃ G' l5' l6', zres (d + 7) 120 336 [.ref 256, l1, .int (nI v), .int wv, .int (nI o), l5, l6] [] (zRh p S G2 Q) = zres (d + 7) 120 342 [.ref 256, l1, .int (nI v), .int wv, .int (nI 2), l5', l6'] [] (zRh p S G' Q) ∧ (∀ o', o ≤ o' → o' ≤ 1 → enR G' (2 * v + o') (rE A v o')) ∧ (∀ a j, (j < 2 * v + o ∨ 2 * v + 1 < j) → G' a j = G a j) ∧ ∀ a, a ≠ 21 → a ≠ 22 → G' a = G a := by
      intro G2 l5 l6 hE hj hc
      obtain ⟨G', l5', l6', o1, o2, o3, o4⟩ := ih (o + 1) G2 l5 l6 (by omega) (by rw [hc 1 (by decide) (by decide)]; exact hGA1) (fun k h1 h2 => by rw [hc 23 (by decide) (by decide)]; exact hl1 k h1 h2) (fun q o' h1 h2 h3 => by
        have hq := he1 q o' h1 h2 h3
        exact ⟨(hj 21 _ (by omega)).trans hq.1, (hj 22 _ (by omega)).trans hq.2⟩)
      refine ⟨G', l5', l6', ?_, fun o' h1 h2 => ?_, fun a j hj' => ?_, fun a h1 h2 => by rw [o4 a h1 h2, hc a h1 h2, g1c a h1 h2]⟩
      · simp only [g120_336, g120_339, hwi, nI_1]
        exact o1
      · by_cases z : o' = o
        · subst z
          exact ⟨(o3 21 _ (by omega)).trans hE.1, (o3 22 _ (by omega)).trans hE.2⟩
        · exact o2 o' (by omega) h2
      · rw [o3 a j (by omega), hj a j (by omega), g1j a j (by omega)]
    rw [pre]
    by_cases hw : A.2.2.2 (5 * v + 3) = 1
    · rw [if_pos hw, g120_160, if_neg (by decide)]
      obtain ⟨r1, r2⟩ := rE_wide (o := o) hA hv hw
      have hE2 := he1 (v + 1) 0 (by omega) (by omega) (by decide)
      rw [r2, Nat.add_zero] at hE2
      have s3 : nI (2 * v) + 2 = nI (2 * (v + 1)) := by
        rw [show (2 : Int32) = nI 2 from rfl, nI_add]
        congr 1
      have b262 : 2 * (v + 1) < 26 := by omega
      have wv' := hwv hw
      subst wv'
      have pre2 : zres (d + 7) 120 163 [.ref 256, l1, .int (nI v), .int (nI (aC A v 1 0)), .int (nI o), l5, l6] [] (zRh p S G1 Q) = zres (d + 7) 120 175 [.ref 256, l1, .int (nI v), .int (nI (aC A v 1 0)), .int (nI o), l5, l6] [.int 1000000000, .int (en2 (DD A (v + 1) 0).1)] (zRh p S G1 Q) := by
        simp only [g120_163, g120_164, g120_167, g120_168, g120_169, g120_170, g120_171, g120_172, g120_173, rg26, s2, s3, ra21 b262, hE2.1, Option.bind_some]
      rw [pre2]
      cases hb : (DD A (v + 1) 0).1 with
      | none =>
        rw [g120_175, if_pos (show (1000000000 : Int32) ≤ en2 none from by decide)]
        exact goOn G1 l5 l6 (by
          rw [r1]
          have : eo ez 1 (aC A v 1 0 + o * (A.2.1 * A.2.2.1)) (DD A (v + 1) 0) = ez := by unfold eo; rw [hb]
          rw [this]
          exact e1) (fun _ _ _ => rfl) (fun _ _ _ => rfl)
      | some w =>
        have wl := DD_lt hA (show 0 ≤ 1 by decide) hb
        have nw := nvr_n (v := w) (by omega)
        have hE1 : G1 21 (2 * (v + 1)) = nI w := by rw [hE2.1, hb]; rfl
        have hE22 := hE2.2
        have c1l := aC1_le hA hv
        have wh := aWH1 hA
        have owh : o * (A.2.1 * A.2.2.1) ≤ 1 * 40000 := Nat.mul_le_mul (by omega) wh
        obtain ⟨G2, k1, k2, k3, k4⟩ := c_comes (p := p) (S := S) (G := G1) (Q := Q) (d + 6) (q := 2 * v + o) (n := 1) (e := aC A v 1 0 + o * (A.2.1 * A.2.2.1)) (E := ez) (F := DD A (v + 1) 0) b26 e1 hb (fun v hv => by cases hv) (by omega)
        rw [← r1] at k2
        obtain ⟨G', l5', l6', o1, o2⟩ := goOn G2 l5 l6 k2 k3 k4
        refine ⟨G', l5', l6', ?_, o2⟩
        rw [g120_175, if_neg (show ¬ (1000000000 : Int32) ≤ en2 (some w) from nw.2.2)]
        simp only [g120_178, g120_179, g120_180, g120_181, g120_182, g120_184, g120_185, g120_186, g120_187, g120_190, g120_191, g120_192, g120_193, g120_194, g120_195, g120_196, g120_197, g120_199, rg26, s2, s3, nI_add, ra21 b262, hE1, Option.bind_some]
        by_cases z : o = 1
        · subst z
          rw [Nat.one_mul, show aC A v 1 0 + A.2.1 * A.2.2.1 + w = aC A v 1 0 + w + A.2.1 * A.2.2.1 by omega] at k1
          rw [g120_200, if_neg (fun w => w rfl)]
          simp only [g120_203, g120_204, g120_207, g120_208, g120_209, g120_210, g120_213, g120_214, g120_215, g120_216, g120_220, g120_221, g120_222, g120_225, g120_226, g120_227, g120_228, g120_229, g120_230, g120_231, g120_234, rg1, rg27, ra1o, ra1t, hGA1.2.1, hGA1.2.2.1, pk_mul, nI_add, s2, s3, ra22 b262, hE22, k1, z0, rb0, Option.bind_some, Option.toList_none, List.nil_append]
          exact o1
        · obtain rfl : o = 0 := by omega
          simp only [Nat.zero_mul, Nat.add_zero] at k1
          have a0 : nI (aC A v 1 0 + w) + 0 = nI (aC A v 1 0 + w) := nI_add _ 0
          rw [g120_200, if_pos (by decide)]
          simp only [g120_219, g120_220, g120_221, g120_222, g120_225, g120_226, g120_227, g120_228, g120_229, g120_230, g120_231, g120_234, Nat.add_zero, rg27, a0, s2, s3, ra22 b262, hE22, k1, z0, rb0, Option.bind_some, Option.toList_none, List.nil_append]
          exact o1
    · rw [if_neg hw, g120_160, if_pos rfl]
      have hE0 : enR G1 (2 * v + o) (cif (aT A v) ez (dG A (DD A) v o 0)) := by
        by_cases t : aT A v
        · rw [cif_pos t]; exact e1
        · rw [cif_neg t]; exact e1
      obtain ⟨G2, l6', k1, k2, k3, k4⟩ := b0_plain (p := p) (S := S) (Q := Q) (l1 := l1) (l3 := .int wv) d hA hv hw (show o ≤ 1 by omega) 4 0 G1 l6 (by omega) hl1 he1 hE0
      rw [← rE_plain hA hv hw] at k2
      obtain ⟨G', l5', l6'', o1, o2⟩ := goOn G2 (.int (nI 5)) l6' k2 k3 k4
      refine ⟨G', l5', l6'', ?_, o2⟩
      simp only [g120_237, g120_238, hwi]
      have k1' : zres (d + 7) 120 240 [.ref 256, l1, .int (nI v), .int wv, .int (nI o), .int 1, l6] [] (zRh p S G1 Q) = zres (d + 7) 120 336 [.ref 256, l1, .int (nI v), .int wv, .int (nI o), .int (nI 5), l6'] [] (zRh p S G2 Q) := k1
      rw [k1']
      exact o1
theorem b0_main (d : Nat) (hA : zVa A) {l1 : Value} (hl1 : l1.category = 1) :
    ∀ (j : Nat) (S : Nat → Int32) (G : Nat → Nat → Int32) (Q : Nat → Nat → Int64) (l3 l4 l5 l6 : Value), j ≤ A.1 → zGA (G 1) A → (∀ q o, j ≤ q → q ≤ A.1 → o ≤ 1 → enR G (2 * q + o) (rE A q o)) → (∀ q, j ≤ q → q < A.1 → lcS A G q 4) →
      ∃ S' G' Q', zres (d + 7) 120 46 [.ref 256, l1, .int (nI j + -1), l3, l4, l5, l6] [] (zRh p S G Q) = some (none, zRh p S' G' Q') ∧ bF0 S S' G G' ∧ (∀ q o, q ≤ A.1 → o ≤ 1 → enR G' (2 * q + o) (rE A q o)) ∧ ∀ q, q < A.1 → lcS A G' q 4 := by
  have z0 : zcs [] ≤ 8 := by decide
  have hwi : ∀ x, Value.category (.int x) = 1 := fun _ => rfl
  have N12 := hA.1
  intro j
  induction j with
  | zero =>
    intro S G Q l3 l4 l5 l6 hj hG he hl
    have c1 : nI 0 + -1 < 0 := by decide
    refine ⟨S, G, Q, ?_, bF0_rf, fun q o h1 h2 => he q o (Nat.zero_le _) h1 h2, fun q h1 => hl q (Nat.zero_le _) h1⟩
    simp only [g120_46, g120_47, c1, ↓reduceIte, g120_348]
  | succ v ih =>
    intro S G Q l3 l4 l5 l6 hj hG he hl
    have hv : v < A.1 := by omega
    have c1 : ¬ nI v < 0 := nI_pos (by omega)
    rw [pk_m1]
    obtain ⟨S1, G1, Q1, a1, a2, a3, a4⟩ := b0_leaf (p := p) (l1 := l1) (l4 := l4) (l5 := l5) (l6 := l6) d hA hv 4 0 S G Q (by omega) hG (fun k h1 h2 => by omega)
    have g1c : ∀ a, (a < 3 ∨ 9 < a) → a ≠ 23 → G1 a = G a := fun a ha hb => by
      have : (if a = 23 then G 23 else G1 a) = G a := a2.2 a ha
      rw [if_neg hb] at this
      exact this
    have hG1 : zGA (G1 1) A := by rw [g1c 1 (by omega) (by decide)]; exact hG
    have iw := c_isWideR (p := p) (S := S1) (G := G1) (Q := Q1) (d + 6) (i := v) hG1 N12 hv
    -- the wide picture's cost
    have wide : ∃ S2 G2 Q2 wv, zres (d + 7) 120 101 [.ref 256, l1, .int (nI v), .int (nI 5), l4, l5, l6] [] (zRh p S1 G1 Q1) = zres (d + 7) 120 124 [.ref 256, l1, .int (nI v), .int wv, .int 0, l5, l6] [] (zRh p S2 G2 Q2) ∧ dF S1 S2 G1 G2 ∧ (A.2.2.2 (5 * v + 3) = 1 → wv = nI (aC A v 1 0)) := by
      by_cases hw : A.2.2.2 (5 * v + 3) = 1
      · rw [if_pos hw] at iw
        obtain ⟨S2, G2, Q2, m1, m2⟩ := c_costOf (p := p) (S := S1) (G := G1) (Q := Q1) (d + 1) (s := v) (m := 1) (k := 0) hG1 hA ⟨by decide, by decide, by omega, fun z => by omega⟩ (by decide)
        refine ⟨S2, G2, Q2, nI (aC A v 1 0), ?_, m2, fun _ => rfl⟩
        have m1' : zcl (d + 7) 114 [.ref 256, .int (nI v), .int 1, .int 0] (zRh p S1 G1 Q1) = some (some (.int (nI (aC A v 1 0))), zRh p S2 G2 Q2) := m1
        simp only [g120_101, g120_102, g120_103, iw, z0, rb0, Option.bind_some, Option.toList_some, List.cons_append, List.nil_append]
        rw [g120_106, if_neg (by decide)]
        simp only [g120_109, g120_110, g120_111, g120_112, g120_113, g120_116, g120_120, g120_121, g120_122, m1', z0, rb0, hwi, Option.bind_some, Option.toList_some, List.cons_append, List.nil_append]
      · rw [if_neg hw] at iw
        refine ⟨S1, G1, Q1, 0, ?_, dF_rf, fun z => absurd z hw⟩
        simp only [g120_101, g120_102, g120_103, iw, z0, rb0, Option.bind_some, Option.toList_some, List.cons_append, List.nil_append]
        rw [g120_106, if_pos rfl]
        simp only [g120_119, g120_120, g120_121, g120_122, hwi]
    obtain ⟨S2, G2, Q2, wv, w1, w2, w3⟩ := wide
    have g2c : ∀ a, (a < 3 ∨ 9 < a) → a ≠ 23 → G2 a = G a := fun a ha hb => (w2.2 a ha).trans (g1c a ha hb)
    have g23 : G2 23 = G1 23 := w2.2 23 (by omega)
    obtain ⟨G3, l5', l6', b1, b2, b3, b4⟩ := b0_odd (p := p) (S := S2) (Q := Q2) (l1 := l1) d hA hv w3 2 0 G2 l5 l6 (by omega) (by rw [w2.2 1 (by omega)]; exact hG1) (fun k h1 h2 => by rw [g23]; exact a3 k h1 h2) (fun q o' h1 h2 h3 => by
      have hq := he q o' h1 h2 h3
      unfold enR
      rw [g2c 21 (by omega) (by decide), g2c 22 (by omega) (by decide)]
      exact hq)
    obtain ⟨S', G', Q', o1, o2, o3, o4⟩ := ih S2 G3 Q2 (.int wv) (.int (nI 2)) l5' l6' (by omega) (by rw [b4 1 (by decide) (by decide), w2.2 1 (by omega)]; exact hG1) (fun q o h1 h2 h3 => by
      by_cases z : q = v
      · subst z
        exact b2 o (Nat.zero_le _) h3
      · have hq := he q o (by omega) h2 h3
        refine ⟨(b3 21 _ (by omega)).trans ?_, (b3 22 _ (by omega)).trans ?_⟩
        · rw [g2c 21 (by omega) (by decide)]; exact hq.1
        · rw [g2c 22 (by omega) (by decide)]; exact hq.2) (fun q h1 h2 k h3 h4 => by
      rw [b4 23 (by decide) (by decide), g23]
      by_cases z : q = v
      · subst z
        exact a3 k h3 h4
      · rw [a4 _ (by omega)]
        exact hl q (by omega) h2 k h3 h4)
    refine ⟨S', G', Q', ?_, bF0_tr ⟨fun i hi => (w2.1 i hi).trans (a2.1 i hi), fun a ha => ?_⟩ o2, o3, o4⟩
    · simp only [g120_46, g120_47, c1, ↓reduceIte]
      simp only [g120_50, g120_51, hwi]
      have a1' : zres (d + 7) 120 52 [.ref 256, l1, .int (nI v), .int 1, l4, l5, l6] [] (zRh p S G Q) = zres (d + 7) 120 101 [.ref 256, l1, .int (nI v), .int (nI 5), l4, l5, l6] [] (zRh p S1 G1 Q1) := a1
      have b1' : zres (d + 7) 120 124 [.ref 256, l1, .int (nI v), .int wv, .int 0, l5, l6] [] (zRh p S2 G2 Q2) = zres (d + 7) 120 342 [.ref 256, l1, .int (nI v), .int wv, .int (nI 2), l5', l6'] [] (zRh p S2 G3 Q2) := b1
      rw [a1', w1, b1']
      simp only [g120_342, g120_345, hl1]
      exact o1
    · rw [b4 a (by omega) (by omega)]
      exact g2c a (by omega) (by omega)
theorem c_books0 (d : Nat) (hA : zVa A) (S : Nat → Int32) (G : Nat → Nat → Int32) (Q : Nat → Nat → Int64) (hG : zGA (G 1) A) :
    ∃ S' G' Q', zcl (d + 8) 120 [.ref 256] (zRh p S G Q) = some (none, zRh p S' G' Q') ∧ bF0 S S' G G' ∧ (∀ q o, q ≤ A.1 → o ≤ 1 → enR G' (2 * q + o) (rE A q o)) ∧ ∀ q, q < A.1 → lcS A G' q 4 := by
  have hwi : ∀ x, Value.category (.int x) = 1 := fun _ => rfl
  have hwj : Value.category zj = 1 := rfl
  have hwr : ∀ x, Value.category (.ref x) = 1 := fun _ => rfl
  have N12 := hA.1
  have s2 : (2 : Int32) * nI A.1 = nI (2 * A.1) := by rw [show (2 : Int32) = nI 2 from rfl, pk_mul]
  have b0 : 2 * A.1 < 26 := by omega
  have b1 : 2 * A.1 + 1 < 26 := by omega
  have e0 : nI (2 * A.1) + 0 = nI (2 * A.1) := nI_add _ 0
  have c0 : ¬ (2 : Int32) ≤ 0 := by decide
  have c1 : ¬ (2 : Int32) ≤ 0 + 1 := by decide
  have c2 : (2 : Int32) ≤ 0 + 1 + 1 := by decide
  have em : nI A.1 - 1 = nI A.1 + -1 := by grind
  have e01 : nI (2 * A.1) + (0 + 1) = nI (2 * A.1 + 1) := nI_add _ 1
  generalize hG1 : ug (ug (ug (ug G 21 (2 * A.1) 0) 22 (2 * A.1) 1) 21 (2 * A.1 + 1) 0) 22 (2 * A.1 + 1) 1 = G1
  have g1c : ∀ a, a ≠ 21 → a ≠ 22 → G1 a = G a := fun a h1 h2 => by rw [← hG1, ug_n h2, ug_n h1, ug_n h2, ug_n h1]
  have noT : ¬ aT A A.1 := fun t => absurd t.2.1 (Nat.lt_irrefl _)
  obtain ⟨S', G', Q', o1, o2, o3, o4⟩ := b0_main (p := p) (l1 := .int (nI A.1)) d hA rfl A.1 S G1 Q zj zj zj zj (Nat.le_refl _) (by rw [g1c 1 (by decide) (by decide)]; exact hG) (fun q o h1 h2 h3 => by
    obtain rfl : q = A.1 := by omega
    rw [show rE A A.1 o = DD A A.1 o from cif_neg noT, DD_end (Nat.le_refl _), ← hG1]
    by_cases z : o = 0
    · subst z
      refine ⟨?_, ?_⟩
      · rw [ug_i (by omega), ug_i (by omega), ug_n (by decide), Nat.add_zero, ug_a]; rfl
      · rw [ug_i (by omega), ug_i (by omega), Nat.add_zero, ug_a]
    · obtain rfl : o = 1 := by omega
      exact ⟨by rw [ug_n (by decide), ug_a]; rfl, ug_a⟩) (fun q h1 h2 => by omega)
  refine ⟨S', G', Q', ?_, bF0_tr ⟨fun _ _ => rfl, fun a ha => g1c a (by omega) (by omega)⟩ o2, o3, o4⟩
  rw [e120]
  simp only [g120_0, g120_1, g120_4, g120_5, g120_6, g120_7, g120_8, rg1, ra1z, hG.1, hwi, hwj, hwr, Option.bind_some]
  rw [g120_9, g120_10, g120_11, if_neg c0]
  simp only [g120_14, g120_15, g120_18, g120_19, g120_20, g120_21, g120_22, g120_23, g120_24, g120_25, g120_26, g120_29, g120_30, g120_31, g120_32, g120_33, g120_34, g120_35, g120_36, g120_39, rg26, rg27, s2, e0, rw21 b0, rw22 b0, hwi, Option.bind_some]
  rw [g120_9, g120_10, g120_11, if_neg c1]
  simp only [g120_14, g120_15, g120_18, g120_19, g120_20, g120_21, g120_22, g120_23, g120_24, g120_25, g120_26, g120_29, g120_30, g120_31, g120_32, g120_33, g120_34, g120_35, g120_36, g120_39, rg26, rg27, s2, e01, rw21 b1, rw22 b1, hwi, Option.bind_some]
  rw [g120_9, g120_10, g120_11, if_pos c2, hG1]
  simp only [g120_42, g120_43, g120_44, g120_45, em, hwi]
  exact o1
end BOOKS1
