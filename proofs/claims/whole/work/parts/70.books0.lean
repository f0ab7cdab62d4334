/-! books0 -/
def bF0 (S S' : Nat → Int32) (G G' : Nat → Nat → Int32) : Prop := (∀ j, j ≠ 5 → S' j = S j) ∧ ∀ a, (a < 3 ∨ (9 < a ∧ a ≠ 21 ∧ a ≠ 22 ∧ a ≠ 23)) → G' a = G a
theorem bF0_rf {S : Nat → Int32} {G : Nat → Nat → Int32} : bF0 S S G G := ⟨fun _ _ => rfl, fun _ _ => rfl⟩
theorem bF0_tr {S S' S'' : Nat → Int32} {G G' G'' : Nat → Nat → Int32} (h1 : bF0 S S' G G') (h2 : bF0 S' S'' G' G'') : bF0 S S'' G G'' := ⟨fun j hj => (h2.1 j hj).trans (h1.1 j hj), fun a ha => (h2.2 a ha).trans (h1.2 a ha)⟩
theorem bF0_d {S S' : Nat → Int32} {G G' : Nat → Nat → Int32} (h : dF S S' G G') : bF0 S S' G G' := ⟨h.1, fun a ha => h.2 a (by omega)⟩
def lcS (A : AV) (G : Nat → Nat → Int32) (v K : Nat) : Prop := ∀ k, 1 ≤ k → k ≤ K → G 23 (4 * v + k - 1) = lcv A v k
section BOOKS0
variable {p : ZP} {A : AV}
theorem ix4 {v k : Nat} (hk : 1 ≤ k) : (4 : Int32) * nI v + nI k - 1 = nI (4 * v + k - 1) := by
  rw [show (4 : Int32) = nI 4 from rfl, pk_mul, nI_add, show (1 : Int32) = nI 1 from rfl]
  exact pk_sub (by omega)
/-- what every page from v on costs -/
theorem b0_leaf (d : Nat) (hA : zVa A) {v : Nat} {l1 l4 l5 l6 : Value} (hv : v < A.1) :
    ∀ (r k : Nat) (S : Nat → Int32) (G : Nat → Nat → Int32) (Q : Nat → Nat → Int64), k + r = 4 → zGA (G 1) A → lcS A G v k →
      ∃ S' G' Q', zres (d + 7) 120 52 [.ref 256, l1, .int (nI v), .int (nI (k + 1)), l4, l5, l6] [] (zRh p S G Q) = zres (d + 7) 120 101 [.ref 256, l1, .int (nI v), .int (nI 5), l4, l5, l6] [] (zRh p S' G' Q') ∧ dF S S' G (fun a => if a = 23 then G 23 else G' a) ∧ lcS A G' v 4 ∧ ∀ j, (j < 4 * v + k ∨ 4 * v + 4 ≤ j) → G' 23 j = G 23 j := by
  have z0 : zcs [] ≤ 8 := by decide
  have zir : ∀ x y, zcs [.int x, .ref y] ≤ 8 := fun _ _ => Nat.le_of_ble_eq_true rfl
  have z5 : ∀ x y w u z, zcs [.int x, .int y, .ref w, .int u, .ref z] ≤ 8 := fun _ _ _ _ _ => Nat.le_of_ble_eq_true rfl
  have hwi : ∀ x, Value.category (.int x) = 1 := fun _ => rfl
  have N12 := hA.1
  intro r
  induction r with
  | zero =>
    intro k S G Q hk hG hl
    obtain rfl : k = 4 := by omega
    have c1 : (4 : Int32) < nI (4 + 1) := by decide
    refine ⟨S, G, Q, ?_, ⟨fun _ _ => rfl, fun a ha => ?_⟩, hl, fun _ _ => rfl⟩
    · simp only [g120_52, g120_53, g120_54, c1, ↓reduceIte]
    · show (if a = 23 then G 23 else G a) = G a
      by_cases z : a = 23
      · rw [if_pos z, z]
      · rw [if_neg z]
  | succ r ih =>
    intro k S G Q hk hG hl
    have c1 : ¬ (4 : Int32) < nI (k + 1) := nI_nlt (a := 4) (by omega) (by decide)
    have ix := ix4 (v := v) (k := k + 1) (by omega)
    have b48 : 4 * v + (k + 1) - 1 < 48 := by omega
    obtain ⟨rr, l1', l2', l3'⟩ := c_isLeaf (p := p) (S := S) (Q := Q) (d + 2) hG hA hv (k := k + 1) (by omega) (by omega)
    have pre : zres (d + 7) 120 52 [.ref 256, l1, .int (nI v), .int (nI (k + 1)), l4, l5, l6] [] (zRh p S G Q) = zres (d + 7) 120 74 [.ref 256, l1, .int (nI v), .int (nI (k + 1)), l4, l5, l6] [.int rr, .int (nI (4 * v + (k + 1) - 1)), .ref 279] (zRh p S G Q) := by
      simp only [g120_52, g120_53, g120_54, c1, ↓reduceIte]
      simp only [g120_57, g120_58, g120_61, g120_62, g120_63, g120_64, g120_65, g120_66, g120_67, g120_68, g120_69, g120_70, g120_71, rg28, ix, l1', zir, rb0, Option.bind_some, Option.toList_some, List.cons_append, List.nil_append]
    -- the number goes into the row
    have put : ∀ (S1 : Nat → Int32) (G1 : Nat → Nat → Int32) (Q1 : Nat → Nat → Int64) (x : Int32), x = lcv A v (k + 1) → dF S S1 G G1 → ∃ S' G' Q', zres (d + 7) 120 94 [.ref 256, l1, .int (nI v), .int (nI (k + 1)), l4, l5, l6] [.int x, .int (nI (4 * v + (k + 1) - 1)), .ref 279] (zRh p S1 G1 Q1) = zres (d + 7) 120 101 [.ref 256, l1, .int (nI v), .int (nI 5), l4, l5, l6] [] (zRh p S' G' Q') ∧ dF S S' G (fun a => if a = 23 then G 23 else G' a) ∧ lcS A G' v 4 ∧ ∀ j, (j < 4 * v + k ∨ 4 * v + 4 ≤ j) → G' 23 j = G 23 j := by
      intro S1 G1 Q1 x hx hf
      have h23 : G1 23 = G 23 := hf.2 23 (by omega)
      obtain ⟨S', G', Q', o1, o2, o3, o4⟩ := ih (k + 1) S1 (ug G1 23 (4 * v + (k + 1) - 1) x) Q1 (by omega) (by rw [ug_n (by decide), hf.2 1 (by omega)]; exact hG) (fun k' h1 h2 => by
        by_cases z : k' = k + 1
        · rw [z, ug_a, hx]
        · rw [ug_i (by omega), h23]
          exact hl k' h1 (by omega))
      refine ⟨S', G', Q', ?_, ⟨fun j hj => (o2.1 j hj).trans (hf.1 j hj), fun a ha => ?_⟩, o3, fun j hj => ?_⟩
      · simp only [g120_94, rw23 b48, Option.bind_some, g120_95, g120_98, hwi, nI_1]
        exact o1
      · show (if a = 23 then G 23 else G' a) = G a
        by_cases z : a = 23
        · rw [if_pos z, z]
        · rw [if_neg z]
          have : (if a = 23 then ug G1 23 (4 * v + (k + 1) - 1) x 23 else G' a) = ug G1 23 (4 * v + (k + 1) - 1) x a := o2.2 a ha
          rw [if_neg z] at this
          rw [this, ug_n z]
          exact hf.2 a ha
      · rw [o4 j (by omega), ug_i (by omega), h23]
    rw [pre]
    by_cases q : lf A v (k + 1)
    · rw [l2' q, g120_74, if_neg (by decide)]
      obtain ⟨S1, G1, Q1, m1, m2⟩ := c_bestOf (p := p) (S := S) (Q := Q) d hG hA q.1
      have hG1 : zGA (G1 1) A := by rw [m2.2 1 (by omega)]; exact hG
      obtain ⟨S2, G2, Q2, n1, n2⟩ := c_costOf (p := p) (S := S1) (Q := Q1) (d + 1) hG1 hA q.1 (aB_lt q.1.2.1 q.1.1)
      obtain ⟨S', G', Q', o1, o2⟩ := put S2 G2 Q2 (nI (aP A v (k + 1))) (by unfold lcv; rw [cif_pos q]) (dF_tr m2 n2)
      refine ⟨S', G', Q', ?_, o2⟩
      simp only [g120_77, g120_78, g120_79, g120_80, g120_81, g120_82, g120_83, m1, z5, rb0, Option.bind_some, Option.toList_some, List.cons_append, List.nil_append]
      have n1' : zcl (d + 7) 114 [.ref 256, .int (nI v), .int (nI (k + 1)), .int (nI (aB A v (k + 1)))] (zRh p S1 G1 Q1) = some (some (.int (nI (aP A v (k + 1)))), zRh p S2 G2 Q2) := n1
      simp only [g120_86 (zir _ _) rb0, n1', Option.bind_some, Option.toList_some, List.cons_append, List.nil_append, g120_89]
      exact o1
    · rw [l3' q, g120_74, if_pos rfl, g120_92]
      exact put S G Q 1000000000 (by unfold lcv; rw [cif_neg q]) dF_rf
/-- the pages from v on, one by one -/
theorem b0_plain (d : Nat) (hA : zVa A) {v o : Nat} {l1 l3 : Value} {S : Nat → Int32} {Q : Nat → Nat → Int64} (hv : v < A.1) (hw : ¬ A.2.2.2 (5 * v + 3) = 1) (ho : o ≤ 1) :
    ∀ (r k : Nat) (G : Nat → Nat → Int32) (l6 : Value), k + r = 4 → lcS A G v 4 → (∀ q o', v < q → q ≤ A.1 → o' ≤ 1 → enR G (2 * q + o') (rE A q o')) → enR G (2 * v + o) (cif (aT A v) ez (dG A (DD A) v o k)) →
      ∃ G' l6', zres (d + 7) 120 240 [.ref 256, l1, .int (nI v), l3, .int (nI o), .int (nI (k + 1)), l6] [] (zRh p S G Q) = zres (d + 7) 120 336 [.ref 256, l1, .int (nI v), l3, .int (nI o), .int (nI 5), l6'] [] (zRh p S G' Q) ∧ enR G' (2 * v + o) (cif (aT A v) ez (dG A (DD A) v o 4)) ∧ (∀ a j, j ≠ 2 * v + o → G' a j = G a j) ∧ ∀ a, a ≠ 21 → a ≠ 22 → G' a = G a := by
  have z0 : zcs [] ≤ 8 := by decide
  have hwi : ∀ x, Value.category (.int x) = 1 := fun _ => rfl
  have N12 := hA.1
  intro r
  induction r with
  | zero =>
    intro k G l6 hk hl he hE
    obtain rfl : k = 4 := by omega
    have c1 : (4 : Int32) < nI (4 + 1) := by decide
    refine ⟨G, l6, ?_, hE, fun _ _ _ => rfl, fun _ _ _ => rfl⟩
    simp only [g120_240, g120_242, g120_243, c1, ↓reduceIte]
  | succ r ih =>
    intro k G l6 hk hl he hE
    have c1 : ¬ (4 : Int32) < nI (k + 1) := nI_nlt (a := 4) (by omega) (by decide)
    have ix := ix4 (v := v) (k := k + 1) (by omega)
    have b48 : 4 * v + (k + 1) - 1 < 48 := by omega
    have lc := hl (k + 1) (by omega) (by omega)
    have s2 : (2 : Int32) * nI v = nI (2 * v) := by rw [show (2 : Int32) = nI 2 from rfl, pk_mul]
    have pre : zres (d + 7) 120 240 [.ref 256, l1, .int (nI v), l3, .int (nI o), .int (nI (k + 1)), l6] [] (zRh p S G Q) = zres (d + 7) 120 261 [.ref 256, l1, .int (nI v), l3, .int (nI o), .int (nI (k + 1)), l6] [.int 1000000000, .int (lcv A v (k + 1))] (zRh p S G Q) := by
      simp only [g120_240, g120_242, g120_243, c1, ↓reduceIte]
      simp only [g120_246, g120_247, g120_250, g120_251, g120_252, g120_253, g120_255, g120_256, g120_257, g120_258, g120_259, rg28, ix, ra23 b48, lc, Option.bind_some]
    have skip : ∀ (l6 : Value), cif (aT A v) ez (dG A (DD A) v o (k + 1)) = cif (aT A v) ez (dG A (DD A) v o k) → ∃ G' l6', zres (d + 7) 120 330 [.ref 256, l1, .int (nI v), l3, .int (nI o), .int (nI (k + 1)), l6] [] (zRh p S G Q) = zres (d + 7) 120 336 [.ref 256, l1, .int (nI v), l3, .int (nI o), .int (nI 5), l6'] [] (zRh p S G' Q) ∧ enR G' (2 * v + o) (cif (aT A v) ez (dG A (DD A) v o 4)) ∧ (∀ a j, j ≠ 2 * v + o → G' a j = G a j) ∧ ∀ a, a ≠ 21 → a ≠ 22 → G' a = G a := by
      intro l6 hs
      obtain ⟨G', l6', o1, o2⟩ := ih (k + 1) G l6 (by omega) hl he (by rw [hs]; exact hE)
      refine ⟨G', l6', ?_, o2⟩
      simp only [g120_330, g120_333, hwi, nI_1]
      exact o1
    rw [pre]
    by_cases q : lf A v (k + 1)
    · obtain ⟨q1, q2, q3, q4⟩ := q
      have eL : lcv A v (k + 1) = nI (aP A v (k + 1)) := by unfold lcv; rw [cif_pos ⟨q1, q2, q3, q4⟩]
      have ap := aP_le hA q1
      have vN := q1.2.2.1
      have nv := nvr_n (v := aP A v (k + 1)) (by omega)
      have hE2 := he (v + (k + 1)) (1 - o) (by omega) vN (by omega)
      have eR : rE A (v + (k + 1)) (1 - o) = DD A (v + (k + 1)) (1 - o) := cif_neg q4
      rw [eR] at hE2
      have sN : nI (2 * (v + (k + 1)) + 1) - nI o = nI (2 * (v + (k + 1)) + (1 - o)) := by
        rw [pk_sub (by omega)]
        congr 1
        omega
      have s3 : (2 : Int32) * nI (v + (k + 1)) = nI (2 * (v + (k + 1))) := by rw [show (2 : Int32) = nI 2 from rfl, pk_mul]
      have b26 : 2 * (v + (k + 1)) + (1 - o) < 26 := by omega
      have eG : dG A (DD A) v o (k + 1) = eo (dG A (DD A) v o k) (k + 1) (aP A v (k + 1)) (DD A (v + (k + 1)) (1 - o)) := cif_pos ⟨q4, q1⟩
      have pre2 : zres (d + 7) 120 261 [.ref 256, l1, .int (nI v), l3, .int (nI o), .int (nI (k + 1)), l6] [.int 1000000000, .int (lcv A v (k + 1))] (zRh p S G Q) = zres (d + 7) 120 289 [.ref 256, l1, .int (nI v), l3, .int (nI o), .int (nI (k + 1)), .int (nI (2 * (v + (k + 1)) + (1 - o)))] [.int 1000000000, .int (en2 (DD A (v + (k + 1)) (1 - o)).1)] (zRh p S G Q) := by
        rw [eL, g120_261, if_pos nv.2.1]
        simp only [g120_267, g120_268, g120_269, g120_271, g120_272, g120_273, g120_274, g120_275, g120_277, g120_278, g120_280, g120_281, g120_284, g120_286, g120_287, rg26, nI_add, s3, nI_1, sN, ra21 b26, hE2.1, hwi, Option.bind_some]
      rw [pre2]
      cases hb : (DD A (v + (k + 1)) (1 - o)).1 with
      | none =>
        rw [g120_289, if_pos (show (1000000000 : Int32) ≤ en2 none from by decide)]
        exact skip _ (by
          rw [eG]
          have : eo (dG A (DD A) v o k) (k + 1) (aP A v (k + 1)) (DD A (v + (k + 1)) (1 - o)) = dG A (DD A) v o k := by unfold eo; rw [hb]
          rw [this])
      | some w =>
        have wl := DD_lt hA (show 1 - o ≤ 1 by omega) hb
        have nw := nvr_n (v := w) (by omega)
        have hE1 : G 21 (2 * (v + (k + 1)) + (1 - o)) = nI w := by rw [hE2.1, hb]; rfl
        rw [g120_289, if_neg (show ¬ (1000000000 : Int32) ≤ en2 (some w) from nw.2.2)]
        rw [cif_neg q3] at hE
        obtain ⟨G1, c1', c2', c3', c4'⟩ := c_comes (p := p) (S := S) (G := G) (Q := Q) (d + 6) (q := 2 * v + o) (n := k + 1) (e := aP A v (k + 1)) (F := DD A (v + (k + 1)) (1 - o)) (by omega) hE hb (dG_b hA ho) (by omega)
        have hE22 := hE2.2
        obtain ⟨G', l6', o1, o2, o3, o4⟩ := ih (k + 1) G1 (.int (nI (2 * (v + (k + 1)) + (1 - o)))) (by omega) (fun k' h1 h2 => by rw [c4' 23 (by decide) (by decide)]; exact hl k' h1 h2) (fun q o' h1 h2 h3 => by
          have hq := he q o' h1 h2 h3
          exact ⟨(c3' 21 _ (by omega)).trans hq.1, (c3' 22 _ (by omega)).trans hq.2⟩) (by rw [cif_neg q3, eG]; exact c2')
        refine ⟨G', l6', ?_, o2, fun a j hj => by rw [o3 a j hj, c3' a j hj], fun a h1 h2 => by rw [o4 a h1 h2, c4' a h1 h2]⟩
        have lc' : G 23 (4 * v + (k + 1) - 1) = nI (aP A v (k + 1)) := by rw [lc, eL]
        simp only [g120_292, g120_293, g120_294, g120_295, g120_296, g120_298, g120_299, g120_300, g120_303, g120_304, g120_305, g120_306, g120_308, g120_309, g120_310, g120_311, g120_312, g120_313, g120_316, g120_318, g120_319, g120_320, g120_321, g120_324, g120_326, g120_327, rg26, rg27, rg28, s2, nI_add, ix, ra23 b48, lc', ra21 b26, hE1, ra22 b26, hE22, c1', z0, rb0, Option.bind_some, Option.toList_none, List.nil_append]
        simp only [g120_330, g120_333, hwi, nI_1]
        exact o1
    · have eL : lcv A v (k + 1) = 1000000000 := by unfold lcv; rw [cif_neg q]
      rw [eL, g120_261, if_neg (fun w => w rfl), g120_264]
      refine skip _ ?_
      by_cases q3 : aT A v
      · rw [cif_pos q3, cif_pos q3]
      · rw [cif_neg q3, cif_neg q3]
        exact cif_neg fun w => q ⟨w.2, hw, q3, w.1⟩
end BOOKS0
