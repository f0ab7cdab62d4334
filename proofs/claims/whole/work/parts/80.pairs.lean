/-! each call: class and reference answer alike -/
section PAIR
variable {l : List Int32} {p : ZP} {S : Nat → Int32} {G : Nat → Nat → Int32} {Q : Nat → Nat → Int64} {A B : AV} {r : Nat → AV} {kept next P F : Nat} {e : Int32} {h1 : ZH} {m m' : Nat} {as bs : List Value} {v : Value}
theorem wQ (hc : cF (zRh p S G Q) A B r kept next P F e) (h0 : (zRh p S G Q)[5]? = some (20, zint l)) (h3 : S 3 = nI kept) (hK : kR (G 2) kept (fun m => r ((next + 8 - kept + m) % 8))) (ho : (e = 0 ∧ S 33 = 0) ∨ (e = 1 ∧ S 33 = 1 ∧ oldR S G B)) (hcl : zcl 13 m as (zRh p S G Q) = some (some v, h1)) (hc1 : cF h1 A B r kept next P F e) (hu : cU (zRh p S G Q) h1) (hr : ∀ p1 : ZP, ∃ S' G' Q', zcl 13 m' bs (zRh p1 S G Q) = some (some v, zRh p1 S' G' Q') ∧ zsF A S S' G G') : ∃ h1 h2, zcl 13 m as (zRh p S G Q) = some (some v, h1) ∧ h1[5]? = (zRh p S G Q)[5]? ∧ (h1[256]?).map (fun c => c.1) = some 7 ∧ zcl 13 m' bs h1 = some (some v, h2) ∧ wI l h2 := by
  obtain ⟨g5, p1, e1, e2, e3⟩ := w_q hc h0 h3 hK ho hc1 hu
  obtain ⟨S', G', Q', r1, r2⟩ := hr p1
  exact ⟨h1, _, hcl, g5, e2, by rw [e1]; exact r1, e3 S' G' Q' r2⟩
theorem wM {A' : AV} {pic pg : Int32} (hc : cF (zRh p S G Q) A B r kept next P F e) (h0 : (zRh p S G Q)[5]? = some (20, zint l)) (hb : ∃ s X, BK (zRh p S G Q) F s X ∧ s 6 = pic ∧ s 7 = pg) (hcl : zcl 13 m as (zRh p S G Q) = some (some v, h1)) (hD : zDone (zRh p S G Q) h1 A A' r kept next P F pic pg) (hA' : zVa A') (hr : ∀ p1 : ZP, ∃ S' G' Q', zcl 13 m' bs (zRh p1 S G Q) = some (some v, zRh p1 S' G' Q') ∧ zrD S S' G' A A' (min (kept + 1) 8) (kNx kept (fun m => r ((next + 8 - kept + m) % 8)) A)) : ∃ h1 h2, zcl 13 m as (zRh p S G Q) = some (some v, h1) ∧ h1[5]? = (zRh p S G Q)[5]? ∧ (h1[256]?).map (fun c => c.1) = some 7 ∧ zcl 13 m' bs h1 = some (some v, h2) ∧ wI l h2 := by
  obtain ⟨g5, p1, e1, e2, e3⟩ := w_m hc h0 hb hD hA'
  obtain ⟨S', G', Q', r1, r2⟩ := hr p1
  exact ⟨h1, _, hcl, g5, e2, by rw [e1]; exact r1, e3 S' G' Q' r2⟩
end PAIR
theorem i_ix {x : Int32} {n : Nat} (hn : n ≤ 12) (h : 0 ≤ x ∧ x < nI n) : ∃ j, x = nI j ∧ j < n := by
  obtain ⟨a1, -, a2⟩ := i_rng (a := 0) (b := n) (by decide) (by omega) h.1 (Int32.le_of_lt h.2)
  refine ⟨_, a1, Nat.lt_of_le_of_ne a2 fun z => ?_⟩
  have q := h.2
  rw [a1, z] at q
  exact Int32.lt_irrefl q
theorem i_20 {x : Int32} (h : 20 ≤ x ∧ x ≤ 200) : ∃ W : Nat, x = nI W ∧ 20 ≤ W ∧ W ≤ 200 := ⟨_, i_rng (a := 20) (b := 200) (by decide) (by decide) h.1 h.2⟩
theorem wp_page (l : List Int32) : zPr_page (wI l) := by
  intro h hh x1 x2
  obtain ⟨p, S, G, Q, A, B, r, kept, next, P, F, e, rfl, hc, h0, hR, h3, hK, ho⟩ := hh
  have hA := hc.2.2.2.2.1
  have h6 := hc.1.1
  obtain ⟨s, X, b1, b2⟩ := hc.2.2.2.1
  have hV : ∀ m, m < kept → ((fun m => r ((next + 8 - kept + m) % 8)) m).1 ≤ 12 := fun m _ => (hc.2.2.2.2.2.2 _ (Nat.mod_lt _ (by decide))).1
  have hk8 := hc.1.2.2.2.2.2.1
  by_cases hn : (20 ≤ x1 ∧ x1 ≤ 200) ∧ (20 ≤ x2 ∧ x2 ≤ 200)
  · obtain ⟨W, rfl, w1⟩ := i_20 hn.1
    obtain ⟨H, rfl, w2⟩ := i_20 hn.2
    obtain ⟨h1, c1, c2⟩ := (c_page 8 hc.1 b1.1 (nI W) (nI H)).2 W H rfl rfl w1 w2
    exact ⟨1, wM hc h0 ⟨s, X, b1, rfl, rfl⟩ c1 c2 ⟨hA.1, w1, w2, hA.2.2.2⟩ (fun p1 => r_page 1 hR hA h3 hk8 hK hV w1 w2)⟩
  · exact ⟨0, wQ hc h0 h3 hK ho ((c_page 8 hc.1 b1.1 x1 x2).1 hn) hc cU_rf (fun p1 => by
        obtain ⟨S', G', r1, r2⟩ := r_page_no (p := p1) (Q := Q) 1 hR hn
        exact ⟨S', G', Q, r1, r2⟩)⟩
theorem wp_picture (l : List Int32) : zPr_picture (wI l) := by
  intro h hh x1 x2 x3 x4 x5
  obtain ⟨p, S, G, Q, A, B, r, kept, next, P, F, e, rfl, hc, h0, hR, h3, hK, ho⟩ := hh
  have hA := hc.2.2.2.2.1
  have h6 := hc.1.1
  obtain ⟨s, X, b1, b2⟩ := hc.2.2.2.1
  have hV : ∀ m, m < kept → ((fun m => r ((next + 8 - kept + m) % 8)) m).1 ≤ 12 := fun m _ => (hc.2.2.2.2.2.2 _ (Nat.mod_lt _ (by decide))).1
  have hk8 := hc.1.2.2.2.2.2.1
  by_cases hn : A.1 = 12 ∨ ¬ zcan x1 x2 x3 x4 x5
  · exact ⟨-1, wQ hc h0 h3 hK ho (c_picture_no 8 hc.1 hA.1 x1 x2 x3 x4 x5 hn) hc cU_rf (fun p1 => by
        obtain ⟨S', G', r1, r2⟩ := r_picture_no (p := p1) (Q := Q) 1 hR hA.1 x1 x2 x3 x4 x5 hn
        exact ⟨S', G', Q, r1, r2⟩)⟩
  · have hN : A.1 < 12 := Nat.lt_of_le_of_ne hA.1 fun z => hn (Or.inl z)
    have hcn : zcan x1 x2 x3 x4 x5 := Classical.byContradiction fun z => hn (Or.inr z)
    obtain ⟨h1, c1, c2⟩ := c_picture 8 hc.1 b1.1 hN x1 x2 x3 x4 x5 hcn
    exact ⟨nI A.1, wM hc h0 ⟨s, X, b1, rfl, rfl⟩ c1 c2 (zVa_wr hA hcn (Or.inr ⟨rfl, rfl⟩) hN) (fun p1 => r_picture 1 hR hA h3 hk8 hK hV hN x1 x2 x3 x4 x5 hcn)⟩
theorem wp_change (l : List Int32) : zPr_change (wI l) := by
  intro h hh x1 x2 x3 x4 x5 x6
  obtain ⟨p, S, G, Q, A, B, r, kept, next, P, F, e, rfl, hc, h0, hR, h3, hK, ho⟩ := hh
  have hA := hc.2.2.2.2.1
  have h6 := hc.1.1
  obtain ⟨s, X, b1, b2⟩ := hc.2.2.2.1
  have hV : ∀ m, m < kept → ((fun m => r ((next + 8 - kept + m) % 8)) m).1 ≤ 12 := fun m _ => (hc.2.2.2.2.2.2 _ (Nat.mod_lt _ (by decide))).1
  have hk8 := hc.1.2.2.2.2.2.1
  by_cases hn : ¬ (0 ≤ x1 ∧ x1 < nI A.1) ∨ ¬ zcan x2 x3 x4 x5 x6
  · exact ⟨0, wQ hc h0 h3 hK ho (c_change_no 8 hc.1 x1 x2 x3 x4 x5 x6 hn) hc cU_rf (fun p1 => by
        obtain ⟨S', G', r1, r2⟩ := r_change_no (p := p1) (Q := Q) 1 hR x1 x2 x3 x4 x5 x6 hn
        exact ⟨S', G', Q, r1, r2⟩)⟩
  · have hi : 0 ≤ x1 ∧ x1 < nI A.1 := Classical.byContradiction fun z => hn (Or.inl z)
    have hcn : zcan x2 x3 x4 x5 x6 := Classical.byContradiction fun z => hn (Or.inr z)
    obtain ⟨j, rfl, hj⟩ := i_ix hA.1 hi
    obtain ⟨h1, c1, c2⟩ := c_change 8 hc.1 b1.1 hA.1 hj x2 x3 x4 x5 x6 hcn
    exact ⟨1, wM hc h0 ⟨s, X, b1, rfl, rfl⟩ c1 c2 (zVa_wr hA hcn (Or.inl rfl) hA.1) (fun p1 => r_change 1 hR hA h3 hk8 hK hV hj x2 x3 x4 x5 x6 hcn)⟩
theorem wp_swap (l : List Int32) : zPr_swap (wI l) := by
  intro h hh x1 x2
  obtain ⟨p, S, G, Q, A, B, r, kept, next, P, F, e, rfl, hc, h0, hR, h3, hK, ho⟩ := hh
  have hA := hc.2.2.2.2.1
  have h6 := hc.1.1
  obtain ⟨s, X, b1, b2⟩ := hc.2.2.2.1
  have hV : ∀ m, m < kept → ((fun m => r ((next + 8 - kept + m) % 8)) m).1 ≤ 12 := fun m _ => (hc.2.2.2.2.2.2 _ (Nat.mod_lt _ (by decide))).1
  have hk8 := hc.1.2.2.2.2.2.1
  by_cases hn : (0 ≤ x1 ∧ x1 < nI A.1) ∧ (0 ≤ x2 ∧ x2 < nI A.1)
  · obtain ⟨i, rfl, hi⟩ := i_ix hA.1 hn.1
    obtain ⟨j, rfl, hj⟩ := i_ix hA.1 hn.2
    obtain ⟨h1, c1, c2⟩ := c_swap 8 hc.1 b1.1 hA.1 hi hj
    exact ⟨1, wM hc h0 ⟨s, X, b1, rfl, rfl⟩ c1 c2 (zVa_sw hA hi hj) (fun p1 => r_swap 1 hR hA h3 hk8 hK hV hi hj)⟩
  · exact ⟨0, wQ hc h0 h3 hK ho (c_swap_no 8 hc.1 x1 x2 hn) hc cU_rf (fun p1 => by
        obtain ⟨S', G', r1, r2⟩ := r_swap_no (p := p1) (Q := Q) 1 hR x1 x2 hn
        exact ⟨S', G', Q, r1, r2⟩)⟩
theorem wp_drop (l : List Int32) : zPr_drop (wI l) := by
  intro h hh x1
  obtain ⟨p, S, G, Q, A, B, r, kept, next, P, F, e, rfl, hc, h0, hR, h3, hK, ho⟩ := hh
  have hA := hc.2.2.2.2.1
  have h6 := hc.1.1
  obtain ⟨s, X, b1, b2⟩ := hc.2.2.2.1
  have hV : ∀ m, m < kept → ((fun m => r ((next + 8 - kept + m) % 8)) m).1 ≤ 12 := fun m _ => (hc.2.2.2.2.2.2 _ (Nat.mod_lt _ (by decide))).1
  have hk8 := hc.1.2.2.2.2.2.1
  by_cases hn : 0 ≤ x1 ∧ x1 < nI A.1
  · obtain ⟨i, rfl, hi⟩ := i_ix hA.1 hn
    obtain ⟨h1, c1, c2⟩ := c_drop 8 hc.1 b1.1 hA.1 hi
    exact ⟨1, wM hc h0 ⟨s, X, b1, rfl, rfl⟩ c1 c2 (zVa_rm hA hi) (fun p1 => r_drop 1 hR hA h3 hk8 hK hV hi)⟩
  · exact ⟨0, wQ hc h0 h3 hK ho (c_drop_no 8 hc.1 x1 hn) hc cU_rf (fun p1 => by
        obtain ⟨S', G', r1, r2⟩ := r_drop_no (p := p1) (Q := Q) 1 hR x1 hn
        exact ⟨S', G', Q, r1, r2⟩)⟩
theorem wp_about (l : List Int32) : zPr_about (wI l) := by
  intro h hh x1
  obtain ⟨p, S, G, Q, A, B, r, kept, next, P, F, e, rfl, hc, h0, hR, h3, hK, ho⟩ := hh
  have hA := hc.2.2.2.2.1
  have h6 := hc.1.1
  exact ⟨zabt A x1, wQ hc h0 h3 hK ho (c_about 8 hc.1 hA.1 x1) hc cU_rf (fun p1 => by
        obtain ⟨S', G', r1, r2⟩ := r_about (p := p1) (Q := Q) 11 hR hA.1 x1
        exact ⟨S', G', Q, r1, zqF_s r2⟩)⟩
theorem wp_trees (l : List Int32) : zPr_trees (wI l) := by
  intro h hh x1
  obtain ⟨p, S, G, Q, A, B, r, kept, next, P, F, e, rfl, hc, h0, hR, h3, hK, ho⟩ := hh
  have hA := hc.2.2.2.2.1
  have h6 := hc.1.1
  exact ⟨_, wQ hc h0 h3 hK ho (c_trees 10 hc.2.1.1 x1 6) hc cU_rf (fun p1 => by
        obtain ⟨S', G', r1, r2⟩ := r_trees (p := p1) (Q := Q) 10 hR x1
        exact ⟨S', G', Q, r1, zqF_s r2⟩)⟩
theorem wp_tree (l : List Int32) : zPr_tree (wI l) := by
  intro h hh x1 x2 x3
  obtain ⟨p, S, G, Q, A, B, r, kept, next, P, F, e, rfl, hc, h0, hR, h3, hK, ho⟩ := hh
  have hA := hc.2.2.2.2.1
  have h6 := hc.1.1
  by_cases hn : ∃ t, t < 31 ∧ x1 = nI (tn t) ∧ x2 = nI (tk t)
  · obtain ⟨t, ht, rfl, rfl⟩ := hn
    exact ⟨_, wQ hc h0 h3 hK ho (c_tree 10 hc.2.1.1 ht x3) hc cU_rf (fun p1 => by
        obtain ⟨S', G', r1, r2⟩ := r_tree (p := p1) (Q := Q) 9 hR ht x3
        exact ⟨S', G', Q, r1, zqF_s r2⟩)⟩
  · exact ⟨_, wQ hc h0 h3 hK ho (c_tree_no 10 hc.2.1.1 x1 x2 x3 hn) hc cU_rf (fun p1 => by
        obtain ⟨S', G', r1, r2⟩ := r_tree_no (p := p1) (Q := Q) 9 hR (i := x3) hn
        exact ⟨S', G', Q, r1, zqF_s r2⟩)⟩
theorem wp_shape (l : List Int32) : zPr_shape (wI l) := by
  intro h hh x1 x2 x3 x4
  obtain ⟨p, S, G, Q, A, B, r, kept, next, P, F, e, rfl, hc, h0, hR, h3, hK, ho⟩ := hh
  have hA := hc.2.2.2.2.1
  have h6 := hc.1.1
  by_cases hn : ∃ s m k c, x1 = nI s ∧ x2 = nI m ∧ x3 = nI k ∧ x4 = nI c ∧ zFe A.1 A.2.2.2 s m ∧ k < th m ∧ c < 2
  · obtain ⟨s, m, k, c, rfl, rfl, rfl, rfl, f1, f2, f3⟩ := hn
    obtain ⟨h1, c1, c2, c3⟩ := c_shape 9 h6 hA hc.2.1 hc.1.2.1 f1 f2 f3
    exact ⟨_, wQ hc h0 h3 hK ho c1 (cF_sh hc c2 c3) (zShF_u c3) (fun p1 => by
        obtain ⟨S', G', Q', r1, r2⟩ := r_shape (p := p1) (Q := Q) 7 hR hA f1 f2 f3
        exact ⟨S', G', Q', r1, zqF_s r2⟩)⟩
  · obtain ⟨h1, c1, c2, c3⟩ := c_shape_no 9 h6 hA hc.2.1 hc.1.2.1 hn
    exact ⟨_, wQ hc h0 h3 hK ho c1 (cF_sh hc c2 c3) (zShF_u c3) (fun p1 => by
        obtain ⟨S', G', r1, r2⟩ := r_shape_no (p := p1) (Q := Q) 7 hR hA hn
        exact ⟨S', G', Q, r1, zqF_s r2⟩)⟩
theorem wp_side (l : List Int32) : zPr_side (wI l) := by
  intro h hh x1 x2 x3 x4 x5
  obtain ⟨p, S, G, Q, A, B, r, kept, next, P, F, e, rfl, hc, h0, hR, h3, hK, ho⟩ := hh
  have hA := hc.2.2.2.2.1
  have h6 := hc.1.1
  by_cases hn : ∃ s m k i c, x1 = nI s ∧ x2 = nI m ∧ x3 = nI k ∧ x4 = nI i ∧ x5 = nI c ∧ zFe A.1 A.2.2.2 s m ∧ k < th m ∧ i < m ∧ c < 4
  · obtain ⟨s, m, k, i, c, rfl, rfl, rfl, rfl, rfl, f1, f2, f3, f4⟩ := hn
    obtain ⟨h1, c1, c2, c3⟩ := c_side 9 h6 hA hc.2.1 hc.1.2.1 f1 f2 f3 f4
    exact ⟨_, wQ hc h0 h3 hK ho c1 (cF_sh hc c2 c3) (zShF_u c3) (fun p1 => by
        obtain ⟨S', G', Q', r1, r2⟩ := r_side (p := p1) (Q := Q) 7 hR hA f1 f2 f3 f4
        exact ⟨S', G', Q', r1, zqF_s r2⟩)⟩
  · obtain ⟨h1, c1, c2, c3⟩ := c_side_no 9 h6 hA hc.2.1 hc.1.2.1 hn
    exact ⟨_, wQ hc h0 h3 hK ho c1 (cF_sh hc c2 c3) (zShF_u c3) (fun p1 => by
        obtain ⟨S', G', r1, r2⟩ := r_side_no (p := p1) (Q := Q) 7 hR hA hn
        exact ⟨S', G', Q, r1, zqF_s r2⟩)⟩
theorem wp_cost (l : List Int32) : zPr_cost (wI l) := by
  intro h hh x1 x2 x3
  obtain ⟨p, S, G, Q, A, B, r, kept, next, P, F, e, rfl, hc, h0, hR, h3, hK, ho⟩ := hh
  have hA := hc.2.2.2.2.1
  have h6 := hc.1.1
  by_cases hn : ∃ s m k, x1 = nI s ∧ x2 = nI m ∧ x3 = nI k ∧ zFe A.1 A.2.2.2 s m ∧ k < th m
  · obtain ⟨s, m, k, rfl, rfl, rfl, f1, f2⟩ := hn
    obtain ⟨h1, c1, c2, c3⟩ := c_cost 9 h6 hA hc.2.1 hc.1.2.1 f1 f2
    exact ⟨_, wQ hc h0 h3 hK ho c1 (cF_sh hc c2 c3) (zShF_u c3) (fun p1 => by
        obtain ⟨S', G', Q', r1, r2⟩ := r_cost (p := p1) (Q := Q) 6 hR hA f1 f2
        exact ⟨S', G', Q', r1, zqF_s r2⟩)⟩
  · obtain ⟨h1, c1, c2, c3⟩ := c_cost_no 9 h6 hA hc.2.1 hc.1.2.1 hn
    exact ⟨_, wQ hc h0 h3 hK ho c1 (cF_sh hc c2 c3) (zShF_u c3) (fun p1 => by
        obtain ⟨S', G', r1, r2⟩ := r_cost_no (p := p1) (Q := Q) 6 hR hA hn
        exact ⟨S', G', Q, r1, zqF_s r2⟩)⟩
theorem wp_best (l : List Int32) : zPr_best (wI l) := by
  intro h hh x1 x2
  obtain ⟨p, S, G, Q, A, B, r, kept, next, P, F, e, rfl, hc, h0, hR, h3, hK, ho⟩ := hh
  have hA := hc.2.2.2.2.1
  have h6 := hc.1.1
  by_cases hn : ∃ s m, x1 = nI s ∧ x2 = nI m ∧ zFe A.1 A.2.2.2 s m
  · obtain ⟨s, m, rfl, rfl, f1⟩ := hn
    obtain ⟨h1, c1, c2, c3⟩ := c_best 8 h6 hA hc.2.1 hc.1.2.1 f1
    exact ⟨_, wQ hc h0 h3 hK ho c1 (cF_sh hc c2 c3) (zShF_u c3) (fun p1 => by
        obtain ⟨S', G', Q', r1, r2⟩ := r_best (p := p1) (Q := Q) 5 hR hA f1
        exact ⟨S', G', Q', r1, zqF_s r2⟩)⟩
  · obtain ⟨h1, c1, c2, c3⟩ := c_best_no 8 h6 hA hc.2.1 hc.1.2.1 hn
    exact ⟨_, wQ hc h0 h3 hK ho c1 (cF_sh hc c2 c3) (zShF_u c3) (fun p1 => by
        obtain ⟨S', G', r1, r2⟩ := r_best_no (p := p1) (Q := Q) 5 hR hA hn
        exact ⟨S', G', Q, r1, zqF_s r2⟩)⟩
theorem wp_book (l : List Int32) : zPr_book (wI l) := by
  intro h hh _
  obtain ⟨p, S, G, Q, A, B, r, kept, next, P, F, e, rfl, hc, h0, hR, h3, hK, ho⟩ := hh
  have hA := hc.2.2.2.2.1
  have h6 := hc.1.1
  obtain ⟨h1, c1, c2, c3⟩ := c_bookC 6 hc
  exact ⟨_, wQ hc h0 h3 hK ho c1 c2 c3 (fun p1 => r_book 3 hR hA)⟩
theorem wp_pages (l : List Int32) : zPr_pages (wI l) := by
  intro h hh _
  obtain ⟨p, S, G, Q, A, B, r, kept, next, P, F, e, rfl, hc, h0, hR, h3, hK, ho⟩ := hh
  have hA := hc.2.2.2.2.1
  have h6 := hc.1.1
  obtain ⟨h1, c1, c2, c3⟩ := c_pagesC 6 hc
  exact ⟨_, wQ hc h0 h3 hK ho c1 c2 c3 (fun p1 => r_pages 3 hR hA)⟩
theorem wp_books (l : List Int32) : zPr_books (wI l) := by
  intro h hh _
  obtain ⟨p, S, G, Q, A, B, r, kept, next, P, F, e, rfl, hc, h0, hR, h3, hK, ho⟩ := hh
  have hA := hc.2.2.2.2.1
  have h6 := hc.1.1
  obtain ⟨h1, c1, c2, c3⟩ := c_booksC 6 hc
  exact ⟨_, wQ hc h0 h3 hK ho c1 c2 c3 (fun p1 => r_books 3 hR hA)⟩
theorem wp_leaf (l : List Int32) : zPr_leaf (wI l) := by
  intro h hh x1 x2
  obtain ⟨p, S, G, Q, A, B, r, kept, next, P, F, e, rfl, hc, h0, hR, h3, hK, ho⟩ := hh
  have hA := hc.2.2.2.2.1
  have h6 := hc.1.1
  obtain ⟨h1, c1, c2, c3⟩ := c_leafC 6 hc x1 x2
  exact ⟨_, wQ hc h0 h3 hK ho c1 c2 c3 (fun p1 => r_leaf 3 hR hA x1 x2)⟩
theorem wp_pageOf (l : List Int32) : zPr_pageOf (wI l) := by
  intro h hh x1
  obtain ⟨p, S, G, Q, A, B, r, kept, next, P, F, e, rfl, hc, h0, hR, h3, hK, ho⟩ := hh
  have hA := hc.2.2.2.2.1
  have h6 := hc.1.1
  by_cases hn : (0 ≤ x1 ∧ x1 < nI A.1) ∧ ∃ v, (DD A 0 0).1 = some v
  · obtain ⟨n1, v, hv⟩ := hn
    obtain ⟨j, rfl, hj⟩ := i_ix hA.1 n1
    obtain ⟨h1, n, c1, c2, c3, c4, c5, c6⟩ := c_pageOfC 6 hc hj hv
    exact ⟨_, wQ hc h0 h3 hK ho c1 c2 c3 (fun p1 => r_pageOf 3 hR hA hj hv c4 c5 c6)⟩
  · obtain ⟨h1, c1, c2, c3⟩ := c_pageOfC_no 6 hc x1 hn
    exact ⟨_, wQ hc h0 h3 hK ho c1 c2 c3 (fun p1 => r_pageOf_no 3 hR hA x1 hn)⟩
theorem wp_changed (l : List Int32) : zPr_changed (wI l) := by
  intro h hh _
  obtain ⟨p, S, G, Q, A, B, r, kept, next, P, F, e, rfl, hc, h0, hR, h3, hK, ho⟩ := hh
  have hA := hc.2.2.2.2.1
  have h6 := hc.1.1
  rcases ho with ⟨e0, s0⟩ | ⟨e1, s1, o1⟩
  · subst e0
    exact ⟨_, wQ hc h0 h3 hK (Or.inl ⟨rfl, s0⟩) (c_changedC_no 6 h6) hc cU_rf (fun p1 => by
        obtain ⟨S', G', r1, r2⟩ := r_changed_no (p := p1) (Q := Q) 3 hR s0
        exact ⟨S', G', Q, r1, r2⟩)⟩
  · subst e1
    obtain ⟨h1, n, c1, c2, c3, c4⟩ := c_changedC 6 hc
    exact ⟨_, wQ hc h0 h3 hK (Or.inr ⟨rfl, s1, o1⟩) c1 c2 c3 (fun p1 => r_changed 3 hR hA hc.2.2.2.2.2.1 s1 o1 c4)⟩
