section LAYS3
variable {p : ZP} {S : Nat → Int32} {G : Nat → Nat → Int32}
theorem lays_loop (d : Nat) {t : Nat} {w q : Nat → Nat} {W H : Nat} {X : Nat → Nat → Nat} {l1 l2 : Value} (hl2 : l2.category = 1) (ht : t < 31) (hX : yLay (tM t) (tT t) w q W H X) (hw : yOk (tn t) w q) (hW : W ≤ 400) (hH : H ≤ 200) (h5 : S 5 = nI (tM t)) (hI : dI t (tM t) (tM t) G) :
    ∀ (r v : Nat) (Q : Nat → Nat → Int64) (l4 l5 l6 l7 l8 : Value), v + r = tM t → sQ (tM t) X Q → (∀ u, u < tM t → (u = 0 ∨ tT t 8 u < v) → lQ X Q u) →
      ∃ Q', zres (d + 3) 105 163 [.ref 256, l1, l2, .int (nI v), l4, l5, l6, l7, l8] [] (zRh p S G Q) = some (none, zRh p S G Q') ∧ (∀ u, u < tM t → lQ X Q' u) ∧ sQ (tM t) X Q' := by
  have hwi : ∀ x, Value.category (.int x) = 1 := fun _ => rfl
  have hwj : Value.category zj = 1 := rfl
  have hT := tok ht
  have hM7 := hT.1.2.1
  intro r
  induction r with
  | zero =>
    intro v Q l4 l5 l6 l7 l8 hv hs hl
    obtain rfl : v = tM t := by omega
    have c1 : nI (tM t) ≤ nI (tM t) := nI_le (Nat.le_refl _) (by omega)
    refine ⟨Q, ?_, fun u hu => hl u hu (by
      by_cases z : u = 0
      · exact Or.inl z
      · exact Or.inr (by have := (hT.2.2.1 u hu (by omega)).1; omega)), hs⟩
    simp only [g105_163, g105_164, g105_165, g105_168, rg5, h5, c1, Option.bind_some, ↓reduceIte, g105_536]
  | succ r ih =>
    intro v Q l4 l5 l6 l7 l8 hv hs hl
    have hvM : v < tM t := by omega
    have hv8 : v < 8 := by omega
    have c1 : ¬ nI (tM t) ≤ nI v := nI_ge hvM (by omega)
    obtain ⟨⟨g3, g4, g5, g6⟩, -, g78⟩ := hI v hvM
    obtain ⟨g7, g8⟩ := g78 hvM
    have lv := hl v hvM (by
      by_cases z : v = 0
      · exact Or.inl z
      · exact Or.inr (hT.2.2.1 v hvM (by omega)).1)
    obtain ⟨v1, v2, v3, v4, -⟩ := id lv
    have pre : zres (d + 3) 105 163 [.ref 256, l1, l2, .int (nI v), l4, l5, l6, l7, l8] [] (zRh p S G Q) = zres (d + 3) 105 221 [.ref 256, l1, l2, .int (nI v), .long (if tT t 1 v = 2 then lN (rd1 (X 5 v) (X 7 v)) else lN (rd1 (X 2 v) (X 4 v))), zj, .long (if tT t 1 v = 2 then lN (rd2 (X 5 v) (X 7 v)) else lN (rd2 (X 2 v) (X 4 v))), zj, .int (G 8 v)] [] (zRh p S G Q) := by
      simp only [g105_163, g105_164, g105_165, g105_168, rg5, h5, c1, Option.bind_some, ↓reduceIte]
      simp only [g105_171, g105_172, g105_175, g105_176, g105_177, g105_179, g105_180, g105_183, g105_184, g105_185, g105_187, g105_188, g105_191, g105_192, g105_193, rg8, rg17, rg18, ra12 hv8, ra13 hv8, ra5 hv8, v1, v2, g5, hwi, hwj, Option.bind_some]
      by_cases c : tT t 1 v = 2
      · have k : nI (tT t 1 v) = 2 := by rw [c]; rfl
        rw [if_pos c, if_pos c]
        simp only [g105_194, k, not_true_eq_false, ↓reduceIte]
        simp only [g105_197, g105_198, g105_201, g105_202, g105_203, g105_205, g105_206, g105_209, g105_210, g105_211, g105_213, g105_214, g105_217, g105_218, g105_219, rg19, rg20, rg11, ra14 hv8, ra15 hv8, ra8 hv8, v3, v4, hwi, hwj, Option.bind_some]
      · have k : ¬ nI (tT t 1 v) = 2 := fun z => c (by
          have c4 : tT t 1 v ≤ 2 := by
            rcases (hT.2.1 v hvM).1 with y | y
            · have := y.1; omega
            · have := y.1; omega
          have := (nI_eq (a := tT t 1 v) (b := 2) (by omega) (by decide)).mp z
          omega)
        rw [if_neg c, if_neg c]
        simp only [g105_194, k, not_false_eq_true, ↓reduceIte]
        simp only [g105_213, g105_214, g105_217, g105_218, g105_219, rg11, ra8 hv8, hwi, hwj, Option.bind_some]
    rw [pre]
    rcases (hT.2.1 v hvM).1 with z | z
    · have e7 : G 7 v = 0 := by rw [g7, z.2.1]; rfl
      have ez : G 8 v + 0 = G 8 v := by grind
      have c2 : G 8 v ≤ G 8 v := Int32.le_iff_toInt_le.mpr (Int.le_refl _)
      obtain ⟨Q', o1, o2⟩ := ih (v + 1) Q (.long (if tT t 1 v = 2 then lN (rd1 (X 5 v) (X 7 v)) else lN (rd1 (X 2 v) (X 4 v)))) zj (.long (if tT t 1 v = 2 then lN (rd2 (X 5 v) (X 7 v)) else lN (rd2 (X 2 v) (X 4 v)))) zj (.int (G 8 v)) (by omega) hs (fun u hu hh => hl u hu (by
        rcases hh with y | y
        · exact Or.inl y
        · by_cases y0 : u = 0
          · exact Or.inl y0
          · refine Or.inr ?_
            have t8 := hT.2.2.1 u hu (by omega)
            have : tT t 8 u ≠ v := fun e => t8.2.2.2 (by rw [e]; exact z.1)
            omega))
      refine ⟨Q', ?_, o2⟩
      simp only [g105_221, g105_223, g105_224, g105_227, g105_228, g105_229, g105_230, g105_233, g105_234, g105_235, g105_236, rg10, rg11, ra7 hv8, ra8 hv8, e7, ez, c2, Option.bind_some, ↓reduceIte]
      simp only [g105_530, g105_533, hl2, hwi, nI_1]
      exact o1
    · have hc : ¬ tT t 1 v = 0 := by have := z.1; omega
      have z6 := z.2.2.2.1
      obtain ⟨gg1, gg2, -⟩ := yGo hT hX hw hvM
      obtain ⟨pp0, pp1, -⟩ := yPo hT hX hw hvM
      obtain ⟨Q1, x', y', l8', e1, e2, e3, e4⟩ := lays_in (p := p) (S := S) (l1 := l1) (l2 := l2) d hT hX hw hW hH hvM hc g5 g7 (g8 hc) (tT t 6 v) 0 Q (if tT t 1 v = 2 then lN (rd1 (X 5 v) (X 7 v)) else lN (rd1 (X 2 v) (X 4 v))) (if tT t 1 v = 2 then lN (rd2 (X 5 v) (X 7 v)) else lN (rd2 (X 2 v) (X 4 v))) (by omega) hs lv (fun _ => by
        rcases z.1 with c | c
        · obtain ⟨x2, -, x4, -⟩ := hX.2.2.2.2.1 v hvM c 0 z6
          rw [if_neg (show ¬ tT t 1 v = 2 by omega), if_neg (show ¬ tT t 1 v = 2 by omega), if_pos c, if_pos c, x2, x4]
          show lN (rd1 (X 2 v) (X 4 v)) = lN (rd1 (X 2 v * X 0 v + X 3 v * 0) (X 4 v * X 0 v)) ∧ lN (rd2 (X 2 v) (X 4 v)) = lN (rd2 (X 2 v * X 0 v + X 3 v * 0) (X 4 v * X 0 v))
          rw [Nat.mul_zero, Nat.add_zero, (rd_mul gg1 pp0).1, (rd_mul gg1 pp0).2]
          exact ⟨rfl, rfl⟩
        · obtain ⟨x2, -, x4, -⟩ := hX.2.2.2.2.2 v hvM c 0 z6
          rw [if_pos c, if_pos c, if_neg (show ¬ tT t 1 v = 1 by omega), if_neg (show ¬ tT t 1 v = 1 by omega), x2, x4]
          show lN (rd1 (X 5 v) (X 7 v)) = lN (rd1 (X 5 v * X 1 v + X 6 v * 0) (X 7 v * X 1 v)) ∧ lN (rd2 (X 5 v) (X 7 v)) = lN (rd2 (X 5 v * X 1 v + X 6 v * 0) (X 7 v * X 1 v))
          rw [Nat.mul_zero, Nat.add_zero, (rd_mul gg2 pp1).1, (rd_mul gg2 pp1).2]
          exact ⟨rfl, rfl⟩)
      rw [g8 hc, show nI (tT t 4 v) = nI (tT t 4 v + 0) from rfl, e1]
      obtain ⟨Q', o1, o2⟩ := ih (v + 1) Q1 (.long x') zj (.long y') zj (.int l8') (by omega) e3 (fun u hu hh => by
        by_cases y : tT t 4 v ≤ u ∧ u < tT t 4 v + tT t 6 v
        · have := e2 (u - tT t 4 v) (by omega) (by omega)
          rw [show tT t 4 v + (u - tT t 4 v) = u by omega] at this
          exact this
        · refine lQ_fr (hl u hu ?_) fun a ha _ => e4 a u ha (by omega)
          rcases hh with y0 | y0
          · exact Or.inl y0
          · by_cases y1 : u = 0
            · exact Or.inl y1
            · refine Or.inr ?_
              have t8 := hT.2.2.1 u hu (by omega)
              have : tT t 8 u ≠ v := fun e => by rw [e] at t8; omega
              omega)
      refine ⟨Q', ?_, o2⟩
      simp only [g105_530, g105_533, hl2, hwi, nI_1]
      exact o1
theorem c_lays (d : Nat) {t : Nat} {w q : Nat → Nat} {W H : Nat} {X : Nat → Nat → Nat} {Q : Nat → Nat → Int64} (ht : t < 31) (hX : yLay (tM t) (tT t) w q W H X) (hw : yOk (tn t) w q) (hW : W ≤ 400) (hH : H ≤ 200) (h5 : S 5 = nI (tM t)) (hI : dI t (tM t) (tM t) G) (hs : sQ (tM t) X Q) :
    ∃ Q', zcl (d + 4) 105 [.ref 256, .int (nI W), .int (nI H)] (zRh p S G Q) = some (none, zRh p S G Q') ∧ (∀ u, u < tM t → lQ X Q' u) ∧ sQ (tM t) X Q' := by
  have hwi : ∀ x, Value.category (.int x) = 1 := fun _ => rfl
  have z0 : zcs [] ≤ 8 := by decide
  have hT := tok ht
  have hM0 := hT.1.1
  have w12 : ∀ (Q : Nat → Nat → Int64) (x : Int64), zast 11 (zRh p S G Q) 268 0 (.long x) = some (zRh p S G (uq Q 12 0 x)) := fun Q x => rw12 (j := 0) (by decide)
  have w13 : ∀ (Q : Nat → Nat → Int64) (x : Int64), zast 11 (zRh p S G Q) 269 0 (.long x) = some (zRh p S G (uq Q 13 0 x)) := fun Q x => rw13 (j := 0) (by decide)
  have w14 : ∀ (Q : Nat → Nat → Int64) (x : Int64), zast 11 (zRh p S G Q) 270 0 (.long x) = some (zRh p S G (uq Q 14 0 x)) := fun Q x => rw14 (j := 0) (by decide)
  have w15 : ∀ (Q : Nat → Nat → Int64) (x : Int64), zast 11 (zRh p S G Q) 271 0 (.long x) = some (zRh p S G (uq Q 15 0 x)) := fun Q x => rw15 (j := 0) (by decide)
  have w16 : ∀ (Q : Nat → Nat → Int64) (x : Int64), zast 11 (zRh p S G Q) 272 0 (.long x) = some (zRh p S G (uq Q 16 0 x)) := fun Q x => rw16 (j := 0) (by decide)
  have w17 : ∀ (Q : Nat → Nat → Int64) (x : Int64), zast 11 (zRh p S G Q) 273 0 (.long x) = some (zRh p S G (uq Q 17 0 x)) := fun Q x => rw17 (j := 0) (by decide)
  have w18 : ∀ (Q : Nat → Nat → Int64) (x : Int64), zast 11 (zRh p S G Q) 274 0 (.long x) = some (zRh p S G (uq Q 18 0 x)) := fun Q x => rw18 (j := 0) (by decide)
  have w19 : ∀ (Q : Nat → Nat → Int64) (x : Int64), zast 11 (zRh p S G Q) 275 0 (.long x) = some (zRh p S G (uq Q 19 0 x)) := fun Q x => rw19 (j := 0) (by decide)
  have r10 : ∀ (Q : Nat → Nat → Int64), zald 11 (zRh p S G Q) 266 0 = some (.long (Q 10 0)) := fun Q => ra10 (j := 0) (by decide)
  have r11 : ∀ (Q : Nat → Nat → Int64), zald 11 (zRh p S G Q) 267 0 = some (.long (Q 11 0)) := fun Q => ra11 (j := 0) (by decide)
  obtain ⟨s10, s11⟩ := hs 0 hM0
  obtain ⟨b0, b1, b4, b7, b23, b56⟩ := yBd hT hX hw hW hH hM0
  obtain ⟨p0, p1, -⟩ := yPo hT hX hw hM0
  obtain ⟨x2, x3, x4, x5, x6, x7⟩ := hX.2.2.2.1
  have lW := nI_l (n := W) (by omega)
  have lH := nI_l (n := H) (by omega)
  have rl1 := @rd_le1 (X 0 0) (X 1 0)
  have rl2 := @rd_le2 (X 0 0) (X 1 0)
  have m1 : W * rd2 (X 0 0) (X 1 0) < 2 ^ 63 := Nat.lt_of_le_of_lt (Nat.mul_le_mul hW (show rd2 (X 0 0) (X 1 0) ≤ 2 ^ 31 by omega)) (by decide)
  have m2 : H * rd1 (X 0 0) (X 1 0) < 2 ^ 63 := Nat.lt_of_le_of_lt (Nat.mul_le_mul hH (show rd1 (X 0 0) (X 1 0) ≤ 2 ^ 31 by omega)) (by decide)
  have m3 : W * X 1 0 < 2 ^ 63 := Nat.lt_of_le_of_lt (Nat.mul_le_mul hW (show X 1 0 ≤ 2 ^ 31 by omega)) (by decide)
  have m4 : H * X 0 0 < 2 ^ 63 := Nat.lt_of_le_of_lt (Nat.mul_le_mul hH (show X 0 0 ≤ 2 ^ 31 by omega)) (by decide)
  have cmp : W * rd2 (X 0 0) (X 1 0) ≤ H * rd1 (X 0 0) (X 1 0) ↔ W * X 1 0 ≤ H * X 0 0 := by
    have hg := rd_g (u := X 0 0) p1
    have e1 : W * rd2 (X 0 0) (X 1 0) * Nat.gcd (X 0 0) (X 1 0) = W * X 1 0 := by rw [Nat.mul_assoc, rd_2]
    have e2 : H * rd1 (X 0 0) (X 1 0) * Nat.gcd (X 0 0) (X 1 0) = H * X 0 0 := by rw [Nat.mul_assoc, rd_1]
    constructor
    · intro z
      have := Nat.mul_le_mul_right (Nat.gcd (X 0 0) (X 1 0)) z
      rw [e1, e2] at this
      exact this
    · intro z
      rw [← e1, ← e2] at z
      exact Nat.le_of_mul_le_mul_right z hg
  rw [e105]
  simp only [g105_0, g105_1, g105_4, g105_5, g105_6, g105_7, g105_8, g105_11, g105_12, g105_13, g105_14, g105_15, g105_18, g105_19, g105_20, g105_21, g105_22, g105_25, g105_26, g105_27, g105_28, g105_29, g105_30, g105_31, g105_34, g105_35, g105_36, g105_37, g105_38, g105_39, g105_40, g105_43, g105_44, g105_45, g105_46, rg15, rg16, rg17, rg18, rg19, rg20, w12, w13, w14, w15, r10, r11, uq_n, ne_eq, Nat.reduceEqDiff, not_false_eq_true, s10, s11, lW, lH, lN_mul, Option.bind_some]
  by_cases full : W * X 1 0 ≤ H * X 0 0
  · have c1 : ¬ lN (H * rd1 (X 0 0) (X 1 0)) < lN (W * rd2 (X 0 0) (X 1 0)) := fun z => by
      have := (pk_lLT m2 m1).mp z
      have := cmp.mpr full
      omega
    rw [if_pos full] at x3 x4 x6 x7
    have s10' := s10
    have s11' := s11
    rw [← rd_sw2] at s10'
    rw [← rd_sw1] at s11'
    have tm : ∀ Q : Nat → Nat → Int64, zcl (d + 3) 103 [.ref 256, .long (lN W), .long 1, .long (lN (rd1 (X 1 0) (X 0 0))), .long (lN (rd2 (X 1 0) (X 0 0)))] (zRh p S G Q) = some (none, zRh p S G (qs Q (W * X 1 0) (X 0 0))) := fun Q => by
      have h := c_times (p := p) (S := S) (G := G) (Q := Q) d (l := W) (P := 1) (q := X 1 0) (R := X 0 0) (u := W * X 1 0) (V := X 0 0) (by decide) (by decide) (by omega) p0 (by omega) (by omega) p0 (by omega) m3 (by rw [Nat.one_mul, Nat.mul_comm])
      rw [(rd_n1 W).1, (rd_n1 W).2] at h
      exact h
    simp only [g105_47, lg_gt, c1, ↓reduceIte]
    simp only [g105_50, g105_51, g105_54, g105_55, g105_56, g105_57, g105_58, g105_59, g105_62, g105_63, g105_64, g105_65, g105_66, g105_67, g105_68, g105_69, g105_70, g105_73, g105_74, g105_75, g105_76, g105_79, g105_80, rg15, rg16, rg21, rg22, w16, w17, r10, r11, uq_n, ne_eq, Nat.reduceEqDiff, not_false_eq_true, s10', s11', lW, Option.bind_some]
    simp only [g105_81 z0 rb0, tm, Option.bind_some, Option.toList_none, List.nil_append]
    simp only [g105_84, g105_85, g105_88, g105_89, g105_90, g105_93, g105_94, g105_95, g105_98, g105_99, g105_100, g105_103, g105_104, g105_161, g105_162, rg13, rg14, rg23, rg24, w18, w19, qs_1, qs_2, uq_n, ne_eq, Nat.reduceEqDiff, not_false_eq_true, hwi, Option.bind_some]
    generalize hQ' : uq (uq (qs (uq (uq (uq (uq (uq (uq Q 12 0 0) 13 0 1) 14 0 0) 15 0 1) 16 0 (lN W)) 17 0 1) (W * X 1 0) (X 0 0)) 18 0 (lN (rd1 (W * X 1 0) (X 0 0)))) 19 0 (lN (rd2 (W * X 1 0) (X 0 0))) = Q'
    have lq : lQ X Q' 0 := by
      unfold lQ
      rw [x2, x3, x4, x5, x6, x7, (rd_z (P := 1) (by decide)).1, (rd_z (P := 1) (by decide)).2, (rd_z p0).1, (rd_z p0).2, (rd_n1 W).1, (rd_n1 W).2, ← hQ']
      refine ⟨?_, ?_, ?_, ?_, ?_, ?_, ?_, ?_⟩
      all_goals simp only [qs, uq_a, uq_n, ne_eq, Nat.reduceEqDiff, not_false_eq_true]
      all_goals rfl
    have q10 : Q' 10 = Q 10 ∧ Q' 11 = Q 11 := by
      rw [← hQ']
      refine ⟨?_, ?_⟩
      all_goals simp only [qs, uq_n, ne_eq, Nat.reduceEqDiff, not_false_eq_true]
    exact lays_loop d rfl ht hX hw hW hH h5 hI (tM t) 0 Q' zj zj zj zj zj (by omega) (fun v hv => by rw [q10.1, q10.2]; exact hs v hv) (fun u hu hh => by
      have : u = 0 := by omega
      subst this
      exact lq)
  · have c1 : lN (H * rd1 (X 0 0) (X 1 0)) < lN (W * rd2 (X 0 0) (X 1 0)) := (pk_lLT m2 m1).mpr (by
      have : ¬ W * rd2 (X 0 0) (X 1 0) ≤ H * rd1 (X 0 0) (X 1 0) := fun z => full (cmp.mp z)
      omega)
    rw [if_neg full] at x3 x4 x6 x7
    have tm : ∀ Q : Nat → Nat → Int64, zcl (d + 3) 103 [.ref 256, .long (lN H), .long 1, .long (lN (rd1 (X 0 0) (X 1 0))), .long (lN (rd2 (X 0 0) (X 1 0)))] (zRh p S G Q) = some (none, zRh p S G (qs Q (H * X 0 0) (X 1 0))) := fun Q => by
      have h := c_times (p := p) (S := S) (G := G) (Q := Q) d (l := H) (P := 1) (q := X 0 0) (R := X 1 0) (u := H * X 0 0) (V := X 1 0) (by decide) (by decide) (by omega) p1 (by omega) (by omega) p1 (by omega) m4 (by rw [Nat.one_mul, Nat.mul_comm])
      rw [(rd_n1 H).1, (rd_n1 H).2] at h
      exact h
    simp only [g105_47, lg_gt, c1, ↓reduceIte]
    simp only [g105_107, g105_108, g105_111, g105_112, g105_113, g105_114, g105_115, g105_116, g105_119, g105_120, g105_121, g105_122, g105_123, g105_124, g105_125, g105_126, g105_127, g105_130, g105_131, g105_132, g105_133, g105_136, g105_137, rg15, rg16, rg23, rg24, w18, w19, r10, r11, uq_n, ne_eq, Nat.reduceEqDiff, not_false_eq_true, s10, s11, lH, Option.bind_some]
    simp only [g105_138 z0 rb0, tm, Option.bind_some, Option.toList_none, List.nil_append]
    simp only [g105_141, g105_142, g105_145, g105_146, g105_147, g105_150, g105_151, g105_152, g105_155, g105_156, g105_157, g105_160, g105_161, g105_162, rg13, rg14, rg21, rg22, w16, w17, qs_1, qs_2, uq_n, ne_eq, Nat.reduceEqDiff, not_false_eq_true, hwi, Option.bind_some]
    generalize hQ' : uq (uq (qs (uq (uq (uq (uq (uq (uq Q 12 0 0) 13 0 1) 14 0 0) 15 0 1) 18 0 (lN H)) 19 0 1) (H * X 0 0) (X 1 0)) 16 0 (lN (rd1 (H * X 0 0) (X 1 0)))) 17 0 (lN (rd2 (H * X 0 0) (X 1 0))) = Q'
    have lq : lQ X Q' 0 := by
      unfold lQ
      rw [x2, x3, x4, x5, x6, x7, (rd_z (P := 1) (by decide)).1, (rd_z (P := 1) (by decide)).2, (rd_z p1).1, (rd_z p1).2, (rd_n1 H).1, (rd_n1 H).2, ← hQ']
      refine ⟨?_, ?_, ?_, ?_, ?_, ?_, ?_, ?_⟩
      all_goals simp only [qs, uq_a, uq_n, ne_eq, Nat.reduceEqDiff, not_false_eq_true]
      all_goals rfl
    have q10 : Q' 10 = Q 10 ∧ Q' 11 = Q 11 := by
      rw [← hQ']
      refine ⟨?_, ?_⟩
      all_goals simp only [qs, uq_n, ne_eq, Nat.reduceEqDiff, not_false_eq_true]
    exact lays_loop d rfl ht hX hw hW hH h5 hI (tM t) 0 Q' zj zj zj zj zj (by omega) (fun v hv => by rw [q10.1, q10.2]; exact hs v hv) (fun u hu hh => by
      have : u = 0 := by omega
      subst this
      exact lq)
end LAYS3
