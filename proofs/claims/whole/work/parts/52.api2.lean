section API2
variable {A : AV} {P F : Nat} {e : Int32} {h : ZH}
theorem c_side (d : Nat) (h6 : h[6]? = some (zObj P F e)) (hA : zVa A) (hI : zShI h) (hV : zAv h 7 A) {s m k i c : Nat} (hF : zFe A.1 A.2.2.2 s m) (hk : k < th m) (hi : i < m) (hc : c < 4) :
    ∃ h', zcl (d + 4) 61 [.ref 6, .int (nI s), .int (nI m), .int (nI k), .int (nI i), .int (nI c)] h = some (some (.int (nI (eE (aX A s m k) (tT (tf m + k) 12 i) c))), h') ∧ zShI h' ∧ zShF h h' := by
  have z0 : zcs [] ≤ 8 := by decide
  have f1 := hF.1
  have f2 := hF.2.1
  obtain ⟨-, -, -, -, -, -, -, -, cn, cW, cH, le, sa, sb, h29⟩ := id hI
  have hb4 : (h[29]?).map (fun c => c.1) = some 4 := by rw [h29]; rfl
  obtain ⟨h1, fw, fq, fv, t1, t2, t3, t4, t5, t6, t7, t8⟩ := c_take d hI h29 hV hA.1 (by decide) hA.2.1.2 hF
  obtain ⟨h2, E, l1, l2, l3, l4, l5, -⟩ := c_layT d hA hF ⟨t2, t4, fw, fq, fv, t5, t6, t7, t8⟩ hk
  have ed := c_edge (d + 1) l2.2.1 l4 (show i < 4 by omega) hc
  rw [l5 i hi c hc] at ed
  have u0 : zget h 6 6 0 = some (.ref 7) := (zget_c h6).trans rfl
  have u3 : zget h 6 6 3 = some (.ref 29) := (zget_c h6).trans rfl
  have u3b : zget h1 6 6 3 = some (.ref 29) := (zget_c ((t3 6 (by omega)).trans h6)).trans rfl
  have u3c : zget h2 6 6 3 = some (.ref 29) := (zget_c ((l3 6 (by omega)).trans ((t3 6 (by omega)).trans h6))).trans rfl
  have hb5 : (h1[29]?).map (fun c => c.1) = some 4 := by rw [t4]; rfl
  have hb6 : (h2[29]?).map (fun c => c.1) = some 4 := by rw [l2.2.1]; rfl
  have em : nI m - 1 = nI (m - 1) := by rw [show (1 : Int32) = nI 1 from rfl]; exact pk_sub f1
  have w1 := c_within (d + 2) (nI i) 0 (nI (m - 1)) h
  rw [if_pos ⟨nI_pos' (by omega), nI_le (by omega) (by omega)⟩] at w1
  have w2 := c_within (d + 2) (nI c) 0 3 h
  rw [if_pos ⟨nI_pos' (by omega), show nI c ≤ nI 3 from nI_le (by omega) (by decide)⟩] at w2
  rw [e61]
  simp only [g61_0, g61_2, g61_3, g61_4, g61_5, g61_6, em, w1, z0, Option.bind_some, Option.toList_some, List.cons_append, List.nil_append]
  rw [g61_9, if_neg (by decide)]
  simp only [g61_12, g61_14, g61_15, g61_16, w2, z0, Option.bind_some, Option.toList_some, List.cons_append, List.nil_append]
  rw [g61_19, if_neg (by decide)]
  simp only [g61_22, g61_23, g61_26, g61_27, g61_30, g61_31, g61_32, u0, u3, t1, z0, hb4, Option.bind_some, Option.toList_some, List.cons_append, List.nil_append]
  rw [g61_35, if_neg (by decide)]
  simp only [g61_38, g61_39, g61_42, g61_43, u3b, l1, z0, hb5, Option.bind_some, Option.toList_some, List.cons_append, List.nil_append]
  rw [g61_46, if_pos (by decide)]
  simp only [g61_51, g61_52, g61_55, g61_57, g61_59, g61_62, u3c, ed, z0, hb6, Option.bind_some, Option.toList_some, List.cons_append, List.nil_append]
  exact ⟨h2, rfl, l2.1, zShF_tr t3 l3⟩
theorem c_side_no (d : Nat) (h6 : h[6]? = some (zObj P F e)) (hA : zVa A) (hI : zShI h) (hV : zAv h 7 A) {x y z w v : Int32} (hn : ¬ ∃ s m k i c, x = nI s ∧ y = nI m ∧ z = nI k ∧ w = nI i ∧ v = nI c ∧ zFe A.1 A.2.2.2 s m ∧ k < th m ∧ i < m ∧ c < 4) :
    ∃ h', zcl (d + 4) 61 [.ref 6, .int x, .int y, .int z, .int w, .int v] h = some (some (.int (-1)), h') ∧ zShI h' ∧ zShF h h' := by
  have z0 : zcs [] ≤ 8 := by decide
  obtain ⟨-, -, -, -, -, -, -, -, cn, cW, cH, le, sa, sb, h29⟩ := id hI
  have hb4 : (h[29]?).map (fun c => c.1) = some 4 := by rw [h29]; rfl
  have u0 : zget h 6 6 0 = some (.ref 7) := (zget_c h6).trans rfl
  have u3 : zget h 6 6 3 = some (.ref 29) := (zget_c h6).trans rfl
  have no : ∀ (L : List Value) (g : ZH), zres (d + 3) 61 49 L [] g = some (some (.int (-1)), g) := fun L g => by rw [g61_49, g61_50]
  rw [e61]
  simp only [g61_0, g61_2, g61_3, g61_4, g61_5, g61_6, c_within (d + 2), z0, Option.bind_some, Option.toList_some, List.cons_append, List.nil_append]
  by_cases q1 : 0 ≤ w ∧ w ≤ y - 1
  · rw [if_pos q1, g61_9, if_neg (by decide)]
    simp only [g61_12, g61_14, g61_15, g61_16, c_within (d + 2), z0, Option.bind_some, Option.toList_some, List.cons_append, List.nil_append]
    by_cases q2 : 0 ≤ v ∧ v ≤ 3
    · rw [if_pos q2, g61_19, if_neg (by decide)]
      by_cases q : ∃ s m, x = nI s ∧ y = nI m ∧ zFe A.1 A.2.2.2 s m
      · obtain ⟨s, m, rfl, rfl, hF⟩ := q
        have f1 := hF.1
        have f2 := hF.2.1
        obtain ⟨h1, fw, fq, fv, t1, t2, t3, t4, t5, t6, t7, t8⟩ := c_take d hI h29 hV hA.1 (by decide) hA.2.1.2 hF
        have u3b : zget h1 6 6 3 = some (.ref 29) := (zget_c ((t3 6 (by omega)).trans h6)).trans rfl
        have hb5 : (h1[29]?).map (fun c => c.1) = some 4 := by rw [t4]; rfl
        have tl := th_lt m (by omega)
        have em : nI m - 1 = nI (m - 1) := by rw [show (1 : Int32) = nI 1 from rfl]; exact pk_sub f1
        rw [em] at q1
        obtain ⟨i1, -, i2⟩ := i_rng (a := 0) (b := m - 1) (by decide) (by omega) q1.1 q1.2
        obtain ⟨c1, -, c2⟩ := i_rng (a := 0) (b := 3) (by decide) (by decide) q2.1 q2.2
        have no2 := c_lay_no d t2.1 t4 f2 (k := z) (fun g => hn (by
          obtain ⟨k, k1, rfl⟩ := nI_of (i_nlt.mpr g.1)
          exact ⟨s, m, k, w.toNatClampNeg, v.toNatClampNeg, rfl, rfl, rfl, i1, c1, hF, (nI_ltI k1 (by omega)).mp g.2, by omega, by omega⟩))
        simp only [g61_22, g61_23, g61_26, g61_27, g61_30, g61_31, g61_32, u0, u3, t1, z0, hb4, Option.bind_some, Option.toList_some, List.cons_append, List.nil_append]
        rw [g61_35, if_neg (by decide)]
        simp only [g61_38, g61_39, g61_42, g61_43, u3b, no2, z0, hb5, Option.bind_some, Option.toList_some, List.cons_append, List.nil_append]
        rw [g61_46, if_neg (by decide), no]
        exact ⟨h1, rfl, t2, t3⟩
      · obtain ⟨h1, t1, t2, t3, -⟩ := c_take_no d hI hV hA.1 (by decide) q
        simp only [g61_22, g61_23, g61_26, g61_27, g61_30, g61_31, g61_32, u0, u3, t1, z0, hb4, Option.bind_some, Option.toList_some, List.cons_append, List.nil_append]
        rw [g61_35, if_pos rfl, no]
        exact ⟨h1, rfl, t2, t3⟩
    · rw [if_neg q2, g61_19, if_pos rfl, no]
      exact ⟨h, rfl, hI, fun _ _ => rfl⟩
  · rw [if_neg q1, g61_9, if_pos rfl, no]
    exact ⟨h, rfl, hI, fun _ _ => rfl⟩
theorem c_shape (d : Nat) (h6 : h[6]? = some (zObj P F e)) (hA : zVa A) (hI : zShI h) (hV : zAv h 7 A) {s m k c : Nat} (hF : zFe A.1 A.2.2.2 s m) (hk : k < th m) (hc : c < 2) :
    ∃ h', zcl (d + 4) 60 [.ref 6, .int (nI s), .int (nI m), .int (nI k), .int (nI c)] h = some (some (.long (if c = 0 then lN (rd1 (aX A s m k 0 0) (aX A s m k 1 0)) else lN (rd2 (aX A s m k 0 0) (aX A s m k 1 0)))), h') ∧ zShI h' ∧ zShF h h' := by
  have z0 : zcs [] ≤ 8 := by decide
  have f1 := hF.1
  have f2 := hF.2.1
  obtain ⟨-, -, -, -, -, -, -, -, cn, cW, cH, le, sa, sb, h29⟩ := id hI
  have hb4 : (h[29]?).map (fun c => c.1) = some 4 := by rw [h29]; rfl
  obtain ⟨h1, fw, fq, fv, t1, t2, t3, t4, t5, t6, t7, t8⟩ := c_take d hI h29 hV hA.1 (by decide) hA.2.1.2 hF
  obtain ⟨h2, E, l1, l2, l3, -⟩ := c_layT d hA hF ⟨t2, t4, fw, fq, fv, t5, t6, t7, t8⟩ hk
  obtain ⟨r1, r2, r3⟩ := tft m (by omega) k hk
  have hT := tok r1
  rw [r2] at hT
  have hX := yX_lay (w := fun i => pN A.2.2.2 (5 * (s + i))) (h := fun i => pN A.2.2.2 (5 * (s + i) + 1)) (W := aW A s) (H := A.2.2.1) hT
  obtain ⟨b0, b1, -⟩ := yBd hT hX (aw_ok hA hF.2.2.1) (aW_le hA) hA.2.2.1.2 hT.1.1
  obtain ⟨p0, p1, -⟩ := yPo hT hX (aw_ok hA hF.2.2.1) hT.1.1
  have rs := c_reducedSide (d + 2) l2.2.1 b0 b1 p1 (nI c)
  have ec : (if nI c = 0 then lN (rd1 (aX A s m k 0 0) (aX A s m k 1 0)) else lN (rd2 (aX A s m k 0 0) (aX A s m k 1 0))) = (if c = 0 then lN (rd1 (aX A s m k 0 0) (aX A s m k 1 0)) else lN (rd2 (aX A s m k 0 0) (aX A s m k 1 0))) := by
    by_cases q : c = 0
    · subst q
      rw [if_pos nI_0, if_pos rfl]
    · rw [if_neg q, if_neg (nI_ne0 (by omega) (by omega))]
  rw [ec] at rs
  have u0 : zget h 6 6 0 = some (.ref 7) := (zget_c h6).trans rfl
  have u3 : zget h 6 6 3 = some (.ref 29) := (zget_c h6).trans rfl
  have u3b : zget h1 6 6 3 = some (.ref 29) := (zget_c ((t3 6 (by omega)).trans h6)).trans rfl
  have u3c : zget h2 6 6 3 = some (.ref 29) := (zget_c ((l3 6 (by omega)).trans ((t3 6 (by omega)).trans h6))).trans rfl
  have hb5 : (h1[29]?).map (fun c => c.1) = some 4 := by rw [t4]; rfl
  have hb6 : (h2[29]?).map (fun c => c.1) = some 4 := by rw [l2.2.1]; rfl
  have w2 := c_within (d + 2) (nI c) 0 1 h
  rw [if_pos ⟨nI_pos' (by omega), show nI c ≤ nI 1 from nI_le (by omega) (by decide)⟩] at w2
  rw [e60]
  simp only [g60_0, g60_2, g60_3, g60_4, w2, z0, Option.bind_some, Option.toList_some, List.cons_append, List.nil_append]
  rw [g60_7, if_neg (by decide)]
  simp only [g60_10, g60_11, g60_14, g60_15, g60_18, g60_19, g60_20, u0, u3, t1, z0, hb4, Option.bind_some, Option.toList_some, List.cons_append, List.nil_append]
  rw [g60_23, if_neg (by decide)]
  simp only [g60_26, g60_27, g60_30, g60_31, u3b, l1, z0, hb5, Option.bind_some, Option.toList_some, List.cons_append, List.nil_append]
  rw [g60_34, if_pos (by decide)]
  simp only [g60_41, g60_42, g60_45, g60_47, g60_50, u3c, rs, z0, hb6, Option.bind_some, Option.toList_some, List.cons_append, List.nil_append]
  exact ⟨h2, rfl, l2.1, zShF_tr t3 l3⟩
theorem c_shape_no (d : Nat) (h6 : h[6]? = some (zObj P F e)) (hA : zVa A) (hI : zShI h) (hV : zAv h 7 A) {x y z v : Int32} (hn : ¬ ∃ s m k c, x = nI s ∧ y = nI m ∧ z = nI k ∧ v = nI c ∧ zFe A.1 A.2.2.2 s m ∧ k < th m ∧ c < 2) :
    ∃ h', zcl (d + 4) 60 [.ref 6, .int x, .int y, .int z, .int v] h = some (some (.long (-1)), h') ∧ zShI h' ∧ zShF h h' := by
  have z0 : zcs [] ≤ 8 := by decide
  obtain ⟨-, -, -, -, -, -, -, -, cn, cW, cH, le, sa, sb, h29⟩ := id hI
  have hb4 : (h[29]?).map (fun c => c.1) = some 4 := by rw [h29]; rfl
  have u0 : zget h 6 6 0 = some (.ref 7) := (zget_c h6).trans rfl
  have u3 : zget h 6 6 3 = some (.ref 29) := (zget_c h6).trans rfl
  have no : ∀ (L : List Value) (g : ZH), zres (d + 3) 60 37 L [] g = some (some (.long (-1)), g) := fun L g => by rw [g60_37, g60_40]
  rw [e60]
  simp only [g60_0, g60_2, g60_3, g60_4, c_within (d + 2), z0, Option.bind_some, Option.toList_some, List.cons_append, List.nil_append]
  by_cases q2 : 0 ≤ v ∧ v ≤ 1
  · rw [if_pos q2, g60_7, if_neg (by decide)]
    by_cases q : ∃ s m, x = nI s ∧ y = nI m ∧ zFe A.1 A.2.2.2 s m
    · obtain ⟨s, m, rfl, rfl, hF⟩ := q
      have f1 := hF.1
      have f2 := hF.2.1
      obtain ⟨h1, fw, fq, fv, t1, t2, t3, t4, t5, t6, t7, t8⟩ := c_take d hI h29 hV hA.1 (by decide) hA.2.1.2 hF
      have u3b : zget h1 6 6 3 = some (.ref 29) := (zget_c ((t3 6 (by omega)).trans h6)).trans rfl
      have hb5 : (h1[29]?).map (fun c => c.1) = some 4 := by rw [t4]; rfl
      have tl := th_lt m (by omega)
      obtain ⟨c1, -, c2⟩ := i_rng (a := 0) (b := 1) (by decide) (by decide) q2.1 q2.2
      have no2 := c_lay_no d t2.1 t4 f2 (k := z) (fun g => hn (by
        obtain ⟨k, k1, rfl⟩ := nI_of (i_nlt.mpr g.1)
        exact ⟨s, m, k, v.toNatClampNeg, rfl, rfl, rfl, c1, hF, (nI_ltI k1 (by omega)).mp g.2, by omega⟩))
      simp only [g60_10, g60_11, g60_14, g60_15, g60_18, g60_19, g60_20, u0, u3, t1, z0, hb4, Option.bind_some, Option.toList_some, List.cons_append, List.nil_append]
      rw [g60_23, if_neg (by decide)]
      simp only [g60_26, g60_27, g60_30, g60_31, u3b, no2, z0, hb5, Option.bind_some, Option.toList_some, List.cons_append, List.nil_append]
      rw [g60_34, if_neg (by decide), no]
      exact ⟨h1, rfl, t2, t3⟩
    · obtain ⟨h1, t1, t2, t3, -⟩ := c_take_no d hI hV hA.1 (by decide) q
      simp only [g60_10, g60_11, g60_14, g60_15, g60_18, g60_19, g60_20, u0, u3, t1, z0, hb4, Option.bind_some, Option.toList_some, List.cons_append, List.nil_append]
      rw [g60_23, if_pos rfl, no]
      exact ⟨h1, rfl, t2, t3⟩
  · rw [if_neg q2, g60_7, if_pos rfl, no]
    exact ⟨h, rfl, hI, fun _ _ => rfl⟩
end API2
