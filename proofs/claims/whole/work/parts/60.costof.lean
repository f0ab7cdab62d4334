/-! costOf, bestOf of the reference -/
theorem l_sub_toInt {a b : Nat} (ha : a < 2 ^ 62) (hb : b < 2 ^ 62) : (lN a - lN b).toInt = (a : Int) - b := by
  rw [Int64.toInt_sub, pk_lT (by omega), pk_lT (by omega)]
  exact Int.bmod_eq_of_le (by omega) (by omega)
theorem l_sw (x y : Int64) : -(x - y) = y - x := by grind
section COSTOF
variable {p : ZP} {S : Nat → Int32} {G : Nat → Nat → Int32} {Q : Nat → Nat → Int64} {A : AV}
theorem ix352 (s i : Nat) : (3 : Int32) + 5 * (nI s + nI i) + 2 = nI (3 + 5 * (s + i) + 2) := by rw [nI_add, ix35, show (2 : Int32) = nI 2 from rfl, nI_add]
theorem c_costOf (d : Nat) {s m k : Nat} (hG : zGA (G 1) A) (hA : zVa A) (hF : zFe A.1 A.2.2.2 s m) (hk : k < th m) :
    ∃ S' G' Q', zcl (d + 6) 114 [.ref 256, .int (nI s), .int (nI m), .int (nI k)] (zRh p S G Q) = some (some (.int (nI (aC A s m k))), zRh p S' G' Q') ∧ dF S S' G G' := by
  have hwi : ∀ x, Value.category (.int x) = 1 := fun _ => rfl
  have hwj : Value.category zj = 1 := rfl
  have z0 : zcs [] ≤ 8 := by decide
  have zir : ∀ x y, zcs [.int x, .ref y] ≤ 8 := fun _ _ => Nat.le_of_ble_eq_true rfl
  have ziir : ∀ x w y, zcs [.int x, .int w, .ref y] ≤ 8 := fun _ _ _ => Nat.le_of_ble_eq_true rfl
  have zlir : ∀ x w y, zcs [.long x, .int w, .ref y] ≤ 8 := fun _ _ _ => Nat.le_of_ble_eq_true rfl
  have zilir : ∀ v x w y, zcs [.int v, .long x, .int w, .ref y] ≤ 8 := fun _ _ _ _ => Nat.le_of_ble_eq_true rfl
  obtain ⟨f1, f2, f3, f4⟩ := id hF
  have N12 := hA.1
  obtain ⟨t1, t2, t3⟩ := tft m (by omega) k hk
  have hT := tok t1
  have hX := yX_lay (w := fun i => pN A.2.2.2 (5 * (s + i))) (h := fun i => pN A.2.2.2 (5 * (s + i) + 1)) (W := aW A s) (H := A.2.2.1) hT
  have hw := aw_ok (s := s) (m := tn (tf m + k)) hA (by rw [t2]; exact f3)
  have hW := aW_le (s := s) hA
  have hH := hA.2.2.1.2
  obtain ⟨S1, G1, Q1, m1, m2, m3, m4, m5⟩ := c_makes (p := p) (S := S) (Q := Q) d hG hA hF hk
  have hG1 : zGA (G1 1) A := by rw [m2.2 1 (by omega)]; exact hG
  have hsum := aS_le hA f3 f2 hk
  have hWH := aWH_le (s := s) hA
  have hVp := aV_pos hA f3 f1
  have haC : aC A s m k = yCo (fun i => eA (aX A s m k) (tT (tf m + k) 12 i)) (fun i => pN A.2.2.2 (5 * (s + i) + 2)) (aW A s * A.2.2.1) m := rfl
  have hgu : ∀ i, i < m → G1 1 (3 + 5 * (s + i) + 2) = nI (pN A.2.2.2 (5 * (s + i) + 2)) ∧ pN A.2.2.2 (5 * (s + i) + 2) ≤ 9 := fun i hi => by
    obtain ⟨-, -, c3, -⟩ := zcan_w (hA.2.2.2 (s + i) (by omega))
    rw [Nat.add_assoc, hG1.2.2.2 _ (by omega)]
    exact ⟨c3.1, c3.2.2⟩
  generalize htt : tf m + k = t at *
  have hXd : aX A s m k = yX (tT t) (fun i => pN A.2.2.2 (5 * (s + i))) (fun i => pN A.2.2.2 (5 * (s + i) + 1)) (aW A s) A.2.2.1 := by rw [← htt]; rfl
  rw [← hXd] at hX
  generalize aX A s m k = X at *
  generalize hu : (fun i => pN A.2.2.2 (5 * (s + i) + 2)) = u at *
  have hgu' : ∀ i, i < m → G1 1 (3 + 5 * (s + i) + 2) = nI (u i) ∧ u i ≤ 9 := fun i hi => by rw [← hu]; exact hgu i hi
  generalize ha : (fun i => eA X (tT t 12 i)) = a at *
  have hai : ∀ i, a i = eA X (tT t 12 i) := fun i => by rw [← ha]
  have hal : ∀ i, i < m → a i ≤ 80000 := fun i hi => by
    have h1 := ysum_mono (f := a) (show i + 1 ≤ m by omega)
    have e : ysum a (i + 1) = ysum a i + a i := rfl
    omega
  have hV36 : ∀ j, j ≤ m → ysum u j ≤ 9 * j := by
    intro j
    induction j with
    | zero => intro _; exact Nat.le_refl _
    | succ j ih =>
      intro hj
      have h1 := (hgu' j (by omega)).2
      have h2 := ih (by omega)
      show ysum u j + u j ≤ 9 * (j + 1)
      omega
  have loop1 : ∀ (r i : Nat) (Q : Nat → Nat → Int64) (l9 l10 l11 l12 : Value), i + r = m → (∀ v, v < tM t → lQ X Q v) → (∀ j, j < i → Q 20 j = lN (a j)) →
      ∃ Q' l9', zres (d + 5) 114 16 [.ref 256, .int (nI s), .int (nI m), .int (nI k), .long (lN (ysum a i)), zj, .long (lN (ysum u i)), zj, .int (nI i), l9, l10, l11, l12] [] (zRh p S1 G1 Q) = zres (d + 5) 114 109 [.ref 256, .int (nI s), .int (nI m), .int (nI k), .long (lN (ysum a m)), zj, .long (lN (ysum u m)), zj, .int (nI m), l9', l10, l11, l12] [] (zRh p S1 G1 Q') ∧ ∀ j, j < m → Q' 20 j = lN (a j) := by
    intro r
    induction r with
    | zero =>
      intro i Q l9 l10 l11 l12 hi hl hq
      obtain rfl : i = m := by omega
      have c1 : nI i ≤ nI i := nI_le (Nat.le_refl _) (by omega)
      refine ⟨Q, l9, ?_, hq⟩
      simp only [g114_16, g114_18, g114_19, c1, ↓reduceIte]
    | succ r ih =>
      intro i Q l9 l10 l11 l12 hi hl hq
      have him : i < m := by omega
      have i4 : i < 4 := by omega
      have c1 : ¬ nI m ≤ nI i := nI_ge him (by omega)
      obtain ⟨la1, -⟩ := hT.2.2.2 i (by rw [t2]; exact him)
      have no := fun Q => c_nodeOf (p := p) (S := S1) (Q := Q) (d + 4) t1 (show i < tn t by rw [t2]; exact him) m3
      obtain ⟨QA, a1, a2⟩ := c_sideOf (p := p) (S := S1) (G := G1) (Q := Q) (d + 1) hT hX hw hW hH la1 (c := 2) (by decide) (hl _ la1)
      have lA := lQ_fr (Q' := QA) (hl _ la1) (fun b h1 _ => congrFun (a2 b (by omega)) _)
      obtain ⟨QB, b1, b2⟩ := c_sideOf (p := p) (S := S1) (G := G1) (Q := QA) (d + 1) hT hX hw hW hH la1 (c := 0) (by decide) lA
      have lB := lQ_fr (Q' := QB) lA (fun b h1 _ => congrFun (b2 b (by omega)) _)
      obtain ⟨QC, e1, e2⟩ := c_sideOf (p := p) (S := S1) (G := G1) (Q := QB) (d + 1) hT hX hw hW hH la1 (c := 3) (by decide) lB
      have lC := lQ_fr (Q' := QC) lB (fun b h1 _ => congrFun (e2 b (by omega)) _)
      obtain ⟨QD, g1, g2⟩ := c_sideOf (p := p) (S := S1) (G := G1) (Q := QC) (d + 1) hT hX hw hW hH la1 (c := 1) (by decide) lC
      have frD : ∀ b, b ≠ 0 → QD b = Q b := fun b hb => (g2 b hb).trans ((e2 b hb).trans ((b2 b hb).trans (a2 b hb)))
      have w2 := eE_2 hT hX hw la1
      have w3 := eE_3 hT hX hw la1
      have s1 : nI (eE X (tT t 12 i) 2) - nI (eE X (tT t 12 i) 0) = nI (eE X (tT t 12 i) 2 - eE X (tT t 12 i) 0) := pk_sub eE_02
      have s2 : nI (eE X (tT t 12 i) 3) - nI (eE X (tT t 12 i) 1) = nI (eE X (tT t 12 i) 3 - eE X (tT t 12 i) 1) := pk_sub eE_13
      have s3 := nI_l (n := eE X (tT t 12 i) 2 - eE X (tT t 12 i) 0) (by omega)
      have s4 := nI_l (n := eE X (tT t 12 i) 3 - eE X (tT t 12 i) 1) (by omega)
      have s5 : (eE X (tT t 12 i) 2 - eE X (tT t 12 i) 0) * (eE X (tT t 12 i) 3 - eE X (tT t 12 i) 1) = a i := (hai i).symm
      have gb : 3 + 5 * (s + i) + 2 < 63 := by omega
      have gu := (hgu' i him).1
      have lu := nI_l (n := u i) (by have := (hgu' i him).2; omega)
      obtain ⟨Q', l9', o1, o2⟩ := ih (i + 1) (uq QD 20 i (lN (a i))) (.int (nI (tT t 12 i))) l10 l11 l12 (by omega) (fun v hv => lQ_fr (hl v hv) fun b h1 h2 => by
          rw [uq_n (by omega)]
          exact congrFun (frD b (by omega)) v) (fun j hj => by
          by_cases z : j = i
          · rw [z, uq_a]
          · rw [uq_i z, frD 20 (by decide)]
            exact hq j (by omega))
      refine ⟨Q', l9', ?_, o2⟩
      have a1' : zcl (d + 5) 107 [.ref 256, .int (nI (tT t 12 i)), .int 2] (zRh p S1 G1 Q) = some (some (.int (nI (eE X (tT t 12 i) 2))), zRh p S1 G1 QA) := a1
      have b1' : zcl (d + 5) 107 [.ref 256, .int (nI (tT t 12 i)), .int 0] (zRh p S1 G1 QA) = some (some (.int (nI (eE X (tT t 12 i) 0))), zRh p S1 G1 QB) := b1
      have e1' : zcl (d + 5) 107 [.ref 256, .int (nI (tT t 12 i)), .int 3] (zRh p S1 G1 QB) = some (some (.int (nI (eE X (tT t 12 i) 3))), zRh p S1 G1 QC) := e1
      have g1' : zcl (d + 5) 107 [.ref 256, .int (nI (tT t 12 i)), .int 1] (zRh p S1 G1 QC) = some (some (.int (nI (eE X (tT t 12 i) 1))), zRh p S1 G1 QD) := g1
      simp only [g114_16, g114_18, g114_19, c1, ↓reduceIte]
      simp only [g114_22, g114_23, g114_25, g114_28, g114_30, g114_31, g114_34, g114_36, g114_37, g114_39, g114_40, rg25, no, a1', z0, zir, rb0, hwi, Option.bind_some, Option.toList_some, List.cons_append, List.nil_append]
      simp only [g114_43, g114_44, g114_46, g114_47, g114_50, g114_51, g114_52, g114_53, g114_55, g114_56, b1', e1', ziir, zlir, rb0, s1, s3, Option.bind_some, Option.toList_some, List.cons_append, List.nil_append]
      simp only [g114_59, g114_60, g114_62, g114_63, g114_66, g114_67, g114_68, g114_69, g1', zilir, rb0, s2, s4, lN_mul, s5, rw20 i4, Option.bind_some, Option.toList_some, List.cons_append, List.nil_append]
      simp only [g114_70, g114_72, g114_73, g114_76, g114_78, g114_79, g114_80, g114_82, g114_84, g114_85, g114_88, g114_89, g114_90, g114_91, g114_93, g114_94, g114_95, g114_96, g114_97, g114_98, g114_99, g114_100, g114_101, g114_103, g114_106, rg1, rg25, ra20 i4, uq_a, ix352, ra1 gb, gu, lu, lN_add, hwi, hwj, nI_1, Option.bind_some]
      exact o1
  have loop2 : ∀ (r i : Nat) (Q : Nat → Nat → Int64) (l11 l12 : Value), i + r = m → (∀ j, j < m → Q 20 j = lN (a j)) →
      zres (d + 5) 114 115 [.ref 256, .int (nI s), .int (nI m), .int (nI k), .long (lN (ysum a m)), zj, .long (lN (ysum u m)), zj, .long (lN (ysum (fun i => (a i * ysum u m - ysum a m * u i) + (ysum a m * u i - a i * ysum u m)) i)), zj, .int (nI i), l11, l12] [] (zRh p S1 G1 Q) = some (some (.int (nI (yCo a u (aW A s * A.2.2.1) m))), zRh p S1 G1 Q) := by
    intro r
    induction r with
    | zero =>
      intro i Q l11 l12 hi hq
      obtain rfl : i = m := by omega
      have c1 : nI i ≤ nI i := nI_le (Nat.le_refl _) (by omega)
      have pw := c_pageWide (p := p) (S := S1) (G := G1) (Q := Q) (d + 3) hG1 hA.1 (s := s) (by omega)
      have V36 := hV36 i (Nat.le_refl _)
      have hU := yU_le a u i
      have mm : 2 * ysum a i * ysum u i ≤ 2 * 80000 * 36 := Nat.mul_le_mul (by omega) (by omega)
      have dv := pk_lDiv (a := yU a u i) (b := ysum u i) (by omega) hVp (by omega)
      have n0 := lN_ne0 hVp (show ysum u i < 2 ^ 63 by omega)
      have l1 := nI_l (n := aW A s * A.2.2.1) (by omega)
      have l2 := lN_sub hsum
      simp only [g114_115, g114_117, g114_118, c1, ↓reduceIte]
      simp only [g114_179, g114_180, g114_181, g114_184, g114_185, g114_188, g114_189, g114_190, g114_191, g114_192, g114_194, g114_195, g114_197, g114_199, g114_200, g114_201, g114_202, rg1, ra1t, hG1.2.2.1, pw, z0, rb0, pk_mul, l1, l2, n0, not_false_eq_true, Option.bind_some, Option.toList_some, List.cons_append, List.nil_append]
      rw [show ysum (fun i_1 => a i_1 * ysum u i - ysum a i * u i_1 + (ysum a i * u i_1 - a i_1 * ysum u i)) i = yU a u i from rfl, dv, lN_add, lN_i]
      rfl
    | succ r ih =>
      intro i Q l11 l12 hi hq
      have him : i < m := by omega
      have i4 : i < 4 := by omega
      have c1 : ¬ nI m ≤ nI i := nI_ge him (by omega)
      have gb : 3 + 5 * (s + i) + 2 < 63 := by omega
      have gu := (hgu' i him).1
      have lu := nI_l (n := u i) (by have := (hgu' i him).2; omega)
      have V36 := hV36 m (Nat.le_refl _)
      have mb1 : a i * ysum u m ≤ 80000 * 36 := Nat.mul_le_mul (hal i him) (by omega)
      have mb2 : ysum a m * u i ≤ 80000 * 9 := Nat.mul_le_mul (by omega) (hgu' i him).2
      have st : ysum (fun i => (a i * ysum u m - ysum a m * u i) + (ysum a m * u i - a i * ysum u m)) (i + 1) = ysum (fun i => (a i * ysum u m - ysum a m * u i) + (ysum a m * u i - a i * ysum u m)) i + ((a i * ysum u m - ysum a m * u i) + (ysum a m * u i - a i * ysum u m)) := rfl
      simp only [g114_115, g114_117, g114_118, c1, ↓reduceIte]
      simp only [g114_121, g114_122, g114_125, g114_127, g114_128, g114_130, g114_131, g114_133, g114_134, g114_137, g114_138, g114_139, g114_140, g114_142, g114_143, g114_144, g114_145, g114_146, g114_147, g114_148, g114_149, g114_150, g114_151, g114_153, g114_155, g114_157, g114_158, rg1, rg25, ra20 i4, hq i him, ix352, ra1 gb, gu, lu, lN_mul, hwi, hwj, Option.bind_some]
      by_cases z : ysum a m * u i ≤ a i * ysum u m
      · have e1 : lN (a i * ysum u m) - lN (ysum a m * u i) = lN (a i * ysum u m - ysum a m * u i) := lN_sub z
        have e2 := lN_ge0 (a := a i * ysum u m - ysum a m * u i) (by omega)
        rw [show ysum a m * u i - a i * ysum u m = 0 by omega, Nat.add_zero] at st
        have := ih (i + 1) Q (.long (lN (a i * ysum u m - ysum a m * u i))) zj (by omega) hq
        rw [st] at this
        simp only [g114_159, e1, lg_ge, e2, ↓reduceIte]
        simp only [g114_168, g114_170, g114_171, g114_173, g114_176, lN_add, hwi, hwj, nI_1]
        exact this
      · have e2 : ¬ (0 : Int64) ≤ lN (a i * ysum u m) - lN (ysum a m * u i) := fun w => by
          rw [Int64.le_iff_toInt_le, l_sub_toInt (by omega) (by omega)] at w
          have e0 : (0 : Int64).toInt = 0 := rfl
          omega
        have e3 : -(lN (a i * ysum u m) - lN (ysum a m * u i)) = lN (ysum a m * u i - a i * ysum u m) := by rw [l_sw, lN_sub (by omega)]
        rw [show a i * ysum u m - ysum a m * u i = 0 by omega, Nat.zero_add] at st
        have := ih (i + 1) Q (.long (lN (a i * ysum u m) - lN (ysum a m * u i))) zj (by omega) hq
        rw [st] at this
        simp only [g114_159, lg_ge, e2, ↓reduceIte]
        simp only [g114_162, g114_164, g114_165, g114_170, g114_171, g114_173, g114_176, e3, lN_add, hwi, hwj, nI_1]
        exact this
  obtain ⟨Q2, l9', o1, o2⟩ := loop1 m 0 Q1 zj zj zj zj (by omega) m4 (fun j hj => by omega)
  have o3 := loop2 m 0 Q2 zj zj (by omega) o2
  refine ⟨S1, G1, Q2, ?_, m2⟩
  rw [e114]
  simp only [g114_0, g114_1, g114_2, g114_3, g114_4, g114_7, g114_8, g114_10, g114_11, g114_13, g114_14, m1, z0, rb0, hwi, hwj, Option.bind_some, Option.toList_none, List.nil_append]
  have o1' : zres (d + 5) 114 16 [.ref 256, .int (nI s), .int (nI m), .int (nI k), .long 0, zj, .long 0, zj, .int 0, zj, zj, zj, zj] [] (zRh p S1 G1 Q1) = zres (d + 5) 114 109 [.ref 256, .int (nI s), .int (nI m), .int (nI k), .long (lN (ysum a m)), zj, .long (lN (ysum u m)), zj, .int (nI m), l9', zj, zj, zj] [] (zRh p S1 G1 Q2) := o1
  rw [o1']
  simp only [g114_109, g114_110, g114_112, g114_113, hwi, hwj]
  rw [haC]
  exact o3
theorem c_bestOf (d : Nat) {s m : Nat} (hG : zGA (G 1) A) (hA : zVa A) (hF : zFe A.1 A.2.2.2 s m) :
    ∃ S' G' Q', zcl (d + 7) 116 [.ref 256, .int (nI s), .int (nI m)] (zRh p S G Q) = some (some (.int (nI (aB A s m))), zRh p S' G' Q') ∧ dF S S' G G' := by
  have hwi : ∀ x, Value.category (.int x) = 1 := fun _ => rfl
  have hwj : Value.category zj = 1 := rfl
  have z0 : zcs [] ≤ 8 := by decide
  have zi : ∀ x, zcs [.int x] ≤ 8 := fun _ => Nat.le_of_ble_eq_true rfl
  obtain ⟨f1, f2, f3, f4⟩ := id hF
  have hth := th_pos m (by omega) f1
  have htl := th_lt m (by omega)
  have hlt : ∀ k, k < th m → aC A s m k < 2 ^ 31 := fun k hk => by have := aC_le hA f3 f2 (by omega) hk; omega
  have loop : ∀ (r k : Nat) (S : Nat → Int32) (G : Nat → Nat → Int32) (Q : Nat → Nat → Int64), k + 1 + r = th m → zGA (G 1) A →
      ∃ S' G' Q', zres (d + 6) 116 5 [.ref 256, .int (nI s), .int (nI m), .int (nI (yBest (aC A s m) k)), .int (nI (k + 1))] [] (zRh p S G Q) = some (some (.int (nI (aB A s m))), zRh p S' G' Q') ∧ dF S S' G G' := by
    intro r
    induction r with
    | zero =>
      intro k S G Q hk hG
      have to := c_treesOf (p := p) (S := S) (G := G) (Q := Q) (d + 4) (n := m) (by omega) f1
      have c1 : nI (th m) ≤ nI (k + 1) := nI_le (by omega) (by omega)
      refine ⟨S, G, Q, ?_, dF_rf⟩
      simp only [g116_5, g116_7, g116_8, g116_9, g116_12, to, zi, rb0, c1, Option.bind_some, Option.toList_some, List.cons_append, List.nil_append, ↓reduceIte]
      simp only [g116_42, g116_43]
      rw [show k = th m - 1 by omega]
      rfl
    | succ r ih =>
      intro k S G Q hk hG
      have to := c_treesOf (p := p) (S := S) (G := G) (Q := Q) (d + 4) (n := m) (by omega) f1
      have c1 : ¬ nI (th m) ≤ nI (k + 1) := nI_ge (by omega) (by omega)
      have hb : yBest (aC A s m) k < th m := by have := yBest_le (aC A s m) k; omega
      obtain ⟨S1, G1, Q1, a1, a2⟩ := c_costOf (p := p) (S := S) (Q := Q) d hG hA hF (k := k + 1) (by omega)
      have hG1 : zGA (G1 1) A := by rw [a2.2 1 (by omega)]; exact hG
      obtain ⟨S2, G2, Q2, b1, b2⟩ := c_costOf (p := p) (S := S1) (Q := Q1) d hG1 hA hF (k := yBest (aC A s m) k) hb
      have hG2 : zGA (G2 1) A := by rw [b2.2 1 (by omega)]; exact hG1
      obtain ⟨S', G', Q', o1, o2⟩ := ih (k + 1) S2 G2 Q2 (by omega) hG2
      have ey : yBest (aC A s m) (k + 1) = if aC A s m (k + 1) < aC A s m (yBest (aC A s m) k) then k + 1 else yBest (aC A s m) k := rfl
      refine ⟨S', G', Q', ?_, dF_tr (dF_tr a2 b2) o2⟩
      simp only [g116_5, g116_7, g116_8, g116_9, g116_12, to, zi, rb0, c1, Option.bind_some, Option.toList_some, List.cons_append, List.nil_append, ↓reduceIte]
      simp only [g116_15, g116_16, g116_17, g116_18, g116_20, g116_23, g116_24, g116_25, g116_26, g116_27, a1, b1, zi, z0, rb0, Option.bind_some, Option.toList_some, List.cons_append, List.nil_append]
      by_cases lt : aC A s m (k + 1) < aC A s m (yBest (aC A s m) k)
      · rw [if_pos lt] at ey
        rw [ey] at o1
        have c2 : ¬ nI (aC A s m (yBest (aC A s m) k)) ≤ nI (aC A s m (k + 1)) := nI_ge lt (hlt _ hb)
        simp only [g116_30, c2, ↓reduceIte]
        simp only [g116_33, g116_35, g116_36, g116_39, hwi, nI_1]
        exact o1
      · rw [if_neg lt] at ey
        rw [ey] at o1
        have c2 : nI (aC A s m (yBest (aC A s m) k)) ≤ nI (aC A s m (k + 1)) := nI_le (by omega) (hlt _ (by omega))
        simp only [g116_30, c2, ↓reduceIte]
        simp only [g116_36, g116_39, hwi, nI_1]
        exact o1
  obtain ⟨S', G', Q', o1, o2⟩ := loop (th m - 1) 0 S G Q (by omega) hG
  refine ⟨S', G', Q', ?_, o2⟩
  rw [e116]
  simp only [g116_0, g116_1, g116_2, g116_3, hwi, hwj]
  exact o1
end COSTOF
