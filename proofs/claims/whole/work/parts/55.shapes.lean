/-! THE SHAPES OF THE REFERENCE -/
theorem rd_sw1 (u P : Nat) : rd1 P u = rd2 u P := by
  unfold rd1 rd2
  rw [Nat.gcd_comm]
theorem rd_sw2 (u P : Nat) : rd2 P u = rd1 u P := by
  unfold rd1 rd2
  rw [Nat.gcd_comm]
theorem uq_a {Q : Nat → Nat → Int64} {a i : Nat} {x : Int64} : uq Q a i x a i = x := by rw [uq_s, pk_uLs]
theorem uq_i {Q : Nat → Nat → Int64} {a i c u : Nat} {x : Int64} (hu : u ≠ i) : uq Q a i x c u = Q c u := by
  by_cases z : c = a
  · subst z
    rw [uq_s, pk_uLn hu]
  · rw [uq_n z]
/-- the album in the reference's row -/
def zGA (g : Nat → Int32) (A : AV) : Prop := g 0 = nI A.1 ∧ g 1 = nI A.2.1 ∧ g 2 = nI A.2.2.1 ∧ ∀ j, j < 5 * A.1 → g (3 + j) = A.2.2.2 j
section SHAPES
variable {p : ZP} {S : Nat → Int32} {G : Nat → Nat → Int32} {Q : Nat → Nat → Int64}
theorem c_plus2 (d : Nat) {l P q R : Nat} (hP : 0 < P) (hR : 0 < R) (hV2 : P * R < 2 ^ 63) (hb : l * R + q * P < 2 ^ 63) : zcl (d + 3) 102 [.ref 256, .long (lN (rd1 l P)), .long (lN (rd2 l P)), .long (lN (rd1 q R)), .long (lN (rd2 q R))] (zRh p S G Q) = some (none, zRh p S G (qs Q (l * R + q * P) (P * R))) := by
  have h := c_plus (p := p) (S := S) (G := G) (Q := Q) d (l := l * R) (q := q * P) (V := P * R) (Nat.mul_pos hP hR) hV2 hb
  rw [(rd_mul hP hR).1, (rd_mul hP hR).2, Nat.mul_comm P R, (rd_mul hR hP).1, (rd_mul hR hP).2] at h
  rw [Nat.mul_comm P R]
  exact h
theorem y_acb {M n : Nat} {T : Nat → Nat → Nat} {w q : Nat → Nat} {W H : Nat} {X : Nat → Nat → Nat} (hT : zTok M n T) (hX : yLay M T w q W H X) (hw : yOk n w q) {v : Nat} (hv : v < M) (hc : ¬ T 1 v = 0) : ∀ j, j ≤ T 6 v → (y_ac (X 0) (X 1) (T 4 v) j).1 < 2 ^ 31 ∧ (y_ac (X 0) (X 1) (T 4 v) j).2 < 2 ^ 31 ∧ 0 < (y_ac (X 0) (X 1) (T 4 v) j).2 ∧ (y_ac (X 1) (X 0) (T 4 v) j).1 < 2 ^ 31 ∧ (y_ac (X 1) (X 0) (T 4 v) j).2 < 2 ^ 31 ∧ 0 < (y_ac (X 1) (X 0) (T 4 v) j).2 := by
  intro j hj
  obtain ⟨q1, q2, q3, q4, q5, q6, q7⟩ := y_cut hT hv hc
  have t0 := (hT.2.1 v hv).2.2.2.2.1
  match j, hj with
  | 0, _ =>
    show (0 : Nat) < 2 ^ 31 ∧ (1 : Nat) < 2 ^ 31 ∧ (0 : Nat) < 1 ∧ (0 : Nat) < 2 ^ 31 ∧ (1 : Nat) < 2 ^ 31 ∧ (0 : Nat) < 1
    decide
  | j + 1, hj =>
    have hp : ∀ i, i < j + 1 → 0 < X 0 (T 4 v + i) ∧ 0 < X 1 (T 4 v + i) ∧ 2 * X 0 (T 4 v + i) ≤ 24 ^ T 0 (T 4 v + i) ∧ 2 * X 1 (T 4 v + i) ≤ 24 ^ T 0 (T 4 v + i) := fun i hi => yPo hT hX hw (by omega)
    have a1 := y_ac_ok (x := X 0) (y := X 1) (s := fun i => T 0 (T 4 v + i)) (p := T 4 v) j hp
    have a2 := y_ac_ok (x := X 1) (y := X 0) (s := fun i => T 0 (T 4 v + i)) (p := T 4 v) j (fun i hi => ⟨(hp i hi).2.1, (hp i hi).1, (hp i hi).2.2.2, (hp i hi).2.2.1⟩)
    have m := ysum_mono (f := fun i => T 0 (T 4 v + i)) (show j + 1 ≤ T 6 v by omega)
    have b : 24 ^ ysum (fun i => T 0 (T 4 v + i)) (j + 1) ≤ 24 ^ 4 := Nat.pow_le_pow_right (by decide) (by omega)
    have k : 24 ^ 4 < 2 ^ 31 := by decide
    exact ⟨by omega, by omega, a1.2.1, by omega, by omega, a2.2.1⟩
theorem c_shapes (d : Nat) {t s : Nat} {A : AV} {W H : Nat} {X : Nat → Nat → Nat} (ht : t < 31) (hA : zVa A) (hs : s + tn t ≤ A.1) (hX : yLay (tM t) (tT t) (fun i => pN A.2.2.2 (5 * (s + i))) (fun i => pN A.2.2.2 (5 * (s + i) + 1)) W H X) (hG : zGA (G 1) A) (h5 : S 5 = nI (tM t)) (hI : dI t (tM t) (tM t) G) :
    ∃ Q', zcl (d + 4) 104 [.ref 256, .int (nI s)] (zRh p S G Q) = some (none, zRh p S G Q') ∧ ∀ v, v < tM t → Q' 10 v = lN (rd1 (X 0 v) (X 1 v)) ∧ Q' 11 v = lN (rd2 (X 0 v) (X 1 v)) := by
  have hwi : ∀ x, Value.category (.int x) = 1 := fun _ => rfl
  have hwj : Value.category zj = 1 := rfl
  have z0 : zcs [] ≤ 8 := by decide
  have hT := tok ht
  have hM7 := hT.1.2.1
  have hn4 := hT.1.2.2.2.2.2.1
  have hw := aw_ok hA hs
  have hN12 := hA.1
  have fin : ∀ (v : Nat) (l3 : Value) (Q : Nat → Nat → Int64), v < tM t → Q 0 13 = lN (rd1 (X 0 v) (X 1 v)) → Q 0 14 = lN (rd2 (X 0 v) (X 1 v)) → zres (d + 3) 104 177 [.ref 256, .int (nI s), .int (nI v), l3] [] (zRh p S G Q) = zres (d + 3) 104 7 [.ref 256, .int (nI s), .int (nI v + -1), l3] [] (zRh p S G (uq (uq Q 10 v (lN (rd1 (X 0 v) (X 1 v)))) 11 v (lN (rd2 (X 0 v) (X 1 v))))) := by
    intro v l3 Q hv e1 e2
    have hv8 : v < 8 := by omega
    have e3 : ∀ x, uq Q 10 v x 0 14 = lN (rd2 (X 0 v) (X 1 v)) := fun x => by rw [uq_n (by decide)]; exact e2
    simp only [g104_177, g104_178, g104_181, g104_182, g104_183, g104_186, g104_187, g104_188, g104_191, g104_192, g104_193, g104_196, g104_197, g104_200, rg15, rg16, rg13, rg14, rw10 hv8, rw11 hv8, e1, e3, hwi, Option.bind_some]
  have loop : ∀ (j : Nat) (Q : Nat → Nat → Int64) (l3 : Value), j ≤ tM t → (∀ v, v < tM t → j ≤ v → Q 10 v = lN (rd1 (X 0 v) (X 1 v)) ∧ Q 11 v = lN (rd2 (X 0 v) (X 1 v))) →
      ∃ Q', zres (d + 3) 104 7 [.ref 256, .int (nI s), .int (nI j + -1), l3] [] (zRh p S G Q) = some (none, zRh p S G Q') ∧ ∀ v, v < tM t → Q' 10 v = lN (rd1 (X 0 v) (X 1 v)) ∧ Q' 11 v = lN (rd2 (X 0 v) (X 1 v)) := by
    intro j
    induction j with
    | zero =>
      intro Q l3 hj hQ
      have c1 : nI 0 + -1 < 0 := by decide
      refine ⟨Q, ?_, fun v hv => hQ v hv (by omega)⟩
      simp only [g104_7, g104_8, c1, ↓reduceIte, g104_203]
    | succ v ih =>
      intro Q l3 hj hQ
      have hv : v < tM t := by omega
      have hv8 : v < 8 := by omega
      have c1 : ¬ nI v < 0 := nI_pos (by omega)
      have gv := (hI v hv).1
      rw [pk_m1]
      -- what is left once above / below are right
      have goOn : ∀ (Q2 : Nat → Nat → Int64) (l : Value), Q2 0 13 = lN (rd1 (X 0 v) (X 1 v)) → Q2 0 14 = lN (rd2 (X 0 v) (X 1 v)) → (∀ a, a ≠ 0 → Q2 a = Q a) → ∃ Q', zres (d + 3) 104 177 [.ref 256, .int (nI s), .int (nI v), l] [] (zRh p S G Q2) = some (none, zRh p S G Q') ∧ ∀ v, v < tM t → Q' 10 v = lN (rd1 (X 0 v) (X 1 v)) ∧ Q' 11 v = lN (rd2 (X 0 v) (X 1 v)) := by
        intro Q2 l e1 e2 e3
        rw [fin v l Q2 hv e1 e2]
        refine ih _ l (by omega) fun u hu hl => ?_
        by_cases z : u = v
        · subst z
          rw [uq_n (show 10 ≠ 11 by decide), uq_a, uq_a]
          exact ⟨rfl, rfl⟩
        · rw [uq_i z, uq_i z, uq_i z, uq_i z, e3 10 (by decide), e3 11 (by decide)]
          exact hQ u hu (by omega)
      rcases (hT.2.1 v hv).1 with z | z
      · have e0 : nI (tT t 0 v) = 1 := by rw [z.2.2.1]; rfl
        have s3 := z.2.2.2.2.1
        obtain ⟨x0, x1⟩ := hX.1 v hv z.1
        have ix : (3 : Int32) + 5 * (nI s + nI (tT t 3 v)) = nI (3 + 5 * (s + tT t 3 v)) := by rw [nI_add, show (5 : Int32) = nI 5 from rfl, pk_mul, show (3 : Int32) = nI 3 from rfl, nI_add]
        have b1 : 3 + 5 * (s + tT t 3 v) < 63 := by omega
        have b2 : 3 + 5 * (s + tT t 3 v) + 1 < 63 := by omega
        obtain ⟨cw, ch, -⟩ := zcan_w (hA.2.2.2 (s + tT t 3 v) (by omega))
        have g1 : G 1 (3 + 5 * (s + tT t 3 v)) = nI (X 0 v) := by rw [hG.2.2.2 _ (by omega), x0]; exact cw.1
        have g2 : G 1 (3 + 5 * (s + tT t 3 v) + 1) = nI (X 1 v) := by rw [Nat.add_assoc, hG.2.2.2 _ (by omega), x1]; exact ch.1
        obtain ⟨w1, w2, w3, w4⟩ := hw (tT t 3 v) s3
        have wb : X 0 v ≤ 12 ∧ 0 < X 1 v ∧ X 1 v ≤ 12 := by rw [x0, x1]; exact ⟨w2, w3, w4⟩
        have l1 := nI_l (n := X 0 v) (by omega)
        have l2 := nI_l (n := X 1 v) (by omega)
        have sh := c_share (p := p) (S := S) (G := G) (Q := Q) (d + 1) (u := X 0 v) (P := X 1 v) (by omega) wb.2.1 (by omega)
        obtain ⟨Q', o1, o2⟩ := goOn (qs Q (X 0 v) (X 1 v)) (.int (nI (3 + 5 * (s + tT t 3 v)))) qs_1 qs_2 (fun a ha => qs_n ha)
        refine ⟨Q', ?_, o2⟩
        simp only [g104_7, g104_8, c1, ↓reduceIte]
        simp only [g104_11, g104_12, g104_15, g104_16, g104_17, g104_18, rg6, ra3 hv8, gv.1, e0, Option.bind_some, not_true_eq_false, ↓reduceIte]
        simp only [g104_21, g104_22, g104_23, g104_24, g104_25, g104_28, g104_29, g104_30, g104_31, g104_32, g104_33, g104_34, g104_35, g104_36, g104_39, g104_40, g104_41, g104_42, g104_43, g104_46, g104_47, g104_48, g104_49, g104_50, g104_51, g104_54, rg1, rg7, ra4 hv8, gv.2.1, ix, ra1 b1, ra1 b2, g1, g2, nI_1, l1, l2, sh, z0, rb0, hwi, Option.bind_some, Option.toList_none, List.nil_append]
        exact o1
      · have hc0 : ¬ tT t 1 v = 0 := by have := z.1; omega
        have e0 : ¬ nI (tT t 0 v) = 1 := fun w => by
          have h2 := z.2.1
          have h4 := (hT.2.1 v hv).2.2.2.2.1
          have := (nI_eq (a := tT t 0 v) (b := 1) (by omega) (by decide)).mp w
          omega
        obtain ⟨q1, q2, q3, q4, q5, q6, q7⟩ := z
        have g7 := (hI v hv).2.2 hv
        have g8 := g7.2 hc0
        have ab := y_acb hT hX hw hv hc0
        have sh0 : zcl (d + 3) 101 [.ref 256, .long 0, .long 1] (zRh p S G Q) = some (none, zRh p S G (qs Q 0 1)) := c_share (d + 1) (u := 0) (P := 1) (by decide) (by decide) (by decide)
        have pre : zres (d + 3) 104 7 [.ref 256, .int (nI s), .int (nI v), l3] [] (zRh p S G Q) = zres (d + 3) 104 70 [.ref 256, .int (nI s), .int (nI v), .int (nI (tT t 4 v))] [] (zRh p S G (qs Q 0 1)) := by
          simp only [g104_7, g104_8, c1, ↓reduceIte]
          simp only [g104_11, g104_12, g104_15, g104_16, g104_17, g104_18, rg6, ra3 hv8, gv.1, e0, Option.bind_some, not_false_eq_true, ↓reduceIte]
          simp only [g104_57, g104_58, g104_59, g104_60, g104_63, g104_64, g104_67, g104_68, g104_69, rg11, ra8 hv8, g8, sh0, z0, rb0, hwi, Option.bind_some, Option.toList_none, List.nil_append]
        have inner : ∀ (c : Nat) (x y : Nat → Nat), tT t 1 v = c → (∀ i, i < tT t 6 v → (if c = 1 then Q 10 (tT t 4 v + i) else Q 11 (tT t 4 v + i)) = lN (rd1 (x (tT t 4 v + i)) (y (tT t 4 v + i))) ∧ (if c = 1 then Q 11 (tT t 4 v + i) else Q 10 (tT t 4 v + i)) = lN (rd2 (x (tT t 4 v + i)) (y (tT t 4 v + i))) ∧ 0 < y (tT t 4 v + i)) → (∀ j, j ≤ tT t 6 v → (y_ac x y (tT t 4 v) j).1 < 2 ^ 31 ∧ (y_ac x y (tT t 4 v) j).2 < 2 ^ 31 ∧ 0 < (y_ac x y (tT t 4 v) j).2) →
            ∀ (r i : Nat) (Q2 : Nat → Nat → Int64), i + r = tT t 6 v → Q2 0 13 = lN (rd1 (y_ac x y (tT t 4 v) i).1 (y_ac x y (tT t 4 v) i).2) → Q2 0 14 = lN (rd2 (y_ac x y (tT t 4 v) i).1 (y_ac x y (tT t 4 v) i).2) → (∀ a, a ≠ 0 → Q2 a = Q a) →
            ∃ Q3 l, zres (d + 3) 104 70 [.ref 256, .int (nI s), .int (nI v), .int (nI (tT t 4 v + i))] [] (zRh p S G Q2) = zres (d + 3) 104 155 [.ref 256, .int (nI s), .int (nI v), .int l] [] (zRh p S G Q3) ∧ Q3 0 13 = lN (rd1 (y_ac x y (tT t 4 v) (tT t 6 v)).1 (y_ac x y (tT t 4 v) (tT t 6 v)).2) ∧ Q3 0 14 = lN (rd2 (y_ac x y (tT t 4 v) (tT t 6 v)).1 (y_ac x y (tT t 4 v) (tT t 6 v)).2) ∧ ∀ a, a ≠ 0 → Q3 a = Q a := by
          intro c x y hc hxy hb r
          induction r with
          | zero =>
            intro i Q2 hi e1 e2 e3
            obtain rfl : i = tT t 6 v := by omega
            have c2 : nI (tT t 4 v + tT t 6 v) ≤ nI (tT t 4 v + tT t 6 v) := nI_le (Nat.le_refl _) (by omega)
            refine ⟨Q2, nI (tT t 4 v + tT t 6 v), ?_, e1, e2, e3⟩
            simp only [g104_70, g104_71, g104_72, g104_75, g104_76, g104_77, g104_78, g104_81, g104_82, g104_83, g104_84, rg10, rg11, ra7 hv8, ra8 hv8, g8, g7.1, nI_add, c2, Option.bind_some, ↓reduceIte]
          | succ r ih2 =>
            intro i Q2 hi e1 e2 e3
            have hi6 : i < tT t 6 v := by omega
            have i8 : tT t 4 v + i < 8 := by omega
            have c2 : ¬ nI (tT t 4 v + tT t 6 v) ≤ nI (tT t 4 v + i) := nI_ge (by omega) (by omega)
            obtain ⟨u1, u2, u3⟩ := hxy i hi6
            obtain ⟨b1, b2, b3⟩ := hb (i + 1) (by omega)
            obtain ⟨b4, b5, b6⟩ := hb i (by omega)
            have pl := c_plus2 (p := p) (S := S) (G := G) (Q := Q2) d (l := (y_ac x y (tT t 4 v) i).1) (P := (y_ac x y (tT t 4 v) i).2) (q := x (tT t 4 v + i)) (R := y (tT t 4 v + i)) b6 u3 (Nat.lt_trans b2 (by decide)) (Nat.lt_trans b1 (by decide))
            obtain ⟨Q3, l, o1, o2⟩ := ih2 (i + 1) (qs Q2 ((y_ac x y (tT t 4 v) i).1 * y (tT t 4 v + i) + x (tT t 4 v + i) * (y_ac x y (tT t 4 v) i).2) ((y_ac x y (tT t 4 v) i).2 * y (tT t 4 v + i))) (by omega) qs_1 qs_2 (fun a ha => (qs_n ha).trans (e3 a ha))
            refine ⟨Q3, l, ?_, o2⟩
            have e10 : Q2 10 = Q 10 := e3 10 (by decide)
            have e11 : Q2 11 = Q 11 := e3 11 (by decide)
            simp only [g104_70, g104_71, g104_72, g104_75, g104_76, g104_77, g104_78, g104_81, g104_82, g104_83, g104_84, rg10, rg11, ra7 hv8, ra8 hv8, g8, g7.1, nI_add, c2, Option.bind_some, ↓reduceIte]
            by_cases cc : c = 1
            · rw [if_pos cc] at u1 u2
              have k1 : nI (tT t 1 v) = 1 := by rw [hc, cc]; rfl
              simp only [g104_87, g104_88, g104_89, g104_92, g104_93, g104_96, g104_97, g104_100, g104_101, g104_102, g104_103, rg13, rg14, rg8, ra5 hv8, gv.2.2.1, k1, e1, e2, Option.bind_some, not_true_eq_false, ↓reduceIte]
              simp only [g104_106, g104_107, g104_110, g104_111, g104_112, g104_121, g104_122, g104_125, g104_126, g104_127, g104_128, rg15, rg8, ra10 i8, ra5 hv8, gv.2.2.1, k1, e10, u1, Option.bind_some, not_true_eq_false, ↓reduceIte]
              simp only [g104_131, g104_132, g104_135, g104_136, g104_137, g104_146, g104_149, g104_152, rg16, ra11 i8, e11, u2, pl, z0, rb0, hwi, nI_1, Option.bind_some, Option.toList_none, List.nil_append]
              exact o1
            · rw [if_neg cc] at u1 u2
              have k1 : ¬ nI (tT t 1 v) = 1 := fun w => cc (by
                have := (nI_eq (a := tT t 1 v) (b := 1) (by omega) (by decide)).mp w
                omega)
              simp only [g104_87, g104_88, g104_89, g104_92, g104_93, g104_96, g104_97, g104_100, g104_101, g104_102, g104_103, rg13, rg14, rg8, ra5 hv8, gv.2.2.1, k1, e1, e2, Option.bind_some, not_false_eq_true, ↓reduceIte]
              simp only [g104_115, g104_116, g104_119, g104_120, g104_121, g104_122, g104_125, g104_126, g104_127, g104_128, rg16, rg8, ra11 i8, ra5 hv8, gv.2.2.1, k1, e11, u1, Option.bind_some, not_false_eq_true, ↓reduceIte]
              simp only [g104_140, g104_141, g104_144, g104_145, g104_146, g104_149, g104_152, rg15, ra10 i8, e10, u2, pl, z0, rb0, hwi, nI_1, Option.bind_some, Option.toList_none, List.nil_append]
              exact o1
        rw [pre]
        have ini1 : qs Q 0 1 0 13 = lN (rd1 0 1) := qs_1
        have ini2 : qs Q 0 1 0 14 = lN (rd2 0 1) := qs_2
        rcases q1 with c | c
        · obtain ⟨x0, x1⟩ := hX.2.1 v hv c
          obtain ⟨Q3, l, o1, o2, o3, o4⟩ := inner 1 (X 0) (X 1) c (fun i hi => ⟨by rw [if_pos rfl]; exact (hQ _ (by omega) (by omega)).1, by rw [if_pos rfl]; exact (hQ _ (by omega) (by omega)).2, (yPo hT hX hw (show tT t 4 v + i < tM t by omega)).2.1⟩) (fun j hj => ⟨(ab j hj).1, (ab j hj).2.1, (ab j hj).2.2.1⟩) (tT t 6 v) 0 (qs Q 0 1) (by omega) ini1 ini2 (fun a ha => qs_n ha)
          rw [← x0, ← x1] at o2 o3
          obtain ⟨Q', f1, f2⟩ := goOn Q3 (.int l) o2 o3 o4
          refine ⟨Q', ?_, f2⟩
          have k2 : ¬ nI (tT t 1 v) = 2 := by rw [c]; decide
          have o1' : zres (d + 3) 104 70 [.ref 256, .int (nI s), .int (nI v), .int (nI (tT t 4 v))] [] (zRh p S G (qs Q 0 1)) = _ := o1
          rw [o1']
          simp only [g104_155, g104_156, g104_159, g104_160, g104_161, g104_162, rg8, ra5 hv8, gv.2.2.1, k2, Option.bind_some, not_false_eq_true, ↓reduceIte]
          exact f1
        · obtain ⟨x0, x1⟩ := hX.2.2.1 v hv c
          obtain ⟨Q3, l, o1, o2, o3, o4⟩ := inner 2 (X 1) (X 0) c (fun i hi => ⟨by rw [if_neg (by decide), rd_sw1]; exact (hQ _ (by omega) (by omega)).2, by rw [if_neg (by decide), rd_sw2]; exact (hQ _ (by omega) (by omega)).1, (yPo hT hX hw (show tT t 4 v + i < tM t by omega)).1⟩) (fun j hj => ⟨(ab j hj).2.2.2.1, (ab j hj).2.2.2.2.1, (ab j hj).2.2.2.2.2⟩) (tT t 6 v) 0 (qs Q 0 1) (by omega) ini1 ini2 (fun a ha => qs_n ha)
          rw [← x0, ← x1] at o2 o3
          obtain ⟨p0, p1, -⟩ := yPo hT hX hw hv
          obtain ⟨bd0, bd1⟩ := ab (tT t 6 v) (Nat.le_refl _)
          have lt0 : X 0 v < 2 ^ 63 := by rw [x0]; exact Nat.lt_trans (ab (tT t 6 v) (Nat.le_refl _)).2.2.2.2.1 (by decide)
          have lt1 : X 1 v < 2 ^ 63 := by rw [x1]; exact Nat.lt_trans (ab (tT t 6 v) (Nat.le_refl _)).2.2.2.1 (by decide)
          have sh := c_share (p := p) (S := S) (G := G) (Q := Q3) (d + 1) (u := rd2 (X 1 v) (X 0 v)) (P := rd1 (X 1 v) (X 0 v)) (Nat.lt_of_le_of_lt rd_le2 lt0) (rd_q p1) (Nat.lt_of_le_of_lt rd_le1 lt1)
          have eqs : rd1 (rd2 (X 1 v) (X 0 v)) (rd1 (X 1 v) (X 0 v)) = rd1 (X 0 v) (X 1 v) ∧ rd2 (rd2 (X 1 v) (X 0 v)) (rd1 (X 1 v) (X 0 v)) = rd2 (X 0 v) (X 1 v) := by
            rw [← rd_sw1 (X 1 v) (X 0 v), ← rd_sw2 (X 1 v) (X 0 v)]
            exact rd_rd p1
          obtain ⟨Q', f1, f2⟩ := goOn (qs Q3 (rd2 (X 1 v) (X 0 v)) (rd1 (X 1 v) (X 0 v))) (.int l) (by rw [qs_1, eqs.1]) (by rw [qs_2, eqs.2]) (fun a ha => (qs_n ha).trans (o4 a ha))
          refine ⟨Q', ?_, f2⟩
          have k2 : nI (tT t 1 v) = 2 := by rw [c]; rfl
          have o1' : zres (d + 3) 104 70 [.ref 256, .int (nI s), .int (nI v), .int (nI (tT t 4 v))] [] (zRh p S G (qs Q 0 1)) = _ := o1
          rw [o1']
          simp only [g104_155, g104_156, g104_159, g104_160, g104_161, g104_162, rg8, ra5 hv8, gv.2.2.1, k2, Option.bind_some, not_true_eq_false, ↓reduceIte]
          simp only [g104_165, g104_166, g104_167, g104_170, g104_171, g104_174, rg13, rg14, o2, o3, sh, z0, rb0, Option.bind_some, Option.toList_none, List.nil_append]
          exact f1
  obtain ⟨Q', o1, o2⟩ := loop (tM t) Q zj (Nat.le_refl _) (fun v hv hl => by omega)
  refine ⟨Q', ?_, o2⟩
  have em : nI (tM t) - 1 = nI (tM t) + -1 := by grind
  rw [e104]
  simp only [g104_0, g104_1, g104_4, g104_5, g104_6, rg5, h5, em, hwi, Option.bind_some]
  exact o1
end SHAPES
