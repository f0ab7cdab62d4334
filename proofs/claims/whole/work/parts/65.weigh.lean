/-! weighWide, weighPlain -/
def mS (h : ZH) (a b : Nat) (A : AV) (s : Nat → Int32) (X : Nat → Nat → Int32) : Prop := zShI h ∧ zAv h a A ∧ BK h b s X
def mF (b : Nat) (h h' : ZH) : Prop := ∀ k : Nat, (k < 29 ∨ 242 ≤ k) → (k < b ∨ b + 6 < k) → h'[k]? = h[k]?
theorem mF_rf {b : Nat} {h : ZH} : mF b h h := fun _ _ _ => rfl
theorem mF_tr {b : Nat} {h k l : ZH} (h1 : mF b h k) (h2 : mF b k l) : mF b h l := fun a h3 h4 => (h2 a h3 h4).trans (h1 a h3 h4)
theorem mF_B {b : Nat} {h k : ZH} (h1 : BF b h k) : mF b h k := fun a _ h4 => h1 a h4
theorem mF_S {b : Nat} {h k : ZH} (h1 : zShF h k) : mF b h k := fun a h3 _ => h1 a h3
theorem zShI_fr {h k : ZH} (hI : zShI h) (hf : ∀ a : Nat, a < 242 → k[a]? = h[a]?) : zShI k := by
  obtain ⟨i1, i2, ⟨fw, i3⟩, ⟨fq, i4⟩, ⟨fv, i5⟩, ⟨fa, i6⟩, ⟨fe, i7⟩, i8, n, W, H, le, sa, sb, h29⟩ := hI
  refine ⟨zSta_fr i1 fun a ha => hf a (by omega), (hf 30 (by decide)).trans i2, ⟨fw, (hf 31 (by decide)).trans i3⟩, ⟨fq, (hf 32 (by decide)).trans i4⟩, ⟨fv, (hf 33 (by decide)).trans i5⟩, ⟨fa, (hf 34 (by decide)).trans i6⟩, ⟨fe, (hf 35 (by decide)).trans i7⟩, fun t ht => zTre_fr (i8 t ht) ht fun a h1 h2 => hf a (by have := tb_ok t ht; omega), n, W, H, le, sa, sb, (hf 29 (by decide)).trans h29⟩
section WEIGH
variable {h : ZH} {a b : Nat} {A : AV} {s : Nat → Int32} {X : Nat → Nat → Int32}
theorem mS_B {k : ZH} {s' : Nat → Int32} {X' : Nat → Nat → Int32} (hm : mS h a b A s X) (ha : a + 1 < 29) (hb : 242 ≤ b) (hB : BK k b s' X') (hf : BF b h k) : mS k a b A s' X' := ⟨zShI_fr hm.1 fun c hc => hf c (by omega), zAv_fr hm.2.1 (hf a (by omega)) (hf (a + 1) (by omega)), hB⟩
theorem mS_S {k : ZH} (hm : mS h a b A s X) (ha : a + 1 < 29) (hb : 242 ≤ b) (hI : zShI k) (hf : zShF h k) : mS k a b A s X := ⟨hI, zAv_fr hm.2.1 (hf a (by omega)) (hf (a + 1) (by omega)), BK_fr hm.2.2 fun c h1 _ => hf c (by omega)⟩
theorem sheet_le {k : ZH} {i m : Nat} {le : Int32} {sa sb : Int64} (hT : zTk k A i m le sa sb) : zget k 29 4 9 = some (.int le) := (zget_c hT.2.1).trans rfl
theorem DD_b {i o : Nat} (hA : zVa A) (ho : o ≤ 1) : ∀ v, (DD A i o).1 = some v → v < 2 ^ 29 := fun v hv => by have := DD_lt hA ho hv; omega
theorem c_weighWide (d : Nat) (hm : mS h a b A s X) (ha : a + 1 < 29) (hb : 242 ≤ b) (hA : zVa A) {i : Nat} (hi : i < A.1) (hw : A.2.2.2 (5 * i + 3) = 1) (e0 : enB X (2 * i) ez) (e1 : enB X (2 * i + 1) ez) (e2 : enB X (2 * (i + 1)) (DD A (i + 1) 0)) :
    ∃ h' X', zcl (d + 5) 20 [.ref b, .ref a, .ref 29, .int (nI i)] h = some (none, h') ∧ mS h' a b A s X' ∧ mF b h h' ∧ enB X' (2 * i) (DD A i 0) ∧ enB X' (2 * i + 1) (DD A i 1) ∧ (∀ c j, j ≠ 2 * i → j ≠ 2 * i + 1 → X' c j = X c j) ∧ ∀ c, 3 ≤ c → X' c = X c := by
  have z0 : zcs [] ≤ 8 := by decide
  have hwi : ∀ x, Value.category (.int x) = 1 := fun _ => rfl
  have N12 := hA.1
  have d0 : DD A i 0 = eo ez 1 (aC A i 1 0) (DD A (i + 1) 0) := by
    rw [DD_eq hA.1 hi]
    unfold dS
    rw [if_pos hw, Nat.zero_mul, Nat.add_zero]
  have d1 : DD A i 1 = eo ez 1 (aC A i 1 0 + A.2.1 * A.2.2.1) (DD A (i + 1) 0) := by
    rw [DD_eq hA.1 hi]
    unfold dS
    rw [if_pos hw, Nat.one_mul]
  have hF : zFe A.1 A.2.2.2 i 1 := ⟨by decide, by decide, by omega, fun z => by omega⟩
  obtain ⟨-, -, -, -, -, -, -, -, cn, cW, cH, le, sa, sb, h29⟩ := id hm.1
  have hb4 : (h[29]?).map (fun c => c.1) = some 4 := by rw [h29]; rfl
  obtain ⟨h1, sa', sb', l1, l2, l3⟩ := c_layBest d hA hm.1 hm.2.1 ha hF
  have m1 := mS_S hm ha hb l2.1 l3
  have le1 := sheet_le l2
  have aB0 : aB A i 1 = 0 := rfl
  rw [aB0] at le1
  have c1 := aC1_le hA hi
  have wh := aWH1 hA
  obtain ⟨h2, X2, o1, o2, o3, o4⟩ := c_offer (d + 2) m1.2.2 (q := 2 * i) (w := 2 * (i + 1)) (n := 1) (e := aC A i 1 0) (by omega) (by omega) e0 e2 (by omega) (fun v hv => by cases hv) (DD_b hA (by decide)) (by omega)
  have m2 := mS_B m1 ha hb o2 o3
  have le2 : zget h2 29 4 9 = some (.int (nI (aC A i 1 0))) := by
    have q := o3 29 (by omega)
    unfold zget at le1 ⊢
    rw [q]
    exact le1
  obtain ⟨h3, X3, p1, p2, p3, p4⟩ := c_offer (d + 2) m2.2.2 (q := 2 * i + 1) (w := 2 * (i + 1)) (n := 1) (e := aC A i 1 0 + A.2.1 * A.2.2.1) (E := ez) (F := DD A (i + 1) 0) (by omega) (by omega) ⟨(o4.2.1 0 _ (by omega)).trans e1.1, (o4.2.1 1 _ (by omega)).trans e1.2.1, (o4.2.1 2 _ (by omega)).trans e1.2.2⟩ ⟨(o4.2.1 0 _ (by omega)).trans e2.1, (o4.2.1 1 _ (by omega)).trans e2.2.1, (o4.2.1 2 _ (by omega)).trans e2.2.2⟩ (by omega) (fun v hv => by cases hv) (DD_b hA (by decide)) (by omega)
  have m3 := mS_B m2 ha hb p2 p3
  refine ⟨h3, X3, ?_, m3, mF_tr (mF_S l3) (mF_tr (mF_B o3) (mF_B p3)), ?_, ?_, fun c j q1 q2 => by rw [p4.2.1 c j q2, o4.2.1 c j q1], fun c hc => by rw [p4.2.2 c hc, o4.2.2 c hc]⟩
  · have s1 : (2 : Int32) * nI (i + 1) = nI (2 * (i + 1)) := by rw [show (2 : Int32) = nI 2 from rfl, pk_mul]
    have s2 : (2 : Int32) * nI i = nI (2 * i) := by rw [show (2 : Int32) = nI 2 from rfl, pk_mul]
    have a2 : zget h2 a 0 2 = some (.int (nI A.2.1)) := (zget_c m2.2.1.1).trans rfl
    have a3 : zget h2 a 0 3 = some (.int (nI A.2.2.1)) := (zget_c m2.2.1.1).trans rfl
    have l1' : zcl (d + 4) 38 [.ref 29, .ref a, .int (nI i), .int 1] h = some (some (.int (nI (aB A i 1))), h1) := l1
    have o1' : zcl (d + 4) 22 [.ref b, .int (nI (2 * i)), .int 1, .int (nI (aC A i 1 0)), .int (nI (2 * (i + 1)))] h1 = some (none, h2) := o1
    have p1' : zcl (d + 4) 22 [.ref b, .int (nI (2 * i + 1)), .int 1, .int (nI (aC A i 1 0 + A.2.1 * A.2.2.1)), .int (nI (2 * (i + 1)))] h2 = some (none, h3) := p1
    rw [e20]
    simp only [g20_0, g20_1, g20_2, g20_3, g20_4, g20_7, g20_8, g20_9, g20_10, g20_11, g20_12, g20_13, l1', nI_1, s1, z0, hb4, hwi, Option.bind_some, Option.toList_some, List.cons_append, List.nil_append]
    simp only [g20_15, g20_16, g20_17, g20_18, g20_19, g20_20, g20_21, g20_24, g20_26, s2, le1, o1', z0, BK_b m1.2.2, Option.bind_some, Option.toList_none, List.nil_append]
    simp only [g20_29, g20_30, g20_31, g20_32, g20_33, g20_34, g20_35, g20_36, g20_37, g20_40, g20_41, g20_44, g20_45, g20_48, g20_49, g20_50, g20_52, g20_55, s2, nI_1, le2, a2, a3, pk_mul, nI_add, p1', z0, BK_b m2.2.2, Option.bind_some, Option.toList_none, List.nil_append]
  · rw [d0]
    exact ⟨(p4.2.1 0 _ (by omega)).trans o4.1.1, (p4.2.1 1 _ (by omega)).trans o4.1.2.1, (p4.2.1 2 _ (by omega)).trans o4.1.2.2⟩
  · rw [d1]
    exact p4.1
theorem zmay_iff (hA : zVa A) {i : Nat} (h1 : 1 ≤ i) (h2 : i < 100) : zmay A.1 A.2.2.2 (nI i) ↔ ¬ aT A i := by
  have N12 := hA.1
  have e1 : nI i - 1 = nI (i - 1) := by rw [show (1 : Int32) = nI 1 from rfl]; exact pk_sub h1
  unfold zmay
  rw [e1]
  by_cases z : i < A.1
  · have n1 : znum A.1 A.2.2.2 (nI i) 4 = A.2.2.2 (5 * i + 4) := znum_nI (k := 4) N12 z (by decide)
    have n2 : znum A.1 A.2.2.2 (nI (i - 1)) 4 = A.2.2.2 (5 * (i - 1) + 4) := znum_nI (k := 4) N12 (by omega) (by decide)
    have n3 : znum A.1 A.2.2.2 (nI i) 3 = A.2.2.2 (5 * i + 3) := znum_nI (k := 3) N12 z (by decide)
    have n4 : znum A.1 A.2.2.2 (nI (i - 1)) 3 = A.2.2.2 (5 * (i - 1) + 3) := znum_nI (k := 3) N12 (by omega) (by decide)
    rw [n1, n2, n3, n4]
    obtain ⟨-, -, -, -, g1, g2⟩ := zcan_w (hA.2.2.2 i z)
    have g0 : A.2.2.2 (5 * i + 4) ≤ 0 ↔ A.2.2.2 (5 * i + 4) = 0 := by
      rw [g1]
      constructor
      · intro w
        have := (nI_leI (b := 0) (by omega) (by decide)).mp w
        rw [show (A.2.2.2 (5 * i + 4)).toNatClampNeg = 0 by omega]
        rfl
      · intro w
        rw [w]
        decide
    rw [g0]
    constructor
    · rintro (w | w | w | w) ⟨t1, t2, t3, t4, t5, t6⟩
      · exact t6 w
      · exact w t5
      · exact w t4
      · exact w t3
    · intro w
      by_cases q1 : A.2.2.2 (5 * i + 4) = 0
      · exact Or.inl q1
      · by_cases q2 : A.2.2.2 (5 * i + 4) = A.2.2.2 (5 * (i - 1) + 4)
        · by_cases q3 : A.2.2.2 (5 * i + 3) = 0
          · by_cases q4 : A.2.2.2 (5 * (i - 1) + 3) = 0
            · exact absurd ⟨by omega, z, q4, q3, q2, q1⟩ w
            · exact Or.inr (Or.inr (Or.inr q4))
          · exact Or.inr (Or.inr (Or.inl q3))
        · exact Or.inr (Or.inl q2)
  · have n1 : znum A.1 A.2.2.2 (nI i) 4 = -1 := znum_no fun w => absurd ((nI_ltI (by omega) (by omega)).mp w.2) z
    rw [n1]
    constructor
    · intro _ w
      exact z w.2.1
    · intro _
      exact Or.inl (by decide)
theorem dG_stop {R : Nat → Nat → EN} {i o n : Nat} (hs : ∀ m, n < m → ¬ aO A i m) : ∀ k : Nat, dG A R i o (n + k) = dG A R i o n
  | 0 => rfl
  | k + 1 => by
    show cif (aO A i (n + k + 1)) _ (dG A R i o (n + k)) = _
    rw [cif_neg (hs _ (by omega)), dG_stop hs k]
theorem dG_b (hA : zVa A) {i o m : Nat} (ho : o ≤ 1) : ∀ v, (dG A (DD A) i o m).1 = some v → v < 2 ^ 29 := fun v hv => by
  obtain ⟨⟨b1, b2, b3, r, b4, b5⟩, -⟩ := (dG_sp (A := A) (R := DD A) (i := i) (o := o) m).2 v hv
  have h1 := DD_lt hA (show 1 - o ≤ 1 by omega) b4
  have h2 := aP_le hA b3.2
  omega
theorem c_weighPlain (d : Nat) (ha : a + 1 < 29) (hb : 242 ≤ b) (hA : zVa A) {i : Nat} (hi : i < A.1) (hw : ¬ A.2.2.2 (5 * i + 3) = 1) :
    ∀ (r n : Nat) (h : ZH) (X : Nat → Nat → Int32) (l5 : Value), n + r = 4 → mS h a b A s X → enB X (2 * i) (dG A (DD A) i 0 n) → enB X (2 * i + 1) (dG A (DD A) i 1 n) → (∀ q o, i < q → q ≤ A.1 → o ≤ 1 → enB X (2 * q + o) (DD A q o)) → (∀ m, 1 ≤ m → m ≤ n → aO A i m → X 3 (5 * i + m) = nI (aB A i m)) →
    ∃ h' X', zres (d + 4) 21 3 [.ref b, .ref a, .ref 29, .int (nI i), .int (nI (n + 1)), l5] [] h = some (none, h') ∧ mS h' a b A s X' ∧ mF b h h' ∧ enB X' (2 * i) (DD A i 0) ∧ enB X' (2 * i + 1) (DD A i 1) ∧ (∀ m, 1 ≤ m → m ≤ 4 → aO A i m → X' 3 (5 * i + m) = nI (aB A i m)) ∧ (∀ c j, c < 3 → j ≠ 2 * i → j ≠ 2 * i + 1 → X' c j = X c j) ∧ (∀ j, (j < 5 * i + 1 ∨ 5 * i + 4 < j) → X' 3 j = X 3 j) ∧ ∀ c, 4 ≤ c → X' c = X c := by
  have z0 : zcs [] ≤ 8 := by decide
  have hwi : ∀ x, Value.category (.int x) = 1 := fun _ => rfl
  have N12 := hA.1
  have dd : ∀ o, DD A i o = dG A (DD A) i o 4 := fun o => by
    rw [DD_eq hA.1 hi]
    unfold dS
    rw [if_neg hw]
  intro r
  induction r with
  | zero =>
    intro n h X l5 hn hm e0 e1 eq hB
    obtain rfl : n = 4 := by omega
    have c1 : (4 : Int32) < nI (4 + 1) := by decide
    refine ⟨h, X, ?_, hm, mF_rf, by rw [dd]; exact e0, by rw [dd]; exact e1, hB, fun _ _ _ _ _ => rfl, fun _ _ => rfl, fun _ _ => rfl⟩
    simp only [g21_3, g21_5, g21_6, c1, ↓reduceIte, g21_103]
  | succ r ih =>
    intro n h X l5 hn hm e0 e1 eq hB
    have c1 : ¬ (4 : Int32) < nI (n + 1) := nI_nlt (a := 4) (by omega) (by decide)
    have hb0 : (h[a]?).map (fun c => c.1) = some 0 := by rw [hm.2.1.1]; rfl
    obtain ⟨rr, y1, y2, y3⟩ := c_mayBreakAhead (d + 1) hm.2.1 N12 (nI (i + (n + 1)))
    by_cases q : aT A (i + (n + 1))
    · have := y3 (fun w => (zmay_iff hA (by omega) (by omega)).mp w q)
      subst this
      have no : ¬ aO A i (n + 1) := fun w => w.1 q
      have st : ∀ o, dG A (DD A) i o (n + 1) = dG A (DD A) i o n := fun o => cif_neg no
      obtain ⟨h', X', o1, o2, o3, o4, o5, o6, o7⟩ := ih (n + 1) h X l5 (by omega) hm (by rw [st]; exact e0) (by rw [st]; exact e1) eq (fun m h1 h2 h3 => by
        by_cases z : m = n + 1
        · rw [z] at h3; exact absurd h3 no
        · exact hB m h1 (by omega) h3)
      refine ⟨h', X', ?_, o2, o3, o4, o5, o6, o7⟩
      simp only [g21_3, g21_5, g21_6, c1, ↓reduceIte]
      simp only [g21_9, g21_10, g21_11, g21_13, g21_14, nI_add, y1, z0, hb0, Option.bind_some, Option.toList_some, List.cons_append, List.nil_append]
      rw [g21_17, if_neg (fun w => w rfl)]
      simp only [g21_20, g21_97, g21_100, hwi, nI_1]
      exact o1
    · have := y2 ((zmay_iff hA (by omega) (by omega)).mpr q)
      subst this
      obtain ⟨-, -, -, -, -, -, -, -, cn, cW, cH, le, sa, sb, h29⟩ := id hm.1
      have hb4 : (h[29]?).map (fun c => c.1) = some 4 := by rw [h29]; rfl
      by_cases q2 : zFe A.1 A.2.2.2 i (n + 1)
      · have yes : aO A i (n + 1) := ⟨q, q2⟩
        have st : ∀ o, dG A (DD A) i o (n + 1) = eo (dG A (DD A) i o n) (n + 1) (aP A i (n + 1)) (DD A (i + (n + 1)) (1 - o)) := fun o => cif_pos yes
        have iN := q2.2.2.1
        have ap := aP_le hA q2
        obtain ⟨h1, sa', sb', l1, l2, l3⟩ := c_layBest d hA hm.1 hm.2.1 ha q2
        have m1 := mS_S hm ha hb l2.1 l3
        have le1 : zget h1 29 4 9 = some (.int (nI (aP A i (n + 1)))) := sheet_le l2
        have bl := aB_lt (A := A) (s := i) (m := n + 1) (by omega) (by omega)
        have tl := th_lt (n + 1) (by omega)
        have nb := nI_m1 (show aB A i (n + 1) < 2 ^ 31 by omega)
        obtain ⟨h2, t1, t2, t3⟩ := BK_put (d + 3) m1.2.2 (a := 3) (j := 5 * i + (n + 1)) (by decide) (show 5 * i + (n + 1) < 60 by omega) (nI (aB A i (n + 1)))
        have m2 := mS_B m1 ha hb t2 t3
        have lef : ∀ {k k' : ZH}, BF b k k' → zget k 29 4 9 = some (.int (nI (aP A i (n + 1)))) → zget k' 29 4 9 = some (.int (nI (aP A i (n + 1)))) := fun {k k'} hf hk => by
          have q := hf 29 (by omega)
          unfold zget at hk ⊢
          rw [q]
          exact hk
        have le2 := lef t3 le1
        generalize hX2 : ug X 3 (5 * i + (n + 1)) (nI (aB A i (n + 1))) = X2 at t2 m2
        have x2 : ∀ c, c ≠ 3 → X2 c = X c := fun c hc => by rw [← hX2, ug_n hc]
        have en2 : ∀ q E, enB X q E → enB X2 q E := fun q E hE => by
          unfold enB
          rw [x2 0 (by decide), x2 1 (by decide), x2 2 (by decide)]
          exact hE
        obtain ⟨h3, X3, p1, p2, p3, p4⟩ := c_offer (d + 2) m2.2.2 (q := 2 * i) (w := 2 * (i + (n + 1)) + 1) (n := n + 1) (e := aP A i (n + 1)) (by omega) (by omega) (en2 _ _ e0) (en2 _ _ (eq (i + (n + 1)) 1 (by omega) iN (by decide))) (by omega) (dG_b hA (by decide)) (DD_b hA (by decide)) (by omega)
        have m3 := mS_B m2 ha hb p2 p3
        have le3 := lef p3 le2
        have en3 : ∀ q E, q ≠ 2 * i → enB X2 q E → enB X3 q E := fun q E hq hE => ⟨(p4.2.1 0 q hq).trans hE.1, (p4.2.1 1 q hq).trans hE.2.1, (p4.2.1 2 q hq).trans hE.2.2⟩
        have e2' := eq (i + (n + 1)) 0 (by omega) iN (by decide)
        rw [Nat.add_zero] at e2'
        obtain ⟨h4, X4, r1, r2, r3, r4⟩ := c_offer (d + 2) m3.2.2 (q := 2 * i + 1) (w := 2 * (i + (n + 1))) (n := n + 1) (e := aP A i (n + 1)) (by omega) (by omega) (en3 _ _ (by omega) (en2 _ _ e1)) (en3 _ _ (by omega) (en2 _ _ e2')) (by omega) (dG_b hA (by decide)) (DD_b hA (by decide)) (by omega)
        have m4 := mS_B m3 ha hb r2 r3
        have x4 : ∀ c, 3 ≤ c → X4 c = X2 c := fun c hc => (r4.2.2 c hc).trans (p4.2.2 c hc)
        obtain ⟨h', X', o1, o2, o3, o4, o5, o6, o7, o8, o9⟩ := ih (n + 1) h4 X4 (.int (nI (aB A i (n + 1)))) (by omega) m4 (by
            rw [st]
            exact ⟨(r4.2.1 0 _ (by omega)).trans p4.1.1, (r4.2.1 1 _ (by omega)).trans p4.1.2.1, (r4.2.1 2 _ (by omega)).trans p4.1.2.2⟩) (by
            rw [st]
            exact r4.1) (fun q o h1 h2 h3 => by
            have hE := en3 _ _ (by omega) (en2 _ _ (eq q o h1 h2 h3))
            exact ⟨(r4.2.1 0 _ (by omega)).trans hE.1, (r4.2.1 1 _ (by omega)).trans hE.2.1, (r4.2.1 2 _ (by omega)).trans hE.2.2⟩) (fun m h1 h2 h3 => by
            rw [x4 3 (by decide), ← hX2]
            by_cases z : m = n + 1
            · rw [z, ug_a]
            · rw [ug_i (by omega)]
              exact hB m h1 (by omega) h3)
        refine ⟨h', X', ?_, o2, mF_tr (mF_S l3) (mF_tr (mF_B t3) (mF_tr (mF_B p3) (mF_tr (mF_B r3) o3))), o4, o5, o6, fun c j h1 h2 h3 => ?_, fun j hj => ?_, fun c hc => ?_⟩
        · have s5 : nI i * 5 + nI (n + 1) = nI (5 * i + (n + 1)) := s5k i (n + 1)
          have s2 : (2 : Int32) * nI i = nI (2 * i) := by rw [show (2 : Int32) = nI 2 from rfl, pk_mul]
          have s3 : (2 : Int32) * nI (i + (n + 1)) = nI (2 * (i + (n + 1))) := by rw [show (2 : Int32) = nI 2 from rfl, pk_mul]
          simp only [g21_3, g21_5, g21_6, c1, ↓reduceIte]
          simp only [g21_9, g21_10, g21_11, g21_13, g21_14, nI_add, y1, z0, hb0, Option.bind_some, Option.toList_some, List.cons_append, List.nil_append]
          rw [g21_17, if_pos (by decide)]
          simp only [g21_23, g21_24, g21_25, g21_26, g21_28, g21_31, g21_33, g21_35, l1, z0, hb4, hwi, Option.bind_some, Option.toList_some, List.cons_append, List.nil_append]
          rw [g21_36, if_pos nb]
          simp only [g21_40, g21_41, g21_44, g21_45, g21_46, g21_47, g21_49, g21_50, g21_52, BK_3 m1.2.2, s5, t1, z0, Option.bind_some, Option.toList_none, List.nil_append]
          simp only [g21_55, g21_56, g21_57, g21_58, g21_59, g21_61, g21_62, g21_65, g21_66, g21_67, g21_69, g21_70, g21_71, g21_72, g21_73, s2, s3, nI_add, nI_1, le2, p1, z0, BK_b m2.2.2, Option.bind_some, Option.toList_none, List.nil_append]
          simp only [g21_76, g21_77, g21_78, g21_79, g21_80, g21_81, g21_82, g21_84, g21_85, g21_88, g21_89, g21_90, g21_92, g21_93, g21_94, g21_97, g21_100, s2, s3, nI_add, nI_1, le3, r1, z0, hwi, BK_b m3.2.2, Option.bind_some, Option.toList_none, List.nil_append]
          exact o1
        · rw [o7 c j h1 h2 h3, r4.2.1 c j h3, p4.2.1 c j h2, x2 c (by omega)]
        · rw [o8 j hj, x4 3 (by decide), ← hX2, ug_i (by omega)]
        · rw [o9 c hc, x4 c (by omega), x2 c (by omega)]
      · have stop : ∀ m, n < m → ¬ aO A i m := fun m hm w => q2 (zFe_mono w.2 (by omega) (by omega))
        have fin : ∀ o, DD A i o = dG A (DD A) i o n := fun o => by
          rw [dd o, show 4 = n + (4 - n) by omega]
          exact dG_stop stop (4 - n)
        obtain ⟨h1, l1, l2, l3⟩ := c_layBest_no (x := nI i) (y := nI (n + 1)) d hA hm.1 hm.2.1 ha (fun ⟨s', m', w1, w2, w3⟩ => q2 (by
          have h2 := w3.2.1
          have h3 := w3.2.2.1
          have a1 := (nI_eq (show i < 2 ^ 31 by omega) (show s' < 2 ^ 31 by omega)).mp w1
          have a2 := (nI_eq (show n + 1 < 2 ^ 31 by omega) (show m' < 2 ^ 31 by omega)).mp w2
          rw [a1, a2]
          exact w3))
        refine ⟨h1, X, ?_, mS_S hm ha hb l2 l3, mF_S l3, by rw [fin]; exact e0, by rw [fin]; exact e1, fun m h1 h2 h3 => ?_, fun _ _ _ _ _ => rfl, fun _ _ => rfl, fun _ _ => rfl⟩
        · simp only [g21_3, g21_5, g21_6, c1, ↓reduceIte]
          simp only [g21_9, g21_10, g21_11, g21_13, g21_14, nI_add, y1, z0, hb0, Option.bind_some, Option.toList_some, List.cons_append, List.nil_append]
          rw [g21_17, if_pos (by decide)]
          simp only [g21_23, g21_24, g21_25, g21_26, g21_28, g21_31, g21_33, g21_35, l1, z0, hb4, hwi, Option.bind_some, Option.toList_some, List.cons_append, List.nil_append]
          rw [g21_36, if_neg (fun w => w rfl), g21_39]
        · by_cases z : m ≤ n
          · exact hB m h1 z h3
          · exact absurd h3 (stop m (by omega))
end WEIGH
