/-! THE REFERENCE'S QUESTIONS: isWide, isPicture, treesOf, isTree, canLay, pageWide, makes, nodeOf, sideOf -/
section REFQ
variable {p : ZP} {S : Nat → Int32} {G : Nat → Nat → Int32} {Q : Nat → Nat → Int64} {A : AV}
theorem ra1z : zald 10 (zRh p S G Q) 257 0 = some (.int (G 1 0)) := ra1 (j := 0) (by decide)
theorem ra1o : zald 10 (zRh p S G Q) 257 1 = some (.int (G 1 1)) := ra1 (j := 1) (by decide)
theorem ra1t : zald 10 (zRh p S G Q) 257 2 = some (.int (G 1 2)) := ra1 (j := 2) (by decide)
theorem ix35 (i : Nat) : (3 : Int32) + 5 * nI i = nI (3 + 5 * i) := by rw [show (5 : Int32) = nI 5 from rfl, pk_mul, show (3 : Int32) = nI 3 from rfl, nI_add]
theorem c_isWideR (d : Nat) {i : Nat} (hG : zGA (G 1) A) (hA : A.1 ≤ 12) (hi : i < A.1) : zcl (d + 1) 90 [.ref 256, .int (nI i)] (zRh p S G Q) = some (some (.int (if A.2.2.2 (5 * i + 3) = 1 then 1 else 0)), zRh p S G Q) := by
  have e1 : nI (3 + 5 * i) + 3 = nI (3 + 5 * i + 3) := nI_add (3 + 5 * i) 3
  have b1 : 3 + 5 * i + 3 < 63 := by omega
  have g1 : G 1 (3 + 5 * i + 3) = A.2.2.2 (5 * i + 3) := by rw [Nat.add_assoc]; exact hG.2.2.2 _ (by omega)
  rw [e90]
  simp only [g90_0, g90_1, g90_4, g90_5, g90_6, g90_7, g90_8, g90_9, g90_10, g90_11, g90_12, rg1, ix35, e1, ra1 b1, g1, Option.bind_some]
  by_cases z : A.2.2.2 (5 * i + 3) = 1
  · rw [g90_13, if_neg (fun w => w z), if_pos z, g90_16, g90_17, g90_21 zone]
  · rw [g90_13, if_pos z, if_neg z, g90_20, g90_21 zzero]
theorem c_isPic (d : Nat) {N : Nat} (hG : G 1 0 = nI N) (x : Int32) : zcl (d + 1) 81 [.ref 256, .int x] (zRh p S G Q) = some (some (.int (if 0 ≤ x ∧ x < nI N then 1 else 0)), zRh p S G Q) := by
  rw [e81]
  simp only [g81_0, g81_1]
  by_cases q : x < 0
  · rw [if_pos q, if_neg (fun w => absurd q (i_nlt.mpr w.1)), g81_18, g81_19 zzero]
  · rw [if_neg q]
    simp only [g81_4, g81_5, g81_6, g81_9, g81_10, g81_11, rg1, ra1z, hG, Option.bind_some]
    by_cases q2 : nI N ≤ x
    · rw [if_pos q2, if_neg (fun w => absurd w.2 (i_nlt.mpr q2)), g81_18, g81_19 zzero]
    · rw [if_neg q2, if_pos ⟨i_nlt.mp q, i_nle.mp q2⟩, g81_14, g81_15, g81_19 zone]
theorem th_hf : ∀ n, n < 5 → 1 ≤ n → ¬ n = 1 → (2 : Int32) * nI (hf n) = nI (th n) := by decide +kernel
theorem c_treesOf (d : Nat) {n : Nat} (hn : n < 5) (h1 : 1 ≤ n) : zcl (d + 2) 92 [.ref 256, .int (nI n)] (zRh p S G Q) = some (some (.int (nI (th n))), zRh p S G Q) := by
  have zi : ∀ x, zcs [.int x] ≤ 8 := fun _ => Nat.le_of_ble_eq_true rfl
  rw [e92]
  simp only [g92_0, g92_1]
  by_cases z : n = 1
  · subst z
    rw [g92_2, if_neg (fun w => w rfl), g92_5, g92_6, g92_16]
    rfl
  · have nz : ¬ nI n = 1 := fun w => z ((nI_eq (a := n) (b := 1) (by omega) (by decide)).mp w)
    have ch := c_halves d 256 (nI n) (zRh p S G Q)
    rw [hf_ok n hn] at ch
    rw [g92_2, if_pos nz]
    simp only [g92_9, g92_10, g92_11, g92_12, g92_15, g92_16, ch, zi, rb0, Option.bind_some, Option.toList_some, List.cons_append, List.nil_append, th_hf n hn h1 z]
theorem c_isTree (d : Nat) {t : Nat} (ht : t < 31) : zcl (d + 3) 98 [.ref 256, .int (nI (tn t)), .int (nI (tk t))] (zRh p S G Q) = some (some (.int 1), zRh p S G Q) := by
  have zi : ∀ x, zcs [.int x] ≤ 8 := fun _ => Nat.le_of_ble_eq_true rfl
  obtain ⟨n1, n2, n3, -⟩ := tft2 t ht
  have tl := th_lt _ n1
  have c1 : ¬ nI (tn t) < 1 := nI_nlt (b := 1) n2 (by omega)
  have c2 : ¬ 4 < nI (tn t) := nI_nlt (a := 4) (by omega) (by decide)
  have c3 : ¬ nI (tk t) < 0 := nI_pos (by omega)
  have c4 : ¬ nI (th (tn t)) ≤ nI (tk t) := nI_ge n3 (by omega)
  have to := c_treesOf (p := p) (S := S) (G := G) (Q := Q) d n1 n2
  rw [e98]
  simp only [g98_0, g98_1, g98_2, c1, ↓reduceIte]
  simp only [g98_5, g98_6, g98_7, c2, ↓reduceIte]
  simp only [g98_10, g98_11, c3, ↓reduceIte]
  simp only [g98_14, g98_15, g98_16, g98_17, g98_20, to, zi, rb0, c4, Option.bind_some, Option.toList_some, List.cons_append, List.nil_append, ↓reduceIte]
  rw [g98_23, g98_24, g98_28 zone]
theorem c_isTree_no (d : Nat) {n k : Int32} (hn : ¬ ∃ t, t < 31 ∧ n = nI (tn t) ∧ k = nI (tk t)) : zcl (d + 3) 98 [.ref 256, .int n, .int k] (zRh p S G Q) = some (some (.int 0), zRh p S G Q) := by
  have zi : ∀ x, zcs [.int x] ≤ 8 := fun _ => Nat.le_of_ble_eq_true rfl
  have no : ∀ L, zres (d + 2) 98 27 L [] (zRh p S G Q) = some (some (.int 0), zRh p S G Q) := fun L => by rw [g98_27, g98_28 zzero]
  rw [e98]
  by_cases c1 : n < 1
  · simp only [g98_0, g98_1, g98_2, c1, ↓reduceIte]
    exact no _
  by_cases c2 : 4 < n
  · simp only [g98_0, g98_1, g98_2, c1, ↓reduceIte]
    simp only [g98_5, g98_6, g98_7, c2, ↓reduceIte]
    exact no _
  obtain ⟨j1, j2, j3⟩ := i_rng (a := 1) (b := 4) (by decide) (by decide) (i_nlt.mp c1) (i_nlt.mp c2)
  generalize n.toNatClampNeg = m at *
  subst j1
  by_cases c3 : k < 0
  · simp only [g98_0, g98_1, g98_2, c1, ↓reduceIte]
    simp only [g98_5, g98_6, g98_7, c2, ↓reduceIte]
    simp only [g98_10, g98_11, c3, ↓reduceIte]
    exact no _
  obtain ⟨k2, k3, rfl⟩ := nI_of c3
  have to := c_treesOf (p := p) (S := S) (G := G) (Q := Q) d (n := m) (by omega) j2
  have tl := th_lt m (by omega)
  have c4 : nI (th m) ≤ nI k2 := by
    by_cases z : k2 < th m
    · obtain ⟨a1, a2, a3⟩ := tft m (by omega) k2 z
      exact absurd ⟨tf m + k2, a1, by rw [a2], by rw [a3]⟩ hn
    · exact nI_le (by omega) k3
  simp only [g98_0, g98_1, g98_2, c1, ↓reduceIte]
  simp only [g98_5, g98_6, g98_7, c2, ↓reduceIte]
  simp only [g98_10, g98_11, c3, ↓reduceIte]
  simp only [g98_14, g98_15, g98_16, g98_17, g98_20, to, zi, rb0, c4, Option.bind_some, Option.toList_some, List.cons_append, List.nil_append, ↓reduceIte]
  exact no _
/-- canLay -/
theorem cl_loop (d : Nat) {s m : Nat} {l3 : Value} (hl3 : l3.category = 1) (hG : zGA (G 1) A) (hA : zVa A) (hm : m ≤ 4) (hs : s + m ≤ A.1) :
    ∀ (r i : Nat), i + r = m → ∃ b : Int32, zres (d + 1) 108 34 [.ref 256, .int (nI s), .int (nI m), l3, .int (nI i)] [] (zRh p S G Q) = some (some (.int b), zRh p S G Q) ∧ ((1 < m → ∀ j, i ≤ j → j < m → A.2.2.2 (5 * (s + j) + 3) = 0) → b = 1) ∧ (¬ (1 < m → ∀ j, i ≤ j → j < m → A.2.2.2 (5 * (s + j) + 3) = 0) → b = 0) := by
  have hwi : ∀ x, Value.category (.int x) = 1 := fun _ => rfl
  have z0 : zcs [] ≤ 8 := by decide
  intro r
  induction r with
  | zero =>
    intro i hi
    obtain rfl : i = m := by omega
    have c1 : nI i ≤ nI i := nI_le (Nat.le_refl _) (by omega)
    refine ⟨1, ?_, fun _ => rfl, fun h => absurd (fun _ j h1 h2 => by omega) h⟩
    simp only [g108_34, g108_36, g108_37, c1, ↓reduceIte]
    rw [g108_64, g108_65 zone]
  | succ r ih =>
    intro i hi
    have c1 : ¬ nI m ≤ nI i := nI_ge (by omega) (by omega)
    obtain ⟨b, o1, o2, o3⟩ := ih (i + 1) (by omega)
    have hk := (zcan_w (hA.2.2.2 (s + i) (by omega))).2.2.2.1
    by_cases z : 1 < m
    · have c2 : ¬ nI m ≤ 1 := nI_ge (a := 1) z (by omega)
      have iw := c_isWideR (p := p) (S := S) (Q := Q) d (i := s + i) hG hA.1 (by omega)
      by_cases z2 : A.2.2.2 (5 * (s + i) + 3) = 1
      · rw [if_pos z2] at iw
        refine ⟨0, ?_, fun h => ?_, fun _ => rfl⟩
        · simp only [g108_34, g108_36, g108_37, c1, ↓reduceIte]
          simp only [g108_40, g108_41, g108_42, c2, ↓reduceIte]
          simp only [g108_45, g108_46, g108_47, g108_49, g108_50, nI_add, iw, z0, rb0, Option.bind_some, Option.toList_some, List.cons_append, List.nil_append]
          rw [g108_53, if_neg (by decide), g108_56, g108_57 zzero]
        · have := h z i (Nat.le_refl _) (by omega)
          rw [this] at z2
          exact absurd z2 (by decide)
      · rw [if_neg z2] at iw
        have z3 : A.2.2.2 (5 * (s + i) + 3) = 0 := hk.resolve_right z2
        refine ⟨b, ?_, fun h => o2 fun w j h1 h2 => h w j (by omega) h2, fun h => o3 fun w => h fun w2 j h1 h2 => ?_⟩
        · simp only [g108_34, g108_36, g108_37, c1, ↓reduceIte]
          simp only [g108_40, g108_41, g108_42, c2, ↓reduceIte]
          simp only [g108_45, g108_46, g108_47, g108_49, g108_50, nI_add, iw, z0, rb0, Option.bind_some, Option.toList_some, List.cons_append, List.nil_append]
          rw [g108_53, if_pos rfl]
          simp only [g108_58, g108_61, hl3, hwi, nI_1]
          exact o1
        · by_cases y : j = i
          · rw [y]; exact z3
          · exact w w2 j (by omega) h2
    · have c2 : nI m ≤ 1 := nI_le (b := 1) (by omega) (by decide)
      refine ⟨b, ?_, fun h => o2 fun w => absurd w z, fun h => absurd (fun w => absurd w z) h⟩
      simp only [g108_34, g108_36, g108_37, c1, ↓reduceIte]
      simp only [g108_40, g108_41, g108_42, c2, ↓reduceIte]
      simp only [g108_58, g108_61, hl3, hwi, nI_1]
      exact o1
theorem c_canLay (d : Nat) {s m k : Nat} (hG : zGA (G 1) A) (hA : zVa A) (hF : zFe A.1 A.2.2.2 s m) (hk : k < th m) : zcl (d + 4) 108 [.ref 256, .int (nI s), .int (nI m), .int (nI k)] (zRh p S G Q) = some (some (.int 1), zRh p S G Q) := by
  have hwi : ∀ x, Value.category (.int x) = 1 := fun _ => rfl
  have z0 : zcs [] ≤ 8 := by decide
  obtain ⟨f1, f2, f3, f4⟩ := hF
  have N12 := hA.1
  obtain ⟨t1, t2, t3⟩ := tft m (by omega) k hk
  have it := c_isTree (p := p) (S := S) (G := G) (Q := Q) d t1
  rw [t2, t3] at it
  have ip := c_isPic (p := p) (S := S) (G := G) (Q := Q) (d + 2) hG.1 (nI s)
  rw [if_pos ⟨nI_pos' (by omega), nI_lt (by omega) (by omega)⟩] at ip
  have e1 : nI A.1 - nI m = nI (A.1 - m) := pk_sub (by omega)
  have c1 : nI s ≤ nI (A.1 - m) := nI_le (by omega) (by omega)
  obtain ⟨b, o1, o2, -⟩ := cl_loop (p := p) (S := S) (Q := Q) (d + 2) (l3 := .int (nI k)) rfl hG hA f2 f3 m 0 (by omega)
  have := o2 fun w j _ h2 => f4 w j h2
  subst this
  rw [e108]
  simp only [g108_0, g108_1, g108_2, g108_3, it, z0, rb0, Option.bind_some, Option.toList_some, List.cons_append, List.nil_append]
  rw [g108_6, if_neg (by decide)]
  simp only [g108_9, g108_10, g108_11, ip, z0, rb0, Option.bind_some, Option.toList_some, List.cons_append, List.nil_append]
  rw [g108_14, if_neg (by decide)]
  simp only [g108_17, g108_18, g108_19, g108_22, g108_23, g108_24, g108_25, g108_26, rg1, ra1z, hG.1, e1, c1, Option.bind_some, ↓reduceIte]
  simp only [g108_31, g108_32, hwi]
  exact o1
theorem c_canLay_no (d : Nat) {x y z : Int32} (hG : zGA (G 1) A) (hA : zVa A) (hn : ¬ ∃ s m k, x = nI s ∧ y = nI m ∧ z = nI k ∧ zFe A.1 A.2.2.2 s m ∧ k < th m) : zcl (d + 4) 108 [.ref 256, .int x, .int y, .int z] (zRh p S G Q) = some (some (.int 0), zRh p S G Q) := by
  have hwi : ∀ x, Value.category (.int x) = 1 := fun _ => rfl
  have z0 : zcs [] ≤ 8 := by decide
  have no : ∀ L, zres (d + 3) 108 29 L [] (zRh p S G Q) = some (some (.int 0), zRh p S G Q) := fun L => by rw [g108_29, g108_30 zzero]
  have N12 := hA.1
  rw [e108]
  by_cases q1 : ∃ t, t < 31 ∧ y = nI (tn t) ∧ z = nI (tk t)
  · obtain ⟨t, t1, rfl, rfl⟩ := q1
    obtain ⟨n1, n2, n3, -⟩ := tft2 t t1
    have it := c_isTree (p := p) (S := S) (G := G) (Q := Q) d t1
    have ip := c_isPic (p := p) (S := S) (G := G) (Q := Q) (d + 2) hG.1 x
    simp only [g108_0, g108_1, g108_2, g108_3, it, z0, rb0, Option.bind_some, Option.toList_some, List.cons_append, List.nil_append]
    rw [g108_6, if_neg (by decide)]
    by_cases q2 : 0 ≤ x ∧ x < nI A.1
    · rw [if_pos q2] at ip
      simp only [g108_9, g108_10, g108_11, ip, z0, rb0, Option.bind_some, Option.toList_some, List.cons_append, List.nil_append]
      rw [g108_14, if_neg (by decide)]
      obtain ⟨s, s1, rfl⟩ := nI_of (i_nlt.mpr q2.1)
      have sN := (nI_ltI s1 (show A.1 < 2 ^ 31 by omega)).mp q2.2
      by_cases q3 : nI s ≤ nI A.1 - nI (tn t)
      · have q4 : s + tn t ≤ A.1 := by
          have e := Int32.le_iff_toInt_le.mp q3
          rw [pk_sub_toInt (by omega) (by omega), nI_toInt s1] at e
          omega
        simp only [g108_17, g108_18, g108_19, g108_22, g108_23, g108_24, g108_25, g108_26, rg1, ra1z, hG.1, q3, Option.bind_some, ↓reduceIte]
        simp only [g108_31, g108_32, hwi]
        obtain ⟨b, o1, -, o3⟩ := cl_loop (p := p) (S := S) (Q := Q) (d + 2) (l3 := .int (nI (tk t))) rfl hG hA (show tn t ≤ 4 by omega) q4 (tn t) 0 (by omega)
        have := o3 fun w => hn ⟨s, tn t, tk t, rfl, rfl, rfl, ⟨n2, by omega, q4, fun w2 i hi => w w2 i (by omega) hi⟩, n3⟩
        subst this
        exact o1
      · simp only [g108_17, g108_18, g108_19, g108_22, g108_23, g108_24, g108_25, g108_26, rg1, ra1z, hG.1, q3, Option.bind_some, ↓reduceIte]
        exact no _
    · rw [if_neg q2] at ip
      simp only [g108_9, g108_10, g108_11, ip, z0, rb0, Option.bind_some, Option.toList_some, List.cons_append, List.nil_append]
      rw [g108_14, if_pos rfl]
      exact no _
  · have it := c_isTree_no (p := p) (S := S) (G := G) (Q := Q) d q1
    simp only [g108_0, g108_1, g108_2, g108_3, it, z0, rb0, Option.bind_some, Option.toList_some, List.cons_append, List.nil_append]
    rw [g108_6, if_pos rfl]
    exact no _
theorem c_pageWide (d : Nat) {s : Nat} (hG : zGA (G 1) A) (hA : A.1 ≤ 12) (hs : s < A.1) : zcl (d + 2) 109 [.ref 256, .int (nI s)] (zRh p S G Q) = some (some (.int (nI (aW A s))), zRh p S G Q) := by
  have z0 : zcs [] ≤ 8 := by decide
  have iw := c_isWideR (p := p) (S := S) (Q := Q) d hG hA hs
  have s2 : (2 : Int32) * nI A.2.1 = nI (2 * A.2.1) := by rw [show (2 : Int32) = nI 2 from rfl, pk_mul]
  rw [e109]
  unfold aW
  simp only [g109_0, g109_1, g109_2, iw, z0, rb0, Option.bind_some, Option.toList_some, List.cons_append, List.nil_append]
  by_cases z : A.2.2.2 (5 * s + 3) = 1
  · rw [if_pos z, if_pos z, g109_5, if_neg (by decide)]
    simp only [g109_8, g109_9, g109_10, g109_13, g109_14, g109_15, g109_16, g109_25, rg1, ra1o, hG.2.1, s2, Option.bind_some]
  · rw [if_neg z, if_neg z, g109_5, if_pos rfl]
    simp only [g109_19, g109_20, g109_23, g109_24, g109_25, rg1, ra1o, hG.2.1, Option.bind_some]
theorem c_makes (d : Nat) {s m k : Nat} (hG : zGA (G 1) A) (hA : zVa A) (hF : zFe A.1 A.2.2.2 s m) (hk : k < th m) :
    ∃ S' G' Q', zcl (d + 5) 110 [.ref 256, .int (nI s), .int (nI m), .int (nI k)] (zRh p S G Q) = some (none, zRh p S' G' Q') ∧ dF S S' G G' ∧ dI (tf m + k) (tM (tf m + k)) (tM (tf m + k)) G' ∧ (∀ u, u < tM (tf m + k) → lQ (aX A s m k) Q' u) ∧ sQ (tM (tf m + k)) (aX A s m k) Q' := by
  have z0 : zcs [] ≤ 8 := by decide
  have zr : ∀ x, zcs [.ref x] ≤ 8 := fun _ => Nat.le_of_ble_eq_true rfl
  obtain ⟨f1, f2, f3, f4⟩ := hF
  obtain ⟨t1, t2, t3⟩ := tft m (by omega) k hk
  have hX := yX_lay (w := fun i => pN A.2.2.2 (5 * (s + i))) (h := fun i => pN A.2.2.2 (5 * (s + i) + 1)) (W := aW A s) (H := A.2.2.1) (tok t1)
  have hw := aw_ok (s := s) (m := tn (tf m + k)) hA (by rw [t2]; exact f3)
  obtain ⟨S1, G1, o1, o2, o3, o4⟩ := c_decodes (p := p) (Q := Q) (d + 1) t1 S G
  rw [t2, t3] at o1
  have hG1 : zGA (G1 1) A := by rw [o4.2 1 (by omega)]; exact hG
  obtain ⟨Q1, s1, s2⟩ := c_shapes (p := p) (S := S1) (G := G1) (Q := Q) d t1 hA (by rw [t2]; exact f3) hX hG1 o2 o3
  obtain ⟨Q2, l1, l2, l3⟩ := c_lays (p := p) (S := S1) (G := G1) (Q := Q1) d t1 hX hw (aW_le hA) hA.2.2.1.2 o2 o3 s2
  have pw := c_pageWide (p := p) (S := S1) (G := G1) (Q := Q1) (d + 2) hG1 hA.1 (s := s) (by omega)
  refine ⟨S1, G1, Q2, ?_, o4, o3, l2, l3⟩
  rw [e110]
  simp only [g110_0, g110_1, g110_2, g110_3, g110_6, g110_7, g110_8, g110_11, g110_12, g110_13, g110_14, g110_17, g110_18, g110_21, g110_22, g110_23, g110_26, rg1, ra1t, hG1.2.2.1, o1, s1, l1, pw, z0, zr, rb0, Option.bind_some, Option.toList_some, Option.toList_none, List.cons_append, List.nil_append]
theorem c_nodeOf (d : Nat) {t i : Nat} (ht : t < 31) (hi : i < tn t) (hI : dI t (tM t) (tM t) G) : zcl (d + 1) 112 [.ref 256, .int (nI i)] (zRh p S G Q) = some (some (.int (nI (tT t 12 i))), zRh p S G Q) := by
  have hwi : ∀ x, Value.category (.int x) = 1 := fun _ => rfl
  have hT := tok ht
  have hM7 := hT.1.2.1
  have hn4 := hT.1.2.2.2.2.2.1
  obtain ⟨a1, a2, a3, a4, a5⟩ := hT.2.2.2 i hi
  have loop : ∀ (r v : Nat), v + r = tT t 12 i → zres d 112 2 [.ref 256, .int (nI i), .int (nI v)] [] (zRh p S G Q) = some (some (.int (nI (tT t 12 i))), zRh p S G Q) := by
    intro r
    induction r with
    | zero =>
      intro v hv
      obtain rfl : v = tT t 12 i := by omega
      have v8 : tT t 12 i < 8 := by omega
      obtain ⟨g1, -⟩ := hI _ a1
      have c1 : ¬ (1 : Int32) < nI (tT t 0 (tT t 12 i)) := nI_nlt (a := 1) (by omega) (by decide)
      have c2 : nI (tT t 3 (tT t 12 i)) = nI i := by rw [a4]
      simp only [g112_2, g112_3, g112_6, g112_7, g112_8, g112_9, rg6, ra3 v8, g1.1, c1, Option.bind_some, ↓reduceIte]
      simp only [g112_12, g112_13, g112_16, g112_17, g112_18, g112_19, rg7, ra4 v8, g1.2.1, c2, Option.bind_some, ↓reduceIte]
      simp only [g112_29, g112_30]
    | succ r ih =>
      intro v hv
      have vM : v < tM t := by omega
      have v8 : v < 8 := by omega
      obtain ⟨g1, -⟩ := hI _ vM
      have no := a5 v (by omega)
      have t0 := (hT.2.1 v vM).2.2.2.2.1
      have t3 := (hT.2.1 v vM).2.2.2.2.2
      by_cases z : 1 < tT t 0 v
      · have c1 : (1 : Int32) < nI (tT t 0 v) := nI_lt (a := 1) z (by omega)
        simp only [g112_2, g112_3, g112_6, g112_7, g112_8, g112_9, rg6, ra3 v8, g1.1, c1, Option.bind_some, ↓reduceIte]
        simp only [g112_22, g112_23, g112_24, g112_25, g112_26, hwi, nI_1]
        exact ih (v + 1) (by omega)
      · have e1 : tT t 0 v = 1 := by
          rcases (hT.2.1 v vM).1 with y | y
          · exact y.2.2.1
          · have := y.2.1; omega
        have c1 : ¬ (1 : Int32) < nI (tT t 0 v) := nI_nlt (a := 1) (by omega) (by decide)
        have c2 : ¬ nI (tT t 3 v) = nI i := fun w => no ⟨e1, (nI_eq (by omega) (by omega)).mp w⟩
        simp only [g112_2, g112_3, g112_6, g112_7, g112_8, g112_9, rg6, ra3 v8, g1.1, c1, Option.bind_some, ↓reduceIte]
        simp only [g112_12, g112_13, g112_16, g112_17, g112_18, g112_19, rg7, ra4 v8, g1.2.1, c2, Option.bind_some, ↓reduceIte]
        simp only [g112_22, g112_23, g112_24, g112_25, g112_26, hwi, nI_1]
        exact ih (v + 1) (by omega)
  rw [e112]
  simp only [g112_0, g112_1, hwi]
  exact loop (tT t 12 i) 0 (by omega)
theorem c_sideOf (d : Nat) {M n : Nat} {T : Nat → Nat → Nat} {w q : Nat → Nat} {W H : Nat} {X : Nat → Nat → Nat} (hT : zTok M n T) (hX : yLay M T w q W H X) (hw : yOk n w q) (hW : W ≤ 400) (hH : H ≤ 200) {v c : Nat} (hv : v < M) (hc : c < 4) (hl : lQ X Q v) :
    ∃ Q', zcl (d + 4) 107 [.ref 256, .int (nI v), .int (nI c)] (zRh p S G Q) = some (some (.int (nI (eE X v c))), zRh p S G Q') ∧ ∀ a, a ≠ 0 → Q' a = Q a := by
  have z0 : zcs [] ≤ 8 := by decide
  have hM7 := hT.1.2.1
  have v8 : v < 8 := by omega
  obtain ⟨v1, v2, v3, v4, v5, v6, v7, v9⟩ := hl
  obtain ⟨g1, g2, -⟩ := yGo hT hX hw hv
  obtain ⟨b0, b1, b4, b7, b23, b56⟩ := yBd hT hX hw hW hH hv
  rw [e107]
  match c, hc with
  | 0, _ =>
    have nr' := c_near (d + 2) (u := X 2 v) (V := X 4 v) g1 (by omega) (by omega) (zRh p S G Q)
    refine ⟨Q, ?_, fun _ _ => rfl⟩
    rw [g107_0, g107_1, if_neg (fun w => w rfl)]
    simp only [g107_4, g107_5, g107_6, g107_9, g107_10, g107_11, g107_12, g107_15, g107_16, g107_17, g107_20, rg17, rg18, ra12 v8, ra13 v8, v1, v2, nr', z0, rb0, Option.bind_some, Option.toList_some, List.cons_append, List.nil_append]
    rfl
  | 1, _ =>
    have nr' := c_near (d + 2) (u := X 5 v) (V := X 7 v) g2 (by omega) (by omega) (zRh p S G Q)
    refine ⟨Q, ?_, fun _ _ => rfl⟩
    rw [g107_0, g107_1, if_pos (by decide), g107_21, g107_22, g107_23, if_neg (fun w => w rfl)]
    simp only [g107_26, g107_27, g107_28, g107_31, g107_32, g107_33, g107_34, g107_37, g107_38, g107_39, g107_42, rg19, rg20, ra14 v8, ra15 v8, v3, v4, nr', z0, rb0, Option.bind_some, Option.toList_some, List.cons_append, List.nil_append]
    rfl
  | 2, _ =>
    have pl := c_plus (p := p) (S := S) (G := G) (Q := Q) d (l := X 2 v) (q := X 3 v) (V := X 4 v) g1 (by omega) (by omega)
    have nr' := c_near (d + 2) (u := X 2 v + X 3 v) (V := X 4 v) g1 (by omega) (by omega) (zRh p S G (qs Q (X 2 v + X 3 v) (X 4 v)))
    refine ⟨qs Q (X 2 v + X 3 v) (X 4 v), ?_, fun a ha => qs_n ha⟩
    rw [g107_0, g107_1, if_pos (by decide), g107_21, g107_22, g107_23, if_pos (by decide), g107_43, g107_44, g107_45, if_neg (fun w => w rfl)]
    simp only [g107_48, g107_49, g107_50, g107_53, g107_54, g107_55, g107_56, g107_59, g107_60, g107_61, g107_62, g107_65, g107_66, g107_67, g107_68, g107_71, g107_72, g107_73, g107_76, rg17, rg18, rg21, rg22, ra12 v8, ra13 v8, ra16 v8, ra17 v8, v1, v2, v5, v6, pl, z0, rb0, Option.bind_some, Option.toList_none, List.nil_append]
    simp only [g107_107, g107_108, g107_109, g107_112, g107_113, g107_116, g107_119, rg13, rg14, qs_1, qs_2, nr', z0, rb0, Option.bind_some, Option.toList_some, List.cons_append, List.nil_append]
    rfl
  | 3, _ =>
    have pl := c_plus (p := p) (S := S) (G := G) (Q := Q) d (l := X 5 v) (q := X 6 v) (V := X 7 v) g2 (by omega) (by omega)
    have nr' := c_near (d + 2) (u := X 5 v + X 6 v) (V := X 7 v) g2 (by omega) (by omega) (zRh p S G (qs Q (X 5 v + X 6 v) (X 7 v)))
    refine ⟨qs Q (X 5 v + X 6 v) (X 7 v), ?_, fun a ha => qs_n ha⟩
    rw [g107_0, g107_1, if_pos (by decide), g107_21, g107_22, g107_23, if_pos (by decide), g107_43, g107_44, g107_45, if_pos (by decide)]
    simp only [g107_79, g107_80, g107_81, g107_84, g107_85, g107_86, g107_87, g107_90, g107_91, g107_92, g107_93, g107_96, g107_97, g107_98, g107_99, g107_102, g107_103, g107_104, rg19, rg20, rg23, rg24, ra14 v8, ra15 v8, ra18 v8, ra19 v8, v3, v4, v7, v9, pl, z0, rb0, Option.bind_some, Option.toList_none, List.nil_append]
    simp only [g107_107, g107_108, g107_109, g107_112, g107_113, g107_116, g107_119, rg13, rg14, qs_1, qs_2, nr', z0, rb0, Option.bind_some, Option.toList_some, List.cons_append, List.nil_append]
    rfl
end REFQ
