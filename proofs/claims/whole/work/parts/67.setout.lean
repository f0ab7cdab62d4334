section SETOUT2
variable {a b : Nat} {A : AV}
theorem so_k (d : Nat) {i n pc : Nat} {s : Nat → Int32} {l3 l4 l6 : Value} (hl6 : l6.category = 1) (h7 : s 7 = nI pc) (hin : i + n ≤ 12) :
    ∀ (r k : Nat) (h : ZH) (X : Nat → Nat → Int32), k + r = n → BK h b s X → ∃ h' X', zres (d + 3) 23 105 [.ref b, .ref a, .int (nI i), l3, l4, .int (nI n), l6, .int (nI k)] [] h = zres (d + 3) 23 133 [.ref b, .ref a, .int (nI i), l3, l4, .int (nI n), l6, .int (nI n)] [] h' ∧ BK h' b s X' ∧ BF b h h' ∧ (∀ j, k ≤ j → j < n → X' 5 (i + j) = nI pc) ∧ (∀ j, (j < i + k ∨ i + n ≤ j) → X' 5 j = X 5 j) ∧ ∀ c, c ≠ 5 → X' c = X c := by
  have z0 : zcs [] ≤ 8 := by decide
  have hwi : ∀ x, Value.category (.int x) = 1 := fun _ => rfl
  intro r
  induction r with
  | zero =>
    intro k h X hk hB
    obtain rfl : k = n := by omega
    have c1 : nI k ≤ nI k := nI_le (Nat.le_refl _) (by omega)
    refine ⟨h, X, ?_, hB, BF_rf, fun j h1 h2 => by omega, fun _ _ => rfl, fun _ _ => rfl⟩
    simp only [g23_105, g23_107, g23_109, c1, ↓reduceIte]
  | succ r ih =>
    intro k h X hk hB
    have c1 : ¬ nI n ≤ nI k := nI_ge (by omega) (by omega)
    obtain ⟨h1, e1, b1, f1⟩ := BK_put (d + 2) hB (a := 5) (j := i + k) (by decide) (show i + k < 12 by omega) (nI pc)
    obtain ⟨h', X', o1, o2, o3, o4, o5, o6⟩ := ih (k + 1) h1 _ (by omega) b1
    refine ⟨h', X', ?_, o2, BF_tr f1 o3, fun j h1 h2 => ?_, fun j hj => ?_, fun c hc => by rw [o6 c hc, ug_n hc]⟩
    · simp only [g23_105, g23_107, g23_109, c1, ↓reduceIte]
      simp only [g23_112, g23_113, g23_116, g23_117, g23_119, g23_120, g23_121, g23_124, g23_127, g23_130, BK_5 hB, BK_7 hB, h7, nI_add, e1, z0, hl6, hwi, nI_1, Option.bind_some, Option.toList_none, List.nil_append]
      exact o1
    · by_cases z : j = k
      · rw [z, o5 _ (by omega), ug_a]
      · exact o4 j (by omega) h2
    · rw [o5 j (by omega), ug_i (by omega)]
/-- what setOut leaves -/
def soR (A : AV) (b : Nat) (h h' : ZH) (s : Nat → Int32) (X : Nat → Nat → Int32) (L : List PG) : Prop := ∃ s' X', BK h' b s' X' ∧ BF b h h' ∧ s' 6 = s 6 ∧ s' 8 = s 8 ∧ s' 7 = nI L.length ∧ lvS X' L ∧ pfS X' L A.1 ∧ (∀ c, c < 4 → X' c = X c)
theorem c_setOut_l (d : Nat) (ha : a + 1 < 29) (hb : 242 ≤ b) (hA : zVa A) :
    ∀ (r st i : Nat) (L : List PG) (h : ZH) (s : Nat → Int32) (X : Nat → Nat → Int32) (l4 l5 l6 l7 : Value), st + r = 12 → st ≤ i → rI A i L → zAv h a A → BK h b s X → s 6 = nI A.1 → s 7 = nI L.length → lvS X L → pfS X L i → opS L i → (∀ q o, q ≤ A.1 → o ≤ 1 → enB X (2 * q + o) (DD A q o)) → (∀ q m, q < A.1 → ¬ A.2.2.2 (5 * q + 3) = 1 → 1 ≤ m → m ≤ 4 → aO A q m → X 3 (5 * q + m) = nI (aB A q m)) → ¬ X 0 0 = -1 →
      ∃ h', zres (d + 3) 23 9 [.ref b, .ref a, .int (nI i), .int (nI st), l4, l5, l6, l7] [] h = some (none, h') ∧ soR A b h h' s X (pgs A r i L) := by
  have z0 : zcs [] ≤ 8 := by decide
  have zir : ∀ x y, zcs [.int x, .ref y] ≤ 8 := fun _ _ => Nat.le_of_ble_eq_true rfl
  have hwi : ∀ x, Value.category (.int x) = 1 := fun _ => rfl
  have hwr : ∀ x, Value.category (.ref x) = 1 := fun _ => rfl
  have N12 := hA.1
  intro r
  induction r with
  | zero =>
    intro st i L h s X l4 l5 l6 l7 hst hsi hr hV hB h6 h7 hv hp ho he ht hx
    have c1 : (12 : Int32) ≤ nI st := nI_le (a := 12) (by omega) (by omega)
    have r4 := hr.2.2.2
    obtain rfl : i = A.1 := by omega
    refine ⟨h, ?_, s, X, hB, BF_rf, rfl, rfl, h7, hv, hp, fun _ _ => rfl⟩
    simp only [g23_9, g23_10, g23_12, c1, ↓reduceIte, g23_167]
  | succ r ih =>
    intro st i L h s X l4 l5 l6 l7 hst hsi hr hV hB h6 h7 hv hp ho he ht hx
    have c1 : ¬ (12 : Int32) ≤ nI st := nI_ge (b := 12) (by omega) (by decide)
    have r4 := hr.2.2.2
    have ex := c_exists (d + 2) hB
    rw [if_neg hx] at ex
    have pre : zres (d + 3) 23 9 [.ref b, .ref a, .int (nI i), .int (nI st), l4, l5, l6, l7] [] h = zres (d + 3) 23 27 [.ref b, .ref a, .int (nI i), .int (nI st), l4, l5, l6, l7] [.int (nI A.1), .int (nI i)] h := by
      simp only [g23_9, g23_10, g23_12, c1, ↓reduceIte]
      simp only [g23_15, g23_16, ex, z0, BK_b hB, Option.bind_some, Option.toList_some, List.cons_append, List.nil_append]
      rw [g23_19, if_neg (by decide)]
      simp only [g23_22, g23_23, g23_24, BK_6 hB, h6, Option.bind_some]
    by_cases hi : A.1 ≤ i
    · obtain rfl : i = A.1 := by omega
      have c2 : nI A.1 ≤ nI A.1 := nI_le (Nat.le_refl _) (by omega)
      have eL : pgs A (r + 1) A.1 L = L := if_pos (Nat.le_refl _)
      refine ⟨h, ?_, ?_⟩
      · rw [pre]
        simp only [g23_27, c2, ↓reduceIte, g23_167]
      · rw [eL]
        exact ⟨s, X, hB, BF_rf, rfl, rfl, h7, hv, hp, fun _ _ => rfl⟩
    · have hiN : i < A.1 := by omega
      have c2 : ¬ nI A.1 ≤ nI i := nI_ge hiN (by omega)
      have iw := c_isWide (d + 1) hV N12 (nI i)
      have e3 : znum A.1 A.2.2.2 (nI i) 3 = A.2.2.2 (5 * i + 3) := znum_nI (k := 3) N12 hiN (by decide)
      rw [e3] at iw
      have hb0 : (h[a]?).map (fun c => c.1) = some 0 := by rw [hV.1]; rfl
      have r3 := hr.2.2.1
      have s2 : (2 : Int32) * nI i = nI (2 * i) := by rw [show (2 : Int32) = nI 2 from rfl, pk_mul]
      have n2 : ¬ (2 : Int32) = 0 := by decide
      have rem : ∀ x : Nat, x < 100 → nI x - nI x / 2 * 2 = nI (x % 2) := fun x hx => by
        rw [show (2 : Int32) = nI 2 from rfl]
        exact pk_rem (by omega) (by decide) (by decide)
      have Vfr : ∀ {k : ZH}, BF b h k → zAv k a A := fun {k} hf => zAv_fr hV (hf a (by omega)) (hf (a + 1) (by omega))
      by_cases hw : A.2.2.2 (5 * i + 3) = 1
      · rw [if_pos hw] at iw
        obtain ⟨nr, tk1⟩ := rI_wide hA hr hiN hw
        -- the empty page
        have emp : ∃ h1 s1 X1 L1, L1 = (if L.length % 2 = 1 then L ++ [(0, -1, -1)] else L) ∧ zres (d + 3) 23 42 [.ref b, .ref a, .int (nI i), .int (nI st), .int 1, l5, l6, l7] [] h = zres (d + 3) 23 59 [.ref b, .ref a, .int (nI i), .int (nI st), .int 1, l5, l6, l7] [] h1 ∧ BK h1 b s1 X1 ∧ BF b h h1 ∧ s1 7 = nI L1.length ∧ s1 6 = s 6 ∧ s1 8 = s 8 ∧ lvS X1 L1 ∧ (∀ c, c ≠ 4 → X1 c = X c) ∧ L1.length % 2 = 0 ∧ L1.length ≤ 2 * i ∧ opS L1 i ∧ (∀ p, p < L.length → Lg L1 p = Lg L p) ∧ L.length ≤ L1.length := by
          by_cases z : L.length % 2 = 1
          · obtain ⟨h1, s1, X1, o1, o2, o3, o4, o5, o6, o7, o8⟩ := c_addLeaf (d + 1) hB h7 (by omega) hv 0 (-1) (-1)
            have eL : (L ++ [((0 : Int32), (-1 : Int32), (-1 : Int32))]).length = L.length + 1 := by rw [List.length_append]; rfl
            refine ⟨h1, s1, X1, _, rfl, ?_, o2, o3, by rw [if_pos z]; exact o4, o5, o6, by rw [if_pos z]; exact o7, o8, by rw [if_pos z, eL]; omega, by rw [if_pos z, eL]; omega, by rw [if_pos z]; exact opS_one ho (Nat.le_refl _) (fun j _ _ => ctn_e _ _ _), fun p hp => by rw [if_pos z]; exact Lg_old hp, by rw [if_pos z, eL]; omega⟩
            simp only [g23_42, g23_43, g23_46, g23_47, g23_48, BK_7 hB, h7, n2, not_false_eq_true, rem L.length (by omega), z, Option.bind_some]
            rw [g23_49, if_neg (fun w => w rfl)]
            simp only [g23_52, g23_53, g23_54, g23_55, g23_56, o1, z0, BK_b hB, Option.bind_some, Option.toList_none, List.nil_append]
          · refine ⟨h, s, X, _, rfl, ?_, hB, BF_rf, by rw [if_neg z]; exact h7, rfl, rfl, by rw [if_neg z]; exact hv, fun _ _ => rfl, by rw [if_neg z]; omega, by rw [if_neg z]; omega, by rw [if_neg z]; exact ho, fun p _ => by rw [if_neg z], by rw [if_neg z]; exact Nat.le_refl _⟩
            have z2 : L.length % 2 = 0 := by omega
            simp only [g23_42, g23_43, g23_46, g23_47, g23_48, BK_7 hB, h7, n2, not_false_eq_true, rem L.length (by omega), z2, Option.bind_some]
            rw [g23_49, if_pos (by decide)]
        obtain ⟨h1, s1, X1, L1, eL1, q1, q2, q3, q4, q5, q6, q7, q8, q9, q10, q11, q12, q13⟩ := emp
        have at2 := BK_at (d + 2) q2 (a := 2) (j := 2 * i + 0) (by decide) (show 2 * i + 0 < 26 by omega)
        have ev : X1 2 (2 * i + 0) = nI 1 := by
          rw [q8 2 (by decide), (he i 0 (by omega) (by decide)).2.2, tk1]
        rw [ev] at at2
        obtain ⟨h2, X2, p1, p2, p3, p4, p5, p6⟩ := so_k (a := a) (l3 := .int (nI st)) (l4 := .int 1) (l6 := .int 0) d (i := i) (n := 1) rfl q4 (by omega) 1 0 h1 X1 (by omega) q2
        have v2 : lvS X2 L1 := fun p hp => by rw [p6 4 (by decide)]; exact q7 p hp
        obtain ⟨h3, s3, X3, t1, t2, t3, t4, t5, t6, t7, t8⟩ := c_addLeaf (d + 1) p2 q4 (by omega) v2 (nI 1) (nI i) 0
        have eL2 : (L1 ++ [(nI 1, nI i, (0 : Int32))]).length = L1.length + 1 := by rw [List.length_append]; rfl
        obtain ⟨h4, s4, X4, u1, u2, u3, u4, u5, u6, u7, u8⟩ := c_addLeaf (d + 1) t2 t4 (by rw [eL2]; omega) t7 (nI 1) (nI i) 0
        have eL3 : L1 ++ [(nI 1, nI i, (0 : Int32))] ++ [(nI 1, nI i, (0 : Int32))] = L1 ++ [(1, nI i, 0), (1, nI i, 0)] := by rw [List.append_assoc]; rfl
        rw [eL3] at u4 u7
        rw [← eL1] at nr
        have fr := BF_tr q3 (BF_tr p3 (BF_tr t3 u3))
        have X4c : ∀ c, c ≠ 4 → c ≠ 5 → X4 c = X c := fun c h4 h5 => by rw [u8 c h4, t8 c h4, p6 c h5, q8 c h4]
        have X45 : X4 5 = X2 5 := by rw [u8 5 (by decide), t8 5 (by decide)]
        obtain ⟨h', o1, s', X', o2, o3, o4, o5, o6, o7, o8, o9⟩ := ih (st + 1) (i + 1) (L1 ++ [(1, nI i, 0), (1, nI i, 0)]) h4 s4 X4 (.int 1) (.int (nI 1)) (.int 0) (.int (nI 1)) (by omega) (by omega) nr (Vfr fr) u2 (by rw [u5, t5, q5]; exact h6) u4 u7 (fun j hj => by
            rw [X45]
            by_cases z : j = i
            · subst z
              refine ⟨L1.length, by rw [List.length_append]; show L1.length < L1.length + 2; omega, p4 0 (Nat.le_refl _) (by decide), ?_, fun q hq => ?_⟩
              · rw [← eL3, Lg_old (by rw [eL2]; omega), Lg_new]
                exact ctn_in (by decide) (Nat.le_refl _) (by omega) (by omega) _
              · rw [Lg_old hq]
                exact q11 q hq j (Nat.le_refl _) (by omega)
            · obtain ⟨p, a1, a2, a3, a4⟩ := hp j (by omega)
              refine ⟨p, by rw [List.length_append]; show p < L1.length + 2; omega, ?_, ?_, fun q hq => ?_⟩
              · rw [p5 j (by omega), q8 5 (by decide)]
                exact a2
              · rw [Lg_old (by omega), q12 p a1]
                exact a3
              · rw [Lg_old (by omega), q12 q (by omega)]
                exact a4 q hq) (by
            rw [← eL3]
            exact opS_one (opS_one q11 (Nat.le_succ _) fun j g1 g2 => ctn_out (n := 1) (by omega) (by omega) _) (Nat.le_refl _) fun j g1 g2 => ctn_out (n := 1) (by omega) (by omega) _) (fun q o g1 g2 => by
            unfold enB
            rw [X4c 0 (by decide) (by decide), X4c 1 (by decide) (by decide), X4c 2 (by decide) (by decide)]
            exact he q o g1 g2) (fun q m g1 g2 g3 g4 g5 => by
            rw [X4c 3 (by decide) (by decide)]
            exact ht q m g1 g2 g3 g4 g5) (by rw [X4c 0 (by decide) (by decide)]; exact hx)
        have eP : pgs A (r + 1) i L = pgs A r (i + 1) (L1 ++ [(1, nI i, 0), (1, nI i, 0)]) := by
          show (if A.1 ≤ i then L else if A.2.2.2 (5 * i + 3) = 1 then _ else _) = _
          rw [if_neg hi, if_pos hw, eL1]
        refine ⟨h', ?_, ?_⟩
        · rw [pre]
          simp only [g23_27, c2, ↓reduceIte]
          simp only [g23_30, g23_31, g23_32, g23_35, g23_37, iw, z0, hb0, hwi, Option.bind_some, Option.toList_some, List.cons_append, List.nil_append]
          rw [g23_39, if_neg (by decide), q1]
          have at2' : zcl (d + 3) 75 [.ref (b + 1 + 2), .int (nI (2 * i + 0))] h1 = some (some (.int (nI 1)), h1) := at2
          simp only [g23_59, g23_60, g23_63, g23_64, g23_65, g23_66, g23_67, g23_70, g23_71, g23_72, g23_73, g23_76, g23_78, BK_2 q2, BK_7 q2, q4, n2, not_false_eq_true, rem L1.length (by omega), q9, s2, nI_add, at2', z0, hwi, Option.bind_some, Option.toList_some, List.cons_append, List.nil_append]
          rw [g23_80, if_neg (by decide)]
          simp only [g23_83, g23_84, g23_100, g23_102, g23_103, hwi]
          have p1' : zres (d + 3) 23 105 [.ref b, .ref a, .int (nI i), .int (nI st), .int 1, .int (nI 1), .int 0, .int 0] [] h1 = zres (d + 3) 23 133 [.ref b, .ref a, .int (nI i), .int (nI st), .int 1, .int (nI 1), .int 0, .int (nI 1)] [] h2 := p1
          rw [p1']
          simp only [g23_133, g23_134, g23_136, g23_137, g23_139, g23_142, t1, z0, BK_b p2, Option.bind_some, Option.toList_none, List.nil_append]
          rw [g23_144, if_neg (by decide)]
          simp only [g23_147, g23_148, g23_150, g23_151, g23_153, g23_156, g23_157, g23_159, g23_160, g23_161, g23_164, u1, z0, BK_b t2, nI_add, nI_1, hwi, hwr, Option.bind_some, Option.toList_none, List.nil_append]
          exact o1
        · rw [eP]
          exact ⟨s', X', o2, BF_tr fr o3, by rw [o4, u5, t5, q5], by rw [o5, u6, t6, q6], o6, o7, o8, fun c hc => by rw [o9 c hc, X4c c (by omega) (by omega)]⟩
      · rw [if_neg hw] at iw
        obtain ⟨nr, tk1, tk4, tkO⟩ := rI_plain hA hr hiN hw
        have en := (he i (L.length % 2) (by omega) (by omega)).2.2
        have bt := ht i (DD A i (L.length % 2)).2.2 hiN hw tk1 tk4 tkO
        have tkN := tkO.2.2.2.1
        have eP : pgs A (r + 1) i L = pgs A r (i + (DD A i (L.length % 2)).2.2) (L ++ [(nI (DD A i (L.length % 2)).2.2, nI i, nI (aB A i (DD A i (L.length % 2)).2.2))]) := by
          show (if A.1 ≤ i then L else if A.2.2.2 (5 * i + 3) = 1 then _ else _) = _
          rw [if_neg hi, if_neg hw]
        rw [eP]
        generalize (DD A i (L.length % 2)).2.2 = n at *
        have at2 := BK_at (d + 2) hB (a := 2) (j := 2 * i + L.length % 2) (by decide) (show 2 * i + L.length % 2 < 26 by omega)
        rw [en] at at2
        have at3 := BK_at (d + 2) hB (a := 3) (j := 5 * i + n) (by decide) (show 5 * i + n < 60 by omega)
        rw [bt] at at3
        obtain ⟨h2, X2, p1, p2, p3, p4, p5, p6⟩ := so_k (a := a) (l3 := .int (nI st)) (l4 := .int 0) (l6 := .int (nI (aB A i n))) d (i := i) (n := n) rfl h7 (by omega) n 0 h X (by omega) hB
        have v2 : lvS X2 L := fun p hp => by rw [p6 4 (by decide)]; exact hv p hp
        obtain ⟨h3, s3, X3, t1, t2, t3, t4, t5, t6, t7, t8⟩ := c_addLeaf (d + 1) p2 h7 (by omega) v2 (nI n) (nI i) (nI (aB A i n))
        have fr := BF_tr p3 t3
        have X3c : ∀ c, c ≠ 4 → c ≠ 5 → X3 c = X c := fun c h4 h5 => by rw [t8 c h4, p6 c h5]
        have X35 : X3 5 = X2 5 := t8 5 (by decide)
        have eL2 : (L ++ [(nI n, nI i, nI (aB A i n))]).length = L.length + 1 := by rw [List.length_append]; rfl
        obtain ⟨h', o1, s', X', o2, o3, o4, o5, o6, o7, o8, o9⟩ := ih (st + 1) (i + n) (L ++ [(nI n, nI i, nI (aB A i n))]) h3 s3 X3 (.int 0) (.int (nI n)) (.int (nI (aB A i n))) (.int (nI n)) (by omega) (by omega) nr (Vfr fr) t2 (by rw [t5]; exact h6) t4 t7 (fun j hj => by
            rw [X35]
            by_cases z : i ≤ j
            · refine ⟨L.length, by rw [eL2]; omega, ?_, ?_, fun q hq => ?_⟩
              · have := p4 (j - i) (by omega) (by omega)
                rw [show i + (j - i) = j by omega] at this
                exact this
              · rw [Lg_new]
                exact ctn_in (by omega) z hj (by omega) _
              · rw [Lg_old hq]
                exact ho q hq j z (by omega)
            · obtain ⟨p, a1, a2, a3, a4⟩ := hp j (by omega)
              refine ⟨p, by rw [eL2]; omega, ?_, ?_, fun q hq => ?_⟩
              · rw [p5 j (by omega)]
                exact a2
              · rw [Lg_old a1]
                exact a3
              · rw [Lg_old (by omega)]
                exact a4 q hq) (opS_one ho (by omega) fun j g1 g2 => ctn_out g1 (by omega) _) (fun q o g1 g2 => by
            unfold enB
            rw [X3c 0 (by decide) (by decide), X3c 1 (by decide) (by decide), X3c 2 (by decide) (by decide)]
            exact he q o g1 g2) (fun q m g1 g2 g3 g4 g5 => by
            rw [X3c 3 (by decide) (by decide)]
            exact ht q m g1 g2 g3 g4 g5) (by rw [X3c 0 (by decide) (by decide)]; exact hx)
        refine ⟨h', ?_, s', X', o2, BF_tr fr o3, by rw [o4, t5], by rw [o5, t6], o6, o7, o8, fun c hc => by rw [o9 c hc, X3c c (by omega) (by omega)]⟩
        rw [pre]
        simp only [g23_27, c2, ↓reduceIte]
        simp only [g23_30, g23_31, g23_32, g23_35, g23_37, iw, z0, hb0, hwi, Option.bind_some, Option.toList_some, List.cons_append, List.nil_append]
        rw [g23_39, if_pos rfl]
        have s5 : nI i * 5 + nI n = nI (5 * i + n) := s5k i n
        simp only [g23_59, g23_60, g23_63, g23_64, g23_65, g23_66, g23_67, g23_70, g23_71, g23_72, g23_73, g23_76, g23_78, BK_2 hB, BK_7 hB, h7, n2, not_false_eq_true, rem L.length (by omega), s2, nI_add, at2, z0, hwi, Option.bind_some, Option.toList_some, List.cons_append, List.nil_append]
        rw [g23_80, if_pos rfl]
        simp only [g23_87, g23_88, g23_91, g23_92, g23_93, g23_94, g23_96, g23_97, g23_100, g23_102, g23_103, BK_3 hB, s5, at3, z0, hwi, Option.bind_some, Option.toList_some, List.cons_append, List.nil_append]
        have p1' : zres (d + 3) 23 105 [.ref b, .ref a, .int (nI i), .int (nI st), .int 0, .int (nI n), .int (nI (aB A i n)), .int 0] [] h = zres (d + 3) 23 133 [.ref b, .ref a, .int (nI i), .int (nI st), .int 0, .int (nI n), .int (nI (aB A i n)), .int (nI n)] [] h2 := p1
        rw [p1']
        simp only [g23_133, g23_134, g23_136, g23_137, g23_139, g23_142, t1, z0, BK_b p2, Option.bind_some, Option.toList_none, List.nil_append]
        rw [g23_144, if_pos rfl]
        simp only [g23_156, g23_157, g23_159, g23_160, g23_161, g23_164, nI_add, nI_1, hwi, hwr]
        exact o1
end SETOUT2
