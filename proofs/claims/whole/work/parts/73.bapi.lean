/-! WHAT A BOOK ANSWERS, in the class -/
def lfv (L : List PG) (x y : Int32) : Int32 := if (0 ≤ x ∧ x < nI L.length) ∧ (0 ≤ y ∧ y < 3) then (if y = 0 then (Lg L x.toNatClampNeg).1 else if y = 1 then (Lg L x.toNatClampNeg).2.1 else (Lg L x.toNatClampNeg).2.2) else -1
/-- the first page that is otherwise -/
def fuP (L K : List PG) (n : Nat) : Prop := n ≤ min L.length K.length ∧ (∀ p, p < n → Lg L p = Lg K p) ∧ (n = min L.length K.length ∨ ¬ Lg L n = Lg K n)
theorem fuP_one {L K : List PG} {m n : Nat} (h1 : fuP L K m) (h2 : fuP L K n) : m = n := by
  rcases Nat.lt_trichotomy m n with z | z | z
  · rcases h1.2.2 with w | w
    · have := h2.1; omega
    · exact absurd (h2.2.1 m z) w
  · exact z
  · rcases h2.2.2 with w | w
    · have := h1.1; omega
    · exact absurd (h1.2.1 n z) w
theorem pgs_len {A : AV} (hA : zVa A) : ∀ (r i : Nat) (L : List PG), rI A i L → (pgs A r i L).length ≤ 24
  | 0, i, L, h => by
    have h3 := h.2.2.1
    have h4 := h.2.2.2
    have := hA.1
    show L.length ≤ 24
    omega
  | r + 1, i, L, h => by
    have h3 := h.2.2.1
    have h4 := h.2.2.2
    have := hA.1
    show (if A.1 ≤ i then L else if A.2.2.2 (5 * i + 3) = 1 then _ else _).length ≤ 24
    by_cases hi : A.1 ≤ i
    · rw [if_pos hi]; omega
    · rw [if_neg hi]
      by_cases hw : A.2.2.2 (5 * i + 3) = 1
      · rw [if_pos hw]
        exact pgs_len hA r _ _ (rI_wide hA h (by omega) hw).1
      · rw [if_neg hw]
        exact pgs_len hA r _ _ (rI_plain hA h (by omega) hw).1
theorem PGS_len {A : AV} (hA : zVa A) : (PGS A).length ≤ 24 := by
  unfold PGS
  cases hd : (DD A 0 0).1 with
  | none => exact Nat.zero_le _
  | some v => exact pgs_len hA 12 0 [] ⟨fun t => absurd t.1 (Nat.lt_irrefl _), ⟨v, hd⟩, by decide, Nat.zero_le _⟩
section BAPI
variable {h : ZH} {b : Nat} {A : AV}
theorem zBook_fr {k : ZH} (hB : zBook h b A) (hf : ∀ a : Nat, b ≤ a → a ≤ b + 6 → k[a]? = h[a]?) : zBook k b A := by
  obtain ⟨s, X, h1, h2⟩ := hB
  exact ⟨s, X, BK_fr h1 hf, h2⟩
theorem zBook_b (hB : zBook h b A) : (h[b]?).map (fun c => c.1) = some 1 := by
  obtain ⟨s, X, h1, -⟩ := hB
  exact BK_b h1
theorem en1_ex (hA : zVa A) : (en1 (DD A 0 0).1 = -1 ↔ (DD A 0 0).1 = none) := by
  cases hd : (DD A 0 0).1 with
  | none => exact ⟨fun _ => rfl, fun _ => rfl⟩
  | some v => exact ⟨fun w => absurd w (nI_m1 (by have := DD_lt hA (show 0 ≤ 1 by decide) hd; omega)), fun w => by cases w⟩
theorem b_exists (d : Nat) (hA : zVa A) (hB : zBook h b A) : zcl (d + 1) 13 [.ref b] h = some (some (.int (exI A)), h) := by
  obtain ⟨s, X, h1, h2, h3, h4, -⟩ := hB
  rw [c_exists d h1, h4.1]
  unfold exI
  cases hd : (DD A 0 0).1 with
  | none =>
    rw [if_pos (show en1 none = -1 from rfl)]
  | some v =>
    rw [if_neg (show ¬ en1 (some v) = -1 from nI_m1 (by have := DD_lt hA (show 0 ≤ 1 by decide) hd; omega))]
theorem b_expense (d : Nat) (hB : zBook h b A) : zcl (d + 1) 14 [.ref b] h = some (some (.int (en1 (DD A 0 0).1)), h) := by
  obtain ⟨s, X, h1, h2, h3, h4, -⟩ := hB
  have r0 : zald 10 h (b + 1 + 0) 0 = some (.int (X 0 0)) := zald_ia (h1.2 0 (by decide)) rfl (show (0 : Int32) = nI 0 from rfl) (show 0 < bn 0 by decide) (by decide)
  rw [h4.1] at r0
  rw [e14]
  simp only [g14_0, g14_1, g14_4, g14_5, g14_6, BK_0 h1, r0, Option.bind_some]
theorem b_howMany (d : Nat) (hB : zBook h b A) : zcl (d + 1) 15 [.ref b] h = some (some (.int (DD A 0 0).2.1), h) := by
  obtain ⟨s, X, h1, h2, h3, h4, -⟩ := hB
  have r0 : zald 10 h (b + 1 + 1) 0 = some (.int (X 1 0)) := zald_ia (h1.2 1 (by decide)) rfl (show (0 : Int32) = nI 0 from rfl) (show 0 < bn 1 by decide) (by decide)
  rw [h4.2.1] at r0
  rw [e15]
  simp only [g15_0, g15_1, g15_4, g15_5, g15_6, BK_1 h1, r0, Option.bind_some]
theorem b_leaf (d : Nat) (hA : zVa A) (hB : zBook h b A) (x y : Int32) : zcl (d + 2) 16 [.ref b, .int x, .int y] h = some (some (.int (lfv (PGS A) x y)), h) := by
  obtain ⟨s, X, h1, h2, h3, h4, h5, h6, -⟩ := hB
  have z0 : zcs [] ≤ 8 := by decide
  have len := PGS_len hA
  have no : ∀ L, zres (d + 1) 16 21 L [] h = some (some (.int (-1)), h) := fun L => by rw [g16_21, g16_22]
  rw [e16]
  unfold lfv
  by_cases q1 : x < 0
  · rw [if_neg (fun w => absurd q1 (i_nlt.mpr w.1.1))]
    simp only [g16_0, g16_1, q1, ↓reduceIte]
    exact no _
  simp only [g16_0, g16_1, q1, ↓reduceIte]
  by_cases q2 : nI (PGS A).length ≤ x
  · rw [if_neg (fun w => absurd w.1.2 (i_nlt.mpr q2))]
    simp only [g16_4, g16_5, g16_6, g16_9, BK_7 h1, h5, q2, Option.bind_some, ↓reduceIte]
    exact no _
  simp only [g16_4, g16_5, g16_6, g16_9, BK_7 h1, h5, q2, Option.bind_some, ↓reduceIte]
  by_cases q3 : y < 0
  · rw [if_neg (fun w => absurd q3 (i_nlt.mpr w.2.1))]
    simp only [g16_12, g16_13, q3, ↓reduceIte]
    exact no _
  simp only [g16_12, g16_13, q3, ↓reduceIte]
  by_cases q4 : y < 3
  · rw [if_pos ⟨⟨i_nlt.mp q1, i_nle.mp q2⟩, i_nlt.mp q3, q4⟩]
    obtain ⟨j, j1, rfl⟩ := nI_of q1
    have jl := (nI_ltI j1 (show (PGS A).length < 2 ^ 31 by omega)).mp (i_nle.mp q2)
    rw [nI_clamp j1]
    obtain ⟨l1, l2, l3⟩ := h6 j jl
    have e : ∃ c, c < 3 ∧ y = nI c := by
      rcases pk_ix y (n := 3) (by decide) with w | w | w
      · exact absurd w q3
      · exact absurd q4 (i_nlt.mpr w)
      · exact w
    obtain ⟨c, c3, rfl⟩ := e
    have s3 : nI j * 3 + nI c = nI (3 * j + c) := by rw [show (3 : Int32) = nI 3 from rfl, pk_mul, nI_add, Nat.mul_comm]
    have at4 := BK_at d h1 (a := 4) (j := 3 * j + c) (by decide) (show 3 * j + c < 72 by omega)
    simp only [g16_16, g16_17, g16_18, q4, ↓reduceIte]
    simp only [g16_23, g16_24, g16_27, g16_28, g16_29, g16_30, g16_31, g16_32, g16_35, BK_4 h1, s3, at4, z0, Option.bind_some, Option.toList_some, List.cons_append, List.nil_append]
    match c, c3 with
    | 0, _ => rw [Nat.add_zero, l1]; rfl
    | 1, _ => rw [l2]; rfl
    | 2, _ => rw [l3]; rfl
  · rw [if_neg (fun w => q4 w.2.2)]
    simp only [g16_16, g16_17, g16_18, q4, ↓reduceIte]
    exact no _
theorem b_pageWith (d : Nat) (hA : zVa A) (hB : zBook h b A) {j v : Nat} (hj : j < A.1) (hv : (DD A 0 0).1 = some v) : ∃ p, zcl (d + 2) 17 [.ref b, .int (nI j)] h = some (some (.int (nI p)), h) ∧ p < (PGS A).length ∧ ctn (Lg (PGS A) p) j ∧ ∀ q, q < p → ¬ ctn (Lg (PGS A) q) j := by
  have ex := b_exists d hA hB
  obtain ⟨s, X, h1, h2, h3, h4, h5, h6, h7⟩ := hB
  have z0 : zcs [] ≤ 8 := by decide
  have N12 := hA.1
  have ex1 : exI A = 1 := by unfold exI; rw [hv]
  rw [ex1] at ex
  rcases h7 with w | w
  · rw [hv] at w; cases w
  · obtain ⟨p, p1, p2, p3, p4⟩ := w j hj
    have at5 := BK_at d h1 (a := 5) (j := j) (by decide) (show j < 12 by omega)
    rw [p2] at at5
    have c1 : ¬ nI j < 0 := nI_pos (by omega)
    have c2 : ¬ nI A.1 ≤ nI j := nI_ge hj (by omega)
    refine ⟨p, ?_, p1, p3, p4⟩
    rw [e17]
    simp only [g17_0, g17_1, ex, z0, BK_b h1, Option.bind_some, Option.toList_some, List.cons_append, List.nil_append]
    rw [g17_4, if_neg (by decide)]
    simp only [g17_7, g17_8, c1, ↓reduceIte]
    simp only [g17_11, g17_12, g17_13, g17_16, BK_6 h1, h3, c2, Option.bind_some, ↓reduceIte]
    simp only [g17_19, g17_20, g17_23, g17_24, g17_27, g17_31, BK_5 h1, at5, z0, Option.bind_some, Option.toList_some, List.cons_append, List.nil_append]
theorem b_pageWith_no (d : Nat) (hA : zVa A) (hB : zBook h b A) (x : Int32) (hn : ¬ ((0 ≤ x ∧ x < nI A.1) ∧ ∃ v, (DD A 0 0).1 = some v)) : zcl (d + 2) 17 [.ref b, .int x] h = some (some (.int (-1)), h) := by
  have ex := b_exists d hA hB
  obtain ⟨s, X, h1, h2, h3, h4, h5, h6, h7⟩ := hB
  have z0 : zcs [] ≤ 8 := by decide
  have no : ∀ L, zres (d + 1) 17 30 L [] h = some (some (.int (-1)), h) := fun L => by rw [g17_30, g17_31]
  rw [e17]
  simp only [g17_0, g17_1, ex, z0, BK_b h1, Option.bind_some, Option.toList_some, List.cons_append, List.nil_append]
  cases hd : (DD A 0 0).1 with
  | none =>
    have ex1 : exI A = 0 := by unfold exI; rw [hd]
    rw [ex1, g17_4, if_pos rfl]
    exact no _
  | some v =>
    have ex1 : exI A = 1 := by unfold exI; rw [hd]
    rw [ex1, g17_4, if_neg (by decide)]
    by_cases q1 : x < 0
    · simp only [g17_7, g17_8, q1, ↓reduceIte]
      exact no _
    · have q2 : nI A.1 ≤ x := i_nlt.mp fun w => hn ⟨⟨i_nlt.mp q1, w⟩, v, hd⟩
      simp only [g17_7, g17_8, q1, ↓reduceIte]
      simp only [g17_11, g17_12, g17_13, g17_16, BK_6 h1, h3, q2, Option.bind_some, ↓reduceIte]
      exact no _
theorem lfv_in {L : List PG} {j c : Nat} (hL : L.length ≤ 24) (hj : j < L.length) (hc : c < 3) : lfv L (nI j) (nI c) = (if c = 0 then (Lg L j).1 else if c = 1 then (Lg L j).2.1 else (Lg L j).2.2) := by
  unfold lfv
  rw [if_pos ⟨⟨nI_pos' (by omega), nI_lt hj (by omega)⟩, nI_pos' (by omega), show nI c < nI 3 from nI_lt hc (by decide)⟩, nI_clamp (by omega)]
  match c, hc with
  | 0, _ => rfl
  | 1, _ => rfl
  | 2, _ => rfl
theorem b_firstUnlike (d : Nat) {b2 : Nat} {B : AV} (hA : zVa A) (hB : zVa B) (h1 : zBook h b A) (h2 : zBook h b2 B) : ∃ n, zcl (d + 3) 18 [.ref b, .ref b2] h = some (some (.int (nI n)), h) ∧ fuP (PGS A) (PGS B) n := by
  have l1 := PGS_len hA
  have l2 := PGS_len hB
  have lf1 := fun x y => b_leaf d hA h1 x y
  have lf2 := fun x y => b_leaf d hB h2 x y
  have bb1 := zBook_b h1
  have bb2 := zBook_b h2
  obtain ⟨s, X, k1, -, -, -, k5, -⟩ := h1
  obtain ⟨s', X', j1, -, -, -, j5, -⟩ := h2
  have z0 : zcs [] ≤ 8 := by decide
  have zi : ∀ x, zcs [.int x] ≤ 8 := fun _ => Nat.le_of_ble_eq_true rfl
  have hwi : ∀ x, Value.category (.int x) = 1 := fun _ => rfl
  have hwr : ∀ x, Value.category (.ref x) = 1 := fun _ => rfl
  have hwj : Value.category zj = 1 := rfl
  generalize PGS A = L at *
  generalize PGS B = K at *
  have em : (if nI K.length < nI L.length then nI K.length else nI L.length) = nI (min L.length K.length) := by
    by_cases z : K.length < L.length
    · rw [if_pos (nI_lt z (by omega)), Nat.min_eq_right (by omega)]
    · rw [if_neg (nI_nlt (by omega) (by omega)), Nat.min_eq_left (by omega)]
  -- one page
  have page : ∀ (p : Nat), p < min L.length K.length → ∀ (r c : Nat), c + r = 3 → (∀ c', c' < c → lfv L (nI p) (nI c') = lfv K (nI p) (nI c')) → (zres (d + 2) 18 22 [.ref b, .ref b2, .int (nI (min L.length K.length)), .int (nI p), .int (nI c)] [] h = zres (d + 2) 18 53 [.ref b, .ref b2, .int (nI (min L.length K.length)), .int (nI p), .int (nI 3)] [] h ∧ Lg L p = Lg K p) ∨ (zres (d + 2) 18 22 [.ref b, .ref b2, .int (nI (min L.length K.length)), .int (nI p), .int (nI c)] [] h = some (some (.int (nI p)), h) ∧ ¬ Lg L p = Lg K p) := by
    intro p hp r
    induction r with
    | zero =>
      intro c hc hh
      obtain rfl : c = 3 := by omega
      have c1 : (3 : Int32) ≤ nI 3 := by decide
      refine Or.inl ⟨?_, ?_⟩
      · simp only [g18_22, g18_24, g18_25, c1, ↓reduceIte]
      · have a0 := hh 0 (by decide)
        have a1 := hh 1 (by decide)
        have a2 := hh 2 (by decide)
        rw [lfv_in l1 (by omega) (by decide), lfv_in l2 (by omega) (by decide)] at a0 a1 a2
        exact Prod.ext a0 (Prod.ext a1 a2)
    | succ r ih =>
      intro c hc hh
      have c1 : ¬ (3 : Int32) ≤ nI c := nI_ge (b := 3) (by omega) (by decide)
      have pre : zres (d + 2) 18 22 [.ref b, .ref b2, .int (nI (min L.length K.length)), .int (nI p), .int (nI c)] [] h = zres (d + 2) 18 42 [.ref b, .ref b2, .int (nI (min L.length K.length)), .int (nI p), .int (nI c)] [.int (lfv K (nI p) (nI c)), .int (lfv L (nI p) (nI c))] h := by
        simp only [g18_22, g18_24, g18_25, c1, ↓reduceIte]
        simp only [g18_28, g18_29, g18_30, g18_32, g18_35, g18_36, g18_37, g18_39, lf1, lf2, z0, zi, bb1, bb2, Option.bind_some, Option.toList_some, List.cons_append, List.nil_append]
      rw [pre]
      by_cases q : lfv L (nI p) (nI c) = lfv K (nI p) (nI c)
      · rw [g18_42, if_pos q]
        simp only [g18_47, g18_50, hwi, nI_1]
        exact ih (c + 1) (by omega) (fun c' h' => by
          by_cases z : c' = c
          · rw [z]; exact q
          · exact hh c' (by omega))
      · rw [g18_42, if_neg q, g18_45, g18_46]
        refine Or.inr ⟨rfl, fun w => q ?_⟩
        rw [lfv_in l1 (by omega) (by omega), lfv_in l2 (by omega) (by omega), w]
  have loop : ∀ (r p : Nat) (l4 : Value), p + r = min L.length K.length → (∀ q, q < p → Lg L q = Lg K q) → ∃ n, zres (d + 2) 18 14 [.ref b, .ref b2, .int (nI (min L.length K.length)), .int (nI p), l4] [] h = some (some (.int (nI n)), h) ∧ fuP L K n := by
    intro r
    induction r with
    | zero =>
      intro p l4 hp hh
      obtain rfl : p = min L.length K.length := by omega
      have c1 : nI (min L.length K.length) ≤ nI (min L.length K.length) := nI_le (Nat.le_refl _) (by omega)
      refine ⟨min L.length K.length, ?_, Nat.le_refl _, hh, Or.inl rfl⟩
      simp only [g18_14, g18_15, g18_16, c1, ↓reduceIte, g18_59, g18_60]
    | succ r ih =>
      intro p l4 hp hh
      have c1 : ¬ nI (min L.length K.length) ≤ nI p := nI_ge (by omega) (by omega)
      have pre : zres (d + 2) 18 14 [.ref b, .ref b2, .int (nI (min L.length K.length)), .int (nI p), l4] [] h = zres (d + 2) 18 22 [.ref b, .ref b2, .int (nI (min L.length K.length)), .int (nI p), .int (nI 0)] [] h := by
        simp only [g18_14, g18_15, g18_16, c1, ↓reduceIte]
        simp only [g18_19, g18_20, hwi]
        rfl
      rw [pre]
      rcases page p (by omega) 3 0 (by omega) (fun c' h' => absurd h' (Nat.not_lt_zero c')) with ⟨w1, w2⟩ | ⟨w1, w2⟩
      · rw [w1]
        obtain ⟨n, o1, o2⟩ := ih (p + 1) (.int (nI 3)) (by omega) (fun q hq => by
          by_cases z : q = p
          · rw [z]; exact w2
          · exact hh q (by omega))
        refine ⟨n, ?_, o2⟩
        simp only [g18_53, g18_56, hwi, nI_1]
        exact o1
      · exact ⟨p, w1, by omega, hh, Or.inr w2⟩
  obtain ⟨n, o1, o2⟩ := loop (min L.length K.length) 0 zj (by omega) (fun q hq => absurd hq (Nat.not_lt_zero q))
  refine ⟨n, ?_, o2⟩
  rw [e18]
  simp only [g18_0, g18_1, g18_4, g18_5, g18_8, g18_11, g18_12, g18_13, BK_7 k1, BK_7 j1, k5, j5, em, z0, hwi, hwr, Option.bind_some]
  exact o1
end BAPI
