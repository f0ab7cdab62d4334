/-! tree, shape, side, cost, best of the class -/
def zrow (n k : Int32) : Int32 := if zon n ≤ 0 then 0 else (if 0 ≤ n ∧ n < 5 then (zsv 1).getD n.toNatClampNeg 0 else 0) + (k - k / zon n * zon n)
theorem c_rowOf (d : Nat) {h : ZH} (hS : zSta h) (n k : Int32) : zcl (d + 2) 48 [.int n, .int k] h = some (some (.int (zrow n k)), h) := by
  have z0 : zcs [] ≤ 8 := by decide
  have hwi : ∀ x, Value.category (.int x) = 1 := fun _ => rfl
  have h1 := hS 1 (by decide)
  rw [zint_zia] at h1
  have c1 := c_at d n h1 (Or.inr rfl) (by decide)
  rw [show nI (zsv 1).length = 5 from rfl] at c1
  rw [e48]
  unfold zrow
  simp only [g48_0, g48_3, g48_4, g48_7, g48_8, c_at0 d hS, z0, hwi, Option.bind_some, Option.toList_some, List.cons_append, List.nil_append]
  by_cases q : zon n ≤ 0
  · simp only [g48_9, q, ↓reduceIte, g48_26, g48_27]
  · have q0 : ¬ zon n = 0 := fun z => q (by rw [z]; decide)
    simp only [g48_9, q, ↓reduceIte]
    simp only [g48_12, g48_15, g48_16, g48_19, g48_20, g48_21, g48_22, g48_23, g48_27, c1, q0, not_false_eq_true, z0, Option.bind_some, Option.toList_some, List.cons_append, List.nil_append]
def zpsz (row i : Int32) : Int32 := if 0 ≤ i ∧ i ≤ 3 then (if 0 ≤ row * 4 + i ∧ row * 4 + i < 64 then (zsv 2).getD (row * 4 + i).toNatClampNeg 0 else 0) else 0
theorem c_partSize (d : Nat) {h : ZH} (hS : zSta h) (row i : Int32) : zcl (d + 2) 49 [.int row, .int i] h = some (some (.int (zpsz row i)), h) := by
  have z0 : zcs [] ≤ 8 := by decide
  have h2 := hS 2 (by decide)
  rw [zint_zia] at h2
  have c1 := c_at d (row * 4 + i) h2 (Or.inr rfl) (by decide)
  rw [show nI (zsv 2).length = 64 from rfl] at c1
  rw [e49]
  unfold zpsz
  simp only [g49_0, g49_1, g49_2, g49_3, c_within d, z0, Option.bind_some, Option.toList_some, List.cons_append, List.nil_append]
  by_cases q : 0 ≤ i ∧ i ≤ 3
  · rw [if_pos q, if_pos q, g49_6, if_neg (by decide)]
    simp only [g49_9, g49_12, g49_13, g49_14, g49_15, g49_16, g49_17, g49_20, g49_24, c1, z0, Option.bind_some, Option.toList_some, List.cons_append, List.nil_append]
  · rw [if_neg q, if_neg q, g49_6, if_pos rfl, g49_23, g49_24]
def ztre (t : Nat) (i : Int32) : Int32 := if i = -1 then nI (tT t 1 0) else if 0 ≤ i ∧ i < nI (tT t 6 0) then nI (tT t 0 (tT t 4 0 + i.toNatClampNeg)) else -1
theorem tr_cut : ∀ t, t < 31 → zct (nI (tn t)) (nI (tk t)) = nI (tT t 1 0) := by decide +kernel
theorem tr_ps : ∀ t, t < 31 → ∀ j, j < 4 → zpsz (zrow (nI (tn t)) (nI (tk t))) (nI j) = if j < tT t 6 0 then nI (tT t 0 (tT t 4 0 + j)) else 0 := by decide +kernel
theorem tr_6 : ∀ t, t < 31 → tT t 6 0 ≤ 4 := by decide +kernel
theorem tr_0 : ∀ t, t < 31 → ∀ j, j < tT t 6 0 → 0 < tT t 0 (tT t 4 0 + j) ∧ tT t 0 (tT t 4 0 + j) < 5 ∧ tT t 4 0 + j < 8 := by decide +kernel
theorem tft2 : ∀ t, t < 31 → tn t < 5 ∧ 1 ≤ tn t ∧ tk t < th (tn t) ∧ tf (tn t) + tk t = t := by decide +kernel
theorem c_tree (d : Nat) {h : ZH} (hS : zSta h) {t : Nat} (ht : t < 31) (i : Int32) : zcl (d + 3) 59 [.ref 6, .int (nI (tn t)), .int (nI (tk t)), .int i] h = some (some (.int (ztre t i)), h) := by
  have z0 : zcs [] ≤ 8 := by decide
  have zi : ∀ x, zcs [.int x] ≤ 8 := fun _ => Nat.le_of_ble_eq_true rfl
  have hwi : ∀ x, Value.category (.int x) = 1 := fun _ => rfl
  obtain ⟨t1, t2, t3, -⟩ := tft2 t ht
  have tl := th_lt _ t1
  have hm := c_howMany d hS (nI (tn t))
  rw [th_ok _ t1] at hm
  have c0 : ¬ nI (tk t) < 0 := nI_pos (by omega)
  have c1 : nI (tk t) < nI (th (tn t)) := nI_lt t3 (by omega)
  rw [e59]
  simp only [g59_0, g59_1, g59_4, g59_5, g59_6, g59_9, c0, c1, hm, zi, Option.bind_some, Option.toList_some, List.cons_append, List.nil_append, ↓reduceIte]
  simp only [g59_14, g59_15, g59_16]
  unfold ztre
  by_cases q : i = -1
  · rw [if_neg (fun z => z q), if_pos q]
    simp only [g59_19, g59_20, g59_21, g59_24, c_cutOf d hS, tr_cut t ht, z0, Option.bind_some, Option.toList_some, List.cons_append, List.nil_append]
  · rw [if_pos q, if_neg q]
    simp only [g59_25, g59_26, g59_27, g59_30, g59_31, g59_34, c_rowOf d hS, c_partSize d hS, z0, hwi, Option.bind_some, Option.toList_some, List.cons_append, List.nil_append]
    have t6 := tr_6 t ht
    by_cases q2 : 0 ≤ i ∧ i ≤ 3
    · obtain ⟨j1, -, j2⟩ := i_rng (a := 0) (b := 3) (by decide) (by decide) q2.1 q2.2
      generalize i.toNatClampNeg = j at *
      subst j1
      rw [tr_ps t ht j (by omega)]
      by_cases q3 : j < tT t 6 0
      · obtain ⟨a1, a2, a3⟩ := tr_0 t ht j q3
        rw [if_pos q3, if_pos ⟨q2.1, nI_lt q3 (by omega)⟩, g59_36, g59_38, if_neg (nI_nle a1 (by omega)), g59_41, g59_43, g59_47]
      · rw [if_neg q3, if_neg (fun z => nI_nlt (show tT t 6 0 ≤ j by omega) (by omega) z.2), g59_36, g59_38, if_pos (by decide), g59_46, g59_47]
    · have e : zpsz (zrow (nI (tn t)) (nI (tk t))) i = 0 := if_neg q2
      rw [e, if_neg (fun z => q2 ⟨z.1, by
        have := Int32.lt_iff_toInt_lt.mp z.2
        rw [nI_toInt (by omega)] at this
        rw [Int32.le_iff_toInt_le]
        have e3 : (3 : Int32).toInt = 3 := rfl
        omega⟩), g59_36, g59_38, if_pos (by decide), g59_46, g59_47]
theorem c_tree_no (d : Nat) {h : ZH} (hS : zSta h) (n k i : Int32) (hn : ¬ ∃ t, t < 31 ∧ n = nI (tn t) ∧ k = nI (tk t)) : zcl (d + 3) 59 [.ref 6, .int n, .int k, .int i] h = some (some (.int (-1)), h) := by
  have zi : ∀ x, zcs [.int x] ≤ 8 := fun _ => Nat.le_of_ble_eq_true rfl
  have hm := c_howMany d hS n
  rw [e59]
  by_cases q : k < 0
  · simp only [g59_0, g59_1, q, ↓reduceIte, g59_12, g59_13]
  · have q2 : ¬ k < zhm n := fun z => hn (by
      by_cases q3 : 0 ≤ n ∧ n < 5
      · obtain ⟨j1, -, j2⟩ := i_rng (a := 0) (b := 4) (by decide) (by decide) q3.1 (by
          have := Int32.lt_iff_toInt_lt.mp q3.2
          have e5 : (5 : Int32).toInt = 5 := rfl
          show n ≤ nI 4
          rw [Int32.le_iff_toInt_le, nI_toInt (by decide)]
          omega)
        generalize n.toNatClampNeg = m at *
        subst j1
        rw [th_ok m (by omega)] at z
        obtain ⟨k2, k3, rfl⟩ := nI_of q
        have tl := th_lt m (by omega)
        have lt := (nI_ltI k3 (show th m < 2 ^ 31 by omega)).mp z
        obtain ⟨a1, a2, a3⟩ := tft m (by omega) k2 lt
        exact ⟨tf m + k2, a1, by rw [a2], by rw [a3]⟩
      · have e : zhm n = 0 := by
          have e0 : zon n = 0 := if_neg q3
          unfold zhm
          rw [e0]
          by_cases z1 : n = 1
          · rw [if_pos z1]
          · rw [if_neg z1]; rfl
        rw [e] at z
        exact absurd z q)
    simp only [g59_0, g59_1, g59_4, g59_5, g59_6, g59_9, q, q2, hm, zi, Option.bind_some, Option.toList_some, List.cons_append, List.nil_append, ↓reduceIte]
    simp only [g59_12, g59_13]
theorem c_edge (d : Nat) {h : ZH} {cn cW cH le : Int32} {sa sb : Int64} {E : Nat → Int32} (h29 : h[29]? = some (zShc cn cW cH le sa sb)) (h35 : h[35]? = some (10, zia 16 E)) {i c : Nat} (hi : i < 4) (hc : c < 4) : zcl (d + 2) 39 [.ref 29, .int (nI i), .int (nI c)] h = some (some (.int (E (4 * i + c))), h) := by
  have z0 : zcs [] ≤ 8 := by decide
  have u5 : zget h 29 4 5 = some (.ref 35) := (zget_c h29).trans rfl
  have s4 : (4 : Int32) * nI i + nI c = nI (4 * i + c) := by rw [show (4 : Int32) = nI 4 from rfl, pk_mul, nI_add]
  have a := c_at_in d h35 (Or.inl rfl) (i := nI (4 * i + c)) rfl (show 4 * i + c < 16 by omega) (by decide)
  rw [e39]
  simp only [g39_0, g39_1, g39_4, g39_5, g39_6, g39_7, g39_8, g39_9, g39_12, u5, s4, a, z0, Option.bind_some, Option.toList_some, List.cons_append, List.nil_append]
theorem c_reducedSide (d : Nat) {h : ZH} {cn cW cH le : Int32} {u P : Nat} (h29 : h[29]? = some (zShc cn cW cH le (lN u) (lN P))) (hu : u < 2 ^ 31) (hP : P < 2 ^ 31) (hP0 : 0 < P) (x : Int32) : zcl (d + 1) 41 [.ref 29, .int x] h = some (some (.long (if x = 0 then lN (rd1 u P) else lN (rd2 u P))), h) := by
  have hwi : ∀ x, Value.category (.int x) = 1 := fun _ => rfl
  have hwj : Value.category zj = 1 := rfl
  have u10 : zget h 29 4 10 = some (.long (lN u)) := (zget_c h29).trans rfl
  have u11 : zget h 29 4 11 = some (.long (lN P)) := (zget_c h29).trans rfl
  have step : ∀ (a b s : Nat) (l7 l8 : Value), 0 < b → a < 2 ^ 63 → b < 2 ^ 63 → s < 200 → ∀ r, zres d 41 14 [.ref 29, .int x, .long (lN b), zj, .long (lN (a % b)), zj, .int (nI (s + 1)), .long (lN (a % b)), zj] [] h = r → zres d 41 14 [.ref 29, .int x, .long (lN a), zj, .long (lN b), zj, .int (nI s), l7, l8] [] h = r := by
    intro a b s l7 l8 hb ha hb2 hs r hr
    have c1 : ¬ (200 : Int32) ≤ nI s := nI_ge (b := 200) hs (by decide)
    have c2 := lN_nle0 hb hb2
    have c3 := lN_ne0 hb hb2
    simp only [g41_14, g41_16, g41_19, c1, ↓reduceIte]
    simp only [g41_22, g41_24, g41_25, g41_26, lg_le, c2, ↓reduceIte]
    simp only [g41_29, g41_30, g41_32, g41_33, g41_35, g41_37, g41_38, g41_40, g41_42, g41_45, hwi, hwj, c3, not_false_eq_true, pk_lRem ha hb hb2, nI_1]
    exact hr
  have fin : ∀ (a s : Nat) (l7 l8 : Value), 0 < a → a < 2 ^ 63 → s < 200 → a = Nat.gcd u P → zres d 41 14 [.ref 29, .int x, .long (lN a), zj, .long (lN 0), zj, .int (nI s), l7, l8] [] h = some (some (.long (if x = 0 then lN (rd1 u P) else lN (rd2 u P))), h) := by
    intro a s l7 l8 ha ha2 hs he
    have c1 : ¬ (200 : Int32) ≤ nI s := nI_ge (b := 200) hs (by decide)
    have c2 : lN 0 ≤ (0 : Int64) := by decide
    have c3 := lN_nle0 ha ha2
    have c4 := lN_ne0 ha ha2
    simp only [g41_14, g41_16, g41_19, c1, ↓reduceIte]
    simp only [g41_22, g41_24, g41_25, g41_26, lg_le, c2, ↓reduceIte]
    simp only [g41_48, g41_49]
    by_cases q : x = 0
    · rw [if_neg (fun z => z q), if_pos q]
      simp only [g41_52, g41_53, g41_56, g41_63, g41_65, g41_66, g41_67, g41_68, u10, hwi, hwj, lg_le, c3, Option.bind_some, ↓reduceIte]
      simp only [g41_71, g41_73, g41_74, g41_75, g41_81, c4, not_false_eq_true, pk_lDiv (show u < 2 ^ 63 by omega) ha ha2]
      rw [he]
      rfl
    · rw [if_pos q, if_neg q]
      simp only [g41_59, g41_60, g41_63, g41_65, g41_66, g41_67, g41_68, u11, hwi, hwj, lg_le, c3, Option.bind_some, ↓reduceIte]
      simp only [g41_71, g41_73, g41_74, g41_75, g41_81, c4, not_false_eq_true, pk_lDiv (show P < 2 ^ 63 by omega) ha ha2]
      rw [he]
      rfl
  have loop : ∀ (n a b s : Nat) (l7 l8 : Value), b ≤ a → 0 < a → a < 2 ^ 63 → a * b < 2 ^ n → s + n < 200 → Nat.gcd a b = Nat.gcd u P → zres d 41 14 [.ref 29, .int x, .long (lN a), zj, .long (lN b), zj, .int (nI s), l7, l8] [] h = some (some (.long (if x = 0 then lN (rd1 u P) else lN (rd2 u P))), h) := by
    intro n
    induction n with
    | zero =>
      intro a b s l7 l8 hba ha ha2 hp hs hg
      obtain rfl : b = 0 := by
        rcases Nat.eq_zero_or_pos b with z | z
        · exact z
        · have := Nat.mul_pos ha z
          omega
      rw [Nat.gcd_zero_right] at hg
      exact fin a s l7 l8 ha ha2 (by omega) hg
    | succ n ih =>
      intro a b s l7 l8 hba ha ha2 hp hs hg
      rcases Nat.eq_zero_or_pos b with z | z
      · subst z
        rw [Nat.gcd_zero_right] at hg
        exact fin a s l7 l8 ha ha2 (by omega) hg
      · refine step a b s l7 l8 z ha2 (by omega) (by omega) _ ?_
        have m1 : a % b < b := Nat.mod_lt a z
        have m2 : 2 * (a % b) ≤ a := by
          have := Nat.div_add_mod a b
          have d1 : 1 ≤ a / b := (Nat.le_div_iff_mul_le z).mpr (by omega)
          have := Nat.mul_le_mul_left b d1
          omega
        refine ih b (a % b) (s + 1) _ _ (by omega) z (by omega) ?_ (by omega) ?_
        · have m3 := Nat.mul_le_mul_left b m2
          have e : b * (2 * (a % b)) = 2 * (b * (a % b)) := Nat.mul_left_comm _ _ _
          rw [Nat.mul_comm b a] at m3
          have e2 : 2 ^ (n + 1) = 2 * 2 ^ n := by rw [Nat.pow_succ, Nat.mul_comm]
          omega
        · rw [← hg, Nat.gcd_comm a b, Nat.gcd_rec b a, Nat.gcd_comm]
  rw [e41]
  simp only [g41_0, g41_1, g41_4, g41_5, g41_6, g41_9, g41_11, g41_12, u10, u11, hwi, hwj, Option.bind_some]
  refine step u P 0 zj zj hP0 (by omega) (by omega) (by omega) _ ?_
  have m1 : u % P < P := Nat.mod_lt u hP0
  refine loop 70 P (u % P) (0 + 1) _ _ (by omega) hP0 (by omega) ?_ (by omega) (by rw [Nat.gcd_comm u P, Nat.gcd_rec P u, Nat.gcd_comm])
  have := Nat.mul_le_mul (Nat.le_of_lt hP) (show u % P ≤ 2 ^ 31 by omega)
  exact Nat.lt_of_le_of_lt this (by decide)
section API
variable {A : AV} {P F : Nat} {e : Int32} {h : ZH}
theorem zFe_iff {x y : Int32} {N : Nat} {f : Nat → Int32} {s m : Nat} (hx : x = nI s) (hy : y = nI m) (h : zFe N f s m) : ∃ s m, x = nI s ∧ y = nI m ∧ zFe N f s m := ⟨s, m, hx, hy, h⟩
theorem c_cost (d : Nat) (h6 : h[6]? = some (zObj P F e)) (hA : zVa A) (hI : zShI h) (hV : zAv h 7 A) {s m k : Nat} (hF : zFe A.1 A.2.2.2 s m) (hk : k < th m) :
    ∃ h', zcl (d + 4) 62 [.ref 6, .int (nI s), .int (nI m), .int (nI k)] h = some (some (.int (nI (aC A s m k))), h') ∧ zShI h' ∧ zShF h h' := by
  have z0 : zcs [] ≤ 8 := by decide
  obtain ⟨-, -, -, -, -, -, -, -, cn, cW, cH, le, sa, sb, h29⟩ := id hI
  have hb4 : (h[29]?).map (fun c => c.1) = some 4 := by rw [h29]; rfl
  obtain ⟨h1, fw, fq, fv, t1, t2, t3, t4, t5, t6, t7, t8⟩ := c_take d hI h29 hV hA.1 (by decide) hA.2.1.2 hF
  obtain ⟨h2, E, l1, l2, l3, -, -, l6⟩ := c_layT d hA hF ⟨t2, t4, fw, fq, fv, t5, t6, t7, t8⟩ hk
  have ex := l6 (d + 1)
  have u0 : zget h 6 6 0 = some (.ref 7) := (zget_c h6).trans rfl
  have u3 : zget h 6 6 3 = some (.ref 29) := (zget_c h6).trans rfl
  have u3b : zget h1 6 6 3 = some (.ref 29) := (zget_c ((t3 6 (by omega)).trans h6)).trans rfl
  have u3c : zget h2 6 6 3 = some (.ref 29) := (zget_c ((l3 6 (by omega)).trans ((t3 6 (by omega)).trans h6))).trans rfl
  have hb5 : (h1[29]?).map (fun c => c.1) = some 4 := by rw [t4]; rfl
  have hb6 : (h2[29]?).map (fun c => c.1) = some 4 := by rw [l2.2.1]; rfl
  rw [e62]
  simp only [g62_0, g62_1, g62_4, g62_5, g62_8, g62_9, g62_10, u0, u3, t1, z0, hb4, Option.bind_some, Option.toList_some, List.cons_append, List.nil_append]
  rw [g62_13, if_neg (by decide)]
  simp only [g62_16, g62_17, g62_20, g62_21, u3b, l1, z0, hb5, Option.bind_some, Option.toList_some, List.cons_append, List.nil_append]
  rw [g62_24, if_neg (by decide)]
  simp only [g62_27, g62_28, g62_31, g62_34, g62_38, u3c, ex, z0, hb6, Option.bind_some, Option.toList_some, List.cons_append, List.nil_append]
  exact ⟨h2, rfl, l2.1, zShF_tr t3 l3⟩
theorem c_cost_no (d : Nat) (h6 : h[6]? = some (zObj P F e)) (hA : zVa A) (hI : zShI h) (hV : zAv h 7 A) {x y z : Int32} (hn : ¬ ∃ s m k, x = nI s ∧ y = nI m ∧ z = nI k ∧ zFe A.1 A.2.2.2 s m ∧ k < th m) :
    ∃ h', zcl (d + 4) 62 [.ref 6, .int x, .int y, .int z] h = some (some (.int (-1)), h') ∧ zShI h' ∧ zShF h h' := by
  have z0 : zcs [] ≤ 8 := by decide
  obtain ⟨-, -, -, -, -, -, -, -, cn, cW, cH, le, sa, sb, h29⟩ := id hI
  have hb4 : (h[29]?).map (fun c => c.1) = some 4 := by rw [h29]; rfl
  have u0 : zget h 6 6 0 = some (.ref 7) := (zget_c h6).trans rfl
  have u3 : zget h 6 6 3 = some (.ref 29) := (zget_c h6).trans rfl
  rw [e62]
  by_cases q : ∃ s m, x = nI s ∧ y = nI m ∧ zFe A.1 A.2.2.2 s m
  · obtain ⟨s, m, rfl, rfl, hF⟩ := q
    obtain ⟨h1, fw, fq, fv, t1, t2, t3, t4, t5, t6, t7, t8⟩ := c_take d hI h29 hV hA.1 (by decide) hA.2.1.2 hF
    have u3b : zget h1 6 6 3 = some (.ref 29) := (zget_c ((t3 6 (by omega)).trans h6)).trans rfl
    have hb5 : (h1[29]?).map (fun c => c.1) = some 4 := by rw [t4]; rfl
    have tl := th_lt m (by have := hF.2.1; omega)
    have no := c_lay_no d t2.1 t4 hF.2.1 (k := z) (fun w => hn (by
      obtain ⟨k, k1, rfl⟩ := nI_of (i_nlt.mpr w.1)
      exact ⟨s, m, k, rfl, rfl, rfl, hF, (nI_ltI k1 (by omega)).mp w.2⟩))
    simp only [g62_0, g62_1, g62_4, g62_5, g62_8, g62_9, g62_10, u0, u3, t1, z0, hb4, Option.bind_some, Option.toList_some, List.cons_append, List.nil_append]
    rw [g62_13, if_neg (by decide)]
    simp only [g62_16, g62_17, g62_20, g62_21, u3b, no, z0, hb5, Option.bind_some, Option.toList_some, List.cons_append, List.nil_append]
    rw [g62_24, if_pos rfl, g62_37, g62_38]
    exact ⟨h1, rfl, t2, t3⟩
  · obtain ⟨h1, t1, t2, t3, -⟩ := c_take_no d hI hV hA.1 (by decide) q
    simp only [g62_0, g62_1, g62_4, g62_5, g62_8, g62_9, g62_10, u0, u3, t1, z0, hb4, Option.bind_some, Option.toList_some, List.cons_append, List.nil_append]
    rw [g62_13, if_pos rfl, g62_37, g62_38]
    exact ⟨h1, rfl, t2, t3⟩
theorem c_best (d : Nat) (h6 : h[6]? = some (zObj P F e)) (hA : zVa A) (hI : zShI h) (hV : zAv h 7 A) {s m : Nat} (hF : zFe A.1 A.2.2.2 s m) :
    ∃ h', zcl (d + 5) 63 [.ref 6, .int (nI s), .int (nI m)] h = some (some (.int (nI (aB A s m))), h') ∧ zShI h' ∧ zShF h h' := by
  have z0 : zcs [] ≤ 8 := by decide
  obtain ⟨-, -, -, -, -, -, -, -, cn, cW, cH, le, sa, sb, h29⟩ := id hI
  have hb4 : (h[29]?).map (fun c => c.1) = some 4 := by rw [h29]; rfl
  have u0 : zget h 6 6 0 = some (.ref 7) := (zget_c h6).trans rfl
  have u3 : zget h 6 6 3 = some (.ref 29) := (zget_c h6).trans rfl
  obtain ⟨h1, sa', sb', l1, l2, l3⟩ := c_layBest d hA hI hV (by decide) hF
  rw [e63]
  simp only [g63_0, g63_1, g63_4, g63_5, g63_8, g63_9, g63_10, g63_13, u0, u3, l1, z0, hb4, Option.bind_some, Option.toList_some, List.cons_append, List.nil_append]
  exact ⟨h1, rfl, l2.1, l3⟩
theorem c_best_no (d : Nat) (h6 : h[6]? = some (zObj P F e)) (hA : zVa A) (hI : zShI h) (hV : zAv h 7 A) {x y : Int32} (hn : ¬ ∃ s m, x = nI s ∧ y = nI m ∧ zFe A.1 A.2.2.2 s m) :
    ∃ h', zcl (d + 5) 63 [.ref 6, .int x, .int y] h = some (some (.int (-1)), h') ∧ zShI h' ∧ zShF h h' := by
  have z0 : zcs [] ≤ 8 := by decide
  obtain ⟨-, -, -, -, -, -, -, -, cn, cW, cH, le, sa, sb, h29⟩ := id hI
  have hb4 : (h[29]?).map (fun c => c.1) = some 4 := by rw [h29]; rfl
  have u0 : zget h 6 6 0 = some (.ref 7) := (zget_c h6).trans rfl
  have u3 : zget h 6 6 3 = some (.ref 29) := (zget_c h6).trans rfl
  obtain ⟨h1, l1, l2, l3⟩ := c_layBest_no d hA hI hV (by decide) hn
  rw [e63]
  simp only [g63_0, g63_1, g63_4, g63_5, g63_8, g63_9, g63_10, g63_13, u0, u3, l1, z0, hb4, Option.bind_some, Option.toList_some, List.cons_append, List.nil_append]
  exact ⟨h1, rfl, l2, l3⟩
end API
