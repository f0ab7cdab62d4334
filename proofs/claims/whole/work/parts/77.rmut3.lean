section RMUT3
variable {p : ZP} {S : Nat → Int32} {G : Nat → Nat → Int32} {Q : Nat → Nat → Int64} {A : AV} {kept : Nat} {K : Nat → AV}
theorem ix35k (i k : Nat) : (3 : Int32) + 5 * nI i + nI k = nI (3 + (5 * i + k)) := by rw [ix35, nI_add, Nat.add_assoc]
theorem r_swap (d : Nat) (hR : zRs S G A) (hA : zVa A) (h3 : S 3 = nI kept) (hk : kept ≤ 8) (hK : kR (G 2) kept K) (hV : ∀ m, m < kept → (K m).1 ≤ 12) {i j : Nat} (hi : i < A.1) (hj : j < A.1) : ∃ S' G' Q', zcl (d + 12) 87 [.ref 256, .int (nI i), .int (nI j)] (zRh p S G Q) = some (some (.int 1), zRh p S' G' Q') ∧ zrD S S' G' A (A.1, A.2.1, A.2.2.1, zsw A.2.2.2 i j 5) (min (kept + 1) 8) (kNx kept K A) := by
  have z0 : zcs [] ≤ 8 := by decide
  have hwi : ∀ x, Value.category (.int x) = 1 := fun _ => rfl
  have N12 := hA.1
  obtain ⟨S1, G1, b0, b2, kp⟩ := c_bk hR hA h3 hk hK hV
  obtain ⟨S2, G2, Q2, o1, o2, o3⟩ := kp d p Q
  have ip := c_isPic (p := p) (S := S1) (G := G1) (Q := Q) (d + 10) b2.1 (nI i)
  rw [if_pos ⟨nI_pos' (by omega), nI_lt hi (by omega)⟩] at ip
  have jp := c_isPic (p := p) (S := S1) (G := G1) (Q := Q) (d + 10) b2.1 (nI j)
  rw [if_pos ⟨nI_pos' (by omega), nI_lt hj (by omega)⟩] at jp
  have loop : ∀ (r k : Nat) (G : Nat → Nat → Int32) (l4 : Value), k + r = 5 → (∀ t, t < 5 * A.1 → G 1 (3 + t) = zsw A.2.2.2 i j k t) → ∃ G', zres (d + 11) 87 33 [.ref 256, .int (nI i), .int (nI j), .int (nI k), l4] [] (zRh p S2 G Q2) = some (some (.int 1), zRh p S2 G' Q2) ∧ (∀ t, t < 5 * A.1 → G' 1 (3 + t) = zsw A.2.2.2 i j 5 t) ∧ (∀ t, t < 3 → G' 1 t = G 1 t) ∧ ∀ a, a ≠ 1 → G' a = G a := by
    intro r
    induction r with
    | zero =>
      intro k G l4 hk hh
      obtain rfl : k = 5 := by omega
      have c1 : (5 : Int32) ≤ nI 5 := by decide
      refine ⟨G, ?_, hh, fun _ _ => rfl, fun _ _ => rfl⟩
      simp only [g87_33, g87_34, g87_35, c1, ↓reduceIte]
      rw [g87_96, g87_97 zone]
    | succ r ih =>
      intro k G l4 hk hh
      have c1 : ¬ (5 : Int32) ≤ nI k := nI_ge (b := 5) (by omega) (by decide)
      have bi : 3 + (5 * i + k) < 63 := by omega
      have bj : 3 + (5 * j + k) < 63 := by omega
      have gi := hh (5 * i + k) (by omega)
      have gj := hh (5 * j + k) (by omega)
      obtain ⟨G', u1, u2, u3, u4⟩ := ih (k + 1) (ug (ug G 1 (3 + (5 * i + k)) (G 1 (3 + (5 * j + k)))) 1 (3 + (5 * j + k)) (G 1 (3 + (5 * i + k)))) (.int (G 1 (3 + (5 * i + k)))) (by omega) (fun t ht => by
        show _ = upd (upd (zsw A.2.2.2 i j k) (5 * i + k) (zsw A.2.2.2 i j k (5 * j + k))) (5 * j + k) (zsw A.2.2.2 i j k (5 * i + k)) t
        by_cases e1 : t = 5 * j + k
        · rw [e1, ug_a, pk_us, gi]
        · rw [ug_i (by omega), pk_un e1]
          by_cases e2 : t = 5 * i + k
          · rw [e2, ug_a, pk_us, gj]
          · rw [ug_i (by omega), pk_un e2]
            exact hh t ht)
      refine ⟨G', ?_, u2, fun t ht => by rw [u3 t ht, ug_i (by omega), ug_i (by omega)], fun a ha => by rw [u4 a ha, ug_n ha, ug_n ha]⟩
      simp only [g87_33, g87_34, g87_35, c1, ↓reduceIte]
      simp only [g87_38, g87_39, g87_42, g87_43, g87_44, g87_45, g87_46, g87_47, g87_48, g87_49, g87_50, g87_52, g87_53, g87_56, g87_57, g87_58, g87_59, g87_60, g87_61, g87_62, g87_63, g87_64, g87_67, g87_68, g87_69, g87_70, g87_71, g87_72, g87_73, g87_74, g87_75, g87_76, g87_77, g87_80, g87_81, g87_82, g87_83, g87_84, g87_85, g87_86, g87_87, g87_89, g87_90, g87_93, rg1, ix35k, ra1 bi, ra1 bj, rw1 bi, rw1 bj, hwi, nI_1, Option.bind_some]
      exact u1
  obtain ⟨G', u1, u2, u3, u4⟩ := loop 5 0 G2 zj (by omega) (fun t ht => o2.2.2.2 t ht)
  refine ⟨S2, G', Q2, ?_, zrD_g o3 ⟨(u3 0 (by decide)).trans o2.1, (u3 1 (by decide)).trans o2.2.1, (u3 2 (by decide)).trans o2.2.2.1, u2⟩ u4⟩
  rw [e87]
  simp only [g87_0, g87_1, g87_2, g87_5, g87_6, g87_9, g87_10, g87_11, rfp0, b0 (d + 10), ip, z0, rb0, Option.bind_some, Option.toList_some, Option.toList_none, List.cons_append, List.nil_append]
  rw [g87_14, if_neg (by decide)]
  simp only [g87_17, g87_18, g87_19, jp, z0, rb0, Option.bind_some, Option.toList_some, List.cons_append, List.nil_append]
  rw [g87_22, if_pos (by decide)]
  simp only [g87_27, g87_28, g87_31, g87_32, o1, z0, rb0, hwi, Option.bind_some, Option.toList_none, List.nil_append]
  exact u1
theorem r_swap_no (d : Nat) (hR : zRs S G A) (i j : Int32) (hn : ¬ ((0 ≤ i ∧ i < nI A.1) ∧ (0 ≤ j ∧ j < nI A.1))) : ∃ S' G', zcl (d + 12) 87 [.ref 256, .int i, .int j] (zRh p S G Q) = some (some (.int 0), zRh p S' G' Q) ∧ zsF A S S' G G' := by
  have z0 : zcs [] ≤ 8 := by decide
  obtain ⟨S1, G1, b0, b1, b2, b3, b4⟩ := c_beg hR
  have ip := c_isPic (p := p) (S := S1) (G := G1) (Q := Q) (d + 10) b2.1 i
  have jp := c_isPic (p := p) (S := S1) (G := G1) (Q := Q) (d + 10) b2.1 j
  refine ⟨S1, G1, ?_, zsF_of b1 b2 b3 b4 sF_rf⟩
  rw [e87]
  simp only [g87_0, g87_1, g87_2, g87_5, g87_6, g87_9, g87_10, g87_11, rfp0, b0 (d + 10), ip, z0, rb0, Option.bind_some, Option.toList_some, Option.toList_none, List.cons_append, List.nil_append]
  by_cases q : 0 ≤ i ∧ i < nI A.1
  · rw [if_pos q, g87_14, if_neg (by decide)]
    simp only [g87_17, g87_18, g87_19, jp, z0, rb0, Option.bind_some, Option.toList_some, List.cons_append, List.nil_append]
    rw [if_neg (fun q2 => hn ⟨q, q2⟩), g87_22, if_neg (fun z => z rfl), g87_25, g87_26 zzero]
  · rw [if_neg q, g87_14, if_pos rfl, g87_25, g87_26 zzero]
theorem r_drop (d : Nat) (hR : zRs S G A) (hA : zVa A) (h3 : S 3 = nI kept) (hk : kept ≤ 8) (hK : kR (G 2) kept K) (hV : ∀ m, m < kept → (K m).1 ≤ 12) {i : Nat} (hi : i < A.1) : ∃ S' G' Q', zcl (d + 12) 88 [.ref 256, .int (nI i)] (zRh p S G Q) = some (some (.int 1), zRh p S' G' Q') ∧ zrD S S' G' A (A.1 - 1, A.2.1, A.2.2.1, zrmv A.2.2.2 i (5 * (A.1 - 1))) (min (kept + 1) 8) (kNx kept K A) := by
  have z0 : zcs [] ≤ 8 := by decide
  have hwi : ∀ x, Value.category (.int x) = 1 := fun _ => rfl
  have N12 := hA.1
  obtain ⟨S1, G1, b0, b2, kp⟩ := c_bk hR hA h3 hk hK hV
  obtain ⟨S2, G2, Q2, o1, o2, o3⟩ := kp d p Q
  have ip := c_isPic (p := p) (S := S1) (G := G1) (Q := Q) (d + 10) b2.1 (nI i)
  rw [if_pos ⟨nI_pos' (by omega), nI_lt hi (by omega)⟩] at ip
  have sN : nI A.1 - 1 = nI (A.1 - 1) := by rw [show (1 : Int32) = nI 1 from rfl]; exact pk_sub (by omega)
  have loop : ∀ (r k : Nat) (G : Nat → Nat → Int32), k + r = 58 → 3 ≤ k → G 1 0 = nI A.1 → ∃ G', zres (d + 11) 88 29 [.ref 256, .int (nI i), .int (nI k)] [] (zRh p S2 G Q2) = some (some (.int 1), zRh p S2 G' Q2) ∧ (∀ t, k ≤ t → t < 58 → G' 1 t = G 1 (t + 5)) ∧ (∀ t, 0 < t → (t < k ∨ 58 ≤ t) → G' 1 t = G 1 t) ∧ G' 1 0 = nI (A.1 - 1) ∧ ∀ a, a ≠ 1 → G' a = G a := by
    intro r
    induction r with
    | zero =>
      intro k G hk h3 h0
      obtain rfl : k = 58 := by omega
      have c1 : (63 : Int32) ≤ nI 58 + 5 := by decide
      have w0 : zast 10 (zRh p S2 G Q2) 257 0 (.int (nI (A.1 - 1))) = some (zRh p S2 (ug G 1 0 (nI (A.1 - 1))) Q2) := rw1 (j := 0) (by decide)
      refine ⟨ug G 1 0 (nI (A.1 - 1)), ?_, fun t h1 h2 => by omega, fun t h1 _ => ug_i (by omega), ug_a, fun a ha => ug_n ha⟩
      simp only [g88_29, g88_30, g88_31, g88_32, g88_34, c1, ↓reduceIte]
      simp only [g88_57, g88_58, g88_61, g88_62, g88_63, g88_66, g88_67, g88_68, g88_69, g88_70, g88_71, rg1, ra1z, h0, sN, w0, Option.bind_some]
      exact g88_72 zone
    | succ r ih =>
      intro k G hk h3 h0
      have e5 : nI k + 5 = nI (k + 5) := nI_add k 5
      have c1 : ¬ (63 : Int32) ≤ nI (k + 5) := nI_ge (b := 63) (by omega) (by decide)
      have bk : k < 63 := by omega
      have bk5 : k + 5 < 63 := by omega
      obtain ⟨G', u1, u2, u3, u4, u5⟩ := ih (k + 1) (ug G 1 k (G 1 (k + 5))) (by omega) (by omega) (by rw [ug_i (by omega)]; exact h0)
      refine ⟨G', ?_, fun t h1 h2 => ?_, fun t h1 h2 => by rw [u3 t h1 (by omega), ug_i (by omega)], u4, fun a ha => by rw [u5 a ha, ug_n ha]⟩
      · simp only [g88_29, g88_30, g88_31, g88_32, g88_34, e5, c1, ↓reduceIte]
        simp only [g88_37, g88_38, g88_41, g88_42, g88_43, g88_46, g88_47, g88_48, g88_49, g88_50, g88_51, g88_54, rg1, e5, ra1 bk5, rw1 bk, hwi, nI_1, Option.bind_some]
        exact u1
      · by_cases z : t = k
        · rw [z, u3 k (by omega) (by omega), ug_a]
        · rw [u2 t (by omega) h2, ug_i (by omega)]
  obtain ⟨G', u1, u2, u3, u4, u5⟩ := loop (58 - (3 + 5 * i)) (3 + 5 * i) G2 (by omega) (by omega) o2.1
  refine ⟨S2, G', Q2, ?_, zrD_g o3 ⟨u4, (u3 1 (by decide) (by omega)).trans o2.2.1, (u3 2 (by decide) (by omega)).trans o2.2.2.1, fun t ht => ?_⟩ u5⟩
  · rw [e88]
    simp only [g88_0, g88_1, g88_2, g88_5, g88_6, g88_9, g88_10, g88_11, rfp0, b0 (d + 10), ip, z0, rb0, Option.bind_some, Option.toList_some, Option.toList_none, List.cons_append, List.nil_append]
    rw [g88_14, if_pos (by decide)]
    simp only [g88_19, g88_20, g88_23, g88_24, g88_25, g88_26, g88_27, g88_28, o1, ix35, z0, rb0, hwi, Option.bind_some, Option.toList_none, List.nil_append]
    exact u1
  · have ht' : t < 5 * (A.1 - 1) := ht
    show G' 1 (3 + t) = (if 5 * i ≤ t ∧ t < 5 * (A.1 - 1) then A.2.2.2 (t + 5) else A.2.2.2 t)
    by_cases z : 5 * i ≤ t
    · rw [if_pos ⟨z, ht'⟩, u2 _ (by omega) (by omega), Nat.add_assoc]
      exact o2.2.2.2 _ (by omega)
    · rw [if_neg (fun w => z w.1), u3 _ (by omega) (by omega)]
      exact o2.2.2.2 _ (by omega)
theorem r_drop_no (d : Nat) (hR : zRs S G A) (i : Int32) (hn : ¬ (0 ≤ i ∧ i < nI A.1)) : ∃ S' G', zcl (d + 12) 88 [.ref 256, .int i] (zRh p S G Q) = some (some (.int 0), zRh p S' G' Q) ∧ zsF A S S' G G' := by
  have z0 : zcs [] ≤ 8 := by decide
  obtain ⟨S1, G1, b0, b1, b2, b3, b4⟩ := c_beg hR
  have ip := c_isPic (p := p) (S := S1) (G := G1) (Q := Q) (d + 10) b2.1 i
  rw [if_neg hn] at ip
  refine ⟨S1, G1, ?_, zsF_of b1 b2 b3 b4 sF_rf⟩
  rw [e88]
  simp only [g88_0, g88_1, g88_2, g88_5, g88_6, g88_9, g88_10, g88_11, rfp0, b0 (d + 10), ip, z0, rb0, Option.bind_some, Option.toList_some, Option.toList_none, List.cons_append, List.nil_append]
  rw [g88_14, if_neg (fun z => z rfl), g88_17, g88_18 zzero]
theorem r_undo_no (d : Nat) (hR : zRs S G A) (h3 : S 3 = 0) : ∃ S' G', zcl (d + 12) 80 [.ref 256] (zRh p S G Q) = some (some (.int 0), zRh p S' G' Q) ∧ zsF A S S' G G' := by
  have z0 : zcs [] ≤ 8 := by decide
  obtain ⟨S1, G1, b0, b1, b2, b3, b4⟩ := c_beg hR
  have e3 : S1 3 = 0 := (b3 3 (by decide) (by decide)).trans h3
  refine ⟨S1, G1, ?_, zsF_of b1 b2 b3 b4 sF_rf⟩
  rw [e80]
  simp only [g80_0, g80_1, g80_2, g80_5, g80_6, g80_9, g80_10, rfp0, rg3, b0 (d + 10), e3, z0, rb0, Option.bind_some, Option.toList_none, List.nil_append]
  rw [g80_13, if_neg (fun z => z rfl), g80_16, g80_17 zzero]
theorem r_undo (d : Nat) (hR : zRs S G A) (hA : zVa A) (h3 : S 3 = nI kept) (hk : kept ≤ 8) (hk0 : 0 < kept) (hK : kR (G 2) kept K) (hV : (K (kept - 1)).1 ≤ 12) : ∃ S' G' Q', zcl (d + 12) 80 [.ref 256] (zRh p S G Q) = some (some (.int 1), zRh p S' G' Q') ∧ zrD S S' G' A (K (kept - 1)) (kept - 1) K := by
  have z0 : zcs [] ≤ 8 := by decide
  have hwi : ∀ x, Value.category (.int x) = 1 := fun _ => rfl
  have hwr : ∀ x, Value.category (.ref x) = 1 := fun _ => rfl
  obtain ⟨S1, G1, b0, b1, b2, b3, b4⟩ := c_beg hR
  have e3 : S1 3 = nI kept := (b3 3 (by decide) (by decide)).trans h3
  have ne : ¬ nI kept = 0 := nI_ne0 hk0 (by omega)
  obtain ⟨S2, G2, Q2, o1, o2, o3, o4⟩ := c_remembers (p := p) (d + 1) hA S1 G1 Q b2
  have e32 : S2 3 = nI kept := (o4.1 3 (by decide) (by decide) (by decide) (by decide) (by decide)).trans e3
  have em : nI kept - 1 = nI (kept - 1) := by rw [show (1 : Int32) = nI 1 from rfl]; exact pk_sub hk0
  have G22 : G2 2 = G 2 := (o4.2 2 (by decide)).trans (b4 2 (by decide))
  have loop : ∀ (r i : Nat) (G : Nat → Nat → Int32), i + r = 63 → ∃ G', zres (d + 11) 80 34 [.ref 256, .int (nI i)] [] (zRh p (upd S2 3 (nI (kept - 1))) G Q2) = some (some (.int 1), zRh p (upd S2 3 (nI (kept - 1))) G' Q2) ∧ (∀ t, i ≤ t → t < 63 → G' 1 t = G 2 (63 * (kept - 1) + t)) ∧ (∀ t, t < i → G' 1 t = G 1 t) ∧ ∀ a, a ≠ 1 → G' a = G a := by
    intro r
    induction r with
    | zero =>
      intro i G hi
      obtain rfl : i = 63 := by omega
      have c1 : (63 : Int32) ≤ nI 63 := by decide
      refine ⟨G, ?_, fun t h1 h2 => by omega, fun _ _ => rfl, fun _ _ => rfl⟩
      simp only [g80_34, g80_35, g80_37, c1, ↓reduceIte]
      rw [g80_66, g80_67 zone]
    | succ r ih =>
      intro i G hi
      have i63 : i < 63 := by omega
      have c1 : ¬ (63 : Int32) ≤ nI i := nI_ge (b := 63) i63 (by decide)
      have ix : nI (kept - 1) * 63 + nI i = nI (63 * (kept - 1) + i) := by rw [show (63 : Int32) = nI 63 from rfl, pk_mul, nI_add, Nat.mul_comm]
      have b5 : 63 * (kept - 1) + i < 504 := by omega
      have s3 : upd S2 3 (nI (kept - 1)) 3 = nI (kept - 1) := pk_us
      obtain ⟨G', u1, u2, u3, u4⟩ := ih (i + 1) (ug G 1 i (G 2 (63 * (kept - 1) + i))) (by omega)
      refine ⟨G', ?_, fun t h1 h2 => ?_, fun t ht => by rw [u3 t (by omega), ug_i (by omega)], fun a ha => by rw [u4 a ha, ug_n ha]⟩
      · simp only [g80_34, g80_35, g80_37, c1, ↓reduceIte]
        simp only [g80_40, g80_41, g80_44, g80_45, g80_46, g80_49, g80_50, g80_53, g80_55, g80_56, g80_57, g80_58, g80_59, g80_60, g80_63, rg1, rg2, rg3, s3, ix, ra2 b5, rw1 i63, hwr, nI_1, Option.bind_some]
        exact u1
      · by_cases z : t = i
        · rw [z, u3 i (by omega), ug_a]
        · rw [u2 t (by omega) h2, ug_n (by decide)]
  obtain ⟨G', u1, u2, u3, u4⟩ := loop 63 0 G2 (by omega)
  refine ⟨upd S2 3 (nI (kept - 1)), G', Q2, ?_, ?_, ?_, ?_, oldR_g o3 (pk_un (by decide)) (pk_un (by decide)) (fun a ha => u4 a (by omega)), pk_us, fun m hm => ?_⟩
  · rw [e80]
    simp only [g80_0, g80_1, g80_2, g80_5, g80_6, g80_9, g80_10, rfp0, rg3, b0 (d + 10), e3, z0, rb0, Option.bind_some, Option.toList_none, List.nil_append]
    rw [g80_13, if_pos ne]
    simp only [g80_18, g80_19, g80_22, g80_23, g80_24, g80_27, g80_28, g80_29, g80_32, g80_33, rg3, o1, e32, em, rfp3, z0, rb0, hwr, Option.bind_some, Option.toList_none, List.nil_append]
    exact u1
  · rw [pk_un (by decide), o4.1 4 (by decide) (by decide) (by decide) (by decide) (by decide)]; exact b1
  · refine zGA_congr (hK (kept - 1) (by omega)) hV fun i hi => ?_
    show G' 1 i = G 2 (63 * (kept - 1) + i)
    rw [u2 i (Nat.zero_le _) hi, G22]
  · rw [pk_un (by decide)]; exact o2
  · show zGA (fun i => G' 2 (63 * m + i)) (K m)
    rw [u4 2 (by decide), G22]
    exact hK m (by omega)
end RMUT3
