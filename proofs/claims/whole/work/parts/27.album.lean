/-! ALBUM -/
def zAlb (h : ZH) (a : Nat) (N W H : Nat) (f : Nat → Int32) : Prop := h[a]? = some (0, [.ref (a + 1), .int (nI N), .int (nI W), .int (nI H)]) ∧ h[a + 1]? = some (10, zia 60 f)
def znum (N : Nat) (f : Nat → Int32) (i k : Int32) : Int32 := if (0 ≤ i ∧ i < nI N) ∧ (0 ≤ k ∧ k < 5) then f (5 * i.toNatClampNeg + k.toNatClampNeg) else -1
theorem znum_nI {N : Nat} {f : Nat → Int32} {i k : Nat} (hN : N ≤ 12) (hi : i < N) (hk : k < 5) : znum N f (nI i) (nI k) = f (5 * i + k) := by
  unfold znum
  rw [if_pos ⟨⟨nI_pos' (by omega), nI_lt hi (by omega)⟩, nI_pos' (by omega), show nI k < nI 5 from nI_lt hk (by decide)⟩, nI_clamp (by omega), nI_clamp (by omega)]
theorem znum_no {N : Nat} {f : Nat → Int32} {i k : Int32} (h : ¬ (0 ≤ i ∧ i < nI N)) : znum N f i k = -1 := if_neg fun q => h q.1
/-- has(i) -/
theorem c_has (d : Nat) {h : ZH} {a N W H : Nat} {f : Nat → Int32} (hA : zAlb h a N W H f) (i : Int32) : zcl (d + 1) 1 [.ref a, .int i] h = some (some (.int (if 0 ≤ i ∧ i < nI N then 1 else 0)), h) := by
  obtain ⟨h0, h1⟩ := hA
  have u1 : zget h a 0 1 = some (.int (nI N)) := (zget_c h0).trans rfl
  rw [e1]
  simp only [g1_0, g1_1]
  by_cases q1 : i < 0
  · rw [if_pos q1, g1_16, g1_17 zzero, if_neg (fun q => absurd q1 (i_nlt.mpr q.1))]
  · rw [if_neg q1]
    simp only [g1_4, g1_5, g1_6, g1_9, u1, Option.bind_some]
    by_cases q2 : nI N ≤ i
    · rw [if_pos q2, g1_16, g1_17 zzero, if_neg (fun q => absurd q.2 (i_nlt.mpr q2))]
    · rw [if_neg q2, g1_12, g1_13, g1_17 zone, if_pos ⟨i_nlt.mp q1, i_nle.mp q2⟩]
/-- number(i, field) -/
theorem c_number (d : Nat) {h : ZH} {a N W H : Nat} {f : Nat → Int32} (hA : zAlb h a N W H f) (hN : N ≤ 12) (i k : Int32) : zcl (d + 1) 2 [.ref a, .int i, .int k] h = some (some (.int (znum N f i k)), h) := by
  obtain ⟨h0, h1⟩ := hA
  have u1 : zget h a 0 1 = some (.int (nI N)) := (zget_c h0).trans rfl
  have u0 : zget h a 0 0 = some (.ref (a + 1)) := (zget_c h0).trans rfl
  rw [e2]
  simp only [g2_0, g2_1]
  by_cases q1 : i < 0
  · rw [if_pos q1, g2_21, g2_22, znum_no (fun q => absurd q1 (i_nlt.mpr q.1))]
  · rw [if_neg q1]
    simp only [g2_4, g2_5, g2_6, g2_9, u1, Option.bind_some]
    by_cases q2 : nI N ≤ i
    · rw [if_pos q2, g2_21, g2_22, znum_no (fun q => absurd q.2 (i_nlt.mpr q2))]
    · rw [if_neg q2]
      simp only [g2_12, g2_13]
      by_cases q3 : k < 0
      · rw [if_pos q3, g2_21, g2_22]
        unfold znum
        rw [if_neg (fun q => absurd q3 (i_nlt.mpr q.2.1))]
      · rw [if_neg q3]
        simp only [g2_16, g2_17, g2_18]
        by_cases q4 : k < 5
        · rw [if_pos q4]
          rcases pk_ix i (n := N) (by omega) with z | z | ⟨i, hi, rfl⟩
          · exact absurd z q1
          · exact absurd z q2
          · rcases pk_ix k (n := 5) (by omega) with z | z | ⟨k, hk, rfl⟩
            · exact absurd z q3
            · exact absurd q4 (i_nlt.mpr z)
            · have hs : nI i * 5 + nI k = nI (5 * i + k) := by
                rw [show (5 : Int32) = nI 5 from rfl, pk_mul, nI_add, Nat.mul_comm]
              have hw : Value.category (.int (nI k)) = 1 := rfl
              simp only [g2_23, g2_24, g2_25, g2_26, g2_27, g2_28, g2_29, g2_30, hs, hw]
              rw [if_neg (nI_pos (by omega))]
              simp only [g2_33, g2_34, g2_35, g2_38, g2_39, u0, Option.bind_some, zlen_ia h1 rfl]
              rw [if_neg (nI_ge (show 5 * i + k < 60 by omega) (by decide))]
              simp only [g2_42, g2_43, g2_46, g2_47, g2_48, u0, Option.bind_some, zald_ia h1 rfl rfl (show 5 * i + k < 60 by omega) (by decide), g2_52]
              rw [znum_nI hN hi hk]
        · rw [if_neg q4, g2_21, g2_22]
          unfold znum
          rw [if_neg (fun q => q4 q.2.2)]
/-- isWide(i), isPlain(i) -/
theorem c_isWide (d : Nat) {h : ZH} {a N W H : Nat} {f : Nat → Int32} (hA : zAlb h a N W H f) (hN : N ≤ 12) (i : Int32) : zcl (d + 2) 3 [.ref a, .int i] h = some (some (.int (if znum N f i 3 = 1 then 1 else 0)), h) := by
  have z0 : zcs [] ≤ 8 := by decide
  have hb : (h[a]?).map (fun c => c.1) = some 0 := by rw [hA.1]; rfl
  rw [e3]
  simp only [g3_0, g3_1, g3_2, g3_3, g3_6, g3_7, c_number d hA hN, z0, hb, Option.bind_some, Option.toList_some, List.cons_append, List.nil_append]
  by_cases q : znum N f i 3 = 1
  · rw [if_neg (fun z => z q), if_pos q, g3_10, g3_11, g3_15 zone]
  · rw [if_pos q, if_neg q, g3_14, g3_15 zzero]
theorem c_isPlain (d : Nat) {h : ZH} {a N W H : Nat} {f : Nat → Int32} (hA : zAlb h a N W H f) (hN : N ≤ 12) (i : Int32) : zcl (d + 2) 4 [.ref a, .int i] h = some (some (.int (if znum N f i 3 = 0 then 1 else 0)), h) := by
  have z0 : zcs [] ≤ 8 := by decide
  have hb : (h[a]?).map (fun c => c.1) = some 0 := by rw [hA.1]; rfl
  rw [e4]
  simp only [g4_0, g4_1, g4_2, g4_3, g4_6, c_number d hA hN, z0, hb, Option.bind_some, Option.toList_some, List.cons_append, List.nil_append]
  by_cases q : znum N f i 3 = 0
  · rw [if_neg (fun z => z q), if_pos q, g4_9, g4_10, g4_14 zone]
  · rw [if_pos q, if_neg q, g4_13, g4_14 zzero]
/-- mayBreakAhead(i): whether the picture ahead of i isn't tied to it -/
def zmay (N : Nat) (f : Nat → Int32) (i : Int32) : Prop := znum N f i 4 ≤ 0 ∨ ¬ znum N f i 4 = znum N f (i - 1) 4 ∨ ¬ znum N f i 3 = 0 ∨ ¬ znum N f (i - 1) 3 = 0
