section CLS3
variable {h : ZH} {A B : AV} {r : Nat → AV} {kept next P F : Nat} {e pic pg made : Int32}
/-- undo() -/
theorem c_undo_no (d : Nat) (hC : zCs h A B r kept next P F e) (hk : kept = 0) : zcl (d + 5) 70 [.ref 6] h = some (some (.int 0), h) := by
  have z0 : zcs [] ≤ 8 := by decide
  have u2 : zget h 6 6 2 = some (.ref 11) := (zget_c hC.1).trans rfl
  have hb : (h[11]?).map (fun c => c.1) = some 2 := by rw [hC.2.2.2.1.1]; rfl
  have ie := c_isEmpty (d + 3) hC.2.2.2.1 hC.2.2.2.2.2.1
  rw [if_pos hk] at ie
  rw [e70]
  simp only [g70_0, g70_1, g70_4, g70_7, u2, ie, z0, hb, Option.bind_some, Option.toList_some, List.cons_append, List.nil_append]
  rw [if_neg (show ¬ (1 : Int32) = 0 by decide), g70_10, g70_11 zzero]
theorem c_undo (d : Nat) (hC : zCs h A B r kept next P F e) (hF : h[F]? = some (zBkc F pic pg made)) (hk : 0 < kept) :
    ∃ h', zcl (d + 5) 70 [.ref 6] h = some (some (.int 1), h') ∧ zCs h' (r ((next + 7) % 8)) A r (kept - 1) ((next + 7) % 8) F P 1 ∧ h'[F]? = some (zBkc F pic pg 0) ∧ zFr h h' F := by
  have z0 : zcs [] ≤ 8 := by decide
  have u2 : zget h 6 6 2 = some (.ref 11) := (zget_c hC.1).trans rfl
  have hb : (h[11]?).map (fun c => c.1) = some 2 := by rw [hC.2.2.2.1.1]; rfl
  have ie := c_isEmpty (d + 3) hC.2.2.2.1 hC.2.2.2.2.2.1
  rw [if_neg (by omega)] at ie
  obtain ⟨h6, hA, hB, hH, hR, hk8, hn, hPF⟩ := hC
  have hb6 : (h[6]?).map (fun c => c.1) = some 6 := by rw [h6]; rfl
  obtain ⟨h1, b1, b2, b3, b4, b5⟩ := c_beginChange (d + 1) h6 hA hB hF (by omega)
  have K7 : zAv h1 7 A := zAv_fr hA (b5 7 (by decide) (by decide) (by decide) (by omega)) (b5 (7 + 1) (by decide) (by decide) (by decide) (by omega))
  have KH : zHis h1 kept next := ⟨(b5 11 (by decide) (by decide) (by decide) (by omega)).trans hH.1, (b5 12 (by decide) (by decide) (by decide) (by omega)).trans hH.2⟩
  have KR : ∀ i : Nat, i < 8 → zAv h1 (13 + 2 * i) (r i) := fun i hi => zAv_fr (hR i hi) (b5 _ (by omega) (by omega) (by omega) (by omega)) (b5 _ (by omega) (by omega) (by omega) (by omega))
  have tb := c_takeBack (d + 1) KH hk8 hk hn K7 (KR ((next + 7) % 8) (by omega))
  have v0 : zget h1 6 6 0 = some (.ref 7) := (zget_c b2).trans rfl
  have v2 : zget h1 6 6 2 = some (.ref 11) := (zget_c b2).trans rfl
  have hb11 : (h1[11]?).map (fun c => c.1) = some 2 := by rw [KH.1]; rfl
  rw [e70]
  simp only [g70_0, g70_1, g70_4, g70_7, u2, ie, z0, hb, Option.bind_some, Option.toList_some, List.cons_append, List.nil_append]
  rw [if_pos trivial]
  simp only [g70_12, g70_13, g70_16, g70_17, g70_20, g70_21, g70_24, b1, z0, hb6, v0, v2, tb, hb11, Option.bind_some, Option.toList_none, List.nil_append, g70_27]
  have fr : ∀ j : Nat, j ≠ 7 → j ≠ 8 → j ≠ 11 → (((h1.set 7 (0, [.ref (7 + 1), .int (nI (r ((next + 7) % 8)).1), .int (nI (r ((next + 7) % 8)).2.1), .int (nI (r ((next + 7) % 8)).2.2.1)])).set (7 + 1) (10, zia 60 (r ((next + 7) % 8)).2.2.2)).set 11 (2, [.ref 12, .int (nI (kept - 1)), .int (nI ((next + 7) % 8))]))[j]? = h1[j]? := by
    intro j q1 q2 q3
    rw [zset_ne (Ne.symm q3), zset_ne (show 7 + 1 ≠ j by omega), zset_ne (Ne.symm q1)]
  refine ⟨_, g70_28 zone, ⟨(fr 6 (by decide) (by decide) (by decide)).trans b2, ⟨?_, ?_⟩, ⟨(fr 9 (by decide) (by decide) (by decide)).trans b3.1, (fr (9 + 1) (by decide) (by decide) (by decide)).trans b3.2⟩, ⟨?_, (fr 12 (by decide) (by decide) (by decide)).trans KH.2⟩, fun i hi => zAv_fr (KR i hi) (fr _ (by omega) (by omega) (by omega)) (fr _ (by omega) (by omega) (by omega)), by omega, by omega, by omega⟩, (fr F (by omega) (by omega) (by omega)).trans b4, fun k q1 q2 => ?_⟩
  · rw [zset_ne (by decide), zset_ne (by decide)]
    exact zset_get K7.1
  · rw [zset_ne (by decide)]
    exact zset_get ((zset_ne (by decide)).trans K7.2)
  · exact zset_get (((zset_ne (by decide)).trans (zset_ne (by decide))).trans KH.1)
  · rw [fr k (by omega) (by omega) (by omega)]
    exact b5 k (by omega) (by omega) (by omega) q2
/-- about(what) -/
def zabt (A : AV) (x : Int32) : Int32 := if x = 0 then nI A.1 else if x = 1 then nI A.2.1 else if x = 2 then nI A.2.2.1 else if x < 10 then -1 else znum A.1 A.2.2.2 ((x - 10) / 10) (x - x / 10 * 10)
theorem c_about (d : Nat) (hC : zCs h A B r kept next P F e) (hN : A.1 ≤ 12) (x : Int32) : zcl (d + 5) 57 [.ref 6, .int x] h = some (some (.int (zabt A x)), h) := by
  have z0 : zcs [] ≤ 8 := by decide
  have u0 : zget h 6 6 0 = some (.ref 7) := (zget_c hC.1).trans rfl
  have A0 := hC.2.1.1
  have a1 : zget h 7 0 1 = some (.int (nI A.1)) := (zget_c A0).trans rfl
  have a2 : zget h 7 0 2 = some (.int (nI A.2.1)) := (zget_c A0).trans rfl
  have a3 : zget h 7 0 3 = some (.int (nI A.2.2.1)) := (zget_c A0).trans rfl
  have hb : (h[7]?).map (fun c => c.1) = some 0 := by rw [A0]; rfl
  have hfs : zf 57 1 = some (.tableswitch 51 0 2 #[27, 35, 43], 27) := by decide +kernel
  have nu := fun i k => c_number (d + 3) hC.2.1 hN i k
  rw [e57, g57_0]
  unfold zabt
  by_cases q0 : x = 0
  · subst q0
    rw [zr_tableIn (off := 27) (t := 28) hfs (by decide) (by decide) rfl, if_pos rfl]
    simp only [g57_28, g57_29, g57_32, u0, a1, Option.bind_some, g57_35]
  · rw [if_neg q0]
    by_cases q1 : x = 1
    · subst q1
      rw [zr_tableIn (off := 35) (t := 36) hfs (by decide) (by decide) rfl, if_pos rfl]
      simp only [g57_36, g57_37, g57_40, u0, a2, Option.bind_some, g57_43]
    · rw [if_neg q1]
      by_cases q2 : x = 2
      · subst q2
        rw [zr_tableIn (off := 43) (t := 44) hfs (by decide) (by decide) rfl, if_pos rfl]
        simp only [g57_44, g57_45, g57_48, u0, a3, Option.bind_some, g57_51]
      · rw [if_neg q2]
        have ho : x.toInt < 0 ∨ 2 < x.toInt := by
          have n0 : ¬ x.toInt = 0 := fun z => q0 (Int32.toInt_inj.mp (by rw [z]; rfl))
          have n1 : ¬ x.toInt = 1 := fun z => q1 (Int32.toInt_inj.mp (by rw [z]; rfl))
          have n2 : ¬ x.toInt = 2 := fun z => q2 (Int32.toInt_inj.mp (by rw [z]; rfl))
          omega
        rw [zr_tableOut (t := 52) hfs ho rfl]
        simp only [g57_52, g57_53, g57_55]
        by_cases q3 : x < 10
        · rw [if_neg (i_nle.mpr q3), if_pos q3, g57_58, g57_59, g57_80]
        · rw [if_pos (i_nlt.mp q3), if_neg q3]
          have n10 : ¬ (10 : Int32) = 0 := by decide
          simp only [g57_62, g57_63, g57_66, g57_67, g57_69, g57_70, g57_72, g57_73, g57_74, g57_76, g57_77, u0, n10, not_false_eq_true, nu, z0, hb, Option.bind_some, Option.toList_some, List.cons_append, List.nil_append, g57_80]
end CLS3
