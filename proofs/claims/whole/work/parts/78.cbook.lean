/-! THE CLASS'S WHOLE STATE; its calls about the book -/
def bookI (h : ZH) (b : Nat) (A : AV) : Prop := ∃ s X, BK h b s X ∧ (s 8 = 0 ∨ (s 8 = 1 ∧ zBook h b A))
def cF (h : ZH) (A B : AV) (r : Nat → AV) (kept next P F : Nat) (e : Int32) : Prop := zCs h A B r kept next P F e ∧ zShI h ∧ bookI h P A ∧ bookI h F B ∧ zVa A ∧ zVa B ∧ ∀ i, i < 8 → zVa (r i)
def cU (h h' : ZH) : Prop := ∀ k : Nat, (k < 29 ∨ 256 ≤ k) → h'[k]? = h[k]?
theorem cU_tr {h k l : ZH} (h1 : cU h k) (h2 : cU k l) : cU h l := fun a ha => (h2 a ha).trans (h1 a ha)
theorem bookI_fr {h k : ZH} {b : Nat} {A : AV} (hB : bookI h b A) (hf : ∀ a : Nat, b ≤ a → a ≤ b + 6 → k[a]? = h[a]?) : bookI k b A := by
  obtain ⟨s, X, h1, h2⟩ := hB
  exact ⟨s, X, BK_fr h1 hf, h2.imp id fun w => ⟨w.1, zBook_fr w.2 hf⟩⟩
theorem zCs_fr {h k : ZH} {A B : AV} {r : Nat → AV} {kept next P F : Nat} {e : Int32} (hC : zCs h A B r kept next P F e) (hf : ∀ a : Nat, a < 29 → k[a]? = h[a]?) : zCs k A B r kept next P F e := by
  obtain ⟨h6, hA, hB, hH, hR, hk, hn, hPF⟩ := hC
  exact ⟨(hf 6 (by decide)).trans h6, zAv_fr hA (hf 7 (by decide)) (hf (7 + 1) (by decide)), zAv_fr hB (hf 9 (by decide)) (hf (9 + 1) (by decide)), ⟨(hf 11 (by decide)).trans hH.1, (hf 12 (by decide)).trans hH.2⟩, fun i hi => zAv_fr (hR i hi) (hf _ (by omega)) (hf _ (by omega)), hk, hn, hPF⟩
section CBOOK
variable {h : ZH} {A B : AV} {r : Nat → AV} {kept next P F : Nat} {e : Int32}
theorem cF_make (d : Nat) (hc : cF h A B r kept next P F e) : ∃ h', zcl (d + 6) 12 [.ref P, .ref 7, .ref 29] h = some (none, h') ∧ zBook h' P A ∧ cF h' A B r kept next P F e ∧ cU h h' := by
  obtain ⟨hC, hI, hP, hF, hA, hB, hR⟩ := hc
  have hPF := hC.2.2.2.2.2.2.2
  obtain ⟨s, X, b1, b2⟩ := hP
  obtain ⟨h', o1, o2, o3, o4⟩ := c_make d (a := 7) (b := P) (by decide) (by omega) hA ⟨hI, hC.2.1, b1⟩ b2
  obtain ⟨s', X', k1, k2, k3⟩ := id o2
  exact ⟨h', o1, o2, ⟨zCs_fr hC fun a ha => o3 a (by omega) (by omega), o4, ⟨s', X', k1, Or.inr ⟨k2, o2⟩⟩, bookI_fr hF fun a h1 h2 => o3 a (by omega) (by omega), hA, hB, hR⟩, fun k hk => o3 k (by omega) (by omega)⟩
theorem cF_makeF (d : Nat) (hc : cF h A B r kept next P F e) : ∃ h', zcl (d + 6) 12 [.ref F, .ref 9, .ref 29] h = some (none, h') ∧ zBook h' F B ∧ cF h' A B r kept next P F e ∧ cU h h' := by
  obtain ⟨hC, hI, hP, hF, hA, hB, hR⟩ := hc
  have hPF := hC.2.2.2.2.2.2.2
  obtain ⟨s, X, b1, b2⟩ := hF
  obtain ⟨h', o1, o2, o3, o4⟩ := c_make d (a := 9) (b := F) (by decide) (by omega) hB ⟨hI, hC.2.2.1, b1⟩ b2
  obtain ⟨s', X', k1, k2, k3⟩ := id o2
  exact ⟨h', o1, o2, ⟨zCs_fr hC fun a ha => o3 a (by omega) (by omega), o4, bookI_fr hP fun a h1 h2 => o3 a (by omega) (by omega), ⟨s', X', k1, Or.inr ⟨k2, o2⟩⟩, hA, hB, hR⟩, fun k hk => o3 k (by omega) (by omega)⟩
theorem c_bookC (d : Nat) (hc : cF h A B r kept next P F e) : ∃ h', zcl (d + 7) 64 [.ref 6] h = some (some (.int (en1 (DD A 0 0).1)), h') ∧ cF h' A B r kept next P F e ∧ cU h h' := by
  have z0 : zcs [] ≤ 8 := by decide
  have h6 := hc.1.1
  have u0 : zget h 6 6 0 = some (.ref 7) := (zget_c h6).trans rfl
  have u3 : zget h 6 6 3 = some (.ref 29) := (zget_c h6).trans rfl
  have u4 : zget h 6 6 4 = some (.ref P) := (zget_c h6).trans rfl
  obtain ⟨s, X, b1, -⟩ := hc.2.2.1
  obtain ⟨h', o1, o2, o3, o4⟩ := cF_make d hc
  have v4 : zget h' 6 6 4 = some (.ref P) := (zget_c o3.1.1).trans rfl
  have ex := b_expense (d + 5) o2
  refine ⟨h', ?_, o3, o4⟩
  rw [e64]
  simp only [g64_0, g64_1, g64_4, g64_5, g64_8, g64_9, g64_12, g64_15, g64_16, g64_19, g64_22, u0, u3, u4, v4, o1, ex, z0, BK_b b1, zBook_b o2, Option.bind_some, Option.toList_some, Option.toList_none, List.cons_append, List.nil_append]
theorem c_pagesC (d : Nat) (hc : cF h A B r kept next P F e) : ∃ h', zcl (d + 7) 65 [.ref 6] h = some (some (.int (if exI A = 0 then -1 else nI (PGS A).length)), h') ∧ cF h' A B r kept next P F e ∧ cU h h' := by
  have z0 : zcs [] ≤ 8 := by decide
  have h6 := hc.1.1
  have hA := hc.2.2.2.2.1
  have u0 : zget h 6 6 0 = some (.ref 7) := (zget_c h6).trans rfl
  have u3 : zget h 6 6 3 = some (.ref 29) := (zget_c h6).trans rfl
  have u4 : zget h 6 6 4 = some (.ref P) := (zget_c h6).trans rfl
  obtain ⟨s, X, b1, -⟩ := hc.2.2.1
  obtain ⟨h', o1, o2, o3, o4⟩ := cF_make d hc
  have v4 : zget h' 6 6 4 = some (.ref P) := (zget_c o3.1.1).trans rfl
  have ex := b_exists (d + 5) hA o2
  have bb := zBook_b o2
  obtain ⟨s', X', k1, k2, k3, k4, k5, k6, k7⟩ := o2
  refine ⟨h', ?_, o3, o4⟩
  rw [e65]
  simp only [g65_0, g65_1, g65_4, g65_5, g65_8, g65_9, g65_12, g65_15, g65_16, g65_19, u0, u3, u4, v4, o1, ex, z0, BK_b b1, bb, Option.bind_some, Option.toList_some, Option.toList_none, List.cons_append, List.nil_append]
  by_cases z : exI A = 0
  · rw [if_pos z, g65_22, if_pos z, g65_35, g65_36]
  · rw [if_neg z, g65_22, if_neg z]
    simp only [g65_25, g65_26, g65_29, g65_32, g65_36, v4, BK_7 k1, k5, Option.bind_some]
theorem c_leafC (d : Nat) (hc : cF h A B r kept next P F e) (x y : Int32) : ∃ h', zcl (d + 7) 66 [.ref 6, .int x, .int y] h = some (some (.int (lfv (PGS A) x y)), h') ∧ cF h' A B r kept next P F e ∧ cU h h' := by
  have z0 : zcs [] ≤ 8 := by decide
  have h6 := hc.1.1
  have hA := hc.2.2.2.2.1
  have u0 : zget h 6 6 0 = some (.ref 7) := (zget_c h6).trans rfl
  have u3 : zget h 6 6 3 = some (.ref 29) := (zget_c h6).trans rfl
  have u4 : zget h 6 6 4 = some (.ref P) := (zget_c h6).trans rfl
  obtain ⟨s, X, b1, -⟩ := hc.2.2.1
  obtain ⟨h', o1, o2, o3, o4⟩ := cF_make d hc
  have v4 : zget h' 6 6 4 = some (.ref P) := (zget_c o3.1.1).trans rfl
  have ex := b_leaf (d + 4) hA o2 x y
  refine ⟨h', ?_, o3, o4⟩
  rw [e66]
  simp only [g66_0, g66_1, g66_4, g66_5, g66_8, g66_9, g66_12, g66_15, g66_16, g66_19, g66_20, g66_21, g66_24, u0, u3, u4, v4, o1, ex, z0, BK_b b1, zBook_b o2, Option.bind_some, Option.toList_some, Option.toList_none, List.cons_append, List.nil_append]
theorem c_pageOfC (d : Nat) (hc : cF h A B r kept next P F e) {j v : Nat} (hj : j < A.1) (hv : (DD A 0 0).1 = some v) : ∃ h' n, zcl (d + 7) 67 [.ref 6, .int (nI j)] h = some (some (.int (nI n)), h') ∧ cF h' A B r kept next P F e ∧ cU h h' ∧ n < (PGS A).length ∧ ctn (Lg (PGS A) n) j ∧ ∀ q, q < n → ¬ ctn (Lg (PGS A) q) j := by
  have z0 : zcs [] ≤ 8 := by decide
  have h6 := hc.1.1
  have hA := hc.2.2.2.2.1
  have u0 : zget h 6 6 0 = some (.ref 7) := (zget_c h6).trans rfl
  have u3 : zget h 6 6 3 = some (.ref 29) := (zget_c h6).trans rfl
  have u4 : zget h 6 6 4 = some (.ref P) := (zget_c h6).trans rfl
  obtain ⟨s, X, b1, -⟩ := hc.2.2.1
  obtain ⟨h', o1, o2, o3, o4⟩ := cF_make d hc
  have v4 : zget h' 6 6 4 = some (.ref P) := (zget_c o3.1.1).trans rfl
  obtain ⟨n, ex, n1, n2, n3⟩ := b_pageWith (d + 4) hA o2 hj hv
  refine ⟨h', n, ?_, o3, o4, n1, n2, n3⟩
  rw [e67]
  simp only [g67_0, g67_1, g67_4, g67_5, g67_8, g67_9, g67_12, g67_15, g67_16, g67_19, g67_20, g67_23, u0, u3, u4, v4, o1, ex, z0, BK_b b1, zBook_b o2, Option.bind_some, Option.toList_some, Option.toList_none, List.cons_append, List.nil_append]
theorem c_pageOfC_no (d : Nat) (hc : cF h A B r kept next P F e) (x : Int32) (hn : ¬ ((0 ≤ x ∧ x < nI A.1) ∧ ∃ v, (DD A 0 0).1 = some v)) : ∃ h', zcl (d + 7) 67 [.ref 6, .int x] h = some (some (.int (-1)), h') ∧ cF h' A B r kept next P F e ∧ cU h h' := by
  have z0 : zcs [] ≤ 8 := by decide
  have h6 := hc.1.1
  have hA := hc.2.2.2.2.1
  have u0 : zget h 6 6 0 = some (.ref 7) := (zget_c h6).trans rfl
  have u3 : zget h 6 6 3 = some (.ref 29) := (zget_c h6).trans rfl
  have u4 : zget h 6 6 4 = some (.ref P) := (zget_c h6).trans rfl
  obtain ⟨s, X, b1, -⟩ := hc.2.2.1
  obtain ⟨h', o1, o2, o3, o4⟩ := cF_make d hc
  have v4 : zget h' 6 6 4 = some (.ref P) := (zget_c o3.1.1).trans rfl
  have ex := b_pageWith_no (d + 4) hA o2 x hn
  refine ⟨h', ?_, o3, o4⟩
  rw [e67]
  simp only [g67_0, g67_1, g67_4, g67_5, g67_8, g67_9, g67_12, g67_15, g67_16, g67_19, g67_20, g67_23, u0, u3, u4, v4, o1, ex, z0, BK_b b1, zBook_b o2, Option.bind_some, Option.toList_some, Option.toList_none, List.cons_append, List.nil_append]
theorem c_booksC (d : Nat) (hc : cF h A B r kept next P F e) : ∃ h', zcl (d + 7) 68 [.ref 6] h = some (some (.int (if exI A = 0 then -1 else (DD A 0 0).2.1)), h') ∧ cF h' A B r kept next P F e ∧ cU h h' := by
  have z0 : zcs [] ≤ 8 := by decide
  have h6 := hc.1.1
  have hA := hc.2.2.2.2.1
  have u0 : zget h 6 6 0 = some (.ref 7) := (zget_c h6).trans rfl
  have u3 : zget h 6 6 3 = some (.ref 29) := (zget_c h6).trans rfl
  have u4 : zget h 6 6 4 = some (.ref P) := (zget_c h6).trans rfl
  obtain ⟨s, X, b1, -⟩ := hc.2.2.1
  obtain ⟨h', o1, o2, o3, o4⟩ := cF_make d hc
  have v4 : zget h' 6 6 4 = some (.ref P) := (zget_c o3.1.1).trans rfl
  have ex := b_exists (d + 5) hA o2
  have hm := b_howMany (d + 5) o2
  have bb := zBook_b o2
  refine ⟨h', ?_, o3, o4⟩
  rw [e68]
  simp only [g68_0, g68_1, g68_4, g68_5, g68_8, g68_9, g68_12, g68_15, g68_16, g68_19, u0, u3, u4, v4, o1, ex, z0, BK_b b1, bb, Option.bind_some, Option.toList_some, Option.toList_none, List.cons_append, List.nil_append]
  by_cases z : exI A = 0
  · rw [if_pos z, g68_22, if_pos z, g68_35, g68_36]
  · rw [if_neg z, g68_22, if_neg z]
    simp only [g68_25, g68_26, g68_29, g68_32, g68_36, v4, hm, z0, bb, Option.bind_some, Option.toList_some, List.cons_append, List.nil_append]
theorem c_changedC_no (d : Nat) (h6 : h[6]? = some (zObj P F 0)) : zcl (d + 7) 69 [.ref 6] h = some (some (.int (-1)), h) := by
  have u6 : zget h 6 6 6 = some (.int 0) := (zget_c h6).trans rfl
  rw [e69]
  simp only [g69_0, g69_1, u6, Option.bind_some]
  rw [g69_4, if_neg (fun z => z rfl), g69_7, g69_8]
theorem c_changedC (d : Nat) (hc : cF h A B r kept next P F 1) : ∃ h' n, zcl (d + 7) 69 [.ref 6] h = some (some (.int (if exI A = 0 ∨ exI B = 0 then 0 else nI n)), h') ∧ cF h' A B r kept next P F 1 ∧ cU h h' ∧ fuP (PGS A) (PGS B) n := by
  have z0 : zcs [] ≤ 8 := by decide
  have h6 := hc.1.1
  have hA := hc.2.2.2.2.1
  have hB := hc.2.2.2.2.2.1
  have hPF := hc.1.2.2.2.2.2.2.2
  have u1 : zget h 6 6 1 = some (.ref 9) := (zget_c h6).trans rfl
  have u3 : zget h 6 6 3 = some (.ref 29) := (zget_c h6).trans rfl
  have u5 : zget h 6 6 5 = some (.ref F) := (zget_c h6).trans rfl
  have u6 : zget h 6 6 6 = some (.int 1) := (zget_c h6).trans rfl
  obtain ⟨s, X, b1, -⟩ := hc.2.2.2.1
  obtain ⟨h1, o1, o2, o3, o4⟩ := cF_makeF d hc
  have v0 : zget h1 6 6 0 = some (.ref 7) := (zget_c o3.1.1).trans rfl
  have v3 : zget h1 6 6 3 = some (.ref 29) := (zget_c o3.1.1).trans rfl
  have v4 : zget h1 6 6 4 = some (.ref P) := (zget_c o3.1.1).trans rfl
  obtain ⟨s1, X1, b2, -⟩ := o3.2.2.1
  obtain ⟨hC1, hI1, hP1, hF1, -, -, hR1⟩ := id o3
  obtain ⟨sp, Xp, bp1, bp2⟩ := hP1
  obtain ⟨h2, q1, q2, q3, q4⟩ := c_make d (a := 7) (b := P) (by decide) (by omega) hA ⟨hI1, hC1.2.1, bp1⟩ bp2
  have q5 : zBook h2 F B := zBook_fr o2 fun a h3 h4 => q3 a (by omega) (by omega)
  obtain ⟨sp', Xp', kp1, kp2, kp3⟩ := id q2
  have cf2 : cF h2 A B r kept next P F 1 := ⟨zCs_fr hC1 fun a ha => q3 a (by omega) (by omega), q4, ⟨sp', Xp', kp1, Or.inr ⟨kp2, q2⟩⟩, bookI_fr hF1 fun a h3 h4 => q3 a (by omega) (by omega), hA, hB, hR1⟩
  have cu2 : cU h1 h2 := fun k hk => q3 k (by omega) (by omega)
  have w4 : zget h2 6 6 4 = some (.ref P) := (zget_c cf2.1.1).trans rfl
  have w5 : zget h2 6 6 5 = some (.ref F) := (zget_c cf2.1.1).trans rfl
  have exF := b_exists (d + 5) hB q5
  have exP := b_exists (d + 5) hA q2
  obtain ⟨n, f1, f2⟩ := b_firstUnlike (d + 3) hA hB q2 q5
  refine ⟨h2, n, ?_, cf2, cU_tr o4 cu2, f2⟩
  rw [e69]
  simp only [g69_0, g69_1, u6, Option.bind_some]
  rw [g69_4, if_pos (by decide)]
  simp only [g69_9, g69_10, g69_13, g69_14, g69_17, g69_18, g69_21, u1, u3, u5, o1, z0, BK_b b1, Option.bind_some, Option.toList_none, List.nil_append]
  simp only [g69_24, g69_25, g69_28, g69_29, g69_32, g69_33, g69_36, v0, v3, v4, q1, z0, BK_b b2, Option.bind_some, Option.toList_none, List.nil_append]
  simp only [g69_39, g69_40, g69_43, w5, exF, z0, zBook_b q5, Option.bind_some, Option.toList_some, List.cons_append, List.nil_append]
  by_cases zB : exI B = 0
  · rw [if_pos (Or.inr zB), g69_46, if_pos zB, g69_73, g69_74]
  · rw [g69_46, if_neg zB]
    simp only [g69_49, g69_50, g69_53, w4, exP, z0, zBook_b q2, Option.bind_some, Option.toList_some, List.cons_append, List.nil_append]
    by_cases zA : exI A = 0
    · rw [if_pos (Or.inl zA), g69_56, if_pos zA, g69_73, g69_74]
    · rw [if_neg (fun w => w.elim zA zB), g69_56, if_neg zA]
      simp only [g69_59, g69_60, g69_63, g69_64, g69_67, g69_70, g69_74, w4, w5, f1, z0, zBook_b q2, Option.bind_some, Option.toList_some, List.cons_append, List.nil_append]
end CBOOK
