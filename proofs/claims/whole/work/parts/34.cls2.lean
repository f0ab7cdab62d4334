section CLS2
variable {h : ZH} {A B : AV} {r : Nat → AV} {kept next P F : Nat} {e pic pg made : Int32}
/-- picture(w, h, worth, kind, group) -/
theorem c_picture_no (d : Nat) (hC : zCs h A B r kept next P F e) (hN : A.1 ≤ 12) (w x v k g : Int32) (hn : A.1 = 12 ∨ ¬ zcan w x v k g) : zcl (d + 5) 53 [.ref 6, .int w, .int x, .int v, .int k, .int g] h = some (some (.int (-1)), h) := by
  have z0 : zcs [] ≤ 8 := by decide
  have u0 : zget h 6 6 0 = some (.ref 7) := (zget_c hC.1).trans rfl
  have u1 : zget h 7 0 1 = some (.int (nI A.1)) := (zget_c hC.2.1.1).trans rfl
  rw [e53]
  simp only [g53_0, g53_1, g53_4, g53_7, g53_9, u0, u1, Option.bind_some]
  by_cases q : A.1 = 12
  · rw [if_pos (show (12 : Int32) ≤ nI A.1 from nI_le (a := 12) (by omega) (by omega)), g53_25, g53_26]
  · rw [if_neg (show ¬ (12 : Int32) ≤ nI A.1 from nI_ge (b := 12) (by omega) (by decide))]
    obtain ⟨rr, c1, -, c3⟩ := c_canBePicture (d + 2) w x v k g h
    have := c3 (hn.resolve_left q)
    subst this
    simp only [g53_12, g53_13, g53_14, g53_15, g53_17, g53_19, g53_22, c1, z0, Option.bind_some, Option.toList_some, List.cons_append, List.nil_append]
    rw [if_neg (fun z => z trivial), g53_25, g53_26]
theorem c_picture (d : Nat) (hC : zCs h A B r kept next P F e) (hF : h[F]? = some (zBkc F pic pg made)) (hN : A.1 < 12) (w x v k g : Int32) (hc : zcan w x v k g) :
    ∃ h', zcl (d + 5) 53 [.ref 6, .int w, .int x, .int v, .int k, .int g] h = some (some (.int (nI A.1)), h') ∧ zDone h h' A (A.1 + 1, A.2.1, A.2.2.1, zwr A.2.2.2 A.1 w x v k g) r kept next P F pic pg := by
  have z0 : zcs [] ≤ 8 := by decide
  have u0 : zget h 6 6 0 = some (.ref 7) := (zget_c hC.1).trans rfl
  have u1 : zget h 7 0 1 = some (.int (nI A.1)) := (zget_c hC.2.1.1).trans rfl
  obtain ⟨rr, c1, c2, -⟩ := c_canBePicture (d + 2) w x v k g h
  have := c2 hc
  subst this
  obtain ⟨h1, b1, b2, b3, b4⟩ := cl_begin d hC hF
  have hb : (h[6]?).map (fun c => c.1) = some 6 := by rw [hC.1]; rfl
  have A0 := b2.2.1.1
  have A1 := b2.2.1.2
  have v0 : zget h1 6 6 0 = some (.ref 7) := (zget_c b2.1).trans rfl
  have v1 : zget h1 7 0 1 = some (.int (nI A.1)) := (zget_c A0).trans rfl
  have p1 : zput h1 7 0 1 (.int (nI (A.1 + 1))) = some (h1.set 7 (0, [.ref (7 + 1), .int (nI (A.1 + 1)), .int (nI A.2.1), .int (nI A.2.2.1)])) := zput_c A0 rfl rfl rfl
  have K0 : zAlb (h1.set 7 (0, [.ref (7 + 1), .int (nI (A.1 + 1)), .int (nI A.2.1), .int (nI A.2.2.1)])) 7 (A.1 + 1) A.2.1 A.2.2.1 A.2.2.2 := ⟨zset_get A0, (zset_ne (by decide)).trans A1⟩
  have w0 : zget (h1.set 7 (0, [.ref (7 + 1), .int (nI (A.1 + 1)), .int (nI A.2.1), .int (nI A.2.2.1)])) 6 6 0 = some (.ref 7) := (zget_c ((zset_ne (by decide)).trans b2.1)).trans rfl
  have wr := c_write (d + 2) K0 hN w x v k g
  have hb7 : ((h1.set 7 (0, [Value.ref (7 + 1), .int (nI (A.1 + 1)), .int (nI A.2.1), .int (nI A.2.2.1)]))[7]?).map (fun c => c.1) = some 0 := by rw [K0.1]; rfl
  have hw : ∀ y : Int32, Value.category (.int y) = 1 := fun _ => rfl
  have hw2 : Value.category (.ref 7) = 1 := rfl
  rw [e53]
  simp only [g53_0, g53_1, g53_4, g53_7, g53_9, u0, u1, Option.bind_some]
  rw [if_neg (show ¬ (12 : Int32) ≤ nI A.1 from nI_ge (b := 12) (by omega) (by decide))]
  simp only [g53_12, g53_13, g53_14, g53_15, g53_17, g53_19, g53_22, c1, z0, Option.bind_some, Option.toList_some, List.cons_append, List.nil_append]
  rw [if_pos (show ¬ (1 : Int32) = 0 by decide)]
  simp only [g53_27, g53_28, g53_31, g53_32, g53_35, g53_38, g53_40, g53_41, g53_44, g53_45, g53_48, g53_49, g53_50, g53_53, g53_54, g53_57, g53_59, g53_60, g53_61, g53_62, g53_64, g53_66, b1, z0, hb, v0, v1, p1, w0, wr, hb7, hw, hw2, nI_1, Option.bind_some, Option.toList_none, List.nil_append, g53_69, g53_71]
  refine ⟨_, rfl, zDone_of b2 b3 b4 (zAlb_set K0) fun j q3 q4 => ?_⟩
  rw [zset_ne (show 7 + 1 ≠ j by omega), zset_ne (Ne.symm q3)]
/-- change(i, ..) -/
theorem c_change_no (d : Nat) (hC : zCs h A B r kept next P F e) (i w x v k g : Int32) (hn : ¬ (0 ≤ i ∧ i < nI A.1) ∨ ¬ zcan w x v k g) : zcl (d + 5) 54 [.ref 6, .int i, .int w, .int x, .int v, .int k, .int g] h = some (some (.int 0), h) := by
  have z0 : zcs [] ≤ 8 := by decide
  have u0 : zget h 6 6 0 = some (.ref 7) := (zget_c hC.1).trans rfl
  have hb : (h[7]?).map (fun c => c.1) = some 0 := by rw [hC.2.1.1]; rfl
  have hs := c_has (d + 3) hC.2.1 i
  rw [e54]
  simp only [g54_0, g54_1, g54_4, g54_5, g54_8, u0, hs, z0, hb, Option.bind_some, Option.toList_some, List.cons_append, List.nil_append]
  by_cases q : 0 ≤ i ∧ i < nI A.1
  · rw [if_pos q, if_neg (show ¬ (1 : Int32) = 0 by decide)]
    obtain ⟨rr, c1, -, c3⟩ := c_canBePicture (d + 2) w x v k g h
    have := c3 (hn.resolve_left (fun z => z q))
    subst this
    simp only [g54_11, g54_12, g54_13, g54_15, g54_17, g54_19, g54_22, c1, z0, Option.bind_some, Option.toList_some, List.cons_append, List.nil_append]
    rw [if_neg (fun z => z trivial), g54_25, g54_26 zzero]
  · rw [if_neg q, if_pos rfl, g54_25, g54_26 zzero]
theorem c_change (d : Nat) (hC : zCs h A B r kept next P F e) (hF : h[F]? = some (zBkc F pic pg made)) (hN : A.1 ≤ 12) {j : Nat} (hj : j < A.1) (w x v k g : Int32) (hc : zcan w x v k g) :
    ∃ h', zcl (d + 5) 54 [.ref 6, .int (nI j), .int w, .int x, .int v, .int k, .int g] h = some (some (.int 1), h') ∧ zDone h h' A (A.1, A.2.1, A.2.2.1, zwr A.2.2.2 j w x v k g) r kept next P F pic pg := by
  have z0 : zcs [] ≤ 8 := by decide
  have u0 : zget h 6 6 0 = some (.ref 7) := (zget_c hC.1).trans rfl
  have hb7 : (h[7]?).map (fun c => c.1) = some 0 := by rw [hC.2.1.1]; rfl
  have hs := c_has (d + 3) hC.2.1 (nI j)
  rw [if_pos ⟨nI_pos' (by omega), nI_lt hj (by omega)⟩] at hs
  obtain ⟨rr, c1, c2, -⟩ := c_canBePicture (d + 2) w x v k g h
  have := c2 hc
  subst this
  obtain ⟨h1, b1, b2, b3, b4⟩ := cl_begin d hC hF
  have hb : (h[6]?).map (fun c => c.1) = some 6 := by rw [hC.1]; rfl
  have v0 : zget h1 6 6 0 = some (.ref 7) := (zget_c b2.1).trans rfl
  have wr := c_write (d + 2) b2.2.1 (show j < 12 by omega) w x v k g
  have hb8 : (h1[7]?).map (fun c => c.1) = some 0 := by rw [b2.2.1.1]; rfl
  rw [e54]
  simp only [g54_0, g54_1, g54_4, g54_5, g54_8, u0, hs, z0, hb7, Option.bind_some, Option.toList_some, List.cons_append, List.nil_append]
  rw [if_neg (show ¬ (1 : Int32) = 0 by decide)]
  simp only [g54_11, g54_12, g54_13, g54_15, g54_17, g54_19, g54_22, c1, z0, Option.bind_some, Option.toList_some, List.cons_append, List.nil_append]
  rw [if_pos (show ¬ (1 : Int32) = 0 by decide)]
  simp only [g54_27, g54_28, g54_31, g54_32, g54_35, g54_36, g54_37, g54_38, g54_40, g54_42, g54_44, b1, z0, hb, v0, wr, hb8, Option.bind_some, Option.toList_none, List.nil_append, g54_47]
  exact ⟨_, g54_48 zone, zDone_of b2 b3 b4 (zAlb_set b2.2.1) fun i q3 q4 => zset_ne (show 7 + 1 ≠ i by omega)⟩
/-- swap(i, j) -/
theorem c_swap_no (d : Nat) (hC : zCs h A B r kept next P F e) (i j : Int32) (hn : ¬ ((0 ≤ i ∧ i < nI A.1) ∧ (0 ≤ j ∧ j < nI A.1))) : zcl (d + 5) 55 [.ref 6, .int i, .int j] h = some (some (.int 0), h) := by
  have z0 : zcs [] ≤ 8 := by decide
  have u0 : zget h 6 6 0 = some (.ref 7) := (zget_c hC.1).trans rfl
  have hb : (h[7]?).map (fun c => c.1) = some 0 := by rw [hC.2.1.1]; rfl
  have hs := c_has (d + 3) hC.2.1 i
  have ht := c_has (d + 3) hC.2.1 j
  rw [e55]
  simp only [g55_0, g55_1, g55_4, g55_5, g55_8, u0, hs, z0, hb, Option.bind_some, Option.toList_some, List.cons_append, List.nil_append]
  by_cases q : 0 ≤ i ∧ i < nI A.1
  · rw [if_pos q, if_neg (show ¬ (1 : Int32) = 0 by decide)]
    simp only [g55_11, g55_12, g55_15, g55_16, g55_19, u0, ht, z0, hb, Option.bind_some, Option.toList_some, List.cons_append, List.nil_append]
    rw [if_neg (fun q2 => hn ⟨q, q2⟩), if_neg (fun z => z rfl), g55_22, g55_23 zzero]
  · rw [if_neg q, if_pos rfl, g55_22, g55_23 zzero]
theorem c_swap (d : Nat) (hC : zCs h A B r kept next P F e) (hF : h[F]? = some (zBkc F pic pg made)) (hN : A.1 ≤ 12) {p q : Nat} (hp : p < A.1) (hq : q < A.1) :
    ∃ h', zcl (d + 5) 55 [.ref 6, .int (nI p), .int (nI q)] h = some (some (.int 1), h') ∧ zDone h h' A (A.1, A.2.1, A.2.2.1, zsw A.2.2.2 p q 5) r kept next P F pic pg := by
  have z0 : zcs [] ≤ 8 := by decide
  have u0 : zget h 6 6 0 = some (.ref 7) := (zget_c hC.1).trans rfl
  have hb7 : (h[7]?).map (fun c => c.1) = some 0 := by rw [hC.2.1.1]; rfl
  have hs := c_has (d + 3) hC.2.1 (nI p)
  rw [if_pos ⟨nI_pos' (by omega), nI_lt hp (by omega)⟩] at hs
  have ht := c_has (d + 3) hC.2.1 (nI q)
  rw [if_pos ⟨nI_pos' (by omega), nI_lt hq (by omega)⟩] at ht
  obtain ⟨h1, b1, b2, b3, b4⟩ := cl_begin d hC hF
  have hb : (h[6]?).map (fun c => c.1) = some 6 := by rw [hC.1]; rfl
  have v0 : zget h1 6 6 0 = some (.ref 7) := (zget_c b2.1).trans rfl
  have ec := c_exchange (d + 2) b2.2.1 hN hp hq
  have hb8 : (h1[7]?).map (fun c => c.1) = some 0 := by rw [b2.2.1.1]; rfl
  rw [e55]
  simp only [g55_0, g55_1, g55_4, g55_5, g55_8, u0, hs, z0, hb7, Option.bind_some, Option.toList_some, List.cons_append, List.nil_append]
  rw [if_neg (show ¬ (1 : Int32) = 0 by decide)]
  simp only [g55_11, g55_12, g55_15, g55_16, g55_19, u0, ht, z0, hb7, Option.bind_some, Option.toList_some, List.cons_append, List.nil_append]
  rw [if_pos (show ¬ (1 : Int32) = 0 by decide)]
  simp only [g55_24, g55_25, g55_28, g55_29, g55_32, g55_33, g55_34, b1, z0, hb, v0, ec, hb8, Option.bind_some, Option.toList_none, List.nil_append, g55_37]
  exact ⟨_, g55_38 zone, zDone_of b2 b3 b4 (zAlb_set b2.2.1) fun i q3 q4 => zset_ne (show 7 + 1 ≠ i by omega)⟩
/-- drop(i) -/
theorem c_drop_no (d : Nat) (hC : zCs h A B r kept next P F e) (i : Int32) (hn : ¬ (0 ≤ i ∧ i < nI A.1)) : zcl (d + 5) 56 [.ref 6, .int i] h = some (some (.int 0), h) := by
  have z0 : zcs [] ≤ 8 := by decide
  have u0 : zget h 6 6 0 = some (.ref 7) := (zget_c hC.1).trans rfl
  have hb : (h[7]?).map (fun c => c.1) = some 0 := by rw [hC.2.1.1]; rfl
  have hs := c_has (d + 3) hC.2.1 i
  rw [e56]
  simp only [g56_0, g56_1, g56_4, g56_5, g56_8, u0, hs, z0, hb, Option.bind_some, Option.toList_some, List.cons_append, List.nil_append]
  rw [if_neg hn, if_neg (fun z => z rfl), g56_11, g56_12 zzero]
theorem c_drop (d : Nat) (hC : zCs h A B r kept next P F e) (hF : h[F]? = some (zBkc F pic pg made)) (hN : A.1 ≤ 12) {p : Nat} (hp : p < A.1) :
    ∃ h', zcl (d + 5) 56 [.ref 6, .int (nI p)] h = some (some (.int 1), h') ∧ zDone h h' A (A.1 - 1, A.2.1, A.2.2.1, zrmv A.2.2.2 p (5 * (A.1 - 1))) r kept next P F pic pg := by
  have z0 : zcs [] ≤ 8 := by decide
  have u0 : zget h 6 6 0 = some (.ref 7) := (zget_c hC.1).trans rfl
  have hb7 : (h[7]?).map (fun c => c.1) = some 0 := by rw [hC.2.1.1]; rfl
  have hs := c_has (d + 3) hC.2.1 (nI p)
  rw [if_pos ⟨nI_pos' (by omega), nI_lt hp (by omega)⟩] at hs
  obtain ⟨h1, b1, b2, b3, b4⟩ := cl_begin d hC hF
  have hb : (h[6]?).map (fun c => c.1) = some 6 := by rw [hC.1]; rfl
  have v0 : zget h1 6 6 0 = some (.ref 7) := (zget_c b2.1).trans rfl
  have rv := c_remove (d + 2) b2.2.1 hN hp
  have hb8 : (h1[7]?).map (fun c => c.1) = some 0 := by rw [b2.2.1.1]; rfl
  rw [e56]
  simp only [g56_0, g56_1, g56_4, g56_5, g56_8, u0, hs, z0, hb7, Option.bind_some, Option.toList_some, List.cons_append, List.nil_append]
  rw [if_pos (show ¬ (1 : Int32) = 0 by decide)]
  simp only [g56_13, g56_14, g56_17, g56_18, g56_21, g56_22, b1, z0, hb, v0, rv, hb8, Option.bind_some, Option.toList_none, List.nil_append, g56_25]
  refine ⟨_, g56_26 zone, zDone_of b2 b3 b4 ⟨zset_get ((zset_ne (by decide)).trans b2.2.1.1), (zset_ne (by decide)).trans (zset_get b2.2.1.2)⟩ fun i q3 q4 => ?_⟩
  rw [zset_ne (Ne.symm q3), zset_ne (show 7 + 1 ≠ i by omega)]
end CLS2
