/-! HISTORY: the ring of eight albums at 13, 15 .. 27 -/
def zring : List Value := (List.range 8).map fun j => .ref (13 + 2 * j)
theorem zring_get {j : Nat} (hj : j < 8) : zring[j]? = some (.ref (13 + 2 * j)) := by
  unfold zring
  rw [List.getElem?_map, List.getElem?_range hj]
  rfl
def zHis (h : ZH) (kept next : Nat) : Prop := h[11]? = some (2, [.ref 12, .int (nI kept), .int (nI next)]) ∧ h[12]? = some (12, zring)
theorem c_slotAt (d : Nat) {h : ZH} {kept next j : Nat} (hH : zHis h kept next) (hj : j < 8) : zcl (d + 1) 29 [.ref 11, .int (nI j)] h = some (some (.ref (13 + 2 * j)), h) := by
  obtain ⟨h0, h1⟩ := hH
  have u0 : zget h 11 2 0 = some (.ref 12) := (zget_c h0).trans rfl
  have u1 : zlen h 12 = some (nI 8) := by
    unfold zlen
    rw [h1]
    rfl
  have u2 : zald 12 h 12 (nI j) = some (.ref (13 + 2 * j)) := by
    unfold zald
    rw [h1]
    show (zix (nI j) zring.length).bind _ = _
    rw [show zring.length = 8 from rfl, zix_nI hj (by decide)]
    exact zring_get hj
  rw [e29]
  simp only [g29_0, g29_1]
  rw [if_neg (nI_pos (by omega))]
  simp only [g29_4, g29_5, g29_6, g29_9, g29_10, u0, u1, Option.bind_some]
  rw [if_neg (nI_ge hj (by decide))]
  simp only [g29_13, g29_14, g29_17, g29_18, g29_19, u0, u2, Option.bind_some]
  exact g29_23 rfl
theorem c_isEmpty (d : Nat) {h : ZH} {kept next : Nat} (hH : zHis h kept next) (hk : kept ≤ 8) : zcl (d + 1) 26 [.ref 11] h = some (some (.int (if kept = 0 then 1 else 0)), h) := by
  have u1 : zget h 11 2 1 = some (.int (nI kept)) := (zget_c hH.1).trans rfl
  rw [e26]
  simp only [g26_0, g26_1, g26_4, u1, Option.bind_some]
  by_cases q : kept = 0
  · subst q
    rw [if_neg (fun z => z nI_0), if_pos rfl, g26_7, g26_8, g26_12 zone]
  · rw [if_pos (nI_ne0 (by omega) (by omega)), if_neg q, g26_11, g26_12 zzero]
/-- keep(album) -/
theorem c_keep (d : Nat) {h : ZH} {kept next N W H N2 W2 H2 : Nat} {f g : Nat → Int32} (hH : zHis h kept next) (hk : kept ≤ 8) (hn : next < 8) (hA : zAlb h 7 N W H f) (hB : zAlb h (13 + 2 * next) N2 W2 H2 g) :
    zcl (d + 3) 27 [.ref 11, .ref 7] h = some (none, ((h.set (13 + 2 * next) (0, [.ref (13 + 2 * next + 1), .int (nI N), .int (nI W), .int (nI H)])).set (13 + 2 * next + 1) (10, zia 60 f)).set 11 (2, [.ref 12, .int (nI (min (kept + 1) 8)), .int (nI ((next + 1) % 8))])) := by
  have u2 : zget h 11 2 2 = some (.int (nI next)) := (zget_c hH.1).trans rfl
  have z1 : zcs [] ≤ 8 := by decide
  have hb : (h[11]?).map (fun c => c.1) = some 2 := by rw [hH.1]; rfl
  have hb2 : (h[13 + 2 * next]?).map (fun c => c.1) = some 0 := by rw [hB.1]; rfl
  have hw : Value.category (.ref 7) = 1 := rfl
  have sl := c_slotAt (d + 1) hH hn
  have bc := c_become d hB hA (by omega) (by omega) (by omega)
  rw [e27]
  simp only [g27_0, g27_1, g27_2, g27_5, g27_8, g27_8n, g27_9, g27_9n, g27_10r, g27_10n, g27_13, g27_13n, g27_14, g27_14n, g27_15, u2, z1, hb, hb2, hw, sl, bc, Option.bind_some, Option.toList_some, Option.toList_none, List.cons_append, List.nil_append]
  generalize hk1 : (h.set (13 + 2 * next) (0, [.ref (13 + 2 * next + 1), .int (nI N), .int (nI W), .int (nI H)])).set (13 + 2 * next + 1) (10, zia 60 f) = k
  have K : k[11]? = some (2, [.ref 12, .int (nI kept), .int (nI next)]) := by rw [← hk1, zset_ne (by omega), zset_ne (by omega)]; exact hH.1
  have v2 : zget k 11 2 2 = some (.int (nI next)) := (zget_c K).trans rfl
  have e8 : nI next + 1 - (nI next + 1) / 8 * 8 = nI ((next + 1) % 8) := by
    rw [nI_1, show (8 : Int32) = nI 8 from rfl]
    exact pk_rem (by omega) (by decide) (by decide)
  have ne8 : ¬ (8 : Int32) = 0 := by decide
  have p2 := zput_c (v := .int (nI ((next + 1) % 8))) (j := 2) K rfl rfl rfl
  have z3 : zcs [.ref 11] ≤ 8 := by decide
  simp only [g27_18, g27_19, g27_20, g27_23, g27_24, g27_25, g27_27, v2, ne8, not_false_eq_true, e8, Option.bind_some, g27_28, p2]
  have K2 : (k.set 11 (2, [Value.ref 12, .int (nI kept), .int (nI ((next + 1) % 8))]))[11]? = some (2, [.ref 12, .int (nI kept), .int (nI ((next + 1) % 8))]) := zset_get K
  have v1 : zget (k.set 11 (2, [Value.ref 12, .int (nI kept), .int (nI ((next + 1) % 8))])) 11 2 1 = some (.int (nI kept)) := (zget_c K2).trans rfl
  have em : (if (8 : Int32) < nI kept + 1 then (8 : Int32) else nI kept + 1) = nI (min (kept + 1) 8) := by
    rw [nI_1]
    by_cases q : 8 < kept + 1
    · rw [if_pos (show (8 : Int32) < nI (kept + 1) from nI_lt q (by omega)), Nat.min_eq_right (by omega)]
      rfl
    · rw [if_neg (show ¬ (8 : Int32) < nI (kept + 1) from nI_nlt (a := 8) (show kept + 1 ≤ 8 by omega) (by decide)), Nat.min_eq_left (by omega)]
  have p1 := zput_c (v := .int (nI (min (kept + 1) 8))) (j := 1) K2 rfl rfl rfl
  simp only [List.set_cons_succ, List.set_cons_zero, g27_31, g27_32, g27_33, g27_36, g27_37, g27_38, g27_40, v1, em, z3, Option.bind_some, g27_43, p1, g27_46, List.set_set]
/-- takeBack(album) -/
theorem c_takeBack (d : Nat) {h : ZH} {kept next N W H N2 W2 H2 : Nat} {f g : Nat → Int32} (hH : zHis h kept next) (hk : kept ≤ 8) (hk0 : 0 < kept) (hn : next < 8) (hA : zAlb h 7 N W H f) (hB : zAlb h (13 + 2 * ((next + 7) % 8)) N2 W2 H2 g) :
    zcl (d + 3) 28 [.ref 11, .ref 7] h = some (none, ((h.set 7 (0, [.ref (7 + 1), .int (nI N2), .int (nI W2), .int (nI H2)])).set (7 + 1) (10, zia 60 g)).set 11 (2, [.ref 12, .int (nI (kept - 1)), .int (nI ((next + 7) % 8))])) := by
  have u2 : zget h 11 2 2 = some (.int (nI next)) := (zget_c hH.1).trans rfl
  have z1 : zcs [] ≤ 8 := by decide
  have hb : (h[11]?).map (fun c => c.1) = some 2 := by rw [hH.1]; rfl
  have hb2 : (h[7]?).map (fun c => c.1) = some 0 := by rw [hA.1]; rfl
  have hw : Value.category (.ref 7) = 1 := rfl
  have hw2 : ∀ x : Int32, Value.category (.int x) = 1 := fun _ => rfl
  generalize hl : (next + 7) % 8 = lt at hB ⊢
  have hlt : lt < 8 := by omega
  have e8 : nI next + 8 - 1 - (nI next + 8 - 1) / 8 * 8 = nI lt := by
    rw [show nI next + 8 - 1 = nI (next + 7) from by rw [show (8 : Int32) = nI 8 from rfl, nI_add, show (1 : Int32) = nI 1 from rfl]; exact pk_sub (by omega), show (8 : Int32) = nI 8 from rfl, ← hl]
    exact pk_rem (by omega) (by decide) (by decide)
  have ne8 : ¬ (8 : Int32) = 0 := by decide
  have sl := c_slotAt (d + 1) hH hlt
  have bc := c_become d hA hB (by omega) (by omega) (by omega)
  rw [e28]
  simp only [g28_0, g28_1, g28_4, g28_6, g28_7, g28_8, g28_9, g28_11, g28_12, g28_13, g28_14, g28_15, g28_18, g28_18n, g28_19, g28_19n, g28_20r, g28_20n, g28_23, g28_23n, g28_24, g28_24n, g28_25, u2, z1, hb, hb2, hw, hw2, ne8, not_false_eq_true, e8, sl, bc, Option.bind_some, Option.toList_some, Option.toList_none, List.cons_append, List.nil_append]
  generalize hk1 : (h.set 7 (0, [.ref (7 + 1), .int (nI N2), .int (nI W2), .int (nI H2)])).set (7 + 1) (10, zia 60 g) = k
  have K : k[11]? = some (2, [.ref 12, .int (nI kept), .int (nI next)]) := by rw [← hk1, zset_ne (by omega), zset_ne (by omega)]; exact hH.1
  have p2 := zput_c (v := .int (nI lt)) (j := 2) K rfl rfl rfl
  simp only [g28_28, g28_29, Option.bind_some, g28_30, p2]
  have K2 : (k.set 11 (2, [Value.ref 12, .int (nI kept), .int (nI lt)]))[11]? = some (2, [.ref 12, .int (nI kept), .int (nI lt)]) := zset_get K
  have v1 : zget (k.set 11 (2, [Value.ref 12, .int (nI kept), .int (nI lt)])) 11 2 1 = some (.int (nI kept)) := (zget_c K2).trans rfl
  have em : nI kept - 1 = nI (kept - 1) := by rw [show (1 : Int32) = nI 1 from rfl]; exact pk_sub (by omega)
  have hc : Value.category (.ref 11) = 1 := rfl
  have p1 := zput_c (v := .int (nI (kept - 1))) (j := 1) K2 rfl rfl rfl
  simp only [List.set_cons_succ, List.set_cons_zero, g28_33, g28_34, g28_35, g28_38, g28_39, hc, v1, em, Option.bind_some, g28_40, p1, g28_43, List.set_set]
