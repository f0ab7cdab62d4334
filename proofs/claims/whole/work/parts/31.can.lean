/-! what can be a picture, on both sides; the tables of trees -/
def zcan (w x v k g : Int32) : Prop := (1 ≤ w ∧ w ≤ 12) ∧ (1 ≤ x ∧ x ≤ 12) ∧ (1 ≤ v ∧ v ≤ 9) ∧ (0 ≤ k ∧ k ≤ 1) ∧ (0 ≤ g ∧ g ≤ 9)
theorem c_canBePicture (d : Nat) (w x v k g : Int32) (h : ZH) : ∃ r : Int32, zcl (d + 2) 73 [.int w, .int x, .int v, .int k, .int g] h = some (some (.int r), h) ∧ (zcan w x v k g → r = 1) ∧ (¬ zcan w x v k g → r = 0) := by
  have z0 : zcs [] ≤ 8 := by decide
  rw [e73]
  simp only [g73_0, g73_1, g73_2, g73_4, g73_7, c_within d, z0, Option.bind_some, Option.toList_some, List.cons_append, List.nil_append]
  by_cases q1 : 1 ≤ w ∧ w ≤ 12
  · rw [if_pos q1, if_neg (show ¬ (1 : Int32) = 0 by decide)]
    simp only [g73_10, g73_11, g73_12, g73_14, g73_17, c_within d, z0, Option.bind_some, Option.toList_some, List.cons_append, List.nil_append]
    by_cases q2 : 1 ≤ x ∧ x ≤ 12
    · rw [if_pos q2, if_neg (show ¬ (1 : Int32) = 0 by decide)]
      simp only [g73_20, g73_21, g73_22, g73_24, g73_27, c_within d, z0, Option.bind_some, Option.toList_some, List.cons_append, List.nil_append]
      by_cases q3 : 1 ≤ v ∧ v ≤ 9
      · rw [if_pos q3, if_neg (show ¬ (1 : Int32) = 0 by decide)]
        simp only [g73_30, g73_31, g73_32, g73_33, g73_36, c_within d, z0, Option.bind_some, Option.toList_some, List.cons_append, List.nil_append]
        by_cases q4 : 0 ≤ k ∧ k ≤ 1
        · rw [if_pos q4, if_neg (show ¬ (1 : Int32) = 0 by decide)]
          simp only [g73_39, g73_41, g73_42, g73_44, g73_47, c_within d, z0, Option.bind_some, Option.toList_some, List.cons_append, List.nil_append]
          by_cases q5 : 0 ≤ g ∧ g ≤ 9
          · rw [if_pos q5, if_neg (show ¬ (1 : Int32) = 0 by decide), g73_50, g73_51, g73_55 zone]
            exact ⟨1, rfl, fun _ => rfl, fun q => absurd ⟨q1, q2, q3, q4, q5⟩ q⟩
          · rw [if_neg q5, if_pos rfl, g73_54, g73_55 zzero]
            exact ⟨0, rfl, fun q => absurd q.2.2.2.2 q5, fun _ => rfl⟩
        · rw [if_neg q4, if_pos rfl, g73_54, g73_55 zzero]
          exact ⟨0, rfl, fun q => absurd q.2.2.2.1 q4, fun _ => rfl⟩
      · rw [if_neg q3, if_pos rfl, g73_54, g73_55 zzero]
        exact ⟨0, rfl, fun q => absurd q.2.2.1 q3, fun _ => rfl⟩
    · rw [if_neg q2, if_pos rfl, g73_54, g73_55 zzero]
      exact ⟨0, rfl, fun q => absurd q.2.1 q2, fun _ => rfl⟩
  · rw [if_neg q1, if_pos rfl, g73_54, g73_55 zzero]
    exact ⟨0, rfl, fun q => absurd q.1 q1, fun _ => rfl⟩
theorem c_canBe (d : Nat) (a : Nat) (w x v k g : Int32) (h : ZH) : ∃ r : Int32, zcl (d + 1) 82 [.ref a, .int w, .int x, .int v, .int k, .int g] h = some (some (.int r), h) ∧ (zcan w x v k g → r = 1) ∧ (¬ zcan w x v k g → r = 0) := by
  rw [e82]
  have no : ∀ (L : List Value), ¬ zcan w x v k g → ∃ r : Int32, zres d 82 60 L [] h = some (some (.int r), h) ∧ (zcan w x v k g → r = 1) ∧ (¬ zcan w x v k g → r = 0) := by
    intro L hn
    rw [g82_60, g82_61 zzero]
    exact ⟨0, rfl, fun q => absurd q hn, fun _ => rfl⟩
  simp only [g82_0, g82_1, g82_2]
  by_cases q1 : w < 1
  · rw [if_pos q1]
    exact no _ fun q => absurd q1 (i_nlt.mpr q.1.1)
  rw [if_neg q1]
  simp only [g82_5, g82_6, g82_8]
  by_cases q2 : 12 < w
  · rw [if_pos q2]
    exact no _ fun q => absurd q2 (i_nlt.mpr q.1.2)
  rw [if_neg q2]
  simp only [g82_11, g82_12, g82_13]
  by_cases q3 : x < 1
  · rw [if_pos q3]
    exact no _ fun q => absurd q3 (i_nlt.mpr q.2.1.1)
  rw [if_neg q3]
  simp only [g82_16, g82_17, g82_19]
  by_cases q4 : 12 < x
  · rw [if_pos q4]
    exact no _ fun q => absurd q4 (i_nlt.mpr q.2.1.2)
  rw [if_neg q4]
  simp only [g82_22, g82_23, g82_24]
  by_cases q5 : v < 1
  · rw [if_pos q5]
    exact no _ fun q => absurd q5 (i_nlt.mpr q.2.2.1.1)
  rw [if_neg q5]
  simp only [g82_27, g82_28, g82_30]
  by_cases q6 : 9 < v
  · rw [if_pos q6]
    exact no _ fun q => absurd q6 (i_nlt.mpr q.2.2.1.2)
  rw [if_neg q6]
  simp only [g82_33, g82_35]
  by_cases q7 : k < 0
  · rw [if_pos q7]
    exact no _ fun q => absurd q7 (i_nlt.mpr q.2.2.2.1.1)
  rw [if_neg q7]
  simp only [g82_38, g82_40, g82_41]
  by_cases q8 : 1 < k
  · rw [if_pos q8]
    exact no _ fun q => absurd q8 (i_nlt.mpr q.2.2.2.1.2)
  rw [if_neg q8]
  simp only [g82_44, g82_46]
  by_cases q9 : g < 0
  · rw [if_pos q9]
    exact no _ fun q => absurd q9 (i_nlt.mpr q.2.2.2.2.1)
  rw [if_neg q9]
  simp only [g82_49, g82_51, g82_53]
  by_cases q10 : 9 < g
  · rw [if_pos q10]
    exact no _ fun q => absurd q10 (i_nlt.mpr q.2.2.2.2.2)
  rw [if_neg q10, g82_56, g82_57, g82_61 zone]
  exact ⟨1, rfl, fun _ => rfl, fun q => absurd ⟨⟨i_nlt.mp q1, i_nlt.mp q2⟩, ⟨i_nlt.mp q3, i_nlt.mp q4⟩, ⟨i_nlt.mp q5, i_nlt.mp q6⟩, ⟨i_nlt.mp q7, i_nlt.mp q8⟩, i_nlt.mp q9, i_nlt.mp q10⟩ q⟩
/-- the static arrays -/
def zSta (h : ZH) : Prop := ∀ k : Nat, k < 5 → h[k]? = some (20, zint (zsv k))
theorem zint_zia (l : List Int32) : zint l = zia l.length (fun j => l.getD j 0) := by
  apply List.ext_getElem?
  intro i
  by_cases hi : i < l.length
  · rw [zia_get hi]
    unfold zint
    rw [List.getElem?_map, List.getD_eq_getElem?_getD, List.getElem?_eq_getElem hi]
    rfl
  · rw [List.getElem?_eq_none (by rw [zint_len]; omega), List.getElem?_eq_none (by rw [zia_len]; omega)]
def zon (n : Int32) : Int32 := if 0 ≤ n ∧ n < 5 then (zsv 0).getD n.toNatClampNeg 0 else 0
theorem c_at0 (d : Nat) {h : ZH} (hS : zSta h) (n : Int32) : zcl (d + 1) 75 [.ref 0, .int n] h = some (some (.int (zon n)), h) := by
  have h0 := hS 0 (by decide)
  rw [zint_zia] at h0
  rw [c_at d n h0 (Or.inr rfl) (by decide)]
  rfl
def zhm (n : Int32) : Int32 := if n = 1 then zon n else 2 * zon n
theorem c_howMany (d : Nat) {h : ZH} (hS : zSta h) (n : Int32) : zcl (d + 2) 46 [.int n] h = some (some (.int (zhm n)), h) := by
  have z0 : zcs [] ≤ 8 := by decide
  have hw : Value.category (.int n) = 1 := rfl
  rw [e46]
  simp only [g46_0, g46_3, g46_4, g46_7, g46_8, g46_9, g46_10, c_at0 d hS, z0, hw, Option.bind_some, Option.toList_some, List.cons_append, List.nil_append]
  unfold zhm
  by_cases q : n = 1
  · rw [if_neg (fun z => z q), if_pos q]
    simp only [g46_13, g46_14, g46_20]
  · rw [if_pos q, if_neg q]
    simp only [g46_17, g46_18, g46_19, g46_20]
def zct (n k : Int32) : Int32 := if n = 1 then 0 else if k < zon n then 1 else 2
theorem c_cutOf (d : Nat) {h : ZH} (hS : zSta h) (n k : Int32) : zcl (d + 2) 47 [.int n, .int k] h = some (some (.int (zct n k)), h) := by
  have z1 : zcs [.int k] ≤ 8 := Nat.le_of_ble_eq_true rfl
  rw [e47]
  unfold zct
  simp only [g47_0, g47_1, g47_2]
  by_cases q : n = 1
  · rw [if_neg (fun z => z q), if_pos q, g47_5, g47_6]
  · rw [if_pos q, if_neg q]
    simp only [g47_7, g47_8, g47_11, g47_12, g47_15, c_at0 d hS, z1, Option.bind_some, Option.toList_some, List.cons_append, List.nil_append]
    by_cases q2 : k < zon n
    · rw [if_neg (i_nle.mpr q2), if_pos q2, g47_18, g47_19, g47_23]
    · rw [if_pos (i_nlt.mp q2), if_neg q2, g47_22, g47_23]
theorem c_trees (d : Nat) {h : ZH} (hS : zSta h) (n : Int32) (a : Nat) : zcl (d + 3) 58 [.ref a, .int n] h = some (some (.int (if 1 ≤ n ∧ n ≤ 4 then zhm n else -1)), h) := by
  have z0 : zcs [] ≤ 8 := by decide
  rw [e58]
  simp only [g58_0, g58_1, g58_2, g58_3, g58_6, c_within (d + 1), z0, Option.bind_some, Option.toList_some, List.cons_append, List.nil_append]
  by_cases q : 1 ≤ n ∧ n ≤ 4
  · rw [if_pos q, if_pos q, if_neg (show ¬ (1 : Int32) = 0 by decide)]
    simp only [g58_9, g58_10, g58_13, c_howMany d hS, z0, Option.bind_some, Option.toList_some, List.cons_append, List.nil_append, g58_17]
  · rw [if_neg q, if_neg q, if_pos rfl, g58_16, g58_17]
