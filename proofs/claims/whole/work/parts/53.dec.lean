/-! THE REFERENCE'S TREES: halves, node, takesSizes, ways -/
def zhf (x : Int32) : Int32 := if 3 ≤ x then (if x = 3 then 3 else 11) else 1
theorem c_halves (d : Nat) (c : Nat) (x : Int32) (h : ZH) : zcl (d + 1) 91 [.ref c, .int x] h = some (some (.int (zhf x)), h) := by
  rw [e91]
  unfold zhf
  simp only [g91_0, g91_1, g91_2]
  by_cases q : 3 ≤ x
  · rw [if_pos q, if_pos q]
    simp only [g91_9, g91_10, g91_11]
    by_cases z : x = 3
    · rw [if_neg (fun w => w z), if_pos z, g91_14, g91_15, g91_20]
    · rw [if_pos z, if_neg z, g91_18, g91_20]
  · rw [if_neg q, if_neg q, g91_5, g91_6, g91_20]
def hf (s : Nat) : Nat := ([1, 1, 1, 3, 11] : List Nat).getD s 1
theorem hf_ok : ∀ s, s < 5 → zhf (nI s) = nI (hf s) := by decide +kernel
theorem hf_lt : ∀ s, s < 5 → hf s < 12 ∧ 0 < hf s := by decide
/-- the cuts' sizes: after i pictures, how many since the last cut, and the sizes -/
def ts1 (n c : Nat) : Nat → Nat × List Nat
  | 0 => (0, [])
  | i + 1 => if i + 1 < n ∧ c / 2 ^ (n - 1 - (i + 1)) % 2 = 0 then ((ts1 n c i).1 + 1, (ts1 n c i).2) else (0, (ts1 n c i).2 ++ [(ts1 n c i).1 + 1])
def tsz (n c : Nat) : List Nat := (ts1 n c n).2
def yprd (f : Nat → Nat) : Nat → Nat
  | 0 => 1
  | j + 1 => yprd f j * f j
def wy (L : List Nat) : Nat := yprd (fun j => hf (L.getD j 0)) L.length
theorem ts1_len (n c : Nat) : ∀ i : Nat, (ts1 n c i).2.length ≤ i ∧ (ts1 n c i).1 ≤ i
  | 0 => ⟨Nat.le_refl _, Nat.le_refl _⟩
  | i + 1 => by
    have ih := ts1_len n c i
    unfold ts1
    by_cases z : i + 1 < n ∧ c / 2 ^ (n - 1 - (i + 1)) % 2 = 0
    · rw [if_pos z]
      exact ⟨by have := ih.1; show (ts1 n c i).2.length ≤ i + 1; omega, by have := ih.2; show (ts1 n c i).1 + 1 ≤ i + 1; omega⟩
    · rw [if_neg z]
      refine ⟨?_, Nat.zero_le _⟩
      rw [List.length_append]
      have := ih.1
      show (ts1 n c i).2.length + 1 ≤ i + 1
      omega
section DEC
variable {p : ZP} {S : Nat → Int32} {G : Nat → Nat → Int32} {Q : Nat → Nat → Int64}
theorem c_takesSizes (d : Nat) {n c : Nat} (hn : n ≤ 4) (hc : c < 2 ^ 31) :
    ∃ G', zcl (d + 1) 94 [.ref 256, .int (nI n), .int (nI c)] (zRh p S G Q) = some (some (.int (nI (tsz n c).length)), zRh p S G' Q) ∧ (∀ j, j < (tsz n c).length → G' 9 j = nI ((tsz n c).getD j 0)) ∧ ∀ a, a ≠ 9 → G' a = G a := by
  have hwi : ∀ x, Value.category (.int x) = 1 := fun _ => rfl
  have hwj : Value.category zj = 1 := rfl
  have loop : ∀ (r i : Nat) (G : Nat → Nat → Int32), i + r = n → (∀ j, j < (ts1 n c i).2.length → G 9 j = nI ((ts1 n c i).2.getD j 0)) →
      ∃ G', zres d 94 8 [.ref 256, .int (nI n), .int (nI c), .int (nI (ts1 n c i).2.length), .int (nI (ts1 n c i).1), .int (nI (i + 1))] [] (zRh p S G Q) = some (some (.int (nI (tsz n c).length)), zRh p S G' Q) ∧ (∀ j, j < (tsz n c).length → G' 9 j = nI ((tsz n c).getD j 0)) ∧ ∀ a, a ≠ 9 → G' a = G a := by
    intro r
    induction r with
    | zero =>
      intro i G hi hG
      obtain rfl : i = n := by omega
      have c1 : nI i < nI (i + 1) := nI_lt (by omega) (by omega)
      refine ⟨G, ?_, hG, fun _ _ => rfl⟩
      simp only [g94_8, g94_10, g94_11, c1, ↓reduceIte, g94_63, g94_64]
      rfl
    | succ r ih =>
      intro i G hi hG
      have hl := ts1_len n c i
      have c1 : ¬ nI n < nI (i + 1) := nI_nlt (by omega) (by omega)
      have pre : zres d 94 8 [.ref 256, .int (nI n), .int (nI c), .int (nI (ts1 n c i).2.length), .int (nI (ts1 n c i).1), .int (nI (i + 1))] [] (zRh p S G Q) = zres d 94 20 [.ref 256, .int (nI n), .int (nI c), .int (nI (ts1 n c i).2.length), .int (nI ((ts1 n c i).1 + 1)), .int (nI (i + 1))] [] (zRh p S G Q) := by
        simp only [g94_8, g94_10, g94_11, c1, ↓reduceIte]
        simp only [g94_14, g94_16, g94_17, g94_18, hwi, nI_1]
      have eq : ts1 n c (i + 1) = if i + 1 < n ∧ c / 2 ^ (n - 1 - (i + 1)) % 2 = 0 then ((ts1 n c i).1 + 1, (ts1 n c i).2) else (0, (ts1 n c i).2 ++ [(ts1 n c i).1 + 1]) := rfl
      have put : ¬ (i + 1 < n ∧ c / 2 ^ (n - 1 - (i + 1)) % 2 = 0) → ∃ G', zres d 94 42 [.ref 256, .int (nI n), .int (nI c), .int (nI (ts1 n c i).2.length), .int (nI ((ts1 n c i).1 + 1)), .int (nI (i + 1))] [] (zRh p S G Q) = some (some (.int (nI (tsz n c).length)), zRh p S G' Q) ∧ (∀ j, j < (tsz n c).length → G' 9 j = nI ((tsz n c).getD j 0)) ∧ ∀ a, a ≠ 9 → G' a = G a := by
        intro hz
        rw [if_neg hz] at eq
        have l4 : (ts1 n c i).2.length < 4 := by omega
        obtain ⟨G', o1, o2, o3⟩ := ih (i + 1) (ug G 9 (ts1 n c i).2.length (nI ((ts1 n c i).1 + 1))) (by omega) (fun j hj => by
          rw [eq] at hj ⊢
          rw [List.length_append] at hj
          have hj2 : j < (ts1 n c i).2.length + 1 := hj
          rw [ug_s]
          show upd (G 9) _ _ j = nI (((ts1 n c i).2 ++ [(ts1 n c i).1 + 1]).getD j 0)
          by_cases z : j = (ts1 n c i).2.length
          · subst z
            rw [pk_us, List.getD_eq_getElem?_getD, List.getElem?_append_right (Nat.le_refl _), Nat.sub_self]
            rfl
          · rw [pk_un z, hG j (by omega), List.getD_eq_getElem?_getD, List.getD_eq_getElem?_getD, List.getElem?_append_left (by omega)])
        refine ⟨G', ?_, o2, fun a ha => (o3 a ha).trans (ug_n ha)⟩
        rw [eq] at o1
        simp only [g94_42, g94_43, g94_46, g94_47, g94_49, g94_50, g94_51, g94_52, g94_53, g94_54, g94_55, g94_57, g94_60, rg12, rw9 l4, hwi, nI_1, Option.bind_some]
        rw [List.length_append] at o1
        exact o1
      rw [pre]
      by_cases z1 : i + 1 < n
      · have c2 : ¬ nI n ≤ nI (i + 1) := nI_ge z1 (by omega)
        have e1 : nI n - 1 = nI (n - 1) := by rw [show (1 : Int32) = nI 1 from rfl]; exact pk_sub (by omega)
        have e2 : nI (n - 1) - nI (i + 1) = nI (n - 1 - (i + 1)) := pk_sub (by omega)
        have e3 : nI c >>> (nI (n - 1 - (i + 1)) &&& 31) &&& 1 = nI (c / 2 ^ (n - 1 - (i + 1)) % 2) := by
          have q1 : nI (n - 1 - (i + 1)) &&& 31 = nI (n - 1 - (i + 1)) := by
            rw [pk_andN (k := 5) (by omega) (m := 31) rfl, Nat.mod_eq_of_lt (by omega)]
          have q2 : ((nI (n - 1 - (i + 1))).toBitVec.smod 32).toNat = n - 1 - (i + 1) := by
            have : n - 1 - (i + 1) < 4 := by omega
            generalize n - 1 - (i + 1) = x at this
            match x, this with
            | 0, _ => rfl
            | 1, _ => rfl
            | 2, _ => rfl
            | 3, _ => rfl
          rw [q1, pk_shrN hc _ _ q2, pk_andN (k := 1) (Nat.lt_of_le_of_lt (Nat.div_le_self _ _) (by omega)) (m := 1) rfl]
        by_cases z2 : c / 2 ^ (n - 1 - (i + 1)) % 2 = 0
        · rw [if_pos ⟨z1, z2⟩] at eq
          obtain ⟨G', o1, o2, o3⟩ := ih (i + 1) G (by omega) (by rw [eq]; exact hG)
          refine ⟨G', ?_, o2, o3⟩
          rw [eq] at o1
          simp only [g94_20, g94_22, g94_23, c2, ↓reduceIte]
          simp only [g94_26, g94_27, g94_28, g94_29, g94_30, g94_32, g94_33, g94_34, g94_35, e1, e2, e3, z2, g94_36]
          rw [if_neg (by decide)]
          simp only [g94_39, g94_57, g94_60, hwi, nI_1]
          exact o1
        · obtain ⟨G', o1, o2⟩ := put (fun w => z2 w.2)
          refine ⟨G', ?_, o2⟩
          simp only [g94_20, g94_22, g94_23, c2, ↓reduceIte]
          simp only [g94_26, g94_27, g94_28, g94_29, g94_30, g94_32, g94_33, g94_34, g94_35, e1, e2, e3, g94_36]
          rw [if_pos (nI_ne0 (by omega) (by omega))]
          exact o1
      · have c2 : nI n ≤ nI (i + 1) := nI_le (by omega) (by omega)
        obtain ⟨G', o1, o2⟩ := put (fun w => z1 w.1)
        refine ⟨G', ?_, o2⟩
        simp only [g94_20, g94_22, g94_23, c2, ↓reduceIte]
        exact o1
  obtain ⟨G', o1, o2, o3⟩ := loop n 0 G (by omega) (fun j hj => absurd hj (Nat.not_lt_zero j))
  refine ⟨G', ?_, o2, o3⟩
  rw [e94]
  simp only [g94_0, g94_1, g94_2, g94_3, g94_5, g94_6, hwi, hwj]
  exact o1
theorem c_ways (d : Nat) {L : List Nat} (hL : L.length ≤ 4) (hl : ∀ j, j < L.length → L.getD j 0 < 5) (hG : ∀ j, j < L.length → G 9 j = nI (L.getD j 0)) : zcl (d + 2) 95 [.ref 256, .int (nI L.length)] (zRh p S G Q) = some (some (.int (nI (wy L))), zRh p S G Q) := by
  have hwi : ∀ x, Value.category (.int x) = 1 := fun _ => rfl
  have hwj : Value.category zj = 1 := rfl
  have zi : ∀ x, zcs [.int x] ≤ 8 := fun _ => Nat.le_of_ble_eq_true rfl
  have loop : ∀ (r i : Nat), i + r = L.length → zres (d + 1) 95 4 [.ref 256, .int (nI L.length), .int (nI (yprd (fun j => hf (L.getD j 0)) i)), .int (nI i)] [] (zRh p S G Q) = some (some (.int (nI (wy L))), zRh p S G Q) := by
    intro r
    induction r with
    | zero =>
      intro i hi
      obtain rfl : i = L.length := by omega
      have c1 : nI L.length ≤ nI L.length := nI_le (Nat.le_refl _) (by omega)
      simp only [g95_4, g95_5, g95_6, c1, ↓reduceIte, g95_28, g95_29]
      rfl
    | succ r ih =>
      intro i hi
      have hi2 : i < L.length := by omega
      have i4 : i < 4 := by omega
      have c1 : ¬ nI L.length ≤ nI i := nI_ge hi2 (by omega)
      have ch := c_halves d 256 (nI (L.getD i 0)) (zRh p S G Q)
      rw [hf_ok _ (hl i hi2)] at ch
      simp only [g95_4, g95_5, g95_6, c1, ↓reduceIte]
      simp only [g95_9, g95_10, g95_11, g95_12, g95_15, g95_16, g95_17, g95_20, g95_21, g95_22, g95_25, rg12, ra9 i4, hG i hi2, ch, zi, rb0, hwi, pk_mul, nI_1, Option.bind_some, Option.toList_some, List.cons_append, List.nil_append]
      exact ih (i + 1) (by omega)
  rw [e95]
  simp only [g95_0, g95_1, g95_2, g95_3, hwi, hwj]
  exact loop L.length 0 (by omega)
theorem c_node (d : Nat) {w s : Nat} {fr c k : Int32} (hw : w < 8) (hS : S 5 = nI w) (hs : s < 5) :
    ∃ S' G', zcl (d + 1) 93 [.ref 256, .int (nI s), .int fr, .int c, .int k] (zRh p S G Q) = some (some (.int (nI w)), zRh p S' G' Q) ∧ S' 5 = nI (w + 1) ∧ (∀ j, j ≠ 5 → S' j = S j) ∧ (G' 3 w = nI s ∧ G' 4 w = fr ∧ G' 5 w = (if s = 1 then 0 else c) ∧ G' 6 w = k ∧ G' 7 w = 0) ∧ (∀ a u, u ≠ w → G' a u = G a u) ∧ ∀ a, (a < 3 ∨ 7 < a) → G' a = G a := by
  have hwi : ∀ x, Value.category (.int x) = 1 := fun _ => rfl
  have e1 : nI (w + 1) - 1 = nI w := nI_pred w
  have ec : zres d 93 28 [.ref 256, .int (nI s), .int fr, .int c, .int k] [.int (nI w), .ref 261] (zRh p S (ug (ug G 3 w (nI s)) 4 w fr) Q) = zres d 93 38 [.ref 256, .int (nI s), .int fr, .int c, .int k] [.int (if s = 1 then 0 else c), .int (nI w), .ref 261] (zRh p S (ug (ug G 3 w (nI s)) 4 w fr) Q) := by
    simp only [g93_28, g93_29, g93_30]
    by_cases z : s = 1
    · subst z
      rw [if_neg (fun w => w rfl), if_pos rfl, g93_33, g93_34]
    · have nz : ¬ nI s = 1 := fun w => z ((nI_eq (a := s) (b := 1) (by omega) (by decide)).mp w)
      rw [if_pos nz, if_neg z, g93_37]
  refine ⟨upd S 5 (nI (w + 1)), ug (ug (ug (ug (ug G 3 w (nI s)) 4 w fr) 5 w (if s = 1 then 0 else c)) 6 w k) 7 w 0, ?_, pk_us, fun j hj => pk_un hj, ⟨?_, ?_, ?_, ?_, ?_⟩, fun a u hu => ?_, fun a ha => ?_⟩
  · rw [e93]
    simp only [g93_0, g93_1, g93_4, g93_5, g93_8, g93_9, g93_10, g93_11, g93_14, g93_15, g93_18, g93_19, g93_20, g93_21, g93_24, g93_25, rg5, rg6, rg7, rg8, hS, rw3 hw, rw4 hw, Option.bind_some]
    rw [ec]
    simp only [g93_38, g93_39, g93_40, g93_43, g93_44, g93_47, g93_49, g93_50, g93_51, g93_54, g93_55, g93_58, g93_59, g93_60, g93_61, g93_62, g93_65, g93_66, g93_67, g93_70, g93_71, g93_74, g93_75, g93_76, rg5, rg9, rg10, hS, rw5 hw, rw6 hw, rw7 hw, nI_1, rfp5, pk_us, e1, Option.bind_some]
  · rw [ug_n (by decide), ug_n (by decide), ug_n (by decide), ug_n (by decide), ug_s, pk_us]
  · rw [ug_n (by decide), ug_n (by decide), ug_n (by decide), ug_s, pk_us]
  · rw [ug_n (by decide), ug_n (by decide), ug_s, pk_us]
  · rw [ug_n (by decide), ug_s, pk_us]
  · rw [ug_s, pk_us]
  · have u1 : ∀ (G : Nat → Nat → Int32) (b : Nat) (x : Int32), ug G b w x a u = G a u := fun G b x => by
      by_cases z : a = b
      · subst z
        rw [ug_s, pk_un hu]
      · rw [ug_n z]
    rw [u1, u1, u1, u1, u1]
  · rw [ug_n (by omega), ug_n (by omega), ug_n (by omega), ug_n (by omega), ug_n (by omega)]
end DEC
