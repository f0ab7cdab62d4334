/-! THE REFERENCE'S FRACTIONS -/
theorem gcd_lt {a b n : Nat} (hb0 : 0 < b) (hb : b < n) : Nat.gcd a b < n := Nat.lt_of_le_of_lt (Nat.gcd_le_right a hb0) hb
theorem lN_ne0 {a : Nat} (h0 : 0 < a) (h : a < 2 ^ 63) : ¬ lN a = 0 := fun z => absurd ((pk_lEQ h (by decide : (0 : Nat) < 2 ^ 63)).mp z) (by omega)
theorem lN_ge0 {a : Nat} (h : a < 2 ^ 63) : (0 : Int64) ≤ lN a := (pk_lLE (by decide : (0 : Nat) < 2 ^ 63) h).mpr (Nat.zero_le a)
theorem lN_nle0 {a : Nat} (h0 : 0 < a) (h : a < 2 ^ 63) : ¬ lN a ≤ 0 := fun z => absurd ((pk_lLE h (by decide : (0 : Nat) < 2 ^ 63)).mp z) (by omega)
theorem c_common (d : Nat) {a b c : Nat} (h : ZH) (ha : a < 2 ^ 63) (hb : b < 2 ^ 63) : zcl (d + 1) 100 [.ref c, .long (lN a), .long (lN b)] h = some (some (.long (lN (Nat.gcd a b))), h) := by
  have hwj : Value.category zj = 1 := rfl
  have h0 := lN_ge0 ha
  have loop : ∀ (n x y : Nat) (l9 l10 : Value), y ≤ n → x < 2 ^ 63 → y < 2 ^ 63 → zres d 100 17 [.ref c, .long (lN a), zj, .long (lN b), zj, .long (lN x), zj, .long (lN y), zj, l9, l10] [] h = some (some (.long (lN (Nat.gcd x y))), h) := by
    intro n
    induction n with
    | zero =>
      intro x y l9 l10 hn hx hy
      obtain rfl : y = 0 := by omega
      have q : lN 0 ≤ (0 : Int64) := by decide
      simp only [g100_17, g100_19, g100_20, g100_21, lg_le, q, ↓reduceIte, g100_42, g100_44, Nat.gcd_zero_right]
    | succ n ih =>
      intro x y l9 l10 hn hx hy
      by_cases z : y = 0
      · subst z
        have q : lN 0 ≤ (0 : Int64) := by decide
        simp only [g100_17, g100_19, g100_20, g100_21, lg_le, q, ↓reduceIte, g100_42, g100_44, Nat.gcd_zero_right]
      · have q := lN_nle0 (show 0 < y by omega) hy
        have q0 := lN_ne0 (show 0 < y by omega) hy
        have lt : x % y < y := Nat.mod_lt x (by omega)
        simp only [g100_17, g100_19, g100_20, g100_21, lg_le, q, ↓reduceIte]
        simp only [g100_24, g100_26, g100_28, g100_29, g100_31, g100_33, g100_35, g100_37, g100_39, q0, hwj, not_false_eq_true, pk_lRem hx (show 0 < y by omega) hy]
        rw [ih y (x % y) _ _ (by omega) hy (by omega), Nat.gcd_comm x y, Nat.gcd_rec y x, Nat.gcd_comm]
  rw [e100]
  simp only [g100_0, g100_1, g100_2, g100_3, lg_ge, h0, ↓reduceIte, g100_11, g100_12, g100_14, g100_15, hwj]
  exact loop b a b zj zj (Nat.le_refl b) ha hb
section ARITH
variable {p : ZP} {S : Nat → Int32} {G : Nat → Nat → Int32} {Q : Nat → Nat → Int64}
def qs (Q : Nat → Nat → Int64) (u P : Nat) : Nat → Nat → Int64 := uq (uq Q 0 13 (lN (rd1 u P))) 0 14 (lN (rd2 u P))
theorem qs_1 {u P : Nat} : qs Q u P 0 13 = lN (rd1 u P) := by
  unfold qs
  rw [uq_s, pk_uLn (by decide), uq_s, pk_uLs]
theorem qs_2 {u P : Nat} : qs Q u P 0 14 = lN (rd2 u P) := by
  unfold qs
  rw [uq_s, pk_uLs]
theorem qs_n {u P c : Nat} (hc : c ≠ 0) : qs Q u P c = Q c := by
  unfold qs
  rw [uq_n hc, uq_n hc]
theorem c_share (d : Nat) {u P : Nat} (hu : u < 2 ^ 63) (hP0 : 0 < P) (hP : P < 2 ^ 63) : zcl (d + 2) 101 [.ref 256, .long (lN u), .long (lN P)] (zRh p S G Q) = some (none, zRh p S G (qs Q u P)) := by
  have z0 : zcs [] ≤ 8 := by decide
  have hwj : Value.category zj = 1 := rfl
  have g1 := gcd_lt (a := u) hP0 hP
  have g0 := rd_g (u := u) hP0
  have c1 := c_common (c := 256) d (zRh p S G Q) hu hP
  have v1 := pk_lDiv hu g0 g1
  have v2 := pk_lDiv hP g0 g1
  have n1 := lN_ne0 g0 g1
  rw [e101]
  simp only [g101_0, g101_1, g101_2, g101_3, g101_6, g101_8, g101_9, g101_10, g101_12, g101_13, g101_16, g101_17, g101_18, g101_20, g101_21, g101_24, c1, z0, rb0, hwj, v1, v2, n1, not_false_eq_true, rfp13, rfp14, Option.bind_some, Option.toList_some, List.cons_append, List.nil_append]
  rfl
theorem c_plus (d : Nat) {l q V : Nat} (hV : 0 < V) (hV2 : V < 2 ^ 63) (hb : l + q < 2 ^ 63) : zcl (d + 3) 102 [.ref 256, .long (lN (rd1 l V)), .long (lN (rd2 l V)), .long (lN (rd1 q V)), .long (lN (rd2 q V))] (zRh p S G Q) = some (none, zRh p S G (qs Q (l + q) V)) := by
  have z0 : zcs [] ≤ 8 := by decide
  have hwj : Value.category zj = 1 := rfl
  have s := rd_sum (l := l) (q := q) hV
  dsimp only at s
  obtain ⟨s1, s2, s3, s4, s5, s6⟩ := s
  have b1 : rd2 l V < 2 ^ 63 := Nat.lt_of_le_of_lt rd_le2 hV2
  have b2 : rd2 q V < 2 ^ 63 := Nat.lt_of_le_of_lt rd_le2 hV2
  have g1 := gcd_lt (a := rd2 l V) (rd_p (u := q) hV) b2
  have c1 := c_common (c := 256) (d + 1) (zRh p S G Q) b1 b2
  have v1 := pk_lDiv b1 s1 g1
  have v2 := pk_lDiv b2 s1 g1
  have n1 := lN_ne0 s1 g1
  have sh := c_share (p := p) (S := S) (G := G) (Q := Q) d (Nat.lt_of_le_of_lt s3 hb) s2 (Nat.lt_of_le_of_lt s4 hV2)
  rw [e102]
  simp only [g102_0, g102_1, g102_2, g102_4, g102_7, g102_9, g102_10, g102_11, g102_13, g102_15, g102_16, g102_17, g102_19, g102_20, g102_22, g102_23, g102_24, g102_25, g102_26, g102_28, g102_29, g102_31, g102_32, g102_35, c1, z0, rb0, hwj, v1, v2, n1, not_false_eq_true, lN_mul, lN_add, sh, Option.bind_some, Option.toList_some, Option.toList_none, List.cons_append, List.nil_append]
  unfold qs
  rw [s5, s6]
theorem c_times (d : Nat) {l P q R u V : Nat} (hP : 0 < P) (hP2 : P < 2 ^ 63) (hl : l < 2 ^ 63) (hR : 0 < R) (hR2 : R < 2 ^ 63) (hq : q < 2 ^ 63) (hV : 0 < V) (hV2 : V < 2 ^ 63) (hu : u < 2 ^ 63) (hx : l * q * V = P * R * u) : zcl (d + 3) 103 [.ref 256, .long (lN (rd1 l P)), .long (lN (rd2 l P)), .long (lN (rd1 q R)), .long (lN (rd2 q R))] (zRh p S G Q) = some (none, zRh p S G (qs Q u V)) := by
  have z0 : zcs [] ≤ 8 := by decide
  have hwj : Value.category zj = 1 := rfl
  have s := rd_prod hP hR hV hx
  dsimp only at s
  obtain ⟨s1, s2, s3, s4⟩ := s
  have b1 : rd1 l P < 2 ^ 63 := Nat.lt_of_le_of_lt rd_le1 hl
  have b2 : rd2 l P < 2 ^ 63 := Nat.lt_of_le_of_lt rd_le2 hP2
  have b3 : rd1 q R < 2 ^ 63 := Nat.lt_of_le_of_lt rd_le1 hq
  have b4 : rd2 q R < 2 ^ 63 := Nat.lt_of_le_of_lt rd_le2 hR2
  have g1 := gcd_lt (a := rd1 l P) (rd_p (u := q) hR) b4
  have g2 := gcd_lt (a := rd1 q R) (rd_p (u := l) hP) b2
  have c1 := c_common (c := 256) (d + 1) (zRh p S G Q) b1 b4
  have c2 := c_common (c := 256) (d + 1) (zRh p S G Q) b3 b2
  have v1 := pk_lDiv b1 s1 g1
  have v2 := pk_lDiv b3 s2 g2
  have v3 := pk_lDiv b2 s2 g2
  have v4 := pk_lDiv b4 s1 g1
  have n1 := lN_ne0 s1 g1
  have n2 := lN_ne0 s2 g2
  have sh := c_share (p := p) (S := S) (G := G) (Q := Q) d (u := rd1 u V) (P := rd2 u V) (Nat.lt_of_le_of_lt rd_le1 hu) (rd_p hV) (Nat.lt_of_le_of_lt rd_le2 hV2)
  rw [e103]
  simp only [g103_0, g103_1, g103_2, g103_4, g103_7, g103_9, g103_10, g103_12, g103_13, g103_16, g103_18, g103_19, g103_20, g103_22, g103_23, g103_25, g103_27, g103_28, g103_29, g103_30, g103_32, g103_33, g103_35, g103_37, g103_38, g103_39, g103_42, c1, c2, z0, rb0, hwj, v1, v2, v3, v4, n1, n2, not_false_eq_true, lN_mul, s3, s4, sh, Option.bind_some, Option.toList_some, Option.toList_none, List.cons_append, List.nil_append]
  unfold qs
  rw [(rd_rd hV).1, (rd_rd hV).2]
theorem c_near (d : Nat) {u V : Nat} (hV : 0 < V) (hb : 2 * u + V < 2 ^ 63) (hb2 : 2 * V < 2 ^ 63) (h : ZH) : zcl (d + 1) 106 [.ref 256, .long (lN (rd1 u V)), .long (lN (rd2 u V))] h = some (some (.int (nI (nr u V))), h) := by
  have hwj : Value.category zj = 1 := rfl
  have l1 := @rd_le1 u V
  have l2 := @rd_le2 u V
  have l3 := rd_p (u := u) hV
  have e2 : (2 : Int64) = lN 2 := rfl
  have v1 := pk_lDiv (a := 2 * rd1 u V + rd2 u V) (b := 2 * rd2 u V) (by omega) (by omega) (by omega)
  have v2 := pk_lRem (a := 2 * rd1 u V + rd2 u V) (b := 2 * rd2 u V) (by omega) (by omega) (by omega)
  rw [v1, lN_mul] at v2
  have n1 := lN_ne0 (a := 2 * rd2 u V) (by omega) (by omega)
  have k1 : (2 * rd1 u V + rd2 u V) % (2 * rd2 u V) < 2 * rd2 u V := Nat.mod_lt _ (by omega)
  have g1 := lN_ge0 (a := (2 * rd1 u V + rd2 u V) % (2 * rd2 u V)) (by omega)
  rw [e106]
  simp only [g106_0, g106_3, g106_4, g106_5, g106_6, g106_7, g106_9, g106_12, g106_13, g106_14, g106_16, g106_18, g106_20, g106_21, g106_23, g106_25, g106_27, g106_28, g106_29, g106_30, hwj, e2, lN_mul, lN_add, n1, not_false_eq_true, v1, v2, lg_ge, g1, ↓reduceIte, g106_40, g106_42, g106_43, lN_i]
  rw [← nr_rd hV]
  rfl
end ARITH
