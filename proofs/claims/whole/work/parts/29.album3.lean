/-- exchange(i, j): after k of the five numbers -/
def zsw (f : Nat → Int32) (p q : Nat) : Nat → Nat → Int32
  | 0 => f
  | k + 1 => upd (upd (zsw f p q k) (5 * p + k) (zsw f p q k (5 * q + k))) (5 * q + k) (zsw f p q k (5 * p + k))
theorem s5k (p k : Nat) : nI p * 5 + nI k = nI (5 * p + k) := by rw [show (5 : Int32) = nI 5 from rfl, pk_mul, nI_add, Nat.mul_comm]
theorem c_exchange (d : Nat) {h : ZH} {a N W H p q : Nat} {f : Nat → Int32} (hA : zAlb h a N W H f) (hN : N ≤ 12) (hp : p < N) (hq : q < N) : zcl (d + 2) 7 [.ref a, .int (nI p), .int (nI q)] h = some (none, h.set (a + 1) (10, zia 60 (zsw f p q 5))) := by
  have hw2 : Value.category (.int (nI q)) = 1 := rfl
  rw [e7]
  simp only [g7_0, g7_1, hw2]
  have loop : ∀ n k : Nat, k + n = 5 → zres (d + 1) 7 2 [.ref a, .int (nI p), .int (nI q), .int (nI k), zj] [] (h.set (a + 1) (10, zia 60 (zsw f p q k))) = some (none, h.set (a + 1) (10, zia 60 (zsw f p q 5))) ∧ ∀ w : Int32, zres (d + 1) 7 2 [.ref a, .int (nI p), .int (nI q), .int (nI k), .int w] [] (h.set (a + 1) (10, zia 60 (zsw f p q k))) = some (none, h.set (a + 1) (10, zia 60 (zsw f p q 5))) := by
    intro n
    induction n with
    | zero =>
      intro k hk
      have e : k = 5 := by omega
      subst e
      constructor
      · simp only [g7_2, g7_3, g7_4]
        rw [if_pos (show (5 : Int32) ≤ nI 5 from nI_le (Nat.le_refl 5) (by decide)), g7_53]
      · intro w
        simp only [g7_2, g7_3, g7_4]
        rw [if_pos (show (5 : Int32) ≤ nI 5 from nI_le (Nat.le_refl 5) (by decide)), g7_53]
    | succ n ih =>
      intro k hk
      have hk5 : k < 5 := by omega
      generalize hg : zsw f p q k = g
      have hB : zAlb (h.set (a + 1) (10, zia 60 g)) a N W H g := zAlb_set hA
      have hb : ((h.set (a + 1) (10, zia 60 g))[a]?).map (fun c => c.1) = some 0 := by rw [hB.1]; rfl
      have u0 : ∀ g, zget (h.set (a + 1) (10, zia 60 g)) a 0 0 = some (.ref (a + 1)) := fun g => (zget_c (zAlb_set hA).1).trans rfl
      have n1 := c_number d hB hN (nI p) (nI k)
      rw [znum_nI hN hp hk5] at n1
      have n2 := c_number d hB hN (nI q) (nI k)
      rw [znum_nI hN hq hk5] at n2
      have cp : ∀ (g : Nat → Int32) (i : Nat) (x : Int32), i < 60 → zcl (d + 1) 76 [.ref (a + 1), .int (nI i), .int x] (h.set (a + 1) (10, zia 60 g)) = some (none, h.set (a + 1) (10, zia 60 (upd g i x))) := by
        intro g i x hi
        rw [c_put_in d (zset_get hA.2) rfl hi (by decide), List.set_set]
      have p1 := fun (g : Nat → Int32) (x : Int32) => cp g (5 * p + k) x (by omega)
      have p2 := fun (g : Nat → Int32) (x : Int32) => cp g (5 * q + k) x (by omega)
      have z0 : zcs [] ≤ 8 := by decide
      have z2 : zcs [.int (nI (5 * p + k)), .ref (a + 1)] ≤ 8 := Nat.le_of_ble_eq_true rfl
      have hw3 : Value.category (.int (nI k)) = 1 := rfl
      have e1 := s5k p k
      have e2 := s5k q k
      have nx : upd (upd g (5 * p + k) (g (5 * q + k))) (5 * q + k) (g (5 * p + k)) = zsw f p q (k + 1) := by rw [← hg]; rfl
      have key := (ih (k + 1) (by omega)).2 (g (5 * p + k))
      rw [← nx] at key
      constructor
      · simp only [g7_2, g7_3, g7_4]
        rw [if_neg (show ¬ (5 : Int32) ≤ nI k from nI_ge hk5 (by decide))]
        simp only [g7_7, g7_8, g7_9, g7_10, g7_13, g7_15, g7_16, g7_19, g7_20, g7_21, g7_22, g7_23, g7_24, g7_25, g7_26, g7_27, g7_30, g7_33, g7_34, g7_37, g7_38, g7_39, g7_40, g7_41, g7_42, g7_44, g7_47, g7_50, u0, n1, n2, p1, p2, z0, z2, hb, hw2, hw3, e1, e2, Option.bind_some, Option.toList_some, Option.toList_none, List.cons_append, List.nil_append, nI_1]
        exact key
      · intro w
        simp only [g7_2, g7_3, g7_4]
        rw [if_neg (show ¬ (5 : Int32) ≤ nI k from nI_ge hk5 (by decide))]
        simp only [g7_7, g7_8, g7_9, g7_10, g7_13, g7_15, g7_16, g7_19, g7_20, g7_21, g7_22, g7_23, g7_24, g7_25, g7_26, g7_27, g7_30, g7_33, g7_34, g7_37, g7_38, g7_39, g7_40, g7_41, g7_42, g7_44, g7_47, g7_50, u0, n1, n2, p1, p2, z0, z2, hb, hw2, hw3, e1, e2, Option.bind_some, Option.toList_some, Option.toList_none, List.cons_append, List.nil_append, nI_1]
        exact key
  have := (loop 5 0 (by omega)).1
  rw [show zsw f p q 0 = f from rfl, zset_self hA.2] at this
  exact this
/-- remove(i) -/
def zrmv (f : Nat → Int32) (p e : Nat) : Nat → Int32 := fun j => if 5 * p ≤ j ∧ j < e then f (j + 5) else f j
theorem c_remove (d : Nat) {h : ZH} {a N W H p : Nat} {f : Nat → Int32} (hA : zAlb h a N W H f) (hN : N ≤ 12) (hp : p < N) : zcl (d + 2) 8 [.ref a, .int (nI p)] h = some (none, (h.set (a + 1) (10, zia 60 (zrmv f p (5 * (N - 1))))).set a (0, [.ref (a + 1), .int (nI (N - 1)), .int (nI W), .int (nI H)])) := by
  have hw1 : Value.category (.int (nI p)) = 1 := rfl
  have s5 : nI p * 5 = nI (5 * p) := by rw [show (5 : Int32) = nI 5 from rfl, pk_mul, Nat.mul_comm]
  have sN : nI N - 1 = nI (N - 1) := by rw [show (1 : Int32) = nI 1 from rfl]; exact pk_sub (by omega)
  have sM : nI (N - 1) * 5 = nI (5 * (N - 1)) := by rw [show (5 : Int32) = nI 5 from rfl, pk_mul, Nat.mul_comm]
  rw [e8]
  simp only [g8_0, g8_1, g8_2, g8_3, hw1, s5]
  have loop : ∀ n s : Nat, s + n = 5 * (N - 1) → 5 * p ≤ s → zres (d + 1) 8 4 [.ref a, .int (nI p), .int (nI s)] [] (h.set (a + 1) (10, zia 60 (zrmv f p s))) = some (none, (h.set (a + 1) (10, zia 60 (zrmv f p (5 * (N - 1))))).set a (0, [.ref (a + 1), .int (nI (N - 1)), .int (nI W), .int (nI H)])) := by
    intro n
    induction n with
    | zero =>
      intro s hs hsp
      have e : s = 5 * (N - 1) := by omega
      subst e
      have hB : zAlb (h.set (a + 1) (10, zia 60 (zrmv f p (5 * (N - 1))))) a N W H (zrmv f p (5 * (N - 1))) := zAlb_set hA
      have u1 : zget (h.set (a + 1) (10, zia 60 (zrmv f p (5 * (N - 1))))) a 0 1 = some (.int (nI N)) := (zget_c hB.1).trans rfl
      have u2 := zput_c (v := .int (nI (N - 1))) (j := 1) hB.1 rfl rfl rfl
      have hc : Value.category (.ref a) = 1 := rfl
      simp only [g8_4, g8_5, g8_6, g8_9, g8_10, g8_11, g8_12, g8_13, u1, sN, sM, Option.bind_some]
      rw [if_pos (nI_le (Nat.le_refl _) (by omega))]
      simp only [g8_40, g8_41, g8_42, g8_45, g8_46, g8_47, g8_50, u1, sN, u2, hc, Option.bind_some]
      rfl
    | succ n ih =>
      intro s hs hsp
      have hB : zAlb (h.set (a + 1) (10, zia 60 (zrmv f p s))) a N W H (zrmv f p s) := zAlb_set hA
      have u1 : zget (h.set (a + 1) (10, zia 60 (zrmv f p s))) a 0 1 = some (.int (nI N)) := (zget_c hB.1).trans rfl
      have u0 : zget (h.set (a + 1) (10, zia 60 (zrmv f p s))) a 0 0 = some (.ref (a + 1)) := (zget_c hB.1).trans rfl
      have a5 : nI s + 5 = nI (s + 5) := nI_add s 5
      have u3 := c_at_in d (i := nI (s + 5)) hB.2 (Or.inl rfl) rfl (show s + 5 < 60 by omega) (by decide)
      have u4 : ∀ x : Int32, zcl (d + 1) 76 [.ref (a + 1), .int (nI s), .int x] (h.set (a + 1) (10, zia 60 (zrmv f p s))) = some (none, h.set (a + 1) (10, zia 60 (upd (zrmv f p s) s x))) := by
        intro x
        rw [c_put_in d hB.2 rfl (show s < 60 by omega) (by decide), List.set_set]
      have z2 : zcs [.int (nI s), .ref (a + 1)] ≤ 8 := Nat.le_of_ble_eq_true rfl
      have z0 : zcs [] ≤ 8 := by decide
      have nx : upd (zrmv f p s) s (zrmv f p s (s + 5)) = zrmv f p (s + 1) := by
        funext j
        by_cases e : j = s
        · subst e
          rw [pk_us]
          unfold zrmv
          rw [if_neg (by omega), if_pos (by omega)]
        · rw [pk_un e]
          unfold zrmv
          by_cases e2 : 5 * p ≤ j ∧ j < s
          · rw [if_pos e2, if_pos (by omega)]
          · rw [if_neg e2, if_neg (by omega)]
      simp only [g8_4, g8_5, g8_6, g8_9, g8_10, g8_11, g8_12, g8_13, u1, sN, sM, Option.bind_some]
      rw [if_neg (nI_ge (show s < 5 * (N - 1) by omega) (by omega))]
      simp only [g8_16, g8_17, g8_20, g8_21, g8_22, g8_25, g8_26, g8_27, g8_28, g8_31, g8_34, g8_37, u0, u3, u4, a5, z0, z2, hw1, nx, Option.bind_some, Option.toList_some, Option.toList_none, List.cons_append, List.nil_append, nI_1]
      exact ih (s + 1) (by omega) (by omega)
  have h0 : zrmv f p (5 * p) = f := by
    funext j
    unfold zrmv
    rw [if_neg (by omega)]
  have := loop (5 * (N - 1) - 5 * p) (5 * p) (by omega) (Nat.le_refl _)
  rw [h0, zset_self hA.2] at this
  exact this
