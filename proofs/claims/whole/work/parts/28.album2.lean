theorem zset_self {h : ZH} {a : Nat} {c : ZC} (hA : h[a]? = some c) : h.set a c = h := by
  apply List.ext_getElem?
  intro i
  by_cases e : i = a
  · subst e
    rw [List.getElem?_set_self (List.getElem?_eq_some_iff.mp hA).1, hA]
  · rw [List.getElem?_set_ne (Ne.symm e)]
theorem zset_get {h : ZH} {a : Nat} {c e : ZC} (hA : h[a]? = some e) : (h.set a c)[a]? = some c := List.getElem?_set_self (List.getElem?_eq_some_iff.mp hA).1
theorem zset_ne {h : ZH} {a b : Nat} {c : ZC} (hab : a ≠ b) : (h.set a c)[b]? = h[b]? := List.getElem?_set_ne hab
theorem zia_congr {n : Nat} {f g : Nat → Int32} (h : ∀ j, j < n → f j = g j) : zia n f = zia n g := by
  unfold zia
  apply List.map_congr_left
  intro j hj
  rw [h j (List.mem_range.mp hj)]
theorem zAlb_set {h : ZH} {a N W H : Nat} {f g : Nat → Int32} (hA : zAlb h a N W H f) : zAlb (h.set (a + 1) (10, zia 60 g)) a N W H g := ⟨by rw [zset_ne (by omega)]; exact hA.1, zset_get hA.2⟩
theorem c_at_in (d : Nat) {h : ZH} {a t n j : Nat} {f : Nat → Int32} {i : Int32} (hA : h[a]? = some (t, zia n f)) (ht : t = 10 ∨ t = 20) (hi : i = nI j) (hj : j < n) (hn : n < 2 ^ 31) : zcl (d + 1) 75 [.ref a, .int i] h = some (some (.int (f j)), h) := by
  subst hi
  rw [c_at d (nI j) hA ht hn, if_pos ⟨nI_pos' (by omega), nI_lt hj hn⟩, nI_clamp (by omega)]
theorem c_put_in (d : Nat) {h : ZH} {a n j : Nat} {f : Nat → Int32} {i x : Int32} (hA : h[a]? = some (10, zia n f)) (hi : i = nI j) (hj : j < n) (hn : n < 2 ^ 31) : zcl (d + 1) 76 [.ref a, .int i, .int x] h = some (none, h.set a (10, zia n (upd f j x))) := by
  subst hi
  rw [c_put d (nI j) x hA hn, if_pos ⟨nI_pos' (by omega), nI_lt hj hn⟩, nI_clamp (by omega)]
theorem c_mayBreakAhead (d : Nat) {h : ZH} {a N W H : Nat} {f : Nat → Int32} (hA : zAlb h a N W H f) (hN : N ≤ 12) (i : Int32) : ∃ r : Int32, zcl (d + 3) 5 [.ref a, .int i] h = some (some (.int r), h) ∧ (zmay N f i → r = 1) ∧ (¬ zmay N f i → r = 0) := by
  have z0 : zcs [] ≤ 8 := by decide
  have z1 : ∀ v : Int32, zcs [.int v] ≤ 8 := fun v => Nat.le_of_ble_eq_true rfl
  have hb : (h[a]?).map (fun c => c.1) = some 0 := by rw [hA.1]; rfl
  have hw : Value.category (.int i) = 1 := rfl
  rw [e5]
  simp only [g5_0, g5_1, g5_2, g5_3, g5_6, g5_7, g5_8, c_number (d + 1) hA hN, z0, hb, hw, Option.bind_some, Option.toList_some, List.cons_append, List.nil_append]
  by_cases q1 : znum N f i 4 ≤ 0
  · rw [if_pos q1, g5_41, g5_42, g5_46 zone]
    exact ⟨1, rfl, fun _ => rfl, fun q => absurd (Or.inl q1) q⟩
  · rw [if_neg q1]
    simp only [g5_11, g5_12, g5_13, g5_14, g5_15, g5_16, g5_17, g5_20, c_number (d + 1) hA hN, z1, hb, Option.bind_some, Option.toList_some, List.cons_append, List.nil_append]
    by_cases q2 : znum N f i 4 = znum N f (i - 1) 4
    · rw [if_neg (fun z => z q2)]
      simp only [g5_23, g5_24, g5_25, g5_28, c_isPlain d hA hN, z0, hb, Option.bind_some, Option.toList_some, List.cons_append, List.nil_append]
      by_cases q3 : znum N f i 3 = 0
      · rw [if_pos q3, if_neg (show ¬ (1 : Int32) = 0 by decide)]
        simp only [g5_31, g5_32, g5_33, g5_34, g5_35, g5_38, c_isPlain d hA hN, z0, hb, Option.bind_some, Option.toList_some, List.cons_append, List.nil_append]
        by_cases q4 : znum N f (i - 1) 3 = 0
        · rw [if_pos q4, if_pos (show ¬ (1 : Int32) = 0 by decide), g5_45, g5_46 zzero]
          exact ⟨0, rfl, fun q => by rcases q with q | q | q | q <;> contradiction, fun _ => rfl⟩
        · rw [if_neg q4, if_neg (show ¬ ¬ (0 : Int32) = 0 by decide), g5_41, g5_42, g5_46 zone]
          exact ⟨1, rfl, fun _ => rfl, fun q => absurd (Or.inr (Or.inr (Or.inr q4))) q⟩
      · rw [if_neg q3, if_pos (show (0 : Int32) = 0 from rfl), g5_41, g5_42, g5_46 zone]
        exact ⟨1, rfl, fun _ => rfl, fun q => absurd (Or.inr (Or.inr (Or.inl q3))) q⟩
    · rw [if_pos q2, g5_41, g5_42, g5_46 zone]
      exact ⟨1, rfl, fun _ => rfl, fun q => absurd (Or.inr (Or.inl q2)) q⟩
/-- write: the five numbers of picture j -/
def zwr (f : Nat → Int32) (j : Nat) (w x v k g : Int32) : Nat → Int32 := upd (upd (upd (upd (upd f (5 * j) w) (5 * j + 1) x) (5 * j + 2) v) (5 * j + 3) k) (5 * j + 4) g
theorem c_write (d : Nat) {h : ZH} {a N W H j : Nat} {f : Nat → Int32} (hA : zAlb h a N W H f) (hj : j < 12) (w x v k g : Int32) : zcl (d + 2) 6 [.ref a, .int (nI j), .int w, .int x, .int v, .int k, .int g] h = some (none, h.set (a + 1) (10, zia 60 (zwr f j w x v k g))) := by
  have z0 : zcs [] ≤ 8 := by decide
  have u0 : ∀ g, zget (h.set (a + 1) (10, zia 60 g)) a 0 0 = some (.ref (a + 1)) := fun g => (zget_c (zAlb_set hA).1).trans rfl
  have v0 : zget h a 0 0 = some (.ref (a + 1)) := (zget_c hA.1).trans rfl
  have p0 : ∀ x : Int32, zcl (d + 1) 76 [.ref (a + 1), .int (nI (5 * j)), .int x] h = some (none, h.set (a + 1) (10, zia 60 (upd f (5 * j) x))) := fun x => c_put_in d hA.2 rfl (by omega) (by decide)
  have cp : ∀ (g : Nat → Int32) (i : Nat) (x : Int32), i < 60 → zcl (d + 1) 76 [.ref (a + 1), .int (nI i), .int x] (h.set (a + 1) (10, zia 60 g)) = some (none, h.set (a + 1) (10, zia 60 (upd g i x))) := by
    intro g i x hi
    rw [c_put_in d (zset_get hA.2) rfl hi (by decide), List.set_set]
  have p1 := fun (g : Nat → Int32) (x : Int32) => cp g (5 * j + 1) x (by omega)
  have p2 := fun (g : Nat → Int32) (x : Int32) => cp g (5 * j + 2) x (by omega)
  have p3 := fun (g : Nat → Int32) (x : Int32) => cp g (5 * j + 3) x (by omega)
  have p4 := fun (g : Nat → Int32) (x : Int32) => cp g (5 * j + 4) x (by omega)
  have s5 : nI j * 5 = nI (5 * j) := by rw [show (5 : Int32) = nI 5 from rfl, pk_mul, Nat.mul_comm]
  have a0 : nI (5 * j) + 0 = nI (5 * j) := nI_add (5 * j) 0
  have a1 : nI (5 * j) + 1 = nI (5 * j + 1) := nI_add (5 * j) 1
  have a2 : nI (5 * j) + 2 = nI (5 * j + 2) := nI_add (5 * j) 2
  have a3 : nI (5 * j) + 3 = nI (5 * j + 3) := nI_add (5 * j) 3
  have a4 : nI (5 * j) + 4 = nI (5 * j + 4) := nI_add (5 * j) 4
  have hw : Value.category (.int g) = 1 := rfl
  rw [e6]
  simp only [g6_0, g6_1, g6_2, g6_3, g6_5, g6_6, g6_9, g6_11, g6_12, g6_13, g6_14, g6_17, g6_18, g6_21, g6_23, g6_24, g6_25, g6_26, g6_29, g6_30, g6_33, g6_35, g6_36, g6_37, g6_39, g6_42, g6_43, g6_46, g6_48, g6_49, g6_50, g6_52, g6_55, g6_56, g6_59, g6_61, g6_62, g6_63, g6_65, g6_68, s5, a0, a1, a2, a3, a4, hw, v0, u0, p0, p1, p2, p3, p4, z0, Option.bind_some, Option.toList_none, List.nil_append]
  rfl
/-- become(other) -/
theorem c_become (d : Nat) {h : ZH} {a b N W H N2 W2 H2 : Nat} {f g : Nat → Int32} (hA : zAlb h a N W H f) (hB : zAlb h b N2 W2 H2 g) (h1 : a ≠ b) (h2 : a ≠ b + 1) (h3 : a + 1 ≠ b) : zcl (d + 2) 9 [.ref a, .ref b] h = some (none, (h.set a (0, [.ref (a + 1), .int (nI N2), .int (nI W2), .int (nI H2)])).set (a + 1) (10, zia 60 g)) := by
  obtain ⟨A0, A1⟩ := hA
  obtain ⟨B0, B1⟩ := hB
  have b1 : zget h b 0 1 = some (.int (nI N2)) := (zget_c B0).trans rfl
  rw [e9]
  simp only [g9_0, g9_1, g9_2, b1, Option.bind_some, g9_5]
  rw [zput_c A0 rfl rfl rfl, Option.bind_some]
  have A2 := zset_get (c := (0, [Value.ref (a + 1), .int (nI N2), .int (nI W), .int (nI H)])) A0
  have b2 : zget (h.set a (0, [.ref (a + 1), .int (nI N2), .int (nI W), .int (nI H)])) b 0 2 = some (.int (nI W2)) := (zget_c ((zset_ne h1).trans B0)).trans rfl
  simp only [List.set_cons_succ, List.set_cons_zero, g9_8, g9_9, g9_10, b2, Option.bind_some, g9_13]
  rw [zput_c A2 rfl rfl rfl, Option.bind_some, List.set_set]
  have A3 := zset_get (c := (0, [Value.ref (a + 1), .int (nI N2), .int (nI W2), .int (nI H)])) A0
  have b3 : zget (h.set a (0, [.ref (a + 1), .int (nI N2), .int (nI W2), .int (nI H)])) b 0 3 = some (.int (nI H2)) := (zget_c ((zset_ne h1).trans B0)).trans rfl
  simp only [List.set_cons_succ, List.set_cons_zero, g9_16, g9_17, g9_18, b3, Option.bind_some, g9_21]
  rw [zput_c A3 rfl rfl rfl, Option.bind_some, List.set_set]
  have hw : Value.category (.ref b) = 1 := rfl
  simp only [List.set_cons_succ, List.set_cons_zero, g9_24, g9_25, hw]
  generalize hk : h.set a (0, [.ref (a + 1), .int (nI N2), .int (nI W2), .int (nI H2)]) = k
  have K0 : k[a]? = some (0, [.ref (a + 1), .int (nI N2), .int (nI W2), .int (nI H2)]) := by rw [← hk]; exact zset_get A0
  have K1 : k[a + 1]? = some (10, zia 60 f) := by rw [← hk, zset_ne (by omega)]; exact A1
  have L0 : k[b]? = some (0, [.ref (b + 1), .int (nI N2), .int (nI W2), .int (nI H2)]) := by rw [← hk, zset_ne h1]; exact B0
  have L1 : k[b + 1]? = some (10, zia 60 g) := by rw [← hk, zset_ne h2]; exact B1
  have loop : ∀ (n s : Nat) (q : Nat → Int32), s + n = 60 → (∀ j, j < s → q j = g j) → zres (d + 1) 9 26 [.ref a, .ref b, .int (nI s)] [] (k.set (a + 1) (10, zia 60 q)) = some (none, k.set (a + 1) (10, zia 60 g)) := by
    intro n
    induction n with
    | zero =>
      intro s q hs hq
      have u9 : zlen (k.set (a + 1) (10, zia 60 q)) (a + 1) = some (nI 60) := zlen_ia (zset_get (c := (10, zia 60 q)) K1) rfl
      have u0 : zget (k.set (a + 1) (10, zia 60 q)) a 0 0 = some (.ref (a + 1)) := (zget_c ((zset_ne (by omega)).trans K0)).trans rfl
      simp only [g9_26, g9_27, g9_28, g9_31, g9_32, u0, u9, Option.bind_some]
      rw [if_pos (nI_le (show 60 ≤ s by omega) (by omega)), g9_55, zia_congr (fun j hj => hq j (by omega))]
    | succ n ih =>
      intro s q hs hq
      have u9 : zlen (k.set (a + 1) (10, zia 60 q)) (a + 1) = some (nI 60) := zlen_ia (zset_get (c := (10, zia 60 q)) K1) rfl
      have u0 : zget (k.set (a + 1) (10, zia 60 q)) a 0 0 = some (.ref (a + 1)) := (zget_c ((zset_ne (by omega)).trans K0)).trans rfl
      have u1 : zget (k.set (a + 1) (10, zia 60 q)) b 0 0 = some (.ref (b + 1)) := (zget_c ((zset_ne h3).trans L0)).trans rfl
      have u2 := c_at_in d (i := nI s) ((zset_ne (c := (10, zia 60 q)) (show a + 1 ≠ b + 1 by omega)).trans L1) (Or.inl rfl) rfl (show s < 60 by omega) (by decide)
      have u3 : zcs [.int (nI s), .ref (a + 1)] ≤ 8 := Nat.le_of_ble_eq_true rfl
      have u4 := zast_ia (x := g s) (i := nI s) (zset_get (c := (10, zia 60 q)) K1) rfl (show s < 60 by omega) (by decide)
      simp only [g9_26, g9_27, g9_28, g9_31, g9_32, u0, u9, Option.bind_some]
      rw [if_neg (nI_ge (show s < 60 by omega) (by decide))]
      simp only [g9_35, g9_36, g9_39, g9_40, g9_41, g9_44, g9_45, g9_48, g9_49, g9_52, u0, u1, u2, u3, u4, hw, Option.bind_some, Option.toList_some, List.cons_append, List.nil_append, List.set_set, nI_1]
      refine ih (s + 1) (upd q s (g s)) (by omega) fun j hj => ?_
      by_cases e : j = s
      · subst e
        exact pk_us
      · rw [pk_un e]
        exact hq j (by omega)
  have := loop 60 0 f (by omega) (fun j hj => by omega)
  rw [zset_self K1] at this
  exact this
