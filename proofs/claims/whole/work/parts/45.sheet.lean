/-! THE SHEET: nearest, layEdges, treeAt -/
def zShc (n W H le : Int32) (sa sb : Int64) : ZC := (4, [.ref 30, .ref 31, .ref 32, .ref 33, .ref 34, .ref 35, .int n, .int W, .int H, .int le, .long sa, .long sb])
def zfo : List Value := (List.range 31).map fun t => .ref (tb t)
theorem zfo_get {t : Nat} (ht : t < 31) : zfo[t]? = some (.ref (tb t)) := by
  unfold zfo
  rw [List.getElem?_map, List.getElem?_range ht]
  rfl
def tf (n : Nat) : Nat := ([0, 0, 1, 3, 9] : List Nat).getD n 0
def th (n : Nat) : Nat := ([0, 1, 2, 6, 22] : List Nat).getD n 0
theorem tf_ok : ∀ n, n < 5 → (zsv 4).getD n 0 = nI (tf n) := by decide +kernel
theorem th_ok : ∀ n, n < 5 → zhm (nI n) = nI (th n) := by decide +kernel
theorem tft : ∀ n, n < 5 → ∀ k, k < th n → tf n + k < 31 ∧ tn (tf n + k) = n ∧ tk (tf n + k) = k := by decide +kernel
theorem th_lt : ∀ n, n < 5 → th n < 32 := by decide
theorem c_nearest (d : Nat) {u P : Nat} (hP : 0 < P) (hb : 2 * u + P < 2 ^ 63) (hb2 : 2 * P < 2 ^ 63) (h : ZH) : zcl (d + 1) 44 [.long (lN u), .long (lN P)] h = some (some (.int (nI (nr u P))), h) := by
  have e2 : (2 : Int64) = lN 2 := rfl
  have v1 := pk_lDiv (a := 2 * u + P) (b := 2 * P) (by omega) (by omega) (by omega)
  have n1 := lN_ne0 (a := 2 * P) (by omega) (by omega)
  have q := lN_nle0 hP (show P < 2 ^ 63 by omega)
  rw [e44]
  simp only [g44_0, g44_1, g44_2, g44_3, lg_le, q, ↓reduceIte, g44_6, g44_9, g44_10, g44_11, g44_12, g44_13, g44_16, g44_17, g44_18, g44_19, g44_20, g44_24, e2, lN_mul, lN_add, n1, not_false_eq_true, v1, lN_i]
  rfl
theorem c_treeAt (d : Nat) {h : ZH} {t : Nat} {n W H le : Int32} {sa sb : Int64} (h29 : h[29]? = some (zShc n W H le sa sb)) (h30 : h[30]? = some (13, zfo)) (ht : t < 31) : zcl (d + 1) 42 [.ref 29, .int (nI t)] h = some (some (.ref (tb t)), h) := by
  have u0 : zget h 29 4 0 = some (.ref 30) := (zget_c h29).trans rfl
  have u1 : zlen h 30 = some (nI 31) := by
    unfold zlen
    rw [h30]
    rfl
  have u2 : zald 12 h 30 (nI t) = some (.ref (tb t)) := by
    unfold zald
    rw [h30]
    show (zix (nI t) zfo.length).bind _ = _
    rw [show zfo.length = 31 from rfl, zix_nI ht (by decide)]
    exact zfo_get ht
  rw [e42]
  simp only [g42_0, g42_1]
  rw [if_neg (nI_pos (by omega))]
  simp only [g42_4, g42_5, g42_6, g42_9, g42_10, u0, u1, Option.bind_some]
  rw [if_neg (nI_ge ht (by decide))]
  simp only [g42_13, g42_14, g42_17, g42_18, g42_19, u0, u2, Option.bind_some]
  exact g42_23 rfl
section SHEET
variable {b M : Nat} {T : Nat → Nat → Nat}
def zed (E : Nat → Int32) (s : Nat) (X : Nat → Nat → Nat) (v : Nat) : Nat → Int32 := upd (upd (upd (upd E (4 * s) (nI (eE X v 0))) (4 * s + 1) (nI (eE X v 1))) (4 * s + 2) (nI (eE X v 2))) (4 * s + 3) (nI (eE X v 3))
theorem c_layEdges (d : Nat) {h : ZH} {v : Nat} {n W H le : Int32} {sa sb : Int64} {E ar : Nat → Int32} {X : Nat → Nat → Nat} (h29 : h[29]? = some (zShc n W H le sa sb)) (hv : h[b + 1 + v]? = some (zNd b M T v (fun c => lN (X c v)))) (h35 : h[35]? = some (10, zia 16 E)) (h34 : h[34]? = some (10, zia 4 ar)) (hb : 35 ≤ b) (hs : T 3 v < 4) (hP4 : 0 < X 4 v) (hP7 : 0 < X 7 v) (b1 : X 4 v < 2 ^ 50) (b2 : X 7 v < 2 ^ 50) (b3 : X 2 v + X 3 v < 2 ^ 60) (b4 : X 5 v + X 6 v < 2 ^ 60) :
    zcl (d + 2) 43 [.ref 29, .ref (b + 1 + v)] h = some (none, (h.set 35 (10, zia 16 (zed E (T 3 v) X v))).set 34 (10, zia 4 (upd ar (T 3 v) (nI (eA X v))))) := by
  have z0 : zcs [] ≤ 8 := by decide
  have hwj : Value.category zj = 1 := rfl
  have hwi : ∀ x, Value.category (.int x) = 1 := fun _ => rfl
  have hwr : ∀ x, Value.category (.ref x) = 1 := fun _ => rfl
  have r3 : zget h (b + 1 + v) 3 3 = some (.int (nI (T 3 v))) := (zget_c hv).trans rfl
  have r10 : zget h (b + 1 + v) 3 10 = some (.long (lN (X 2 v))) := (zget_c hv).trans rfl
  have r11 : zget h (b + 1 + v) 3 11 = some (.long (lN (X 3 v))) := (zget_c hv).trans rfl
  have r12 : zget h (b + 1 + v) 3 12 = some (.long (lN (X 4 v))) := (zget_c hv).trans rfl
  have r13 : zget h (b + 1 + v) 3 13 = some (.long (lN (X 5 v))) := (zget_c hv).trans rfl
  have r14 : zget h (b + 1 + v) 3 14 = some (.long (lN (X 6 v))) := (zget_c hv).trans rfl
  have r15 : zget h (b + 1 + v) 3 15 = some (.long (lN (X 7 v))) := (zget_c hv).trans rfl
  have n1 := c_nearest (d + 0) hP4 (u := X 2 v) (by omega) (by omega) h
  have n2 := c_nearest (d + 0) hP7 (u := X 5 v) (by omega) (by omega) h
  have n3 := c_nearest (d + 0) hP4 (u := X 2 v + X 3 v) (by omega) (by omega) h
  have n4 := c_nearest (d + 0) hP7 (u := X 5 v + X 6 v) (by omega) (by omega) h
  rw [Nat.add_zero] at n1 n2 n3 n4
  have s4 : (4 : Int32) * nI (T 3 v) = nI (4 * T 3 v) := by rw [show (4 : Int32) = nI 4 from rfl, pk_mul]
  rw [e43]
  simp only [g43_0, g43_0n, g43_1, g43_4, g43_4n, g43_5, g43_8, g43_11, g43_12, g43_12n, g43_13, g43_16, g43_16n, g43_17, g43_20, g43_23, g43_24, g43_24n, g43_25, g43_28, g43_28n, g43_29, g43_32, g43_33, g43_33n, g43_34, g43_37, g43_40, g43_42, g43_42n, g43_43, g43_46, g43_46n, g43_47, g43_50, g43_51, g43_51n, g43_52, g43_55, g43_58, g43_60, g43_61, g43_61n, g43_62, g43_65, g43_66, r3, r10, r11, r12, r13, r14, r15, lN_add, n1, n2, n3, n4, z0, hwj, hwi, hwr, s4, Option.bind_some, Option.toList_some, List.cons_append, List.nil_append]
  generalize hs0 : T 3 v = s at *
  have fr : ∀ (g : Nat → Int32) (k : Nat), k ≠ 35 → (h.set 35 (10, zia 16 g))[k]? = h[k]? := fun g k hk => zset_ne (Ne.symm hk)
  have u5 : ∀ g, zget (h.set 35 (10, zia 16 g)) 29 4 5 = some (.ref 35) := fun g => (zget_c ((fr g 29 (by decide)).trans h29)).trans rfl
  have u4 : ∀ g, zget (h.set 35 (10, zia 16 g)) 29 4 4 = some (.ref 34) := fun g => (zget_c ((fr g 29 (by decide)).trans h29)).trans rfl
  have v5 : zget h 29 4 5 = some (.ref 35) := (zget_c h29).trans rfl
  have w3 : ∀ g, zget (h.set 35 (10, zia 16 g)) (b + 1 + v) 3 3 = some (.int (nI s)) := fun g => by
    rw [zgo_ne (by omega)]
    exact r3
  have p0 : ∀ x : Int32, zcl (d + 1) 76 [.ref 35, .int (nI (4 * s)), .int x] h = some (none, h.set 35 (10, zia 16 (upd E (4 * s) x))) := fun x => c_put_in d h35 rfl (by omega) (by decide)
  have cp : ∀ (g : Nat → Int32) (i : Nat) (x : Int32), i < 16 → zcl (d + 1) 76 [.ref 35, .int (nI i), .int x] (h.set 35 (10, zia 16 g)) = some (none, h.set 35 (10, zia 16 (upd g i x))) := by
    intro g i x hi
    rw [c_put_in d (zset_get h35) rfl hi (by decide), List.set_set]
  have p1 := fun (g : Nat → Int32) (x : Int32) => cp g (4 * s + 1) x (by omega)
  have p2 := fun (g : Nat → Int32) (x : Int32) => cp g (4 * s + 2) x (by omega)
  have p3 := fun (g : Nat → Int32) (x : Int32) => cp g (4 * s + 3) x (by omega)
  have pa : ∀ (g : Nat → Int32) (x : Int32), zcl (d + 1) 76 [.ref 34, .int (nI s), .int x] (h.set 35 (10, zia 16 g)) = some (none, (h.set 35 (10, zia 16 g)).set 34 (10, zia 4 (upd ar s x))) := fun g x => c_put_in d ((fr g 34 (by decide)).trans h34) rfl hs (by decide)
  have a1 : nI (4 * s) + 1 = nI (4 * s + 1) := nI_add (4 * s) 1
  have a2 : nI (4 * s) + 2 = nI (4 * s + 2) := nI_add (4 * s) 2
  have a3 : nI (4 * s) + 3 = nI (4 * s + 3) := nI_add (4 * s) 3
  have d1 : nI (nr (X 2 v + X 3 v) (X 4 v)) - nI (nr (X 2 v) (X 4 v)) = nI (nr (X 2 v + X 3 v) (X 4 v) - nr (X 2 v) (X 4 v)) := pk_sub (nr_mono (Nat.le_add_right _ _))
  have d2 : nI (nr (X 5 v + X 6 v) (X 7 v)) - nI (nr (X 5 v) (X 7 v)) = nI (nr (X 5 v + X 6 v) (X 7 v) - nr (X 5 v) (X 7 v)) := pk_sub (nr_mono (Nat.le_add_right _ _))
  simp only [g43_68, g43_69, g43_72, g43_74, g43_75, g43_78, g43_79, g43_82, g43_84, g43_85, g43_86, g43_87, g43_90, g43_91, g43_94, g43_96, g43_97, g43_98, g43_100, g43_103, g43_104, g43_107, g43_109, g43_110, g43_111, g43_113, g43_116, g43_117, g43_120, g43_120n, g43_121, g43_124, g43_126, g43_127, g43_128, g43_130, g43_131, g43_132, g43_133, g43_136, v5, u5, u4, w3, p0, p1, p2, p3, pa, a1, a2, a3, d1, d2, pk_mul, z0, Option.bind_some, Option.toList_none, List.nil_append]
  rfl
end SHEET
