/-! A TREE'S NODES: node v of a tree at b stands at b + 1 + v; its table T: 0 size, 1 cut, 2 row, 3 start, 4 first part, 5 next part (0: none), 6 how many parts -/
def zrf (b i : Nat) : Value := if i = 0 then .null else .ref (b + 1 + i)
def zNd (b M : Nat) (T : Nat → Nat → Nat) (v : Nat) (x : Nat → Int64) : ZC := (3, [.int (nI (T 0 v)), .int (nI (T 1 v)), .int (nI (T 2 v)), .int (nI (T 3 v)), zrf b (if T 6 v = 0 then 0 else T 4 v), zrf b (T 5 v), (if v = 0 then .null else .ref (b + v)), (if v + 1 = M then .null else .ref (b + v + 2)), .long (x 0), .long (x 1), .long (x 2), .long (x 3), .long (x 4), .long (x 5), .long (x 6), .long (x 7)])
theorem zNd_eq {b M : Nat} {T : Nat → Nat → Nat} {v : Nat} {x y : Nat → Int64} (h : ∀ c, c < 8 → x c = y c) : zNd b M T v x = zNd b M T v y := by
  unfold zNd
  rw [h 0 (by decide), h 1 (by decide), h 2 (by decide), h 3 (by decide), h 4 (by decide), h 5 (by decide), h 6 (by decide), h 7 (by decide)]
theorem zgo_ne {k : ZH} {V I ci j : Nat} {c : ZC} (h : V ≠ I) : zget (k.set V c) I ci j = zget k I ci j := by
  unfold zget
  rw [zset_ne h]
theorem zset_in {k : ZH} {V : Nat} {c : ZC} (hV : V < k.length) : (k.set V c)[V]? = some c := List.getElem?_set_self hV
theorem y_in {k : ZH} {V : Nat} {c : ZC} (h : k[V]? = some c) : V < k.length := (List.getElem?_eq_some_iff.mp h).1
theorem zrf_ne {b i : Nat} (h : i ≠ 0) : zrf b i = .ref (b + 1 + i) := if_neg h
theorem zrf_0 {b : Nat} : zrf b 0 = .null := rfl
section NODE
variable {b M : Nat} {T : Nat → Nat → Nat} {k : ZH} {V v : Nat} {y : Nat → Int64} {z : Int64}
theorem zgn0 (hV : V < k.length) : zget (k.set V (zNd b M T v y)) V 3 0 = some (.int (nI (T 0 v))) := (zget_c (zset_in hV)).trans rfl
theorem zgn1 (hV : V < k.length) : zget (k.set V (zNd b M T v y)) V 3 1 = some (.int (nI (T 1 v))) := (zget_c (zset_in hV)).trans rfl
theorem zgn3 (hV : V < k.length) : zget (k.set V (zNd b M T v y)) V 3 3 = some (.int (nI (T 3 v))) := (zget_c (zset_in hV)).trans rfl
theorem zgn4 (hV : V < k.length) : zget (k.set V (zNd b M T v y)) V 3 4 = some (zrf b (if T 6 v = 0 then 0 else T 4 v)) := (zget_c (zset_in hV)).trans rfl
theorem zgn5 (hV : V < k.length) : zget (k.set V (zNd b M T v y)) V 3 5 = some (zrf b (T 5 v)) := (zget_c (zset_in hV)).trans rfl
theorem zgn6 (hV : V < k.length) : zget (k.set V (zNd b M T v y)) V 3 6 = some (if v = 0 then .null else .ref (b + v)) := (zget_c (zset_in hV)).trans rfl
theorem zgn7 (hV : V < k.length) : zget (k.set V (zNd b M T v y)) V 3 7 = some (if v + 1 = M then .null else .ref (b + v + 2)) := (zget_c (zset_in hV)).trans rfl
theorem zgn8 (hV : V < k.length) : zget (k.set V (zNd b M T v y)) V 3 8 = some (.long (y 0)) := (zget_c (zset_in hV)).trans rfl
theorem zgn9 (hV : V < k.length) : zget (k.set V (zNd b M T v y)) V 3 9 = some (.long (y 1)) := (zget_c (zset_in hV)).trans rfl
theorem zgn10 (hV : V < k.length) : zget (k.set V (zNd b M T v y)) V 3 10 = some (.long (y 2)) := (zget_c (zset_in hV)).trans rfl
theorem zgn11 (hV : V < k.length) : zget (k.set V (zNd b M T v y)) V 3 11 = some (.long (y 3)) := (zget_c (zset_in hV)).trans rfl
theorem zgn12 (hV : V < k.length) : zget (k.set V (zNd b M T v y)) V 3 12 = some (.long (y 4)) := (zget_c (zset_in hV)).trans rfl
theorem zgn13 (hV : V < k.length) : zget (k.set V (zNd b M T v y)) V 3 13 = some (.long (y 5)) := (zget_c (zset_in hV)).trans rfl
theorem zgn14 (hV : V < k.length) : zget (k.set V (zNd b M T v y)) V 3 14 = some (.long (y 6)) := (zget_c (zset_in hV)).trans rfl
theorem zgn15 (hV : V < k.length) : zget (k.set V (zNd b M T v y)) V 3 15 = some (.long (y 7)) := (zget_c (zset_in hV)).trans rfl
theorem zpn8 (hV : V < k.length) : zput (k.set V (zNd b M T v y)) V 3 8 (.long z) = some (k.set V (zNd b M T v (vp_updL y 0 z))) := by
  rw [zput_c (zset_in (c := zNd b M T v y) hV) rfl rfl rfl, List.set_set]
  rfl
theorem zpn9 (hV : V < k.length) : zput (k.set V (zNd b M T v y)) V 3 9 (.long z) = some (k.set V (zNd b M T v (vp_updL y 1 z))) := by
  rw [zput_c (zset_in (c := zNd b M T v y) hV) rfl rfl rfl, List.set_set]
  rfl
theorem zpn10 (hV : V < k.length) : zput (k.set V (zNd b M T v y)) V 3 10 (.long z) = some (k.set V (zNd b M T v (vp_updL y 2 z))) := by
  rw [zput_c (zset_in (c := zNd b M T v y) hV) rfl rfl rfl, List.set_set]
  rfl
theorem zpn11 (hV : V < k.length) : zput (k.set V (zNd b M T v y)) V 3 11 (.long z) = some (k.set V (zNd b M T v (vp_updL y 3 z))) := by
  rw [zput_c (zset_in (c := zNd b M T v y) hV) rfl rfl rfl, List.set_set]
  rfl
theorem zpn12 (hV : V < k.length) : zput (k.set V (zNd b M T v y)) V 3 12 (.long z) = some (k.set V (zNd b M T v (vp_updL y 4 z))) := by
  rw [zput_c (zset_in (c := zNd b M T v y) hV) rfl rfl rfl, List.set_set]
  rfl
theorem zpn13 (hV : V < k.length) : zput (k.set V (zNd b M T v y)) V 3 13 (.long z) = some (k.set V (zNd b M T v (vp_updL y 5 z))) := by
  rw [zput_c (zset_in (c := zNd b M T v y) hV) rfl rfl rfl, List.set_set]
  rfl
theorem zpn14 (hV : V < k.length) : zput (k.set V (zNd b M T v y)) V 3 14 (.long z) = some (k.set V (zNd b M T v (vp_updL y 6 z))) := by
  rw [zput_c (zset_in (c := zNd b M T v y) hV) rfl rfl rfl, List.set_set]
  rfl
theorem zpn15 (hV : V < k.length) : zput (k.set V (zNd b M T v y)) V 3 15 (.long z) = some (k.set V (zNd b M T v (vp_updL y 7 z))) := by
  rw [zput_c (zset_in (c := zNd b M T v y) hV) rfl rfl rfl, List.set_set]
  rfl
/-- parts one behind the other: (sum, product) -/
def y_ac (x y : Nat → Nat) (p : Nat) : Nat → Nat × Nat
  | 0 => (0, 1)
  | j + 1 => ((y_ac x y p j).1 * y (p + j) + x (p + j) * (y_ac x y p j).2, (y_ac x y p j).2 * y (p + j))
def zchain (T : Nat → Nat → Nat) (v : Nat) : Prop := v < T 4 v ∧ 0 < T 6 v ∧ ∀ j, j < T 6 v → T 5 (T 4 v + j) = if j + 1 < T 6 v then T 4 v + j + 1 else 0
theorem c_measure1 (d : Nat) {h : ZH} {x : Nat → Int64} {D : Nat → Nat → Int64} {w q : Nat → Nat} (hv : h[b + 1 + v]? = some (zNd b M T v x)) (hc : T 1 v = 1) (hC : zchain T v)
    (hp : ∀ j, j < T 6 v → h[b + 1 + (T 4 v + j)]? = some (zNd b M T (T 4 v + j) (D (T 4 v + j))) ∧ D (T 4 v + j) 0 = lN (w (T 4 v + j)) ∧ D (T 4 v + j) 1 = lN (q (T 4 v + j))) :
    zcl (d + 1) 31 [.ref (b + 1 + v)] h = some (none, h.set (b + 1 + v) (zNd b M T v (vp_updL (vp_updL x 0 (lN (y_ac w q (T 4 v) (T 6 v)).1)) 1 (lN (y_ac w q (T 4 v) (T 6 v)).2)))) := by
  obtain ⟨hvp, hnp, hnx⟩ := hC
  have hV := y_in hv
  have hcc : nI (T 1 v) = 1 := by rw [hc]; rfl
  have hw : ∀ a, Value.category (.ref a) = 1 := fun _ => rfl
  have st130 : ∀ (c : Value) (i : Nat) (h : ZH), zres d 31 130 [.ref (b + 1 + v), c] [zrf b i] h = zres d 31 131 [.ref (b + 1 + v), zrf b i] [] h := by
    intro c i h
    unfold zrf
    by_cases q : i = 0
    · rw [if_pos q, g31_130n (hw _)]
    · rw [if_neg q, g31_130 (hw _)]
  have st38 : ∀ (c : Value) (i : Nat) (h : ZH), zres d 31 38 [.ref (b + 1 + v), c] [zrf b i] h = zres d 31 39 [.ref (b + 1 + v), zrf b i] [] h := by
    intro c i h
    unfold zrf
    by_cases q : i = 0
    · rw [if_pos q, g31_38n (hw _)]
    · rw [if_neg q, g31_38 (hw _)]
  have loop : ∀ (n j : Nat) (y : Nat → Int64), j + n = T 6 v → y 0 = lN (y_ac w q (T 4 v) j).1 → y 1 = lN (y_ac w q (T 4 v) j).2 → (∀ c, 2 ≤ c → y c = x c) →
      zres d 31 39 [.ref (b + 1 + v), zrf b (if j < T 6 v then T 4 v + j else 0)] [] (h.set (b + 1 + v) (zNd b M T v y)) = some (none, h.set (b + 1 + v) (zNd b M T v (vp_updL (vp_updL x 0 (lN (y_ac w q (T 4 v) (T 6 v)).1)) 1 (lN (y_ac w q (T 4 v) (T 6 v)).2)))) := by
    intro n
    induction n with
    | zero =>
      intro j y hj y0 y1 y2
      obtain rfl : j = T 6 v := by omega
      rw [if_neg (by omega), zrf_0, g31_39n, g31_40n, g31_134]
      refine congrArg (fun c => some (none, h.set (b + 1 + v) c)) (zNd_eq fun c hc => ?_)
      match c, hc with
      | 0, _ => rw [y0]; rfl
      | 1, _ => rw [y1]; rfl
      | c + 2, _ => rw [y2 (c + 2) (by omega), pk_uLn (by omega), pk_uLn (by omega)]
    | succ n ih =>
      intro j y hj y0 y1 y2
      obtain ⟨e1, e2, e3⟩ := hp j (by omega)
      have ne : b + 1 + v ≠ b + 1 + (T 4 v + j) := by omega
      have r8 : zget h (b + 1 + (T 4 v + j)) 3 8 = some (.long (lN (w (T 4 v + j)))) := ((zget_c e1).trans rfl).trans (by rw [← e2]; rfl)
      have r9 : zget h (b + 1 + (T 4 v + j)) 3 9 = some (.long (lN (q (T 4 v + j)))) := ((zget_c e1).trans rfl).trans (by rw [← e3]; rfl)
      have r5 : zget h (b + 1 + (T 4 v + j)) 3 5 = some (zrf b (T 5 (T 4 v + j))) := (zget_c e1).trans rfl
      rw [if_pos (by omega), zrf_ne (by omega)]
      simp only [g31_39, g31_39n, g31_40r, g31_40n, g31_43, g31_44, g31_47, g31_48, g31_51, g31_52, g31_53, g31_56, g31_56n, g31_57, g31_60, g31_61, g31_61n, g31_62, g31_65, g31_66, g31_69, g31_70, g31_71, g31_74, g31_75, g31_76, g31_79, g31_79n, g31_80, g31_83, g31_84, g31_87, g31_126, g31_127, g31_131, st130, zgo_ne ne, r8, r9, r5, zgn1 hV, zgn8 hV, zgn9 hV, zpn8 hV, zpn9 hV, hcc, hw, Option.bind_some, ↓reduceIte, not_true_eq_false]
      rw [hnx j (by omega)]
      refine ih (j + 1) _ (by omega) ?_ ?_ fun c hc => ?_
      · show y 0 * lN (q (T 4 v + j)) + lN (w (T 4 v + j)) * y 1 = _
        rw [y0, y1, lN_mul, lN_mul, lN_add]
        rfl
      · show y 1 * lN (q (T 4 v + j)) = _
        rw [y1, lN_mul]
        rfl
      · rw [pk_uLn (by omega), pk_uLn (by omega)]
        exact y2 c hc
  have r4 : ∀ y, zget (h.set (b + 1 + v) (zNd b M T v y)) (b + 1 + v) 3 4 = some (zrf b (T 4 v)) := fun y => (zgn4 hV).trans (by rw [if_neg (by omega)])
  rw [e31]
  have hs : h = h.set (b + 1 + v) (zNd b M T v x) := (zset_self hv).symm
  rw [hs]
  simp only [g31_0, g31_1, g31_2, g31_5, g31_6, g31_9, g31_10, g31_13, g31_14, g31_17, g31_18, g31_19, g31_22, g31_23, g31_26, g31_27, g31_30, g31_31, g31_34, g31_35, st38, hcc, zgn1 hV, zpn8 hV, zpn9 hV, r4, Option.bind_some, ↓reduceIte, not_true_eq_false]
  have := loop (T 6 v) 0 (vp_updL (vp_updL x 0 0) 1 1) (by omega) rfl rfl fun c hc => by rw [pk_uLn (by omega), pk_uLn (by omega)]
  rw [if_pos (by omega)] at this
  rw [List.set_set]
  exact this
end NODE
