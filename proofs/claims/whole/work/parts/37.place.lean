/-! measure downwards, the places of nodes -/
theorem lg_c0 (x y : Int64) : (lg_cmp x y = 1 ∧ y < x) ∨ (lg_cmp x y = 0 ∧ x = y) ∨ (lg_cmp x y = -1 ∧ x < y) := by
  unfold lg_cmp
  by_cases h1 : x > y
  · rw [if_pos h1]; exact Or.inl ⟨rfl, h1⟩
  · rw [if_neg h1]
    by_cases h2 : x = y
    · rw [if_pos h2]; exact Or.inr (Or.inl ⟨rfl, h2⟩)
    · rw [if_neg h2]
      refine Or.inr (Or.inr ⟨rfl, ?_⟩)
      have h3 : ¬ x.toInt = y.toInt := fun q => h2 (Int64.toInt_inj.mp q)
      have h1' : ¬ y.toInt < x.toInt := fun q => h1 (Int64.lt_iff_toInt_lt.mpr q)
      exact Int64.lt_iff_toInt_lt.mpr (by omega)
theorem lg_le {x y : Int64} : lg_cmp x y ≤ 0 ↔ x ≤ y := by
  rw [Int64.le_iff_toInt_le]
  rcases lg_c0 x y with ⟨e, h⟩ | ⟨e, h⟩ | ⟨e, h⟩ <;> rw [e]
  · have := Int64.lt_iff_toInt_lt.mp h
    exact ⟨fun q => absurd q (by decide), fun q => by omega⟩
  · exact ⟨fun _ => by rw [h]; omega, fun _ => by decide⟩
  · have := Int64.lt_iff_toInt_lt.mp h
    exact ⟨fun _ => by omega, fun _ => by decide⟩
theorem lg_lt {x y : Int64} : lg_cmp x y < 0 ↔ x < y := by
  rw [Int64.lt_iff_toInt_lt]
  rcases lg_c0 x y with ⟨e, h⟩ | ⟨e, h⟩ | ⟨e, h⟩ <;> rw [e]
  · have := Int64.lt_iff_toInt_lt.mp h
    exact ⟨fun q => absurd q (by decide), fun q => by omega⟩
  · exact ⟨fun q => absurd q (by decide), fun q => by rw [h] at q; omega⟩
  · have := Int64.lt_iff_toInt_lt.mp h
    exact ⟨fun _ => by omega, fun _ => by decide⟩
theorem lg_gt {x y : Int64} : 0 < lg_cmp x y ↔ y < x := by
  rw [Int64.lt_iff_toInt_lt]
  rcases lg_c0 x y with ⟨e, h⟩ | ⟨e, h⟩ | ⟨e, h⟩ <;> rw [e]
  · have := Int64.lt_iff_toInt_lt.mp h
    exact ⟨fun _ => by omega, fun _ => by decide⟩
  · exact ⟨fun q => absurd q (by decide), fun q => by rw [h] at q; omega⟩
  · have := Int64.lt_iff_toInt_lt.mp h
    exact ⟨fun q => absurd q (by decide), fun q => by omega⟩
theorem lg_ge {x y : Int64} : 0 ≤ lg_cmp x y ↔ y ≤ x := by
  rw [Int64.le_iff_toInt_le]
  rcases lg_c0 x y with ⟨e, h⟩ | ⟨e, h⟩ | ⟨e, h⟩ <;> rw [e]
  · have := Int64.lt_iff_toInt_lt.mp h
    exact ⟨fun _ => by omega, fun _ => by decide⟩
  · exact ⟨fun _ => by rw [h]; omega, fun _ => by decide⟩
  · have := Int64.lt_iff_toInt_lt.mp h
    exact ⟨fun q => absurd q (by decide), fun q => by omega⟩
section PLACE
variable {b M : Nat} {T : Nat → Nat → Nat} {k : ZH} {V v : Nat} {y : Nat → Int64} {z : Int64}
theorem c_measure2 (d : Nat) {h : ZH} {x : Nat → Int64} {D : Nat → Nat → Int64} {w q : Nat → Nat} (hv : h[b + 1 + v]? = some (zNd b M T v x)) (hc : T 1 v = 2) (hC : zchain T v)
    (hp : ∀ j, j < T 6 v → h[b + 1 + (T 4 v + j)]? = some (zNd b M T (T 4 v + j) (D (T 4 v + j))) ∧ D (T 4 v + j) 0 = lN (w (T 4 v + j)) ∧ D (T 4 v + j) 1 = lN (q (T 4 v + j))) :
    zcl (d + 1) 31 [.ref (b + 1 + v)] h = some (none, h.set (b + 1 + v) (zNd b M T v (vp_updL (vp_updL x 0 (lN (y_ac q w (T 4 v) (T 6 v)).2)) 1 (lN (y_ac q w (T 4 v) (T 6 v)).1)))) := by
  obtain ⟨hvp, hnp, hnx⟩ := hC
  have hV := y_in hv
  have hcc : ¬ nI (T 1 v) = 1 := by rw [hc]; decide
  have hw : ∀ a, Value.category (.ref a) = 1 := fun _ => rfl
  have st130 : ∀ (c : Value) (i : Nat) (h : ZH), zres d 31 130 [.ref (b + 1 + v), c] [zrf b i] h = zres d 31 131 [.ref (b + 1 + v), zrf b i] [] h := by
    intro c i h
    unfold zrf
    by_cases q : i = 0
    · rw [if_pos q, g31_130n (hw _)]
    · rw [if_neg q, g31_130 (hw _)]
  have st38 : ∀ (c : Value) (i : Nat) (h : ZH), zres d 31 38 [.ref (b + 1 + v), c] [zrf b i] h = zres d 31 39 [.ref (b + 1 + v), zrf b i] [] h := by
    intro c i h
    unfold zrf
    by_cases q : i = 0
    · rw [if_pos q, g31_38n (hw _)]
    · rw [if_neg q, g31_38 (hw _)]
  have loop : ∀ (n j : Nat) (y : Nat → Int64), j + n = T 6 v → y 1 = lN (y_ac q w (T 4 v) j).1 → y 0 = lN (y_ac q w (T 4 v) j).2 → (∀ c, 2 ≤ c → y c = x c) →
      zres d 31 39 [.ref (b + 1 + v), zrf b (if j < T 6 v then T 4 v + j else 0)] [] (h.set (b + 1 + v) (zNd b M T v y)) = some (none, h.set (b + 1 + v) (zNd b M T v (vp_updL (vp_updL x 0 (lN (y_ac q w (T 4 v) (T 6 v)).2)) 1 (lN (y_ac q w (T 4 v) (T 6 v)).1)))) := by
    intro n
    induction n with
    | zero =>
      intro j y hj y1 y0 y2
      obtain rfl : j = T 6 v := by omega
      rw [if_neg (by omega), zrf_0, g31_39n, g31_40n, g31_134]
      refine congrArg (fun c => some (none, h.set (b + 1 + v) c)) (zNd_eq fun c hc => ?_)
      match c, hc with
      | 0, _ => rw [y0]; rfl
      | 1, _ => rw [y1]; rfl
      | c + 2, _ => rw [y2 (c + 2) (by omega), pk_uLn (by omega), pk_uLn (by omega)]
    | succ n ih =>
      intro j y hj y1 y0 y2
      obtain ⟨e1, e2, e3⟩ := hp j (by omega)
      have ne : b + 1 + v ≠ b + 1 + (T 4 v + j) := by omega
      have r8 : zget h (b + 1 + (T 4 v + j)) 3 8 = some (.long (lN (w (T 4 v + j)))) := ((zget_c e1).trans rfl).trans (by rw [← e2]; rfl)
      have r9 : zget h (b + 1 + (T 4 v + j)) 3 9 = some (.long (lN (q (T 4 v + j)))) := ((zget_c e1).trans rfl).trans (by rw [← e3]; rfl)
      have r5 : zget h (b + 1 + (T 4 v + j)) 3 5 = some (zrf b (T 5 (T 4 v + j))) := (zget_c e1).trans rfl
      rw [if_pos (by omega), zrf_ne (by omega)]
      simp only [g31_39, g31_39n, g31_40r, g31_40n, g31_43, g31_44, g31_47, g31_48, g31_90, g31_91, g31_92, g31_95, g31_95n, g31_96, g31_99, g31_100, g31_100n, g31_101, g31_104, g31_105, g31_108, g31_109, g31_110, g31_113, g31_114, g31_115, g31_118, g31_118n, g31_119, g31_122, g31_123, g31_126, g31_127, g31_131, st130, zgo_ne ne, r8, r9, r5, zgn1 hV, zgn8 hV, zgn9 hV, zpn8 hV, zpn9 hV, hcc, hw, Option.bind_some, ↓reduceIte, not_false_eq_true]
      rw [hnx j (by omega)]
      refine ih (j + 1) _ (by omega) ?_ ?_ fun c hc => ?_
      · show y 1 * lN (w (T 4 v + j)) + lN (q (T 4 v + j)) * y 0 = _
        rw [y0, y1, lN_mul, lN_mul, lN_add]
        rfl
      · show y 0 * lN (w (T 4 v + j)) = _
        rw [y0, lN_mul]
        rfl
      · rw [pk_uLn (by omega), pk_uLn (by omega)]
        exact y2 c hc
  have r4 : ∀ y, zget (h.set (b + 1 + v) (zNd b M T v y)) (b + 1 + v) 3 4 = some (zrf b (T 4 v)) := fun y => (zgn4 hV).trans (by rw [if_neg (by omega)])
  rw [e31]
  have hs : h = h.set (b + 1 + v) (zNd b M T v x) := (zset_self hv).symm
  rw [hs]
  simp only [g31_0, g31_1, g31_2, g31_5, g31_6, g31_9, g31_10, g31_13, g31_14, g31_17, g31_18, g31_19, g31_22, g31_23, g31_26, g31_27, g31_30, g31_31, g31_34, g31_35, st38, hcc, zgn1 hV, zpn8 hV, zpn9 hV, r4, Option.bind_some, ↓reduceIte, not_false_eq_true]
  have := loop (T 6 v) 0 (vp_updL (vp_updL x 0 1) 1 0) (by omega) rfl rfl fun c hc => by rw [pk_uLn (by omega), pk_uLn (by omega)]
  rw [if_pos (by omega)] at this
  rw [List.set_set]
  exact this
def ysum (f : Nat → Nat) : Nat → Nat
  | 0 => 0
  | j + 1 => ysum f j + f j
theorem c_placeOnPage (d : Nat) {h : ZH} {y : Nat → Int64} {W H w q : Nat} (hv : h[V]? = some (zNd b M T v y)) (h0 : y 0 = lN w) (h1 : y 1 = lN q) (hW : W < 2 ^ 31) (hH : H < 2 ^ 31) (hb1 : W * q < 2 ^ 63) (hb2 : H * w < 2 ^ 63) :
    zcl (d + 1) 32 [.ref V, .int (nI W), .int (nI H)] h = some (none, h.set V (zNd b M T v (vp_updL (vp_updL (vp_updL (vp_updL y 3 (lN (if W * q ≤ H * w then W else H * w))) 4 (lN (if W * q ≤ H * w then 1 else q))) 6 (lN (if W * q ≤ H * w then W * q else H))) 7 (lN (if W * q ≤ H * w then w else 1))))) := by
  have hV := y_in hv
  have hs : h = h.set V (zNd b M T v y) := (zset_self hv).symm
  have hw : ∀ a, Value.category (.int a) = 1 := fun _ => rfl
  have u0 : ∀ (x : Int64) (c : Nat), 1 < c → vp_updL y c x 0 = lN w := fun x c hc => (pk_uLn (by omega)).trans h0
  rw [e32]
  rw [hs]
  by_cases full : W * q ≤ H * w
  · have hc : ¬ lN (H * w) < lN (W * q) := fun z => absurd ((pk_lLT hb2 hb1).mp z) (by omega)
    simp only [g32_0, g32_1, g32_2, g32_3, g32_6, g32_7, g32_8, g32_9, g32_10, g32_13, g32_14, g32_15, zgn8 hV, zgn9 hV, h0, h1, nI_l hW, nI_l hH, lN_mul, lg_gt, hc, Option.bind_some, ↓reduceIte]
    simp only [g32_18, g32_19, g32_22, g32_23, g32_24, g32_25, g32_26, g32_29, g32_30, g32_31, g32_34, g32_35, g32_36, g32_37, g32_40, g32_41, g32_44, g32_45, g32_46, g32_49, g32_50, g32_53, g32_54, g32_57, g32_60, g32_61, g32_62, g32_65, g32_66, g32_67, g32_68, g32_71, g32_72, g32_75, g32_76, g32_77, g32_80, g32_81, g32_82, g32_85, g32_86, g32_89, g32_92, g32_93, g32_96, zgn8 hV, zgn9 hV, zpn11 hV, zpn12 hV, zpn14 hV, zpn15 hV, pk_uLn, ne_eq, h0, h1, hw, nI_l hW, nI_l hH, lN_mul, Option.bind_some, ↓reduceIte, full, show ¬ (1 : Int32) = 0 by decide, show ¬ (0 : Nat) = 3 by decide, show ¬ (0 : Nat) = 4 by decide, show ¬ (0 : Nat) = 6 by decide, show ¬ (1 : Nat) = 3 by decide, show ¬ (1 : Nat) = 4 by decide, show ¬ (1 : Nat) = 6 by decide, not_false_eq_true, List.set_set]
    rfl
  · have hc : lN (H * w) < lN (W * q) := (pk_lLT hb2 hb1).mpr (by omega)
    simp only [g32_0, g32_1, g32_2, g32_3, g32_6, g32_7, g32_8, g32_9, g32_10, g32_13, g32_14, g32_15, zgn8 hV, zgn9 hV, h0, h1, nI_l hW, nI_l hH, lN_mul, lg_gt, hc, Option.bind_some, ↓reduceIte]
    simp only [g32_22, g32_23, g32_24, g32_25, g32_26, g32_29, g32_30, g32_31, g32_34, g32_35, g32_36, g32_37, g32_40, g32_41, g32_44, g32_45, g32_46, g32_49, g32_50, g32_53, g32_54, g32_57, g32_60, g32_61, g32_62, g32_65, g32_66, g32_67, g32_68, g32_71, g32_72, g32_75, g32_76, g32_77, g32_80, g32_81, g32_82, g32_85, g32_86, g32_89, g32_92, g32_93, g32_96, zgn8 hV, zgn9 hV, zpn11 hV, zpn12 hV, zpn14 hV, zpn15 hV, pk_uLn, ne_eq, h0, h1, hw, nI_l hW, nI_l hH, lN_mul, Option.bind_some, ↓reduceIte, full, show ¬ (0 : Nat) = 3 by decide, show ¬ (0 : Nat) = 4 by decide, show ¬ (0 : Nat) = 6 by decide, show ¬ (1 : Nat) = 3 by decide, show ¬ (1 : Nat) = 4 by decide, show ¬ (1 : Nat) = 6 by decide, not_false_eq_true, List.set_set]
    rfl
def yPa (T : Nat → Nat → Nat) (X : Nat → Nat → Nat) (v j : Nat) : Prop := X 2 (T 4 v + j) = X 2 v * X 0 v + X 3 v * ysum (fun j => X 1 v / X 1 (T 4 v + j) * X 0 (T 4 v + j)) j ∧ X 3 (T 4 v + j) = X 3 v * (X 1 v / X 1 (T 4 v + j) * X 0 (T 4 v + j)) ∧ X 4 (T 4 v + j) = X 4 v * X 0 v ∧ X 5 (T 4 v + j) = X 5 v ∧ X 6 (T 4 v + j) = X 6 v ∧ X 7 (T 4 v + j) = X 7 v
theorem c_placeAcross (d : Nat) {h : ZH} {X : Nat → Nat → Nat} {D : Nat → Nat → Int64} (hv : h[b + 1 + v]? = some (zNd b M T v (fun c => lN (X c v)))) (hC : zchain T v)
    (hp : ∀ j, j < T 6 v → h[b + 1 + (T 4 v + j)]? = some (zNd b M T (T 4 v + j) (D (T 4 v + j))) ∧ D (T 4 v + j) 0 = lN (X 0 (T 4 v + j)) ∧ D (T 4 v + j) 1 = lN (X 1 (T 4 v + j)))
    (hb : ∀ j, j < T 6 v → 0 < X 1 (T 4 v + j) ∧ X 1 (T 4 v + j) < 2 ^ 63) (hb2 : X 1 v < 2 ^ 63) (hX : ∀ j, j < T 6 v → yPa T X v j) :
    ∃ h', zcl (d + 1) 33 [.ref (b + 1 + v)] h = some (none, h') ∧ (∀ j, j < T 6 v → h'[b + 1 + (T 4 v + j)]? = some (zNd b M T (T 4 v + j) (fun c => lN (X c (T 4 v + j))))) ∧ ∀ a, (a < b + 1 + T 4 v ∨ b + 1 + T 4 v + T 6 v ≤ a) → h'[a]? = h[a]? := by
  obtain ⟨hvp, hnp, hnx⟩ := hC
  have hw : ∀ a, Value.category (.ref a) = 1 := fun _ => rfl
  have hwj : Value.category zj = 1 := rfl
  have st117 : ∀ (l1 l2 l3 l4 l5 : Value) (i : Nat) (h : ZH), l2.category = 1 → zres d 33 117 [.ref (b + 1 + v), l1, l2, l3, l4, l5] [zrf b i] h = zres d 33 118 [.ref (b + 1 + v), l1, l2, zrf b i, l4, l5] [] h := by
    intro l1 l2 l3 l4 l5 i h q
    unfold zrf
    by_cases z : i = 0
    · rw [if_pos z, g33_117n q]
    · rw [if_neg z, g33_117 q]
  have st6 : ∀ (l1 l2 l3 l4 l5 : Value) (i : Nat) (h : ZH), l2.category = 1 → zres d 33 6 [.ref (b + 1 + v), l1, l2, l3, l4, l5] [zrf b i] h = zres d 33 7 [.ref (b + 1 + v), l1, l2, zrf b i, l4, l5] [] h := by
    intro l1 l2 l3 l4 l5 i h q
    unfold zrf
    by_cases z : i = 0
    · rw [if_pos z, g33_6n q]
    · rw [if_neg z, g33_6 q]
  have loop : ∀ (n j : Nat) (k : ZH) (l4 l5 : Value), j + n = T 6 v → k[b + 1 + v]? = some (zNd b M T v (fun c => lN (X c v))) → (∀ i, j ≤ i → i < T 6 v → k[b + 1 + (T 4 v + i)]? = some (zNd b M T (T 4 v + i) (D (T 4 v + i)))) →
      ∃ k', zres d 33 7 [.ref (b + 1 + v), .long (lN (ysum (fun j => X 1 v / X 1 (T 4 v + j) * X 0 (T 4 v + j)) j)), zj, zrf b (if j < T 6 v then T 4 v + j else 0), l4, l5] [] k = some (none, k') ∧ (∀ i, j ≤ i → i < T 6 v → k'[b + 1 + (T 4 v + i)]? = some (zNd b M T (T 4 v + i) (fun c => lN (X c (T 4 v + i))))) ∧ ∀ a, (a < b + 1 + T 4 v + j ∨ b + 1 + T 4 v + T 6 v ≤ a) → k'[a]? = k[a]? := by
    intro n
    induction n with
    | zero =>
      intro j k l4 l5 hj kv kp
      obtain rfl : j = T 6 v := by omega
      rw [if_neg (by omega), zrf_0, g33_7n, g33_8n, g33_121]
      exact ⟨k, rfl, fun i h1 h2 => by omega, fun a _ => rfl⟩
    | succ n ih =>
      intro j k l4 l5 hj kv kp
      obtain ⟨-, e2, e3⟩ := hp j (by omega)
      obtain ⟨b1, b2⟩ := hb j (by omega)
      obtain ⟨x2, x3, x4, x5, x6, x7⟩ := hX j (by omega)
      have e1 := kp j (by omega) (by omega)
      have hI := y_in e1
      have ne : b + 1 + (T 4 v + j) ≠ b + 1 + v := by omega
      have hs : k = k.set (b + 1 + (T 4 v + j)) (zNd b M T (T 4 v + j) (D (T 4 v + j))) := (zset_self e1).symm
      have r8 : zget k (b + 1 + v) 3 8 = some (.long (lN (X 0 v))) := (zget_c kv).trans rfl
      have r9 : zget k (b + 1 + v) 3 9 = some (.long (lN (X 1 v))) := (zget_c kv).trans rfl
      have r10 : zget k (b + 1 + v) 3 10 = some (.long (lN (X 2 v))) := (zget_c kv).trans rfl
      have r11 : zget k (b + 1 + v) 3 11 = some (.long (lN (X 3 v))) := (zget_c kv).trans rfl
      have r12 : zget k (b + 1 + v) 3 12 = some (.long (lN (X 4 v))) := (zget_c kv).trans rfl
      have r13 : zget k (b + 1 + v) 3 13 = some (.long (lN (X 5 v))) := (zget_c kv).trans rfl
      have r14 : zget k (b + 1 + v) 3 14 = some (.long (lN (X 6 v))) := (zget_c kv).trans rfl
      have r15 : zget k (b + 1 + v) 3 15 = some (.long (lN (X 7 v))) := (zget_c kv).trans rfl
      have hle : ¬ lN (X 1 (T 4 v + j)) ≤ (0 : Int64) := fun z => absurd ((pk_lLE b2 (by decide : (0 : Nat) < 2 ^ 63)).mp z) (by omega)
      have hy0 : ¬ lN (X 1 (T 4 v + j)) = 0 := fun z => absurd ((pk_lEQ b2 (by decide : (0 : Nat) < 2 ^ 63)).mp z) (by omega)
      rw [if_pos (by omega), zrf_ne (by omega)]
      rw [hs]
      simp only [g33_7, g33_7n, g33_8r, g33_8n, g33_11, g33_11n, g33_12, g33_15, g33_16, g33_17, e2, e3, zgn8 hI, zgn9 hI, Option.bind_some, lg_le, hle, ↓reduceIte]
      simp only [g33_20, g33_21, g33_24, g33_24n, g33_25, g33_28, g33_29, g33_29n, g33_30, g33_33, g33_34, g33_37, g33_38, g33_40, g33_40n, g33_41, g33_42, g33_45, g33_46, g33_49, g33_50, g33_51, g33_54, g33_55, g33_56, g33_57, g33_60, g33_60n, g33_61, g33_62, g33_65, g33_67, g33_68, g33_71, g33_71n, g33_72, g33_73, g33_76, g33_77, g33_80, g33_81, g33_84, g33_84n, g33_85, g33_86, g33_89, g33_92, g33_92n, g33_93, g33_94, g33_97, g33_100, g33_100n, g33_101, g33_102, g33_105, g33_108, g33_109, g33_111, g33_112, g33_113, g33_113n, g33_114, g33_118, zgn5 hI, zgn8 hI, zgn9 hI, zpn10 hI, zpn11 hI, zpn12 hI, zpn13 hI, zpn14 hI, zpn15 hI, zgo_ne ne, r8, r9, r10, r11, r12, r13, r14, r15, st117, e2, e3, hw, hwj, hy0, not_false_eq_true, pk_lDiv hb2 b1 b2, lN_mul, lN_add, Option.bind_some]
      have hcell : zNd b M T (T 4 v + j) (vp_updL (vp_updL (vp_updL (vp_updL (vp_updL (vp_updL (D (T 4 v + j)) 2 (lN (X 2 v * X 0 v + X 3 v * ysum (fun j => X 1 v / X 1 (T 4 v + j) * X 0 (T 4 v + j)) j))) 3 (lN (X 3 v * (X 1 v / X 1 (T 4 v + j) * X 0 (T 4 v + j))))) 4 (lN (X 4 v * X 0 v))) 5 (lN (X 5 v))) 6 (lN (X 6 v))) 7 (lN (X 7 v))) = zNd b M T (T 4 v + j) (fun c => lN (X c (T 4 v + j))) := by
        refine zNd_eq fun c hc => ?_
        match c, hc with
        | 0, _ => exact e2
        | 1, _ => exact e3
        | 2, _ => show _ = lN (X 2 (T 4 v + j)); rw [x2]; rfl
        | 3, _ => show _ = lN (X 3 (T 4 v + j)); rw [x3]; rfl
        | 4, _ => show _ = lN (X 4 (T 4 v + j)); rw [x4]; rfl
        | 5, _ => show _ = lN (X 5 (T 4 v + j)); rw [x5]; rfl
        | 6, _ => show _ = lN (X 6 (T 4 v + j)); rw [x6]; rfl
        | 7, _ => show _ = lN (X 7 (T 4 v + j)); rw [x7]; rfl
      rw [hcell, hnx j (by omega)]
      obtain ⟨k', g1, g2, g3⟩ := ih (j + 1) (k.set (b + 1 + (T 4 v + j)) (zNd b M T (T 4 v + j) (fun c => lN (X c (T 4 v + j))))) (.long (lN (X 1 v / X 1 (T 4 v + j) * X 0 (T 4 v + j)))) zj (by omega) ((zset_ne ne).trans kv) (fun i h1 h2 => (zset_ne (by omega)).trans (kp i (by omega) h2))
      refine ⟨k', g1, fun i h1 h2 => ?_, fun a ha => ?_⟩
      · by_cases z : i = j
        · subst z
          rw [g3 _ (by omega)]
          exact zset_in hI
        · exact g2 i (by omega) h2
      · rw [g3 a (by omega)]
        rw [zset_ne (by omega), zset_ne (by omega)]
  have r4 : zget h (b + 1 + v) 3 4 = some (zrf b (T 4 v)) := ((zget_c hv).trans rfl).trans (show some (zrf b (if T 6 v = 0 then 0 else T 4 v)) = _ by rw [if_neg (by omega)])
  rw [e33]
  simp only [g33_0, g33_1, g33_2, g33_3, st6, r4, hw, hwj, Option.bind_some]
  have := loop (T 6 v) 0 h zj zj (by omega) hv (fun i _ h2 => (hp i h2).1)
  rw [if_pos (by omega)] at this
  obtain ⟨k', g1, g2, g3⟩ := this
  exact ⟨k', g1, fun j hj => g2 j (by omega) hj, fun a ha => g3 a (by omega)⟩
def yPd (T : Nat → Nat → Nat) (X : Nat → Nat → Nat) (v j : Nat) : Prop := X 5 (T 4 v + j) = X 5 v * X 1 v + X 6 v * ysum (fun j => X 0 v / X 0 (T 4 v + j) * X 1 (T 4 v + j)) j ∧ X 6 (T 4 v + j) = X 6 v * (X 0 v / X 0 (T 4 v + j) * X 1 (T 4 v + j)) ∧ X 7 (T 4 v + j) = X 7 v * X 1 v ∧ X 2 (T 4 v + j) = X 2 v ∧ X 3 (T 4 v + j) = X 3 v ∧ X 4 (T 4 v + j) = X 4 v
theorem c_placeDown (d : Nat) {h : ZH} {X : Nat → Nat → Nat} {D : Nat → Nat → Int64} (hv : h[b + 1 + v]? = some (zNd b M T v (fun c => lN (X c v)))) (hC : zchain T v)
    (hp : ∀ j, j < T 6 v → h[b + 1 + (T 4 v + j)]? = some (zNd b M T (T 4 v + j) (D (T 4 v + j))) ∧ D (T 4 v + j) 0 = lN (X 0 (T 4 v + j)) ∧ D (T 4 v + j) 1 = lN (X 1 (T 4 v + j)))
    (hb : ∀ j, j < T 6 v → 0 < X 0 (T 4 v + j) ∧ X 0 (T 4 v + j) < 2 ^ 63) (hb2 : X 0 v < 2 ^ 63) (hX : ∀ j, j < T 6 v → yPd T X v j) :
    ∃ h', zcl (d + 1) 34 [.ref (b + 1 + v)] h = some (none, h') ∧ (∀ j, j < T 6 v → h'[b + 1 + (T 4 v + j)]? = some (zNd b M T (T 4 v + j) (fun c => lN (X c (T 4 v + j))))) ∧ ∀ a, (a < b + 1 + T 4 v ∨ b + 1 + T 4 v + T 6 v ≤ a) → h'[a]? = h[a]? := by
  obtain ⟨hvp, hnp, hnx⟩ := hC
  have hw : ∀ a, Value.category (.ref a) = 1 := fun _ => rfl
  have hwj : Value.category zj = 1 := rfl
  have st117 : ∀ (l1 l2 l3 l4 l5 : Value) (i : Nat) (h : ZH), l2.category = 1 → zres d 34 117 [.ref (b + 1 + v), l1, l2, l3, l4, l5] [zrf b i] h = zres d 34 118 [.ref (b + 1 + v), l1, l2, zrf b i, l4, l5] [] h := by
    intro l1 l2 l3 l4 l5 i h q
    unfold zrf
    by_cases z : i = 0
    · rw [if_pos z, g34_117n q]
    · rw [if_neg z, g34_117 q]
  have st6 : ∀ (l1 l2 l3 l4 l5 : Value) (i : Nat) (h : ZH), l2.category = 1 → zres d 34 6 [.ref (b + 1 + v), l1, l2, l3, l4, l5] [zrf b i] h = zres d 34 7 [.ref (b + 1 + v), l1, l2, zrf b i, l4, l5] [] h := by
    intro l1 l2 l3 l4 l5 i h q
    unfold zrf
    by_cases z : i = 0
    · rw [if_pos z, g34_6n q]
    · rw [if_neg z, g34_6 q]
  have loop : ∀ (n j : Nat) (k : ZH) (l4 l5 : Value), j + n = T 6 v → k[b + 1 + v]? = some (zNd b M T v (fun c => lN (X c v))) → (∀ i, j ≤ i → i < T 6 v → k[b + 1 + (T 4 v + i)]? = some (zNd b M T (T 4 v + i) (D (T 4 v + i)))) →
      ∃ k', zres d 34 7 [.ref (b + 1 + v), .long (lN (ysum (fun j => X 0 v / X 0 (T 4 v + j) * X 1 (T 4 v + j)) j)), zj, zrf b (if j < T 6 v then T 4 v + j else 0), l4, l5] [] k = some (none, k') ∧ (∀ i, j ≤ i → i < T 6 v → k'[b + 1 + (T 4 v + i)]? = some (zNd b M T (T 4 v + i) (fun c => lN (X c (T 4 v + i))))) ∧ ∀ a, (a < b + 1 + T 4 v + j ∨ b + 1 + T 4 v + T 6 v ≤ a) → k'[a]? = k[a]? := by
    intro n
    induction n with
    | zero =>
      intro j k l4 l5 hj kv kp
      obtain rfl : j = T 6 v := by omega
      rw [if_neg (by omega), zrf_0, g34_7n, g34_8n, g34_121]
      exact ⟨k, rfl, fun i h1 h2 => by omega, fun a _ => rfl⟩
    | succ n ih =>
      intro j k l4 l5 hj kv kp
      obtain ⟨-, e2, e3⟩ := hp j (by omega)
      obtain ⟨b1, b2⟩ := hb j (by omega)
      obtain ⟨x2, x3, x4, x5, x6, x7⟩ := hX j (by omega)
      have e1 := kp j (by omega) (by omega)
      have hI := y_in e1
      have ne : b + 1 + (T 4 v + j) ≠ b + 1 + v := by omega
      have hs : k = k.set (b + 1 + (T 4 v + j)) (zNd b M T (T 4 v + j) (D (T 4 v + j))) := (zset_self e1).symm
      have r8 : zget k (b + 1 + v) 3 8 = some (.long (lN (X 0 v))) := (zget_c kv).trans rfl
      have r9 : zget k (b + 1 + v) 3 9 = some (.long (lN (X 1 v))) := (zget_c kv).trans rfl
      have r10 : zget k (b + 1 + v) 3 10 = some (.long (lN (X 2 v))) := (zget_c kv).trans rfl
      have r11 : zget k (b + 1 + v) 3 11 = some (.long (lN (X 3 v))) := (zget_c kv).trans rfl
      have r12 : zget k (b + 1 + v) 3 12 = some (.long (lN (X 4 v))) := (zget_c kv).trans rfl
      have r13 : zget k (b + 1 + v) 3 13 = some (.long (lN (X 5 v))) := (zget_c kv).trans rfl
      have r14 : zget k (b + 1 + v) 3 14 = some (.long (lN (X 6 v))) := (zget_c kv).trans rfl
      have r15 : zget k (b + 1 + v) 3 15 = some (.long (lN (X 7 v))) := (zget_c kv).trans rfl
      have hle : ¬ lN (X 0 (T 4 v + j)) ≤ (0 : Int64) := fun z => absurd ((pk_lLE b2 (by decide : (0 : Nat) < 2 ^ 63)).mp z) (by omega)
      have hy0 : ¬ lN (X 0 (T 4 v + j)) = 0 := fun z => absurd ((pk_lEQ b2 (by decide : (0 : Nat) < 2 ^ 63)).mp z) (by omega)
      rw [if_pos (by omega), zrf_ne (by omega)]
      rw [hs]
      simp only [g34_7, g34_7n, g34_8r, g34_8n, g34_11, g34_11n, g34_12, g34_15, g34_16, g34_17, e2, e3, zgn8 hI, zgn9 hI, Option.bind_some, lg_le, hle, ↓reduceIte]
      simp only [g34_20, g34_21, g34_24, g34_24n, g34_25, g34_28, g34_29, g34_29n, g34_30, g34_33, g34_34, g34_37, g34_38, g34_40, g34_40n, g34_41, g34_42, g34_45, g34_46, g34_49, g34_50, g34_51, g34_54, g34_55, g34_56, g34_57, g34_60, g34_60n, g34_61, g34_62, g34_65, g34_67, g34_68, g34_71, g34_71n, g34_72, g34_73, g34_76, g34_77, g34_80, g34_81, g34_84, g34_84n, g34_85, g34_86, g34_89, g34_92, g34_92n, g34_93, g34_94, g34_97, g34_100, g34_100n, g34_101, g34_102, g34_105, g34_108, g34_109, g34_111, g34_112, g34_113, g34_113n, g34_114, g34_118, zgn5 hI, zgn8 hI, zgn9 hI, zpn10 hI, zpn11 hI, zpn12 hI, zpn13 hI, zpn14 hI, zpn15 hI, zgo_ne ne, r8, r9, r10, r11, r12, r13, r14, r15, st117, e2, e3, hw, hwj, hy0, not_false_eq_true, pk_lDiv hb2 b1 b2, lN_mul, lN_add, Option.bind_some]
      have hcell : zNd b M T (T 4 v + j) (vp_updL (vp_updL (vp_updL (vp_updL (vp_updL (vp_updL (D (T 4 v + j)) 5 (lN (X 5 v * X 1 v + X 6 v * ysum (fun j => X 0 v / X 0 (T 4 v + j) * X 1 (T 4 v + j)) j))) 6 (lN (X 6 v * (X 0 v / X 0 (T 4 v + j) * X 1 (T 4 v + j))))) 7 (lN (X 7 v * X 1 v))) 2 (lN (X 2 v))) 3 (lN (X 3 v))) 4 (lN (X 4 v))) = zNd b M T (T 4 v + j) (fun c => lN (X c (T 4 v + j))) := by
        refine zNd_eq fun c hc => ?_
        match c, hc with
        | 0, _ => exact e2
        | 1, _ => exact e3
        | 5, _ => show _ = lN (X 5 (T 4 v + j)); rw [x2]; rfl
        | 6, _ => show _ = lN (X 6 (T 4 v + j)); rw [x3]; rfl
        | 7, _ => show _ = lN (X 7 (T 4 v + j)); rw [x4]; rfl
        | 2, _ => show _ = lN (X 2 (T 4 v + j)); rw [x5]; rfl
        | 3, _ => show _ = lN (X 3 (T 4 v + j)); rw [x6]; rfl
        | 4, _ => show _ = lN (X 4 (T 4 v + j)); rw [x7]; rfl
      rw [hcell, hnx j (by omega)]
      obtain ⟨k', g1, g2, g3⟩ := ih (j + 1) (k.set (b + 1 + (T 4 v + j)) (zNd b M T (T 4 v + j) (fun c => lN (X c (T 4 v + j))))) (.long (lN (X 0 v / X 0 (T 4 v + j) * X 1 (T 4 v + j)))) zj (by omega) ((zset_ne ne).trans kv) (fun i h1 h2 => (zset_ne (by omega)).trans (kp i (by omega) h2))
      refine ⟨k', g1, fun i h1 h2 => ?_, fun a ha => ?_⟩
      · by_cases z : i = j
        · subst z
          rw [g3 _ (by omega)]
          exact zset_in hI
        · exact g2 i (by omega) h2
      · rw [g3 a (by omega)]
        rw [zset_ne (by omega), zset_ne (by omega)]
  have r4 : zget h (b + 1 + v) 3 4 = some (zrf b (T 4 v)) := ((zget_c hv).trans rfl).trans (show some (zrf b (if T 6 v = 0 then 0 else T 4 v)) = _ by rw [if_neg (by omega)])
  rw [e34]
  simp only [g34_0, g34_1, g34_2, g34_3, st6, r4, hw, hwj, Option.bind_some]
  have := loop (T 6 v) 0 h zj zj (by omega) hv (fun i _ h2 => (hp i h2).1)
  rw [if_pos (by omega)] at this
  obtain ⟨k', g1, g2, g3⟩ := this
  exact ⟨k', g1, fun j hj => g2 j (by omega) hj, fun a ha => g3 a (by omega)⟩
end PLACE
