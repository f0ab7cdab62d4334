/-! arrays and cells, and the smallest methods -/
theorem i_nlt {a b : Int32} : ¬ a < b ↔ b ≤ a := by
  rw [Int32.lt_iff_toInt_lt, Int32.le_iff_toInt_le]
  omega
theorem i_nle {a b : Int32} : ¬ a ≤ b ↔ b < a := by
  rw [Int32.lt_iff_toInt_lt, Int32.le_iff_toInt_le]
  omega
def zia (n : Nat) (f : Nat → Int32) : List Value := (List.range n).map fun j => .int (f j)
theorem zia_len (n : Nat) (f : Nat → Int32) : (zia n f).length = n := by simp [zia]
theorem zia_get {n j : Nat} {f : Nat → Int32} (hj : j < n) : (zia n f)[j]? = some (.int (f j)) := by
  unfold zia
  rw [List.getElem?_map, List.getElem?_range hj]
  rfl
theorem zia_set {n j : Nat} {f : Nat → Int32} {x : Int32} (hj : j < n) : (zia n f).set j (.int x) = zia n (upd f j x) := by
  apply List.ext_getElem?
  intro i
  by_cases hi : i < n
  · rw [zia_get hi]
    by_cases e : i = j
    · subst e
      rw [List.getElem?_set_self (by rw [zia_len]; exact hi), pk_us]
    · rw [List.getElem?_set_ne (Ne.symm e), zia_get hi, pk_un e]
  · rw [List.getElem?_eq_none (by rw [List.length_set, zia_len]; omega), List.getElem?_eq_none (by rw [zia_len]; omega)]
theorem zix_nI {n j : Nat} (hj : j < n) (hn : n < 2 ^ 31) : zix (nI j) n = some j := by
  unfold zix
  rw [if_neg (nI_pos (by omega)), nI_clamp (by omega), if_pos hj]
theorem zald_ia {h : ZH} {a t n j : Nat} {f : Nat → Int32} {i : Int32} (hA : h[a]? = some (t, zia n f)) (ht : zarr 10 t = true) (hi : i = nI j) (hj : j < n) (hn : n < 2 ^ 31) : zald 10 h a i = some (.int (f j)) := by
  subst hi
  unfold zald
  rw [hA]
  show cond (zarr 10 t) _ none = _
  rw [ht]
  show (zix (nI j) (zia n f).length).bind _ = _
  rw [zia_len, zix_nI hj hn]
  exact zia_get hj
theorem zast_ia {h : ZH} {a n j : Nat} {f : Nat → Int32} {i x : Int32} (hA : h[a]? = some (10, zia n f)) (hi : i = nI j) (hj : j < n) (hn : n < 2 ^ 31) : zast 10 h a i (.int x) = some (h.set a (10, zia n (upd f j x))) := by
  subst hi
  unfold zast
  rw [hA]
  show (zix (nI j) (zia n f).length).map _ = _
  rw [zia_len, zix_nI hj hn]
  show some (h.set a (10, (zia n f).set j (.int x))) = _
  rw [zia_set hj]
theorem zlen_ia {h : ZH} {a t n : Nat} {f : Nat → Int32} (hA : h[a]? = some (t, zia n f)) (ht : Nat.ble 10 t = true) : zlen h a = some (nI n) := by
  unfold zlen
  rw [hA]
  show cond (Nat.ble 10 t) (some (Int32.ofNat (zia n f).length)) none = _
  rw [ht, zia_len]
  rfl
theorem zget_c {h : ZH} {a ci j : Nat} {fs : List Value} (hA : h[a]? = some (ci, fs)) : zget h a ci j = fs[j]? := by
  unfold zget
  rw [hA]
  show cond (Nat.beq ci ci) _ none = _
  rw [Nat.beq_refl]
  rfl
theorem zput_c {h : ZH} {a ci j : Nat} {fs : List Value} {v : Value} (hA : h[a]? = some (ci, fs)) (h1 : Nat.blt j fs.length = true) (h2 : Nat.blt j (zN ci) = true) (h3 : zfit (zTy ci j) v = true) : zput h a ci j v = some (h.set a (ci, fs.set j v)) := by
  unfold zput
  rw [hA]
  show cond (Nat.beq ci ci && (Nat.blt j fs.length && (Nat.blt j (zN ci) && zfit (zTy ci j) v))) _ none = _
  rw [Nat.beq_refl, h1, h2, h3]
  rfl
theorem zone : zfit .boolean (.int 1) = true := rfl
theorem zzero : zfit .boolean (.int 0) = true := rfl
/-- within(x, lo, hi) -/
theorem c_within (d : Nat) (x lo hi : Int32) (h : ZH) : zcl (d + 1) 74 [.int x, .int lo, .int hi] h = some (some (.int (if lo ≤ x ∧ x ≤ hi then 1 else 0)), h) := by
  rw [e74]
  simp only [g74_0, g74_1, g74_2]
  by_cases h1 : x < lo
  · rw [if_pos h1, g74_14, g74_15 zzero, if_neg (fun q => absurd h1 (i_nlt.mpr q.1))]
  · rw [if_neg h1]
    simp only [g74_5, g74_6, g74_7]
    by_cases h2 : hi < x
    · rw [if_pos h2, g74_14, g74_15 zzero, if_neg (fun q => absurd h2 (i_nlt.mpr q.2))]
    · rw [if_neg h2, g74_10, g74_11, g74_15 zone, if_pos ⟨i_nlt.mp h1, i_nlt.mp h2⟩]
/-- at(row, i) -/
theorem c_at (d : Nat) {h : ZH} {a t n : Nat} {f : Nat → Int32} (i : Int32) (hA : h[a]? = some (t, zia n f)) (ht : t = 10 ∨ t = 20) (hn : n < 2 ^ 31) : zcl (d + 1) 75 [.ref a, .int i] h = some (some (.int (if 0 ≤ i ∧ i < nI n then f i.toNatClampNeg else 0)), h) := by
  have hb : Nat.ble 10 t = true := by rcases ht with rfl | rfl <;> rfl
  have hz : zarr 10 t = true := by rcases ht with rfl | rfl <;> rfl
  rw [e75]
  simp only [g75_0, g75_1]
  by_cases h1 : i < 0
  · rw [if_pos h1, g75_16, g75_17, if_neg (fun q => absurd h1 (i_nlt.mpr q.1))]
  · rw [if_neg h1]
    simp only [g75_4, g75_5, g75_6, zlen_ia hA hb, Option.bind_some, g75_7]
    by_cases h2 : nI n ≤ i
    · rw [if_pos h2, g75_16, g75_17, if_neg (fun q => absurd q.2 (i_nlt.mpr h2))]
    · rw [if_neg h2]
      rcases pk_ix i hn with q | q | ⟨j, hj, rfl⟩
      · exact absurd q h1
      · exact absurd q h2
      · rw [if_pos ⟨i_nlt.mp h1, i_nle.mp h2⟩]
        simp only [g75_10, g75_11, g75_12, zald_ia hA hz rfl hj hn, Option.bind_some, g75_13, g75_17, nI_clamp (show j < 2 ^ 31 by omega)]
/-- put(row, i, x) -/
theorem c_put (d : Nat) {h : ZH} {a n : Nat} {f : Nat → Int32} (i x : Int32) (hA : h[a]? = some (10, zia n f)) (hn : n < 2 ^ 31) : zcl (d + 1) 76 [.ref a, .int i, .int x] h = some (none, if 0 ≤ i ∧ i < nI n then h.set a (10, zia n (upd f i.toNatClampNeg x)) else h) := by
  rw [e76]
  simp only [g76_0, g76_1]
  by_cases h1 : i < 0
  · rw [if_pos h1, g76_14, if_neg (fun q => absurd h1 (i_nlt.mpr q.1))]
  · rw [if_neg h1]
    simp only [g76_4, g76_5, g76_6, zlen_ia hA rfl, Option.bind_some, g76_7]
    by_cases h2 : nI n ≤ i
    · rw [if_pos h2, g76_14, if_neg (fun q => absurd q.2 (i_nlt.mpr h2))]
    · rw [if_neg h2]
      rcases pk_ix i hn with q | q | ⟨j, hj, rfl⟩
      · exact absurd q h1
      · exact absurd q h2
      · rw [if_pos ⟨i_nlt.mp h1, i_nle.mp h2⟩]
        simp only [g76_10, g76_11, g76_12, g76_13, zast_ia hA rfl hj hn, Option.bind_some, g76_14, nI_clamp (show j < 2 ^ 31 by omega)]
