/-! WHAT ISN'T LOOKED AT: a run over a heap with unknown ints (zu) and blank cells (tag 9) is a run over every heap that fills them -/
abbrev zu : Value := .retAddr 1
def zvr (v w : Value) : Prop := v = w ∨ (v = zu ∧ zisI w = true)
def zlr : List Value → List Value → Prop
  | [], [] => True
  | a :: l, b :: k => zvr a b ∧ zlr l k
  | _, _ => False
def zcr (c e : ZC) : Prop := c.1 = 9 ∨ (c.1 = e.1 ∧ zlr c.2 e.2)
def zhr : ZH → ZH → Prop
  | [], [] => True
  | a :: l, b :: k => zcr a b ∧ zhr l k
  | _, _ => False
theorem zvr_rf (v : Value) : zvr v v := Or.inl rfl
theorem zlr_rf : ∀ l, zlr l l
  | [] => trivial
  | a :: l => ⟨zvr_rf a, zlr_rf l⟩
theorem zvr_int {x : Int32} {w : Value} (h : zvr (.int x) w) : w = .int x := by
  rcases h with h | ⟨h, -⟩
  · exact h.symm
  · cases h
theorem zvr_long {x : Int64} {w : Value} (h : zvr (.long x) w) : w = .long x := by
  rcases h with h | ⟨h, -⟩
  · exact h.symm
  · cases h
theorem zvr_ref {x : Nat} {w : Value} (h : zvr (.ref x) w) : w = .ref x := by
  rcases h with h | ⟨h, -⟩
  · exact h.symm
  · cases h
theorem zvr_null {w : Value} (h : zvr .null w) : w = .null := by
  rcases h with h | ⟨h, -⟩
  · exact h.symm
  · cases h
theorem zvr_cat {v w : Value} (h : zvr v w) : w.category = v.category := by
  rcases h with h | ⟨rfl, h⟩
  · rw [h]
  · obtain ⟨x, rfl⟩ := zisI_of h
    rfl
theorem zvr_R {v w : Value} (h : zvr v w) (hv : zisR v = true) : w = v := by
  rcases h with h | ⟨rfl, -⟩
  · exact h.symm
  · cases hv
theorem zvr_fit {v w : Value} {ty : FieldType} (h : zvr v w) (hv : zfit ty v = true) : w = v := by
  rcases h with h | ⟨rfl, -⟩
  · exact h.symm
  · cases ty <;> cases hv
theorem zlr_nil {k : List Value} (h : zlr [] k) : k = [] := by
  cases k with
  | nil => rfl
  | cons => cases h
theorem zlr_cons {a : Value} {l k : List Value} (h : zlr (a :: l) k) : ∃ b k', k = b :: k' ∧ zvr a b ∧ zlr l k' := by
  cases k with
  | nil => cases h
  | cons b k' => exact ⟨b, k', rfl, h.1, h.2⟩
theorem zlr_len : ∀ {l k : List Value}, zlr l k → k.length = l.length
  | [], k, h => by rw [zlr_nil h]
  | a :: l, k, h => by
    obtain ⟨b, k', rfl, -, h2⟩ := zlr_cons h
    simp [zlr_len h2]
theorem zlr_get : ∀ {l k : List Value} {i : Nat} {v : Value}, zlr l k → l[i]? = some v → ∃ w, k[i]? = some w ∧ zvr v w
  | [], k, i, v, h, hv => by simp at hv
  | a :: l, k, 0, v, h, hv => by
    obtain ⟨b, k', rfl, h1, -⟩ := zlr_cons h
    simp at hv
    subst hv
    exact ⟨b, rfl, h1⟩
  | a :: l, k, i + 1, v, h, hv => by
    obtain ⟨b, k', rfl, -, h2⟩ := zlr_cons h
    simp only [List.getElem?_cons_succ] at hv ⊢
    exact zlr_get h2 hv
theorem zlr_no : ∀ {l k : List Value} {i : Nat}, zlr l k → l[i]? = none → k[i]? = none := by
  intro l k i h hn
  rw [List.getElem?_eq_none_iff] at hn ⊢
  rw [zlr_len h]
  exact hn
theorem zlr_set : ∀ {l k : List Value} {i : Nat} {v w : Value}, zlr l k → zvr v w → zlr (l.set i v) (k.set i w)
  | [], k, i, v, w, h, hv => by rw [zlr_nil h]; trivial
  | a :: l, k, 0, v, w, h, hv => by
    obtain ⟨b, k', rfl, h1, h2⟩ := zlr_cons h
    exact ⟨hv, h2⟩
  | a :: l, k, i + 1, v, w, h, hv => by
    obtain ⟨b, k', rfl, h1, h2⟩ := zlr_cons h
    exact ⟨h1, zlr_set h2 hv⟩
theorem zlr_app : ∀ {l k l2 k2 : List Value}, zlr l k → zlr l2 k2 → zlr (l ++ l2) (k ++ k2)
  | [], k, l2, k2, h, h2 => by rw [zlr_nil h]; exact h2
  | a :: l, k, l2, k2, h, h2 => by
    obtain ⟨b, k', rfl, h1, h3⟩ := zlr_cons h
    exact ⟨h1, zlr_app h3 h2⟩
theorem zlr_take : ∀ {l k : List Value} (n : Nat), zlr l k → zlr (l.take n) (k.take n)
  | l, k, 0, h => by simp [zlr]
  | [], k, n + 1, h => by rw [zlr_nil h]; trivial
  | a :: l, k, n + 1, h => by
    obtain ⟨b, k', rfl, h1, h3⟩ := zlr_cons h
    exact ⟨h1, zlr_take n h3⟩
theorem zlr_drop : ∀ {l k : List Value} (n : Nat), zlr l k → zlr (l.drop n) (k.drop n)
  | l, k, 0, h => h
  | [], k, n + 1, h => by rw [zlr_nil h]; trivial
  | a :: l, k, n + 1, h => by
    obtain ⟨b, k', rfl, h1, h3⟩ := zlr_cons h
    exact zlr_drop n h3
theorem zlr_rev : ∀ {l k : List Value}, zlr l k → zlr l.reverse k.reverse
  | [], k, h => by rw [zlr_nil h]; trivial
  | a :: l, k, h => by
    obtain ⟨b, k', rfl, h1, h3⟩ := zlr_cons h
    rw [List.reverse_cons, List.reverse_cons]
    exact zlr_app (zlr_rev h3) ⟨h1, trivial⟩
theorem zlr_cs : ∀ {l k : List Value}, zlr l k → zcs k = zcs l
  | [], k, h => by rw [zlr_nil h]
  | a :: l, k, h => by
    obtain ⟨b, k', rfl, h1, h3⟩ := zlr_cons h
    show b.category + zcs k' = a.category + zcs l
    rw [zvr_cat h1, zlr_cs h3]
theorem zlr_rep (n : Nat) (v : Value) : zlr (List.replicate n v) (List.replicate n v) := zlr_rf _
theorem zhr_nil {k : ZH} (h : zhr [] k) : k = [] := by
  cases k with
  | nil => rfl
  | cons => cases h
theorem zhr_cons {a : ZC} {l k : ZH} (h : zhr (a :: l) k) : ∃ b k', k = b :: k' ∧ zcr a b ∧ zhr l k' := by
  cases k with
  | nil => cases h
  | cons b k' => exact ⟨b, k', rfl, h.1, h.2⟩
theorem zhr_len : ∀ {l k : ZH}, zhr l k → k.length = l.length
  | [], k, h => by rw [zhr_nil h]
  | a :: l, k, h => by
    obtain ⟨b, k', rfl, -, h2⟩ := zhr_cons h
    simp [zhr_len h2]
theorem zhr_get : ∀ {l k : ZH} {i : Nat} {c : ZC}, zhr l k → l[i]? = some c → ∃ e, k[i]? = some e ∧ zcr c e
  | [], k, i, v, h, hv => by simp at hv
  | a :: l, k, 0, v, h, hv => by
    obtain ⟨b, k', rfl, h1, -⟩ := zhr_cons h
    simp at hv
    subst hv
    exact ⟨b, rfl, h1⟩
  | a :: l, k, i + 1, v, h, hv => by
    obtain ⟨b, k', rfl, -, h2⟩ := zhr_cons h
    simp only [List.getElem?_cons_succ] at hv ⊢
    exact zhr_get h2 hv
theorem zhr_set : ∀ {l k : ZH} {i : Nat} {v w : ZC}, zhr l k → zcr v w → zhr (l.set i v) (k.set i w)
  | [], k, i, v, w, h, hv => by rw [zhr_nil h]; trivial
  | a :: l, k, 0, v, w, h, hv => by
    obtain ⟨b, k', rfl, h1, h2⟩ := zhr_cons h
    exact ⟨hv, h2⟩
  | a :: l, k, i + 1, v, w, h, hv => by
    obtain ⟨b, k', rfl, h1, h2⟩ := zhr_cons h
    exact ⟨h1, zhr_set h2 hv⟩
theorem zhr_app : ∀ {l k l2 k2 : ZH}, zhr l k → zhr l2 k2 → zhr (l ++ l2) (k ++ k2)
  | [], k, l2, k2, h, h2 => by rw [zhr_nil h]; exact h2
  | a :: l, k, l2, k2, h, h2 => by
    obtain ⟨b, k', rfl, h1, h3⟩ := zhr_cons h
    exact ⟨h1, zhr_app h3 h2⟩
theorem zcr_rf (c : ZC) : zcr c c := Or.inr ⟨rfl, zlr_rf _⟩
/-- a cell that the run has, in the other heap -/
theorem zhr_cell {h k : ZH} {a t : Nat} {fs : List Value} (hr : zhr h k) (ha : h[a]? = some (t, fs)) (ht : ¬ t = 9) : ∃ gs, k[a]? = some (t, gs) ∧ zlr fs gs := by
  obtain ⟨⟨t', gs⟩, h1, h2⟩ := zhr_get hr ha
  rcases h2 with h2 | ⟨h2, h3⟩
  · exact absurd h2 ht
  · dsimp only at h2
    subst h2
    exact ⟨gs, h1, h3⟩
theorem zs_get {h k : ZH} {a ci j : Nat} {v : Value} (hr : zhr h k) (hc : ¬ ci = 9) (hg : zget h a ci j = some v) : ∃ w, zget k a ci j = some w ∧ zvr v w := by
  unfold zget at hg
  cases ha : h[a]? with
  | none => rw [ha] at hg; cases hg
  | some x =>
    obtain ⟨t, fs⟩ := x
    rw [ha] at hg
    obtain ⟨h1, h2⟩ := zcnd hg
    obtain rfl := Nat.eq_of_beq_eq_true h1
    obtain ⟨gs, g1, g2⟩ := zhr_cell hr ha hc
    obtain ⟨w, w1, w2⟩ := zlr_get g2 h2
    refine ⟨w, ?_, w2⟩
    unfold zget
    rw [g1]
    show cond (Nat.beq t t) gs[j]? none = _
    rw [Nat.beq_refl]
    exact w1
theorem zs_put {h k h1 : ZH} {a ci j : Nat} {v w : Value} (hr : zhr h k) (hc : ¬ ci = 9) (hv : zvr v w) (hg : zput h a ci j v = some h1) : ∃ k1, zput k a ci j w = some k1 ∧ zhr h1 k1 ∧ ∀ i : Nat, (∃ c, h[i]? = some c ∧ c.1 = 9) → k1[i]? = k[i]? ∧ ∃ c, h1[i]? = some c ∧ c.1 = 9 := by
  unfold zput at hg
  cases ha : h[a]? with
  | none => rw [ha] at hg; cases hg
  | some x =>
    obtain ⟨t, fs⟩ := x
    rw [ha] at hg
    obtain ⟨q1, q2⟩ := zcnd hg
    simp only [Bool.and_eq_true] at q1
    obtain ⟨r1, r2, r3, r4⟩ := q1
    obtain rfl := Nat.eq_of_beq_eq_true r1
    cases q2
    obtain ⟨gs, g1, g2⟩ := zhr_cell hr ha hc
    have e := zvr_fit hv r4
    subst e
    refine ⟨k.set a (t, gs.set j w), ?_, zhr_set hr (Or.inr ⟨rfl, zlr_set g2 (zvr_rf w)⟩), fun i hi => ?_⟩
    · unfold zput
      rw [g1]
      show cond (Nat.beq t t && (Nat.blt j gs.length && (Nat.blt j (zN t) && zfit (zTy t j) w))) _ none = _
      rw [Nat.beq_refl, zlr_len g2, r2, r3, r4]
      rfl
    · obtain ⟨c, c1, c2⟩ := hi
      have hne : a ≠ i := by
        intro q
        subst q
        rw [ha] at c1
        cases c1
        exact hc c2
      rw [List.getElem?_set_ne hne, List.getElem?_set_ne hne]
      exact ⟨rfl, c, c1, c2⟩
theorem zs_ald {t : Nat} {h k : ZH} {a : Nat} {i : Int32} {v : Value} (ht : t = 10 ∨ t = 11 ∨ t = 12) (hr : zhr h k) (hg : zald t h a i = some v) : ∃ w, zald t k a i = some w ∧ zvr v w := by
  obtain ⟨cc, vs, e1, e2, e3, e4, e5⟩ := zald_ok hg
  have h9 : ¬ cc = 9 := by
    intro q
    subst q
    rcases ht with rfl | rfl | rfl <;> cases e2
  obtain ⟨gs, g1, g2⟩ := zhr_cell hr e1 h9
  obtain ⟨w, w1, w2⟩ := zlr_get g2 e3
  refine ⟨w, ?_, w2⟩
  unfold zald
  rw [g1]
  show cond (zarr t cc) _ none = _
  rw [e2]
  show (zix i gs.length).bind _ = _
  have : zix i gs.length = some i.toNatClampNeg := by
    unfold zix
    rw [zlr_len g2, if_neg (fun q => e5 (Or.inl q)), if_pos e4]
  rw [this]
  exact w1
theorem zs_ast {t : Nat} {h k h1 : ZH} {a : Nat} {i : Int32} {v w : Value} (ht : ¬ t = 9) (hr : zhr h k) (hv : zvr v w) (hg : zast t h a i v = some h1) : ∃ k1, zast t k a i w = some k1 ∧ zhr h1 k1 ∧ ∀ i : Nat, (∃ c, h[i]? = some c ∧ c.1 = 9) → k1[i]? = k[i]? ∧ ∃ c, h1[i]? = some c ∧ c.1 = 9 := by
  obtain ⟨vs, e1, e2, e3, e4⟩ := zast_ok hg
  subst e2
  obtain ⟨gs, g1, g2⟩ := zhr_cell hr e1 ht
  refine ⟨k.set a (t, gs.set i.toNatClampNeg w), ?_, zhr_set hr (Or.inr ⟨rfl, zlr_set g2 hv⟩), fun i hi => ?_⟩
  · unfold zast
    rw [g1]
    show cond (Nat.beq t t) _ none = _
    rw [Nat.beq_refl]
    have : zix i gs.length = some i.toNatClampNeg := by
      unfold zix
      rw [zlr_len g2, if_neg (fun q => e4 (Or.inl q)), if_pos e3]
    rw [this]
    rfl
  · obtain ⟨c, c1, c2⟩ := hi
    have hne : a ≠ i := by
      intro q
      subst q
      rw [e1] at c1
      cases c1
      exact ht c2
    rw [List.getElem?_set_ne hne, List.getElem?_set_ne hne]
    exact ⟨rfl, c, c1, c2⟩
theorem zs_at {h k : ZH} {b t : Nat} (hr : zhr h k) (hg : zat h b = some t) : zat k b = some t := by
  unfold zat at hg
  split at hg
  · rename_i fs hb
    obtain ⟨gs, g1, -⟩ := zhr_cell hr hb (by decide)
    unfold zat
    rw [g1]
    exact hg
  · rename_i fs hb
    obtain ⟨gs, g1, -⟩ := zhr_cell hr hb (by decide)
    unfold zat
    rw [g1]
    exact hg
  · cases hg
theorem zs_len {h k : ZH} {a : Nat} {n : Int32} (hr : zhr h k) (hg : zlen h a = some n) : zlen k a = some n := by
  unfold zlen at hg
  cases ha : h[a]? with
  | none => rw [ha] at hg; cases hg
  | some x =>
    obtain ⟨t, fs⟩ := x
    rw [ha] at hg
    obtain ⟨q1, q2⟩ := zcnd hg
    have := Nat.le_of_ble_eq_true q1
    obtain ⟨gs, g1, g2⟩ := zhr_cell hr ha (by omega)
    unfold zlen
    rw [g1]
    show cond (Nat.ble 10 t) (some (Int32.ofNat gs.length)) none = _
    rw [q1, zlr_len g2]
    exact q2
theorem zs_load {L K : List Value} {k : Nat} {f : Value → Bool} {v : Value} (hf : f zu = false) (hr : zlr L K) (hg : zload L k f = some v) : zload K k f = some v := by
  unfold zload at hg
  cases hv : L[k]? with
  | none => rw [hv] at hg; cases hg
  | some w =>
    rw [hv] at hg
    obtain ⟨h1, h2⟩ := zcnd hg
    cases h2
    obtain ⟨w, w1, w2⟩ := zlr_get hr hv
    rcases w2 with w2 | ⟨w2, -⟩
    · subst w2
      unfold zload
      rw [w1]
      show cond (f v) _ none = _
      rw [h1]
      rfl
    · subst w2
      rw [hf] at h1
      cases h1
theorem zs_longAt {L K : List Value} (hr : zlr L K) : ∀ k, zlongAt K k = zlongAt L k
  | 0 => rfl
  | k + 1 => by
    show (match K[k]? with | some v => decide (v.category = 2) | none => false) = (match L[k]? with | some v => decide (v.category = 2) | none => false)
    cases hv : L[k]? with
    | none => rw [zlr_no hr hv]
    | some v =>
      obtain ⟨w, w1, w2⟩ := zlr_get hr hv
      rw [w1]
      show decide (w.category = 2) = decide (v.category = 2)
      rw [zvr_cat w2]
theorem zs_st {L K L1 : List Value} {k : Nat} {v w : Value} (hr : zlr L K) (hv : zvr v w) (hg : zst v k L = some L1) : ∃ K1, zst w k K = some K1 ∧ zlr L1 K1 := by
  unfold zst at hg ⊢
  rw [zs_longAt hr, zvr_cat hv, zlr_len hr]
  cases h1 : zlongAt L k with
  | true => rw [h1] at hg; cases hg
  | false =>
    rw [h1] at hg
    cases h2 : decide (v.category = 2) with
    | true =>
      rw [h2] at hg
      cases h3 : Nat.blt (k + 1) L.length with
      | false => rw [h3] at hg; cases hg
      | true =>
        rw [h3] at hg
        cases hg
        exact ⟨_, rfl, zlr_set (zlr_set hr hv) (zvr_rf _)⟩
    | false =>
      rw [h2] at hg
      cases h3 : Nat.blt k L.length with
      | false => rw [h3] at hg; cases hg
      | true =>
        rw [h3] at hg
        cases hg
        exact ⟨_, rfl, zlr_set hr hv⟩
