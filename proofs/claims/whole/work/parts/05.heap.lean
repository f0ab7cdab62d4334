/-! THE MACHINE'S HEAP AND THE ABSTRACT ONE -/
def zv (ad : Nat → Nat) : Value → Value
  | .ref k => .ref (ad k)
  | v => v
def zi : Value → Int32
  | .int x => x
  | _ => 0
def zl : Value → Int64
  | .long x => x
  | _ => 0
def zr (ad : Nat → Nat) : Value → Option Nat
  | .ref k => some (ad k)
  | _ => none
def zE (dA : Nat → ClassId) (ad : Nat → Nat) (c : ZC) : va_E := match c.1 with
  | 10 => .inl (dA 0, c.2.length, .inl (fun j => zi (c.2.getD j .null)))
  | 11 => .inl (dA 1, c.2.length, .inr (.inl (fun j => zl (c.2.getD j .null))))
  | 12 => .inl (dA 2, c.2.length, .inr (.inr (.inr (.inr (fun j => zr ad (c.2.getD j .null))))))
  | 13 => .inl (dA 3, c.2.length, .inr (.inr (.inr (.inr (fun j => zr ad (c.2.getD j .null))))))
  | t => .inr (t, c.2.map (zv ad))
theorem zE_obj {dA : Nat → ClassId} {ad : Nat → Nat} {ci : Nat} {fs : List Value} (h : ci < 8) : zE dA ad (ci, fs) = .inr (ci, fs.map (zv ad)) := by
  match ci, h with
  | 0, _ => rfl
  | 1, _ => rfl
  | 2, _ => rfl
  | 3, _ => rfl
  | 4, _ => rfl
  | 5, _ => rfl
  | 6, _ => rfl
  | 7, _ => rfl
  | n + 8, h => exact absurd h (by omega)
def zw (dA : Nat → ClassId) (ad : Nat → Nat) (h : ZH) : va_W := (h.drop 6).mapIdx fun k c => (ad (k + 6), zE dA ad c)
theorem zw_get (dA : Nat → ClassId) (ad : Nat → Nat) (h : ZH) (k : Nat) : (zw dA ad h)[k]? = (h[k + 6]?).map fun c => (ad (k + 6), zE dA ad c) := by
  unfold zw
  rw [List.getElem?_mapIdx, List.getElem?_drop, Nat.add_comm]
theorem zw_at {dA : Nat → ClassId} {ad : Nat → Nat} {h : ZH} {k : Nat} {c : ZC} (hk : h[k]? = some c) (h6 : 6 ≤ k) : (zw dA ad h)[k - 6]? = some (ad k, zE dA ad c) := by
  rw [zw_get, Nat.sub_add_cancel h6, hk]
  rfl
def zok (c : ZC) : Prop := ((c.1 = 10 ∨ c.1 = 20) ∧ ∀ v ∈ c.2, zisI v = true) ∨ (c.1 = 11 ∧ ∀ v ∈ c.2, zisL v = true) ∨ ((c.1 = 12 ∨ c.1 = 13) ∧ ∀ v ∈ c.2, zisR v = true) ∨ (c.1 < 8 ∧ c.2.length = zN c.1)
abbrev zA (base : Nat) : Nat → Prop := fun q => base ≤ q
def zsl : ZH → Nat
  | [] => 0
  | c :: r => c.2.length + zsl r
theorem zsl_app (a b : ZH) : zsl (a ++ b) = zsl a + zsl b := by
  induction a with
  | nil => simp [zsl]
  | cons c r ih => simp only [List.cons_append, zsl, ih]; omega
theorem zsl_set : ∀ {h : ZH} {k : Nat} {c c' : ZC}, h[k]? = some c → c'.2.length = c.2.length → zsl (h.set k c') = zsl h
  | [], k, c, c', hk, _ => by simp at hk
  | x :: r, 0, c, c', hk, hl => by
    simp at hk
    subst hk
    simp [zsl, hl]
  | x :: r, k + 1, c, c', hk, hl => by
    simp only [List.getElem?_cons_succ] at hk
    simp only [List.set_cons_succ, zsl, zsl_set hk hl]
abbrev ztys (dA : Nat → ClassId) : List (ClassId × FieldType) := [(dA 0, .int), (dA 1, .long), (dA 2, .object RX0), (dA 3, .object RX5)]
/-- what holds of a heap within a method that began at s -/
def zW (dC : Nat → ClassId) (dI : Nat → Nat → Nat) (dA : Nat → ClassId) (ad : Nat → Nat) (base : Nat) (s : State) (h : ZH) (H : Heap) (locs : List Loc) : Prop :=
  (6 ≤ h.length ∧ H.size = base + (h.length - 6) ∧ (∀ (k : Nat) (c : ZC), h[k]? = some c → zok c ∧ (c.1 = 20 ↔ k < 6))) ∧ va_P (dC, dI) vwCl (zw dA ad h) H ∧ va_S (zA base) s.heap H locs ∧
  ∀ (k : Nat) (c : ZC), k < 6 → h[k]? = some c → va_T .int (ad k) c.2.length (fun j => c.2.getD j .null) (zA base) s s.heap
/-- what holds of a method's start -/
def zK (dC : Nat → ClassId) (dI : Nat → Nat → Nat) (dA : Nat → ClassId) (ad : Nat → Nat) (base : Nat) (s : State) : Prop :=
  base ≤ s.heap.size ∧ va_K (dC, dI) vwCl (ztys dA) s ∧ (∀ w ∈ zNw, va_Nw w s) ∧ (va_AO RX0 s ∧ va_AO RX5 s) ∧ ∀ k : Nat, k < 5 → va_Z (zsC k) (zsN k) "[I" (.ref (ad k)) (zA base) s s.heap
def zAd (ad : Nat → Nat) (base : Nat) : Prop := ∀ k : Nat, 6 ≤ k → ad k = base + (k - 6)
section ZW
variable {dC : Nat → ClassId} {dI : Nat → Nat → Nat} {dA : Nat → ClassId} {ad : Nat → Nat} {base : Nat} {s : State} {h : ZH} {H : Heap} {locs : List Loc}
theorem zW_set (hAd : zAd ad base) (hW : zW dC dI dA ad base s h H locs) {k : Nat} {c c' : ZC} (hk : h[k]? = some c) (h6 : 6 ≤ k) (hok : zok c') (ht : ¬ c'.1 = 20) {H' : Heap} (hat : va_at (dC, dI) vwCl (ad k, zE dA ad c') H') (hz : H'.size = H.size) (ho : ∀ q : Nat, q ≠ ad k → H'[q]? = H[q]?) (i : Nat) (hb : base ≤ s.heap.size) :
    zW dC dI dA ad base s (h.set k c') H' (locs ++ [⟨ad k, i⟩]) := by
  obtain ⟨⟨w1, w2, w3⟩, wP, wS, wT⟩ := hW
  have hkl : k < h.length := (List.getElem?_eq_some_iff.mp hk).1
  have hak : ad k = base + (k - 6) := hAd k h6
  have hset : ∀ (j : Nat) (x : ZC), (h.set k c')[j]? = some x → (j = k ∧ x = c') ∨ (j ≠ k ∧ h[j]? = some x) := by
    intro j x hx
    by_cases hj : j = k
    · subst hj
      rw [List.getElem?_set_self hkl] at hx
      exact Or.inl ⟨rfl, (Option.some.inj hx).symm⟩
    · rw [List.getElem?_set_ne (Ne.symm hj)] at hx
      exact Or.inr ⟨hj, hx⟩
  refine ⟨⟨by rw [List.length_set]; exact w1, by rw [List.length_set, hz]; exact w2, fun j x hx => ?_⟩, fun j q hq => ?_, ⟨by rw [hz]; exact wS.1, fun q h1 h2 => ?_, fun q hq => ?_⟩, fun j x hj hx => ?_⟩
  · rcases hset j x hx with ⟨e1, e2⟩ | ⟨e1, e2⟩
    · subst e1; subst e2
      exact ⟨hok, ⟨fun e => absurd e ht, fun e => absurd e (by omega)⟩⟩
    · exact w3 j x e2
  · rw [zw_get] at hq
    cases hx : (h.set k c')[j + 6]? with
    | none => rw [hx] at hq; cases hq
    | some x =>
      rw [hx] at hq
      cases hq
      rcases hset _ x hx with ⟨e1, e2⟩ | ⟨e1, e2⟩
      · subst e2
        rw [e1]
        exact hat
      · have h0 := wP j (ad (j + 6), zE dA ad x) (by rw [zw_get, e2]; rfl)
        refine h0.kept (ho _ ?_)
        show ad (j + 6) ≠ ad k
        rw [hAd (j + 6) (by omega), hak]
        omega
  · have : q ≠ ad k := fun e => h2 (by show base ≤ q; omega)
    rw [ho q this]
    exact wS.2.1 q h1 h2
  · rcases List.mem_append.mp hq with h1 | h1
    · exact wS.2.2 q h1
    · rw [List.mem_singleton.mp h1]
      show base ≤ ad k
      omega
  · rcases hset j x hx with ⟨e1, e2⟩ | ⟨e1, e2⟩
    · omega
    · exact wT j x hj e2
theorem zW_push (hAd : zAd ad base) (hW : zW dC dI dA ad base s h H locs) {c' : ZC} (hok : zok c') (ht : ¬ c'.1 = 20) {H' : Heap} (hat : va_at (dC, dI) vwCl (ad h.length, zE dA ad c') H') (hz : H'.size = H.size + 1) (ho : ∀ q : Nat, q < H.size → H'[q]? = H[q]?) :
    zW dC dI dA ad base s (h ++ [c']) H' locs := by
  obtain ⟨⟨w1, w2, w3⟩, wP, wS, wT⟩ := hW
  have hset : ∀ (j : Nat) (x : ZC), (h ++ [c'])[j]? = some x → (j = h.length ∧ x = c') ∨ (j < h.length ∧ h[j]? = some x) := by
    intro j x hx
    by_cases hj : j < h.length
    · rw [List.getElem?_append_left hj] at hx
      exact Or.inr ⟨hj, hx⟩
    · rw [List.getElem?_append_right (by omega)] at hx
      have hz : j - h.length < 1 := (List.getElem?_eq_some_iff.mp hx).1
      have e0 : j - h.length = 0 := by omega
      rw [e0] at hx
      exact Or.inl ⟨by omega, (Option.some.inj hx).symm⟩
  refine ⟨⟨by simp; omega, by simp; omega, fun j x hx => ?_⟩, fun j q hq => ?_, ⟨by rw [hz]; exact Nat.le_trans wS.1 (Nat.le_succ _), fun q h1 h2 => ?_, wS.2.2⟩, fun j x hj hx => ?_⟩
  · rcases hset j x hx with ⟨e1, e2⟩ | ⟨e1, e2⟩
    · subst e1; subst e2
      exact ⟨hok, ⟨fun e => absurd e ht, fun e => absurd e (by omega)⟩⟩
    · exact w3 j x e2
  · rw [zw_get] at hq
    cases hx : (h ++ [c'])[j + 6]? with
    | none => rw [hx] at hq; cases hq
    | some x =>
      rw [hx] at hq
      cases hq
      rcases hset _ x hx with ⟨e1, e2⟩ | ⟨e1, e2⟩
      · subst e2
        rw [e1]
        exact hat
      · have h0 := wP j (ad (j + 6), zE dA ad x) (by rw [zw_get, e2]; rfl)
        refine h0.kept (ho _ ?_)
        show ad (j + 6) < H.size
        rw [hAd (j + 6) (by omega)]
        omega
  · rw [ho q (Nat.lt_of_lt_of_le h1 wS.1)]
    exact wS.2.1 q h1 h2
  · rcases hset j x hx with ⟨e1, e2⟩ | ⟨e1, e2⟩
    · omega
    · exact wT j x hj e2
theorem zW_D (hAd : zAd ad base) (h : ZH) : va_D (zA base) (zw dA ad h) := by
  refine ⟨fun i j p q hp hq e => ?_, fun k q hq => ?_⟩
  · rw [zw_get] at hp hq
    cases hx : h[i + 6]? with
    | none => rw [hx] at hp; cases hp
    | some x =>
      cases hy : h[j + 6]? with
      | none => rw [hy] at hq; cases hq
      | some y =>
        rw [hx] at hp
        rw [hy] at hq
        cases hp
        cases hq
        have e1 : ad (i + 6) = ad (j + 6) := e
        rw [hAd (i + 6) (by omega), hAd (j + 6) (by omega)] at e1
        omega
  · rw [zw_get] at hq
    cases hx : h[k + 6]? with
    | none => rw [hx] at hq; cases hq
    | some x =>
      rw [hx] at hq
      cases hq
      show base ≤ ad (k + 6)
      rw [hAd (k + 6) (by omega)]
      omega
/-- a cell that isn't one of the first six -/
theorem zW_6 (hW : zW dC dI dA ad base s h H locs) {k : Nat} {c : ZC} (hk : h[k]? = some c) (ht : ¬ c.1 = 20) : 6 ≤ k := by
  have := (hW.1.2.2 k c hk).2
  rcases Nat.lt_or_ge k 6 with q | q
  · exact absurd (this.mpr q) ht
  · exact q
end ZW
/-! the locals -/
def zLo (ad : Nat → Nat) (ls : Array Slot) (L : List Value) : Prop := ls.size = L.length ∧ lv_wf ls ∧ ∀ (k : Nat) (v : Value), L[k]? = some v → ¬ v = zj → ls[k]? = some (.val (zv ad v))
def zpairs (ad : Nat → Nat) (L : List Value) : List (Nat × Value) := (List.range L.length).filterMap fun k => match L[k]? with
  | some v => if v = zj then none else some (k, zv ad v)
  | none => none
theorem zpairs_mem {ad : Nat → Nat} {L : List Value} {q : Nat × Value} : q ∈ zpairs ad L ↔ ∃ v, L[q.1]? = some v ∧ ¬ v = zj ∧ q.2 = zv ad v := by
  unfold zpairs
  rw [List.mem_filterMap]
  constructor
  · rintro ⟨k, hk, h⟩
    cases hv : L[k]? with
    | none => rw [hv] at h; cases h
    | some v =>
      rw [hv] at h
      dsimp only at h
      by_cases hj : v = zj
      · rw [if_pos hj] at h; cases h
      · rw [if_neg hj] at h
        cases h
        exact ⟨v, hv, hj, rfl⟩
  · rintro ⟨v, h1, h2, h3⟩
    refine ⟨q.1, List.mem_range.mpr (List.getElem?_eq_some_iff.mp h1).1, ?_⟩
    rw [h1]
    dsimp only
    rw [if_neg h2, ← h3]
theorem zLo_has {ad : Nat → Nat} {ls : Array Slot} {L : List Value} (h : zLo ad ls L) : lv_has ls L.length (zpairs ad L) := by
  refine ⟨h.1, h.2.1, fun q hq => ?_⟩
  obtain ⟨v, h1, h2, h3⟩ := zpairs_mem.mp hq
  rw [h3]
  exact h.2.2 q.1 v h1 h2
theorem zv_cat (ad : Nat → Nat) (v : Value) : (zv ad v).category = v.category := by cases v <;> rfl
theorem zlongAt_no {L : List Value} {k j : Nat} {v : Value} (h : zlongAt L k = false) (hj : j + 1 = k) (hv : L[j]? = some v) : ¬ v.category = 2 := by
  subst hj
  simp only [zlongAt, hv] at h
  simpa using h
theorem zst_1 {ad : Nat → Nat} {L L' : List Value} {k : Nat} {v : Value} (hc : v.category = 1) (h : zst v k L = some L') : L' = L.set k v ∧ k < L.length ∧ zlongAt L k = false := by
  unfold zst at h
  cases h1 : zlongAt L k with
  | true => rw [h1] at h; cases h
  | false =>
    rw [h1] at h
    have h2 : decide (v.category = 2) = false := by simp [hc]
    rw [h2] at h
    cases h3 : Nat.blt k L.length with
    | false => rw [h3] at h; cases h
    | true =>
      rw [h3] at h
      exact ⟨(Option.some.inj h).symm, by simpa [Nat.blt_eq] using h3, rfl⟩
theorem zst_2 {ad : Nat → Nat} {L L' : List Value} {k : Nat} {v : Value} (hc : v.category = 2) (h : zst v k L = some L') : L' = (L.set k v).set (k + 1) zj ∧ k + 1 < L.length ∧ zlongAt L k = false := by
  unfold zst at h
  cases h1 : zlongAt L k with
  | true => rw [h1] at h; cases h
  | false =>
    rw [h1] at h
    have h2 : decide (v.category = 2) = true := by simp [hc]
    rw [h2] at h
    cases h3 : Nat.blt (k + 1) L.length with
    | false => rw [h3] at h; cases h
    | true =>
      rw [h3] at h
      exact ⟨(Option.some.inj h).symm, by simpa [Nat.blt_eq] using h3, rfl⟩
theorem zLo_st1 {ad : Nat → Nat} {ls' : Array Slot} {L : List Value} {k : Nat} {v : Value} (hk : k < L.length) (hl : zlongAt L k = false) (h : lv_has ls' L.length ((k, zv ad v) :: (zpairs ad L).filter (fun q => !(q.1 == k) && !(q.1 + 1 == k && q.2.category == 2)))) : zLo ad ls' (L.set k v) := by
  refine ⟨by rw [List.length_set]; exact h.1, h.2.1, fun j x hx hj => ?_⟩
  by_cases e : j = k
  · subst e
    rw [List.getElem?_set_self hk] at hx
    cases hx
    exact h.2.2 (j, zv ad v) List.mem_cons_self
  · rw [List.getElem?_set_ne (Ne.symm e)] at hx
    refine h.2.2 (j, zv ad x) (List.mem_cons_of_mem _ (List.mem_filter.mpr ⟨zpairs_mem.mpr ⟨x, hx, hj, rfl⟩, ?_⟩))
    have h1 : ¬ (j + 1 = k ∧ (zv ad x).category = 2) := fun q => zlongAt_no hl q.1 hx (by rw [← zv_cat ad]; exact q.2)
    simp only [beq_iff_eq, Bool.and_eq_true, Bool.not_eq_true', beq_eq_false_iff_ne, ne_eq, Bool.and_eq_false_imp]
    exact ⟨e, fun q1 => by simpa using fun q2 => h1 ⟨q1, q2⟩⟩
theorem zLo_st2 {ad : Nat → Nat} {ls' : Array Slot} {L : List Value} {k : Nat} {v : Value} (hk : k + 1 < L.length) (hl : zlongAt L k = false) (h : lv_has ls' L.length ((k, zv ad v) :: (zpairs ad L).filter (fun q => !(q.1 == k) && (!(q.1 == k + 1) && !(q.1 + 1 == k && q.2.category == 2))))) : zLo ad ls' ((L.set k v).set (k + 1) zj) := by
  refine ⟨by rw [List.length_set, List.length_set]; exact h.1, h.2.1, fun j x hx hj => ?_⟩
  by_cases e1 : j = k + 1
  · subst e1
    rw [List.getElem?_set_self (by rw [List.length_set]; exact hk)] at hx
    cases hx
    exact absurd rfl hj
  · rw [List.getElem?_set_ne (Ne.symm e1)] at hx
    by_cases e : j = k
    · subst e
      rw [List.getElem?_set_self (by omega)] at hx
      cases hx
      exact h.2.2 (j, zv ad v) List.mem_cons_self
    · rw [List.getElem?_set_ne (Ne.symm e)] at hx
      refine h.2.2 (j, zv ad x) (List.mem_cons_of_mem _ (List.mem_filter.mpr ⟨zpairs_mem.mpr ⟨x, hx, hj, rfl⟩, ?_⟩))
      have h1 : ¬ (j + 1 = k ∧ (zv ad x).category = 2) := fun q => zlongAt_no hl q.1 hx (by rw [← zv_cat ad]; exact q.2)
      simp only [beq_iff_eq, Bool.and_eq_true, Bool.not_eq_true', beq_eq_false_iff_ne, ne_eq, Bool.and_eq_false_imp]
      exact ⟨e, e1, fun q1 => by simpa using fun q2 => h1 ⟨q1, q2⟩⟩
