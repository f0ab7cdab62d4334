/-! THE PAGES: one behind the other, as the least cost says -/
abbrev PG : Type := Int32 × Int32 × Int32
def Lg (L : List PG) (p : Nat) : PG := L.getD p (0, 0, 0)
noncomputable def pgs (A : AV) : Nat → Nat → List PG → List PG
  | 0, _, L => L
  | f + 1, i, L => if A.1 ≤ i then L else if A.2.2.2 (5 * i + 3) = 1 then pgs A f (i + 1) ((if L.length % 2 = 1 then L ++ [(0, -1, -1)] else L) ++ [(1, nI i, 0), (1, nI i, 0)])
    else pgs A f (i + (DD A i (L.length % 2)).2.2) (L ++ [(nI (DD A i (L.length % 2)).2.2, nI i, nI (aB A i (DD A i (L.length % 2)).2.2))])
/-- where one may be -/
def rI (A : AV) (i : Nat) (L : List PG) : Prop := ¬ aT A i ∧ (∃ v, (DD A i (L.length % 2)).1 = some v) ∧ L.length + L.length % 2 ≤ 2 * i ∧ i ≤ A.1
def ctn (P : PG) (j : Nat) : Prop := ¬ P.1 = 0 ∧ P.2.1 ≤ nI j ∧ nI j < P.2.1 + P.1
def opS (L : List PG) (i : Nat) : Prop := ∀ p, p < L.length → ∀ j, i ≤ j → j < 12 → ¬ ctn (Lg L p) j
theorem Lg_old {L K : List PG} {p : Nat} (h : p < L.length) : Lg (L ++ K) p = Lg L p := by
  unfold Lg
  rw [List.getD_eq_getElem?_getD, List.getD_eq_getElem?_getD, List.getElem?_append_left h]
theorem Lg_new {L : List PG} {P : PG} : Lg (L ++ [P]) L.length = P := by
  unfold Lg
  rw [List.getD_eq_getElem?_getD, List.getElem?_append_right (Nat.le_refl _), Nat.sub_self]
  rfl
section PAGES
variable {A : AV} {i : Nat} {L : List PG}
theorem DD_wide (hA : zVa A) (hi : i < A.1) (hw : A.2.2.2 (5 * i + 3) = 1) {o v : Nat} (ho : o ≤ 1) (h : (DD A i o).1 = some v) : (∃ r, (DD A (i + 1) 0).1 = some r) ∧ (DD A i 0).2.2 = 1 ∧ ∃ v, (DD A i 0).1 = some v := by
  have e : ∀ o, DD A i o = eo ez 1 (aC A i 1 0 + o * (A.2.1 * A.2.2.1)) (DD A (i + 1) 0) := fun o => by
    rw [DD_eq hA.1 hi]
    unfold dS
    rw [if_pos hw]
  rw [e] at h
  rw [e 0]
  cases hb : (DD A (i + 1) 0).1 with
  | none =>
    have e2 : eo ez 1 (aC A i 1 0 + o * (A.2.1 * A.2.2.1)) (DD A (i + 1) 0) = ez := by unfold eo; rw [hb]
    rw [e2] at h
    cases h
  | some r =>
    have e2 : eo ez 1 (aC A i 1 0 + 0 * (A.2.1 * A.2.2.1)) (DD A (i + 1) 0) = (some (aC A i 1 0 + 0 * (A.2.1 * A.2.2.1) + r), (DD A (i + 1) 0).2.1, 1) := by unfold eo; rw [hb]
    rw [e2]
    exact ⟨⟨r, rfl⟩, rfl, _, rfl⟩
theorem DD_plain (hA : zVa A) (hi : i < A.1) (hw : ¬ A.2.2.2 (5 * i + 3) = 1) {o v : Nat} (h : (DD A i o).1 = some v) : (1 ≤ (DD A i o).2.2 ∧ (DD A i o).2.2 ≤ 4 ∧ aO A i (DD A i o).2.2 ∧ ∃ r, (DD A (i + (DD A i o).2.2) (1 - o)).1 = some r ∧ v = aP A i (DD A i o).2.2 + r) ∧ ∀ n r, 1 ≤ n → n ≤ 4 → aO A i n → (DD A (i + n) (1 - o)).1 = some r → v ≤ aP A i n + r ∧ (n < (DD A i o).2.2 → v < aP A i n + r) := by
  have e : DD A i o = dG A (DD A) i o 4 := by
    rw [DD_eq hA.1 hi]
    unfold dS
    rw [if_neg hw]
  rw [e] at h ⊢
  exact (dG_sp (A := A) (R := DD A) (i := i) (o := o) 4).2 v h
theorem rI_wide (hA : zVa A) (hr : rI A i L) (hi : i < A.1) (hw : A.2.2.2 (5 * i + 3) = 1) : rI A (i + 1) ((if L.length % 2 = 1 then L ++ [(0, -1, -1)] else L) ++ [(1, nI i, 0), (1, nI i, 0)]) ∧ (DD A i 0).2.2 = 1 := by
  obtain ⟨r1, ⟨v, r2⟩, r3, r4⟩ := hr
  obtain ⟨w1, w2, -⟩ := DD_wide hA hi hw (by omega) r2
  refine ⟨⟨fun t => ?_, ?_, ?_, by omega⟩, w2⟩
  · have := t.2.2.1
    rw [show i + 1 - 1 = i by omega, hw] at this
    exact absurd this (by decide)
  · by_cases z : L.length % 2 = 1
    · rw [if_pos z, List.length_append, List.length_append]
      show ∃ v, (DD A (i + 1) ((L.length + 1 + 2) % 2)).1 = some v
      rw [show (L.length + 1 + 2) % 2 = 0 by omega]
      exact w1
    · rw [if_neg z, List.length_append]
      show ∃ v, (DD A (i + 1) ((L.length + 2) % 2)).1 = some v
      rw [show (L.length + 2) % 2 = 0 by omega]
      exact w1
  · by_cases z : L.length % 2 = 1
    · rw [if_pos z, List.length_append, List.length_append]
      show L.length + 1 + 2 + (L.length + 1 + 2) % 2 ≤ 2 * (i + 1)
      omega
    · rw [if_neg z, List.length_append]
      show L.length + 2 + (L.length + 2) % 2 ≤ 2 * (i + 1)
      omega
theorem rI_plain (hA : zVa A) (hr : rI A i L) (hi : i < A.1) (hw : ¬ A.2.2.2 (5 * i + 3) = 1) : rI A (i + (DD A i (L.length % 2)).2.2) (L ++ [(nI (DD A i (L.length % 2)).2.2, nI i, nI (aB A i (DD A i (L.length % 2)).2.2))]) ∧ 1 ≤ (DD A i (L.length % 2)).2.2 ∧ (DD A i (L.length % 2)).2.2 ≤ 4 ∧ aO A i (DD A i (L.length % 2)).2.2 := by
  obtain ⟨r1, ⟨v, r2⟩, r3, r4⟩ := hr
  obtain ⟨⟨b1, b2, b3, r, b4, b5⟩, -⟩ := DD_plain hA hi hw r2
  have b6 := b3.2.2.2.1
  refine ⟨⟨b3.1, ?_, ?_, b6⟩, b1, b2, b3⟩
  · rw [List.length_append]
    show ∃ v, (DD A _ ((L.length + 1) % 2)).1 = some v
    rw [show (L.length + 1) % 2 = 1 - L.length % 2 by omega]
    exact ⟨r, b4⟩
  · rw [List.length_append]
    show L.length + 1 + (L.length + 1) % 2 ≤ _
    omega
theorem ctn_in {n j : Nat} (hn : 0 < n) (h1 : i ≤ j) (h2 : j < i + n) (hb : i + n < 100) (z : Int32) : ctn (nI n, nI i, z) j := ⟨nI_ne0 hn (by omega), nI_le h1 (by omega), by
  show nI j < nI i + nI n
  rw [nI_add]
  exact nI_lt h2 (by omega)⟩
theorem ctn_out {n j : Nat} (h1 : i + n ≤ j) (hb : j < 100) (z : Int32) : ¬ ctn (nI n, nI i, z) j := fun w => by
  have h2 : nI j < nI i + nI n := w.2.2
  rw [nI_add] at h2
  have := (nI_ltI (show j < 2 ^ 31 by omega) (show i + n < 2 ^ 31 by omega)).mp h2
  omega
theorem ctn_e (y z : Int32) (j : Nat) : ¬ ctn (0, y, z) j := fun w => w.1 rfl
theorem opS_one {P : PG} {i2 : Nat} (h : opS L i) (hi : i ≤ i2) (hP : ∀ j, i2 ≤ j → j < 12 → ¬ ctn P j) : opS (L ++ [P]) i2 := by
  intro p hp j h1 h2
  rw [List.length_append] at hp
  have hp2 : p < L.length + 1 := hp
  by_cases z : p = L.length
  · rw [z, Lg_new]
    exact hP j h1 h2
  · rw [Lg_old (by omega)]
    exact h p (by omega) j (by omega) h2
end PAGES
/-! addLeaf, setOut -/
def lvS (X : Nat → Nat → Int32) (L : List PG) : Prop := ∀ p, p < L.length → X 4 (3 * p) = (Lg L p).1 ∧ X 4 (3 * p + 1) = (Lg L p).2.1 ∧ X 4 (3 * p + 2) = (Lg L p).2.2
def pfS (X : Nat → Nat → Int32) (L : List PG) (i : Nat) : Prop := ∀ j, j < i → ∃ p, p < L.length ∧ X 5 j = nI p ∧ ctn (Lg L p) j ∧ ∀ q, q < p → ¬ ctn (Lg L q) j
section SETOUT
variable {h : ZH} {b : Nat} {s : Nat → Int32} {X : Nat → Nat → Int32} {L : List PG}
theorem c_addLeaf (d : Nat) (hB : BK h b s X) (h7 : s 7 = nI L.length) (hl : L.length < 24) (hv : lvS X L) (x y z : Int32) : ∃ h' s' X', zcl (d + 2) 24 [.ref b, .int x, .int y, .int z] h = some (none, h') ∧ BK h' b s' X' ∧ BF b h h' ∧ s' 7 = nI (L ++ [(x, y, z)]).length ∧ s' 6 = s 6 ∧ s' 8 = s 8 ∧ lvS X' (L ++ [(x, y, z)]) ∧ ∀ a, a ≠ 4 → X' a = X a := by
  have z0 : zcs [] ≤ 8 := by decide
  have hwi : ∀ x, Value.category (.int x) = 1 := fun _ => rfl
  have hwr : ∀ x, Value.category (.ref x) = 1 := fun _ => rfl
  obtain ⟨h1, e1, b1, f1⟩ := BK_put d hB (a := 4) (j := 3 * L.length) (by decide) (show 3 * L.length < 72 by omega) x
  obtain ⟨h2, e2, b2, f2⟩ := BK_put d b1 (a := 4) (j := 3 * L.length + 1) (by decide) (show 3 * L.length + 1 < 72 by omega) y
  obtain ⟨h3, e3, b3, f3⟩ := BK_put d b2 (a := 4) (j := 3 * L.length + 2) (by decide) (show 3 * L.length + 2 < 72 by omega) z
  obtain ⟨p7, b4, f4⟩ := BK_set7 b3 (nI (L.length + 1))
  have s3 : nI L.length * 3 = nI (3 * L.length) := by rw [show (3 : Int32) = nI 3 from rfl, pk_mul, Nat.mul_comm]
  have a1 : nI (3 * L.length) + 1 = nI (3 * L.length + 1) := nI_add _ 1
  have a2 : nI (3 * L.length) + 2 = nI (3 * L.length + 2) := nI_add _ 2
  have e7 : (L ++ [(x, y, z)]).length = L.length + 1 := by rw [List.length_append]; rfl
  refine ⟨_, _, _, ?_, b4, BF_tr (BF_tr f1 f2) (BF_tr f3 f4), by rw [e7]; exact pk_us, pk_un (by decide), pk_un (by decide), fun p hp => ?_, fun a ha => by rw [ug_n ha, ug_n ha, ug_n ha]⟩
  · rw [e24]
    simp only [g24_0, g24_1, g24_4, g24_5, g24_6, BK_7 hB, h7, s3, hwi, Option.bind_some]
    simp only [g24_8, g24_9, g24_12, g24_14, g24_15, g24_18, g24_19, g24_22, g24_24, g24_25, g24_26, g24_27, g24_30, g24_31, g24_34, g24_36, g24_37, g24_38, g24_39, BK_4 hB, BK_4 b1, BK_4 b2, e1, e2, e3, a1, a2, z0, Option.bind_some, Option.toList_none, List.nil_append]
    simp only [g24_42, g24_43, g24_44, g24_47, g24_48, g24_49, g24_52, BK_7 b3, h7, nI_1, p7, hwr, Option.bind_some]
  · rw [e7] at hp
    by_cases q : p = L.length
    · subst q
      rw [Lg_new]
      refine ⟨?_, ?_, ug_a⟩
      · rw [ug_i (by omega), ug_i (by omega), ug_a]
      · rw [ug_i (by omega), ug_a]
    · rw [Lg_old (by omega), ug_i (by omega), ug_i (by omega), ug_i (by omega), ug_i (by omega), ug_i (by omega), ug_i (by omega), ug_i (by omega), ug_i (by omega), ug_i (by omega)]
      exact hv p (by omega)
theorem c_exists (d : Nat) (hB : BK h b s X) : zcl (d + 1) 13 [.ref b] h = some (some (.int (if X 0 0 = -1 then 0 else 1)), h) := by
  have r0 : zald 10 h (b + 1 + 0) 0 = some (.int (X 0 0)) := zald_ia (hB.2 0 (by decide)) rfl (show (0 : Int32) = nI 0 from rfl) (show 0 < bn 0 by decide) (by decide)
  rw [e13]
  simp only [g13_0, g13_1, g13_4, g13_5, g13_6, BK_0 hB, r0, Option.bind_some]
  by_cases z : X 0 0 = -1
  · rw [g13_7, if_pos z, if_pos z, g13_14, g13_15 zzero]
  · rw [g13_7, if_neg z, if_neg z, g13_10, g13_11, g13_15 zone]
end SETOUT
