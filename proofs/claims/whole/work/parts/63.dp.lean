/-! THE BOOK'S PURE PICTURE: from picture i on, the page even or odd: the least cost, how many ways, how many pictures the first page has -/
noncomputable def cif {α : Type} (P : Prop) (a b : α) : α := @ite α P (Classical.propDecidable P) a b
theorem cif_pos {α : Type} {P : Prop} {a b : α} (h : P) : cif P a b = a := if_pos h
theorem cif_neg {α : Type} {P : Prop} {a b : α} (h : ¬ P) : cif P a b = b := if_neg h
def aT (A : AV) (i : Nat) : Prop := 0 < i ∧ i < A.1 ∧ A.2.2.2 (5 * (i - 1) + 3) = 0 ∧ A.2.2.2 (5 * i + 3) = 0 ∧ A.2.2.2 (5 * i + 4) = A.2.2.2 (5 * (i - 1) + 4) ∧ ¬ A.2.2.2 (5 * i + 4) = 0
abbrev EN : Type := Option Nat × Int32 × Nat
def eo (a : EN) (n e : Nat) (b : EN) : EN := match b.1 with
  | none => a
  | some r => match a.1 with
    | none => (some (e + r), b.2.1, n)
    | some k => if e + r < k then (some (e + r), b.2.1, n) else if e + r = k then (some k, a.2.1 + b.2.1, a.2.2) else a
abbrev ez : EN := (none, 0, 0)
def aP (A : AV) (i n : Nat) : Nat := aC A i n (aB A i n)
def aO (A : AV) (i n : Nat) : Prop := ¬ aT A (i + n) ∧ zFe A.1 A.2.2.2 i n
noncomputable def dG (A : AV) (R : Nat → Nat → EN) (i o : Nat) : Nat → EN
  | 0 => ez
  | n + 1 => cif (aO A i (n + 1)) (eo (dG A R i o n) (n + 1) (aP A i (n + 1)) (R (i + (n + 1)) (1 - o))) (dG A R i o n)
noncomputable def dS (A : AV) (R : Nat → Nat → EN) (i o : Nat) : EN := if A.2.2.2 (5 * i + 3) = 1 then eo ez 1 (aC A i 1 0 + o * (A.2.1 * A.2.2.1)) (R (i + 1) 0) else dG A R i o 4
noncomputable def dD (A : AV) : Nat → Nat → Nat → EN
  | 0, _, _ => ez
  | f + 1, i, o => if A.1 ≤ i then (some 0, 1, 0) else dS A (dD A f) i o
noncomputable def DD (A : AV) : Nat → Nat → EN := dD A 13
section DP
variable {A : AV} {R R' : Nat → Nat → EN} {i o : Nat}
theorem dG_congr (h : ∀ n, 1 ≤ n → R (i + n) = R' (i + n)) : ∀ m : Nat, dG A R i o m = dG A R' i o m
  | 0 => rfl
  | m + 1 => by
    show cif _ (eo (dG A R i o m) _ _ _) (dG A R i o m) = cif _ (eo (dG A R' i o m) _ _ _) (dG A R' i o m)
    rw [dG_congr h m, h (m + 1) (by omega)]
theorem dS_congr (h : ∀ n, 1 ≤ n → R (i + n) = R' (i + n)) : dS A R i o = dS A R' i o := by
  unfold dS
  rw [dG_congr h, h 1 (by omega)]
theorem dD_st : ∀ (f i : Nat), A.1 - i < f → dD A f i = dD A (f + 1) i
  | 0, i, h => by omega
  | f + 1, i, h => by
    funext o
    show (if A.1 ≤ i then (some 0, 1, 0) else dS A (dD A f) i o) = (if A.1 ≤ i then (some 0, 1, 0) else dS A (dD A (f + 1)) i o)
    by_cases z : A.1 ≤ i
    · rw [if_pos z, if_pos z]
    · rw [if_neg z, if_neg z]
      exact dS_congr fun n hn => dD_st f (i + n) (by omega)
theorem DD_end (h : A.1 ≤ i) : DD A i o = (some 0, 1, 0) := if_pos h
theorem DD_eq (hN : A.1 ≤ 12) (h : i < A.1) : DD A i o = dS A (DD A) i o := by
  show (if A.1 ≤ i then (some 0, 1, 0) else dS A (dD A 12) i o) = _
  rw [if_neg (by omega)]
  exact dS_congr fun n hn => dD_st 12 (i + n) (by omega)
theorem zFe_mono {N : Nat} {f : Nat → Int32} {s m n : Nat} (h : zFe N f s m) (h1 : 1 ≤ n) (h2 : n ≤ m) : zFe N f s n := ⟨h1, by have := h.2.1; omega, by have := h.2.2.1; omega, fun z j hj => h.2.2.2 (by omega) j (by omega)⟩
/-- the first page that gives the least -/
def gSp (A : AV) (R : Nat → Nat → EN) (i o m : Nat) (E : EN) : Prop :=
  (E.1 = none → ∀ n, 1 ≤ n → n ≤ m → aO A i n → (R (i + n) (1 - o)).1 = none) ∧
  ∀ v, E.1 = some v → (1 ≤ E.2.2 ∧ E.2.2 ≤ m ∧ aO A i E.2.2 ∧ ∃ r, (R (i + E.2.2) (1 - o)).1 = some r ∧ v = aP A i E.2.2 + r) ∧ ∀ n r, 1 ≤ n → n ≤ m → aO A i n → (R (i + n) (1 - o)).1 = some r → v ≤ aP A i n + r ∧ (n < E.2.2 → v < aP A i n + r)
theorem dG_sp : ∀ m : Nat, gSp A R i o m (dG A R i o m)
  | 0 => ⟨fun _ n h1 h2 => by omega, fun v hv => by cases hv⟩
  | m + 1 => by
    have ih := dG_sp m
    by_cases q : aO A i (m + 1)
    · have e : dG A R i o (m + 1) = eo (dG A R i o m) (m + 1) (aP A i (m + 1)) (R (i + (m + 1)) (1 - o)) := cif_pos q
      rw [e]
      generalize dG A R i o m = a at *
      obtain ⟨ih1, ih2⟩ := ih
      cases hb : (R (i + (m + 1)) (1 - o)).1 with
      | none =>
        have e2 : eo a (m + 1) (aP A i (m + 1)) (R (i + (m + 1)) (1 - o)) = a := by unfold eo; rw [hb]
        rw [e2]
        refine ⟨fun h n h1 h2 h3 => ?_, fun v hv => ?_⟩
        · by_cases z : n = m + 1
          · rw [z]; exact hb
          · exact ih1 h n h1 (by omega) h3
        · obtain ⟨⟨b1, b2, b3, b4⟩, b5⟩ := ih2 v hv
          refine ⟨⟨b1, by omega, b3, b4⟩, fun n r h1 h2 h3 h4 => ?_⟩
          by_cases z : n = m + 1
          · rw [z, hb] at h4; cases h4
          · exact b5 n r h1 (by omega) h3 h4
      | some r0 =>
        cases ha : a.1 with
        | none =>
          have e2 : eo a (m + 1) (aP A i (m + 1)) (R (i + (m + 1)) (1 - o)) = (some (aP A i (m + 1) + r0), (R (i + (m + 1)) (1 - o)).2.1, m + 1) := by unfold eo; rw [hb, ha]
          rw [e2]
          refine ⟨fun h => (by cases h), fun v hv => ?_⟩
          obtain rfl : aP A i (m + 1) + r0 = v := Option.some.inj hv
          refine ⟨⟨by show 1 ≤ m + 1; omega, Nat.le_refl _, q, r0, hb, rfl⟩, fun n r h1 h2 h3 h4 => ?_⟩
          by_cases z : n = m + 1
          · subst z
            rw [hb] at h4
            obtain rfl : r0 = r := Option.some.inj h4
            exact ⟨Nat.le_refl _, fun w => absurd w (Nat.lt_irrefl _)⟩
          · rw [ih1 ha n h1 (by omega) h3] at h4
            cases h4
        | some k =>
          obtain ⟨⟨b1, b2, b3, b4⟩, b5⟩ := ih2 k ha
          by_cases lt : aP A i (m + 1) + r0 < k
          · have e2 : eo a (m + 1) (aP A i (m + 1)) (R (i + (m + 1)) (1 - o)) = (some (aP A i (m + 1) + r0), (R (i + (m + 1)) (1 - o)).2.1, m + 1) := by
              unfold eo
              rw [hb, ha]
              exact if_pos lt
            rw [e2]
            refine ⟨fun h => (by cases h), fun v hv => ?_⟩
            obtain rfl : aP A i (m + 1) + r0 = v := Option.some.inj hv
            refine ⟨⟨by show 1 ≤ m + 1; omega, Nat.le_refl _, q, r0, hb, rfl⟩, fun n r h1 h2 h3 h4 => ?_⟩
            by_cases z : n = m + 1
            · subst z
              rw [hb] at h4
              obtain rfl : r0 = r := Option.some.inj h4
              exact ⟨Nat.le_refl _, fun w => absurd w (Nat.lt_irrefl _)⟩
            · have := (b5 n r h1 (by omega) h3 h4).1
              exact ⟨by omega, fun _ => by omega⟩
          · have e2 : (eo a (m + 1) (aP A i (m + 1)) (R (i + (m + 1)) (1 - o))).1 = some k ∧ (eo a (m + 1) (aP A i (m + 1)) (R (i + (m + 1)) (1 - o))).2.2 = a.2.2 := by
              unfold eo
              rw [hb, ha]
              show (if aP A i (m + 1) + r0 < k then _ else _ : EN).1 = some k ∧ (if aP A i (m + 1) + r0 < k then _ else _ : EN).2.2 = a.2.2
              rw [if_neg lt]
              by_cases eq : aP A i (m + 1) + r0 = k
              · rw [if_pos eq]
                exact ⟨rfl, rfl⟩
              · rw [if_neg eq]
                exact ⟨ha, rfl⟩
            unfold gSp
            rw [e2.1, e2.2]
            refine ⟨fun h => (by cases h), fun v hv => ?_⟩
            obtain rfl : k = v := Option.some.inj hv
            refine ⟨⟨b1, by omega, b3, b4⟩, fun n r h1 h2 h3 h4 => ?_⟩
            by_cases z : n = m + 1
            · subst z
              rw [hb] at h4
              obtain rfl : r0 = r := Option.some.inj h4
              exact ⟨by omega, fun w => by omega⟩
            · exact b5 n r h1 (by omega) h3 h4
    · have e : dG A R i o (m + 1) = dG A R i o m := cif_neg q
      rw [e]
      obtain ⟨ih1, ih2⟩ := ih
      refine ⟨fun h n h1 h2 h3 => ?_, fun v hv => ?_⟩
      · by_cases z : n = m + 1
        · rw [z] at h3; exact absurd h3 q
        · exact ih1 h n h1 (by omega) h3
      · obtain ⟨⟨b1, b2, b3, b4⟩, b5⟩ := ih2 v hv
        refine ⟨⟨b1, by omega, b3, b4⟩, fun n r h1 h2 h3 h4 => ?_⟩
        by_cases z : n = m + 1
        · rw [z] at h3; exact absurd h3 q
        · exact b5 n r h1 (by omega) h3 h4
theorem aP_le (hA : zVa A) {n : Nat} (h : zFe A.1 A.2.2.2 i n) : aP A i n ≤ 240000 := aC_le hA h.2.2.1 h.2.1 h.1 (aB_lt h.2.1 h.1)
theorem aC1_le (hA : zVa A) (h : i < A.1) : aC A i 1 0 ≤ 240000 := aC_le hA (by omega) (by decide) (by decide) (by decide)
theorem aWH1 (hA : zVa A) : A.2.1 * A.2.2.1 ≤ 40000 := Nat.mul_le_mul hA.2.1.2 hA.2.2.1.2
/-- what is paid is little -/
theorem DD_le (hA : zVa A) : ∀ (k i o v : Nat), A.1 - i ≤ k → o ≤ 1 → (DD A i o).1 = some v → v ≤ 280000 * (A.1 - i) := by
  intro k
  induction k with
  | zero =>
    intro i o v hk ho hv
    rw [DD_end (by omega)] at hv
    cases hv
    exact Nat.zero_le _
  | succ k ih =>
    intro i o v hk ho hv
    by_cases z : A.1 ≤ i
    · rw [DD_end z] at hv
      cases hv
      exact Nat.zero_le _
    · rw [DD_eq hA.1 (by omega)] at hv
      unfold dS at hv
      by_cases w : A.2.2.2 (5 * i + 3) = 1
      · rw [if_pos w] at hv
        cases hb : (DD A (i + 1) 0).1 with
        | none =>
          have e : eo ez 1 (aC A i 1 0 + o * (A.2.1 * A.2.2.1)) (DD A (i + 1) 0) = ez := by unfold eo; rw [hb]
          rw [e] at hv
          cases hv
        | some r =>
          have e : eo ez 1 (aC A i 1 0 + o * (A.2.1 * A.2.2.1)) (DD A (i + 1) 0) = (some (aC A i 1 0 + o * (A.2.1 * A.2.2.1) + r), (DD A (i + 1) 0).2.1, 1) := by unfold eo; rw [hb]
          rw [e] at hv
          obtain rfl : aC A i 1 0 + o * (A.2.1 * A.2.2.1) + r = v := Option.some.inj hv
          have h1 := ih (i + 1) 0 r (by omega) (by omega) hb
          have h2 := aC1_le hA (show i < A.1 by omega)
          have h3 : o * (A.2.1 * A.2.2.1) ≤ 1 * 40000 := Nat.mul_le_mul ho (aWH1 hA)
          omega
      · rw [if_neg w] at hv
        obtain ⟨⟨b1, b2, b3, r, b4, b5⟩, -⟩ := (dG_sp (A := A) (R := DD A) (i := i) (o := o) 4).2 v hv
        generalize (dG A (DD A) i o 4).2.2 = n at *
        have h1 := ih (i + n) (1 - o) r (by omega) (by omega) b4
        have h2 := aP_le hA b3.2
        have h3 := b3.2.2.2.1
        omega
theorem DD_lt (hA : zVa A) {v : Nat} (ho : o ≤ 1) (hv : (DD A i o).1 = some v) : v ≤ 3360000 := by
  have := DD_le hA (A.1 - i) i o v (Nat.le_refl _) ho hv
  have := hA.1
  omega
end DP
