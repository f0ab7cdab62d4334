/-! THE ALBUM'S PURE PICTURE: costs and best trees -/
def pN (f : Nat → Int32) (j : Nat) : Nat := (f j).toNatClampNeg
def aW (A : AV) (s : Nat) : Nat := if A.2.2.2 (5 * s + 3) = 1 then 2 * A.2.1 else A.2.1
def aX (A : AV) (s m k : Nat) : Nat → Nat → Nat := yX (tT (tf m + k)) (fun i => pN A.2.2.2 (5 * (s + i))) (fun i => pN A.2.2.2 (5 * (s + i) + 1)) (aW A s) A.2.2.1
def aC (A : AV) (s m k : Nat) : Nat := yCo (fun i => eA (aX A s m k) (tT (tf m + k) 12 i)) (fun i => pN A.2.2.2 (5 * (s + i) + 2)) (aW A s * A.2.2.1) m
def yBest (c : Nat → Nat) : Nat → Nat
  | 0 => 0
  | k + 1 => if c (k + 1) < c (yBest c k) then k + 1 else yBest c k
def aB (A : AV) (s m : Nat) : Nat := yBest (aC A s m) (th m - 1)
theorem yBest_le (c : Nat → Nat) : ∀ k : Nat, yBest c k ≤ k
  | 0 => Nat.le_refl _
  | k + 1 => by
    show (if c (k + 1) < c (yBest c k) then k + 1 else yBest c k) ≤ k + 1
    have := yBest_le c k
    by_cases z : c (k + 1) < c (yBest c k)
    · rw [if_pos z]; omega
    · rw [if_neg z]; omega
/-- an album as it can be -/
def zVa (A : AV) : Prop := A.1 ≤ 12 ∧ (20 ≤ A.2.1 ∧ A.2.1 ≤ 200) ∧ (20 ≤ A.2.2.1 ∧ A.2.2.1 ≤ 200) ∧ ∀ i, i < A.1 → zcan (A.2.2.2 (5 * i)) (A.2.2.2 (5 * i + 1)) (A.2.2.2 (5 * i + 2)) (A.2.2.2 (5 * i + 3)) (A.2.2.2 (5 * i + 4))
theorem i_rng {x : Int32} {a b : Nat} (ha : a < 2 ^ 31) (hb : b < 2 ^ 31) (h1 : nI a ≤ x) (h2 : x ≤ nI b) : x = nI x.toNatClampNeg ∧ a ≤ x.toNatClampNeg ∧ x.toNatClampNeg ≤ b := by
  have h0 : ¬ x < 0 := fun z => by
    rw [Int32.lt_iff_toInt_lt] at z
    rw [Int32.le_iff_toInt_le, nI_toInt ha] at h1
    have e : (0 : Int32).toInt = 0 := rfl
    omega
  obtain ⟨j, j1, rfl⟩ := nI_of h0
  rw [nI_clamp j1]
  exact ⟨rfl, (nI_leI ha j1).mp h1, (nI_leI j1 hb).mp h2⟩
theorem zcan_w {w x v k g : Int32} (h : zcan w x v k g) : (w = nI w.toNatClampNeg ∧ 1 ≤ w.toNatClampNeg ∧ w.toNatClampNeg ≤ 12) ∧ (x = nI x.toNatClampNeg ∧ 1 ≤ x.toNatClampNeg ∧ x.toNatClampNeg ≤ 12) ∧ (v = nI v.toNatClampNeg ∧ 1 ≤ v.toNatClampNeg ∧ v.toNatClampNeg ≤ 9) ∧ (k = 0 ∨ k = 1) ∧ (g = nI g.toNatClampNeg ∧ g.toNatClampNeg ≤ 9) := by
  obtain ⟨h1, h2, h3, h4, h5⟩ := h
  have a1 := i_rng (a := 1) (b := 12) (by decide) (by decide) h1.1 h1.2
  have a2 := i_rng (a := 1) (b := 12) (by decide) (by decide) h2.1 h2.2
  have a3 := i_rng (a := 1) (b := 9) (by decide) (by decide) h3.1 h3.2
  have a4 := i_rng (a := 0) (b := 1) (by decide) (by decide) h4.1 h4.2
  have a5 := i_rng (a := 0) (b := 9) (by decide) (by decide) h5.1 h5.2
  refine ⟨a1, a2, a3, ?_, a5.1, a5.2.2⟩
  have : k.toNatClampNeg = 0 ∨ k.toNatClampNeg = 1 := by omega
  rcases this with z | z
  · exact Or.inl (a4.1.trans (by rw [z]; rfl))
  · exact Or.inr (a4.1.trans (by rw [z]; rfl))
section SPEC
variable {A : AV} {s m : Nat}
theorem aw_ok (hA : zVa A) (h : s + m ≤ A.1) : yOk m (fun i => pN A.2.2.2 (5 * (s + i))) (fun i => pN A.2.2.2 (5 * (s + i) + 1)) := by
  intro i hi
  obtain ⟨h1, h2, -⟩ := zcan_w (hA.2.2.2 (s + i) (by omega))
  exact ⟨h1.2.1, h1.2.2, h2.2.1, h2.2.2⟩
theorem aW_le (hA : zVa A) : aW A s ≤ 400 := by
  unfold aW
  have := hA.2.1
  by_cases z : A.2.2.2 (5 * s + 3) = 1
  · rw [if_pos z]; omega
  · rw [if_neg z]; omega
theorem aWH_le (hA : zVa A) : aW A s * A.2.2.1 ≤ 80000 := Nat.mul_le_mul (aW_le hA) hA.2.2.1.2
theorem aS_le (hA : zVa A) (h : s + m ≤ A.1) (hm : m ≤ 4) {k : Nat} (hk : k < th m) : ysum (fun i => eA (aX A s m k) (tT (tf m + k) 12 i)) m ≤ aW A s * A.2.2.1 := by
  obtain ⟨t1, t2, t3⟩ := tft m (by omega) k hk
  have hT := tok t1
  rw [t2] at hT
  exact eA_all hT (yX_lay hT) (aw_ok hA h)
theorem aV_pos (hA : zVa A) (h : s + m ≤ A.1) (hm : 0 < m) : 0 < ysum (fun i => pN A.2.2.2 (5 * (s + i) + 2)) m := by
  have h1 := ysum_mono (f := fun i => pN A.2.2.2 (5 * (s + i) + 2)) (show 1 ≤ m by omega)
  have e : ysum (fun i => pN A.2.2.2 (5 * (s + i) + 2)) 1 = 0 + pN A.2.2.2 (5 * (s + 0) + 2) := rfl
  have := (zcan_w (hA.2.2.2 (s + 0) (by omega))).2.2.1.2.1
  have e2 : pN A.2.2.2 (5 * (s + 0) + 2) = (A.2.2.2 (5 * (s + 0) + 2)).toNatClampNeg := rfl
  omega
theorem aC_le (hA : zVa A) (h : s + m ≤ A.1) (hm : m ≤ 4) (hm0 : 0 < m) {k : Nat} (hk : k < th m) : aC A s m k ≤ 240000 := by
  have := yCo_le (aS_le hA h hm hk) (aV_pos hA h hm0)
  have := aWH_le (s := s) hA
  unfold aC
  omega
theorem th_pos : ∀ m, m < 5 → 0 < m → 0 < th m := by decide
theorem aB_lt (hm : m ≤ 4) (hm0 : 0 < m) : aB A s m < th m := by
  have := th_pos m (by omega) hm0
  have := yBest_le (aC A s m) (th m - 1)
  unfold aB
  omega
end SPEC
