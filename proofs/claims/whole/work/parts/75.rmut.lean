/-! remembers, keep, undo of the reference -/
def rmF (S S' : Nat → Int32) (G G' : Nat → Nat → Int32) : Prop := (∀ j, j ≠ 5 → j ≠ 29 → j ≠ 33 → j ≠ 34 → j ≠ 35 → S' j = S j) ∧ ∀ a, a < 3 → G' a = G a
theorem exI_fit (A : AV) : zfit .boolean (.int (exI A)) = true := by
  unfold exI
  cases (DD A 0 0).1 <;> rfl
def kR (g : Nat → Int32) (kept : Nat) (K : Nat → AV) : Prop := ∀ m, m < kept → zGA (fun i => g (63 * m + i)) (K m)
theorem zGA_congr {g g' : Nat → Int32} {A : AV} (h : zGA g A) (hA : A.1 ≤ 12) (hg : ∀ i, i < 63 → g' i = g i) : zGA g' A := ⟨(hg 0 (by decide)).trans h.1, (hg 1 (by decide)).trans h.2.1, (hg 2 (by decide)).trans h.2.2.1, fun j hj => (hg (3 + j) (by omega)).trans (h.2.2.2 j hj)⟩
section RMUT
variable {p : ZP} {A : AV}
theorem c_remembers (d : Nat) (hA : zVa A) (S : Nat → Int32) (G : Nat → Nat → Int32) (Q : Nat → Nat → Int64) (hG : zGA (G 1) A) :
    ∃ S' G' Q', zcl (d + 10) 124 [.ref 256] (zRh p S G Q) = some (none, zRh p S' G' Q') ∧ S' 33 = 1 ∧ oldR S' G' A ∧ rmF S S' G G' := by
  have z0 : zcs [] ≤ 8 := by decide
  have zr : ∀ x, zcs [.ref x] ≤ 8 := fun _ => Nat.le_of_ble_eq_true rfl
  have hwi : ∀ x, Value.category (.int x) = 1 := fun _ => rfl
  have hwr : ∀ x, Value.category (.ref x) = 1 := fun _ => rfl
  have len := PGS_len hA
  obtain ⟨S1, G1, Q1, o1, o2, o3, -⟩ := c_sets (p := p) d hA (upd S 33 1) G Q hG
  have loop : ∀ (r q : Nat) (S : Nat → Int32) (G : Nat → Nat → Int32), q + r = 64 → ∃ G', zres (d + 9) 124 23 [.ref 256, .int (nI q)] [] (zRh p S G Q1) = some (none, zRh p S G' Q1) ∧ (∀ j, q ≤ j → j < 64 → G' 27 j = G 24 j ∧ G' 28 j = G 25 j ∧ G' 29 j = G 26 j) ∧ (∀ j, j < q → G' 27 j = G 27 j ∧ G' 28 j = G 28 j ∧ G' 29 j = G 29 j) ∧ ∀ a, a < 27 → G' a = G a := by
    intro r
    induction r with
    | zero =>
      intro q S G hq
      obtain rfl : q = 64 := by omega
      have c1 : (64 : Int32) ≤ nI 64 := by decide
      refine ⟨G, ?_, fun j h1 h2 => by omega, fun _ _ => ⟨rfl, rfl, rfl⟩, fun _ _ => rfl⟩
      simp only [g124_23, g124_24, g124_26, c1, ↓reduceIte, g124_71]
    | succ r ih =>
      intro q S G hq
      have q64 : q < 64 := by omega
      have c1 : ¬ (64 : Int32) ≤ nI q := nI_ge (b := 64) q64 (by decide)
      obtain ⟨G', u1, u2, u3, u4⟩ := ih (q + 1) S (ug (ug (ug G 27 q (G 24 q)) 28 q (G 25 q)) 29 q (G 26 q)) (by omega)
      refine ⟨G', ?_, fun j h1 h2 => ?_, fun j hj => ?_, fun a ha => by rw [u4 a ha, ug_n (by omega), ug_n (by omega), ug_n (by omega)]⟩
      · have e1 : ug G 27 q (G 24 q) 25 q = G 25 q := by rw [ug_n (by decide)]
        have e2 : ug (ug G 27 q (G 24 q)) 28 q (G 25 q) 26 q = G 26 q := by rw [ug_n (by decide), ug_n (by decide)]
        simp only [g124_23, g124_24, g124_26, c1, ↓reduceIte]
        simp only [g124_29, g124_30, g124_33, g124_34, g124_35, g124_38, g124_39, g124_40, g124_41, g124_42, g124_45, g124_46, g124_47, g124_50, g124_51, g124_52, g124_53, g124_54, g124_57, g124_58, g124_59, g124_62, g124_63, g124_64, g124_65, g124_68, rg30, rg31, rg32, rg36, rg37, rg38, ra24 q64, ra25 q64, ra26 q64, rw27 q64, rw28 q64, rw29 q64, e1, e2, hwr, nI_1, Option.bind_some]
        exact u1
      · by_cases z : j = q
        · subst z
          obtain ⟨v1, v2, v3⟩ := u3 j (by omega)
          rw [v1, v2, v3]
          refine ⟨?_, ?_, ug_a⟩
          · rw [ug_n (by decide), ug_n (by decide), ug_a]
          · rw [ug_n (by decide), ug_a]
        · obtain ⟨v1, v2, v3⟩ := u2 j (by omega) h2
          rw [v1, v2, v3, ug_n (by decide), ug_n (by decide), ug_n (by decide), ug_n (by decide), ug_n (by decide), ug_n (by decide), ug_n (by decide), ug_n (by decide), ug_n (by decide)]
          exact ⟨rfl, rfl, rfl⟩
      · obtain ⟨v1, v2, v3⟩ := u3 j (by omega)
        rw [v1, v2, v3, ug_i (by omega), ug_i (by omega), ug_i (by omega), ug_i (by omega), ug_i (by omega), ug_i (by omega), ug_i (by omega), ug_i (by omega), ug_i (by omega)]
        exact ⟨rfl, rfl, rfl⟩
  obtain ⟨G', u1, u2, u3, u4⟩ := loop 64 0 (upd (upd S1 34 (exI A)) 35 (nI (PGS A).length)) G1 (by omega)
  refine ⟨upd (upd S1 34 (exI A)) 35 (nI (PGS A).length), G', Q1, ?_, ?_, ⟨?_, pk_us, fun q hq => ?_⟩, fun j h5 h29 h33 h34 h35 => ?_, fun a ha => ?_⟩
  · have e29 : upd S1 34 (exI A) 29 = nI (PGS A).length := by rw [pk_un (by decide)]; exact o3.1
    rw [e124]
    simp only [g124_0, g124_1, g124_2, g124_5, g124_6, g124_7, rfp33 zone, o1, zr, rb0, Option.bind_some, Option.toList_some, List.cons_append, List.nil_append]
    simp only [g124_10, g124_13, g124_14, g124_15, g124_18, g124_21, g124_22, rfp34 (exI_fit A), rg29, e29, rfp35, hwr, Option.bind_some]
    exact u1
  · rw [pk_un (by decide), pk_un (by decide), o2.1 33 (by decide) (by decide), pk_us]
  · rw [pk_un (by decide), pk_us]
  · obtain ⟨v1, v2, v3⟩ := u2 q (Nat.zero_le _) (by omega)
    rw [v1, v2, v3]
    exact o3.2 q hq
  · rw [pk_un h35, pk_un h34, o2.1 j h5 h29, pk_un h33]
  · rw [u4 a (by omega), o2.2 a (by omega)]
/-- keep(): album A is kept -/
theorem c_keepR (d : Nat) (hA : zVa A) (S : Nat → Int32) (G : Nat → Nat → Int32) (Q : Nat → Nat → Int64) (hG : zGA (G 1) A) {kept : Nat} {K : Nat → AV} (h3 : S 3 = nI kept) (hk : kept ≤ 8) (hK : kR (G 2) kept K) (hV : ∀ m, m < kept → (K m).1 ≤ 12) :
    ∃ S' G' Q', zcl (d + 11) 79 [.ref 256] (zRh p S G Q) = some (none, zRh p S' G' Q') ∧ S' 33 = 1 ∧ oldR S' G' A ∧ (∀ j, j ≠ 3 → j ≠ 5 → j ≠ 29 → j ≠ 33 → j ≠ 34 → j ≠ 35 → S' j = S j) ∧ S' 3 = nI (min (kept + 1) 8) ∧ G' 1 = G 1 ∧ kR (G' 2) (min (kept + 1) 8) (fun m => if kept = 8 then (if m = 7 then A else K (m + 1)) else (if m = kept then A else K m)) := by
  have z0 : zcs [] ≤ 8 := by decide
  have hwi : ∀ x, Value.category (.int x) = 1 := fun _ => rfl
  have hwr : ∀ x, Value.category (.ref x) = 1 := fun _ => rfl
  have N12 := hA.1
  -- the copy
  have copy : ∀ (r i : Nat) (S : Nat → Int32) (G : Nat → Nat → Int32) (k : Nat), i + r = 63 → k ≤ 7 → S 3 = nI k → ∃ G', zres (d + 10) 79 47 [.ref 256, .int (nI i)] [] (zRh p S G Q) = zres (d + 10) 79 79 [.ref 256, .int (nI 63)] [] (zRh p S G' Q) ∧ (∀ j, i ≤ j → j < 63 → G' 2 (63 * k + j) = G 1 j) ∧ (∀ j, (j < 63 * k + i ∨ 63 * k + 63 ≤ j) → G' 2 j = G 2 j) ∧ ∀ a, a ≠ 2 → G' a = G a := by
    intro r
    induction r with
    | zero =>
      intro i S G k hi hk h3
      obtain rfl : i = 63 := by omega
      have c1 : (63 : Int32) ≤ nI 63 := by decide
      refine ⟨G, ?_, fun j h1 h2 => by omega, fun _ _ => rfl, fun _ _ => rfl⟩
      simp only [g79_47, g79_48, g79_50, c1, ↓reduceIte]
    | succ r ih =>
      intro i S G k hi hk h3
      have i63 : i < 63 := by omega
      have c1 : ¬ (63 : Int32) ≤ nI i := nI_ge (b := 63) i63 (by decide)
      have ix : nI k * 63 + nI i = nI (63 * k + i) := by rw [show (63 : Int32) = nI 63 from rfl, pk_mul, nI_add, Nat.mul_comm]
      have b5 : 63 * k + i < 504 := by omega
      obtain ⟨G', u1, u2, u3, u4⟩ := ih (i + 1) S (ug G 2 (63 * k + i) (G 1 i)) k (by omega) hk h3
      refine ⟨G', ?_, fun j h1 h2 => ?_, fun j hj => by rw [u3 j (by omega), ug_i (by omega)], fun a ha => by rw [u4 a ha, ug_n ha]⟩
      · simp only [g79_47, g79_48, g79_50, c1, ↓reduceIte]
        simp only [g79_53, g79_54, g79_57, g79_58, g79_61, g79_63, g79_64, g79_65, g79_66, g79_67, g79_70, g79_71, g79_72, g79_73, g79_76, rg1, rg2, rg3, h3, ix, ra1 i63, rw2 b5, hwr, nI_1, Option.bind_some]
        exact u1
      · by_cases z : j = i
        · rw [z, u3 _ (by omega), ug_a]
        · rw [u2 j (by omega) h2, ug_n (by decide)]
  -- the oldest goes
  have shift : ∀ (r i : Nat) (G : Nat → Nat → Int32), i + r = 441 → ∃ G', zres (d + 10) 79 11 [.ref 256, .int (nI i)] [] (zRh p S G Q) = zres (d + 10) 79 39 [.ref 256, .int (nI 441)] [] (zRh p S G' Q) ∧ (∀ j, i ≤ j → j < 441 → G' 2 j = G 2 (j + 63)) ∧ (∀ j, (j < i ∨ 441 ≤ j) → G' 2 j = G 2 j) ∧ ∀ a, a ≠ 2 → G' a = G a := by
    intro r
    induction r with
    | zero =>
      intro i G hi
      obtain rfl : i = 441 := by omega
      have c1 : (441 : Int32) ≤ nI 441 := by decide
      refine ⟨G, ?_, fun j h1 h2 => by omega, fun _ _ => rfl, fun _ _ => rfl⟩
      simp only [g79_11, g79_12, g79_15, c1, ↓reduceIte]
    | succ r ih =>
      intro i G hi
      have c1 : ¬ (441 : Int32) ≤ nI i := nI_ge (b := 441) (by omega) (by decide)
      have ix : nI i + 63 = nI (i + 63) := nI_add i 63
      have b1 : i < 504 := by omega
      have b2 : i + 63 < 504 := by omega
      obtain ⟨G', u1, u2, u3, u4⟩ := ih (i + 1) (ug G 2 i (G 2 (i + 63))) (by omega)
      refine ⟨G', ?_, fun j h1 h2 => ?_, fun j hj => by rw [u3 j (by omega), ug_i (by omega)], fun a ha => by rw [u4 a ha, ug_n ha]⟩
      · simp only [g79_11, g79_12, g79_15, c1, ↓reduceIte]
        simp only [g79_18, g79_19, g79_22, g79_23, g79_24, g79_27, g79_28, g79_30, g79_31, g79_32, g79_33, g79_36, rg2, ix, ra2 b2, rw2 b1, hwr, nI_1, Option.bind_some]
        exact u1
      · by_cases z : j = i
        · rw [z, u3 _ (by omega), ug_a]
        · rw [u2 j (by omega) h2, ug_i (by omega)]
  have rest : ∀ (S1 : Nat → Int32) (G1 : Nat → Nat → Int32) (k : Nat), k ≤ 7 → S1 3 = nI k → G1 1 = G 1 → ∃ S' G' Q', zres (d + 10) 79 45 [.ref 256, zj] [] (zRh p S1 G1 Q) = some (none, zRh p S' G' Q') ∧ (∀ l1 : Value, zres (d + 10) 79 45 [.ref 256, l1] [] (zRh p S1 G1 Q) = some (none, zRh p S' G' Q')) ∧ S' 33 = 1 ∧ oldR S' G' A ∧ (∀ j, j ≠ 3 → j ≠ 5 → j ≠ 29 → j ≠ 33 → j ≠ 34 → j ≠ 35 → S' j = S1 j) ∧ S' 3 = nI (k + 1) ∧ G' 1 = G 1 ∧ (∀ j, j < 63 → G' 2 (63 * k + j) = G 1 j) ∧ ∀ j, (j < 63 * k ∨ 63 * k + 63 ≤ j) → G' 2 j = G1 2 j := by
    intro S1 G1 k hk7 h31 hg1
    obtain ⟨G2, u1, u2, u3, u4⟩ := copy 63 0 S1 G1 k (by omega) hk7 h31
    have g21 : G2 1 = G 1 := (u4 1 (by decide)).trans hg1
    obtain ⟨S', G', Q', r1, r2, r3, r4⟩ := c_remembers (p := p) d hA (upd S1 3 (nI (k + 1))) G2 Q (by rw [g21]; exact hG)
    have go : ∀ l1 : Value, zres (d + 10) 79 45 [.ref 256, l1] [] (zRh p S1 G1 Q) = some (none, zRh p S' G' Q') := fun l1 => by
      simp only [g79_45, g79_46, hwr]
      have u1' : zres (d + 10) 79 47 [.ref 256, .int 0] [] (zRh p S1 G1 Q) = zres (d + 10) 79 79 [.ref 256, .int (nI 63)] [] (zRh p S1 G2 Q) := u1
      rw [u1']
      simp only [g79_79, g79_80, g79_81, g79_84, g79_85, g79_86, g79_89, g79_90, g79_93, rg3, h31, nI_1, rfp3, r1, z0, rb0, Option.bind_some, Option.toList_none, List.nil_append]
    refine ⟨S', G', Q', go zj, go, r2, r3, fun j a1 a2 a3 a4 a5 a6 => by rw [r4.1 j a2 a3 a4 a5 a6, pk_un a1], by rw [r4.1 3 (by decide) (by decide) (by decide) (by decide) (by decide), pk_us], by rw [r4.2 1 (by decide), g21], fun j hj => by rw [r4.2 2 (by decide), u2 j (Nat.zero_le _) hj, hg1], fun j hj => by rw [r4.2 2 (by decide), u3 j (by omega)]⟩
  rw [e79]
  by_cases q : kept = 8
  · subst q
    obtain ⟨G1, s1, s2, s3, s4⟩ := shift 441 0 G (by omega)
    obtain ⟨S', G', Q', -, o1, o2, o3, o4, o5, o6, o7, o8⟩ := rest (upd S 3 7) G1 7 (by decide) pk_us (s4 1 (by decide))
    refine ⟨S', G', Q', ?_, o2, o3, fun j a1 a2 a3 a4 a5 a6 => by rw [o4 j a1 a2 a3 a4 a5 a6, pk_un a1], o5, o6, fun m hm => ?_⟩
    · have h38 : S 3 = 8 := h3
      simp only [g79_0, g79_1, g79_4, rg3, h38, Option.bind_some]
      rw [g79_6, if_neg (fun w => w rfl)]
      simp only [g79_9, g79_10, hwr]
      have s1' : zres (d + 10) 79 11 [.ref 256, .int 0] [] (zRh p S G Q) = zres (d + 10) 79 39 [.ref 256, .int (nI 441)] [] (zRh p S G1 Q) := s1
      rw [s1']
      simp only [g79_39, g79_40, g79_42, rfp3, Option.bind_some]
      exact o1 _
    · have hm8 : m < 8 := hm
      show zGA (fun i => G' 2 (63 * m + i)) (if 8 = 8 then (if m = 7 then A else K (m + 1)) else (if m = 8 then A else K m))
      rw [if_pos rfl]
      by_cases z : m = 7
      · subst z
        rw [if_pos rfl]
        exact zGA_congr hG N12 fun i hi => o7 i hi
      · rw [if_neg z]
        refine zGA_congr (hK (m + 1) (by omega)) (hV _ (by omega)) fun i hi => ?_
        show G' 2 (63 * m + i) = G 2 (63 * (m + 1) + i)
        rw [o8 _ (by omega), s2 _ (Nat.zero_le _) (by omega)]
        congr 1
        omega
  · have nz : ¬ nI kept = 8 := fun w => q ((nI_eq (a := kept) (b := 8) (by omega) (by decide)).mp w)
    obtain ⟨S', G', Q', o0, -, o2, o3, o4, o5, o6, o7, o8⟩ := rest S G kept (by omega) h3 rfl
    refine ⟨S', G', Q', ?_, o2, o3, o4, by rw [Nat.min_eq_left (by omega)]; exact o5, o6, fun m hm => ?_⟩
    · simp only [g79_0, g79_1, g79_4, rg3, h3, Option.bind_some]
      rw [g79_6, if_pos nz]
      exact o0
    · rw [Nat.min_eq_left (by omega)] at hm
      show zGA (fun i => G' 2 (63 * m + i)) (if kept = 8 then (if m = 7 then A else K (m + 1)) else (if m = kept then A else K m))
      rw [if_neg q]
      by_cases z : m = kept
      · subst z
        rw [if_pos rfl]
        exact zGA_congr hG N12 fun i hi => o7 i hi
      · rw [if_neg z]
        exact zGA_congr (hK m (by omega)) (hV _ (by omega)) fun i hi => o8 _ (by omega)
end RMUT
