/-! sets() -/
def pgR (S : Nat → Int32) (G : Nat → Nat → Int32) (L : List PG) : Prop := S 29 = nI L.length ∧ ∀ q, q < L.length → G 24 q = (Lg L q).1 ∧ G 25 q = (Lg L q).2.1 ∧ G 26 q = (Lg L q).2.2
def sF (S S' : Nat → Int32) (G G' : Nat → Nat → Int32) : Prop := (∀ j, j ≠ 5 → j ≠ 29 → S' j = S j) ∧ ∀ a, (a < 3 ∨ 26 < a) → G' a = G a
theorem sF_rf {S : Nat → Int32} {G : Nat → Nat → Int32} : sF S S G G := ⟨fun _ _ _ => rfl, fun _ _ => rfl⟩
theorem sF_tr {S S' S'' : Nat → Int32} {G G' G'' : Nat → Nat → Int32} (h1 : sF S S' G G') (h2 : sF S' S'' G' G'') : sF S S'' G G'' := ⟨fun j h3 h4 => (h2.1 j h3 h4).trans (h1.1 j h3 h4), fun a ha => (h2.2 a ha).trans (h1.2 a ha)⟩
theorem sF_d {S S' : Nat → Int32} {G G' : Nat → Nat → Int32} (h : dF S S' G G') : sF S S' G G' := ⟨fun j h3 _ => h.1 j h3, fun a ha => h.2 a (by omega)⟩
theorem sF_b {S S' : Nat → Int32} {G G' : Nat → Nat → Int32} (h : bF0 S S' G G') : sF S S' G G' := ⟨fun j h3 _ => h.1 j h3, fun a ha => h.2 a (by omega)⟩
noncomputable def exI (A : AV) : Int32 := match (DD A 0 0).1 with
  | none => 0
  | some _ => 1
section SETS
variable {p : ZP} {A : AV}
theorem c_layR (d : Nat) {S : Nat → Int32} {G : Nat → Nat → Int32} {Q : Nat → Nat → Int64} {L : List PG} (hp : pgR S G L) (hl : L.length < 64) (x y z : Int32) : ∃ S' G', zcl (d + 1) 122 [.ref 256, .int x, .int y, .int z] (zRh p S G Q) = some (none, zRh p S' G' Q) ∧ pgR S' G' (L ++ [(x, y, z)]) ∧ (∀ j, j ≠ 29 → S' j = S j) ∧ ∀ a, (a < 24 ∨ 26 < a) → G' a = G a := by
  have eL : (L ++ [(x, y, z)]).length = L.length + 1 := by rw [List.length_append]; rfl
  refine ⟨upd S 29 (nI (L.length + 1)), ug (ug (ug G 24 L.length x) 25 L.length y) 26 L.length z, ?_, ⟨by rw [eL]; exact pk_us, fun q hq => ?_⟩, fun j hj => pk_un hj, fun a ha => by rw [ug_n (by omega), ug_n (by omega), ug_n (by omega)]⟩
  · rw [e122]
    simp only [g122_0, g122_1, g122_4, g122_5, g122_8, g122_9, g122_10, g122_11, g122_14, g122_15, g122_18, g122_19, g122_20, g122_21, g122_24, g122_25, g122_28, g122_29, g122_30, g122_31, g122_32, g122_35, g122_36, g122_37, g122_40, rg29, rg30, rg31, rg32, hp.1, rw24 hl, rw25 hl, rw26 hl, nI_1, rfp29, Option.bind_some]
  · rw [eL] at hq
    by_cases e : q = L.length
    · subst e
      rw [Lg_new]
      refine ⟨?_, ?_, ug_a⟩
      · rw [ug_n (by decide), ug_n (by decide), ug_a]
      · rw [ug_n (by decide), ug_a]
    · rw [Lg_old (by omega), ug_i e, ug_i e, ug_i e, ug_i e, ug_i e, ug_i e, ug_i e, ug_i e, ug_i e]
      exact hp.2 q (by omega)
/-- the first page that gives the least -/
theorem sets_k (d : Nat) (hA : zVa A) {S : Nat → Int32} {G : Nat → Nat → Int32} {Q : Nat → Nat → Int64} {i o v : Nat} (hi : i < A.1) (hw : ¬ A.2.2.2 (5 * i + 3) = 1) (ht : ¬ aT A i) (ho : o ≤ 1) (hv : (DD A i o).1 = some v) (he : ∀ q o, q ≤ A.1 → o ≤ 1 → enR G (2 * q + o) (rE A q o)) (hl : lcS A G i 4) :
    ∀ (r k : Nat), k + r = (DD A i o).2.2 → 1 ≤ k → zres (d + 8) 123 84 [.ref 256, .int (nI i), .int (nI o), .int (nI k)] [] (zRh p S G Q) = zres (d + 8) 123 167 [.ref 256, .int (nI i), .int (nI o), .int (nI (DD A i o).2.2)] [] (zRh p S G Q) := by
  have hwi : ∀ x, Value.category (.int x) = 1 := fun _ => rfl
  have N12 := hA.1
  have vl := DD_lt hA ho hv
  obtain ⟨⟨b1, b2, b3, w, b4, b5⟩, b6⟩ := DD_plain hA hi hw hv
  generalize (DD A i o).2.2 = n at *
  have s2 : (2 : Int32) * nI i = nI (2 * i) := by rw [show (2 : Int32) = nI 2 from rfl, pk_mul]
  have b26 : 2 * i + o < 26 := by omega
  have eV : G 21 (2 * i + o) = nI v := by
    rw [(he i o (by omega) ho).1, show rE A i o = DD A i o from cif_neg ht, hv]
    rfl
  -- one step: the sum is looked at
  have look : ∀ (k r : Nat), 1 ≤ k → k ≤ 4 → aO A i k → (DD A (i + k) (1 - o)).1 = some r → zres (d + 8) 123 84 [.ref 256, .int (nI i), .int (nI o), .int (nI k)] [] (zRh p S G Q) = zres (d + 8) 123 157 [.ref 256, .int (nI i), .int (nI o), .int (nI k)] [.int (nI v), .int (nI (aP A i k + r))] (zRh p S G Q) := by
    intro k r h1 h2 h3 h4
    have ix := ix4 (v := i) (k := k) h1
    have b48 : 4 * i + k - 1 < 48 := by omega
    have eL : G 23 (4 * i + k - 1) = nI (aP A i k) := by
      rw [hl k h1 h2]
      unfold lcv
      rw [cif_pos ⟨h3.2, hw, ht, h3.1⟩]
    have ap := aP_le hA h3.2
    have kN := h3.2.2.2.1
    have rl := DD_lt hA (show 1 - o ≤ 1 by omega) h4
    have nv := nvr_n (v := aP A i k) (by omega)
    have nr := nvr_n (v := r) (by omega)
    have b27 : 2 * (i + k) + (1 - o) < 26 := by omega
    have eR : G 21 (2 * (i + k) + (1 - o)) = nI r := by
      rw [(he (i + k) (1 - o) kN (by omega)).1, show rE A (i + k) (1 - o) = DD A (i + k) (1 - o) from cif_neg h3.1, h4]
      rfl
    have s3 : (2 : Int32) * nI (i + k) = nI (2 * (i + k)) := by rw [show (2 : Int32) = nI 2 from rfl, pk_mul]
    have sN : nI (2 * (i + k) + 1) - nI o = nI (2 * (i + k) + (1 - o)) := by
      rw [pk_sub (by omega)]
      congr 1
      omega
    simp only [g123_84, g123_85, g123_88, g123_89, g123_90, g123_91, g123_92, g123_93, g123_94, g123_95, g123_96, rg28, ix, ra23 b48, eL, Option.bind_some]
    rw [g123_98, if_neg nv.2.1]
    simp only [g123_101, g123_102, g123_105, g123_106, g123_107, g123_108, g123_109, g123_110, g123_111, g123_112, g123_113, g123_114, g123_115, rg26, nI_add, s3, nI_1, sN, ra21 b27, eR, Option.bind_some]
    rw [g123_117, if_neg nr.2.1]
    simp only [g123_120, g123_121, g123_124, g123_125, g123_126, g123_127, g123_128, g123_129, g123_130, g123_131, g123_132, g123_133, g123_136, g123_137, g123_138, g123_139, g123_140, g123_141, g123_142, g123_143, g123_144, g123_145, g123_146, g123_147, g123_148, g123_151, g123_152, g123_153, g123_154, g123_155, g123_156, rg26, rg28, nI_add, s2, s3, nI_1, sN, ix, ra23 b48, eL, ra21 b27, eR, ra21 b26, eV, Option.bind_some]
  intro r
  induction r with
  | zero =>
    intro k hk h1
    obtain rfl : k = n := by omega
    rw [look k w b1 b2 b3 b4, b5, g123_157, if_pos rfl]
  | succ r ih =>
    intro k hk h1
    have k4 : k ≤ 4 := by omega
    have next : zres (d + 8) 123 160 [.ref 256, .int (nI i), .int (nI o), .int (nI k)] [] (zRh p S G Q) = zres (d + 8) 123 167 [.ref 256, .int (nI i), .int (nI o), .int (nI n)] [] (zRh p S G Q) := by
      have h2 := ih (k + 1) (by omega) (by omega)
      simp only [g123_160, g123_161, g123_162, g123_163, g123_164, hwi, nI_1]
      exact h2
    by_cases q : aO A i k
    · cases hb : (DD A (i + k) (1 - o)).1 with
      | none =>
        have ix := ix4 (v := i) (k := k) h1
        have b48 : 4 * i + k - 1 < 48 := by omega
        have eL : G 23 (4 * i + k - 1) = nI (aP A i k) := by
          rw [hl k h1 k4]
          unfold lcv
          rw [cif_pos ⟨q.2, hw, ht, q.1⟩]
        have ap := aP_le hA q.2
        have kN := q.2.2.2.1
        have nv := nvr_n (v := aP A i k) (by omega)
        have b27 : 2 * (i + k) + (1 - o) < 26 := by omega
        have eR : G 21 (2 * (i + k) + (1 - o)) = 1000000000 := by
          rw [(he (i + k) (1 - o) kN (by omega)).1, show rE A (i + k) (1 - o) = DD A (i + k) (1 - o) from cif_neg q.1, hb]
          rfl
        have s3 : (2 : Int32) * nI (i + k) = nI (2 * (i + k)) := by rw [show (2 : Int32) = nI 2 from rfl, pk_mul]
        have sN : nI (2 * (i + k) + 1) - nI o = nI (2 * (i + k) + (1 - o)) := by
          rw [pk_sub (by omega)]
          congr 1
          omega
        simp only [g123_84, g123_85, g123_88, g123_89, g123_90, g123_91, g123_92, g123_93, g123_94, g123_95, g123_96, rg28, ix, ra23 b48, eL, Option.bind_some]
        rw [g123_98, if_neg nv.2.1]
        simp only [g123_101, g123_102, g123_105, g123_106, g123_107, g123_108, g123_109, g123_110, g123_111, g123_112, g123_113, g123_114, g123_115, rg26, nI_add, s3, nI_1, sN, ra21 b27, eR, Option.bind_some]
        rw [g123_117, if_pos rfl]
        exact next
      | some r0 =>
        have lt := (b6 k r0 h1 k4 q hb).2 (by omega)
        have ap := aP_le hA q.2
        have rl := DD_lt hA (show 1 - o ≤ 1 by omega) hb
        rw [look k r0 h1 k4 q hb, g123_157, if_neg (fun z => by
          have := (nI_eq (a := aP A i k + r0) (b := v) (by omega) (by omega)).mp z
          omega)]
        exact next
    · have ix := ix4 (v := i) (k := k) h1
      have b48 : 4 * i + k - 1 < 48 := by omega
      have eL : G 23 (4 * i + k - 1) = 1000000000 := by
        rw [hl k h1 k4]
        unfold lcv
        rw [cif_neg (fun z => q ⟨z.2.2.2, z.1⟩)]
      simp only [g123_84, g123_85, g123_88, g123_89, g123_90, g123_91, g123_92, g123_93, g123_94, g123_95, g123_96, rg28, ix, ra23 b48, eL, Option.bind_some]
      rw [g123_98, if_pos rfl]
      exact next
theorem sets_l (d : Nat) (hA : zVa A) :
    ∀ (r st i : Nat) (L : List PG) (S : Nat → Int32) (G : Nat → Nat → Int32) (Q : Nat → Nat → Int64) (l2 l3 : Value), st + r = 12 → st ≤ i → rI A i L → zGA (G 1) A → pgR S G L → (∀ q o, q ≤ A.1 → o ≤ 1 → enR G (2 * q + o) (rE A q o)) → (∀ q, q < A.1 → lcS A G q 4) →
      ∃ S' G' Q', zres (d + 8) 123 24 [.ref 256, .int (nI i), l2, l3] [] (zRh p S G Q) = some (some (.int 1), zRh p S' G' Q') ∧ sF S S' G G' ∧ pgR S' G' (pgs A r i L) ∧ G' 21 = G 21 ∧ G' 22 = G 22 := by
  have z0 : zcs [] ≤ 8 := by decide
  have z3 : ∀ x y w, zcs [.int x, .int y, .ref w] ≤ 8 := fun _ _ _ => Nat.le_of_ble_eq_true rfl
  have hwi : ∀ x, Value.category (.int x) = 1 := fun _ => rfl
  have hwr : ∀ x, Value.category (.ref x) = 1 := fun _ => rfl
  have N12 := hA.1
  have fin : ∀ (S : Nat → Int32) (G : Nat → Nat → Int32) (Q : Nat → Nat → Int64) (l2 l3 : Value), zGA (G 1) A → zres (d + 8) 123 24 [.ref 256, .int (nI A.1), l2, l3] [] (zRh p S G Q) = some (some (.int 1), zRh p S G Q) := by
    intro S G Q l2 l3 hG
    have c1 : nI A.1 ≤ nI A.1 := nI_le (Nat.le_refl _) (by omega)
    simp only [g123_24, g123_25, g123_26, g123_29, g123_30, g123_31, rg1, ra1z, hG.1, c1, Option.bind_some, ↓reduceIte]
    rw [g123_186, g123_187 zone]
  intro r
  induction r with
  | zero =>
    intro st i L S G Q l2 l3 hst hsi hr hG hp he hl
    have r4 := hr.2.2.2
    obtain rfl : i = A.1 := by omega
    exact ⟨S, G, Q, fin S G Q l2 l3 hG, sF_rf, hp, rfl, rfl⟩
  | succ r ih =>
    intro st i L S G Q l2 l3 hst hsi hr hG hp he hl
    have r4 := hr.2.2.2
    by_cases hi : A.1 ≤ i
    · obtain rfl : i = A.1 := by omega
      have eL : pgs A (r + 1) A.1 L = L := if_pos (Nat.le_refl _)
      rw [eL]
      exact ⟨S, G, Q, fin S G Q l2 l3 hG, sF_rf, hp, rfl, rfl⟩
    · have hiN : i < A.1 := by omega
      have r3 := hr.2.2.1
      have c1 : ¬ nI A.1 ≤ nI i := nI_ge hiN (by omega)
      have n2 : ¬ (2 : Int32) = 0 := by decide
      have rem : nI L.length - nI L.length / 2 * 2 = nI (L.length % 2) := by
        rw [show (2 : Int32) = nI 2 from rfl]
        exact pk_rem (by omega) (by decide) (by decide)
      have iw := c_isWideR (p := p) (S := S) (G := G) (Q := Q) (d + 7) (i := i) hG N12 hiN
      have pre : zres (d + 8) 123 24 [.ref 256, .int (nI i), l2, l3] [] (zRh p S G Q) = zres (d + 8) 123 46 [.ref 256, .int (nI i), .int (nI (L.length % 2)), l3] [.int (if A.2.2.2 (5 * i + 3) = 1 then 1 else 0)] (zRh p S G Q) := by
        simp only [g123_24, g123_25, g123_26, g123_29, g123_30, g123_31, rg1, ra1z, hG.1, c1, Option.bind_some, ↓reduceIte]
        simp only [g123_34, g123_35, g123_38, g123_39, g123_40, g123_41, g123_42, g123_43, rg29, hp.1, n2, not_false_eq_true, rem, iw, z0, rb0, hwi, Option.bind_some, Option.toList_some, List.cons_append, List.nil_append]
      rw [pre]
      by_cases hw : A.2.2.2 (5 * i + 3) = 1
      · obtain ⟨nr, -⟩ := rI_wide hA hr hiN hw
        have eP : pgs A (r + 1) i L = pgs A r (i + 1) ((if L.length % 2 = 1 then L ++ [(0, -1, -1)] else L) ++ [(1, nI i, 0), (1, nI i, 0)]) := by
          show (if A.1 ≤ i then L else if A.2.2.2 (5 * i + 3) = 1 then _ else _) = _
          rw [if_neg hi, if_pos hw]
        rw [eP]
        have emp : ∃ S1 G1 L1, L1 = (if L.length % 2 = 1 then L ++ [(0, -1, -1)] else L) ∧ zres (d + 8) 123 49 [.ref 256, .int (nI i), .int (nI (L.length % 2)), l3] [] (zRh p S G Q) = zres (d + 8) 123 61 [.ref 256, .int (nI i), .int (nI (L.length % 2)), l3] [] (zRh p S1 G1 Q) ∧ pgR S1 G1 L1 ∧ (∀ j, j ≠ 29 → S1 j = S j) ∧ (∀ a, (a < 24 ∨ 26 < a) → G1 a = G a) ∧ L1.length ≤ 2 * i := by
          by_cases z : L.length % 2 = 1
          · obtain ⟨S1, G1, o1, o2, o3, o4⟩ := c_layR (p := p) (Q := Q) (d + 7) hp (by omega) 0 (-1) (-1)
            refine ⟨S1, G1, _, rfl, ?_, by rw [if_pos z]; exact o2, o3, o4, by rw [if_pos z, List.length_append]; show L.length + 1 ≤ _; omega⟩
            simp only [g123_49, g123_50, z]
            rw [g123_51, if_neg (fun w => w rfl)]
            simp only [g123_54, g123_55, g123_56, g123_57, g123_58, o1, z0, rb0, Option.bind_some, Option.toList_none, List.nil_append]
          · have z2 : L.length % 2 = 0 := by omega
            refine ⟨S, G, _, rfl, ?_, by rw [if_neg z]; exact hp, fun _ _ => rfl, fun _ _ => rfl, by rw [if_neg z]; omega⟩
            simp only [g123_49, g123_50, z2]
            rw [g123_51, if_pos (by decide)]
        obtain ⟨S1, G1, L1, eL1, q1, q2, q3, q4, q5⟩ := emp
        rw [← eL1] at nr ⊢
        obtain ⟨S2, G2, t1, t2, t3, t4⟩ := c_layR (p := p) (Q := Q) (d + 7) q2 (by omega) 1 (nI i) 0
        obtain ⟨S3, G3, u1, u2, u3, u4⟩ := c_layR (p := p) (Q := Q) (d + 7) t2 (by rw [List.length_append]; show L1.length + 1 < 64; omega) 1 (nI i) 0
        rw [List.append_assoc] at u2
        have gc : ∀ a, (a < 24 ∨ 26 < a) → G3 a = G a := fun a ha => by rw [u4 a ha, t4 a ha, q4 a ha]
        have sc : ∀ j, j ≠ 29 → S3 j = S j := fun j hj => by rw [u3 j hj, t3 j hj, q3 j hj]
        obtain ⟨S', G', Q', o1, o2, o3, o4, o5⟩ := ih (st + 1) (i + 1) (L1 ++ [(1, nI i, 0), (1, nI i, 0)]) S3 G3 Q (.int (nI (L.length % 2))) l3 (by omega) (by omega) nr (by rw [gc 1 (by omega)]; exact hG) u2 (fun q o h1 h2 => by
          unfold enR
          rw [gc 21 (by omega), gc 22 (by omega)]
          exact he q o h1 h2) (fun q h1 k h2 h3 => by rw [gc 23 (by omega)]; exact hl q h1 k h2 h3)
        refine ⟨S', G', Q', ?_, sF_tr ⟨fun j _ h4 => sc j h4, fun a ha => gc a (by omega)⟩ o2, o3, by rw [o4, gc 21 (by omega)], by rw [o5, gc 22 (by omega)]⟩
        rw [if_pos hw, g123_46, if_neg (by decide), q1]
        simp only [g123_61, g123_62, g123_63, g123_64, g123_65, t1, z0, rb0, Option.bind_some, Option.toList_none, List.nil_append]
        simp only [g123_68, g123_69, g123_70, g123_71, g123_72, g123_75, g123_76, g123_77, g123_78, g123_79, u1, z0, rb0, hwi, hwr, nI_1, Option.bind_some, Option.toList_none, List.nil_append]
        exact o1
      · obtain ⟨nr, tk1, tk4, tkO⟩ := rI_plain hA hr hiN hw
        obtain ⟨v, hv⟩ := hr.2.1
        have sk := sets_k (p := p) (S := S) (Q := Q) d hA hiN hw hr.1 (show L.length % 2 ≤ 1 by omega) hv he (hl i hiN)
        have eP : pgs A (r + 1) i L = pgs A r (i + (DD A i (L.length % 2)).2.2) (L ++ [(nI (DD A i (L.length % 2)).2.2, nI i, nI (aB A i (DD A i (L.length % 2)).2.2))]) := by
          show (if A.1 ≤ i then L else if A.2.2.2 (5 * i + 3) = 1 then _ else _) = _
          rw [if_neg hi, if_neg hw]
        rw [eP]
        generalize (DD A i (L.length % 2)).2.2 = n at *
        obtain ⟨S1, G1, Q1, b1, b2⟩ := c_bestOf (p := p) (S := S) (G := G) (Q := Q) (d + 1) hG hA tkO.2
        have hp1 : pgR S1 G1 L := ⟨by rw [b2.1 29 (by decide)]; exact hp.1, fun q hq => by rw [b2.2 24 (by omega), b2.2 25 (by omega), b2.2 26 (by omega)]; exact hp.2 q hq⟩
        obtain ⟨S2, G2, t1, t2, t3, t4⟩ := c_layR (p := p) (Q := Q1) (d + 7) hp1 (by omega) (nI n) (nI i) (nI (aB A i n))
        have gc : ∀ a, (a < 3 ∨ (9 < a ∧ a < 24) ∨ 26 < a) → G2 a = G a := fun a ha => by rw [t4 a (by omega), b2.2 a (by omega)]
        obtain ⟨S', G', Q', o1, o2, o3, o4, o5⟩ := ih (st + 1) (i + n) (L ++ [(nI n, nI i, nI (aB A i n))]) S2 G2 Q1 (.int (nI (L.length % 2))) (.int (nI n)) (by omega) (by omega) nr (by rw [gc 1 (by omega)]; exact hG) t2 (fun q o h1 h2 => by
          unfold enR
          rw [gc 21 (by omega), gc 22 (by omega)]
          exact he q o h1 h2) (fun q h1 k h2 h3 => by rw [gc 23 (by omega)]; exact hl q h1 k h2 h3)
        refine ⟨S', G', Q', ?_, sF_tr ⟨fun j h3 h4 => by rw [t3 j h4, b2.1 j h3], fun a ha => gc a (by omega)⟩ o2, o3, by rw [o4, gc 21 (by omega)], by rw [o5, gc 22 (by omega)]⟩
        rw [if_neg hw, g123_46, if_pos rfl]
        simp only [g123_82, g123_83, hwi]
        have sk' : zres (d + 8) 123 84 [.ref 256, .int (nI i), .int (nI (L.length % 2)), .int 1] [] (zRh p S G Q) = zres (d + 8) 123 167 [.ref 256, .int (nI i), .int (nI (L.length % 2)), .int (nI n)] [] (zRh p S G Q) := sk (n - 1) 1 (by omega) (Nat.le_refl _)
        rw [sk']
        simp only [g123_167, g123_168, g123_169, g123_170, g123_171, g123_172, g123_173, b1, z3, rb0, Option.bind_some, Option.toList_some, List.cons_append, List.nil_append]
        simp only [g123_176 z0 rb0, t1, Option.bind_some, Option.toList_none, List.nil_append]
        simp only [g123_179, g123_180, g123_181, g123_182, g123_183, nI_add, hwi, hwr]
        exact o1
theorem c_sets (d : Nat) (hA : zVa A) (S : Nat → Int32) (G : Nat → Nat → Int32) (Q : Nat → Nat → Int64) (hG : zGA (G 1) A) :
    ∃ S' G' Q', zcl (d + 9) 123 [.ref 256] (zRh p S G Q) = some (some (.int (exI A)), zRh p S' G' Q') ∧ sF S S' G G' ∧ pgR S' G' (PGS A) ∧ G' 21 0 = en2 (DD A 0 0).1 ∧ G' 22 0 = (DD A 0 0).2.1 := by
  have z0 : zcs [] ≤ 8 := by decide
  have hwi : ∀ x, Value.category (.int x) = 1 := fun _ => rfl
  have hwr : ∀ x, Value.category (.ref x) = 1 := fun _ => rfl
  obtain ⟨S1, G1, Q1, a1, a2, a3, a4⟩ := c_books0 (p := p) d hA S G Q hG
  have hG1 : zGA (G1 1) A := by rw [a2.2 1 (by omega)]; exact hG
  have t0 : ¬ aT A 0 := fun t => absurd t.1 (Nat.lt_irrefl _)
  have e0 := a3 0 0 (Nat.zero_le _) (by decide)
  rw [show rE A 0 0 = DD A 0 0 from cif_neg t0] at e0
  have r0 : zald 10 (zRh p (upd S1 29 0) G1 Q1) 277 0 = some (.int (en2 (DD A 0 0).1)) := (ra21 (j := 0) (by decide)).trans (by rw [← e0.1])
  have f1 : sF S (upd S1 29 0) G G1 := sF_tr (sF_b a2) ⟨fun j _ h4 => pk_un h4, fun _ _ => rfl⟩
  have pre : zcl (d + 9) 123 [.ref 256] (zRh p S G Q) = zres (d + 8) 123 17 [.ref 256, zj, zj, zj] [.int 1000000000, .int (en2 (DD A 0 0).1)] (zRh p (upd S1 29 0) G1 Q1) := by
    rw [e123]
    simp only [g123_0, g123_1, g123_4, g123_5, g123_6, g123_9, g123_10, g123_13, g123_14, g123_15, a1, z0, rb0, rfp29, rg26, r0, Option.bind_some, Option.toList_none, List.nil_append]
  rw [pre]
  unfold exI PGS
  cases hd : (DD A 0 0).1 with
  | none =>
    refine ⟨upd S1 29 0, G1, Q1, ?_, f1, ⟨pk_us, fun q hq => absurd hq (Nat.not_lt_zero q)⟩, by rw [← hd]; exact e0.1, e0.2⟩
    rw [g123_17, if_neg (fun w => w rfl), g123_20, g123_21 zzero]
  | some v =>
    have vl := DD_lt hA (show 0 ≤ 1 by decide) hd
    have nv := nvr_n (v := v) (by omega)
    obtain ⟨S', G', Q', o1, o2, o3, o4, o5⟩ := sets_l (p := p) d hA 12 0 0 [] (upd S1 29 0) G1 Q1 zj zj (by omega) (by omega) ⟨t0, ⟨v, hd⟩, by decide, Nat.zero_le _⟩ hG1 ⟨pk_us, fun q hq => absurd hq (Nat.not_lt_zero q)⟩ a3 a4
    refine ⟨S', G', Q', ?_, sF_tr f1 o2, o3, by rw [o4, ← hd]; exact e0.1, by rw [o5]; exact e0.2⟩
    rw [g123_17, if_pos (show ¬ en2 (some v) = (1000000000 : Int32) from nv.2.1)]
    simp only [g123_22, g123_23, hwi, hwr]
    exact o1
end SETS
