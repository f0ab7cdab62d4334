/-! page, picture, change, swap, drop, undo of the reference -/
/-- what a change leaves in the reference: album A' now, A before, kept albums -/
def zrD (S S' : Nat → Int32) (G' : Nat → Nat → Int32) (A A' : AV) (kept : Nat) (K : Nat → AV) : Prop := S' 4 = 1 ∧ zGA (G' 1) A' ∧ S' 33 = 1 ∧ oldR S' G' A ∧ S' 3 = nI kept ∧ kR (G' 2) kept K
def kNx (kept : Nat) (K : Nat → AV) (A : AV) : Nat → AV := fun m => if kept = 8 then (if m = 7 then A else K (m + 1)) else (if m = kept then A else K m)
theorem oldR_g {S S' : Nat → Int32} {G G' : Nat → Nat → Int32} {B : AV} (h : oldR S G B) (h1 : S' 34 = S 34) (h2 : S' 35 = S 35) (h3 : ∀ a, 26 < a → G' a = G a) : oldR S' G' B := ⟨h1.trans h.1, h2.trans h.2.1, fun q hq => by rw [h3 27 (by omega), h3 28 (by omega), h3 29 (by omega)]; exact h.2.2 q hq⟩
section RMUT2
variable {p : ZP} {S : Nat → Int32} {G : Nat → Nat → Int32} {Q : Nat → Nat → Int64} {A : AV} {kept : Nat} {K : Nat → AV}
/-- begins() and keep(), one behind the other -/
theorem c_bk (hR : zRs S G A) (hA : zVa A) (h3 : S 3 = nI kept) (hk : kept ≤ 8) (hK : kR (G 2) kept K) (hV : ∀ m, m < kept → (K m).1 ≤ 12) : ∃ S1 G1, (∀ (d : Nat) (p : ZP) (Q : Nat → Nat → Int64), zcl (d + 1) 78 [.ref 256] (zRh p (upd S 0 0) G Q) = some (none, zRh p S1 G1 Q)) ∧ zGA (G1 1) A ∧ ∀ (d : Nat) (p : ZP) (Q : Nat → Nat → Int64), ∃ S' G' Q', zcl (d + 11) 79 [.ref 256] (zRh p S1 G1 Q) = some (none, zRh p S' G' Q') ∧ zGA (G' 1) A ∧ zrD S S' G' A A (min (kept + 1) 8) (kNx kept K A) := by
  obtain ⟨S1, G1, b0, b1, b2, b3, b4⟩ := c_beg hR
  refine ⟨S1, G1, b0, b2, fun d p Q => ?_⟩
  obtain ⟨S', G', Q', o1, o2, o3, o4, o5, o6, o7⟩ := c_keepR (p := p) d hA S1 G1 Q b2 ((b3 3 (by decide) (by decide)).trans h3) hk (by rw [b4 2 (by decide)]; exact hK) hV
  have hg : zGA (G' 1) A := by rw [o6]; exact b2
  exact ⟨S', G', Q', o1, hg, by rw [o4 4 (by decide) (by decide) (by decide) (by decide) (by decide) (by decide)]; exact b1, hg, o2, o3, o5, o7⟩
theorem zrD_g {A' : AV} {S2 : Nat → Int32} {G2 G' : Nat → Nat → Int32} {k2 : Nat} {K2 : Nat → AV} (h : zrD S S2 G2 A A k2 K2) (hg : zGA (G' 1) A') (hc : ∀ a, a ≠ 1 → G' a = G2 a) : zrD S S2 G' A A' k2 K2 := ⟨h.1, hg, h.2.2.1, oldR_g h.2.2.2.1 rfl rfl fun a ha => hc a (by omega), h.2.2.2.2.1, by rw [hc 2 (by decide)]; exact h.2.2.2.2.2⟩
theorem r_page (d : Nat) (hR : zRs S G A) (hA : zVa A) (h3 : S 3 = nI kept) (hk : kept ≤ 8) (hK : kR (G 2) kept K) (hV : ∀ m, m < kept → (K m).1 ≤ 12) {W H : Nat} (hW : 20 ≤ W ∧ W ≤ 200) (hH : 20 ≤ H ∧ H ≤ 200) : ∃ S' G' Q', zcl (d + 12) 84 [.ref 256, .int (nI W), .int (nI H)] (zRh p S G Q) = some (some (.int 1), zRh p S' G' Q') ∧ zrD S S' G' A (A.1, W, H, A.2.2.2) (min (kept + 1) 8) (kNx kept K A) := by
  have z0 : zcs [] ≤ 8 := by decide
  obtain ⟨S1, G1, b0, b2, kp⟩ := c_bk hR hA h3 hk hK hV
  obtain ⟨S2, G2, Q2, o1, o2, o3⟩ := kp d p Q
  have c1 : ¬ nI W < 20 := nI_nlt (b := 20) hW.1 (by omega)
  have c2 : ¬ (200 : Int32) < nI W := nI_nlt (a := 200) hW.2 (by decide)
  have c3 : ¬ nI H < 20 := nI_nlt (b := 20) hH.1 (by omega)
  have c4 : nI H ≤ 200 := nI_le (b := 200) hH.2 (by decide)
  have w1 : zast 10 (zRh p S2 G2 Q2) 257 1 (.int (nI W)) = some (zRh p S2 (ug G2 1 1 (nI W)) Q2) := rw1 (j := 1) (by decide)
  have w2 : zast 10 (zRh p S2 (ug G2 1 1 (nI W)) Q2) 257 2 (.int (nI H)) = some (zRh p S2 (ug (ug G2 1 1 (nI W)) 1 2 (nI H)) Q2) := rw1 (j := 2) (by decide)
  refine ⟨S2, ug (ug G2 1 1 (nI W)) 1 2 (nI H), Q2, ?_, zrD_g o3 ⟨?_, ?_, ug_a, fun j hj => ?_⟩ fun a ha => by rw [ug_n ha, ug_n ha]⟩
  · rw [e84]
    simp only [g84_0, g84_1, g84_2, g84_5, g84_6, rfp0, b0 (d + 10), z0, rb0, Option.bind_some, Option.toList_none, List.nil_append]
    simp only [g84_9, g84_10, g84_12, c1, ↓reduceIte]
    simp only [g84_15, g84_16, g84_19, c2, ↓reduceIte]
    simp only [g84_22, g84_23, g84_25, c3, ↓reduceIte]
    simp only [g84_28, g84_29, g84_32, c4, ↓reduceIte]
    simp only [g84_37, g84_38, g84_41, g84_42, g84_45, g84_46, g84_47, g84_48, g84_49, g84_52, g84_53, g84_54, g84_55, rg1, o1, w1, w2, z0, rb0, Option.bind_some, Option.toList_none, List.nil_append]
    exact g84_56 zone
  · rw [ug_i (by decide), ug_i (by decide)]; exact o2.1
  · rw [ug_i (by decide), ug_a]
  · rw [ug_i (by omega), ug_i (by omega)]; exact o2.2.2.2 j hj
theorem r_page_no (d : Nat) (hR : zRs S G A) {w x : Int32} (hn : ¬ ((20 ≤ w ∧ w ≤ 200) ∧ (20 ≤ x ∧ x ≤ 200))) : ∃ S' G', zcl (d + 12) 84 [.ref 256, .int w, .int x] (zRh p S G Q) = some (some (.int 0), zRh p S' G' Q) ∧ zsF A S S' G G' := by
  have z0 : zcs [] ≤ 8 := by decide
  obtain ⟨S1, G1, b0, b1, b2, b3, b4⟩ := c_beg hR
  refine ⟨S1, G1, ?_, zsF_of b1 b2 b3 b4 sF_rf⟩
  have no : ∀ L, zres (d + 11) 84 35 L [] (zRh p S1 G1 Q) = some (some (.int 0), zRh p S1 G1 Q) := fun L => by rw [g84_35, g84_36 zzero]
  rw [e84]
  simp only [g84_0, g84_1, g84_2, g84_5, g84_6, rfp0, b0 (d + 10), z0, rb0, Option.bind_some, Option.toList_none, List.nil_append]
  by_cases c1 : w < 20
  · simp only [g84_9, g84_10, g84_12, c1, ↓reduceIte]
    exact no _
  simp only [g84_9, g84_10, g84_12, c1, ↓reduceIte]
  by_cases c2 : (200 : Int32) < w
  · simp only [g84_15, g84_16, g84_19, c2, ↓reduceIte]
    exact no _
  simp only [g84_15, g84_16, g84_19, c2, ↓reduceIte]
  by_cases c3 : x < 20
  · simp only [g84_22, g84_23, g84_25, c3, ↓reduceIte]
    exact no _
  simp only [g84_22, g84_23, g84_25, c3, ↓reduceIte]
  have c4 : ¬ x ≤ 200 := fun c4 => hn ⟨⟨i_nlt.mp c1, i_nlt.mp c2⟩, i_nlt.mp c3, c4⟩
  simp only [g84_28, g84_29, g84_32, c4, ↓reduceIte]
  exact no _
/-- puts -/
theorem c_puts (d : Nat) {S : Nat → Int32} {G : Nat → Nat → Int32} {j : Nat} (hj : j < 12) (w x v k g : Int32) : ∃ G', zcl (d + 1) 83 [.ref 256, .int (nI j), .int w, .int x, .int v, .int k, .int g] (zRh p S G Q) = some (none, zRh p S G' Q) ∧ (∀ a, a ≠ 1 → G' a = G a) ∧ (∀ i, (i < 3 + 5 * j ∨ 3 + 5 * j + 5 ≤ i) → G' 1 i = G 1 i) ∧ G' 1 (3 + 5 * j) = w ∧ G' 1 (3 + 5 * j + 1) = x ∧ G' 1 (3 + 5 * j + 2) = v ∧ G' 1 (3 + 5 * j + 3) = k ∧ G' 1 (3 + 5 * j + 4) = g := by
  have hwi : ∀ x, Value.category (.int x) = 1 := fun _ => rfl
  have a1 : nI (3 + 5 * j) + 1 = nI (3 + 5 * j + 1) := nI_add _ 1
  have a2 : nI (3 + 5 * j) + 2 = nI (3 + 5 * j + 2) := nI_add _ 2
  have a3 : nI (3 + 5 * j) + 3 = nI (3 + 5 * j + 3) := nI_add _ 3
  have a4 : nI (3 + 5 * j) + 4 = nI (3 + 5 * j + 4) := nI_add _ 4
  have b0 : 3 + 5 * j < 63 := by omega
  have b1 : 3 + 5 * j + 1 < 63 := by omega
  have b2 : 3 + 5 * j + 2 < 63 := by omega
  have b3 : 3 + 5 * j + 3 < 63 := by omega
  have b4 : 3 + 5 * j + 4 < 63 := by omega
  refine ⟨ug (ug (ug (ug (ug G 1 (3 + 5 * j) w) 1 (3 + 5 * j + 1) x) 1 (3 + 5 * j + 2) v) 1 (3 + 5 * j + 3) k) 1 (3 + 5 * j + 4) g, ?_, fun a ha => by rw [ug_n ha, ug_n ha, ug_n ha, ug_n ha, ug_n ha], fun i hi => by rw [ug_i (by omega), ug_i (by omega), ug_i (by omega), ug_i (by omega), ug_i (by omega)], by rw [ug_i (by omega), ug_i (by omega), ug_i (by omega), ug_i (by omega), ug_a], by rw [ug_i (by omega), ug_i (by omega), ug_i (by omega), ug_a], by rw [ug_i (by omega), ug_i (by omega), ug_a], by rw [ug_i (by omega), ug_a], ug_a⟩
  rw [e83]
  simp only [g83_0, g83_1, g83_2, g83_3, g83_4, g83_5, g83_7, g83_8, g83_11, g83_13, g83_14, g83_15, g83_16, g83_19, g83_21, g83_22, g83_23, g83_24, g83_25, g83_26, g83_29, g83_31, g83_32, g83_33, g83_35, g83_36, g83_37, g83_40, g83_42, g83_43, g83_44, g83_46, g83_47, g83_48, g83_51, g83_53, g83_54, g83_55, g83_57, g83_58, rg1, ix35, a1, a2, a3, a4, rw1 b0, rw1 b1, rw1 b2, rw1 b3, rw1 b4, hwi, Option.bind_some]
theorem zwr_GA {g g' : Nat → Int32} {N N' : Nat} {j : Nat} {f : Nat → Int32} {w x v k u : Int32} (hg : ∀ i, i < 5 * N → g (3 + i) = f i) (hN : N' ≤ N ∨ (N' = N + 1 ∧ j = N)) (hj : j < N') (h0 : ∀ i, (i < 3 + 5 * j ∨ 3 + 5 * j + 5 ≤ i) → g' i = g i) (h1 : g' (3 + 5 * j) = w) (h2 : g' (3 + 5 * j + 1) = x) (h3 : g' (3 + 5 * j + 2) = v) (h4 : g' (3 + 5 * j + 3) = k) (h5 : g' (3 + 5 * j + 4) = u) : ∀ i, i < 5 * N' → g' (3 + i) = zwr f j w x v k u i := by
  intro i hi
  unfold zwr
  by_cases e4 : i = 5 * j + 4
  · subst e4
    rw [pk_us, ← Nat.add_assoc]; exact h5
  by_cases e3 : i = 5 * j + 3
  · subst e3
    rw [pk_un e4, pk_us, ← Nat.add_assoc]; exact h4
  by_cases e2 : i = 5 * j + 2
  · subst e2
    rw [pk_un e4, pk_un e3, pk_us, ← Nat.add_assoc]; exact h3
  by_cases e1 : i = 5 * j + 1
  · subst e1
    rw [pk_un e4, pk_un e3, pk_un e2, pk_us, ← Nat.add_assoc]; exact h2
  by_cases e0 : i = 5 * j
  · subst e0
    rw [pk_un e4, pk_un e3, pk_un e2, pk_un e1, pk_us]; exact h1
  rw [pk_un e4, pk_un e3, pk_un e2, pk_un e1, pk_un e0, h0 _ (by omega)]
  exact hg i (by omega)
theorem r_picture (d : Nat) (hR : zRs S G A) (hA : zVa A) (h3 : S 3 = nI kept) (hk : kept ≤ 8) (hK : kR (G 2) kept K) (hV : ∀ m, m < kept → (K m).1 ≤ 12) (hN : A.1 < 12) (w x v k g : Int32) (hc : zcan w x v k g) : ∃ S' G' Q', zcl (d + 12) 85 [.ref 256, .int w, .int x, .int v, .int k, .int g] (zRh p S G Q) = some (some (.int (nI A.1)), zRh p S' G' Q') ∧ zrD S S' G' A (A.1 + 1, A.2.1, A.2.2.1, zwr A.2.2.2 A.1 w x v k g) (min (kept + 1) 8) (kNx kept K A) := by
  have z0 : zcs [] ≤ 8 := by decide
  obtain ⟨S1, G1, b0, b2, kp⟩ := c_bk hR hA h3 hk hK hV
  obtain ⟨S2, G2, Q2, o1, o2, o3⟩ := kp d p Q
  obtain ⟨rr, k1, k2, -⟩ := c_canBe (d + 10) 256 w x v k g (zRh p S1 G1 Q)
  have := k2 hc
  subst this
  obtain ⟨G3, u1, u2, u3, u4, u5, u6, u7, u8⟩ := c_puts (p := p) (Q := Q2) (S := S2) (G := G2) (d + 10) hN w x v k g
  have n12 : ¬ nI A.1 = 12 := fun z => by
    have := (nI_eq (a := A.1) (b := 12) (by omega) (by decide)).mp z
    omega
  have g30 : G3 1 0 = nI A.1 := (u3 0 (by omega)).trans o2.1
  have w0 : zast 10 (zRh p S2 G3 Q2) 257 0 (.int (nI (A.1 + 1))) = some (zRh p S2 (ug G3 1 0 (nI (A.1 + 1))) Q2) := rw1 (j := 0) (by decide)
  refine ⟨S2, ug G3 1 0 (nI (A.1 + 1)), Q2, ?_, zrD_g o3 ⟨ug_a, ?_, ?_, fun i hi => ?_⟩ fun a ha => by rw [ug_n ha, u2 a ha]⟩
  · have em : nI (A.1 + 1) - 1 = nI A.1 := nI_pred A.1
    rw [e85]
    simp only [g85_0, g85_1, g85_2, g85_5, g85_6, g85_9, g85_10, g85_11, g85_12, g85_13, g85_15, g85_17, rfp0, b0 (d + 10), k1, z0, rb0, Option.bind_some, Option.toList_some, Option.toList_none, List.cons_append, List.nil_append]
    rw [g85_20, if_neg (by decide)]
    simp only [g85_23, g85_24, g85_27, g85_28, g85_29, rg1, ra1z, b2.1, Option.bind_some]
    rw [g85_31, if_pos n12]
    simp only [g85_36, g85_37, g85_40, g85_41, g85_42, g85_45, g85_46, g85_47, g85_48, g85_49, g85_50, g85_52, g85_54, rg1, ra1z, o1, o2.1, u1, z0, rb0, Option.bind_some, Option.toList_none, List.nil_append]
    simp only [g85_57, g85_58, g85_61, g85_62, g85_63, g85_66, g85_67, g85_68, g85_69, g85_70, g85_71, g85_72, g85_75, g85_76, g85_77, g85_78, g85_79, rg1, ra1z, g30, nI_1, w0, ug_a, em, Option.bind_some]
  · rw [ug_i (by decide), u3 1 (by omega)]; exact o2.2.1
  · rw [ug_i (by decide), u3 2 (by omega)]; exact o2.2.2.1
  · rw [ug_i (by omega)]
    exact zwr_GA o2.2.2.2 (Or.inr ⟨rfl, rfl⟩) (by omega) u3 u4 u5 u6 u7 u8 i hi
theorem r_picture_no (d : Nat) (hR : zRs S G A) (hN : A.1 ≤ 12) (w x v k g : Int32) (hn : A.1 = 12 ∨ ¬ zcan w x v k g) : ∃ S' G', zcl (d + 12) 85 [.ref 256, .int w, .int x, .int v, .int k, .int g] (zRh p S G Q) = some (some (.int (-1)), zRh p S' G' Q) ∧ zsF A S S' G G' := by
  have z0 : zcs [] ≤ 8 := by decide
  obtain ⟨S1, G1, b0, b1, b2, b3, b4⟩ := c_beg hR
  obtain ⟨rr, k1, k2, k3⟩ := c_canBe (d + 10) 256 w x v k g (zRh p S1 G1 Q)
  refine ⟨S1, G1, ?_, zsF_of b1 b2 b3 b4 sF_rf⟩
  rw [e85]
  simp only [g85_0, g85_1, g85_2, g85_5, g85_6, g85_9, g85_10, g85_11, g85_12, g85_13, g85_15, g85_17, rfp0, b0 (d + 10), k1, z0, rb0, Option.bind_some, Option.toList_some, Option.toList_none, List.cons_append, List.nil_append]
  by_cases q : zcan w x v k g
  · have e12 : nI A.1 = 12 := by rw [hn.resolve_right (fun z => z q)]; rfl
    rw [k2 q, g85_20, if_neg (by decide)]
    simp only [g85_23, g85_24, g85_27, g85_28, g85_29, rg1, ra1z, b2.1, Option.bind_some]
    rw [g85_31, if_neg (fun z => z e12), g85_34, g85_35]
  · rw [k3 q, g85_20, if_pos rfl, g85_34, g85_35]
theorem r_change (d : Nat) (hR : zRs S G A) (hA : zVa A) (h3 : S 3 = nI kept) (hk : kept ≤ 8) (hK : kR (G 2) kept K) (hV : ∀ m, m < kept → (K m).1 ≤ 12) {j : Nat} (hj : j < A.1) (w x v k g : Int32) (hc : zcan w x v k g) : ∃ S' G' Q', zcl (d + 12) 86 [.ref 256, .int (nI j), .int w, .int x, .int v, .int k, .int g] (zRh p S G Q) = some (some (.int 1), zRh p S' G' Q') ∧ zrD S S' G' A (A.1, A.2.1, A.2.2.1, zwr A.2.2.2 j w x v k g) (min (kept + 1) 8) (kNx kept K A) := by
  have z0 : zcs [] ≤ 8 := by decide
  have N12 := hA.1
  obtain ⟨S1, G1, b0, b2, kp⟩ := c_bk hR hA h3 hk hK hV
  obtain ⟨S2, G2, Q2, o1, o2, o3⟩ := kp d p Q
  obtain ⟨rr, k1, k2, -⟩ := c_canBe (d + 10) 256 w x v k g (zRh p S1 G1 Q)
  have := k2 hc
  subst this
  have ip := c_isPic (p := p) (S := S1) (G := G1) (Q := Q) (d + 10) b2.1 (nI j)
  rw [if_pos ⟨nI_pos' (by omega), nI_lt hj (by omega)⟩] at ip
  obtain ⟨G3, u1, u2, u3, u4, u5, u6, u7, u8⟩ := c_puts (p := p) (Q := Q2) (S := S2) (G := G2) (d + 10) (show j < 12 by omega) w x v k g
  refine ⟨S2, G3, Q2, ?_, zrD_g o3 ⟨(u3 0 (by omega)).trans o2.1, (u3 1 (by omega)).trans o2.2.1, (u3 2 (by omega)).trans o2.2.2.1, zwr_GA o2.2.2.2 (Or.inl (Nat.le_refl _)) hj u3 u4 u5 u6 u7 u8⟩ u2⟩
  rw [e86]
  simp only [g86_0, g86_1, g86_2, g86_5, g86_6, g86_9, g86_10, g86_11, rfp0, b0 (d + 10), ip, z0, rb0, Option.bind_some, Option.toList_some, Option.toList_none, List.cons_append, List.nil_append]
  rw [g86_14, if_neg (by decide)]
  simp only [g86_17, g86_18, g86_19, g86_20, g86_22, g86_24, g86_26, k1, z0, rb0, Option.bind_some, Option.toList_some, List.cons_append, List.nil_append]
  rw [g86_29, if_pos (by decide)]
  simp only [g86_34, g86_35, g86_38, g86_39, g86_40, g86_41, g86_42, g86_44, g86_46, g86_48, g86_51, o1, u1, z0, rb0, Option.bind_some, Option.toList_none, List.nil_append]
  exact g86_52 zone
theorem r_change_no (d : Nat) (hR : zRs S G A) (i w x v k g : Int32) (hn : ¬ (0 ≤ i ∧ i < nI A.1) ∨ ¬ zcan w x v k g) : ∃ S' G', zcl (d + 12) 86 [.ref 256, .int i, .int w, .int x, .int v, .int k, .int g] (zRh p S G Q) = some (some (.int 0), zRh p S' G' Q) ∧ zsF A S S' G G' := by
  have z0 : zcs [] ≤ 8 := by decide
  obtain ⟨S1, G1, b0, b1, b2, b3, b4⟩ := c_beg hR
  obtain ⟨rr, k1, k2, k3⟩ := c_canBe (d + 10) 256 w x v k g (zRh p S1 G1 Q)
  have ip := c_isPic (p := p) (S := S1) (G := G1) (Q := Q) (d + 10) b2.1 i
  refine ⟨S1, G1, ?_, zsF_of b1 b2 b3 b4 sF_rf⟩
  rw [e86]
  simp only [g86_0, g86_1, g86_2, g86_5, g86_6, g86_9, g86_10, g86_11, rfp0, b0 (d + 10), ip, z0, rb0, Option.bind_some, Option.toList_some, Option.toList_none, List.cons_append, List.nil_append]
  by_cases q : 0 ≤ i ∧ i < nI A.1
  · rw [if_pos q, g86_14, if_neg (by decide)]
    simp only [g86_17, g86_18, g86_19, g86_20, g86_22, g86_24, g86_26, k1, z0, rb0, Option.bind_some, Option.toList_some, List.cons_append, List.nil_append]
    rw [k3 (hn.resolve_left (fun z => z q)), g86_29, if_neg (fun z => z rfl), g86_32, g86_33 zzero]
  · rw [if_neg q, g86_14, if_pos rfl, g86_32, g86_33 zzero]
end RMUT2
