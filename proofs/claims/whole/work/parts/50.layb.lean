/-! layBest, cost, best, side, shape of the class -/
theorem nI_m1 {a : Nat} (h : a < 2 ^ 31) : ¬ nI a = -1 := fun z => by
  have := nI_pos' h
  rw [z] at this
  exact absurd this (by decide)
def zTk (h : ZH) (A : AV) (s m : Nat) (le : Int32) (sa sb : Int64) : Prop := zShI h ∧ h[29]? = some (zShc (nI m) (nI (aW A s)) (nI A.2.2.1) le sa sb) ∧ ∃ fw fq fv, h[31]? = some (10, zia 4 fw) ∧ h[32]? = some (10, zia 4 fq) ∧ h[33]? = some (10, zia 4 fv) ∧ ∀ j, j < m → fw j = A.2.2.2 (5 * (s + j)) ∧ fq j = A.2.2.2 (5 * (s + j) + 1) ∧ fv j = A.2.2.2 (5 * (s + j) + 2)
theorem zShF_tr {h k l : ZH} (h1 : zShF h k) (h2 : zShF k l) : zShF h l := fun a ha => (h2 a ha).trans (h1 a ha)
theorem zShI_set {h : ZH} {cn cW cH le : Int32} {sa sb : Int64} {n W H l : Int32} {x y : Int64} (hI : zShI h) (h29 : h[29]? = some (zShc cn cW cH le sa sb)) : zShI (h.set 29 (zShc n W H l x y)) := by
  obtain ⟨i1, i2, ⟨fw0, i3⟩, ⟨fq0, i4⟩, ⟨fv0, i5⟩, ⟨fa, i6⟩, ⟨fe, i7⟩, i8, -⟩ := hI
  have fr : ∀ b : Nat, b ≠ 29 → (h.set 29 (zShc n W H l x y))[b]? = h[b]? := fun b hb => zset_ne (Ne.symm hb)
  refine ⟨zSta_fr i1 fun b hb => fr b (by omega), (fr 30 (by decide)).trans i2, ⟨fw0, (fr 31 (by decide)).trans i3⟩, ⟨fq0, (fr 32 (by decide)).trans i4⟩, ⟨fv0, (fr 33 (by decide)).trans i5⟩, ⟨fa, (fr 34 (by decide)).trans i6⟩, ⟨fe, (fr 35 (by decide)).trans i7⟩, fun t ht => zTre_fr (i8 t ht) ht fun b q1 q2 => ?_, _, _, _, _, _, _, zset_get h29⟩
  have := tb_ok t ht
  exact fr b (by omega)
theorem zTk_le {h : ZH} {A : AV} {s m : Nat} {le l2 : Int32} {sa sb : Int64} (hT : zTk h A s m le sa sb) : zTk (h.set 29 (zShc (nI m) (nI (aW A s)) (nI A.2.2.1) l2 sa sb)) A s m l2 sa sb := by
  obtain ⟨h1, h2, fw, fq, fv, h3, h4, h5, h6⟩ := hT
  exact ⟨zShI_set h1 h2, zset_get h2, fw, fq, fv, (zset_ne (by decide)).trans h3, (zset_ne (by decide)).trans h4, (zset_ne (by decide)).trans h5, h6⟩
section LAYB
variable {A : AV} {s m : Nat}
theorem c_layT {h : ZH} {le : Int32} {sa sb : Int64} (d : Nat) (hA : zVa A) (hF : zFe A.1 A.2.2.2 s m) (hT : zTk h A s m le sa sb) {k : Nat} (hk : k < th m) :
    ∃ h' E, zcl (d + 3) 37 [.ref 29, .int (nI k)] h = some (some (.int 1), h') ∧ zTk h' A s m le (lN (aX A s m k 0 0)) (lN (aX A s m k 1 0)) ∧ zShF h h' ∧ h'[35]? = some (10, zia 16 E) ∧ (∀ i, i < m → ∀ c, c < 4 → E (4 * i + c) = nI (eE (aX A s m k) (tT (tf m + k) 12 i) c)) ∧ ∀ d, zcl (d + 2) 40 [.ref 29] h' = some (some (.int (nI (aC A s m k))), h') := by
  obtain ⟨f1, f2, f3, f4⟩ := hF
  obtain ⟨hI, h29, fw, fq, fv, h31, h32, h33, hf⟩ := hT
  obtain ⟨i1, i2, -, -, -, ⟨fa, i6⟩, ⟨fe, i7⟩, i8, -⟩ := hI
  have hn : ∀ j, j < m → fw j = nI (pN A.2.2.2 (5 * (s + j))) ∧ fq j = nI (pN A.2.2.2 (5 * (s + j) + 1)) := fun j hj => by
    obtain ⟨c1, c2, -⟩ := zcan_w (hA.2.2.2 (s + j) (by omega))
    rw [(hf j hj).1, (hf j hj).2.1]
    exact ⟨c1.1, c2.1⟩
  obtain ⟨h', E, ar, e1, e2, e3, e4, e5, e6, e7⟩ := c_lay d i1 h29 i2 h31 h32 i6 i7 i8 f2 hk (aw_ok hA f3) hn (aW_le hA) hA.2.2.1.2
  have n31 := (e7 31 (by omega)).trans h31
  have n32 := (e7 32 (by omega)).trans h32
  have n33 := (e7 33 (by omega)).trans h33
  refine ⟨h', E, e1, ⟨⟨zSta_fr i1 fun b hb => e7 b (by omega), (e7 30 (by omega)).trans i2, ⟨fw, n31⟩, ⟨fq, n32⟩, ⟨fv, n33⟩, ⟨ar, e4⟩, ⟨E, e3⟩, e6, _, _, _, _, _, _, e2⟩, e2, fw, fq, fv, n31, n32, n33, hf⟩, fun b hb => e7 b (by omega), e3, fun i hi => (e5 i hi).1, fun d => ?_⟩
  refine c_expense d e2 n33 e4 f2 (by omega) (fun i hi => ?_) (fun i hi => (e5 i hi).2) (aS_le hA f3 f2 hk) (aWH_le hA)
  obtain ⟨-, -, c3, -⟩ := zcan_w (hA.2.2.2 (s + i) (by omega))
  rw [(hf i hi).2.2]
  exact ⟨c3.1, c3.2.1, c3.2.2⟩
theorem c_layBest (d : Nat) {h : ZH} {a : Nat} (hA : zVa A) (hI : zShI h) (hV : zAv h a A) (ha : a + 1 < 29) (hF : zFe A.1 A.2.2.2 s m) :
    ∃ h' sa sb, zcl (d + 4) 38 [.ref 29, .ref a, .int (nI s), .int (nI m)] h = some (some (.int (nI (aB A s m))), h') ∧ zTk h' A s m (nI (aC A s m (aB A s m))) sa sb ∧ zShF h h' := by
  have z0 : zcs [] ≤ 8 := by decide
  have hwi : ∀ x, Value.category (.int x) = 1 := fun _ => rfl
  have hwj : Value.category zj = 1 := rfl
  obtain ⟨-, -, -, -, -, -, -, -, cn, cW, cH, le, sa, sb, h29⟩ := id hI
  have hb4 : (h[29]?).map (fun c => c.1) = some 4 := by rw [h29]; rfl
  have f1 := hF.1
  have f2 := hF.2.1
  have f3 := hF.2.2.1
  obtain ⟨h1, fw, fq, fv, t1, t2, t3, t4, t5, t6, t7, t8⟩ := c_take d hI h29 hV hA.1 ha hA.2.1.2 hF
  have hT1 : zTk h1 A s m le sa sb := ⟨t2, t4, fw, fq, fv, t5, t6, t7, t8⟩
  have hth := th_pos m (by omega) f1
  have htl := th_lt m (by omega)
  have hm := c_howMany (d + 1) t2.1 (nI m)
  rw [th_ok m (by omega)] at hm
  have hlt : ∀ k, k < th m → aC A s m k < 2 ^ 31 := fun k hk => by have := aC_le hA f3 f2 (by omega) hk; omega
  have loop : ∀ (r k : Nat) (g : ZH) (first l : Int32) (sa sb : Int64) (l7 : Value), k + r = th m → zTk g A s m l sa sb → ((k = 0 ∧ first = -1) ∨ (0 < k ∧ first = nI (yBest (aC A s m) (k - 1)) ∧ l = nI (aC A s m (yBest (aC A s m) (k - 1))))) →
      ∃ h' sa sb, zres (d + 3) 38 24 [.ref 29, .ref a, .int (nI s), .int (nI m), .int first, .int (nI (th m)), .int (nI k), l7] [] g = some (some (.int (nI (aB A s m))), h') ∧ zTk h' A s m (nI (aC A s m (aB A s m))) sa sb ∧ zShF g h' := by
    intro r
    induction r with
    | zero =>
      intro k g first l sa sb l7 hk hT hi
      obtain rfl : k = th m := by omega
      have c1 : nI (th m) ≤ nI (th m) := nI_le (Nat.le_refl _) (by omega)
      rcases hi with ⟨z, -⟩ | ⟨-, e1, e2⟩
      · omega
      · subst e1 e2
        simp only [g38_24, g38_26, g38_28, c1, ↓reduceIte, g38_87, g38_89]
        exact ⟨g, sa, sb, rfl, hT, fun _ _ => rfl⟩
    | succ r ih =>
      intro k g first l sa sb l7 hk hT hi
      have hkt : k < th m := by omega
      have c1 : ¬ nI (th m) ≤ nI k := nI_ge hkt (by omega)
      have hb4 : (g[29]?).map (fun c => c.1) = some 4 := by rw [hT.2.1]; rfl
      obtain ⟨g2, E, e1, e2, e3, -, -, e6⟩ := c_layT d hA hF hT hkt
      have ex := e6 (d + 1)
      have hb5 : (g2[29]?).map (fun c => c.1) = some 4 := by rw [e2.2.1]; rfl
      have nm := nI_m1 (hlt k hkt)
      have pre : zres (d + 3) 38 24 [.ref 29, .ref a, .int (nI s), .int (nI m), .int first, .int (nI (th m)), .int (nI k), l7] [] g = zres (d + 3) 38 56 [.ref 29, .ref a, .int (nI s), .int (nI m), .int first, .int (nI (th m)), .int (nI k), .int (nI (aC A s m k))] [] g2 := by
        simp only [g38_24, g38_26, g38_28, c1, ↓reduceIte]
        simp only [g38_31, g38_32, g38_34, e1, z0, hb4, Option.bind_some, Option.toList_some, List.cons_append, List.nil_append]
        rw [g38_37, if_neg (by decide)]
        simp only [g38_40, g38_41, g38_44, g38_47, g38_48, g38_50, g38_52, g38_53, ex, z0, hb5, hwi, nm, Option.bind_some, Option.toList_some, List.cons_append, List.nil_append, ↓reduceIte]
      have p9 : zput g2 29 4 9 (.int (nI (aC A s m k))) = some (g2.set 29 (zShc (nI m) (nI (aW A s)) (nI A.2.2.1) (nI (aC A s m k)) (lN (aX A s m k 0 0)) (lN (aX A s m k 1 0)))) := zput_c e2.2.1 rfl rfl rfl
      have yes : yBest (aC A s m) k = k → zres (d + 3) 38 56 [.ref 29, .ref a, .int (nI s), .int (nI m), .int first, .int (nI (th m)), .int (nI k), .int (nI (aC A s m k))] [] g2 = zres (d + 3) 38 71 [.ref 29, .ref a, .int (nI s), .int (nI m), .int first, .int (nI (th m)), .int (nI k), .int (nI (aC A s m k))] [] g2 → ∃ h' sa sb, zres (d + 3) 38 24 [.ref 29, .ref a, .int (nI s), .int (nI m), .int first, .int (nI (th m)), .int (nI k), l7] [] g = some (some (.int (nI (aB A s m))), h') ∧ zTk h' A s m (nI (aC A s m (aB A s m))) sa sb ∧ zShF g h' := by
        intro hy hz
        rw [pre, hz]
        simp only [g38_71, g38_73, g38_75, g38_76, g38_78, g38_81, g38_84, p9, hwi, nI_1, Option.bind_some]
        obtain ⟨h', sa', sb', o1, o2, o3⟩ := ih (k + 1) _ (nI k) (nI (aC A s m k)) _ _ (.int (nI (aC A s m k))) (by omega) (zTk_le (l2 := nI (aC A s m k)) e2) (Or.inr ⟨by omega, by rw [Nat.add_sub_cancel, hy], by rw [Nat.add_sub_cancel, hy]⟩)
        exact ⟨h', sa', sb', o1, o2, fun b hb => (o3 b hb).trans ((zset_ne (by omega)).trans (e3 b hb))⟩
      rcases hi with ⟨rfl, rfl⟩ | ⟨z, rfl, rfl⟩
      · refine yes rfl ?_
        simp only [g38_56, g38_58, g38_59, ↓reduceIte]
      · have nb : yBest (aC A s m) (k - 1) < th m := by have := yBest_le (aC A s m) (k - 1); omega
        have nf := nI_m1 (show yBest (aC A s m) (k - 1) < 2 ^ 31 by omega)
        have g9 : zget g2 29 4 9 = some (.int (nI (aC A s m (yBest (aC A s m) (k - 1))))) := (zget_c e2.2.1).trans rfl
        obtain ⟨k', rfl⟩ : ∃ k', k = k' + 1 := ⟨k - 1, by omega⟩
        rw [Nat.add_sub_cancel] at *
        have ey : yBest (aC A s m) (k' + 1) = if aC A s m (k' + 1) < aC A s m (yBest (aC A s m) k') then k' + 1 else yBest (aC A s m) k' := rfl
        by_cases lt : aC A s m (k' + 1) < aC A s m (yBest (aC A s m) k')
        · rw [if_pos lt] at ey
          refine yes ey ?_
          have c2 : ¬ nI (aC A s m (yBest (aC A s m) k')) ≤ nI (aC A s m (k' + 1)) := nI_ge lt (hlt _ nb)
          simp only [g38_56, g38_58, g38_59, nf, ↓reduceIte]
          simp only [g38_62, g38_64, g38_65, g38_68, g9, c2, Option.bind_some, ↓reduceIte]
        · rw [if_neg lt] at ey
          have c2 : nI (aC A s m (yBest (aC A s m) k')) ≤ nI (aC A s m (k' + 1)) := nI_le (by omega) (hlt _ hkt)
          rw [pre]
          simp only [g38_56, g38_58, g38_59, nf, ↓reduceIte]
          simp only [g38_62, g38_64, g38_65, g38_68, g9, c2, Option.bind_some, ↓reduceIte]
          simp only [g38_81, g38_84, hwi, nI_1]
          obtain ⟨h', sa', sb', o1, o2, o3⟩ := ih (k' + 1 + 1) g2 _ _ _ _ (.int (nI (aC A s m (k' + 1)))) (by omega) e2 (Or.inr ⟨by omega, by rw [Nat.add_sub_cancel, ey], by rw [Nat.add_sub_cancel, ey]⟩)
          exact ⟨h', sa', sb', o1, o2, zShF_tr e3 o3⟩
  rw [e38]
  simp only [g38_0, g38_1, g38_1n, g38_2, g38_3, g38_4, t1, z0, hb4, Option.bind_some, Option.toList_some, List.cons_append, List.nil_append]
  rw [g38_7, if_pos (by decide)]
  simp only [g38_12, g38_13, g38_15, g38_16, g38_19, g38_21, g38_22, hm, z0, hwi, hwj, Option.bind_some, Option.toList_some, List.cons_append, List.nil_append]
  obtain ⟨h', sa', sb', o1, o2, o3⟩ := loop (th m) 0 h1 (-1) le sa sb zj (by omega) hT1 (Or.inl ⟨rfl, rfl⟩)
  exact ⟨h', sa', sb', o1, o2, zShF_tr t3 o3⟩
theorem c_layBest_no (d : Nat) {h : ZH} {a : Nat} {x y : Int32} (hA : zVa A) (hI : zShI h) (hV : zAv h a A) (ha : a + 1 < 29) (hF : ¬ ∃ s m, x = nI s ∧ y = nI m ∧ zFe A.1 A.2.2.2 s m) :
    ∃ h', zcl (d + 4) 38 [.ref 29, .ref a, .int x, .int y] h = some (some (.int (-1)), h') ∧ zShI h' ∧ zShF h h' := by
  have z0 : zcs [] ≤ 8 := by decide
  obtain ⟨-, -, -, -, -, -, -, -, cn, cW, cH, le, sa, sb, h29⟩ := id hI
  have hb4 : (h[29]?).map (fun c => c.1) = some 4 := by rw [h29]; rfl
  obtain ⟨h1, t1, t2, t3, -⟩ := c_take_no d hI hV hA.1 ha hF
  rw [e38]
  simp only [g38_0, g38_1, g38_1n, g38_2, g38_3, g38_4, t1, z0, hb4, Option.bind_some, Option.toList_some, List.cons_append, List.nil_append]
  rw [g38_7, if_neg (by decide), g38_10, g38_11]
  exact ⟨h1, rfl, t2, t3⟩
end LAYB
