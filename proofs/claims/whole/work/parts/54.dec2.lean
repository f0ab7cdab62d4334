/-! decodes(n, k) -/
def dc (s j : Nat) : Nat := 2 ^ (s - 1) - 1 - j
def dr (s m : Nat) : Nat → Nat
  | 0 => m
  | j + 1 => dr s m j - wy (tsz s (dc s j))
def dl (L : List Nat) : Nat → Nat
  | 0 => wy L
  | i + 1 => dl L i / hf (L.getD i 0)
def dq (L : List Nat) (r : Nat) : Nat → Nat
  | 0 => r
  | i + 1 => dq L r i % dl L (i + 1)
def dL (t v : Nat) : List Nat := tsz (tT t 0 v) (dc (tT t 0 v) (tT t 15 v))
def dR (t v : Nat) : Nat := dr (tT t 0 v) (tT t 13 v) (tT t 15 v)
theorem dt_1 : ∀ t, t < 31 → ∀ v, v < tM t → ¬ tT t 1 v = 0 → ∀ j, j < tT t 15 v → wy (tsz (tT t 0 v) (dc (tT t 0 v) j)) ≤ dr (tT t 0 v) (tT t 13 v) j ∧ j + 1 ≤ 2 ^ (tT t 0 v - 1) - 1 := by decide +kernel
theorem dt_2 : ∀ t, t < 31 → ∀ v, v < tM t → ¬ tT t 1 v = 0 → dR t v < wy (dL t v) ∧ (dL t v).length = tT t 6 v ∧ wy (dL t v) < 1000 := by decide +kernel
theorem dt_3 : ∀ t, t < 31 → ∀ v, v < tM t → ¬ tT t 1 v = 0 → ∀ i, i < tT t 6 v → (dL t v).getD i 0 = tT t 0 (tT t 4 v + i) ∧ 0 < dl (dL t v) (i + 1) := by decide +kernel
theorem dt_4 : ∀ t, t < 31 → ∀ v, v < tM t → ¬ tT t 1 v = 0 → ∀ i, i < tT t 6 v → dq (dL t v) (dR t v) i / dl (dL t v) (i + 1) = tT t 13 (tT t 4 v + i) ∧ tT t 1 (tT t 4 v + i) = (if tT t 0 (tT t 4 v + i) = 1 then 0 else 3 - tT t 1 v) := by decide +kernel
theorem dt_5 : ∀ t, t < 31 → ∀ v, v < tM t → tT t 14 (v + 1) = tT t 14 v + tT t 6 v ∧ v < tT t 14 v ∧ tT t 14 v ≤ tM t ∧ tT t 13 v < 1000 := by decide +kernel
theorem dt_6 : ∀ t, t < 31 → ∀ v, v < tM t → ¬ tT t 1 v = 0 → tT t 14 v = tT t 4 v := by decide +kernel
theorem dt_7 : ∀ t, t < 31 → tT t 14 0 = 1 ∧ tT t 14 (tM t) = tM t ∧ tT t 1 0 = (if tn t = 1 then 0 else if tk t < hf (tn t) then 1 else 2) ∧ tT t 13 0 = tk t % hf (tn t) := by decide +kernel
theorem ts_ok : ∀ s, s < 5 → ∀ c, c < 8 → (tsz s c).length ≤ 4 ∧ (∀ j, j < (tsz s c).length → (tsz s c).getD j 0 < 5) ∧ wy (tsz s c) < 2000 := by decide +kernel
theorem dc_lt {s j : Nat} (hs : s ≤ 4) : dc s j < 8 := by
  unfold dc
  have : 2 ^ (s - 1) ≤ 2 ^ 3 := Nat.pow_le_pow_right (by decide) (by omega)
  omega
theorem shl1 : ∀ s, s < 5 → 1 ≤ s → (1 : Int32) <<< ((nI s - 1) &&& 31) - 1 = nI (dc s 0) := by decide +kernel
theorem dr_le (s m : Nat) : ∀ j : Nat, dr s m j ≤ m
  | 0 => Nat.le_refl _
  | j + 1 => by
    have := dr_le s m j
    show dr s m j - _ ≤ m
    omega
theorem dl_le (L : List Nat) : ∀ i : Nat, dl L i ≤ wy L
  | 0 => Nat.le_refl _
  | i + 1 => Nat.le_trans (Nat.div_le_self _ _) (dl_le L i)
theorem dq_le (L : List Nat) (r : Nat) : ∀ i : Nat, dq L r i ≤ r
  | 0 => Nat.le_refl _
  | i + 1 => Nat.le_trans (Nat.mod_le _ _) (dq_le L r i)
section DEC2
variable {p : ZP} {Q : Nat → Nat → Int64}
/-- a tree's rows of the first u nodes; parts and first part of the first v -/
def dI (t v u : Nat) (G : Nat → Nat → Int32) : Prop := ∀ x, x < u → (G 3 x = nI (tT t 0 x) ∧ G 4 x = nI (tT t 3 x) ∧ G 5 x = nI (tT t 1 x) ∧ G 6 x = nI (tT t 13 x)) ∧ (v ≤ x → G 7 x = 0) ∧ (x < v → G 7 x = nI (tT t 6 x) ∧ (¬ tT t 1 x = 0 → G 8 x = nI (tT t 4 x)))
def dF (S S' : Nat → Int32) (G G' : Nat → Nat → Int32) : Prop := (∀ j, j ≠ 5 → S' j = S j) ∧ ∀ a, (a < 3 ∨ 9 < a) → G' a = G a
theorem dF_rf {S : Nat → Int32} {G : Nat → Nat → Int32} : dF S S G G := ⟨fun _ _ => rfl, fun _ _ => rfl⟩
theorem dF_tr {S S' S'' : Nat → Int32} {G G' G'' : Nat → Nat → Int32} (h1 : dF S S' G G') (h2 : dF S' S'' G' G'') : dF S S'' G G'' := ⟨fun j hj => (h2.1 j hj).trans (h1.1 j hj), fun a ha => (h2.2 a ha).trans (h1.2 a ha)⟩
/-- the sizes of the parts -/
theorem dec_w (d : Nat) {t v : Nat} {l1 l2 l7 l8 l9 : Value} (ht : t < 31) (hv : v < tM t) (hc : ¬ tT t 1 v = 0) {S : Nat → Int32} :
    ∀ (r j : Nat) (G : Nat → Nat → Int32), j + r = tT t 15 v → G 3 v = nI (tT t 0 v) → (∀ i, i < (tsz (tT t 0 v) (dc (tT t 0 v) j)).length → G 9 i = nI ((tsz (tT t 0 v) (dc (tT t 0 v) j)).getD i 0)) →
      ∃ G', zres (d + 2) 96 92 [.ref 256, l1, l2, .int (nI v), .int (nI (dc (tT t 0 v) j)), .int (nI (dr (tT t 0 v) (tT t 13 v) j)), .int (nI (tsz (tT t 0 v) (dc (tT t 0 v) j)).length), l7, l8, l9] [] (zRh p S G Q) = zres (d + 2) 96 137 [.ref 256, l1, l2, .int (nI v), .int (nI (dc (tT t 0 v) (tT t 15 v))), .int (nI (dR t v)), .int (nI (dL t v).length), l7, l8, l9] [] (zRh p S G' Q) ∧ (∀ i, i < (dL t v).length → G' 9 i = nI ((dL t v).getD i 0)) ∧ ∀ a, a ≠ 9 → G' a = G a := by
  have hwi : ∀ x, Value.category (.int x) = 1 := fun _ => rfl
  have zi : ∀ x, zcs [.int x] ≤ 8 := fun _ => Nat.le_of_ble_eq_true rfl
  have z0 : zcs [] ≤ 8 := by decide
  have hT := tok ht
  have hv8 : v < 8 := by have := hT.1.2.1; omega
  have hs4 := (hT.2.1 v hv).2.2.2.2.1
  have m13 := (dt_5 t ht v hv).2.2.2
  intro r
  induction r with
  | zero =>
    intro j G hj h3 h9
    obtain rfl : j = tT t 15 v := by omega
    obtain ⟨a1, a2, a3⟩ := dt_2 t ht v hv hc
    obtain ⟨b1, b2, b3⟩ := ts_ok (tT t 0 v) (by omega) _ (dc_lt (j := tT t 15 v) hs4)
    have wc := c_ways (p := p) (S := S) (Q := Q) d b1 b2 h9
    have c1 : nI (dr (tT t 0 v) (tT t 13 v) (tT t 15 v)) < nI (wy (tsz (tT t 0 v) (dc (tT t 0 v) (tT t 15 v)))) := nI_lt a1 (by omega)
    refine ⟨G, ?_, h9, fun _ _ => rfl⟩
    simp only [g96_92, g96_94, g96_95, g96_97, g96_100, wc, zi, rb0, c1, Option.bind_some, Option.toList_some, List.cons_append, List.nil_append, ↓reduceIte]
    rfl
  | succ r ih =>
    intro j G hj h3 h9
    obtain ⟨a1, a2⟩ := dt_1 t ht v hv hc j (by omega)
    obtain ⟨b1, b2, b3⟩ := ts_ok (tT t 0 v) (by omega) _ (dc_lt (j := j) hs4)
    have wc := c_ways (p := p) (S := S) (Q := Q) d b1 b2 h9
    have dle := dr_le (tT t 0 v) (tT t 13 v) j
    have c1 : ¬ nI (dr (tT t 0 v) (tT t 13 v) j) < nI (wy (tsz (tT t 0 v) (dc (tT t 0 v) j))) := nI_nlt a1 (by omega)
    have e1 : nI (dr (tT t 0 v) (tT t 13 v) j) - nI (wy (tsz (tT t 0 v) (dc (tT t 0 v) j))) = nI (dr (tT t 0 v) (tT t 13 v) (j + 1)) := pk_sub a1
    have e2 : nI (dc (tT t 0 v) j) - 1 = nI (dc (tT t 0 v) (j + 1)) := by
      rw [show (1 : Int32) = nI 1 from rfl, pk_sub (by unfold dc; omega)]
      congr 1
    obtain ⟨G1, o1, o2, o3⟩ := c_takesSizes (p := p) (S := S) (G := G) (Q := Q) (d + 1) (n := tT t 0 v) (c := dc (tT t 0 v) (j + 1)) (by omega) (by have := dc_lt (j := j + 1) hs4; omega)
    obtain ⟨G', q1, q2, q3⟩ := ih (j + 1) G1 (by omega) ((congrFun (o3 3 (by decide)) v).trans h3) o2
    refine ⟨G', ?_, q2, fun a ha => (q3 a ha).trans (o3 a ha)⟩
    simp only [g96_92, g96_94, g96_95, g96_97, g96_100, wc, zi, rb0, c1, Option.bind_some, Option.toList_some, List.cons_append, List.nil_append, ↓reduceIte]
    simp only [g96_103, g96_105, g96_106, g96_108, g96_111, g96_112, g96_114, g96_116, g96_117, g96_118, g96_120, g96_121, g96_122, g96_125, g96_126, g96_127, g96_129, g96_132, g96_134, wc, zi, z0, rb0, e1, e2, rg6, ra3 hv8, h3, o1, hwi, Option.bind_some, Option.toList_some, List.cons_append, List.nil_append]
    exact q1
/-- the parts -/
theorem dec_p (d : Nat) {t v : Nat} {l1 l2 l4 : Value} (w4 : l4.category = 1) (ht : t < 31) (hv : v < tM t) (hc : ¬ tT t 1 v = 0) :
    ∀ (r i : Nat) (S : Nat → Int32) (G : Nat → Nat → Int32) (l9 : Value), i + r = tT t 6 v → S 5 = nI (tT t 4 v + i) → dI t (v + 1) (tT t 4 v + i) G → (∀ i, i < (dL t v).length → G 9 i = nI ((dL t v).getD i 0)) →
      ∃ S' G' l5 l7 l8 l9, zres (d + 2) 96 174 [.ref 256, l1, l2, .int (nI v), l4, .int (nI (dq (dL t v) (dR t v) i)), .int (nI (tT t 6 v)), .int (nI (dl (dL t v) i)), .int (nI (tT t 3 v + ysum (fun i => tT t 0 (tT t 4 v + i)) i)), .int (nI i)] [] (zRh p S G Q) = zres (d + 2) 96 249 [.ref 256, l1, l2, .int (nI v), l4, .int l5, .int (nI (tT t 6 v)), .int l7, .int l8, .int l9] [] (zRh p S' G' Q) ∧ S' 5 = nI (tT t 4 v + tT t 6 v) ∧ dI t (v + 1) (tT t 4 v + tT t 6 v) G' ∧ dF S S' G G' := by
  have hwi : ∀ x, Value.category (.int x) = 1 := fun _ => rfl
  have z0 : zcs [] ≤ 8 := by decide
  have zi : ∀ x, zcs [.int x] ≤ 8 := fun _ => Nat.le_of_ble_eq_true rfl
  have hT := tok ht
  have hM7 := hT.1.2.1
  obtain ⟨q1, q2, q3, q4, q5, q6, q7⟩ := y_cut hT hv hc
  obtain ⟨a1, a2, a3⟩ := dt_2 t ht v hv hc
  have hv8 : v < 8 := by omega
  intro r
  induction r with
  | zero =>
    intro i S G l9 hi h5 hI h9
    obtain rfl : i = tT t 6 v := by omega
    have c1 : nI (tT t 6 v) ≤ nI (tT t 6 v) := nI_le (Nat.le_refl _) (by omega)
    refine ⟨S, G, nI (dq (dL t v) (dR t v) (tT t 6 v)), nI (dl (dL t v) (tT t 6 v)), nI (tT t 3 v + ysum (fun i => tT t 0 (tT t 4 v + i)) (tT t 6 v)), nI (tT t 6 v), ?_, h5, hI, dF_rf⟩
    simp only [g96_174, g96_176, g96_178, c1, ↓reduceIte]
  | succ r ih =>
    intro i S G l9 hi h5 hI h9
    have hi6 : i < tT t 6 v := by omega
    have i4 : i < 4 := by have := (hT.2.1 v hv).2.2.2.2.1; have := ts_ok (tT t 0 v) (by omega) _ (dc_lt (j := tT t 15 v) this); have e : (dL t v).length = (tsz (tT t 0 v) (dc (tT t 0 v) (tT t 15 v))).length := rfl; omega
    obtain ⟨b1, b2⟩ := dt_3 t ht v hv hc i hi6
    obtain ⟨b3, b4⟩ := dt_4 t ht v hv hc i hi6
    have c1 : ¬ nI (tT t 6 v) ≤ nI i := nI_ge hi6 (by omega)
    have s5 := (hT.2.1 (tT t 4 v + i) (by omega)).2.2.2.2.1
    have e9 : G 9 i = nI (tT t 0 (tT t 4 v + i)) := by rw [h9 i (by omega), b1]
    have ch := c_halves (d + 1) 256 (nI (tT t 0 (tT t 4 v + i))) (zRh p S G Q)
    rw [hf_ok _ (by omega)] at ch
    have hfl := hf_lt (tT t 0 (tT t 4 v + i)) (by omega)
    have dle := dl_le (dL t v) i
    have dle2 := dl_le (dL t v) (i + 1)
    have qle := dq_le (dL t v) (dR t v) i
    have n0 : ¬ nI (hf (tT t 0 (tT t 4 v + i))) = 0 := nI_ne0 hfl.2 (by omega)
    have n1 : ¬ nI (dl (dL t v) (i + 1)) = 0 := nI_ne0 b2 (by omega)
    have e1 : nI (dl (dL t v) i) / nI (hf (tT t 0 (tT t 4 v + i))) = nI (dl (dL t v) (i + 1)) := by
      rw [pk_div (by omega) hfl.2 (by omega)]
      show _ = nI (dl (dL t v) i / hf ((dL t v).getD i 0))
      rw [b1]
    have e2 : nI (dq (dL t v) (dR t v) i) / nI (dl (dL t v) (i + 1)) = nI (tT t 13 (tT t 4 v + i)) := by rw [pk_div (by omega) b2 (by omega), b3]
    have e3 : nI (dq (dL t v) (dR t v) i) - nI (tT t 13 (tT t 4 v + i)) * nI (dl (dL t v) (i + 1)) = nI (dq (dL t v) (dR t v) (i + 1)) := by
      have := pk_rem (a := dq (dL t v) (dR t v) i) (d := dl (dL t v) (i + 1)) (by omega) b2 (by omega)
      rw [e2] at this
      exact this
    have gv := (hI v (by omega)).1
    have cut3 : (3 : Int32) - nI (tT t 1 v) = nI (3 - tT t 1 v) := by
      rw [show (3 : Int32) = nI 3 from rfl]
      exact pk_sub (by omega)
    have e4 : nI (tT t 3 v + ysum (fun i => tT t 0 (tT t 4 v + i)) i) + nI (tT t 0 (tT t 4 v + i)) = nI (tT t 3 v + ysum (fun i => tT t 0 (tT t 4 v + i)) (i + 1)) := by
      rw [nI_add, Nat.add_assoc]
      rfl
    obtain ⟨S1, G1, o1, o2, o3, ⟨o4, o5, o6, o7, o8⟩, o9, o10⟩ := c_node (p := p) (G := G) (Q := Q) (d + 1) (fr := nI (tT t 3 v + ysum (fun i => tT t 0 (tT t 4 v + i)) i)) (c := nI (3 - tT t 1 v)) (k := nI (tT t 13 (tT t 4 v + i))) (w := tT t 4 v + i) (s := tT t 0 (tT t 4 v + i)) (by omega) h5 (by omega)
    have e9b : G1 9 i = nI (tT t 0 (tT t 4 v + i)) := (congrFun (o10 9 (by omega)) i).trans e9
    obtain ⟨S', G', l5, l7, l8, l9, f1, f2, f3, f4⟩ := ih (i + 1) S1 G1 zj (by omega) o2 (fun x hx => by
        by_cases z : x = tT t 4 v + i
        · subst z
          refine ⟨⟨o4, ?_, ?_, o7⟩, fun _ => o8, fun w => by omega⟩
          · rw [o5, (q6 i hi6).2.2.2.2.2.2]
          · rw [o6, b4]
            by_cases y : tT t 0 (tT t 4 v + i) = 1
            · rw [if_pos y, if_pos y]; rfl
            · rw [if_neg y, if_neg y]
        · have := hI x (by omega)
          rw [o9 3 x z, o9 4 x z, o9 5 x z, o9 6 x z, o9 7 x z, o9 8 x z]
          exact this) (fun j hj => (congrFun (o10 9 (by omega)) j).trans (h9 j hj))
    refine ⟨S', G', l5, l7, l8, l9, ?_, f2, f3, dF_tr ⟨o3, fun a ha => o10 a (by omega)⟩ f4⟩
    simp only [g96_174, g96_176, g96_178, c1, ↓reduceIte]
    simp only [g96_181, g96_183, g96_184, g96_185, g96_188, g96_190, g96_191, g96_194, g96_195, rg12, ra9 i4, e9, ch, n0, e1, zi, rb0, hwi, not_false_eq_true, Option.bind_some, Option.toList_some, List.cons_append, List.nil_append]
    simp only [g96_197, g96_198, g96_199, g96_202, g96_204, g96_205, g96_207, g96_208, g96_209, g96_212, g96_213, g96_214, g96_215, g96_217, g96_219, g96_220, g96_223, rg12, rg8, ra9 i4, ra5 hv8, e9, gv.2.2.1, cut3, n1, e2, o1, z0, rb0, hwi, not_false_eq_true, Option.bind_some, Option.toList_some, List.cons_append, List.nil_append]
    simp only [g96_224, g96_226, g96_228, g96_229, g96_231, g96_233, g96_234, g96_237, g96_239, g96_240, g96_241, g96_243, g96_246, rg12, ra9 i4, e9b, n1, e2, e3, e4, w4, hwi, nI_1, not_false_eq_true, Option.bind_some]
    exact f1
/-- decodes: the rows of the tree -/
theorem c_decodes (d : Nat) {t : Nat} (ht : t < 31) (S : Nat → Int32) (G : Nat → Nat → Int32) :
    ∃ S' G', zcl (d + 3) 96 [.ref 256, .int (nI (tn t)), .int (nI (tk t))] (zRh p S G Q) = some (none, zRh p S' G' Q) ∧ S' 5 = nI (tM t) ∧ dI t (tM t) (tM t) G' ∧ dF S S' G G' := by
  have hwi : ∀ x, Value.category (.int x) = 1 := fun _ => rfl
  have hwj : Value.category zj = 1 := rfl
  have z0 : zcs [] ≤ 8 := by decide
  have hT := tok ht
  have hM7 := hT.1.2.1
  obtain ⟨k1, k2, k3, k4⟩ := dt_7 t ht
  obtain ⟨n1, n2, n3, -⟩ := tft2 t ht
  have tl := th_lt _ n1
  have hfl := hf_lt (tn t) n1
  have loop : ∀ (r v : Nat) (S : Nat → Int32) (G : Nat → Nat → Int32) (l4 l5 l6 l7 l8 l9 : Value), v + r = tM t → S 5 = nI (tT t 14 v) → dI t v (tT t 14 v) G → l4.category = 1 → l5.category = 1 → l6.category = 1 → l7.category = 1 → l8.category = 1 → l9.category = 1 →
      ∃ S' G', zres (d + 2) 96 35 [.ref 256, .int (nI (tn t)), .int (nI (tk t)), .int (nI v), l4, l5, l6, l7, l8, l9] [] (zRh p S G Q) = some (none, zRh p S' G' Q) ∧ S' 5 = nI (tM t) ∧ dI t (tM t) (tM t) G' ∧ dF S S' G G' := by
    intro r
    induction r with
    | zero =>
      intro v S G l4 l5 l6 l7 l8 l9 hv h5 hI w4 w5 w6 w7 w8 w9
      obtain rfl : v = tM t := by omega
      rw [k2] at h5 hI
      have c1 : nI (tM t) ≤ nI (tM t) := nI_le (Nat.le_refl _) (by omega)
      refine ⟨S, G, ?_, h5, hI, dF_rf⟩
      simp only [g96_35, g96_36, g96_37, g96_40, rg5, h5, c1, Option.bind_some, ↓reduceIte, g96_255]
    | succ r ih =>
      intro v S G l4 l5 l6 l7 l8 l9 hv h5 hI w4 w5 w6 w7 w8 w9
      have hvM : v < tM t := by omega
      have hv8 : v < 8 := by omega
      obtain ⟨a1, a2, a3, a4⟩ := dt_5 t ht v hvM
      have c1 : ¬ nI (tT t 14 v) ≤ nI v := nI_ge a2 (by omega)
      have gv := hI v a2
      rcases (hT.2.1 v hvM).1 with z | z
      · have e0 : nI (tT t 0 v) = 1 := by rw [z.2.2.1]; rfl
        rw [z.2.1, Nat.add_zero] at a1
        obtain ⟨S', G', o1, o2⟩ := ih (v + 1) S G l4 l5 l6 l7 l8 l9 (by omega) (by rw [a1]; exact h5) (fun x hx => by
          rw [a1] at hx
          obtain ⟨b1, b2, b3⟩ := hI x hx
          refine ⟨b1, fun w => b2 (by omega), fun w => ?_⟩
          by_cases y : x = v
          · subst y
            refine ⟨?_, fun w2 => absurd z.1 w2⟩
            rw [b2 (Nat.le_refl _), z.2.1]
            rfl
          · exact b3 (by omega)) w4 w5 w6 w7 w8 w9
        refine ⟨S', G', ?_, o2⟩
        simp only [g96_35, g96_36, g96_37, g96_40, rg5, h5, c1, Option.bind_some, ↓reduceIte]
        simp only [g96_43, g96_44, g96_47, g96_48, g96_49, g96_50, rg6, ra3 hv8, gv.1.1, e0, Option.bind_some, not_true_eq_false, ↓reduceIte]
        simp only [g96_53, g96_249, g96_252, hwi, nI_1]
        exact o1
      · have hc : ¬ tT t 1 v = 0 := by have := z.1; omega
        have s2 := z.2.1
        have s4 := (hT.2.1 v hvM).2.2.2.2.1
        have e0 : ¬ nI (tT t 0 v) = 1 := fun w => by
          have := (nI_eq (a := tT t 0 v) (b := 1) (by omega) (by decide)).mp w
          omega
        have sh := shl1 (tT t 0 v) (by omega) (by omega)
        have d6 := dt_6 t ht v hvM hc
        obtain ⟨b1, b2, b3⟩ := dt_2 t ht v hvM hc
        obtain ⟨G1, o1, o2, o3⟩ := c_takesSizes (p := p) (S := S) (G := G) (Q := Q) (d + 1) (n := tT t 0 v) (c := dc (tT t 0 v) 0) (by omega) (by have := dc_lt (j := 0) s4; omega)
        have g3 : G1 3 v = nI (tT t 0 v) := (congrFun (o3 3 (by decide)) v).trans gv.1.1
        obtain ⟨G2, q1, q2, q3⟩ := dec_w (p := p) (Q := Q) (S := S) (l1 := .int (nI (tn t))) (l2 := .int (nI (tk t))) (l7 := l7) (l8 := l8) (l9 := l9) d ht hvM hc (tT t 15 v) 0 G1 (by omega) g3 o2
        have G2f : ∀ a, a ≠ 9 → G2 a = G a := fun a ha => (q3 a ha).trans (o3 a ha)
        have hI2 : dI t (v + 1) (tT t 4 v + 0) (ug (ug G2 7 v (nI (tT t 6 v))) 8 v (nI (tT t 14 v))) := by
          intro x hx
          rw [← d6, Nat.add_zero] at hx
          obtain ⟨c1, c2, c3⟩ := hI x hx
          rw [ug_n (show 3 ≠ 8 by decide), ug_n (show 3 ≠ 7 by decide), ug_n (show 4 ≠ 8 by decide), ug_n (show 4 ≠ 7 by decide), ug_n (show 5 ≠ 8 by decide), ug_n (show 5 ≠ 7 by decide), ug_n (show 6 ≠ 8 by decide), ug_n (show 6 ≠ 7 by decide), ug_n (show 7 ≠ 8 by decide), ug_s, ug_s, ug_n (show 8 ≠ 7 by decide), G2f 3 (by decide), G2f 4 (by decide), G2f 5 (by decide), G2f 6 (by decide), G2f 7 (by decide), G2f 8 (by decide)]
          refine ⟨c1, fun w => ?_, fun w => ?_⟩
          · rw [pk_un (by omega)]
            exact c2 (by omega)
          · by_cases y : x = v
            · subst y
              rw [pk_us, pk_us, d6]
              exact ⟨rfl, fun _ => rfl⟩
            · rw [pk_un y, pk_un y]
              exact c3 (by omega)
        have h92 : ∀ i, i < (dL t v).length → (ug (ug G2 7 v (nI (tT t 6 v))) 8 v (nI (tT t 14 v))) 9 i = nI ((dL t v).getD i 0) := fun i hi => by
          rw [ug_n (by decide), ug_n (by decide)]
          exact q2 i hi
        have h52 : S 5 = nI (tT t 4 v + 0) := by rw [h5, d6]; rfl
        obtain ⟨S', G', m5, m7, m8, m9, f1, f2, f3, f4⟩ := dec_p (p := p) (Q := Q) (l1 := .int (nI (tn t))) (l2 := .int (nI (tk t))) (l4 := .int (nI (dc (tT t 0 v) (tT t 15 v)))) d rfl ht hvM hc (tT t 6 v) 0 S _ zj (by omega) h52 hI2 h92
        have a1' : tT t 14 (v + 1) = tT t 4 v + tT t 6 v := by rw [a1, d6]
        obtain ⟨S'', G'', o1', o2', o3', o4'⟩ := ih (v + 1) S' G' (.int (nI (dc (tT t 0 v) (tT t 15 v)))) (.int m5) (.int (nI (tT t 6 v))) (.int m7) (.int m8) (.int m9) (by omega) (by rw [a1']; exact f2) (by rw [a1']; exact f3) rfl rfl rfl rfl rfl rfl
        have bw := ts_ok (tT t 0 v) (by omega) _ (dc_lt (j := tT t 15 v) s4)
        have wc := fun (G : Nat → Nat → Int32) (hG : ∀ i, i < (dL t v).length → G 9 i = nI ((dL t v).getD i 0)) => c_ways (p := p) (S := S) (Q := Q) (G := G) d (L := dL t v) bw.1 bw.2.1 hG
        have w2 := wc _ h92
        rw [b2] at w2
        refine ⟨S'', G'', ?_, o2', o3', dF_tr (dF_tr ⟨fun _ _ => rfl, fun a ha => ?_⟩ f4) o4'⟩
        · simp only [g96_35, g96_36, g96_37, g96_40, rg5, h5, c1, Option.bind_some, ↓reduceIte]
          simp only [g96_43, g96_44, g96_47, g96_48, g96_49, g96_50, rg6, ra3 hv8, gv.1.1, e0, Option.bind_some, not_false_eq_true, ↓reduceIte]
          simp only [g96_56, g96_57, g96_58, g96_61, g96_62, g96_63, g96_64, g96_65, g96_66, g96_67, g96_68, g96_70, g96_71, g96_74, g96_75, g96_76, g96_78, g96_79, g96_80, g96_83, g96_84, g96_85, g96_87, g96_90, rg6, rg9, ra3 hv8, ra6 hv8, gv.1.1, gv.1.2.2.2, sh, o1, z0, rb0, hwi, w4, w5, Option.bind_some, Option.toList_some, List.cons_append, List.nil_append]
          have q1' : zres (d + 2) 96 92 [.ref 256, .int (nI (tn t)), .int (nI (tk t)), .int (nI v), .int (nI (dc (tT t 0 v) 0)), .int (nI (tT t 13 v)), .int (nI (tsz (tT t 0 v) (dc (tT t 0 v) 0)).length), l7, l8, l9] [] (zRh p S G1 Q) = _ := q1
          rw [q1', b2]
          have g4 : ∀ G3 : Nat → Nat → Int32, (∀ a, a ≠ 9 → a ≠ 7 → a ≠ 8 → G3 a = G a) → G3 4 v = nI (tT t 3 v) := fun G3 h => (congrFun (h 4 (by decide) (by decide) (by decide)) v).trans gv.1.2.1
          have g4b : ug (ug G2 7 v (nI (tT t 6 v))) 8 v (nI (tT t 14 v)) 4 v = nI (tT t 3 v) := by rw [ug_n (by decide), ug_n (by decide), G2f 4 (by decide)]; exact gv.1.2.1
          simp only [g96_137, g96_138, g96_141, g96_142, g96_144, g96_145, g96_146, g96_149, g96_150, g96_151, g96_154, g96_155, g96_156, g96_158, g96_161, g96_163, g96_164, g96_167, g96_168, g96_169, g96_171, g96_172, rg5, rg7, rg10, rg11, h5, rw7 hv8, rw8 hv8, ra4 hv8, w2, g4b, z0, rb0, hwi, w7, w8, Option.bind_some, Option.toList_some, List.cons_append, List.nil_append]
          have f1' : zres (d + 2) 96 174 [.ref 256, .int (nI (tn t)), .int (nI (tk t)), .int (nI v), .int (nI (dc (tT t 0 v) (tT t 15 v))), .int (nI (dR t v)), .int (nI (tT t 6 v)), .int (nI (wy (dL t v))), .int (nI (tT t 3 v)), .int 0] [] (zRh p S (ug (ug G2 7 v (nI (tT t 6 v))) 8 v (nI (tT t 14 v))) Q) = _ := f1
          rw [f1']
          simp only [g96_249, g96_252, hwi, nI_1]
          exact o1'
        · rw [ug_n (by omega), ug_n (by omega)]
          exact G2f a (by omega)
  have ch : ∀ h : ZH, zcl (d + 2) 91 [.ref 256, .int (nI (tn t))] h = some (some (.int (nI (hf (tn t)))), h) := fun h => by rw [c_halves (d + 1) 256 (nI (tn t)) h, hf_ok _ n1]
  have hr : nI (tk t) - nI (tk t) / nI (hf (tn t)) * nI (hf (tn t)) = nI (tT t 13 0) := by rw [pk_rem (by omega) hfl.2 (by omega), k4]
  have hne : ¬ nI (hf (tn t)) = 0 := nI_ne0 hfl.2 (by omega)
  have zk : ∀ (a b c e f : Int32) (x y : Nat), zcs [.int a, .int b, .int c, .ref x] ≤ 8 ∧ zcs [.int a, .int b, .int c, .int e, .ref x] ≤ 8 := fun _ _ _ _ _ _ _ => ⟨Nat.le_of_ble_eq_true rfl, Nat.le_of_ble_eq_true rfl⟩
  have zk1 : ∀ (a b c : Int32) (x : Nat), zcs [.int a, .int b, .int c, .ref x] ≤ 8 := fun _ _ _ _ => Nat.le_of_ble_eq_true rfl
  have zk2 : ∀ (a b c e : Int32) (x : Nat), zcs [.int a, .int b, .int c, .int e, .ref x] ≤ 8 := fun _ _ _ _ _ => Nat.le_of_ble_eq_true rfl
  obtain ⟨S1, G1, o1, o2, o3, ⟨o4, o5, o6, o7, o8⟩, o9, o10⟩ := c_node (p := p) (S := upd S 5 0) (G := G) (Q := Q) (d + 1) (fr := 0) (c := if tk t < hf (tn t) then 1 else 2) (k := nI (tT t 13 0)) (w := 0) (s := tn t) (by omega) pk_us (by omega)
  have hI0 : dI t 0 1 G1 := by
    intro x hx
    obtain rfl : x = 0 := by omega
    refine ⟨⟨by rw [o4, hT.1.2.2.1], by rw [o5, hT.1.2.2.2.1]; rfl, ?_, o7⟩, fun _ => o8, fun w => by omega⟩
    rw [o6, k3]
    by_cases y : tn t = 1
    · rw [if_pos y, if_pos y]; rfl
    · rw [if_neg y, if_neg y]
      by_cases y2 : tk t < hf (tn t)
      · rw [if_pos y2, if_pos y2]; rfl
      · rw [if_neg y2, if_neg y2]; rfl
  obtain ⟨S', G', f1, f2, f3, f4⟩ := loop (tM t) 0 S1 G1 zj zj zj zj zj zj (by omega) (by rw [k1]; exact o2) (by rw [k1]; exact hI0) rfl rfl rfl rfl rfl rfl
  refine ⟨S', G', ?_, f2, f3, dF_tr ⟨fun j hj => (o3 j hj).trans (pk_un hj), fun a ha => o10 a (by omega)⟩ f4⟩
  have fin : zres (d + 2) 96 22 [.ref 256, .int (nI (tn t)), .int (nI (tk t)), zj, zj, zj, zj, zj, zj, zj] [.int (if tk t < hf (tn t) then 1 else 2), .int 0, .int (nI (tn t)), .ref 256] (zRh p (upd S 5 0) G Q) = some (none, zRh p S' G' Q) := by
    have hc1 : ∀ x, Value.category (.int x) = 1 := fun _ => rfl
    simp only [g96_22, g96_23, g96_24, g96_25, g96_28, g96_29, g96_32, g96_33, g96_34, ch, hne, hr, o1, zk2, z0, rb0, hwi, not_false_eq_true, Option.bind_some, Option.toList_some, List.cons_append, List.nil_append]
    exact f1
  rw [e96]
  simp only [g96_0, g96_1, g96_2, g96_5, g96_6, g96_7, g96_8, g96_9, g96_10, g96_11, rfp5, ch, zk2, zk1, rb0, Option.bind_some, Option.toList_some, List.cons_append, List.nil_append]
  by_cases y2 : tk t < hf (tn t)
  · have c1 : ¬ nI (hf (tn t)) ≤ nI (tk t) := nI_ge y2 (by omega)
    simp only [g96_14, c1, ↓reduceIte, g96_17, g96_18]
    rw [if_pos y2] at fin
    exact fin
  · have c1 : nI (hf (tn t)) ≤ nI (tk t) := nI_le (by omega) (by omega)
    simp only [g96_14, c1, ↓reduceIte, g96_21]
    rw [if_neg y2] at fin
    exact fin
end DEC2
