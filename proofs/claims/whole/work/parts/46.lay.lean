/-! lay(k): the two ways through a tree's chain of nodes -/
section LAY
variable {b M n : Nat} {T : Nat → Nat → Nat} {w q : Nat → Nat} {W H : Nat} {X : Nat → Nat → Nat}
theorem y_chain (hT : zTok M n T) {v : Nat} (hv : v < M) (hc : ¬ T 1 v = 0) : zchain T v := by
  obtain ⟨q1, q2, q3, q4, q5, q6, q7⟩ := y_cut hT hv hc
  exact ⟨q3, q4, fun j hj => (q6 j hj).1⟩
/-- the nodes of a tree with their numbers -/
def zNs (b M : Nat) (T : Nat → Nat → Nat) (k : ZH) (D : Nat → Nat → Int64) : Prop := ∀ v, v < M → k[b + 1 + v]? = some (zNd b M T v (D v))
theorem zNs_set {k : ZH} {D : Nat → Nat → Int64} {j : Nat} {x : Nat → Int64} (hk : zNs b M T k D) (hj : j < M) : zNs b M T (k.set (b + 1 + j) (zNd b M T j x)) (fun v => if v = j then x else D v) := by
  intro v hv
  show _ = some (zNd b M T v (if v = j then x else D v))
  by_cases e : v = j
  · subst e
    rw [zset_get (hk v hv), if_pos rfl]
  · rw [zset_ne (by omega), hk v hv, if_neg e]
def zout (b M : Nat) (k h : ZH) : Prop := ∀ a : Nat, (a < b + 1 ∨ b + 1 + M ≤ a) → k[a]? = h[a]?
/-- one node's sides -/
theorem lay_1 (d : Nat) (hT : zTok M n T) (hX : yLay M T w q W H X) (hw : yOk n w q) (hn : n ≤ 4) {k : ZH} {D : Nat → Nat → Int64} {j : Nat} {kk cn cW cH cl : Int32} {sa sb : Int64} {fw fq : Nat → Int32} (hk : zNs b M T k D) (hj : j < M) (hb : 35 ≤ b)
    (h29 : k[29]? = some (zShc cn cW cH cl sa sb)) (h31 : k[31]? = some (10, zia 4 fw)) (h32 : k[32]? = some (10, zia 4 fq)) (hfw : ∀ i, i < n → fw i = nI (w i) ∧ fq i = nI (q i)) (hD : ∀ v, v < M → j < v → D v 0 = lN (X 0 v) ∧ D v 1 = lN (X 1 v)) :
    zres (d + 2) 37 51 [.ref 29, .int kk, .ref b, .ref (b + 1 + j)] [] k = zres (d + 2) 37 97 [.ref 29, .int kk, .ref b, .ref (b + 1 + j)] [] (k.set (b + 1 + j) (zNd b M T j (vp_updL (vp_updL (D j) 0 (lN (X 0 j))) 1 (lN (X 1 j))))) := by
  have z0 : zcs [] ≤ 8 := by decide
  have zr : ∀ a, zcs [.ref a] ≤ 8 := fun a => Nat.le_of_ble_eq_true rfl
  have hV := y_in (hk j hj)
  have r1 : zget k (b + 1 + j) 3 1 = some (.int (nI (T 1 j))) := (zget_c (hk j hj)).trans rfl
  have hb3 : (k[b + 1 + j]?).map (fun c => c.1) = some 3 := by rw [hk j hj]; rfl
  rcases (hT.2.1 j hj).1 with z | z
  · have c0 : nI (T 1 j) = 0 := by rw [z.1]; rfl
    have hs := z.2.2.2.2.1
    obtain ⟨x0, x1⟩ := hX.1 j hj z.1
    have r3 : ∀ y, zget (k.set (b + 1 + j) (zNd b M T j y)) (b + 1 + j) 3 3 = some (.int (nI (T 3 j))) := fun y => zgn3 hV
    have u1 : ∀ y, zget (k.set (b + 1 + j) (zNd b M T j y)) 29 4 1 = some (.ref 31) := fun y => by
      rw [zgo_ne (by omega)]
      exact (zget_c h29).trans rfl
    have u2 : ∀ y, zget (k.set (b + 1 + j) (zNd b M T j y)) 29 4 2 = some (.ref 32) := fun y => by
      rw [zgo_ne (by omega)]
      exact (zget_c h29).trans rfl
    have a1 : ∀ y, zcl (d + 2) 75 [.ref 31, .int (nI (T 3 j))] (k.set (b + 1 + j) (zNd b M T j y)) = some (some (.int (nI (w (T 3 j)))), k.set (b + 1 + j) (zNd b M T j y)) := fun y => by
      rw [c_at_in (d + 1) ((zset_ne (by omega)).trans h31) (Or.inl rfl) rfl (show T 3 j < 4 by omega) (by decide), (hfw _ hs).1]
    have a2 : ∀ y, zcl (d + 2) 75 [.ref 32, .int (nI (T 3 j))] (k.set (b + 1 + j) (zNd b M T j y)) = some (some (.int (nI (q (T 3 j)))), k.set (b + 1 + j) (zNd b M T j y)) := fun y => by
      rw [c_at_in (d + 1) ((zset_ne (by omega)).trans h32) (Or.inl rfl) rfl (show T 3 j < 4 by omega) (by decide), (hfw _ hs).2]
    have l1 := nI_l (n := w (T 3 j)) (by have := hw _ hs; omega)
    have l2 := nI_l (n := q (T 3 j)) (by have := hw _ hs; omega)
    have hs2 : k = k.set (b + 1 + j) (zNd b M T j (D j)) := (zset_self (hk j hj)).symm
    rw [x0, x1]
    have e : zres (d + 2) 37 51 [.ref 29, .int kk, .ref b, .ref (b + 1 + j)] [] (k.set (b + 1 + j) (zNd b M T j (D j))) = zres (d + 2) 37 97 [.ref 29, .int kk, .ref b, .ref (b + 1 + j)] [] (k.set (b + 1 + j) (zNd b M T j (vp_updL (vp_updL (D j) 0 (lN (w (T 3 j)))) 1 (lN (q (T 3 j)))))) := by
      simp only [g37_51, g37_51n, g37_52, g37_55, zgn1 hV, c0, Option.bind_some, not_true_eq_false, ↓reduceIte]
      simp only [g37_58, g37_58n, g37_59, g37_60, g37_63, g37_63n, g37_64, g37_67, g37_70, g37_71, g37_74, g37_74n, g37_75, g37_76, g37_79, g37_79n, g37_80, g37_83, g37_86, g37_87, g37_90, r3, u1, u2, a1, a2, l1, l2, zr, zpn8 hV, zpn9 hV, Option.bind_some, Option.toList_some, List.cons_append, List.nil_append]
    rw [← hs2] at e
    exact e
  · have hc0 : ¬ T 1 j = 0 := by have := z.1; omega
    have hC := y_chain hT hj hc0
    have hq5 := z.2.2.2.2.1
    have hq3 := z.2.2.1
    have hp : ∀ i, i < T 6 j → k[b + 1 + (T 4 j + i)]? = some (zNd b M T (T 4 j + i) (D (T 4 j + i))) ∧ D (T 4 j + i) 0 = lN (X 0 (T 4 j + i)) ∧ D (T 4 j + i) 1 = lN (X 1 (T 4 j + i)) := fun i hi => ⟨hk _ (by omega), hD _ (by omega) (by omega)⟩
    rcases z.1 with c | c
    · have c0 : ¬ nI (T 1 j) = 0 := by rw [c]; decide
      have me := c_measure1 (d + 1) (hk j hj) c hC hp
      obtain ⟨x0, x1⟩ := hX.2.1 j hj c
      rw [← x0, ← x1] at me
      simp only [g37_51, g37_51n, g37_52, g37_55, r1, c0, Option.bind_some, not_false_eq_true, ↓reduceIte]
      simp only [g37_93, g37_93n, g37_94, z0, hb3, me, Option.bind_some, Option.toList_none, List.nil_append]
    · have c0 : ¬ nI (T 1 j) = 0 := by rw [c]; decide
      have me := c_measure2 (d + 1) (hk j hj) c hC hp
      obtain ⟨x0, x1⟩ := hX.2.2.1 j hj c
      rw [← x0, ← x1] at me
      simp only [g37_51, g37_51n, g37_52, g37_55, r1, c0, Option.bind_some, not_false_eq_true, ↓reduceIte]
      simp only [g37_93, g37_93n, g37_94, z0, hb3, me, Option.bind_some, Option.toList_none, List.nil_append]
/-- from the last node to the whole -/
theorem lay_down (d : Nat) (hT : zTok M n T) (hX : yLay M T w q W H X) (hw : yOk n w q) (hn : n ≤ 4) {kk cn cW cH cl : Int32} {sa sb : Int64} {fw fq : Nat → Int32} (hb : 35 ≤ b) (hfw : ∀ i, i < n → fw i = nI (w i) ∧ fq i = nI (q i)) :
    ∀ (j : Nat) (k : ZH) (D : Nat → Nat → Int64), j ≤ M → zNs b M T k D → k[29]? = some (zShc cn cW cH cl sa sb) → k[31]? = some (10, zia 4 fw) → k[32]? = some (10, zia 4 fq) → (∀ v, v < M → j ≤ v → D v 0 = lN (X 0 v) ∧ D v 1 = lN (X 1 v)) →
    ∃ k' D', zres (d + 2) 37 47 [.ref 29, .int kk, .ref b, (if j = 0 then .null else .ref (b + j))] [] k = zres (d + 2) 37 105 [.ref 29, .int kk, .ref b, .null] [] k' ∧ zNs b M T k' D' ∧ zout b M k' k ∧ (∀ v, v < M → D' v 0 = lN (X 0 v) ∧ D' v 1 = lN (X 1 v) ∧ ∀ c, 2 ≤ c → D' v c = D v c) := by
  intro j
  induction j with
  | zero =>
    intro k D hj hk h29 h31 h32 hD
    rw [if_pos rfl, g37_47n, g37_48n]
    exact ⟨k, D, rfl, hk, fun _ _ => rfl, fun v hv => ⟨(hD v hv (by omega)).1, (hD v hv (by omega)).2, fun _ _ => rfl⟩⟩
  | succ j ih =>
    intro k D hj hk h29 h31 h32 hD
    have hw2 : Value.category (.ref b) = 1 := rfl
    have hV := y_in (hk j (by omega))
    have s1 := lay_1 (kk := kk) d hT hX hw hn hk (show j < M by omega) hb h29 h31 h32 hfw (fun v hv hl => hD v hv (by omega))
    rw [if_neg (by omega), show b + (j + 1) = b + 1 + j by omega, g37_47, g37_48r, s1]
    generalize hx : vp_updL (vp_updL (D j) 0 (lN (X 0 j))) 1 (lN (X 1 j)) = x
    have st : ∀ (i : Nat) (h : ZH), zres (d + 2) 37 101 [.ref 29, .int kk, .ref b, .ref (b + 1 + j)] [(if i = 0 then .null else .ref (b + i))] h = zres (d + 2) 37 102 [.ref 29, .int kk, .ref b, (if i = 0 then .null else .ref (b + i))] [] h := by
      intro i h
      by_cases z : i = 0
      · rw [if_pos z, g37_101n hw2]
      · rw [if_neg z, g37_101 hw2]
    simp only [g37_97, g37_97n, g37_98, zgn6 hV, Option.bind_some, st, g37_102]
    obtain ⟨k', D', e1, e2, e3, e4⟩ := ih (k.set (b + 1 + j) (zNd b M T j x)) (fun v => if v = j then x else D v) (by omega) (zNs_set hk (by omega)) ((zset_ne (by omega)).trans h29) ((zset_ne (by omega)).trans h31) ((zset_ne (by omega)).trans h32) (fun v hv hl => by
      by_cases z : v = j
      · subst z
        rw [if_pos rfl, ← hx]
        exact ⟨rfl, rfl⟩
      · rw [if_neg z]
        exact hD v hv (by omega))
    refine ⟨k', D', e1, e2, fun a ha => ?_, fun v hv => ⟨(e4 v hv).1, (e4 v hv).2.1, fun c hc => ?_⟩⟩
    · rw [e3 a ha, zset_ne (by omega)]
    · rw [(e4 v hv).2.2 c hc]
      by_cases z : v = j
      · subst z
        rw [if_pos rfl, ← hx, pk_uLn (by omega), pk_uLn (by omega)]
      · rw [if_neg z]
/-- what the sheet's rows hold of the leaves ahead of node j -/
def zLf (M : Nat) (T : Nat → Nat → Nat) (X : Nat → Nat → Nat) (j : Nat) (E ar : Nat → Int32) : Prop := ∀ v, v < M → v < j → T 1 v = 0 → (∀ c, c < 4 → E (4 * T 3 v + c) = nI (eE X v c)) ∧ ar (T 3 v) = nI (eA X v)
theorem zLf_leaf (hT : zTok M n T) {j : Nat} {E ar : Nat → Int32} (hL : zLf M T X j E ar) (hj : j < M) (hc : T 1 j = 0) : zLf M T X (j + 1) (zed E (T 3 j) X j) (upd ar (T 3 j) (nI (eA X j))) := by
  intro v hv hl hc2
  have u1 : ∀ v, v < M → T 1 v = 0 → T 12 (T 3 v) = v := fun v hv hc => by
    rcases (hT.2.1 v hv).1 with z | z
    · exact z.2.2.2.2.2
    · have := z.1
      omega
  by_cases z : v = j
  · subst z
    refine ⟨fun c hc => ?_, pk_us⟩
    unfold zed
    match c, hc with
    | 0, _ => rw [pk_un (by omega), pk_un (by omega), pk_un (by omega), Nat.add_zero, pk_us]
    | 1, _ => rw [pk_un (by omega), pk_un (by omega), pk_us]
    | 2, _ => rw [pk_un (by omega), pk_us]
    | 3, _ => rw [pk_us]
  · have ne : T 3 v ≠ T 3 j := fun e => z (by rw [← u1 v hv hc2, e, u1 j hj hc])
    obtain ⟨l1, l2⟩ := hL v hv (by omega) hc2
    refine ⟨fun c hc => ?_, by rw [pk_un ne]; exact l2⟩
    unfold zed
    rw [pk_un (by omega), pk_un (by omega), pk_un (by omega), pk_un (by omega)]
    exact l1 c hc
theorem zLf_cut {j : Nat} {E ar : Nat → Int32} (hL : zLf M T X j E ar) (hc : ¬ T 1 j = 0) : zLf M T X (j + 1) E ar := by
  intro v hv hl hc2
  exact hL v hv (by have : v ≠ j := fun e => hc (e ▸ hc2); omega) hc2
/-- from the whole to the last node -/
theorem lay_up (d : Nat) (hT : zTok M n T) (hX : yLay M T w q W H X) (hw : yOk n w q) (hn : n ≤ 4) (hW : W ≤ 400) (hH : H ≤ 200) {kk cn cW cH cl : Int32} {sa sb : Int64} (hb : 35 ≤ b) :
    ∀ (m j : Nat) (k : ZH) (D : Nat → Nat → Int64) (E ar : Nat → Int32), j + m = M → zNs b M T k D → k[29]? = some (zShc cn cW cH cl sa sb) → k[35]? = some (10, zia 16 E) → k[34]? = some (10, zia 4 ar) → (∀ v, v < M → D v 0 = lN (X 0 v) ∧ D v 1 = lN (X 1 v) ∧ (v = 0 ∨ T 8 v < j → D v = fun c => lN (X c v))) → zLf M T X j E ar →
    ∃ k' E' ar', zres (d + 2) 37 147 [.ref 29, .int kk, .ref b, (if j = M then .null else .ref (b + j + 1))] [] k = some (some (.int 1), k') ∧ zNs b M T k' (fun v c => lN (X c v)) ∧ (∀ a : Nat, (a < b + 1 ∨ b + 1 + M ≤ a) → a ≠ 34 → a ≠ 35 → k'[a]? = k[a]?) ∧ k'[35]? = some (10, zia 16 E') ∧ k'[34]? = some (10, zia 4 ar') ∧ zLf M T X M E' ar' := by
  intro m
  induction m with
  | zero =>
    intro j k D E ar hj hk h29 h35 h34 hD hL
    obtain rfl : j = M := by omega
    rw [if_pos rfl, g37_147n, g37_148n, g37_194, g37_195 zone]
    refine ⟨k, E, ar, rfl, fun v hv => ?_, fun _ _ _ _ => rfl, h35, h34, hL⟩
    rw [hk v hv, (hD v hv).2.2 (by
      by_cases z : v = 0
      · exact Or.inl z
      · exact Or.inr (by have := (hT.2.2.1 v hv (by omega)).1; omega))]
  | succ m ih =>
    intro j k D E ar hj hk h29 h35 h34 hD hL
    have hjM : j < M := by omega
    have z0 : zcs [] ≤ 8 := by decide
    have hw2 : Value.category (.ref b) = 1 := rfl
    have hDj : D j = fun c => lN (X c j) := (hD j hjM).2.2 (by
      by_cases z : j = 0
      · exact Or.inl z
      · exact Or.inr (hT.2.2.1 j hjM (by omega)).1)
    have kj : k[b + 1 + j]? = some (zNd b M T j (fun c => lN (X c j))) := by rw [hk j hjM, hDj]
    have r1 : zget k (b + 1 + j) 3 1 = some (.int (nI (T 1 j))) := (zget_c kj).trans rfl
    have hb3 : (k[b + 1 + j]?).map (fun c => c.1) = some 3 := by rw [kj]; rfl
    have hb4 : (k[29]?).map (fun c => c.1) = some 4 := by rw [h29]; rfl
    have st : ∀ (h : ZH), zres (d + 2) 37 190 [.ref 29, .int kk, .ref b, .ref (b + 1 + j)] [(if j + 1 = M then .null else .ref (b + j + 2))] h = zres (d + 2) 37 191 [.ref 29, .int kk, .ref b, (if j + 1 = M then .null else .ref (b + (j + 1) + 1))] [] h := by
      intro h
      by_cases z : j + 1 = M
      · rw [if_pos z, if_pos z, g37_190n hw2]
      · rw [if_neg z, if_neg z, g37_190 hw2, show b + j + 2 = b + (j + 1) + 1 by omega]
    obtain ⟨b0, b1, b4, b7, b23, b56⟩ := yBd hT hX hw hW hH hjM
    obtain ⟨g4, g7, -⟩ := yGo hT hX hw hjM
    rw [if_neg (by omega), show b + j + 1 = b + 1 + j by omega, g37_147, g37_148r]
    rcases (hT.2.1 j hjM).1 with z | z
    · have c1 : ¬ nI (T 1 j) = 1 := by rw [z.1]; decide
      have c2 : ¬ nI (T 1 j) = 2 := by rw [z.1]; decide
      have le := c_layEdges d h29 kj h35 h34 hb (hT.2.1 j hjM).2.2.2.2.2 g4 g7 b4 b7 b23 b56
      generalize hk2 : (k.set 35 (10, zia 16 (zed E (T 3 j) X j))).set 34 (10, zia 4 (upd ar (T 3 j) (nI (eA X j)))) = k2 at le
      have fr : ∀ a : Nat, a ≠ 34 → a ≠ 35 → k2[a]? = k[a]? := fun a q1 q2 => by
        rw [← hk2, zset_ne (Ne.symm q1), zset_ne (Ne.symm q2)]
      have k2j := (fr (b + 1 + j) (by omega) (by omega)).trans kj
      have r7 : zget k2 (b + 1 + j) 3 7 = some (if j + 1 = M then .null else .ref (b + j + 2)) := (zget_c k2j).trans rfl
      simp only [g37_151, g37_151n, g37_152, g37_155, g37_156, r1, c1, Option.bind_some, not_false_eq_true, ↓reduceIte]
      simp only [g37_166, g37_166n, g37_167, g37_170, g37_171, r1, c2, Option.bind_some, not_false_eq_true, ↓reduceIte]
      simp only [g37_181, g37_182, g37_182n, g37_183, g37_186, g37_186n, g37_187, z0, hb4, le, r7, Option.bind_some, Option.toList_none, List.nil_append, st, g37_191]
      obtain ⟨k', E', ar', e1, e2, e3, e4, e5, e6⟩ := ih (j + 1) k2 D (zed E (T 3 j) X j) (upd ar (T 3 j) (nI (eA X j))) (by omega) (fun v hv => (fr _ (by omega) (by omega)).trans (hk v hv)) ((fr 29 (by decide) (by decide)).trans h29) (by rw [← hk2, zset_ne (by decide)]; exact zset_get h35) (by rw [← hk2]; exact zset_get ((zset_ne (by decide)).trans h34)) (fun v hv => ⟨(hD v hv).1, (hD v hv).2.1, fun hh => (hD v hv).2.2 (by
          rcases hh with z9 | z9
          · exact Or.inl z9
          · by_cases y : v = 0
            · exact Or.inl y
            · refine Or.inr ?_
              have t8 := hT.2.2.1 v hv (by omega)
              have : T 8 v ≠ j := fun e => t8.2.2.2 (by rw [e]; exact z.1)
              omega)⟩) (zLf_leaf hT hL hjM z.1)
      exact ⟨k', E', ar', e1, e2, fun a q1 q2 q3 => (e3 a q1 q2 q3).trans (fr a q2 q3), e4, e5, e6⟩
    · have hc0 : ¬ T 1 j = 0 := by have := z.1; omega
      have hC := y_chain hT hjM hc0
      have hq5 := z.2.2.2.2.1
      have hq3 := z.2.2.1
      have hq6 := z.2.2.2.2.2.1
      have hp : ∀ i, i < T 6 j → k[b + 1 + (T 4 j + i)]? = some (zNd b M T (T 4 j + i) (D (T 4 j + i))) ∧ D (T 4 j + i) 0 = lN (X 0 (T 4 j + i)) ∧ D (T 4 j + i) 1 = lN (X 1 (T 4 j + i)) := fun i hi => ⟨hk _ (by omega), (hD _ (by omega)).1, (hD _ (by omega)).2.1⟩
      have step : ∀ k2 : ZH, (∀ i, i < T 6 j → k2[b + 1 + (T 4 j + i)]? = some (zNd b M T (T 4 j + i) (fun c => lN (X c (T 4 j + i))))) → (∀ a, (a < b + 1 + T 4 j ∨ b + 1 + T 4 j + T 6 j ≤ a) → k2[a]? = k[a]?) →
          ∃ k' E' ar', zres (d + 2) 37 186 [.ref 29, .int kk, .ref b, .ref (b + 1 + j)] [] k2 = some (some (.int 1), k') ∧ zNs b M T k' (fun v c => lN (X c v)) ∧ (∀ a : Nat, (a < b + 1 ∨ b + 1 + M ≤ a) → a ≠ 34 → a ≠ 35 → k'[a]? = k[a]?) ∧ k'[35]? = some (10, zia 16 E') ∧ k'[34]? = some (10, zia 4 ar') ∧ zLf M T X M E' ar' := by
        intro k2 k2p fr
        have k2j := (fr (b + 1 + j) (by omega)).trans kj
        have r7 : zget k2 (b + 1 + j) 3 7 = some (if j + 1 = M then .null else .ref (b + j + 2)) := (zget_c k2j).trans rfl
        simp only [g37_186, g37_186n, g37_187, r7, Option.bind_some, st, g37_191]
        obtain ⟨k', E', ar', e1, e2, e3, e4, e5, e6⟩ := ih (j + 1) k2 (fun v => if T 4 j ≤ v ∧ v < T 4 j + T 6 j then (fun c => lN (X c v)) else D v) E ar (by omega) (fun v hv => by
            show _ = some (zNd b M T v (if T 4 j ≤ v ∧ v < T 4 j + T 6 j then (fun c => lN (X c v)) else D v))
            by_cases y : T 4 j ≤ v ∧ v < T 4 j + T 6 j
            · have := k2p (v - T 4 j) (by omega)
              rw [show T 4 j + (v - T 4 j) = v by omega] at this
              rw [if_pos y]
              exact this
            · rw [if_neg y, fr (b + 1 + v) (by omega)]
              exact hk v hv) ((fr 29 (by omega)).trans h29) ((fr 35 (by omega)).trans h35) ((fr 34 (by omega)).trans h34) (fun v hv => by
            by_cases y : T 4 j ≤ v ∧ v < T 4 j + T 6 j
            · rw [if_pos y]
              exact ⟨rfl, rfl, fun _ => rfl⟩
            · rw [if_neg y]
              refine ⟨(hD v hv).1, (hD v hv).2.1, fun hh => (hD v hv).2.2 ?_⟩
              rcases hh with z9 | z9
              · exact Or.inl z9
              · by_cases y0 : v = 0
                · exact Or.inl y0
                · refine Or.inr ?_
                  have t8 := hT.2.2.1 v hv (by omega)
                  have : T 8 v ≠ j := fun e => by rw [e] at t8; omega
                  omega) (zLf_cut hL hc0)
        exact ⟨k', E', ar', e1, e2, fun a q1 q2 q3 => (e3 a q1 q2 q3).trans (fr a (by omega)), e4, e5, e6⟩
      rcases z.1 with c | c
      · have c1 : nI (T 1 j) = 1 := by rw [c]; rfl
        obtain ⟨k2, e1, e2, e3⟩ := c_placeAcross (d + 1) kj hC hp (fun i hi => ⟨(yPo hT hX hw (show T 4 j + i < M by omega)).2.1, by have := (yBd hT hX hw hW hH (show T 4 j + i < M by omega)).2.1; omega⟩) (by omega) (fun i hi => hX.2.2.2.2.1 j hjM c i hi)
        obtain ⟨k', E', ar', f⟩ := step k2 e2 e3
        refine ⟨k', E', ar', ?_, f.2⟩
        simp only [g37_151, g37_151n, g37_152, g37_155, g37_156, r1, c1, Option.bind_some, not_true_eq_false, ↓reduceIte]
        simp only [g37_159, g37_159n, g37_160, g37_163, z0, hb3, e1, Option.bind_some, Option.toList_none, List.nil_append]
        exact f.1
      · have c1 : ¬ nI (T 1 j) = 1 := by rw [c]; decide
        have c2 : nI (T 1 j) = 2 := by rw [c]; rfl
        obtain ⟨k2, e1, e2, e3⟩ := c_placeDown (d + 1) kj hC hp (fun i hi => ⟨(yPo hT hX hw (show T 4 j + i < M by omega)).1, by have := (yBd hT hX hw hW hH (show T 4 j + i < M by omega)).1; omega⟩) (by omega) (fun i hi => hX.2.2.2.2.2 j hjM c i hi)
        obtain ⟨k', E', ar', f⟩ := step k2 e2 e3
        refine ⟨k', E', ar', ?_, f.2⟩
        simp only [g37_151, g37_151n, g37_152, g37_155, g37_156, r1, c1, Option.bind_some, not_false_eq_true, ↓reduceIte]
        simp only [g37_166, g37_166n, g37_167, g37_170, g37_171, r1, c2, Option.bind_some, not_true_eq_false, ↓reduceIte]
        simp only [g37_174, g37_174n, g37_175, g37_178, z0, hb3, e1, Option.bind_some, Option.toList_none, List.nil_append]
        exact f.1
end LAY
