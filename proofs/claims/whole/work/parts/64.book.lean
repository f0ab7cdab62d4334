/-! THE BOOK OF THE CLASS: its cells, beginSpot, offer -/
def bn (a : Nat) : Nat := ([26, 26, 26, 60, 72, 12] : List Nat).getD a 0
def BK (h : ZH) (b : Nat) (s : Nat → Int32) (X : Nat → Nat → Int32) : Prop := h[b]? = some (zBkc b (s 6) (s 7) (s 8)) ∧ ∀ a, a < 6 → h[b + 1 + a]? = some (10, zia (bn a) (X a))
/-- only the book has changed -/
def BF (b : Nat) (h h' : ZH) : Prop := ∀ k : Nat, (k < b ∨ b + 6 < k) → h'[k]? = h[k]?
theorem BF_rf {b : Nat} {h : ZH} : BF b h h := fun _ _ => rfl
theorem BF_tr {b : Nat} {h k l : ZH} (h1 : BF b h k) (h2 : BF b k l) : BF b h l := fun a ha => (h2 a ha).trans (h1 a ha)
theorem bn_lt : ∀ a, a < 6 → bn a < 2 ^ 31 := by decide
def en1 (o : Option Nat) : Int32 := match o with
  | none => -1
  | some v => nI v
def enB (X : Nat → Nat → Int32) (q : Nat) (E : EN) : Prop := X 0 q = en1 E.1 ∧ X 1 q = E.2.1 ∧ X 2 q = nI E.2.2
section BOOK
variable {h : ZH} {b : Nat} {s : Nat → Int32} {X : Nat → Nat → Int32}
theorem BK_b (hB : BK h b s X) : (h[b]?).map (fun c => c.1) = some 1 := by rw [hB.1]; rfl
theorem BK_0 (hB : BK h b s X) : zget h b 1 0 = some (.ref (b + 1 + 0)) := (zget_c hB.1).trans rfl
theorem BK_1 (hB : BK h b s X) : zget h b 1 1 = some (.ref (b + 1 + 1)) := (zget_c hB.1).trans rfl
theorem BK_2 (hB : BK h b s X) : zget h b 1 2 = some (.ref (b + 1 + 2)) := (zget_c hB.1).trans rfl
theorem BK_3 (hB : BK h b s X) : zget h b 1 3 = some (.ref (b + 1 + 3)) := (zget_c hB.1).trans rfl
theorem BK_4 (hB : BK h b s X) : zget h b 1 4 = some (.ref (b + 1 + 4)) := (zget_c hB.1).trans rfl
theorem BK_5 (hB : BK h b s X) : zget h b 1 5 = some (.ref (b + 1 + 5)) := (zget_c hB.1).trans rfl
theorem BK_6 (hB : BK h b s X) : zget h b 1 6 = some (.int (s 6)) := (zget_c hB.1).trans rfl
theorem BK_7 (hB : BK h b s X) : zget h b 1 7 = some (.int (s 7)) := (zget_c hB.1).trans rfl
theorem BK_8 (hB : BK h b s X) : zget h b 1 8 = some (.int (s 8)) := (zget_c hB.1).trans rfl
theorem BK_at (d : Nat) (hB : BK h b s X) {a j : Nat} (ha : a < 6) (hj : j < bn a) : zcl (d + 1) 75 [.ref (b + 1 + a), .int (nI j)] h = some (some (.int (X a j)), h) := c_at_in d (hB.2 a ha) (Or.inl rfl) rfl hj (bn_lt a ha)
theorem BK_put (d : Nat) (hB : BK h b s X) {a j : Nat} (ha : a < 6) (hj : j < bn a) (x : Int32) : ∃ h', zcl (d + 1) 76 [.ref (b + 1 + a), .int (nI j), .int x] h = some (none, h') ∧ BK h' b s (ug X a j x) ∧ BF b h h' := by
  refine ⟨_, c_put_in d (hB.2 a ha) rfl hj (bn_lt a ha), ⟨(zset_ne (by omega)).trans hB.1, fun c hc => ?_⟩, fun k hk => zset_ne (by omega)⟩
  by_cases z : c = a
  · subst z
    rw [ug_s]
    exact zset_get (hB.2 c hc)
  · rw [ug_n z, zset_ne (by omega)]
    exact hB.2 c hc
theorem BK_set6 (hB : BK h b s X) (x : Int32) : zput h b 1 6 (.int x) = some (h.set b (zBkc b x (s 7) (s 8))) ∧ BK (h.set b (zBkc b x (s 7) (s 8))) b (upd s 6 x) X ∧ BF b h (h.set b (zBkc b x (s 7) (s 8))) := ⟨zput_c hB.1 rfl rfl rfl, ⟨zset_get hB.1, fun a ha => (zset_ne (by omega)).trans (hB.2 a ha)⟩, fun k hk => zset_ne (by omega)⟩
theorem BK_set7 (hB : BK h b s X) (x : Int32) : zput h b 1 7 (.int x) = some (h.set b (zBkc b (s 6) x (s 8))) ∧ BK (h.set b (zBkc b (s 6) x (s 8))) b (upd s 7 x) X ∧ BF b h (h.set b (zBkc b (s 6) x (s 8))) := ⟨zput_c hB.1 rfl rfl rfl, ⟨zset_get hB.1, fun a ha => (zset_ne (by omega)).trans (hB.2 a ha)⟩, fun k hk => zset_ne (by omega)⟩
theorem BK_set8 (hB : BK h b s X) : zput h b 1 8 (.int 1) = some (h.set b (zBkc b (s 6) (s 7) 1)) ∧ BK (h.set b (zBkc b (s 6) (s 7) 1)) b (upd s 8 1) X ∧ BF b h (h.set b (zBkc b (s 6) (s 7) 1)) := ⟨zput_c hB.1 rfl rfl rfl, ⟨zset_get hB.1, fun a ha => (zset_ne (by omega)).trans (hB.2 a ha)⟩, fun k hk => zset_ne (by omega)⟩
theorem BK_fr {k : ZH} (hB : BK h b s X) (hf : ∀ a : Nat, b ≤ a → a ≤ b + 6 → k[a]? = h[a]?) : BK k b s X := ⟨(hf b (by omega) (by omega)).trans hB.1, fun a ha => (hf _ (by omega) (by omega)).trans (hB.2 a ha)⟩
theorem ug_i {G : Nat → Nat → Int32} {a i c u : Nat} {x : Int32} (hu : u ≠ i) : ug G a i x c u = G c u := by
  by_cases z : c = a
  · subst z
    rw [ug_s, pk_un hu]
  · rw [ug_n z]
theorem ug_a {G : Nat → Nat → Int32} {a i : Nat} {x : Int32} : ug G a i x a i = x := by rw [ug_s, pk_us]
/-- spot q holds E, all else is as before -/
def enS (X X' : Nat → Nat → Int32) (q : Nat) (E : EN) : Prop := enB X' q E ∧ (∀ a j, j ≠ q → X' a j = X a j) ∧ ∀ a, 3 ≤ a → X' a = X a
theorem c_beginSpot (d : Nat) (hB : BK h b s X) {q : Nat} (hq : q < 26) (x y : Int32) : ∃ h' X', zcl (d + 2) 19 [.ref b, .int (nI q), .int x, .int y] h = some (none, h') ∧ BK h' b s X' ∧ BF b h h' ∧ X' 0 q = x ∧ X' 1 q = y ∧ X' 2 q = 0 ∧ (∀ a j, j ≠ q → X' a j = X a j) ∧ ∀ a, 3 ≤ a → X' a = X a := by
  have z0 : zcs [] ≤ 8 := by decide
  obtain ⟨h1, e1, b1, f1⟩ := BK_put d hB (a := 0) (j := q) (by decide) hq x
  obtain ⟨h2, e2, b2, f2⟩ := BK_put d b1 (a := 1) (j := q) (by decide) hq y
  obtain ⟨h3, e3, b3, f3⟩ := BK_put d b2 (a := 2) (j := q) (by decide) hq 0
  refine ⟨h3, _, ?_, b3, BF_tr (BF_tr f1 f2) f3, ?_, ?_, ug_a, fun a j hj => by rw [ug_i hj, ug_i hj, ug_i hj], fun a ha => by rw [ug_n (by omega), ug_n (by omega), ug_n (by omega)]⟩
  · rw [e19]
    simp only [g19_0, g19_1, g19_4, g19_5, g19_6, g19_9, g19_10, g19_13, g19_14, g19_15, g19_18, g19_19, g19_22, g19_23, g19_24, g19_27, BK_0 hB, BK_1 b1, BK_2 b2, e1, e2, e3, z0, Option.bind_some, Option.toList_none, List.nil_append]
  · rw [ug_n (by decide), ug_n (by decide), ug_a]
  · rw [ug_n (by decide), ug_a]
theorem en1_ne {v : Nat} (h : v < 2 ^ 31) : ¬ en1 (some v) = -1 := nI_m1 h
theorem c_offer (d : Nat) (hB : BK h b s X) {q w n e : Nat} {E F : EN} (hq : q < 26) (hw : w < 26) (hE : enB X q E) (hF : enB X w F) (hqw : q ≠ w) (bE : ∀ v, E.1 = some v → v < 2 ^ 29) (bF : ∀ v, F.1 = some v → v < 2 ^ 29) (be : e < 2 ^ 29) :
    ∃ h' X', zcl (d + 2) 22 [.ref b, .int (nI q), .int (nI n), .int (nI e), .int (nI w)] h = some (none, h') ∧ BK h' b s X' ∧ BF b h h' ∧ enS X X' q (eo E n e F) := by
  have z0 : zcs [] ≤ 8 := by decide
  have zir : ∀ x y, zcs [.int x, .ref y] ≤ 8 := fun _ _ => Nat.le_of_ble_eq_true rfl
  have ziir : ∀ x y z, zcs [.int x, .int y, .ref z] ≤ 8 := fun _ _ _ => Nat.le_of_ble_eq_true rfl
  have hwi : ∀ x, Value.category (.int x) = 1 := fun _ => rfl
  have hwj : Value.category zj = 1 := rfl
  have a0w := BK_at d hB (a := 0) (j := w) (by decide) hw
  have a0q := BK_at d hB (a := 0) (j := q) (by decide) hq
  obtain ⟨F1, F2, F3⟩ := hF
  obtain ⟨E1, E2, E3⟩ := hE
  rw [F1] at a0w
  rw [E1] at a0q
  rw [e22]
  cases hf : F.1 with
  | none =>
    rw [hf] at a0w
    have a0w' : zcl (d + 1) 75 [.ref (b + 1 + 0), .int (nI w)] h = some (some (.int (-1)), h) := a0w
    refine ⟨h, X, ?_, hB, BF_rf, ?_, fun _ _ _ => rfl, fun _ _ => rfl⟩
    · simp only [g22_0, g22_1, g22_4, g22_6, g22_9, g22_11, g22_13, BK_0 hB, a0w', z0, hwi, hwj, Option.bind_some, Option.toList_some, List.cons_append, List.nil_append]
      rw [g22_14, if_neg (fun z => z rfl), g22_17]
    · have e2 : eo E n e F = E := by unfold eo; rw [hf]
      rw [e2]
      exact ⟨E1, E2, E3⟩
  | some r =>
    rw [hf] at a0w
    have r29 := bF r hf
    have a0w' : zcl (d + 1) 75 [.ref (b + 1 + 0), .int (nI w)] h = some (some (.int (nI r)), h) := a0w
    have n1 := nI_m1 (show r < 2 ^ 31 by omega)
    have pre : ∀ x : Int32, en1 E.1 = x → zres (d + 1) 22 0 [.ref b, .int (nI q), .int (nI n), .int (nI e), .int (nI w), zj, zj, zj] [] h = zres (d + 1) 22 34 [.ref b, .int (nI q), .int (nI n), .int (nI e), .int (nI w), .int (nI r), .int (nI (e + r)), .int x] [] h := by
      intro x hx
      rw [hx] at a0q
      simp only [g22_0, g22_1, g22_4, g22_6, g22_9, g22_11, g22_13, BK_0 hB, a0w', z0, hwi, hwj, Option.bind_some, Option.toList_some, List.cons_append, List.nil_append]
      rw [g22_14, if_pos n1]
      simp only [g22_18, g22_19, g22_21, g22_22, g22_24, g22_25, g22_28, g22_29, g22_32, BK_0 hB, a0q, nI_add, z0, hwi, Option.bind_some, Option.toList_some, List.cons_append, List.nil_append]
    have new : ∀ x : Int32, ∃ h' X', zres (d + 1) 22 47 [.ref b, .int (nI q), .int (nI n), .int (nI e), .int (nI w), .int (nI r), .int (nI (e + r)), .int x] [] h = some (none, h') ∧ BK h' b s X' ∧ BF b h h' ∧ enS X X' q (some (e + r), F.2.1, n) := by
      intro x
      obtain ⟨h1, e1, b1, f1⟩ := BK_put d hB (a := 0) (j := q) (by decide) hq (nI (e + r))
      have a1w := BK_at d b1 (a := 1) (j := w) (by decide) hw
      have ew : ug X 0 q (nI (e + r)) 1 w = F.2.1 := by rw [ug_n (by decide)]; exact F2
      rw [ew] at a1w
      obtain ⟨h2, e2, b2, f2⟩ := BK_put d b1 (a := 1) (j := q) (by decide) hq F.2.1
      obtain ⟨h3, e3, b3, f3⟩ := BK_put d b2 (a := 2) (j := q) (by decide) hq (nI n)
      refine ⟨h3, _, ?_, b3, BF_tr (BF_tr f1 f2) f3, ⟨?_, ?_, ug_a⟩, fun a j hj => by rw [ug_i hj, ug_i hj, ug_i hj], fun a ha => by rw [ug_n (by omega), ug_n (by omega), ug_n (by omega)]⟩
      · simp only [g22_47, g22_48, g22_51, g22_52, g22_54, g22_57, g22_58, g22_61, g22_62, g22_63, g22_66, g22_68, g22_71, g22_74, g22_75, g22_78, g22_79, g22_80, g22_83, g22_119, BK_0 hB, BK_1 b1, BK_2 b2, e1, e2, e3, a1w, z0, zir, Option.bind_some, Option.toList_some, Option.toList_none, List.cons_append, List.nil_append]
      · rw [ug_n (by decide), ug_n (by decide), ug_a]; rfl
      · rw [ug_n (by decide), ug_a]
    cases hg : E.1 with
    | none =>
      have e2 : eo E n e F = (some (e + r), F.2.1, n) := by unfold eo; rw [hf, hg]
      obtain ⟨h', X', o1, o2⟩ := new (-1)
      refine ⟨h', X', ?_, by rw [e2]; exact o2⟩
      rw [pre (-1) (by rw [hg]; rfl)]
      simp only [g22_34, g22_36]
      rw [g22_37, if_pos rfl]
      exact o1
    | some k =>
      have k29 := bE k hg
      have n2 := nI_m1 (show k < 2 ^ 31 by omega)
      by_cases lt : e + r < k
      · have e2 : eo E n e F = (some (e + r), F.2.1, n) := by
          unfold eo
          rw [hf, hg]
          exact if_pos lt
        obtain ⟨h', X', o1, o2⟩ := new (nI k)
        have c2 : ¬ nI k ≤ nI (e + r) := nI_ge lt (by omega)
        refine ⟨h', X', ?_, by rw [e2]; exact o2⟩
        rw [pre (nI k) (by rw [hg]; rfl)]
        simp only [g22_34, g22_36]
        rw [g22_37, if_neg n2]
        simp only [g22_40, g22_42, g22_44, c2, ↓reduceIte]
        exact o1
      · have c2 : nI k ≤ nI (e + r) := nI_le (by omega) (by omega)
        by_cases eq : e + r = k
        · have e2 : eo E n e F = (some k, E.2.1 + F.2.1, E.2.2) := by
            unfold eo
            rw [hf, hg]
            show (if e + r < k then _ else _ : EN) = _
            rw [if_neg lt, if_pos eq]
          have a1q := BK_at d hB (a := 1) (j := q) (by decide) hq
          have a1w := BK_at d hB (a := 1) (j := w) (by decide) hw
          rw [E2] at a1q
          rw [F2] at a1w
          obtain ⟨h1, e1, b1, f1⟩ := BK_put d hB (a := 1) (j := q) (by decide) hq (E.2.1 + F.2.1)
          refine ⟨h1, _, ?_, b1, f1, ?_, fun a j hj => ug_i hj, fun a ha => ug_n (by omega)⟩
          · rw [pre (nI k) (by rw [hg]; rfl)]
            simp only [g22_34, g22_36]
            rw [g22_37, if_neg n2]
            simp only [g22_40, g22_42, g22_44, c2, ↓reduceIte]
            simp only [g22_86, g22_88]
            rw [g22_90, if_neg (fun z => z (by rw [eq]))]
            simp only [g22_93, g22_94, g22_97, g22_98, g22_99, g22_102, g22_103, g22_106, g22_107, g22_110, g22_112, g22_115, g22_116, g22_119, BK_1 hB, a1q, a1w, e1, z0, zir, ziir, Option.bind_some, Option.toList_some, Option.toList_none, List.cons_append, List.nil_append]
          · rw [e2]
            refine ⟨?_, ug_a, ?_⟩
            · rw [ug_n (by decide), E1, hg]
            · rw [ug_n (by decide)]; exact E3
        · have e2 : eo E n e F = E := by
            unfold eo
            rw [hf, hg]
            show (if e + r < k then _ else _ : EN) = _
            rw [if_neg lt, if_neg eq]
          refine ⟨h, X, ?_, hB, BF_rf, by rw [e2]; exact ⟨E1, E2, E3⟩, fun _ _ _ => rfl, fun _ _ => rfl⟩
          rw [pre (nI k) (by rw [hg]; rfl)]
          simp only [g22_34, g22_36]
          rw [g22_37, if_neg n2]
          simp only [g22_40, g22_42, g22_44, c2, ↓reduceIte]
          simp only [g22_86, g22_88]
          rw [g22_90, if_pos (fun z => eq ((nI_eq (by omega) (by omega)).mp z)), g22_119]
end BOOK
