/-! make(album, sheet): the book of an album -/
noncomputable def PGS (A : AV) : List PG := match (DD A 0 0).1 with
  | none => []
  | some _ => pgs A 12 0 []
def zBook (h : ZH) (b : Nat) (A : AV) : Prop := ∃ s X, BK h b s X ∧ s 8 = 1 ∧ s 6 = nI A.1 ∧ enB X 0 (DD A 0 0) ∧ s 7 = nI (PGS A).length ∧ lvS X (PGS A) ∧ ((DD A 0 0).1 = none ∨ pfS X (PGS A) A.1)
section MAKE
variable {a b : Nat} {A : AV}
theorem c_setOut (d : Nat) (ha : a + 1 < 29) (hb : 242 ≤ b) (hA : zVa A) {h : ZH} {s : Nat → Int32} {X : Nat → Nat → Int32} (hV : zAv h a A) (hB : BK h b s X) (h6 : s 6 = nI A.1) (h8 : s 8 = 1) (he : ∀ q o, q ≤ A.1 → o ≤ 1 → enB X (2 * q + o) (DD A q o)) (ht : ∀ q m, q < A.1 → ¬ A.2.2.2 (5 * q + 3) = 1 → 1 ≤ m → m ≤ 4 → aO A q m → X 3 (5 * q + m) = nI (aB A q m)) :
    ∃ h', zcl (d + 4) 23 [.ref b, .ref a] h = some (none, h') ∧ zBook h' b A ∧ BF b h h' := by
  have z0 : zcs [] ≤ 8 := by decide
  have hwi : ∀ x, Value.category (.int x) = 1 := fun _ => rfl
  have hwr : ∀ x, Value.category (.ref x) = 1 := fun _ => rfl
  obtain ⟨p7, b1, f1⟩ := BK_set7 hB 0
  generalize hk : h.set b (zBkc b (s 6) 0 (s 8)) = k at *
  have e00 := he 0 0 (Nat.zero_le _) (by decide)
  have pre : zcl (d + 4) 23 [.ref b, .ref a] h = zres (d + 3) 23 9 [.ref b, .ref a, .int 0, .int 0, zj, zj, zj, zj] [] k := by
    rw [e23]
    simp only [g23_0, g23_1, g23_2, g23_5, g23_6, g23_7, g23_8, p7, hwi, hwr, Option.bind_some]
  rw [pre]
  cases hd : (DD A 0 0).1 with
  | none =>
    have eP : PGS A = [] := by unfold PGS; rw [hd]
    have x0 : X 0 0 = -1 := by
      have := e00.1
      rw [hd] at this
      exact this
    have ex := c_exists (d + 2) b1
    rw [if_pos x0] at ex
    refine ⟨k, ?_, ⟨upd s 7 0, X, b1, by rw [pk_un (by decide)]; exact h8, by rw [pk_un (by decide)]; exact h6, e00, by rw [eP]; exact pk_us, by rw [eP]; exact fun p hp => absurd hp (Nat.not_lt_zero p), Or.inl hd⟩, f1⟩
    have c1 : ¬ (12 : Int32) ≤ 0 := by decide
    simp only [g23_9, g23_10, g23_12, c1, ↓reduceIte]
    simp only [g23_15, g23_16, ex, z0, BK_b b1, Option.bind_some, Option.toList_some, List.cons_append, List.nil_append]
    rw [g23_19, if_pos rfl, g23_167]
  | some v =>
    have eP : PGS A = pgs A 12 0 [] := by unfold PGS; rw [hd]
    have x0 : ¬ X 0 0 = -1 := by
      have := e00.1
      rw [hd] at this
      rw [show X 0 0 = X 0 (2 * 0 + 0) from rfl, this]
      exact nI_m1 (by have := DD_lt hA (show 0 ≤ 1 by decide) hd; omega)
    obtain ⟨h', o1, s', X', o2, o3, o4, o5, o6, o7, o8, o9⟩ := c_setOut_l d ha hb hA 12 0 0 [] k (upd s 7 0) X zj zj zj zj (by omega) (by omega) ⟨fun t => absurd t.1 (Nat.lt_irrefl _), ⟨v, hd⟩, by decide, Nat.zero_le _⟩ (zAv_fr hV (f1 a (by omega)) (f1 (a + 1) (by omega))) b1 (by rw [pk_un (by decide)]; exact h6) pk_us (fun p hp => absurd hp (Nat.not_lt_zero p)) (fun j hj => absurd hj (Nat.not_lt_zero j)) (fun p hp => absurd hp (Nat.not_lt_zero p)) he ht x0
    refine ⟨h', o1, ⟨s', X', o2, by rw [o5, pk_un (by decide)]; exact h8, by rw [o4, pk_un (by decide)]; exact h6, ?_, by rw [eP]; exact o6, by rw [eP]; exact o7, Or.inr (by rw [eP]; exact o8)⟩, BF_tr f1 o3⟩
    unfold enB
    rw [o9 0 (by decide), o9 1 (by decide), o9 2 (by decide)]
    exact e00
theorem make_loop (d : Nat) (ha : a + 1 < 29) (hb : 242 ≤ b) (hA : zVa A) :
    ∀ (j : Nat) (h : ZH) (s : Nat → Int32) (X : Nat → Nat → Int32), j ≤ A.1 → mS h a b A s X → s 6 = nI A.1 → s 8 = 1 → (∀ q o, j ≤ q → q ≤ A.1 → o ≤ 1 → enB X (2 * q + o) (DD A q o)) → (∀ q m, j ≤ q → q < A.1 → ¬ A.2.2.2 (5 * q + 3) = 1 → 1 ≤ m → m ≤ 4 → aO A q m → X 3 (5 * q + m) = nI (aB A q m)) →
      ∃ h', zres (d + 5) 12 54 [.ref b, .ref a, .ref 29, .int (nI j + -1)] [] h = some (none, h') ∧ zBook h' b A ∧ mF b h h' ∧ zShI h' := by
  have z0 : zcs [] ≤ 8 := by decide
  have hwi : ∀ x, Value.category (.int x) = 1 := fun _ => rfl
  have hwj : Value.category zj = 1 := rfl
  have hwr : ∀ x, Value.category (.ref x) = 1 := fun _ => rfl
  have N12 := hA.1
  intro j
  induction j with
  | zero =>
    intro h s X hj hm h6 h8 he ht
    have c1 : nI 0 + -1 < 0 := by decide
    obtain ⟨h', o1, o2, o3⟩ := c_setOut (d + 1) ha hb hA hm.2.1 hm.2.2 h6 h8 (fun q o h1 h2 => he q o (Nat.zero_le _) h1 h2) (fun q m h1 h2 h3 h4 h5 => ht q m (Nat.zero_le _) h1 h2 h3 h4 h5)
    refine ⟨h', ?_, o2, mF_B o3, zShI_fr hm.1 fun c hc => o3 c (by omega)⟩
    simp only [g12_54, g12_55, c1, ↓reduceIte]
    simp only [g12_109, g12_110, g12_111, g12_114, o1, z0, BK_b hm.2.2, Option.bind_some, Option.toList_none, List.nil_append]
  | succ v ih =>
    intro h s X hj hm h6 h8 he ht
    have hv : v < A.1 := by omega
    have c1 : ¬ nI v < 0 := nI_pos (by omega)
    have s2 : (2 : Int32) * nI v = nI (2 * v) := by rw [show (2 : Int32) = nI 2 from rfl, pk_mul]
    rw [pk_m1]
    obtain ⟨h1, X1, a1, a2, a3, a4, a5, a6, a7, a8⟩ := c_beginSpot (d + 3) hm.2.2 (q := 2 * v) (by omega) (-1) 0
    have m1 := mS_B hm ha hb a2 a3
    obtain ⟨h2, X2, b1, b2, b3, b4, b5, b6, b7, b8⟩ := c_beginSpot (d + 3) m1.2.2 (q := 2 * v + 1) (by omega) (-1) 0
    have m2 := mS_B m1 ha hb b2 b3
    have iw := c_isWide (d + 3) m2.2.1 N12 (nI v)
    have e3 : znum A.1 A.2.2.2 (nI v) 3 = A.2.2.2 (5 * v + 3) := znum_nI (k := 3) N12 hv (by decide)
    rw [e3] at iw
    have hb0 : (h2[a]?).map (fun c => c.1) = some 0 := by rw [m2.2.1.1]; rfl
    have ez0 : enB X2 (2 * v) ez := ⟨(b7 0 _ (by omega)).trans a4, (b7 1 _ (by omega)).trans a5, (b7 2 _ (by omega)).trans a6⟩
    have ez1 : enB X2 (2 * v + 1) ez := ⟨b4, b5, b6⟩
    have hee : ∀ q o, v < q → q ≤ A.1 → o ≤ 1 → enB X2 (2 * q + o) (DD A q o) := fun q o h1 h2 h3 => by
      have hE := he q o h1 h2 h3
      exact ⟨(b7 0 _ (by omega)).trans ((a7 0 _ (by omega)).trans hE.1), (b7 1 _ (by omega)).trans ((a7 1 _ (by omega)).trans hE.2.1), (b7 2 _ (by omega)).trans ((a7 2 _ (by omega)).trans hE.2.2)⟩
    have pre : zres (d + 5) 12 54 [.ref b, .ref a, .ref 29, .int (nI v)] [] h = zres (d + 5) 12 83 [.ref b, .ref a, .ref 29, .int (nI v)] [.int (if A.2.2.2 (5 * v + 3) = 1 then 1 else 0)] h2 := by
      simp only [g12_54, g12_55, c1, ↓reduceIte]
      simp only [g12_58, g12_59, g12_60, g12_61, g12_62, g12_63, g12_64, s2, a1, z0, BK_b hm.2.2, Option.bind_some, Option.toList_none, List.nil_append]
      simp only [g12_67, g12_68, g12_69, g12_70, g12_71, g12_72, g12_73, g12_74, g12_75, s2, nI_1, b1, z0, BK_b m1.2.2, Option.bind_some, Option.toList_none, List.nil_append]
      simp only [g12_78, g12_79, g12_80, iw, z0, hb0, Option.bind_some, Option.toList_some, List.cons_append, List.nil_append]
    have goOn : ∀ (h3 : ZH) (X3 : Nat → Nat → Int32), mS h3 a b A s X3 → mF b h2 h3 → (∀ q o, v ≤ q → q ≤ A.1 → o ≤ 1 → enB X3 (2 * q + o) (DD A q o)) → (∀ q m, v ≤ q → q < A.1 → ¬ A.2.2.2 (5 * q + 3) = 1 → 1 ≤ m → m ≤ 4 → aO A q m → X3 3 (5 * q + m) = nI (aB A q m)) → ∃ h', zres (d + 5) 12 103 [.ref b, .ref a, .ref 29, .int (nI v)] [] h3 = some (none, h') ∧ zBook h' b A ∧ mF b h h' ∧ zShI h' := by
      intro h3 X3 m3 f3 he3 ht3
      obtain ⟨h', o1, o2, o3, o4⟩ := ih h3 s X3 (by omega) m3 h6 h8 he3 ht3
      refine ⟨h', ?_, o2, mF_tr (mF_tr (mF_B a3) (mF_B b3)) (mF_tr f3 o3), o4⟩
      simp only [g12_103, g12_106, hwr]
      exact o1
    rw [pre]
    by_cases hw : A.2.2.2 (5 * v + 3) = 1
    · rw [if_pos hw, g12_83, if_neg (by decide)]
      have e2' := hee (v + 1) 0 (by omega) (by omega) (by decide)
      rw [Nat.add_zero] at e2'
      obtain ⟨h3, X3, o1, o2, o3, o4, o5, o6, o7⟩ := c_weighWide d m2 ha hb hA hv hw ez0 ez1 e2'
      obtain ⟨h', f1, f2⟩ := goOn h3 X3 o2 o3 (fun q o h1 h2 h3 => by
        by_cases z : q = v
        · subst z
          by_cases z2 : o = 0
          · subst z2
            exact o4
          · obtain rfl : o = 1 := by omega
            exact o5
        · have hE := hee q o (by omega) h2 h3
          exact ⟨(o6 0 _ (by omega) (by omega)).trans hE.1, (o6 1 _ (by omega) (by omega)).trans hE.2.1, (o6 2 _ (by omega) (by omega)).trans hE.2.2⟩) (fun q m h1 h2 h3 h4 h5 h6 => by
        by_cases z : q = v
        · rw [z] at h3; exact absurd hw h3
        · rw [o7 3 (by decide), b8 3 (by decide), a8 3 (by decide)]
          exact ht q m (by omega) h2 h3 h4 h5 h6)
      refine ⟨h', ?_, f2⟩
      simp only [g12_86, g12_87, g12_88, g12_89, g12_90, g12_93, o1, z0, BK_b m2.2.2, Option.bind_some, Option.toList_none, List.nil_append]
      exact f1
    · rw [if_neg hw, g12_83, if_pos rfl]
      obtain ⟨h3, X3, o1, o2, o3, o4, o5, o6, o7, o8, o9⟩ := c_weighPlain (a := a) (b := b) (s := s) d ha hb hA hv hw 4 0 h2 X2 zj (by omega) m2 ez0 ez1 hee (fun m h1 h2 => by omega)
      obtain ⟨h', f1, f2⟩ := goOn h3 X3 o2 o3 (fun q o h1 h2 h3 => by
        by_cases z : q = v
        · subst z
          by_cases z2 : o = 0
          · subst z2
            exact o4
          · obtain rfl : o = 1 := by omega
            exact o5
        · have hE := hee q o (by omega) h2 h3
          exact ⟨(o7 0 _ (by decide) (by omega) (by omega)).trans hE.1, (o7 1 _ (by decide) (by omega) (by omega)).trans hE.2.1, (o7 2 _ (by decide) (by omega) (by omega)).trans hE.2.2⟩) (fun q m h1 h2 h3 h4 h5 h6 => by
        by_cases z : q = v
        · subst z
          exact o6 m h4 h5 h6
        · rw [o8 _ (by omega), b8 3 (by decide), a8 3 (by decide)]
          exact ht q m (by omega) h2 h3 h4 h5 h6)
      refine ⟨h', ?_, f2⟩
      have wp : zcl (d + 5) 21 [.ref b, .ref a, .ref 29, .int (nI v)] h2 = some (none, h3) := by
        rw [e21]
        simp only [g21_0, g21_1, hwi]
        exact o1
      simp only [g12_96, g12_97, g12_98, g12_99, g12_100, wp, z0, BK_b m2.2.2, Option.bind_some, Option.toList_none, List.nil_append]
      exact f1
theorem c_make (d : Nat) (ha : a + 1 < 29) (hb : 242 ≤ b) (hA : zVa A) {h : ZH} {s : Nat → Int32} {X : Nat → Nat → Int32} (hm : mS h a b A s X) (hd : s 8 = 0 ∨ (s 8 = 1 ∧ zBook h b A)) :
    ∃ h', zcl (d + 6) 12 [.ref b, .ref a, .ref 29] h = some (none, h') ∧ zBook h' b A ∧ mF b h h' ∧ zShI h' := by
  have z0 : zcs [] ≤ 8 := by decide
  have hwi : ∀ x, Value.category (.int x) = 1 := fun _ => rfl
  have hwr : ∀ x, Value.category (.ref x) = 1 := fun _ => rfl
  have N12 := hA.1
  rcases hd with h8 | ⟨h8, hK⟩
  · obtain ⟨p8, b1, f1⟩ := BK_set8 hm.2.2
    generalize hk : h.set b (zBkc b (s 6) (s 7) 1) = k at *
    have m1 := mS_B hm ha hb b1 f1
    obtain ⟨p6, b2, f2⟩ := BK_set6 b1 (nI A.1)
    generalize hk2 : k.set b (zBkc b (nI A.1) (upd s 8 1 7) (upd s 8 1 8)) = k2 at *
    have m2 := mS_B m1 ha hb b2 f2
    have s6 : upd (upd s 8 1) 6 (nI A.1) 6 = nI A.1 := pk_us
    have s8 : upd (upd s 8 1) 6 (nI A.1) 8 = 1 := by rw [pk_un (by decide), pk_us]
    obtain ⟨h1, X1, c1, c2, c3, c4, c5, c6, c7, c8⟩ := c_beginSpot (d + 3) m2.2.2 (q := 2 * A.1) (by omega) 0 1
    have m3 := mS_B m2 ha hb c2 c3
    obtain ⟨h2, X2, e1, e2, e3, e4, e5, e6, e7, e8⟩ := c_beginSpot (d + 3) m3.2.2 (q := 2 * A.1 + 1) (by omega) 0 1
    have m4 := mS_B m3 ha hb e2 e3
    obtain ⟨h', o1, o2, o3, o4⟩ := make_loop d ha hb hA A.1 h2 _ X2 (Nat.le_refl _) m4 s6 s8 (fun q o h1 h2 h3 => by
      obtain rfl : q = A.1 := by omega
      rw [DD_end (Nat.le_refl _)]
      by_cases z : o = 0
      · subst z
        exact ⟨(e7 0 _ (by omega)).trans c4, (e7 1 _ (by omega)).trans c5, (e7 2 _ (by omega)).trans c6⟩
      · obtain rfl : o = 1 := by omega
        exact ⟨e4, e5, e6⟩) (fun q m h1 h2 => by omega)
    refine ⟨h', ?_, o2, mF_tr (mF_tr (mF_B f1) (mF_B f2)) (mF_tr (mF_tr (mF_B c3) (mF_B e3)) o3), o4⟩
    have a1 : zget k a 0 1 = some (.int (nI A.1)) := (zget_c m1.2.1.1).trans rfl
    have s2 : (2 : Int32) * nI A.1 = nI (2 * A.1) := by rw [show (2 : Int32) = nI 2 from rfl, pk_mul]
    have em : nI A.1 - 1 = nI A.1 + -1 := by grind
    rw [e12]
    simp only [g12_0, g12_1, BK_8 hm.2.2, h8, Option.bind_some]
    rw [g12_4, if_pos rfl]
    simp only [g12_8, g12_9, g12_10, g12_13, g12_14, g12_15, g12_18, p8, a1, p6, Option.bind_some]
    simp only [g12_21, g12_22, g12_23, g12_24, g12_27, g12_28, g12_29, g12_30, BK_6 m2.2.2, s6, s2, c1, z0, BK_b m2.2.2, Option.bind_some, Option.toList_none, List.nil_append]
    simp only [g12_33, g12_34, g12_35, g12_36, g12_39, g12_40, g12_41, g12_42, g12_43, g12_44, BK_6 m3.2.2, s6, s2, nI_1, e1, z0, BK_b m3.2.2, Option.bind_some, Option.toList_none, List.nil_append]
    simp only [g12_47, g12_48, g12_51, g12_52, g12_53, BK_6 m4.2.2, s6, em, hwr, Option.bind_some]
    exact o1
  · refine ⟨h, ?_, hK, mF_rf, hm.1⟩
    rw [e12]
    simp only [g12_0, g12_1, BK_8 hm.2.2, h8, Option.bind_some]
    rw [g12_4, if_neg (by decide), g12_7]
end MAKE
