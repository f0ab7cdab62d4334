/-! THE SHEET'S STATE; take(album, from, n) -/
def zFe (N : Nat) (f : Nat → Int32) (s m : Nat) : Prop := 1 ≤ m ∧ m ≤ 4 ∧ s + m ≤ N ∧ (1 < m → ∀ i, i < m → f (5 * (s + i) + 3) = 0)
def zShI (h : ZH) : Prop := zSta h ∧ h[30]? = some (13, zfo) ∧ (∃ f, h[31]? = some (10, zia 4 f)) ∧ (∃ f, h[32]? = some (10, zia 4 f)) ∧ (∃ f, h[33]? = some (10, zia 4 f)) ∧ (∃ f, h[34]? = some (10, zia 4 f)) ∧ (∃ f, h[35]? = some (10, zia 16 f)) ∧ (∀ t, t < 31 → zTre h t) ∧ ∃ n W H le sa sb, h[29]? = some (zShc n W H le sa sb)
/-- nothing else has changed -/
def zShF (h h' : ZH) : Prop := ∀ a : Nat, (a < 29 ∨ 242 ≤ a) → h'[a]? = h[a]?
theorem zSta_fr {h h' : ZH} (hS : zSta h) (hf : ∀ a : Nat, a < 5 → h'[a]? = h[a]?) : zSta h' := fun k hk => (hf k hk).trans (hS k hk)
theorem zAlb_fr {h h' : ZH} {a N W H : Nat} {f : Nat → Int32} (hA : zAlb h a N W H f) (ha : a + 1 < 29) (hf : ∀ a : Nat, a < 29 → h'[a]? = h[a]?) : zAlb h' a N W H f := ⟨(hf a (by omega)).trans hA.1, (hf (a + 1) ha).trans hA.2⟩
section TAKE
variable {a N W H : Nat} {f : Nat → Int32}
/-- one picture more -/
theorem take_1 (d : Nat) {k : ZH} {fw fq fv : Nat → Int32} {cn cW cH le : Int32} {sa sb : Int64} {s m i : Nat} (hA : zAlb k a N W H f) (hN : N ≤ 12) (ha : a + 1 < 29) (h29 : k[29]? = some (zShc cn cW cH le sa sb)) (h31 : k[31]? = some (10, zia 4 fw)) (h32 : k[32]? = some (10, zia 4 fq)) (h33 : k[33]? = some (10, zia 4 fv)) (hm : m ≤ 4) (hi : i < m) (hs : s + m ≤ N) :
    zres (d + 2) 36 52 [.ref 29, .ref a, .int (nI s), .int (nI m), .int (nI i)] [] k = zres (d + 2) 36 28 [.ref 29, .ref a, .int (nI s), .int (nI m), .int (nI (i + 1))] [] (((k.set 31 (10, zia 4 (upd fw i (f (5 * (s + i)))))).set 32 (10, zia 4 (upd fq i (f (5 * (s + i) + 1))))).set 33 (10, zia 4 (upd fv i (f (5 * (s + i) + 2))))) := by
  have z0 : zcs [] ≤ 8 := by decide
  have zir : ∀ x y, zcs [.int x, .ref y] ≤ 8 := fun _ _ => Nat.le_of_ble_eq_true rfl
  have hwi : ∀ x, Value.category (.int x) = 1 := fun _ => rfl
  have fr1 : ∀ (c : ZC) (j : Nat), j ≠ 31 → (k.set 31 c)[j]? = k[j]? := fun c j hj => zset_ne (Ne.symm hj)
  have fr2 : ∀ (c e : ZC) (j : Nat), j ≠ 31 → j ≠ 32 → ((k.set 31 c).set 32 e)[j]? = k[j]? := fun c e j h1 h2 => by rw [zset_ne (Ne.symm h2), zset_ne (Ne.symm h1)]
  have A1 : ∀ c, zAlb (k.set 31 c) a N W H f := fun c => ⟨(fr1 c _ (by omega)).trans hA.1, (fr1 c _ (by omega)).trans hA.2⟩
  have A2 : ∀ c e, zAlb ((k.set 31 c).set 32 e) a N W H f := fun c e => ⟨(fr2 c e _ (by omega) (by omega)).trans hA.1, (fr2 c e _ (by omega) (by omega)).trans hA.2⟩
  have hb0 : (k[a]?).map (fun c => c.1) = some 0 := by rw [hA.1]; rfl
  have hb1 : ∀ c, ((k.set 31 c)[a]?).map (fun c => c.1) = some 0 := fun c => by rw [(A1 c).1]; rfl
  have hb2 : ∀ c e, (((k.set 31 c).set 32 e)[a]?).map (fun c => c.1) = some 0 := fun c e => by rw [(A2 c e).1]; rfl
  have sI : s + i < N := by omega
  have n0 := c_number (d + 1) hA hN (nI (s + i)) 0
  rw [show (0 : Int32) = nI 0 from rfl, znum_nI hN sI (by decide), Nat.add_zero] at n0
  have n1 := fun c => c_number (d + 1) (A1 c) hN (nI (s + i)) 1
  have e1 : znum N f (nI (s + i)) 1 = f (5 * (s + i) + 1) := znum_nI (k := 1) hN sI (by decide)
  have n2 := fun c e => c_number (d + 1) (A2 c e) hN (nI (s + i)) 2
  have e2 : znum N f (nI (s + i)) 2 = f (5 * (s + i) + 2) := znum_nI (k := 2) hN sI (by decide)
  have u1 : zget k 29 4 1 = some (.ref 31) := (zget_c h29).trans rfl
  have u2 : ∀ c, zget (k.set 31 c) 29 4 2 = some (.ref 32) := fun c => (zget_c ((fr1 c 29 (by decide)).trans h29)).trans rfl
  have u3 : ∀ c e, zget ((k.set 31 c).set 32 e) 29 4 3 = some (.ref 33) := fun c e => (zget_c ((fr2 c e 29 (by decide) (by decide)).trans h29)).trans rfl
  have p1 : ∀ x : Int32, zcl (d + 2) 76 [.ref 31, .int (nI i), .int x] k = some (none, k.set 31 (10, zia 4 (upd fw i x))) := fun x => c_put_in (d + 1) h31 rfl (by omega) (by decide)
  have p2 : ∀ (c : ZC) (x : Int32), zcl (d + 2) 76 [.ref 32, .int (nI i), .int x] (k.set 31 c) = some (none, (k.set 31 c).set 32 (10, zia 4 (upd fq i x))) := fun c x => c_put_in (d + 1) ((fr1 c 32 (by decide)).trans h32) rfl (by omega) (by decide)
  have p3 : ∀ (c e : ZC) (x : Int32), zcl (d + 2) 76 [.ref 33, .int (nI i), .int x] ((k.set 31 c).set 32 e) = some (none, ((k.set 31 c).set 32 e).set 33 (10, zia 4 (upd fv i x))) := fun c e x => c_put_in (d + 1) ((fr2 c e 33 (by decide) (by decide)).trans h33) rfl (by omega) (by decide)
  have n0' : zcl (d + 2) 2 [.ref a, .int (nI (s + i)), .int 0] k = some (some (.int (f (5 * (s + i)))), k) := n0
  simp only [g36_52, g36_53, g36_56, g36_58, g36_58n, g36_59, g36_60, g36_62, g36_63, g36_64, g36_67, u1, n0', p1, nI_add, zir, z0, hb0, Option.bind_some, Option.toList_some, Option.toList_none, List.cons_append, List.nil_append]
  simp only [g36_70, g36_71, g36_74, g36_76, g36_76n, g36_77, g36_78, g36_80, g36_81, g36_82, g36_85, u2, n1, e1, p2, nI_add, zir, z0, hb1, Option.bind_some, Option.toList_some, Option.toList_none, List.cons_append, List.nil_append]
  simp only [g36_88, g36_89, g36_92, g36_94, g36_94n, g36_95, g36_96, g36_98, g36_99, g36_100, g36_103, g36_106, g36_109, u3, n2, e2, p3, nI_add, nI_1, zir, z0, hb2, hwi, Option.bind_some, Option.toList_some, Option.toList_none, List.cons_append, List.nil_append]
/-- the pictures' numbers in the sheet's rows -/
theorem take_loop (d : Nat) {cn cW cH le : Int32} {sa sb : Int64} {s m : Nat} (hN : N ≤ 12) (ha : a + 1 < 29) (hm : m ≤ 4) (hs : s + m ≤ N) :
    ∀ (r i : Nat) (k : ZH) (fw fq fv : Nat → Int32), i + r = m → zAlb k a N W H f → k[29]? = some (zShc cn cW cH le sa sb) → k[31]? = some (10, zia 4 fw) → k[32]? = some (10, zia 4 fq) → k[33]? = some (10, zia 4 fv) → (∀ j, j < i → fw j = f (5 * (s + j)) ∧ fq j = f (5 * (s + j) + 1) ∧ fv j = f (5 * (s + j) + 2)) →
    ∃ k' fw' fq' fv', k'[31]? = some (10, zia 4 fw') ∧ k'[32]? = some (10, zia 4 fq') ∧ k'[33]? = some (10, zia 4 fv') ∧ (∀ b : Nat, b ≠ 31 → b ≠ 32 → b ≠ 33 → k'[b]? = k[b]?) ∧
      (((1 < m → ∀ j, i ≤ j → j < m → f (5 * (s + j) + 3) = 0) ∧ zres (d + 2) 36 28 [.ref 29, .ref a, .int (nI s), .int (nI m), .int (nI i)] [] k = zres (d + 2) 36 112 [.ref 29, .ref a, .int (nI s), .int (nI m), .int (nI m)] [] k' ∧ (∀ j, j < m → fw' j = f (5 * (s + j)) ∧ fq' j = f (5 * (s + j) + 1) ∧ fv' j = f (5 * (s + j) + 2))) ∨
       (¬ (1 < m → ∀ j, i ≤ j → j < m → f (5 * (s + j) + 3) = 0) ∧ zres (d + 2) 36 28 [.ref 29, .ref a, .int (nI s), .int (nI m), .int (nI i)] [] k = some (some (.int 0), k'))) := by
  intro r
  induction r with
  | zero =>
    intro i k fw fq fv hi hA h29 h31 h32 h33 hf
    obtain rfl : i = m := by omega
    have c1 : nI i ≤ nI i := nI_le (Nat.le_refl _) (by omega)
    refine ⟨k, fw, fq, fv, h31, h32, h33, fun _ _ _ _ => rfl, Or.inl ⟨fun _ j h1 h2 => by omega, ?_, hf⟩⟩
    simp only [g36_28, g36_30, g36_31, c1, ↓reduceIte]
  | succ r ih =>
    intro i k fw fq fv hi hA h29 h31 h32 h33 hf
    have z0 : zcs [] ≤ 8 := by decide
    have hb0 : (k[a]?).map (fun c => c.1) = some 0 := by rw [hA.1]; rfl
    have c1 : ¬ nI m ≤ nI i := nI_ge (by omega) (by omega)
    have st := take_1 d hA hN ha h29 h31 h32 h33 hm (show i < m by omega) hs
    have nx : (1 < m → f (5 * (s + i) + 3) = 0) → zres (d + 2) 36 28 [.ref 29, .ref a, .int (nI s), .int (nI m), .int (nI i)] [] k = zres (d + 2) 36 52 [.ref 29, .ref a, .int (nI s), .int (nI m), .int (nI i)] [] k := by
      intro hp
      by_cases z : 1 < m
      · have c2 : ¬ nI m ≤ 1 := nI_ge (a := 1) z (by omega)
        have ip := c_isPlain d hA hN (nI (s + i))
        rw [show (3 : Int32) = nI 3 from rfl, znum_nI hN (by omega) (by decide), if_pos (hp z)] at ip
        simp only [g36_28, g36_30, g36_31, c1, ↓reduceIte]
        simp only [g36_34, g36_35, g36_36, c2, ↓reduceIte]
        simp only [g36_39, g36_39n, g36_40, g36_41, g36_43, g36_44, nI_add, ip, z0, hb0, Option.bind_some, Option.toList_some, List.cons_append, List.nil_append]
        rw [g36_47, if_pos (by decide)]
      · have c2 : nI m ≤ 1 := nI_le (b := 1) (by omega) (by decide)
        simp only [g36_28, g36_30, g36_31, c1, ↓reduceIte]
        simp only [g36_34, g36_35, g36_36, c2, ↓reduceIte]
    by_cases hp : 1 < m → f (5 * (s + i) + 3) = 0
    · rw [nx hp, st]
      generalize hk2 : ((k.set 31 (10, zia 4 (upd fw i (f (5 * (s + i)))))).set 32 (10, zia 4 (upd fq i (f (5 * (s + i) + 1))))).set 33 (10, zia 4 (upd fv i (f (5 * (s + i) + 2)))) = k2
      have fr : ∀ b : Nat, b ≠ 31 → b ≠ 32 → b ≠ 33 → k2[b]? = k[b]? := fun b q1 q2 q3 => by rw [← hk2, zset_ne (Ne.symm q3), zset_ne (Ne.symm q2), zset_ne (Ne.symm q1)]
      obtain ⟨k', fw', fq', fv', e1, e2, e3, e4, e5⟩ := ih (i + 1) k2 (upd fw i (f (5 * (s + i)))) (upd fq i (f (5 * (s + i) + 1))) (upd fv i (f (5 * (s + i) + 2))) (by omega) ⟨(fr _ (by omega) (by omega) (by omega)).trans hA.1, (fr _ (by omega) (by omega) (by omega)).trans hA.2⟩ ((fr 29 (by decide) (by decide) (by decide)).trans h29) (by rw [← hk2, zset_ne (by decide), zset_ne (by decide)]; exact zset_get h31) (by rw [← hk2, zset_ne (by decide)]; exact zset_get ((zset_ne (by decide)).trans h32)) (by rw [← hk2]; exact zset_get ((zset_ne (by decide)).trans ((zset_ne (by decide)).trans h33))) (fun j hj => by
          by_cases z : j = i
          · subst z
            exact ⟨pk_us, pk_us, pk_us⟩
          · rw [pk_un z, pk_un z, pk_un z]
            exact hf j (by omega))
      refine ⟨k', fw', fq', fv', e1, e2, e3, fun b q1 q2 q3 => (e4 b q1 q2 q3).trans (fr b q1 q2 q3), ?_⟩
      rcases e5 with ⟨g1, g2, g3⟩ | ⟨g1, g2⟩
      · refine Or.inl ⟨fun z j h1 h2 => ?_, g2, g3⟩
        by_cases y : j = i
        · subst y
          exact hp z
        · exact g1 z j (by omega) h2
      · exact Or.inr ⟨fun q => g1 fun z j h1 h2 => q z j (by omega) h2, g2⟩
    · have z : 1 < m := Classical.byContradiction fun q => hp fun y => absurd y q
      have hz : ¬ f (5 * (s + i) + 3) = 0 := fun q => hp fun _ => q
      have c2 : ¬ nI m ≤ 1 := nI_ge (a := 1) z (by omega)
      have ip := c_isPlain d hA hN (nI (s + i))
      rw [show (3 : Int32) = nI 3 from rfl, znum_nI hN (by omega) (by decide), if_neg hz] at ip
      refine ⟨k, fw, fq, fv, h31, h32, h33, fun _ _ _ _ => rfl, Or.inr ⟨fun q => hz (q z i (Nat.le_refl _) (by omega)), ?_⟩⟩
      simp only [g36_28, g36_30, g36_31, c1, ↓reduceIte]
      simp only [g36_34, g36_35, g36_36, c2, ↓reduceIte]
      simp only [g36_39, g36_39n, g36_40, g36_41, g36_43, g36_44, nI_add, ip, z0, hb0, Option.bind_some, Option.toList_some, List.cons_append, List.nil_append]
      rw [g36_47, if_neg (by decide), g36_50, g36_51 zzero]
/-- take: the pictures are taken .. -/
theorem c_take (d : Nat) {h : ZH} {s m : Nat} {cn cW cH le : Int32} {sa sb : Int64} (hI : zShI h) (h29 : h[29]? = some (zShc cn cW cH le sa sb)) (hA : zAlb h a N W H f) (hN : N ≤ 12) (ha : a + 1 < 29) (hW : W ≤ 200) (hF : zFe N f s m) :
    ∃ h' fw fq fv, zcl (d + 3) 36 [.ref 29, .ref a, .int (nI s), .int (nI m)] h = some (some (.int 1), h') ∧ zShI h' ∧ zShF h h' ∧ h'[29]? = some (zShc (nI m) (nI (if f (5 * s + 3) = 1 then 2 * W else W)) (nI H) le sa sb) ∧ h'[31]? = some (10, zia 4 fw) ∧ h'[32]? = some (10, zia 4 fq) ∧ h'[33]? = some (10, zia 4 fv) ∧ ∀ j, j < m → fw j = f (5 * (s + j)) ∧ fq j = f (5 * (s + j) + 1) ∧ fv j = f (5 * (s + j) + 2) := by
  obtain ⟨f1, f2, f3, f4⟩ := hF
  obtain ⟨i1, i2, ⟨fw0, i3⟩, ⟨fq0, i4⟩, ⟨fv0, i5⟩, i6, i7, i8, -⟩ := hI
  have z0 : zcs [] ≤ 8 := by decide
  have zr : ∀ y, zcs [.ref y] ≤ 8 := fun _ => Nat.le_of_ble_eq_true rfl
  have hwi : ∀ x, Value.category (.int x) = 1 := fun _ => rfl
  have cw := c_within (d + 1) (nI m) 1 4 h
  rw [if_pos ⟨show nI 1 ≤ nI m from nI_le f1 (by omega), show nI m ≤ nI 4 from nI_le f2 (by decide)⟩] at cw
  have a1 : zget h a 0 1 = some (.int (nI N)) := (zget_c hA.1).trans rfl
  have c1 : ¬ nI s < 0 := nI_pos (by omega)
  have e1 : nI N - nI m = nI (N - m) := pk_sub (by omega)
  have c2 : nI s ≤ nI (N - m) := nI_le (by omega) (by omega)
  rw [e36]
  simp only [g36_0, g36_1, g36_2, g36_3, cw, z0, Option.bind_some, Option.toList_some, List.cons_append, List.nil_append]
  rw [g36_6, if_neg (by decide)]
  simp only [g36_9, g36_10, c1, ↓reduceIte]
  simp only [g36_13, g36_14, g36_14n, g36_15, g36_18, g36_19, g36_20, a1, e1, c2, Option.bind_some, ↓reduceIte]
  simp only [g36_25, g36_26, hwi]
  obtain ⟨k, fw, fq, fv, e31, e32, e33, fr, alt⟩ := take_loop d (s := s) (m := m) hN ha f2 f3 m 0 h fw0 fq0 fv0 (by omega) hA h29 i3 i4 i5 (fun j hj => by omega)
  rcases alt with ⟨-, g2, g3⟩ | ⟨g1, -⟩
  · have g2' : zres (d + 2) 36 28 [.ref 29, .ref a, .int (nI s), .int (nI m), .int 0] [] h = zres (d + 2) 36 112 [.ref 29, .ref a, .int (nI s), .int (nI m), .int (nI m)] [] k := g2
    rw [g2']
    have k29 := (fr 29 (by decide) (by decide) (by decide)).trans h29
    have kA : zAlb k a N W H f := ⟨(fr _ (by omega) (by omega) (by omega)).trans hA.1, (fr _ (by omega) (by omega) (by omega)).trans hA.2⟩
    have p6 : zput k 29 4 6 (.int (nI m)) = some (k.set 29 (zShc (nI m) cW cH le sa sb)) := zput_c k29 rfl rfl rfl
    have A2 : ∀ c, zAlb (k.set 29 c) a N W H f := fun c => ⟨(zset_ne (by omega)).trans kA.1, (zset_ne (by omega)).trans kA.2⟩
    have hb2 : ∀ c, ((k.set 29 c)[a]?).map (fun c => c.1) = some 0 := fun c => by rw [(A2 c).1]; rfl
    have g2' : ∀ c, zget (k.set 29 c) a 0 2 = some (.int (nI W)) := fun c => (zget_c (A2 c).1).trans rfl
    have g3' : ∀ c, zget (k.set 29 c) a 0 3 = some (.int (nI H)) := fun c => (zget_c (A2 c).1).trans rfl
    have iw := fun c => c_isWide d (A2 c) hN (nI s)
    have ew : znum N f (nI s) 3 = f (5 * s + 3) := znum_nI (k := 3) hN (by omega) (by decide)
    have p7 : ∀ x : Int32, zput (k.set 29 (zShc (nI m) cW cH le sa sb)) 29 4 7 (.int x) = some (k.set 29 (zShc (nI m) x cH le sa sb)) := fun x => by
      rw [zput_c (zset_get (c := zShc (nI m) cW cH le sa sb) k29) rfl rfl rfl, List.set_set]
      rfl
    have p8 : ∀ x y : Int32, zput (k.set 29 (zShc (nI m) x cH le sa sb)) 29 4 8 (.int y) = some (k.set 29 (zShc (nI m) x y le sa sb)) := fun x y => by
      rw [zput_c (zset_get (c := zShc (nI m) x cH le sa sb) k29) rfl rfl rfl, List.set_set]
      rfl
    have s2 : (2 : Int32) * nI W = nI (2 * W) := by rw [show (2 : Int32) = nI 2 from rfl, pk_mul]
    have fin : zres (d + 2) 36 112 [.ref 29, .ref a, .int (nI s), .int (nI m), .int (nI m)] [] k = some (some (.int 1), k.set 29 (zShc (nI m) (nI (if f (5 * s + 3) = 1 then 2 * W else W)) (nI H) le sa sb)) := by
      simp only [g36_112, g36_113, g36_114, g36_117, g36_118, g36_118n, g36_119, g36_120, p6, iw, ew, zr, hb2, Option.bind_some, Option.toList_some, List.cons_append, List.nil_append]
      rw [g36_123]
      by_cases z : f (5 * s + 3) = 1
      · rw [if_pos z, if_pos z, if_neg (by decide)]
        simp only [g36_126, g36_127, g36_127n, g36_128, g36_131, g36_132, g36_139, g36_142, g36_143, g36_143n, g36_144, g36_147, g36_150, g2', g3', s2, p7, p8, Option.bind_some]
        exact g36_151 zone
      · rw [if_neg z, if_neg z, if_pos rfl]
        simp only [g36_135, g36_135n, g36_136, g36_139, g36_142, g36_143, g36_143n, g36_144, g36_147, g36_150, g2', g3', p7, p8, Option.bind_some]
        exact g36_151 zone
    rw [fin]
    have fr2 : ∀ (c : ZC) (b : Nat), b ≠ 29 → b ≠ 31 → b ≠ 32 → b ≠ 33 → (k.set 29 c)[b]? = h[b]? := fun c b q1 q2 q3 q4 => by rw [zset_ne (Ne.symm q1), fr b q2 q3 q4]
    have n29 := zset_get (c := zShc (nI m) (nI (if f (5 * s + 3) = 1 then 2 * W else W)) (nI H) le sa sb) k29
    have n31 : ∀ c, (k.set 29 c)[31]? = some (10, zia 4 fw) := fun c => (zset_ne (by decide)).trans e31
    have n32 : ∀ c, (k.set 29 c)[32]? = some (10, zia 4 fq) := fun c => (zset_ne (by decide)).trans e32
    have n33 : ∀ c, (k.set 29 c)[33]? = some (10, zia 4 fv) := fun c => (zset_ne (by decide)).trans e33
    obtain ⟨fa, i6⟩ := i6
    obtain ⟨fe, i7⟩ := i7
    refine ⟨_, fw, fq, fv, rfl, ⟨zSta_fr i1 fun b hb => fr2 _ b (by omega) (by omega) (by omega) (by omega), (fr2 _ 30 (by decide) (by decide) (by decide) (by decide)).trans i2, ⟨fw, n31 _⟩, ⟨fq, n32 _⟩, ⟨fv, n33 _⟩, ⟨fa, (fr2 _ 34 (by decide) (by decide) (by decide) (by decide)).trans i6⟩, ⟨fe, (fr2 _ 35 (by decide) (by decide) (by decide) (by decide)).trans i7⟩, fun t ht => zTre_fr (i8 t ht) ht fun b q1 q2 => ?_, _, _, _, _, _, _, n29⟩, fun b hb => fr2 _ b (by omega) (by omega) (by omega) (by omega), n29, n31 _, n32 _, n33 _, g3⟩
    have := tb_ok t ht
    exact fr2 _ b (by omega) (by omega) (by omega) (by omega)
  · exact absurd (fun z j _ h2 => f4 z j h2) g1
/-- .. or not -/
theorem c_take_no (d : Nat) {h : ZH} {x y : Int32} (hI : zShI h) (hA : zAlb h a N W H f) (hN : N ≤ 12) (ha : a + 1 < 29) (hF : ¬ ∃ s m, x = nI s ∧ y = nI m ∧ zFe N f s m) :
    ∃ h', zcl (d + 3) 36 [.ref 29, .ref a, .int x, .int y] h = some (some (.int 0), h') ∧ zShI h' ∧ zShF h h' ∧ h'[29]? = h[29]? := by
  obtain ⟨i1, i2, ⟨fw0, i3⟩, ⟨fq0, i4⟩, ⟨fv0, i5⟩, i6, i7, i8, cn, cW, cH, le, sa, sb, h29⟩ := hI
  have z0 : zcs [] ≤ 8 := by decide
  have hwi : ∀ x, Value.category (.int x) = 1 := fun _ => rfl
  have hI : zShI h := ⟨i1, i2, ⟨fw0, i3⟩, ⟨fq0, i4⟩, ⟨fv0, i5⟩, i6, i7, i8, cn, cW, cH, le, sa, sb, h29⟩
  have no : ∀ L, zres (d + 2) 36 23 L [] h = some (some (.int 0), h) := fun L => by rw [g36_23, g36_24 zzero]
  have cw := c_within (d + 1) y 1 4 h
  have a1 : zget h a 0 1 = some (.int (nI N)) := (zget_c hA.1).trans rfl
  rw [e36]
  simp only [g36_0, g36_1, g36_2, g36_3, cw, z0, Option.bind_some, Option.toList_some, List.cons_append, List.nil_append]
  by_cases q1 : 1 ≤ y ∧ y ≤ 4
  · rw [if_pos q1, g36_6, if_neg (by decide)]
    obtain ⟨y1, y2, y3⟩ := i_rng (a := 1) (b := 4) (by decide) (by decide) q1.1 q1.2
    generalize y.toNatClampNeg = m at *
    subst y1
    simp only [g36_9, g36_10]
    by_cases q2 : x < 0
    · rw [if_pos q2, no]
      exact ⟨h, rfl, hI, fun _ _ => rfl, rfl⟩
    · rw [if_neg q2]
      obtain ⟨s, s1, rfl⟩ := nI_of q2
      simp only [g36_13, g36_14, g36_14n, g36_15, g36_18, g36_19, g36_20, a1, Option.bind_some]
      by_cases q3 : nI s ≤ nI N - nI m
      · rw [if_pos q3]
        have q4 : s + m ≤ N := by
          have e := Int32.le_iff_toInt_le.mp q3
          rw [pk_sub_toInt (by omega) (by omega), nI_toInt s1] at e
          omega
        simp only [g36_25, g36_26, hwi]
        obtain ⟨k, fw, fq, fv, e31, e32, e33, fr, alt⟩ := take_loop d (s := s) (m := m) hN ha y3 q4 m 0 h fw0 fq0 fv0 (by omega) hA h29 i3 i4 i5 (fun j hj => by omega)
        rcases alt with ⟨g1, -⟩ | ⟨-, g2⟩
        · exact absurd ⟨s, m, rfl, rfl, y2, y3, q4, fun z i hi => g1 z i (by omega) hi⟩ hF
        · obtain ⟨fa, i6⟩ := i6
          obtain ⟨fe, i7⟩ := i7
          refine ⟨k, g2, ⟨zSta_fr i1 fun b hb => fr b (by omega) (by omega) (by omega), (fr 30 (by decide) (by decide) (by decide)).trans i2, ⟨fw, e31⟩, ⟨fq, e32⟩, ⟨fv, e33⟩, ⟨fa, (fr 34 (by decide) (by decide) (by decide)).trans i6⟩, ⟨fe, (fr 35 (by decide) (by decide) (by decide)).trans i7⟩, fun t ht => zTre_fr (i8 t ht) ht fun b q1 q2 => ?_, _, _, _, _, _, _, (fr 29 (by decide) (by decide) (by decide)).trans h29⟩, fun b hb => fr b (by omega) (by omega) (by omega), fr 29 (by decide) (by decide) (by decide)⟩
          have := tb_ok t ht
          exact fr b (by omega) (by omega) (by omega)
      · rw [if_neg q3, no]
        exact ⟨h, rfl, hI, fun _ _ => rfl, rfl⟩
  · rw [if_neg q1, g36_6, if_pos rfl, no]
    exact ⟨h, rfl, hI, fun _ _ => rfl, rfl⟩
end TAKE
