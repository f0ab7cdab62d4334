/-! THE INVARIANT of class and reference -/
def wI (l : List Int32) (h : ZH) : Prop := ∃ (p : ZP) (S : Nat → Int32) (G : Nat → Nat → Int32) (Q : Nat → Nat → Int64) (A B : AV) (r : Nat → AV) (kept next P F : Nat) (e : Int32), h = zRh p S G Q ∧ cF h A B r kept next P F e ∧ h[5]? = some (20, zint l) ∧ zRs S G A ∧ S 3 = nI kept ∧ kR (G 2) kept (fun m => r ((next + 8 - kept + m) % 8)) ∧ ((e = 0 ∧ S 33 = 0) ∨ (e = 1 ∧ S 33 = 1 ∧ oldR S G B))
theorem cF_fr {h k : ZH} {A B : AV} {r : Nat → AV} {kept next P F : Nat} {e : Int32} (hc : cF h A B r kept next P F e) (hf : ∀ a : Nat, a < 256 → k[a]? = h[a]?) : cF k A B r kept next P F e := by
  obtain ⟨hC, hI, hP, hF, hA, hB, hR⟩ := hc
  have hPF := hC.2.2.2.2.2.2.2
  exact ⟨zCs_fr hC fun a ha => hf a (by omega), zShI_fr hI fun a ha => hf a (by omega), bookI_fr hP fun a h1 h2 => hf a (by omega), bookI_fr hF fun a h1 h2 => hf a (by omega), hA, hB, hR⟩
theorem ring_nx {r : Nat → AV} {A : AV} {kept next m : Nat} (hk : kept ≤ 8) (hn : next < 8) (hm : m < min (kept + 1) 8) : kNx kept (fun m => r ((next + 8 - kept + m) % 8)) A m = zru r next A (((next + 1) % 8 + 8 - min (kept + 1) 8 + m) % 8) := by
  unfold kNx zru
  by_cases k8 : kept = 8
  · subst k8
    have e8 : min (8 + 1) 8 = 8 := rfl
    rw [e8] at hm ⊢
    rw [if_pos rfl]
    by_cases m7 : m = 7
    · subst m7
      rw [if_pos rfl, if_pos (by omega)]
    · rw [if_neg m7, if_neg (by omega)]
      show r ((next + 8 - 8 + (m + 1)) % 8) = _
      congr 1
      omega
  · rw [Nat.min_eq_left (by omega)] at hm ⊢
    rw [if_neg k8]
    by_cases mk : m = kept
    · subst mk
      rw [if_pos rfl, if_pos (by omega)]
    · rw [if_neg mk, if_neg (by omega)]
      show r ((next + 8 - kept + m) % 8) = _
      congr 1
      omega
section INV
variable {l : List Int32} {p : ZP} {S : Nat → Int32} {G : Nat → Nat → Int32} {Q : Nat → Nat → Int64} {A B : AV} {r : Nat → AV} {kept next P F : Nat} {e : Int32} {h1 : ZH}
/-- the class has answered, the reference is as it was -/
theorem w_p (h0 : (zRh p S G Q)[5]? = some (20, zint l)) (h5 : h1[5]? = (zRh p S G Q)[5]?) (hf : ∀ k : Nat, 256 ≤ k → h1[k]? = (zRh p S G Q)[k]?) : ∃ p1 : ZP, h1 = zRh p1 S G Q ∧ (h1[256]?).map (fun c => c.1) = some 7 ∧ ∀ S' G' Q', (∀ k : Nat, k < 256 → (zRh p1 S' G' Q')[k]? = h1[k]?) ∧ (zRh p1 S' G' Q')[5]? = some (20, zint l) := by
  obtain ⟨p1, e1, e2⟩ := zRh_of hf
  refine ⟨p1, e1, by rw [e1]; exact rb0, fun S' G' Q' => ⟨fun k hk => by rw [zRh_lo hk]; exact e2 k hk, ?_⟩⟩
  rw [zRh_lo (by decide), e2 5 (by decide), h5, h0]
/-- a call that changes nothing -/
theorem w_q (hc : cF (zRh p S G Q) A B r kept next P F e) (h0 : (zRh p S G Q)[5]? = some (20, zint l)) (h3 : S 3 = nI kept) (hK : kR (G 2) kept (fun m => r ((next + 8 - kept + m) % 8))) (ho : (e = 0 ∧ S 33 = 0) ∨ (e = 1 ∧ S 33 = 1 ∧ oldR S G B)) (hc1 : cF h1 A B r kept next P F e) (hu : cU (zRh p S G Q) h1) : h1[5]? = (zRh p S G Q)[5]? ∧ ∃ p1 : ZP, h1 = zRh p1 S G Q ∧ (h1[256]?).map (fun c => c.1) = some 7 ∧ ∀ S' G' Q', zsF A S S' G G' → wI l (zRh p1 S' G' Q') := by
  obtain ⟨p1, e1, e2, e3⟩ := w_p h0 (hu 5 (by omega)) (fun k hk => hu k (by omega))
  refine ⟨hu 5 (by omega), p1, e1, e2, fun S' G' Q' hs => ?_⟩
  obtain ⟨f1, f2⟩ := e3 S' G' Q'
  refine ⟨p1, S', G', Q', A, B, r, kept, next, P, F, e, rfl, cF_fr hc1 f1, f2, Or.inl ⟨hs.1, hs.2.1⟩, (hs.2.2.1 3 (by decide) (by decide) (by decide) (by decide)).trans h3, by rw [hs.2.2.2 2 (Or.inl rfl)]; exact hK, ?_⟩
  have s33 := hs.2.2.1 33 (by decide) (by decide) (by decide) (by decide)
  rcases ho with ⟨a1, a2⟩ | ⟨a1, a2, a3⟩
  · exact Or.inl ⟨a1, s33.trans a2⟩
  · exact Or.inr ⟨a1, s33.trans a2, oldR_g a3 (hs.2.2.1 34 (by decide) (by decide) (by decide) (by decide)) (hs.2.2.1 35 (by decide) (by decide) (by decide) (by decide)) fun a ha => hs.2.2.2 a (Or.inr ha)⟩
theorem zShF_u (h : zShF (zRh p S G Q) h1) : cU (zRh p S G Q) h1 := fun k hk => h k (by omega)
theorem cF_sh (hc : cF (zRh p S G Q) A B r kept next P F e) (hI : zShI h1) (hf : zShF (zRh p S G Q) h1) : cF h1 A B r kept next P F e := by
  obtain ⟨hC, -, hP, hF, hA, hB, hR⟩ := hc
  have hPF := hC.2.2.2.2.2.2.2
  exact ⟨zCs_fr hC fun a ha => hf a (by omega), hI, bookI_fr hP fun a g1 g2 => hf a (by omega), bookI_fr hF fun a g1 g2 => hf a (by omega), hA, hB, hR⟩
theorem cU_rf {h : ZH} : cU h h := fun _ _ => rfl
/-- a call that changes the album -/
theorem w_m {A' : AV} {pic pg : Int32} (hc : cF (zRh p S G Q) A B r kept next P F e) (h0 : (zRh p S G Q)[5]? = some (20, zint l)) (hb : ∃ s X, BK (zRh p S G Q) F s X ∧ s 6 = pic ∧ s 7 = pg) (hD : zDone (zRh p S G Q) h1 A A' r kept next P F pic pg) (hA' : zVa A') : h1[5]? = (zRh p S G Q)[5]? ∧ ∃ p1 : ZP, h1 = zRh p1 S G Q ∧ (h1[256]?).map (fun c => c.1) = some 7 ∧ ∀ S' G' Q', zrD S S' G' A A' (min (kept + 1) 8) (kNx kept (fun m => r ((next + 8 - kept + m) % 8)) A) → wI l (zRh p1 S' G' Q') := by
  obtain ⟨hC, hI, hP, hF, hA, hB, hR⟩ := hc
  have hPF := hC.2.2.2.2.2.2.2
  have hk8 := hC.2.2.2.2.2.1
  have hn8 := hC.2.2.2.2.2.2.1
  obtain ⟨d1, d2, d3⟩ := hD
  have h5 : h1[5]? = (zRh p S G Q)[5]? := d3 5 (by omega) (by omega)
  obtain ⟨p1, e1, e2, e3⟩ := w_p h0 h5 (fun k hk => d3 k (by omega) (by omega))
  refine ⟨h5, p1, e1, e2, fun S' G' Q' hs => ?_⟩
  obtain ⟨f1, f2⟩ := e3 S' G' Q'
  obtain ⟨s, X, b1, b2, b3⟩ := hb
  have BKF : BK h1 F (upd s 8 0) X := ⟨by rw [pk_un (by decide), pk_un (by decide), pk_us, b2, b3]; exact d2, fun a ha => (d3 _ (by omega) (by omega)).trans (b1.2 a ha)⟩
  have cf1 : cF h1 A' A (zru r next A) (min (kept + 1) 8) ((next + 1) % 8) F P 1 := ⟨d1, by
      obtain ⟨i1, i2, ⟨fw, i3⟩, ⟨fq, i4⟩, ⟨fv, i5⟩, ⟨fa, i6⟩, ⟨fe, i7⟩, i8, n, W, H, le, sa, sb, i9⟩ := hI
      exact ⟨zSta_fr i1 fun a ha => d3 a (by omega) (by omega), (d3 30 (by omega) (by omega)).trans i2, ⟨fw, (d3 31 (by omega) (by omega)).trans i3⟩, ⟨fq, (d3 32 (by omega) (by omega)).trans i4⟩, ⟨fv, (d3 33 (by omega) (by omega)).trans i5⟩, ⟨fa, (d3 34 (by omega) (by omega)).trans i6⟩, ⟨fe, (d3 35 (by omega) (by omega)).trans i7⟩, fun t ht => zTre_fr (i8 t ht) ht fun a g1 g2 => d3 a (by have := tb_ok t ht; omega) (by have := tb_ok t ht; omega), n, W, H, le, sa, sb, (d3 29 (by omega) (by omega)).trans i9⟩, ⟨upd s 8 0, X, BKF, Or.inl pk_us⟩, bookI_fr hP fun a g1 g2 => d3 a (by omega) (by omega), hA', hA, fun i hi => by
      unfold zru
      by_cases z : i = next
      · rw [if_pos z]; exact hA
      · rw [if_neg z]; exact hR i hi⟩
  exact ⟨p1, S', G', Q', A', A, zru r next A, min (kept + 1) 8, (next + 1) % 8, F, P, 1, rfl, cF_fr cf1 f1, f2, Or.inl ⟨hs.1, hs.2.1⟩, hs.2.2.2.2.1, fun m hm => by
    have := hs.2.2.2.2.2 m hm
    rw [ring_nx hk8 hn8 hm] at this
    exact this, Or.inr ⟨rfl, hs.2.2.1, hs.2.2.2.1⟩⟩
end INV
/-! what stays an album as it can be -/
theorem zVa_wr {A : AV} {j : Nat} {w x v k g : Int32} (hA : zVa A) (hc : zcan w x v k g) {N' : Nat} (hN : N' = A.1 ∨ (N' = A.1 + 1 ∧ j = A.1)) (hN12 : N' ≤ 12) : zVa (N', A.2.1, A.2.2.1, zwr A.2.2.2 j w x v k g) := by
  refine ⟨hN12, hA.2.1, hA.2.2.1, fun i hi => ?_⟩
  show zcan (zwr A.2.2.2 j w x v k g (5 * i)) (zwr A.2.2.2 j w x v k g (5 * i + 1)) (zwr A.2.2.2 j w x v k g (5 * i + 2)) (zwr A.2.2.2 j w x v k g (5 * i + 3)) (zwr A.2.2.2 j w x v k g (5 * i + 4))
  have hi' : i < N' := hi
  unfold zwr
  by_cases z : i = j
  · subst z
    rw [pk_un (by omega), pk_un (by omega), pk_un (by omega), pk_un (by omega), pk_us, pk_un (by omega), pk_un (by omega), pk_un (by omega), pk_us, pk_un (by omega), pk_un (by omega), pk_us, pk_un (by omega), pk_us, pk_us]
    exact hc
  · have u : ∀ c, c < 5 → upd (upd (upd (upd (upd A.2.2.2 (5 * j) w) (5 * j + 1) x) (5 * j + 2) v) (5 * j + 3) k) (5 * j + 4) g (5 * i + c) = A.2.2.2 (5 * i + c) := fun c hc => by rw [pk_un (by omega), pk_un (by omega), pk_un (by omega), pk_un (by omega), pk_un (by omega)]
    have u0 : upd (upd (upd (upd (upd A.2.2.2 (5 * j) w) (5 * j + 1) x) (5 * j + 2) v) (5 * j + 3) k) (5 * j + 4) g (5 * i) = A.2.2.2 (5 * i) := u 0 (by decide)
    rw [u0, u 1 (by decide), u 2 (by decide), u 3 (by decide), u 4 (by decide)]
    exact hA.2.2.2 i (by omega)
theorem zsw_v {f : Nat → Int32} {p q : Nat} : ∀ (k i c : Nat), c < 5 → k ≤ 5 → zsw f p q k (5 * i + c) = if c < k then (if i = q then f (5 * p + c) else if i = p then f (5 * q + c) else f (5 * i + c)) else f (5 * i + c)
  | 0, i, c, _, _ => by rw [if_neg (Nat.not_lt_zero c)]; rfl
  | k + 1, i, c, hc, hk5 => by
    show upd (upd (zsw f p q k) (5 * p + k) (zsw f p q k (5 * q + k))) (5 * q + k) (zsw f p q k (5 * p + k)) (5 * i + c) = _
    have k5 : k < 5 := hk5
    have vp := zsw_v (f := f) (p := p) (q := q) k p k k5 (Nat.le_of_lt k5)
    have vq := zsw_v (f := f) (p := p) (q := q) k q k k5 (Nat.le_of_lt k5)
    rw [if_neg (Nat.lt_irrefl k)] at vp vq
    by_cases e1 : 5 * i + c = 5 * q + k
    · have hi : i = q := by omega
      have hk : c = k := by omega
      subst hi hk
      rw [pk_us, vp, if_pos (show c < c + 1 by omega), if_pos rfl]
    · rw [pk_un e1]
      by_cases e2 : 5 * i + c = 5 * p + k
      · have hi : i = p := by omega
        have hk : c = k := by omega
        subst hi hk
        rw [pk_us, vq, if_pos (show c < c + 1 by omega)]
        by_cases z : i = q
        · rw [if_pos z, z]
        · rw [if_neg z, if_pos rfl]
      · rw [pk_un e2, zsw_v k i c hc (Nat.le_of_lt k5)]
        by_cases z : c < k
        · rw [if_pos z, if_pos (show c < k + 1 by omega)]
        · rw [if_neg z]
          by_cases z2 : c < k + 1
          · rw [if_pos z2, if_neg (show ¬i = q by omega), if_neg (show ¬i = p by omega)]
          · rw [if_neg z2]
theorem zVa_sw {A : AV} {p q : Nat} (hA : zVa A) (hp : p < A.1) (hq : q < A.1) : zVa (A.1, A.2.1, A.2.2.1, zsw A.2.2.2 p q 5) := by
  refine ⟨hA.1, hA.2.1, hA.2.2.1, fun i hi => ?_⟩
  show zcan (zsw A.2.2.2 p q 5 (5 * i)) (zsw A.2.2.2 p q 5 (5 * i + 1)) (zsw A.2.2.2 p q 5 (5 * i + 2)) (zsw A.2.2.2 p q 5 (5 * i + 3)) (zsw A.2.2.2 p q 5 (5 * i + 4))
  have u : ∀ c, c < 5 → zsw A.2.2.2 p q 5 (5 * i + c) = A.2.2.2 (5 * (if i = q then p else if i = p then q else i) + c) := fun c hc => by
    rw [zsw_v 5 i c hc (Nat.le_refl 5), if_pos hc]
    by_cases z : i = q
    · rw [if_pos z, if_pos z]
    · rw [if_neg z, if_neg z]
      by_cases z2 : i = p
      · rw [if_pos z2, if_pos z2]
      · rw [if_neg z2, if_neg z2]
  have u0 : zsw A.2.2.2 p q 5 (5 * i) = A.2.2.2 (5 * (if i = q then p else if i = p then q else i)) := u 0 (by decide)
  rw [u0, u 1 (by decide), u 2 (by decide), u 3 (by decide), u 4 (by decide)]
  refine hA.2.2.2 _ ?_
  by_cases z : i = q
  · rw [if_pos z]; exact hp
  · rw [if_neg z]
    by_cases z2 : i = p
    · rw [if_pos z2]; exact hq
    · rw [if_neg z2]; exact hi
theorem zVa_rm {A : AV} {p : Nat} (hA : zVa A) (hp : p < A.1) : zVa (A.1 - 1, A.2.1, A.2.2.1, zrmv A.2.2.2 p (5 * (A.1 - 1))) := by
  refine ⟨by have := hA.1; show A.1 - 1 ≤ 12; omega, hA.2.1, hA.2.2.1, fun i hi => ?_⟩
  have hi' : i < A.1 - 1 := hi
  show zcan (zrmv A.2.2.2 p (5 * (A.1 - 1)) (5 * i)) (zrmv A.2.2.2 p (5 * (A.1 - 1)) (5 * i + 1)) (zrmv A.2.2.2 p (5 * (A.1 - 1)) (5 * i + 2)) (zrmv A.2.2.2 p (5 * (A.1 - 1)) (5 * i + 3)) (zrmv A.2.2.2 p (5 * (A.1 - 1)) (5 * i + 4))
  have u : ∀ c, c < 5 → zrmv A.2.2.2 p (5 * (A.1 - 1)) (5 * i + c) = A.2.2.2 (5 * (if p ≤ i then i + 1 else i) + c) := fun c hc => by
    show (if 5 * p ≤ 5 * i + c ∧ 5 * i + c < 5 * (A.1 - 1) then A.2.2.2 (5 * i + c + 5) else A.2.2.2 (5 * i + c)) = _
    by_cases z : p ≤ i
    · rw [if_pos (by omega), if_pos z]
      exact congrArg A.2.2.2 (by omega)
    · rw [if_neg (by omega), if_neg z]
  have u0 : zrmv A.2.2.2 p (5 * (A.1 - 1)) (5 * i) = A.2.2.2 (5 * (if p ≤ i then i + 1 else i)) := u 0 (by decide)
  rw [u0, u 1 (by decide), u 2 (by decide), u 3 (by decide), u 4 (by decide)]
  refine hA.2.2.2 _ ?_
  by_cases z : p ≤ i
  · rw [if_pos z]; omega
  · rw [if_neg z]; omega
