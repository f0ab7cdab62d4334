/-! THE CLASS'S STATE but its books and its sheet: album, before, ring -/
abbrev AV : Type := Nat × Nat × Nat × (Nat → Int32)
def zAv (h : ZH) (a : Nat) (v : AV) : Prop := zAlb h a v.1 v.2.1 v.2.2.1 v.2.2.2
theorem zAv_fr {h h' : ZH} {a : Nat} {v : AV} (hv : zAv h a v) (h0 : h'[a]? = h[a]?) (h1 : h'[a + 1]? = h[a + 1]?) : zAv h' a v := ⟨h0.trans hv.1, h1.trans hv.2⟩
def zCs (h : ZH) (A B : AV) (r : Nat → AV) (kept next P F : Nat) (e : Int32) : Prop :=
  h[6]? = some (zObj P F e) ∧ zAv h 7 A ∧ zAv h 9 B ∧ zHis h kept next ∧ (∀ i : Nat, i < 8 → zAv h (13 + 2 * i) (r i)) ∧ kept ≤ 8 ∧ next < 8 ∧ ((P = 242 ∧ F = 249) ∨ (P = 249 ∧ F = 242))
/-- what a change leaves: cells ahead of the class, and all behind the ring but the book that is forgotten -/
def zFr (h h' : ZH) (F : Nat) : Prop := ∀ k : Nat, (k < 6 ∨ 29 ≤ k) → k ≠ F → h'[k]? = h[k]?
def zru (r : Nat → AV) (n : Nat) (v : AV) : Nat → AV := fun j => if j = n then v else r j
/-- beginCall over the state -/
theorem cl_begin (d : Nat) {h : ZH} {A B : AV} {r : Nat → AV} {kept next P F : Nat} {e pic pg made : Int32} (hC : zCs h A B r kept next P F e) (hF : h[F]? = some (zBkc F pic pg made)) :
    ∃ h', zcl (d + 4) 71 [.ref 6] h = some (none, h') ∧ zCs h' A A (zru r next A) (min (kept + 1) 8) ((next + 1) % 8) F P 1 ∧ h'[F]? = some (zBkc F pic pg 0) ∧ zFr h h' F := by
  obtain ⟨h6, hA, hB, hH, hR, hk, hn, hPF⟩ := hC
  obtain ⟨h', e1, e2, e3, e4, e5, e6, e7⟩ := c_beginCall d h6 hA hB hF (by omega) hH hk hn (hR next hn)
  refine ⟨h', e1, ⟨e2, ?_, e3, e5, fun i hi => ?_, by omega, by omega, by omega⟩, e4, fun k hk1 hk2 => ?_⟩
  · exact zAv_fr hA (e7 7 (by decide) (by decide) (by decide) (by decide) (by omega) (by omega) (by omega)) (e7 (7 + 1) (by decide) (by decide) (by decide) (by decide) (by omega) (by omega) (by omega))
  · unfold zru
    by_cases q : i = next
    · subst q
      rw [if_pos rfl]
      exact e6
    · rw [if_neg q]
      exact zAv_fr (hR i hi) (e7 _ (by omega) (by omega) (by omega) (by omega) (by omega) (by omega) (by omega)) (e7 _ (by omega) (by omega) (by omega) (by omega) (by omega) (by omega) (by omega))
  · exact e7 k (by omega) (by omega) (by omega) (by omega) (by omega) (by omega) hk2
/-- the album alone is written -/
theorem cl_set7 {h h' : ZH} {A A' B : AV} {r : Nat → AV} {kept next P F : Nat} {e : Int32} (hC : zCs h A B r kept next P F e) (hA : zAv h' 7 A') (hf : ∀ k : Nat, k ≠ 7 → k ≠ 8 → h'[k]? = h[k]?) : zCs h' A' B r kept next P F e := by
  obtain ⟨h6, -, hB, hH, hR, hk, hn, hPF⟩ := hC
  exact ⟨(hf 6 (by decide) (by decide)).trans h6, hA, zAv_fr hB (hf 9 (by decide) (by decide)) (hf (9 + 1) (by decide) (by decide)), ⟨(hf 11 (by decide) (by decide)).trans hH.1, (hf 12 (by decide) (by decide)).trans hH.2⟩, fun i hi => zAv_fr (hR i hi) (hf _ (by omega) (by omega)) (hf _ (by omega) (by omega)), hk, hn, hPF⟩
/-- what page, picture, change, swap, drop do when they are done: the album becomes A' -/
def zDone (h h' : ZH) (A A' : AV) (r : Nat → AV) (kept next P F : Nat) (pic pg : Int32) : Prop := zCs h' A' A (zru r next A) (min (kept + 1) 8) ((next + 1) % 8) F P 1 ∧ h'[F]? = some (zBkc F pic pg 0) ∧ zFr h h' F
theorem zDone_of {h h1 h' : ZH} {A A' : AV} {r : Nat → AV} {kept next P F : Nat} {pic pg : Int32} (hC : zCs h1 A A (zru r next A) (min (kept + 1) 8) ((next + 1) % 8) F P 1) (hF : h1[F]? = some (zBkc F pic pg 0)) (hf1 : zFr h h1 F) (hA : zAv h' 7 A') (hf : ∀ k : Nat, k ≠ 7 → k ≠ 8 → h'[k]? = h1[k]?) : zDone h h' A A' r kept next P F pic pg := by
  have hPF := hC.2.2.2.2.2.2.2
  exact ⟨cl_set7 hC hA hf, (hf F (by omega) (by omega)).trans hF, fun k hk1 hk2 => (hf k (by omega) (by omega)).trans (hf1 k hk1 hk2)⟩
section CLS
variable {h : ZH} {A B : AV} {r : Nat → AV} {kept next P F : Nat} {e pic pg made : Int32}
/-- page(w, h) -/
theorem c_page (d : Nat) (hC : zCs h A B r kept next P F e) (hF : h[F]? = some (zBkc F pic pg made)) (w x : Int32) :
    (¬ ((20 ≤ w ∧ w ≤ 200) ∧ (20 ≤ x ∧ x ≤ 200)) → zcl (d + 5) 52 [.ref 6, .int w, .int x] h = some (some (.int 0), h)) ∧
    (∀ W H : Nat, w = nI W → x = nI H → (20 ≤ W ∧ W ≤ 200) → (20 ≤ H ∧ H ≤ 200) → ∃ h', zcl (d + 5) 52 [.ref 6, .int w, .int x] h = some (some (.int 1), h') ∧ zDone h h' A (A.1, W, H, A.2.2.2) r kept next P F pic pg) := by
  have z0 : zcs [] ≤ 8 := by decide
  constructor
  · intro hn
    rw [e52]
    simp only [g52_0, g52_1, g52_3, g52_6, g52_9, c_within (d + 3), z0, Option.bind_some, Option.toList_some, List.cons_append, List.nil_append]
    by_cases q1 : 20 ≤ w ∧ w ≤ 200
    · rw [if_pos q1, if_neg (show ¬ (1 : Int32) = 0 by decide)]
      simp only [g52_12, g52_13, g52_15, g52_18, g52_21, c_within (d + 3), z0, Option.bind_some, Option.toList_some, List.cons_append, List.nil_append]
      rw [if_neg (fun q2 => hn ⟨q1, q2⟩), if_neg (fun z => z rfl), g52_24, g52_25 zzero]
    · rw [if_neg q1, if_pos rfl, g52_24, g52_25 zzero]
  · intro W H hw hx hW hH
    subst hw
    subst hx
    have q1 : (20 : Int32) ≤ nI W ∧ nI W ≤ 200 := ⟨nI_le (a := 20) hW.1 (by omega), nI_le (b := 200) hW.2 (by decide)⟩
    have q2 : (20 : Int32) ≤ nI H ∧ nI H ≤ 200 := ⟨nI_le (a := 20) hH.1 (by omega), nI_le (b := 200) hH.2 (by decide)⟩
    obtain ⟨h1, b1, b2, b3, b4⟩ := cl_begin d hC hF
    have hb : (h[6]?).map (fun c => c.1) = some 6 := by rw [hC.1]; rfl
    have u0 : zget h1 6 6 0 = some (.ref 7) := (zget_c b2.1).trans rfl
    have A0 := b2.2.1.1
    have A1 := b2.2.1.2
    have p2 : zput h1 7 0 2 (.int (nI W)) = some (h1.set 7 (0, [.ref (7 + 1), .int (nI A.1), .int (nI W), .int (nI A.2.2.1)])) := zput_c A0 rfl rfl rfl
    have u1 : zget (h1.set 7 (0, [.ref (7 + 1), .int (nI A.1), .int (nI W), .int (nI A.2.2.1)])) 6 6 0 = some (.ref 7) := (zget_c ((zset_ne (by decide)).trans b2.1)).trans rfl
    have p3 : zput (h1.set 7 (0, [.ref (7 + 1), .int (nI A.1), .int (nI W), .int (nI A.2.2.1)])) 7 0 3 (.int (nI H)) = some (h1.set 7 (0, [.ref (7 + 1), .int (nI A.1), .int (nI W), .int (nI H)])) := by
      have p3a : zput (h1.set 7 (0, [.ref (7 + 1), .int (nI A.1), .int (nI W), .int (nI A.2.2.1)])) 7 0 3 (.int (nI H)) = some ((h1.set 7 (0, [.ref (7 + 1), .int (nI A.1), .int (nI W), .int (nI A.2.2.1)])).set 7 (0, [.ref (7 + 1), .int (nI A.1), .int (nI W), .int (nI H)])) := zput_c (zset_get (c := (0, [Value.ref (7 + 1), .int (nI A.1), .int (nI W), .int (nI A.2.2.1)])) A0) rfl rfl rfl
      rw [p3a, List.set_set]
    rw [e52]
    simp only [g52_0, g52_1, g52_3, g52_6, g52_9, c_within (d + 3), z0, Option.bind_some, Option.toList_some, List.cons_append, List.nil_append]
    rw [if_pos q1, if_neg (show ¬ (1 : Int32) = 0 by decide)]
    simp only [g52_12, g52_13, g52_15, g52_18, g52_21, c_within (d + 3), z0, Option.bind_some, Option.toList_some, List.cons_append, List.nil_append]
    rw [if_pos q2, if_pos (show ¬ (1 : Int32) = 0 by decide)]
    simp only [g52_26, g52_27, g52_30, g52_31, g52_34, g52_35, g52_38, g52_39, g52_42, g52_43, b1, z0, hb, u0, u1, p2, p3, Option.bind_some, Option.toList_none, List.nil_append, g52_46]
    refine ⟨_, g52_47 zone, zDone_of b2 b3 b4 ⟨zset_get A0, (zset_ne (by decide)).trans A1⟩ fun k q3 q4 => zset_ne (Ne.symm q3)⟩
end CLS
