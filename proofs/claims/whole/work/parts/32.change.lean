/-! THE CLASS'S OBJECT: beginChange, beginCall -/
def zObj (P F : Nat) (e : Int32) : ZC := (6, [.ref 7, .ref 9, .ref 11, .ref 29, .ref P, .ref F, .int e])
def zBkc (b : Nat) (pic pg made : Int32) : ZC := (1, [.ref (b + 1), .ref (b + 2), .ref (b + 3), .ref (b + 4), .ref (b + 5), .ref (b + 6), .int pic, .int pg, .int made])
theorem c_forget (d : Nat) {h : ZH} {b : Nat} {pic pg made : Int32} (hB : h[b]? = some (zBkc b pic pg made)) : zcl (d + 1) 11 [.ref b] h = some (none, h.set b (zBkc b pic pg 0)) := by
  have p := zput_c (v := .int 0) (j := 8) hB rfl rfl rfl
  rw [e11]
  simp only [g11_0, g11_1, g11_2, p, Option.bind_some, g11_5]
  rfl
theorem c_beginChange (d : Nat) {h : ZH} {N W H N2 W2 H2 P F : Nat} {f g : Nat → Int32} {e pic pg made : Int32} (h6 : h[6]? = some (zObj P F e)) (hA : zAlb h 7 N W H f) (hB : zAlb h 9 N2 W2 H2 g) (hF : h[F]? = some (zBkc F pic pg made)) (hF2 : 242 ≤ F) :
    ∃ h', zcl (d + 3) 72 [.ref 6] h = some (none, h') ∧ h'[6]? = some (zObj F P 1) ∧ zAlb h' 9 N W H f ∧ h'[F]? = some (zBkc F pic pg 0) ∧ ∀ k : Nat, k ≠ 6 → k ≠ 9 → k ≠ 10 → k ≠ F → h'[k]? = h[k]? := by
  have z0 : zcs [] ≤ 8 := by decide
  have u0 : zget h 6 6 0 = some (.ref 7) := (zget_c h6).trans rfl
  have u1 : zget h 6 6 1 = some (.ref 9) := (zget_c h6).trans rfl
  have hb : (h[9]?).map (fun c => c.1) = some 0 := by rw [hB.1]; rfl
  have bc := c_become d hB hA (by decide) (by decide) (by decide)
  have hw : Value.category (.ref 6) = 1 := rfl
  rw [e72]
  simp only [g72_0, g72_1, g72_4, g72_5, g72_8, u0, u1, z0, hb, bc, Option.bind_some, Option.toList_none, List.nil_append]
  generalize hk1 : (h.set 9 (0, [.ref (9 + 1), .int (nI N), .int (nI W), .int (nI H)])).set (9 + 1) (10, zia 60 f) = k
  have fr : ∀ j : Nat, j ≠ 9 → j ≠ 10 → k[j]? = h[j]? := by
    intro j q1 q2
    rw [← hk1, zset_ne (by omega), zset_ne (by omega)]
  have K9 : zAlb k 9 N W H f := by
    refine ⟨?_, ?_⟩
    · rw [← hk1, zset_ne (by decide)]
      exact zset_get hB.1
    · rw [← hk1]
      exact zset_get ((zset_ne (by decide)).trans hB.2)
  have K6 : k[6]? = some (zObj P F e) := (fr 6 (by decide) (by decide)).trans h6
  have KF : k[F]? = some (zBkc F pic pg made) := (fr F (by omega) (by omega)).trans hF
  have v5 : zget k 6 6 5 = some (.ref F) := (zget_c K6).trans rfl
  have v4 : zget k 6 6 4 = some (.ref P) := (zget_c K6).trans rfl
  have p5 : zput k 6 6 5 (.ref P) = some (k.set 6 (zObj P P e)) := zput_c K6 rfl rfl rfl
  have p4 : zput (k.set 6 (zObj P P e)) 6 6 4 (.ref F) = some (k.set 6 (zObj F P e)) := by
    have p4a : zput (k.set 6 (zObj P P e)) 6 6 4 (.ref F) = some ((k.set 6 (zObj P P e)).set 6 (zObj F P e)) := zput_c (zset_get (c := zObj P P e) K6) rfl rfl rfl
    rw [p4a, List.set_set]
  have v4b : zget (k.set 6 (zObj F P e)) 6 6 4 = some (.ref F) := (zget_c (zset_get K6)).trans rfl
  have KF2 : (k.set 6 (zObj F P e))[F]? = some (zBkc F pic pg made) := (zset_ne (by omega)).trans KF
  have fg := c_forget (d + 1) KF2
  have hbF : ((k.set 6 (zObj F P e))[F]?).map (fun c => c.1) = some 1 := by rw [KF2]; rfl
  have K6b : ((k.set 6 (zObj F P e)).set F (zBkc F pic pg 0))[6]? = some (zObj F P e) := (zset_ne (by omega)).trans (zset_get K6)
  have p6 : zput ((k.set 6 (zObj F P e)).set F (zBkc F pic pg 0)) 6 6 6 (.int 1) = some (((k.set 6 (zObj F P e)).set F (zBkc F pic pg 0)).set 6 (zObj F P 1)) := zput_c K6b rfl rfl rfl
  simp only [g72_11, g72_12, g72_15, g72_16, g72_17, g72_18, g72_21, g72_24, g72_25, g72_26, g72_29, g72_30, g72_33, g72_36, g72_37, g72_38, v5, v4, p5, p4, v4b, fg, z0, hbF, p6, hw, Option.bind_some, Option.toList_none, List.nil_append, g72_41]
  refine ⟨_, rfl, zset_get K6b, ?_, ?_, fun j q1 q2 q3 q4 => ?_⟩
  · refine ⟨?_, ?_⟩
    · rw [zset_ne (by decide), zset_ne (by omega), zset_ne (by decide)]
      exact K9.1
    · rw [zset_ne (by decide), zset_ne (by omega), zset_ne (by decide)]
      exact K9.2
  · rw [zset_ne (by omega)]
    exact zset_get KF2
  · rw [zset_ne (Ne.symm q1), zset_ne (Ne.symm q4), zset_ne (Ne.symm q1)]
    exact fr j q2 q3
/-- beginCall: the album is kept, and the change begins -/
theorem c_beginCall (d : Nat) {h : ZH} {N W H N2 W2 H2 N3 W3 H3 P F kept next : Nat} {f g q : Nat → Int32} {e pic pg made : Int32} (h6 : h[6]? = some (zObj P F e)) (hA : zAlb h 7 N W H f) (hB : zAlb h 9 N2 W2 H2 g) (hF : h[F]? = some (zBkc F pic pg made)) (hF2 : 242 ≤ F) (hH : zHis h kept next) (hk : kept ≤ 8) (hn : next < 8) (hR : zAlb h (13 + 2 * next) N3 W3 H3 q) :
    ∃ h', zcl (d + 4) 71 [.ref 6] h = some (none, h') ∧ h'[6]? = some (zObj F P 1) ∧ zAlb h' 9 N W H f ∧ h'[F]? = some (zBkc F pic pg 0) ∧ zHis h' (min (kept + 1) 8) ((next + 1) % 8) ∧ zAlb h' (13 + 2 * next) N W H f ∧ ∀ k : Nat, k ≠ 6 → k ≠ 9 → k ≠ 10 → k ≠ 11 → k ≠ 13 + 2 * next → k ≠ 13 + 2 * next + 1 → k ≠ F → h'[k]? = h[k]? := by
  have z0 : zcs [] ≤ 8 := by decide
  have u0 : zget h 6 6 0 = some (.ref 7) := (zget_c h6).trans rfl
  have u2 : zget h 6 6 2 = some (.ref 11) := (zget_c h6).trans rfl
  have hb : (h[11]?).map (fun c => c.1) = some 2 := by rw [hH.1]; rfl
  have kp := c_keep d hH hk hn hA hR
  rw [e71]
  simp only [g71_0, g71_1, g71_4, g71_5, g71_8, u0, u2, z0, hb, kp, Option.bind_some, Option.toList_none, List.nil_append]
  generalize hk1 : ((h.set (13 + 2 * next) (0, [.ref (13 + 2 * next + 1), .int (nI N), .int (nI W), .int (nI H)])).set (13 + 2 * next + 1) (10, zia 60 f)).set 11 (2, [.ref 12, .int (nI (min (kept + 1) 8)), .int (nI ((next + 1) % 8))]) = k
  have fr : ∀ j : Nat, j ≠ 11 → j ≠ 13 + 2 * next → j ≠ 13 + 2 * next + 1 → k[j]? = h[j]? := by
    intro j q1 q2 q3
    rw [← hk1, zset_ne (Ne.symm q1), zset_ne (Ne.symm q3), zset_ne (Ne.symm q2)]
  have K6 := (fr 6 (by decide) (by omega) (by omega)).trans h6
  have KA : zAlb k 7 N W H f := ⟨(fr 7 (by decide) (by omega) (by omega)).trans hA.1, (fr (7 + 1) (by decide) (by omega) (by omega)).trans hA.2⟩
  have KB : zAlb k 9 N2 W2 H2 g := ⟨(fr 9 (by decide) (by omega) (by omega)).trans hB.1, (fr (9 + 1) (by decide) (by omega) (by omega)).trans hB.2⟩
  have KF := (fr F (by omega) (by omega) (by omega)).trans hF
  have KR : zAlb k (13 + 2 * next) N W H f := by
    refine ⟨?_, ?_⟩
    · rw [← hk1, zset_ne (by omega), zset_ne (by omega)]
      exact zset_get hR.1
    · rw [← hk1, zset_ne (by omega)]
      exact zset_get ((zset_ne (by omega)).trans hR.2)
  have K11 : k[11]? = some (2, [.ref 12, .int (nI (min (kept + 1) 8)), .int (nI ((next + 1) % 8))]) := by
    rw [← hk1]
    exact zset_get (((zset_ne (by omega)).trans (zset_ne (by omega))).trans hH.1)
  have K12 : k[12]? = some (12, zring) := (fr 12 (by decide) (by omega) (by omega)).trans hH.2
  obtain ⟨h', e1, e2, e3, e4, e5⟩ := c_beginChange d K6 KA KB KF hF2
  have hb6 : (k[6]?).map (fun c => c.1) = some 6 := by rw [K6]; rfl
  simp only [g71_11, g71_12, z0, hb6, e1, Option.bind_some, Option.toList_none, List.nil_append, g71_15]
  refine ⟨h', rfl, e2, e3, e4, ⟨?_, ?_⟩, ⟨?_, ?_⟩, fun j q1 q2 q3 q4 q5 q6 q7 => ?_⟩
  · rw [e5 11 (by decide) (by decide) (by decide) (by omega)]
    exact K11
  · rw [e5 12 (by decide) (by decide) (by decide) (by omega)]
    exact K12
  · rw [e5 _ (by omega) (by omega) (by omega) (by omega)]
    exact KR.1
  · rw [e5 _ (by omega) (by omega) (by omega) (by omega)]
    exact KR.2
  · rw [e5 j q1 q2 q3 q7]
    exact fr j q4 q5 q6
