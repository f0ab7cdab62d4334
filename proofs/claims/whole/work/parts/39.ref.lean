/-! THE REFERENCE: its cells 256 .. 285, a text of its numbers: S its int fields, G its int arrays, Q its long arrays (Q 0: its long fields) -/
abbrev ZP : Type := {l : ZH // l.length = 256}
def zla (n : Nat) (f : Nat → Int64) : List Value := (List.range n).map fun j => .long (f j)
theorem zla_len (n : Nat) (f : Nat → Int64) : (zla n f).length = n := by simp [zla]
theorem zla_get {n j : Nat} {f : Nat → Int64} (hj : j < n) : (zla n f)[j]? = some (.long (f j)) := by
  unfold zla
  rw [List.getElem?_map, List.getElem?_range hj]
  rfl
theorem zla_set {n j : Nat} {f : Nat → Int64} {x : Int64} (hj : j < n) : (zla n f).set j (.long x) = zla n (vp_updL f j x) := by
  apply List.ext_getElem?
  intro i
  by_cases hi : i < n
  · rw [zla_get hi]
    by_cases e : i = j
    · subst e
      rw [List.getElem?_set_self (by rw [zla_len]; exact hi), pk_uLs]
    · rw [List.getElem?_set_ne (Ne.symm e), zla_get hi, pk_uLn e]
  · rw [List.getElem?_eq_none (by rw [List.length_set, zla_len]; omega), List.getElem?_eq_none (by rw [zla_len]; omega)]
theorem zald_la {h : ZH} {a n j : Nat} {f : Nat → Int64} (hA : h[a]? = some (11, zla n f)) (hj : j < n) (hn : n < 2 ^ 31) : zald 11 h a (nI j) = some (.long (f j)) := by
  unfold zald
  rw [hA]
  show (zix (nI j) (zla n f).length).bind _ = _
  rw [zla_len, zix_nI hj hn]
  exact zla_get hj
theorem zast_la {h : ZH} {a n j : Nat} {f : Nat → Int64} {x : Int64} (hA : h[a]? = some (11, zla n f)) (hj : j < n) (hn : n < 2 ^ 31) : zast 11 h a (nI j) (.long x) = some (h.set a (11, zla n (vp_updL f j x))) := by
  unfold zast
  rw [hA]
  show (zix (nI j) (zla n f).length).map _ = _
  rw [zla_len, zix_nI hj hn]
  show some (h.set a (11, (zla n f).set j (.long x))) = _
  rw [zla_set hj]
def ug (G : Nat → Nat → Int32) (a i : Nat) (x : Int32) (c : Nat) : Nat → Int32 := if c = a then upd (G a) i x else G c
def uq (Q : Nat → Nat → Int64) (a i : Nat) (x : Int64) (c : Nat) : Nat → Int64 := if c = a then vp_updL (Q a) i x else Q c
theorem ug_s {G : Nat → Nat → Int32} {a i : Nat} {x : Int32} : ug G a i x a = upd (G a) i x := if_pos rfl
theorem ug_n {G : Nat → Nat → Int32} {a i c : Nat} {x : Int32} (h : c ≠ a) : ug G a i x c = G c := if_neg h
theorem uq_s {Q : Nat → Nat → Int64} {a i : Nat} {x : Int64} : uq Q a i x a = vp_updL (Q a) i x := if_pos rfl
theorem uq_n {Q : Nat → Nat → Int64} {a i c : Nat} {x : Int64} (h : c ≠ a) : uq Q a i x c = Q c := if_neg h
def zRo (S : Nat → Int32) (Q : Nat → Nat → Int64) : ZC := (7, [.int (S 0), .ref 257, .ref 258, .int (S 3), .int (S 4), .int (S 5), .ref 259, .ref 260, .ref 261, .ref 262, .ref 263, .ref 264, .ref 265, .long (Q 0 13), .long (Q 0 14), .ref 266, .ref 267, .ref 268, .ref 269, .ref 270, .ref 271, .ref 272, .ref 273, .ref 274, .ref 275, .ref 276, .ref 277, .ref 278, .ref 279, .int (S 29), .ref 280, .ref 281, .ref 282, .int (S 33), .int (S 34), .int (S 35), .ref 283, .ref 284, .ref 285])
def zRl (S : Nat → Int32) (G : Nat → Nat → Int32) (Q : Nat → Nat → Int64) : ZH := [zRo S Q, (10, zia 63 (G 1)), (10, zia 504 (G 2)), (10, zia 8 (G 3)), (10, zia 8 (G 4)), (10, zia 8 (G 5)), (10, zia 8 (G 6)), (10, zia 8 (G 7)), (10, zia 8 (G 8)), (10, zia 4 (G 9)), (11, zla 8 (Q 10)), (11, zla 8 (Q 11)), (11, zla 8 (Q 12)), (11, zla 8 (Q 13)), (11, zla 8 (Q 14)), (11, zla 8 (Q 15)), (11, zla 8 (Q 16)), (11, zla 8 (Q 17)), (11, zla 8 (Q 18)), (11, zla 8 (Q 19)), (11, zla 4 (Q 20)), (10, zia 26 (G 21)), (10, zia 26 (G 22)), (10, zia 48 (G 23)), (10, zia 64 (G 24)), (10, zia 64 (G 25)), (10, zia 64 (G 26)), (10, zia 64 (G 27)), (10, zia 64 (G 28)), (10, zia 64 (G 29))]
def zRh (p : ZP) (S : Nat → Int32) (G : Nat → Nat → Int32) (Q : Nat → Nat → Int64) : ZH := p.1 ++ zRl S G Q
section REF
variable {p : ZP} {S : Nat → Int32} {G : Nat → Nat → Int32} {Q : Nat → Nat → Int64}
theorem zRh_at (k : Nat) : (zRh p S G Q)[256 + k]? = (zRl S G Q)[k]? := by
  unfold zRh
  rw [List.getElem?_append_right (by rw [p.2]; omega), p.2, Nat.add_sub_cancel_left]
theorem zRh_lo {k : Nat} (hk : k < 256) : (zRh p S G Q)[k]? = p.1[k]? := by
  unfold zRh
  rw [List.getElem?_append_left (by rw [p.2]; exact hk)]
theorem zRh_set (k : Nat) (c : ZC) : (zRh p S G Q).set (256 + k) c = p.1 ++ (zRl S G Q).set k c := by
  unfold zRh
  rw [List.set_append_right _ _ (by rw [p.2]; omega), p.2, Nat.add_sub_cancel_left]
theorem zRh_0 : (zRh p S G Q)[256]? = some (zRo S Q) := zRh_at 0
theorem rb0 : ((zRh p S G Q)[256]?).map (fun c => c.1) = some 7 := by rw [zRh_0]; rfl
theorem zRh_1 : (zRh p S G Q)[257]? = some (10, zia 63 (G 1)) := zRh_at 1
theorem zRh_2 : (zRh p S G Q)[258]? = some (10, zia 504 (G 2)) := zRh_at 2
theorem zRh_3 : (zRh p S G Q)[259]? = some (10, zia 8 (G 3)) := zRh_at 3
theorem zRh_4 : (zRh p S G Q)[260]? = some (10, zia 8 (G 4)) := zRh_at 4
theorem zRh_5 : (zRh p S G Q)[261]? = some (10, zia 8 (G 5)) := zRh_at 5
theorem zRh_6 : (zRh p S G Q)[262]? = some (10, zia 8 (G 6)) := zRh_at 6
theorem zRh_7 : (zRh p S G Q)[263]? = some (10, zia 8 (G 7)) := zRh_at 7
theorem zRh_8 : (zRh p S G Q)[264]? = some (10, zia 8 (G 8)) := zRh_at 8
theorem zRh_9 : (zRh p S G Q)[265]? = some (10, zia 4 (G 9)) := zRh_at 9
theorem zRh_10 : (zRh p S G Q)[266]? = some (11, zla 8 (Q 10)) := zRh_at 10
theorem zRh_11 : (zRh p S G Q)[267]? = some (11, zla 8 (Q 11)) := zRh_at 11
theorem zRh_12 : (zRh p S G Q)[268]? = some (11, zla 8 (Q 12)) := zRh_at 12
theorem zRh_13 : (zRh p S G Q)[269]? = some (11, zla 8 (Q 13)) := zRh_at 13
theorem zRh_14 : (zRh p S G Q)[270]? = some (11, zla 8 (Q 14)) := zRh_at 14
theorem zRh_15 : (zRh p S G Q)[271]? = some (11, zla 8 (Q 15)) := zRh_at 15
theorem zRh_16 : (zRh p S G Q)[272]? = some (11, zla 8 (Q 16)) := zRh_at 16
theorem zRh_17 : (zRh p S G Q)[273]? = some (11, zla 8 (Q 17)) := zRh_at 17
theorem zRh_18 : (zRh p S G Q)[274]? = some (11, zla 8 (Q 18)) := zRh_at 18
theorem zRh_19 : (zRh p S G Q)[275]? = some (11, zla 8 (Q 19)) := zRh_at 19
theorem zRh_20 : (zRh p S G Q)[276]? = some (11, zla 4 (Q 20)) := zRh_at 20
theorem zRh_21 : (zRh p S G Q)[277]? = some (10, zia 26 (G 21)) := zRh_at 21
theorem zRh_22 : (zRh p S G Q)[278]? = some (10, zia 26 (G 22)) := zRh_at 22
theorem zRh_23 : (zRh p S G Q)[279]? = some (10, zia 48 (G 23)) := zRh_at 23
theorem zRh_24 : (zRh p S G Q)[280]? = some (10, zia 64 (G 24)) := zRh_at 24
theorem zRh_25 : (zRh p S G Q)[281]? = some (10, zia 64 (G 25)) := zRh_at 25
theorem zRh_26 : (zRh p S G Q)[282]? = some (10, zia 64 (G 26)) := zRh_at 26
theorem zRh_27 : (zRh p S G Q)[283]? = some (10, zia 64 (G 27)) := zRh_at 27
theorem zRh_28 : (zRh p S G Q)[284]? = some (10, zia 64 (G 28)) := zRh_at 28
theorem zRh_29 : (zRh p S G Q)[285]? = some (10, zia 64 (G 29)) := zRh_at 29
theorem rg0 : zget (zRh p S G Q) 256 7 0 = some (.int (S 0)) := (zget_c zRh_0).trans rfl
theorem rg1 : zget (zRh p S G Q) 256 7 1 = some (.ref 257) := (zget_c zRh_0).trans rfl
theorem rg2 : zget (zRh p S G Q) 256 7 2 = some (.ref 258) := (zget_c zRh_0).trans rfl
theorem rg3 : zget (zRh p S G Q) 256 7 3 = some (.int (S 3)) := (zget_c zRh_0).trans rfl
theorem rg4 : zget (zRh p S G Q) 256 7 4 = some (.int (S 4)) := (zget_c zRh_0).trans rfl
theorem rg5 : zget (zRh p S G Q) 256 7 5 = some (.int (S 5)) := (zget_c zRh_0).trans rfl
theorem rg6 : zget (zRh p S G Q) 256 7 6 = some (.ref 259) := (zget_c zRh_0).trans rfl
theorem rg7 : zget (zRh p S G Q) 256 7 7 = some (.ref 260) := (zget_c zRh_0).trans rfl
theorem rg8 : zget (zRh p S G Q) 256 7 8 = some (.ref 261) := (zget_c zRh_0).trans rfl
theorem rg9 : zget (zRh p S G Q) 256 7 9 = some (.ref 262) := (zget_c zRh_0).trans rfl
theorem rg10 : zget (zRh p S G Q) 256 7 10 = some (.ref 263) := (zget_c zRh_0).trans rfl
theorem rg11 : zget (zRh p S G Q) 256 7 11 = some (.ref 264) := (zget_c zRh_0).trans rfl
theorem rg12 : zget (zRh p S G Q) 256 7 12 = some (.ref 265) := (zget_c zRh_0).trans rfl
theorem rg13 : zget (zRh p S G Q) 256 7 13 = some (.long (Q 0 13)) := (zget_c zRh_0).trans rfl
theorem rg14 : zget (zRh p S G Q) 256 7 14 = some (.long (Q 0 14)) := (zget_c zRh_0).trans rfl
theorem rg15 : zget (zRh p S G Q) 256 7 15 = some (.ref 266) := (zget_c zRh_0).trans rfl
theorem rg16 : zget (zRh p S G Q) 256 7 16 = some (.ref 267) := (zget_c zRh_0).trans rfl
theorem rg17 : zget (zRh p S G Q) 256 7 17 = some (.ref 268) := (zget_c zRh_0).trans rfl
theorem rg18 : zget (zRh p S G Q) 256 7 18 = some (.ref 269) := (zget_c zRh_0).trans rfl
theorem rg19 : zget (zRh p S G Q) 256 7 19 = some (.ref 270) := (zget_c zRh_0).trans rfl
theorem rg20 : zget (zRh p S G Q) 256 7 20 = some (.ref 271) := (zget_c zRh_0).trans rfl
theorem rg21 : zget (zRh p S G Q) 256 7 21 = some (.ref 272) := (zget_c zRh_0).trans rfl
theorem rg22 : zget (zRh p S G Q) 256 7 22 = some (.ref 273) := (zget_c zRh_0).trans rfl
theorem rg23 : zget (zRh p S G Q) 256 7 23 = some (.ref 274) := (zget_c zRh_0).trans rfl
theorem rg24 : zget (zRh p S G Q) 256 7 24 = some (.ref 275) := (zget_c zRh_0).trans rfl
theorem rg25 : zget (zRh p S G Q) 256 7 25 = some (.ref 276) := (zget_c zRh_0).trans rfl
theorem rg26 : zget (zRh p S G Q) 256 7 26 = some (.ref 277) := (zget_c zRh_0).trans rfl
theorem rg27 : zget (zRh p S G Q) 256 7 27 = some (.ref 278) := (zget_c zRh_0).trans rfl
theorem rg28 : zget (zRh p S G Q) 256 7 28 = some (.ref 279) := (zget_c zRh_0).trans rfl
theorem rg29 : zget (zRh p S G Q) 256 7 29 = some (.int (S 29)) := (zget_c zRh_0).trans rfl
theorem rg30 : zget (zRh p S G Q) 256 7 30 = some (.ref 280) := (zget_c zRh_0).trans rfl
theorem rg31 : zget (zRh p S G Q) 256 7 31 = some (.ref 281) := (zget_c zRh_0).trans rfl
theorem rg32 : zget (zRh p S G Q) 256 7 32 = some (.ref 282) := (zget_c zRh_0).trans rfl
theorem rg33 : zget (zRh p S G Q) 256 7 33 = some (.int (S 33)) := (zget_c zRh_0).trans rfl
theorem rg34 : zget (zRh p S G Q) 256 7 34 = some (.int (S 34)) := (zget_c zRh_0).trans rfl
theorem rg35 : zget (zRh p S G Q) 256 7 35 = some (.int (S 35)) := (zget_c zRh_0).trans rfl
theorem rg36 : zget (zRh p S G Q) 256 7 36 = some (.ref 283) := (zget_c zRh_0).trans rfl
theorem rg37 : zget (zRh p S G Q) 256 7 37 = some (.ref 284) := (zget_c zRh_0).trans rfl
theorem rg38 : zget (zRh p S G Q) 256 7 38 = some (.ref 285) := (zget_c zRh_0).trans rfl
theorem rfp0 {x : Int32} : zput (zRh p S G Q) 256 7 0 (.int x) = some (zRh p (upd S 0 x) G Q) := (zput_c (j := 0) (v := .int x) zRh_0 rfl rfl rfl).trans (congrArg some (zRh_set 0 _))
theorem rfp3 {x : Int32} : zput (zRh p S G Q) 256 7 3 (.int x) = some (zRh p (upd S 3 x) G Q) := (zput_c (j := 3) (v := .int x) zRh_0 rfl rfl rfl).trans (congrArg some (zRh_set 0 _))
theorem rfp4 {x : Int32} (hx : zfit .boolean (.int x) = true) : zput (zRh p S G Q) 256 7 4 (.int x) = some (zRh p (upd S 4 x) G Q) := (zput_c (j := 4) (v := .int x) zRh_0 rfl rfl hx).trans (congrArg some (zRh_set 0 _))
theorem rfp5 {x : Int32} : zput (zRh p S G Q) 256 7 5 (.int x) = some (zRh p (upd S 5 x) G Q) := (zput_c (j := 5) (v := .int x) zRh_0 rfl rfl rfl).trans (congrArg some (zRh_set 0 _))
theorem rfp29 {x : Int32} : zput (zRh p S G Q) 256 7 29 (.int x) = some (zRh p (upd S 29 x) G Q) := (zput_c (j := 29) (v := .int x) zRh_0 rfl rfl rfl).trans (congrArg some (zRh_set 0 _))
theorem rfp33 {x : Int32} (hx : zfit .boolean (.int x) = true) : zput (zRh p S G Q) 256 7 33 (.int x) = some (zRh p (upd S 33 x) G Q) := (zput_c (j := 33) (v := .int x) zRh_0 rfl rfl hx).trans (congrArg some (zRh_set 0 _))
theorem rfp34 {x : Int32} (hx : zfit .boolean (.int x) = true) : zput (zRh p S G Q) 256 7 34 (.int x) = some (zRh p (upd S 34 x) G Q) := (zput_c (j := 34) (v := .int x) zRh_0 rfl rfl hx).trans (congrArg some (zRh_set 0 _))
theorem rfp35 {x : Int32} : zput (zRh p S G Q) 256 7 35 (.int x) = some (zRh p (upd S 35 x) G Q) := (zput_c (j := 35) (v := .int x) zRh_0 rfl rfl rfl).trans (congrArg some (zRh_set 0 _))
theorem rfp13 {x : Int64} : zput (zRh p S G Q) 256 7 13 (.long x) = some (zRh p S G (uq Q 0 13 x)) := (zput_c zRh_0 rfl rfl rfl).trans (congrArg some (zRh_set 0 _))
theorem rfp14 {x : Int64} : zput (zRh p S G Q) 256 7 14 (.long x) = some (zRh p S G (uq Q 0 14 x)) := (zput_c zRh_0 rfl rfl rfl).trans (congrArg some (zRh_set 0 _))
theorem ra1 {j : Nat} (hj : j < 63) : zald 10 (zRh p S G Q) 257 (nI j) = some (.int (G 1 j)) := zald_ia zRh_1 rfl rfl hj (by decide)
theorem rw1 {j : Nat} {x : Int32} (hj : j < 63) : zast 10 (zRh p S G Q) 257 (nI j) (.int x) = some (zRh p S (ug G 1 j x) Q) := (zast_ia zRh_1 rfl hj (by decide)).trans (congrArg some (zRh_set 1 _))
theorem ra2 {j : Nat} (hj : j < 504) : zald 10 (zRh p S G Q) 258 (nI j) = some (.int (G 2 j)) := zald_ia zRh_2 rfl rfl hj (by decide)
theorem rw2 {j : Nat} {x : Int32} (hj : j < 504) : zast 10 (zRh p S G Q) 258 (nI j) (.int x) = some (zRh p S (ug G 2 j x) Q) := (zast_ia zRh_2 rfl hj (by decide)).trans (congrArg some (zRh_set 2 _))
theorem ra3 {j : Nat} (hj : j < 8) : zald 10 (zRh p S G Q) 259 (nI j) = some (.int (G 3 j)) := zald_ia zRh_3 rfl rfl hj (by decide)
theorem rw3 {j : Nat} {x : Int32} (hj : j < 8) : zast 10 (zRh p S G Q) 259 (nI j) (.int x) = some (zRh p S (ug G 3 j x) Q) := (zast_ia zRh_3 rfl hj (by decide)).trans (congrArg some (zRh_set 3 _))
theorem ra4 {j : Nat} (hj : j < 8) : zald 10 (zRh p S G Q) 260 (nI j) = some (.int (G 4 j)) := zald_ia zRh_4 rfl rfl hj (by decide)
theorem rw4 {j : Nat} {x : Int32} (hj : j < 8) : zast 10 (zRh p S G Q) 260 (nI j) (.int x) = some (zRh p S (ug G 4 j x) Q) := (zast_ia zRh_4 rfl hj (by decide)).trans (congrArg some (zRh_set 4 _))
theorem ra5 {j : Nat} (hj : j < 8) : zald 10 (zRh p S G Q) 261 (nI j) = some (.int (G 5 j)) := zald_ia zRh_5 rfl rfl hj (by decide)
theorem rw5 {j : Nat} {x : Int32} (hj : j < 8) : zast 10 (zRh p S G Q) 261 (nI j) (.int x) = some (zRh p S (ug G 5 j x) Q) := (zast_ia zRh_5 rfl hj (by decide)).trans (congrArg some (zRh_set 5 _))
theorem ra6 {j : Nat} (hj : j < 8) : zald 10 (zRh p S G Q) 262 (nI j) = some (.int (G 6 j)) := zald_ia zRh_6 rfl rfl hj (by decide)
theorem rw6 {j : Nat} {x : Int32} (hj : j < 8) : zast 10 (zRh p S G Q) 262 (nI j) (.int x) = some (zRh p S (ug G 6 j x) Q) := (zast_ia zRh_6 rfl hj (by decide)).trans (congrArg some (zRh_set 6 _))
theorem ra7 {j : Nat} (hj : j < 8) : zald 10 (zRh p S G Q) 263 (nI j) = some (.int (G 7 j)) := zald_ia zRh_7 rfl rfl hj (by decide)
theorem rw7 {j : Nat} {x : Int32} (hj : j < 8) : zast 10 (zRh p S G Q) 263 (nI j) (.int x) = some (zRh p S (ug G 7 j x) Q) := (zast_ia zRh_7 rfl hj (by decide)).trans (congrArg some (zRh_set 7 _))
theorem ra8 {j : Nat} (hj : j < 8) : zald 10 (zRh p S G Q) 264 (nI j) = some (.int (G 8 j)) := zald_ia zRh_8 rfl rfl hj (by decide)
theorem rw8 {j : Nat} {x : Int32} (hj : j < 8) : zast 10 (zRh p S G Q) 264 (nI j) (.int x) = some (zRh p S (ug G 8 j x) Q) := (zast_ia zRh_8 rfl hj (by decide)).trans (congrArg some (zRh_set 8 _))
theorem ra9 {j : Nat} (hj : j < 4) : zald 10 (zRh p S G Q) 265 (nI j) = some (.int (G 9 j)) := zald_ia zRh_9 rfl rfl hj (by decide)
theorem rw9 {j : Nat} {x : Int32} (hj : j < 4) : zast 10 (zRh p S G Q) 265 (nI j) (.int x) = some (zRh p S (ug G 9 j x) Q) := (zast_ia zRh_9 rfl hj (by decide)).trans (congrArg some (zRh_set 9 _))
theorem ra10 {j : Nat} (hj : j < 8) : zald 11 (zRh p S G Q) 266 (nI j) = some (.long (Q 10 j)) := zald_la zRh_10 hj (by decide)
theorem rw10 {j : Nat} {x : Int64} (hj : j < 8) : zast 11 (zRh p S G Q) 266 (nI j) (.long x) = some (zRh p S G (uq Q 10 j x)) := (zast_la zRh_10 hj (by decide)).trans (congrArg some (zRh_set 10 _))
theorem ra11 {j : Nat} (hj : j < 8) : zald 11 (zRh p S G Q) 267 (nI j) = some (.long (Q 11 j)) := zald_la zRh_11 hj (by decide)
theorem rw11 {j : Nat} {x : Int64} (hj : j < 8) : zast 11 (zRh p S G Q) 267 (nI j) (.long x) = some (zRh p S G (uq Q 11 j x)) := (zast_la zRh_11 hj (by decide)).trans (congrArg some (zRh_set 11 _))
theorem ra12 {j : Nat} (hj : j < 8) : zald 11 (zRh p S G Q) 268 (nI j) = some (.long (Q 12 j)) := zald_la zRh_12 hj (by decide)
theorem rw12 {j : Nat} {x : Int64} (hj : j < 8) : zast 11 (zRh p S G Q) 268 (nI j) (.long x) = some (zRh p S G (uq Q 12 j x)) := (zast_la zRh_12 hj (by decide)).trans (congrArg some (zRh_set 12 _))
theorem ra13 {j : Nat} (hj : j < 8) : zald 11 (zRh p S G Q) 269 (nI j) = some (.long (Q 13 j)) := zald_la zRh_13 hj (by decide)
theorem rw13 {j : Nat} {x : Int64} (hj : j < 8) : zast 11 (zRh p S G Q) 269 (nI j) (.long x) = some (zRh p S G (uq Q 13 j x)) := (zast_la zRh_13 hj (by decide)).trans (congrArg some (zRh_set 13 _))
theorem ra14 {j : Nat} (hj : j < 8) : zald 11 (zRh p S G Q) 270 (nI j) = some (.long (Q 14 j)) := zald_la zRh_14 hj (by decide)
theorem rw14 {j : Nat} {x : Int64} (hj : j < 8) : zast 11 (zRh p S G Q) 270 (nI j) (.long x) = some (zRh p S G (uq Q 14 j x)) := (zast_la zRh_14 hj (by decide)).trans (congrArg some (zRh_set 14 _))
theorem ra15 {j : Nat} (hj : j < 8) : zald 11 (zRh p S G Q) 271 (nI j) = some (.long (Q 15 j)) := zald_la zRh_15 hj (by decide)
theorem rw15 {j : Nat} {x : Int64} (hj : j < 8) : zast 11 (zRh p S G Q) 271 (nI j) (.long x) = some (zRh p S G (uq Q 15 j x)) := (zast_la zRh_15 hj (by decide)).trans (congrArg some (zRh_set 15 _))
theorem ra16 {j : Nat} (hj : j < 8) : zald 11 (zRh p S G Q) 272 (nI j) = some (.long (Q 16 j)) := zald_la zRh_16 hj (by decide)
theorem rw16 {j : Nat} {x : Int64} (hj : j < 8) : zast 11 (zRh p S G Q) 272 (nI j) (.long x) = some (zRh p S G (uq Q 16 j x)) := (zast_la zRh_16 hj (by decide)).trans (congrArg some (zRh_set 16 _))
theorem ra17 {j : Nat} (hj : j < 8) : zald 11 (zRh p S G Q) 273 (nI j) = some (.long (Q 17 j)) := zald_la zRh_17 hj (by decide)
theorem rw17 {j : Nat} {x : Int64} (hj : j < 8) : zast 11 (zRh p S G Q) 273 (nI j) (.long x) = some (zRh p S G (uq Q 17 j x)) := (zast_la zRh_17 hj (by decide)).trans (congrArg some (zRh_set 17 _))
theorem ra18 {j : Nat} (hj : j < 8) : zald 11 (zRh p S G Q) 274 (nI j) = some (.long (Q 18 j)) := zald_la zRh_18 hj (by decide)
theorem rw18 {j : Nat} {x : Int64} (hj : j < 8) : zast 11 (zRh p S G Q) 274 (nI j) (.long x) = some (zRh p S G (uq Q 18 j x)) := (zast_la zRh_18 hj (by decide)).trans (congrArg some (zRh_set 18 _))
theorem ra19 {j : Nat} (hj : j < 8) : zald 11 (zRh p S G Q) 275 (nI j) = some (.long (Q 19 j)) := zald_la zRh_19 hj (by decide)
theorem rw19 {j : Nat} {x : Int64} (hj : j < 8) : zast 11 (zRh p S G Q) 275 (nI j) (.long x) = some (zRh p S G (uq Q 19 j x)) := (zast_la zRh_19 hj (by decide)).trans (congrArg some (zRh_set 19 _))
theorem ra20 {j : Nat} (hj : j < 4) : zald 11 (zRh p S G Q) 276 (nI j) = some (.long (Q 20 j)) := zald_la zRh_20 hj (by decide)
theorem rw20 {j : Nat} {x : Int64} (hj : j < 4) : zast 11 (zRh p S G Q) 276 (nI j) (.long x) = some (zRh p S G (uq Q 20 j x)) := (zast_la zRh_20 hj (by decide)).trans (congrArg some (zRh_set 20 _))
theorem ra21 {j : Nat} (hj : j < 26) : zald 10 (zRh p S G Q) 277 (nI j) = some (.int (G 21 j)) := zald_ia zRh_21 rfl rfl hj (by decide)
theorem rw21 {j : Nat} {x : Int32} (hj : j < 26) : zast 10 (zRh p S G Q) 277 (nI j) (.int x) = some (zRh p S (ug G 21 j x) Q) := (zast_ia zRh_21 rfl hj (by decide)).trans (congrArg some (zRh_set 21 _))
theorem ra22 {j : Nat} (hj : j < 26) : zald 10 (zRh p S G Q) 278 (nI j) = some (.int (G 22 j)) := zald_ia zRh_22 rfl rfl hj (by decide)
theorem rw22 {j : Nat} {x : Int32} (hj : j < 26) : zast 10 (zRh p S G Q) 278 (nI j) (.int x) = some (zRh p S (ug G 22 j x) Q) := (zast_ia zRh_22 rfl hj (by decide)).trans (congrArg some (zRh_set 22 _))
theorem ra23 {j : Nat} (hj : j < 48) : zald 10 (zRh p S G Q) 279 (nI j) = some (.int (G 23 j)) := zald_ia zRh_23 rfl rfl hj (by decide)
theorem rw23 {j : Nat} {x : Int32} (hj : j < 48) : zast 10 (zRh p S G Q) 279 (nI j) (.int x) = some (zRh p S (ug G 23 j x) Q) := (zast_ia zRh_23 rfl hj (by decide)).trans (congrArg some (zRh_set 23 _))
theorem ra24 {j : Nat} (hj : j < 64) : zald 10 (zRh p S G Q) 280 (nI j) = some (.int (G 24 j)) := zald_ia zRh_24 rfl rfl hj (by decide)
theorem rw24 {j : Nat} {x : Int32} (hj : j < 64) : zast 10 (zRh p S G Q) 280 (nI j) (.int x) = some (zRh p S (ug G 24 j x) Q) := (zast_ia zRh_24 rfl hj (by decide)).trans (congrArg some (zRh_set 24 _))
theorem ra25 {j : Nat} (hj : j < 64) : zald 10 (zRh p S G Q) 281 (nI j) = some (.int (G 25 j)) := zald_ia zRh_25 rfl rfl hj (by decide)
theorem rw25 {j : Nat} {x : Int32} (hj : j < 64) : zast 10 (zRh p S G Q) 281 (nI j) (.int x) = some (zRh p S (ug G 25 j x) Q) := (zast_ia zRh_25 rfl hj (by decide)).trans (congrArg some (zRh_set 25 _))
theorem ra26 {j : Nat} (hj : j < 64) : zald 10 (zRh p S G Q) 282 (nI j) = some (.int (G 26 j)) := zald_ia zRh_26 rfl rfl hj (by decide)
theorem rw26 {j : Nat} {x : Int32} (hj : j < 64) : zast 10 (zRh p S G Q) 282 (nI j) (.int x) = some (zRh p S (ug G 26 j x) Q) := (zast_ia zRh_26 rfl hj (by decide)).trans (congrArg some (zRh_set 26 _))
theorem ra27 {j : Nat} (hj : j < 64) : zald 10 (zRh p S G Q) 283 (nI j) = some (.int (G 27 j)) := zald_ia zRh_27 rfl rfl hj (by decide)
theorem rw27 {j : Nat} {x : Int32} (hj : j < 64) : zast 10 (zRh p S G Q) 283 (nI j) (.int x) = some (zRh p S (ug G 27 j x) Q) := (zast_ia zRh_27 rfl hj (by decide)).trans (congrArg some (zRh_set 27 _))
theorem ra28 {j : Nat} (hj : j < 64) : zald 10 (zRh p S G Q) 284 (nI j) = some (.int (G 28 j)) := zald_ia zRh_28 rfl rfl hj (by decide)
theorem rw28 {j : Nat} {x : Int32} (hj : j < 64) : zast 10 (zRh p S G Q) 284 (nI j) (.int x) = some (zRh p S (ug G 28 j x) Q) := (zast_ia zRh_28 rfl hj (by decide)).trans (congrArg some (zRh_set 28 _))
theorem ra29 {j : Nat} (hj : j < 64) : zald 10 (zRh p S G Q) 285 (nI j) = some (.int (G 29 j)) := zald_ia zRh_29 rfl rfl hj (by decide)
theorem rw29 {j : Nat} {x : Int32} (hj : j < 64) : zast 10 (zRh p S G Q) 285 (nI j) (.int x) = some (zRh p S (ug G 29 j x) Q) := (zast_ia zRh_29 rfl hj (by decide)).trans (congrArg some (zRh_set 29 _))
theorem zRh_of {h : ZH} (hh : ∀ k, 256 ≤ k → h[k]? = (zRh p S G Q)[k]?) : ∃ p' : ZP, h = zRh p' S G Q ∧ ∀ k, k < 256 → p'.1[k]? = h[k]? := by
  have h6 : h[256]? = some (zRo S Q) := (hh 256 (Nat.le_refl _)).trans zRh_0
  have hl : 256 < h.length := (List.getElem?_eq_some_iff.mp h6).1
  have tl : (h.take 256).length = 256 := by rw [List.length_take]; omega
  refine ⟨⟨h.take 256, tl⟩, ?_, fun k hk => ?_⟩
  · have e : h.drop 256 = zRl S G Q := by
      apply List.ext_getElem?
      intro i
      rw [List.getElem?_drop, hh (256 + i) (by omega), zRh_at]
    show h = h.take 256 ++ zRl S G Q
    rw [← e, List.take_append_drop]
  · show (h.take 256)[k]? = _
    rw [List.getElem?_take, if_pos hk]
end REF
