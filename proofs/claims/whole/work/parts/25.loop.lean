/-! THE LAW'S LOOP, over whatever invariant its 19 calls keep -/
def zhS (l : List Int32) : ZH := zhA ++ (((20, zint l) :: zcls) ++ zmdl)
theorem zint_len (l : List Int32) : (zint l).length = l.length := List.length_map _
theorem zscr {h : ZH} {l : List Int32} {j : Nat} {x : Int32} (h5 : h[5]? = some (20, zint l)) (hj : j < l.length) (hl : l.length < 2 ^ 31) (hx : x = nI j) : zald 10 h 5 x = some (.int (l.getD j 0)) := by
  unfold zald
  rw [h5]
  show (zix x (zint l).length).bind _ = _
  rw [zint_len]
  have : zix x l.length = some j := by
    unfold zix
    rw [hx, if_neg (nI_pos (by omega)), nI_clamp (by omega), if_pos hj]
  rw [this]
  show (zint l)[j]? = _
  unfold zint
  rw [List.getElem?_map, List.getD_eq_getElem?_getD, List.getElem?_eq_getElem hj]
  rfl
theorem lg_cmp_self (v : Int64) : lg_cmp v v = 0 := by
  unfold lg_cmp
  simp
theorem zlaw_pre (l : List Int32) : zcl 14 133 [.ref 5] (zh0 l) = zres 13 133 18 [.ref 5, .ref 6, .ref 256, .int 0] [] (zhS l) := by
  rw [e133, zr_new (idx := 7) (q := (6, 56)) (by decide +kernel) (by decide +kernel)]
  have e0 : zh0 l ++ [((6, 56) : Nat × Nat).1 |> fun c => (c, zdef c)] = zhA ++ ([(20, zint l)] ++ [(6, zdef 6)]) := rfl
  have e1 : (zh0 l).length = 6 := rfl
  rw [e1, g133_3 rfl]
  show zres 13 133 4 [.ref 5, zj, zj, zj] [.ref 6, .ref 6] (zhA ++ ([(20, zint l)] ++ [(6, zdef 6)])) = _
  rw [g133_4 (by decide), zclass]
  show zres 13 133 7 [.ref 5, zj, zj, zj] [.ref 6] (zhA ++ ([(20, zint l)] ++ zcls)) = _
  rw [g133_7 rfl, zr_new (idx := 10) (q := (7, 616)) (by decide +kernel) (by decide +kernel)]
  have e2 : (zhA ++ ([(20, zint l)] ++ zcls)).length = 256 := by
    rw [List.length_append, List.length_append, zclsL, List.length_singleton, show zhA.length = 5 from rfl]
  rw [e2, g133_11 rfl]
  have e3 : (zhA ++ ([(20, zint l)] ++ zcls)) ++ [(7, zdef 7)] = zhA ++ (((20, zint l) :: zcls) ++ [(7, zdef 7)]) := by
    simp only [List.append_assoc, List.cons_append, List.nil_append]
  show zres 13 133 12 [.ref 5, .ref 6, zj, zj] [.ref 256, .ref 256] ((zhA ++ ([(20, zint l)] ++ zcls)) ++ [(7, zdef 7)]) = _
  rw [e3, g133_12 (by decide), zmodel]
  show zres 13 133 15 [.ref 5, .ref 6, zj, zj] [.ref 256] (zhS l) = _
  rw [g133_15 rfl, g133_16, g133_17 rfl]
/-- page: class and reference answer alike, and the invariant is kept -/
def zPr_page (I : ZH → Prop) : Prop := ∀ h, I h → ∀ (x1 x2 : Int32), ∃ (v : Int32) (h1 h2 : ZH), zcl 13 52 [.ref 6, .int x1, .int x2] h = some (some (.int v), h1) ∧ h1[5]? = h[5]? ∧ (h1[256]?).map (fun c => c.1) = some 7 ∧ zcl 13 84 [.ref 256, .int x1, .int x2] h1 = some (some (.int v), h2) ∧ I h2
theorem lc_page {I : ZH → Prop} {l : List Int32} (h56 : ∀ h, I h → h[5]? = some (20, zint l) ∧ (h[6]?).map (fun c => c.1) = some 6) (hp : zPr_page I) {h : ZH} {i : Nat} (hh : I h) (hi : i + 7 ≤ l.length) (hl : l.length < 2 ^ 31) : ∃ h2, I h2 ∧ zres 13 133 124 [.ref 5, .ref 6, .ref 256, .int (nI i)] [] h = zres 13 133 754 [.ref 5, .ref 6, .ref 256, .int (nI i)] [] h2 := by
  obtain ⟨s5, s6⟩ := h56 h hh
  obtain ⟨v, h1, h2, c1, c2, c3, c4, c5⟩ := hp h hh (l.getD (i + 1) 0) (l.getD (i + 2) 0)
  rw [s5] at c2
  have r1 := zscr (x := nI i + 1) s5 (show i + 1 < l.length by omega) hl (nI_add i 1)
  have q1 := zscr (x := nI i + 1) c2 (show i + 1 < l.length by omega) hl (nI_add i 1)
  have r2 := zscr (x := nI i + 2) s5 (show i + 2 < l.length by omega) hl (nI_add i 2)
  have q2 := zscr (x := nI i + 2) c2 (show i + 2 < l.length by omega) hl (nI_add i 2)
  have z0 : zcs [] ≤ 8 := by decide
  have z1 : zcs [.int v] ≤ 8 := Nat.le_of_ble_eq_true rfl
  refine ⟨h2, c5, ?_⟩
  simp only [g133_124, g133_125, g133_126, g133_127, g133_128, g133_129, g133_130, g133_131, g133_132, g133_133, g133_134, g133_135, g133_138, g133_139, g133_140, g133_141, g133_142, g133_143, g133_144, g133_145, g133_146, g133_147, g133_148, g133_149, g133_152, r1, q1, r2, q2, c1, c3, c4, s6, z0, z1, Option.bind_some, Option.toList_some, List.cons_append, List.nil_append, ↓reduceIte]
/-- picture: class and reference answer alike, and the invariant is kept -/
def zPr_picture (I : ZH → Prop) : Prop := ∀ h, I h → ∀ (x1 x2 x3 x4 x5 : Int32), ∃ (v : Int32) (h1 h2 : ZH), zcl 13 53 [.ref 6, .int x1, .int x2, .int x3, .int x4, .int x5] h = some (some (.int v), h1) ∧ h1[5]? = h[5]? ∧ (h1[256]?).map (fun c => c.1) = some 7 ∧ zcl 13 85 [.ref 256, .int x1, .int x2, .int x3, .int x4, .int x5] h1 = some (some (.int v), h2) ∧ I h2
theorem lc_picture {I : ZH → Prop} {l : List Int32} (h56 : ∀ h, I h → h[5]? = some (20, zint l) ∧ (h[6]?).map (fun c => c.1) = some 6) (hp : zPr_picture I) {h : ZH} {i : Nat} (hh : I h) (hi : i + 7 ≤ l.length) (hl : l.length < 2 ^ 31) : ∃ h2, I h2 ∧ zres 13 133 157 [.ref 5, .ref 6, .ref 256, .int (nI i)] [] h = zres 13 133 754 [.ref 5, .ref 6, .ref 256, .int (nI i)] [] h2 := by
  obtain ⟨s5, s6⟩ := h56 h hh
  obtain ⟨v, h1, h2, c1, c2, c3, c4, c5⟩ := hp h hh (l.getD (i + 1) 0) (l.getD (i + 2) 0) (l.getD (i + 3) 0) (l.getD (i + 4) 0) (l.getD (i + 5) 0)
  rw [s5] at c2
  have r1 := zscr (x := nI i + 1) s5 (show i + 1 < l.length by omega) hl (nI_add i 1)
  have q1 := zscr (x := nI i + 1) c2 (show i + 1 < l.length by omega) hl (nI_add i 1)
  have r2 := zscr (x := nI i + 2) s5 (show i + 2 < l.length by omega) hl (nI_add i 2)
  have q2 := zscr (x := nI i + 2) c2 (show i + 2 < l.length by omega) hl (nI_add i 2)
  have r3 := zscr (x := nI i + 3) s5 (show i + 3 < l.length by omega) hl (nI_add i 3)
  have q3 := zscr (x := nI i + 3) c2 (show i + 3 < l.length by omega) hl (nI_add i 3)
  have r4 := zscr (x := nI i + 4) s5 (show i + 4 < l.length by omega) hl (nI_add i 4)
  have q4 := zscr (x := nI i + 4) c2 (show i + 4 < l.length by omega) hl (nI_add i 4)
  have r5 := zscr (x := nI i + 5) s5 (show i + 5 < l.length by omega) hl (nI_add i 5)
  have q5 := zscr (x := nI i + 5) c2 (show i + 5 < l.length by omega) hl (nI_add i 5)
  have z0 : zcs [] ≤ 8 := by decide
  have z1 : zcs [.int v] ≤ 8 := Nat.le_of_ble_eq_true rfl
  refine ⟨h2, c5, ?_⟩
  simp only [g133_157, g133_158, g133_159, g133_160, g133_161, g133_162, g133_163, g133_164, g133_165, g133_166, g133_167, g133_168, g133_169, g133_170, g133_171, g133_172, g133_173, g133_174, g133_175, g133_176, g133_177, g133_178, g133_179, g133_180, g133_181, g133_182, g133_183, g133_186, g133_187, g133_188, g133_189, g133_190, g133_191, g133_192, g133_193, g133_194, g133_195, g133_196, g133_197, g133_198, g133_199, g133_200, g133_201, g133_202, g133_203, g133_204, g133_205, g133_206, g133_207, g133_208, g133_209, g133_210, g133_211, g133_212, g133_215, r1, q1, r2, q2, r3, q3, r4, q4, r5, q5, c1, c3, c4, s6, z0, z1, Option.bind_some, Option.toList_some, List.cons_append, List.nil_append, ↓reduceIte]
/-- change: class and reference answer alike, and the invariant is kept -/
def zPr_change (I : ZH → Prop) : Prop := ∀ h, I h → ∀ (x1 x2 x3 x4 x5 x6 : Int32), ∃ (v : Int32) (h1 h2 : ZH), zcl 13 54 [.ref 6, .int x1, .int x2, .int x3, .int x4, .int x5, .int x6] h = some (some (.int v), h1) ∧ h1[5]? = h[5]? ∧ (h1[256]?).map (fun c => c.1) = some 7 ∧ zcl 13 86 [.ref 256, .int x1, .int x2, .int x3, .int x4, .int x5, .int x6] h1 = some (some (.int v), h2) ∧ I h2
theorem lc_change {I : ZH → Prop} {l : List Int32} (h56 : ∀ h, I h → h[5]? = some (20, zint l) ∧ (h[6]?).map (fun c => c.1) = some 6) (hp : zPr_change I) {h : ZH} {i : Nat} (hh : I h) (hi : i + 7 ≤ l.length) (hl : l.length < 2 ^ 31) : ∃ h2, I h2 ∧ zres 13 133 220 [.ref 5, .ref 6, .ref 256, .int (nI i)] [] h = zres 13 133 754 [.ref 5, .ref 6, .ref 256, .int (nI i)] [] h2 := by
  obtain ⟨s5, s6⟩ := h56 h hh
  obtain ⟨v, h1, h2, c1, c2, c3, c4, c5⟩ := hp h hh (l.getD (i + 1) 0) (l.getD (i + 2) 0) (l.getD (i + 3) 0) (l.getD (i + 4) 0) (l.getD (i + 5) 0) (l.getD (i + 6) 0)
  rw [s5] at c2
  have r1 := zscr (x := nI i + 1) s5 (show i + 1 < l.length by omega) hl (nI_add i 1)
  have q1 := zscr (x := nI i + 1) c2 (show i + 1 < l.length by omega) hl (nI_add i 1)
  have r2 := zscr (x := nI i + 2) s5 (show i + 2 < l.length by omega) hl (nI_add i 2)
  have q2 := zscr (x := nI i + 2) c2 (show i + 2 < l.length by omega) hl (nI_add i 2)
  have r3 := zscr (x := nI i + 3) s5 (show i + 3 < l.length by omega) hl (nI_add i 3)
  have q3 := zscr (x := nI i + 3) c2 (show i + 3 < l.length by omega) hl (nI_add i 3)
  have r4 := zscr (x := nI i + 4) s5 (show i + 4 < l.length by omega) hl (nI_add i 4)
  have q4 := zscr (x := nI i + 4) c2 (show i + 4 < l.length by omega) hl (nI_add i 4)
  have r5 := zscr (x := nI i + 5) s5 (show i + 5 < l.length by omega) hl (nI_add i 5)
  have q5 := zscr (x := nI i + 5) c2 (show i + 5 < l.length by omega) hl (nI_add i 5)
  have r6 := zscr (x := nI i + 6) s5 (show i + 6 < l.length by omega) hl (nI_add i 6)
  have q6 := zscr (x := nI i + 6) c2 (show i + 6 < l.length by omega) hl (nI_add i 6)
  have z0 : zcs [] ≤ 8 := by decide
  have z1 : zcs [.int v] ≤ 8 := Nat.le_of_ble_eq_true rfl
  refine ⟨h2, c5, ?_⟩
  simp only [g133_220, g133_221, g133_222, g133_223, g133_224, g133_225, g133_226, g133_227, g133_228, g133_229, g133_230, g133_231, g133_232, g133_233, g133_234, g133_235, g133_236, g133_237, g133_238, g133_239, g133_240, g133_241, g133_242, g133_243, g133_244, g133_245, g133_246, g133_247, g133_248, g133_250, g133_251, g133_252, g133_255, g133_256, g133_257, g133_258, g133_259, g133_260, g133_261, g133_262, g133_263, g133_264, g133_265, g133_266, g133_267, g133_268, g133_269, g133_270, g133_271, g133_272, g133_273, g133_274, g133_275, g133_276, g133_277, g133_278, g133_279, g133_280, g133_281, g133_282, g133_283, g133_285, g133_286, g133_287, g133_290, r1, q1, r2, q2, r3, q3, r4, q4, r5, q5, r6, q6, c1, c3, c4, s6, z0, z1, Option.bind_some, Option.toList_some, List.cons_append, List.nil_append, ↓reduceIte]
/-- swap: class and reference answer alike, and the invariant is kept -/
def zPr_swap (I : ZH → Prop) : Prop := ∀ h, I h → ∀ (x1 x2 : Int32), ∃ (v : Int32) (h1 h2 : ZH), zcl 13 55 [.ref 6, .int x1, .int x2] h = some (some (.int v), h1) ∧ h1[5]? = h[5]? ∧ (h1[256]?).map (fun c => c.1) = some 7 ∧ zcl 13 87 [.ref 256, .int x1, .int x2] h1 = some (some (.int v), h2) ∧ I h2
theorem lc_swap {I : ZH → Prop} {l : List Int32} (h56 : ∀ h, I h → h[5]? = some (20, zint l) ∧ (h[6]?).map (fun c => c.1) = some 6) (hp : zPr_swap I) {h : ZH} {i : Nat} (hh : I h) (hi : i + 7 ≤ l.length) (hl : l.length < 2 ^ 31) : ∃ h2, I h2 ∧ zres 13 133 295 [.ref 5, .ref 6, .ref 256, .int (nI i)] [] h = zres 13 133 754 [.ref 5, .ref 6, .ref 256, .int (nI i)] [] h2 := by
  obtain ⟨s5, s6⟩ := h56 h hh
  obtain ⟨v, h1, h2, c1, c2, c3, c4, c5⟩ := hp h hh (l.getD (i + 1) 0) (l.getD (i + 2) 0)
  rw [s5] at c2
  have r1 := zscr (x := nI i + 1) s5 (show i + 1 < l.length by omega) hl (nI_add i 1)
  have q1 := zscr (x := nI i + 1) c2 (show i + 1 < l.length by omega) hl (nI_add i 1)
  have r2 := zscr (x := nI i + 2) s5 (show i + 2 < l.length by omega) hl (nI_add i 2)
  have q2 := zscr (x := nI i + 2) c2 (show i + 2 < l.length by omega) hl (nI_add i 2)
  have z0 : zcs [] ≤ 8 := by decide
  have z1 : zcs [.int v] ≤ 8 := Nat.le_of_ble_eq_true rfl
  refine ⟨h2, c5, ?_⟩
  simp only [g133_295, g133_296, g133_297, g133_298, g133_299, g133_300, g133_301, g133_302, g133_303, g133_304, g133_305, g133_306, g133_309, g133_310, g133_311, g133_312, g133_313, g133_314, g133_315, g133_316, g133_317, g133_318, g133_319, g133_320, g133_323, r1, q1, r2, q2, c1, c3, c4, s6, z0, z1, Option.bind_some, Option.toList_some, List.cons_append, List.nil_append, ↓reduceIte]
/-- drop: class and reference answer alike, and the invariant is kept -/
def zPr_drop (I : ZH → Prop) : Prop := ∀ h, I h → ∀ (x1 : Int32), ∃ (v : Int32) (h1 h2 : ZH), zcl 13 56 [.ref 6, .int x1] h = some (some (.int v), h1) ∧ h1[5]? = h[5]? ∧ (h1[256]?).map (fun c => c.1) = some 7 ∧ zcl 13 88 [.ref 256, .int x1] h1 = some (some (.int v), h2) ∧ I h2
theorem lc_drop {I : ZH → Prop} {l : List Int32} (h56 : ∀ h, I h → h[5]? = some (20, zint l) ∧ (h[6]?).map (fun c => c.1) = some 6) (hp : zPr_drop I) {h : ZH} {i : Nat} (hh : I h) (hi : i + 7 ≤ l.length) (hl : l.length < 2 ^ 31) : ∃ h2, I h2 ∧ zres 13 133 328 [.ref 5, .ref 6, .ref 256, .int (nI i)] [] h = zres 13 133 754 [.ref 5, .ref 6, .ref 256, .int (nI i)] [] h2 := by
  obtain ⟨s5, s6⟩ := h56 h hh
  obtain ⟨v, h1, h2, c1, c2, c3, c4, c5⟩ := hp h hh (l.getD (i + 1) 0)
  rw [s5] at c2
  have r1 := zscr (x := nI i + 1) s5 (show i + 1 < l.length by omega) hl (nI_add i 1)
  have q1 := zscr (x := nI i + 1) c2 (show i + 1 < l.length by omega) hl (nI_add i 1)
  have z0 : zcs [] ≤ 8 := by decide
  have z1 : zcs [.int v] ≤ 8 := Nat.le_of_ble_eq_true rfl
  refine ⟨h2, c5, ?_⟩
  simp only [g133_328, g133_329, g133_330, g133_331, g133_332, g133_333, g133_334, g133_337, g133_338, g133_339, g133_340, g133_341, g133_342, g133_343, g133_346, r1, q1, c1, c3, c4, s6, z0, z1, Option.bind_some, Option.toList_some, List.cons_append, List.nil_append, ↓reduceIte]
/-- about: class and reference answer alike, and the invariant is kept -/
def zPr_about (I : ZH → Prop) : Prop := ∀ h, I h → ∀ (x1 : Int32), ∃ (v : Int32) (h1 h2 : ZH), zcl 13 57 [.ref 6, .int x1] h = some (some (.int v), h1) ∧ h1[5]? = h[5]? ∧ (h1[256]?).map (fun c => c.1) = some 7 ∧ zcl 13 89 [.ref 256, .int x1] h1 = some (some (.int v), h2) ∧ I h2
theorem lc_about {I : ZH → Prop} {l : List Int32} (h56 : ∀ h, I h → h[5]? = some (20, zint l) ∧ (h[6]?).map (fun c => c.1) = some 6) (hp : zPr_about I) {h : ZH} {i : Nat} (hh : I h) (hi : i + 7 ≤ l.length) (hl : l.length < 2 ^ 31) : ∃ h2, I h2 ∧ zres 13 133 351 [.ref 5, .ref 6, .ref 256, .int (nI i)] [] h = zres 13 133 754 [.ref 5, .ref 6, .ref 256, .int (nI i)] [] h2 := by
  obtain ⟨s5, s6⟩ := h56 h hh
  obtain ⟨v, h1, h2, c1, c2, c3, c4, c5⟩ := hp h hh (l.getD (i + 1) 0)
  rw [s5] at c2
  have r1 := zscr (x := nI i + 1) s5 (show i + 1 < l.length by omega) hl (nI_add i 1)
  have q1 := zscr (x := nI i + 1) c2 (show i + 1 < l.length by omega) hl (nI_add i 1)
  have z0 : zcs [] ≤ 8 := by decide
  have z1 : zcs [.int v] ≤ 8 := Nat.le_of_ble_eq_true rfl
  refine ⟨h2, c5, ?_⟩
  simp only [g133_351, g133_352, g133_353, g133_354, g133_355, g133_356, g133_357, g133_360, g133_361, g133_362, g133_363, g133_364, g133_365, g133_366, g133_369, r1, q1, c1, c3, c4, s6, z0, z1, Option.bind_some, Option.toList_some, List.cons_append, List.nil_append, ↓reduceIte]
/-- trees: class and reference answer alike, and the invariant is kept -/
def zPr_trees (I : ZH → Prop) : Prop := ∀ h, I h → ∀ (x1 : Int32), ∃ (v : Int32) (h1 h2 : ZH), zcl 13 58 [.ref 6, .int x1] h = some (some (.int v), h1) ∧ h1[5]? = h[5]? ∧ (h1[256]?).map (fun c => c.1) = some 7 ∧ zcl 13 97 [.ref 256, .int x1] h1 = some (some (.int v), h2) ∧ I h2
theorem lc_trees {I : ZH → Prop} {l : List Int32} (h56 : ∀ h, I h → h[5]? = some (20, zint l) ∧ (h[6]?).map (fun c => c.1) = some 6) (hp : zPr_trees I) {h : ZH} {i : Nat} (hh : I h) (hi : i + 7 ≤ l.length) (hl : l.length < 2 ^ 31) : ∃ h2, I h2 ∧ zres 13 133 374 [.ref 5, .ref 6, .ref 256, .int (nI i)] [] h = zres 13 133 754 [.ref 5, .ref 6, .ref 256, .int (nI i)] [] h2 := by
  obtain ⟨s5, s6⟩ := h56 h hh
  obtain ⟨v, h1, h2, c1, c2, c3, c4, c5⟩ := hp h hh (l.getD (i + 1) 0)
  rw [s5] at c2
  have r1 := zscr (x := nI i + 1) s5 (show i + 1 < l.length by omega) hl (nI_add i 1)
  have q1 := zscr (x := nI i + 1) c2 (show i + 1 < l.length by omega) hl (nI_add i 1)
  have z0 : zcs [] ≤ 8 := by decide
  have z1 : zcs [.int v] ≤ 8 := Nat.le_of_ble_eq_true rfl
  refine ⟨h2, c5, ?_⟩
  simp only [g133_374, g133_375, g133_376, g133_377, g133_378, g133_379, g133_380, g133_383, g133_384, g133_385, g133_386, g133_387, g133_388, g133_389, g133_392, r1, q1, c1, c3, c4, s6, z0, z1, Option.bind_some, Option.toList_some, List.cons_append, List.nil_append, ↓reduceIte]
/-- tree: class and reference answer alike, and the invariant is kept -/
def zPr_tree (I : ZH → Prop) : Prop := ∀ h, I h → ∀ (x1 x2 x3 : Int32), ∃ (v : Int32) (h1 h2 : ZH), zcl 13 59 [.ref 6, .int x1, .int x2, .int x3] h = some (some (.int v), h1) ∧ h1[5]? = h[5]? ∧ (h1[256]?).map (fun c => c.1) = some 7 ∧ zcl 13 99 [.ref 256, .int x1, .int x2, .int x3] h1 = some (some (.int v), h2) ∧ I h2
theorem lc_tree {I : ZH → Prop} {l : List Int32} (h56 : ∀ h, I h → h[5]? = some (20, zint l) ∧ (h[6]?).map (fun c => c.1) = some 6) (hp : zPr_tree I) {h : ZH} {i : Nat} (hh : I h) (hi : i + 7 ≤ l.length) (hl : l.length < 2 ^ 31) : ∃ h2, I h2 ∧ zres 13 133 397 [.ref 5, .ref 6, .ref 256, .int (nI i)] [] h = zres 13 133 754 [.ref 5, .ref 6, .ref 256, .int (nI i)] [] h2 := by
  obtain ⟨s5, s6⟩ := h56 h hh
  obtain ⟨v, h1, h2, c1, c2, c3, c4, c5⟩ := hp h hh (l.getD (i + 1) 0) (l.getD (i + 2) 0) (l.getD (i + 3) 0)
  rw [s5] at c2
  have r1 := zscr (x := nI i + 1) s5 (show i + 1 < l.length by omega) hl (nI_add i 1)
  have q1 := zscr (x := nI i + 1) c2 (show i + 1 < l.length by omega) hl (nI_add i 1)
  have r2 := zscr (x := nI i + 2) s5 (show i + 2 < l.length by omega) hl (nI_add i 2)
  have q2 := zscr (x := nI i + 2) c2 (show i + 2 < l.length by omega) hl (nI_add i 2)
  have r3 := zscr (x := nI i + 3) s5 (show i + 3 < l.length by omega) hl (nI_add i 3)
  have q3 := zscr (x := nI i + 3) c2 (show i + 3 < l.length by omega) hl (nI_add i 3)
  have z0 : zcs [] ≤ 8 := by decide
  have z1 : zcs [.int v] ≤ 8 := Nat.le_of_ble_eq_true rfl
  refine ⟨h2, c5, ?_⟩
  simp only [g133_397, g133_398, g133_399, g133_400, g133_401, g133_402, g133_403, g133_404, g133_405, g133_406, g133_407, g133_408, g133_409, g133_410, g133_411, g133_412, g133_413, g133_416, g133_417, g133_418, g133_419, g133_420, g133_421, g133_422, g133_423, g133_424, g133_425, g133_426, g133_427, g133_428, g133_429, g133_430, g133_431, g133_432, g133_435, r1, q1, r2, q2, r3, q3, c1, c3, c4, s6, z0, z1, Option.bind_some, Option.toList_some, List.cons_append, List.nil_append, ↓reduceIte]
/-- shape: class and reference answer alike, and the invariant is kept -/
def zPr_shape (I : ZH → Prop) : Prop := ∀ h, I h → ∀ (x1 x2 x3 x4 : Int32), ∃ (v : Int64) (h1 h2 : ZH), zcl 13 60 [.ref 6, .int x1, .int x2, .int x3, .int x4] h = some (some (.long v), h1) ∧ h1[5]? = h[5]? ∧ (h1[256]?).map (fun c => c.1) = some 7 ∧ zcl 13 111 [.ref 256, .int x1, .int x2, .int x3, .int x4] h1 = some (some (.long v), h2) ∧ I h2
theorem lc_shape {I : ZH → Prop} {l : List Int32} (h56 : ∀ h, I h → h[5]? = some (20, zint l) ∧ (h[6]?).map (fun c => c.1) = some 6) (hp : zPr_shape I) {h : ZH} {i : Nat} (hh : I h) (hi : i + 7 ≤ l.length) (hl : l.length < 2 ^ 31) : ∃ h2, I h2 ∧ zres 13 133 440 [.ref 5, .ref 6, .ref 256, .int (nI i)] [] h = zres 13 133 754 [.ref 5, .ref 6, .ref 256, .int (nI i)] [] h2 := by
  obtain ⟨s5, s6⟩ := h56 h hh
  obtain ⟨v, h1, h2, c1, c2, c3, c4, c5⟩ := hp h hh (l.getD (i + 1) 0) (l.getD (i + 2) 0) (l.getD (i + 3) 0) (l.getD (i + 4) 0)
  rw [s5] at c2
  have r1 := zscr (x := nI i + 1) s5 (show i + 1 < l.length by omega) hl (nI_add i 1)
  have q1 := zscr (x := nI i + 1) c2 (show i + 1 < l.length by omega) hl (nI_add i 1)
  have r2 := zscr (x := nI i + 2) s5 (show i + 2 < l.length by omega) hl (nI_add i 2)
  have q2 := zscr (x := nI i + 2) c2 (show i + 2 < l.length by omega) hl (nI_add i 2)
  have r3 := zscr (x := nI i + 3) s5 (show i + 3 < l.length by omega) hl (nI_add i 3)
  have q3 := zscr (x := nI i + 3) c2 (show i + 3 < l.length by omega) hl (nI_add i 3)
  have r4 := zscr (x := nI i + 4) s5 (show i + 4 < l.length by omega) hl (nI_add i 4)
  have q4 := zscr (x := nI i + 4) c2 (show i + 4 < l.length by omega) hl (nI_add i 4)
  have z0 : zcs [] ≤ 8 := by decide
  have z1 : zcs [.long v] ≤ 8 := Nat.le_of_ble_eq_true rfl
  refine ⟨h2, c5, ?_⟩
  simp only [g133_440, g133_441, g133_442, g133_443, g133_444, g133_445, g133_446, g133_447, g133_448, g133_449, g133_450, g133_451, g133_452, g133_453, g133_454, g133_455, g133_456, g133_457, g133_458, g133_459, g133_460, g133_461, g133_464, g133_465, g133_466, g133_467, g133_468, g133_469, g133_470, g133_471, g133_472, g133_473, g133_474, g133_475, g133_476, g133_477, g133_478, g133_479, g133_480, g133_481, g133_482, g133_483, g133_484, g133_485, g133_488, g133_489, r1, q1, r2, q2, r3, q3, r4, q4, c1, c3, c4, s6, z0, z1, Option.bind_some, Option.toList_some, List.cons_append, List.nil_append, lg_cmp_self, ↓reduceIte]
/-- side: class and reference answer alike, and the invariant is kept -/
def zPr_side (I : ZH → Prop) : Prop := ∀ h, I h → ∀ (x1 x2 x3 x4 x5 : Int32), ∃ (v : Int32) (h1 h2 : ZH), zcl 13 61 [.ref 6, .int x1, .int x2, .int x3, .int x4, .int x5] h = some (some (.int v), h1) ∧ h1[5]? = h[5]? ∧ (h1[256]?).map (fun c => c.1) = some 7 ∧ zcl 13 113 [.ref 256, .int x1, .int x2, .int x3, .int x4, .int x5] h1 = some (some (.int v), h2) ∧ I h2
theorem lc_side {I : ZH → Prop} {l : List Int32} (h56 : ∀ h, I h → h[5]? = some (20, zint l) ∧ (h[6]?).map (fun c => c.1) = some 6) (hp : zPr_side I) {h : ZH} {i : Nat} (hh : I h) (hi : i + 7 ≤ l.length) (hl : l.length < 2 ^ 31) : ∃ h2, I h2 ∧ zres 13 133 494 [.ref 5, .ref 6, .ref 256, .int (nI i)] [] h = zres 13 133 754 [.ref 5, .ref 6, .ref 256, .int (nI i)] [] h2 := by
  obtain ⟨s5, s6⟩ := h56 h hh
  obtain ⟨v, h1, h2, c1, c2, c3, c4, c5⟩ := hp h hh (l.getD (i + 1) 0) (l.getD (i + 2) 0) (l.getD (i + 3) 0) (l.getD (i + 4) 0) (l.getD (i + 5) 0)
  rw [s5] at c2
  have r1 := zscr (x := nI i + 1) s5 (show i + 1 < l.length by omega) hl (nI_add i 1)
  have q1 := zscr (x := nI i + 1) c2 (show i + 1 < l.length by omega) hl (nI_add i 1)
  have r2 := zscr (x := nI i + 2) s5 (show i + 2 < l.length by omega) hl (nI_add i 2)
  have q2 := zscr (x := nI i + 2) c2 (show i + 2 < l.length by omega) hl (nI_add i 2)
  have r3 := zscr (x := nI i + 3) s5 (show i + 3 < l.length by omega) hl (nI_add i 3)
  have q3 := zscr (x := nI i + 3) c2 (show i + 3 < l.length by omega) hl (nI_add i 3)
  have r4 := zscr (x := nI i + 4) s5 (show i + 4 < l.length by omega) hl (nI_add i 4)
  have q4 := zscr (x := nI i + 4) c2 (show i + 4 < l.length by omega) hl (nI_add i 4)
  have r5 := zscr (x := nI i + 5) s5 (show i + 5 < l.length by omega) hl (nI_add i 5)
  have q5 := zscr (x := nI i + 5) c2 (show i + 5 < l.length by omega) hl (nI_add i 5)
  have z0 : zcs [] ≤ 8 := by decide
  have z1 : zcs [.int v] ≤ 8 := Nat.le_of_ble_eq_true rfl
  refine ⟨h2, c5, ?_⟩
  simp only [g133_494, g133_495, g133_496, g133_497, g133_498, g133_499, g133_500, g133_501, g133_502, g133_503, g133_504, g133_505, g133_506, g133_507, g133_508, g133_509, g133_510, g133_511, g133_512, g133_513, g133_514, g133_515, g133_516, g133_517, g133_518, g133_519, g133_520, g133_523, g133_524, g133_525, g133_526, g133_527, g133_528, g133_529, g133_530, g133_531, g133_532, g133_533, g133_534, g133_535, g133_536, g133_537, g133_538, g133_539, g133_540, g133_541, g133_542, g133_543, g133_544, g133_545, g133_546, g133_547, g133_548, g133_549, g133_552, r1, q1, r2, q2, r3, q3, r4, q4, r5, q5, c1, c3, c4, s6, z0, z1, Option.bind_some, Option.toList_some, List.cons_append, List.nil_append, ↓reduceIte]
/-- cost: class and reference answer alike, and the invariant is kept -/
def zPr_cost (I : ZH → Prop) : Prop := ∀ h, I h → ∀ (x1 x2 x3 : Int32), ∃ (v : Int32) (h1 h2 : ZH), zcl 13 62 [.ref 6, .int x1, .int x2, .int x3] h = some (some (.int v), h1) ∧ h1[5]? = h[5]? ∧ (h1[256]?).map (fun c => c.1) = some 7 ∧ zcl 13 115 [.ref 256, .int x1, .int x2, .int x3] h1 = some (some (.int v), h2) ∧ I h2
theorem lc_cost {I : ZH → Prop} {l : List Int32} (h56 : ∀ h, I h → h[5]? = some (20, zint l) ∧ (h[6]?).map (fun c => c.1) = some 6) (hp : zPr_cost I) {h : ZH} {i : Nat} (hh : I h) (hi : i + 7 ≤ l.length) (hl : l.length < 2 ^ 31) : ∃ h2, I h2 ∧ zres 13 133 557 [.ref 5, .ref 6, .ref 256, .int (nI i)] [] h = zres 13 133 754 [.ref 5, .ref 6, .ref 256, .int (nI i)] [] h2 := by
  obtain ⟨s5, s6⟩ := h56 h hh
  obtain ⟨v, h1, h2, c1, c2, c3, c4, c5⟩ := hp h hh (l.getD (i + 1) 0) (l.getD (i + 2) 0) (l.getD (i + 3) 0)
  rw [s5] at c2
  have r1 := zscr (x := nI i + 1) s5 (show i + 1 < l.length by omega) hl (nI_add i 1)
  have q1 := zscr (x := nI i + 1) c2 (show i + 1 < l.length by omega) hl (nI_add i 1)
  have r2 := zscr (x := nI i + 2) s5 (show i + 2 < l.length by omega) hl (nI_add i 2)
  have q2 := zscr (x := nI i + 2) c2 (show i + 2 < l.length by omega) hl (nI_add i 2)
  have r3 := zscr (x := nI i + 3) s5 (show i + 3 < l.length by omega) hl (nI_add i 3)
  have q3 := zscr (x := nI i + 3) c2 (show i + 3 < l.length by omega) hl (nI_add i 3)
  have z0 : zcs [] ≤ 8 := by decide
  have z1 : zcs [.int v] ≤ 8 := Nat.le_of_ble_eq_true rfl
  refine ⟨h2, c5, ?_⟩
  simp only [g133_557, g133_558, g133_559, g133_560, g133_561, g133_562, g133_563, g133_564, g133_565, g133_566, g133_567, g133_568, g133_569, g133_570, g133_571, g133_572, g133_573, g133_576, g133_577, g133_578, g133_579, g133_580, g133_581, g133_582, g133_583, g133_584, g133_585, g133_586, g133_587, g133_588, g133_589, g133_590, g133_591, g133_592, g133_595, r1, q1, r2, q2, r3, q3, c1, c3, c4, s6, z0, z1, Option.bind_some, Option.toList_some, List.cons_append, List.nil_append, ↓reduceIte]
/-- best: class and reference answer alike, and the invariant is kept -/
def zPr_best (I : ZH → Prop) : Prop := ∀ h, I h → ∀ (x1 x2 : Int32), ∃ (v : Int32) (h1 h2 : ZH), zcl 13 63 [.ref 6, .int x1, .int x2] h = some (some (.int v), h1) ∧ h1[5]? = h[5]? ∧ (h1[256]?).map (fun c => c.1) = some 7 ∧ zcl 13 117 [.ref 256, .int x1, .int x2] h1 = some (some (.int v), h2) ∧ I h2
theorem lc_best {I : ZH → Prop} {l : List Int32} (h56 : ∀ h, I h → h[5]? = some (20, zint l) ∧ (h[6]?).map (fun c => c.1) = some 6) (hp : zPr_best I) {h : ZH} {i : Nat} (hh : I h) (hi : i + 7 ≤ l.length) (hl : l.length < 2 ^ 31) : ∃ h2, I h2 ∧ zres 13 133 600 [.ref 5, .ref 6, .ref 256, .int (nI i)] [] h = zres 13 133 754 [.ref 5, .ref 6, .ref 256, .int (nI i)] [] h2 := by
  obtain ⟨s5, s6⟩ := h56 h hh
  obtain ⟨v, h1, h2, c1, c2, c3, c4, c5⟩ := hp h hh (l.getD (i + 1) 0) (l.getD (i + 2) 0)
  rw [s5] at c2
  have r1 := zscr (x := nI i + 1) s5 (show i + 1 < l.length by omega) hl (nI_add i 1)
  have q1 := zscr (x := nI i + 1) c2 (show i + 1 < l.length by omega) hl (nI_add i 1)
  have r2 := zscr (x := nI i + 2) s5 (show i + 2 < l.length by omega) hl (nI_add i 2)
  have q2 := zscr (x := nI i + 2) c2 (show i + 2 < l.length by omega) hl (nI_add i 2)
  have z0 : zcs [] ≤ 8 := by decide
  have z1 : zcs [.int v] ≤ 8 := Nat.le_of_ble_eq_true rfl
  refine ⟨h2, c5, ?_⟩
  simp only [g133_600, g133_601, g133_602, g133_603, g133_604, g133_605, g133_606, g133_607, g133_608, g133_609, g133_610, g133_611, g133_614, g133_615, g133_616, g133_617, g133_618, g133_619, g133_620, g133_621, g133_622, g133_623, g133_624, g133_625, g133_628, r1, q1, r2, q2, c1, c3, c4, s6, z0, z1, Option.bind_some, Option.toList_some, List.cons_append, List.nil_append, ↓reduceIte]
/-- book: class and reference answer alike, and the invariant is kept -/
def zPr_book (I : ZH → Prop) : Prop := ∀ h, I h → ∀ (_ : Unit), ∃ (v : Int32) (h1 h2 : ZH), zcl 13 64 [.ref 6] h = some (some (.int v), h1) ∧ h1[5]? = h[5]? ∧ (h1[256]?).map (fun c => c.1) = some 7 ∧ zcl 13 125 [.ref 256] h1 = some (some (.int v), h2) ∧ I h2
theorem lc_book {I : ZH → Prop} {l : List Int32} (h56 : ∀ h, I h → h[5]? = some (20, zint l) ∧ (h[6]?).map (fun c => c.1) = some 6) (hp : zPr_book I) {h : ZH} {i : Nat} (hh : I h) (hi : i + 7 ≤ l.length) (hl : l.length < 2 ^ 31) : ∃ h2, I h2 ∧ zres 13 133 633 [.ref 5, .ref 6, .ref 256, .int (nI i)] [] h = zres 13 133 754 [.ref 5, .ref 6, .ref 256, .int (nI i)] [] h2 := by
  obtain ⟨s5, s6⟩ := h56 h hh
  obtain ⟨v, h1, h2, c1, c2, c3, c4, c5⟩ := hp h hh ()
  rw [s5] at c2
  have z0 : zcs [] ≤ 8 := by decide
  have z1 : zcs [.int v] ≤ 8 := Nat.le_of_ble_eq_true rfl
  refine ⟨h2, c5, ?_⟩
  simp only [g133_633, g133_634, g133_637, g133_638, g133_641, c1, c3, c4, s6, z0, z1, Option.bind_some, Option.toList_some, List.cons_append, List.nil_append, ↓reduceIte]
/-- pages: class and reference answer alike, and the invariant is kept -/
def zPr_pages (I : ZH → Prop) : Prop := ∀ h, I h → ∀ (_ : Unit), ∃ (v : Int32) (h1 h2 : ZH), zcl 13 65 [.ref 6] h = some (some (.int v), h1) ∧ h1[5]? = h[5]? ∧ (h1[256]?).map (fun c => c.1) = some 7 ∧ zcl 13 126 [.ref 256] h1 = some (some (.int v), h2) ∧ I h2
theorem lc_pages {I : ZH → Prop} {l : List Int32} (h56 : ∀ h, I h → h[5]? = some (20, zint l) ∧ (h[6]?).map (fun c => c.1) = some 6) (hp : zPr_pages I) {h : ZH} {i : Nat} (hh : I h) (hi : i + 7 ≤ l.length) (hl : l.length < 2 ^ 31) : ∃ h2, I h2 ∧ zres 13 133 646 [.ref 5, .ref 6, .ref 256, .int (nI i)] [] h = zres 13 133 754 [.ref 5, .ref 6, .ref 256, .int (nI i)] [] h2 := by
  obtain ⟨s5, s6⟩ := h56 h hh
  obtain ⟨v, h1, h2, c1, c2, c3, c4, c5⟩ := hp h hh ()
  rw [s5] at c2
  have z0 : zcs [] ≤ 8 := by decide
  have z1 : zcs [.int v] ≤ 8 := Nat.le_of_ble_eq_true rfl
  refine ⟨h2, c5, ?_⟩
  simp only [g133_646, g133_647, g133_650, g133_651, g133_654, c1, c3, c4, s6, z0, z1, Option.bind_some, Option.toList_some, List.cons_append, List.nil_append, ↓reduceIte]
/-- leaf: class and reference answer alike, and the invariant is kept -/
def zPr_leaf (I : ZH → Prop) : Prop := ∀ h, I h → ∀ (x1 x2 : Int32), ∃ (v : Int32) (h1 h2 : ZH), zcl 13 66 [.ref 6, .int x1, .int x2] h = some (some (.int v), h1) ∧ h1[5]? = h[5]? ∧ (h1[256]?).map (fun c => c.1) = some 7 ∧ zcl 13 127 [.ref 256, .int x1, .int x2] h1 = some (some (.int v), h2) ∧ I h2
theorem lc_leaf {I : ZH → Prop} {l : List Int32} (h56 : ∀ h, I h → h[5]? = some (20, zint l) ∧ (h[6]?).map (fun c => c.1) = some 6) (hp : zPr_leaf I) {h : ZH} {i : Nat} (hh : I h) (hi : i + 7 ≤ l.length) (hl : l.length < 2 ^ 31) : ∃ h2, I h2 ∧ zres 13 133 659 [.ref 5, .ref 6, .ref 256, .int (nI i)] [] h = zres 13 133 754 [.ref 5, .ref 6, .ref 256, .int (nI i)] [] h2 := by
  obtain ⟨s5, s6⟩ := h56 h hh
  obtain ⟨v, h1, h2, c1, c2, c3, c4, c5⟩ := hp h hh (l.getD (i + 1) 0) (l.getD (i + 2) 0)
  rw [s5] at c2
  have r1 := zscr (x := nI i + 1) s5 (show i + 1 < l.length by omega) hl (nI_add i 1)
  have q1 := zscr (x := nI i + 1) c2 (show i + 1 < l.length by omega) hl (nI_add i 1)
  have r2 := zscr (x := nI i + 2) s5 (show i + 2 < l.length by omega) hl (nI_add i 2)
  have q2 := zscr (x := nI i + 2) c2 (show i + 2 < l.length by omega) hl (nI_add i 2)
  have z0 : zcs [] ≤ 8 := by decide
  have z1 : zcs [.int v] ≤ 8 := Nat.le_of_ble_eq_true rfl
  refine ⟨h2, c5, ?_⟩
  simp only [g133_659, g133_660, g133_661, g133_662, g133_663, g133_664, g133_665, g133_666, g133_667, g133_668, g133_669, g133_670, g133_673, g133_674, g133_675, g133_676, g133_677, g133_678, g133_679, g133_680, g133_681, g133_682, g133_683, g133_684, g133_687, r1, q1, r2, q2, c1, c3, c4, s6, z0, z1, Option.bind_some, Option.toList_some, List.cons_append, List.nil_append, ↓reduceIte]
/-- pageOf: class and reference answer alike, and the invariant is kept -/
def zPr_pageOf (I : ZH → Prop) : Prop := ∀ h, I h → ∀ (x1 : Int32), ∃ (v : Int32) (h1 h2 : ZH), zcl 13 67 [.ref 6, .int x1] h = some (some (.int v), h1) ∧ h1[5]? = h[5]? ∧ (h1[256]?).map (fun c => c.1) = some 7 ∧ zcl 13 128 [.ref 256, .int x1] h1 = some (some (.int v), h2) ∧ I h2
theorem lc_pageOf {I : ZH → Prop} {l : List Int32} (h56 : ∀ h, I h → h[5]? = some (20, zint l) ∧ (h[6]?).map (fun c => c.1) = some 6) (hp : zPr_pageOf I) {h : ZH} {i : Nat} (hh : I h) (hi : i + 7 ≤ l.length) (hl : l.length < 2 ^ 31) : ∃ h2, I h2 ∧ zres 13 133 692 [.ref 5, .ref 6, .ref 256, .int (nI i)] [] h = zres 13 133 754 [.ref 5, .ref 6, .ref 256, .int (nI i)] [] h2 := by
  obtain ⟨s5, s6⟩ := h56 h hh
  obtain ⟨v, h1, h2, c1, c2, c3, c4, c5⟩ := hp h hh (l.getD (i + 1) 0)
  rw [s5] at c2
  have r1 := zscr (x := nI i + 1) s5 (show i + 1 < l.length by omega) hl (nI_add i 1)
  have q1 := zscr (x := nI i + 1) c2 (show i + 1 < l.length by omega) hl (nI_add i 1)
  have z0 : zcs [] ≤ 8 := by decide
  have z1 : zcs [.int v] ≤ 8 := Nat.le_of_ble_eq_true rfl
  refine ⟨h2, c5, ?_⟩
  simp only [g133_692, g133_693, g133_694, g133_695, g133_696, g133_697, g133_698, g133_701, g133_702, g133_703, g133_704, g133_705, g133_706, g133_707, g133_710, r1, q1, c1, c3, c4, s6, z0, z1, Option.bind_some, Option.toList_some, List.cons_append, List.nil_append, ↓reduceIte]
/-- books: class and reference answer alike, and the invariant is kept -/
def zPr_books (I : ZH → Prop) : Prop := ∀ h, I h → ∀ (_ : Unit), ∃ (v : Int32) (h1 h2 : ZH), zcl 13 68 [.ref 6] h = some (some (.int v), h1) ∧ h1[5]? = h[5]? ∧ (h1[256]?).map (fun c => c.1) = some 7 ∧ zcl 13 129 [.ref 256] h1 = some (some (.int v), h2) ∧ I h2
theorem lc_books {I : ZH → Prop} {l : List Int32} (h56 : ∀ h, I h → h[5]? = some (20, zint l) ∧ (h[6]?).map (fun c => c.1) = some 6) (hp : zPr_books I) {h : ZH} {i : Nat} (hh : I h) (hi : i + 7 ≤ l.length) (hl : l.length < 2 ^ 31) : ∃ h2, I h2 ∧ zres 13 133 715 [.ref 5, .ref 6, .ref 256, .int (nI i)] [] h = zres 13 133 754 [.ref 5, .ref 6, .ref 256, .int (nI i)] [] h2 := by
  obtain ⟨s5, s6⟩ := h56 h hh
  obtain ⟨v, h1, h2, c1, c2, c3, c4, c5⟩ := hp h hh ()
  rw [s5] at c2
  have z0 : zcs [] ≤ 8 := by decide
  have z1 : zcs [.int v] ≤ 8 := Nat.le_of_ble_eq_true rfl
  refine ⟨h2, c5, ?_⟩
  simp only [g133_715, g133_716, g133_719, g133_720, g133_723, c1, c3, c4, s6, z0, z1, Option.bind_some, Option.toList_some, List.cons_append, List.nil_append, ↓reduceIte]
/-- changed: class and reference answer alike, and the invariant is kept -/
def zPr_changed (I : ZH → Prop) : Prop := ∀ h, I h → ∀ (_ : Unit), ∃ (v : Int32) (h1 h2 : ZH), zcl 13 69 [.ref 6] h = some (some (.int v), h1) ∧ h1[5]? = h[5]? ∧ (h1[256]?).map (fun c => c.1) = some 7 ∧ zcl 13 130 [.ref 256] h1 = some (some (.int v), h2) ∧ I h2
theorem lc_changed {I : ZH → Prop} {l : List Int32} (h56 : ∀ h, I h → h[5]? = some (20, zint l) ∧ (h[6]?).map (fun c => c.1) = some 6) (hp : zPr_changed I) {h : ZH} {i : Nat} (hh : I h) (hi : i + 7 ≤ l.length) (hl : l.length < 2 ^ 31) : ∃ h2, I h2 ∧ zres 13 133 728 [.ref 5, .ref 6, .ref 256, .int (nI i)] [] h = zres 13 133 754 [.ref 5, .ref 6, .ref 256, .int (nI i)] [] h2 := by
  obtain ⟨s5, s6⟩ := h56 h hh
  obtain ⟨v, h1, h2, c1, c2, c3, c4, c5⟩ := hp h hh ()
  rw [s5] at c2
  have z0 : zcs [] ≤ 8 := by decide
  have z1 : zcs [.int v] ≤ 8 := Nat.le_of_ble_eq_true rfl
  refine ⟨h2, c5, ?_⟩
  simp only [g133_728, g133_729, g133_732, g133_733, g133_736, c1, c3, c4, s6, z0, z1, Option.bind_some, Option.toList_some, List.cons_append, List.nil_append, ↓reduceIte]
/-- undo: class and reference answer alike, and the invariant is kept -/
def zPr_undo (I : ZH → Prop) : Prop := ∀ h, I h → ∀ (_ : Unit), ∃ (v : Int32) (h1 h2 : ZH), zcl 13 70 [.ref 6] h = some (some (.int v), h1) ∧ h1[5]? = h[5]? ∧ (h1[256]?).map (fun c => c.1) = some 7 ∧ zcl 13 80 [.ref 256] h1 = some (some (.int v), h2) ∧ I h2
theorem lc_undo {I : ZH → Prop} {l : List Int32} (h56 : ∀ h, I h → h[5]? = some (20, zint l) ∧ (h[6]?).map (fun c => c.1) = some 6) (hp : zPr_undo I) {h : ZH} {i : Nat} (hh : I h) (hi : i + 7 ≤ l.length) (hl : l.length < 2 ^ 31) : ∃ h2, I h2 ∧ zres 13 133 741 [.ref 5, .ref 6, .ref 256, .int (nI i)] [] h = zres 13 133 754 [.ref 5, .ref 6, .ref 256, .int (nI i)] [] h2 := by
  obtain ⟨s5, s6⟩ := h56 h hh
  obtain ⟨v, h1, h2, c1, c2, c3, c4, c5⟩ := hp h hh ()
  rw [s5] at c2
  have z0 : zcs [] ≤ 8 := by decide
  have z1 : zcs [.int v] ≤ 8 := Nat.le_of_ble_eq_true rfl
  refine ⟨h2, c5, ?_⟩
  simp only [g133_741, g133_742, g133_745, g133_746, g133_749, c1, c3, c4, s6, z0, z1, Option.bind_some, Option.toList_some, List.cons_append, List.nil_append, ↓reduceIte]
theorem zP_all {α : Type} (I : α → Prop) : True := trivial
def zPr (I : ZH → Prop) : Prop := zPr_page I ∧ zPr_picture I ∧ zPr_change I ∧ zPr_swap I ∧ zPr_drop I ∧ zPr_about I ∧ zPr_trees I ∧ zPr_tree I ∧ zPr_shape I ∧ zPr_side I ∧ zPr_cost I ∧ zPr_best I ∧ zPr_book I ∧ zPr_pages I ∧ zPr_leaf I ∧ zPr_pageOf I ∧ zPr_books I ∧ zPr_changed I ∧ zPr_undo I
theorem law_loop {I : ZH → Prop} {l : List Int32} (h56 : ∀ h, I h → h[5]? = some (20, zint l) ∧ (h[6]?).map (fun c => c.1) = some 6) (hp : zPr I) (hl : l.length < 2 ^ 30) :
    ∀ (n i : Nat) (h : ZH), I h → i + n = l.length + 7 → ∃ h2, I h2 ∧ zres 13 133 18 [.ref 5, .ref 6, .ref 256, .int (nI i)] [] h = some (some (.int 1), h2) := by
  intro n
  induction n using Nat.strongRecOn with
  | ind n ih =>
    intro i h hh hn
    obtain ⟨s5, s6⟩ := h56 h hh
    have hlen : zlen h 5 = some (nI l.length) := by
      unfold zlen
      rw [s5]
      show some (Int32.ofNat (zint l).length) = _
      rw [zint_len]
      rfl
    rw [g133_18, g133_19, g133_20, hlen, Option.bind_some, g133_21, g133_23, g133_24]
    have hcmp : (nI l.length - 7 < nI i) ↔ l.length < i + 7 := by
      rw [Int32.lt_iff_toInt_lt, show (7 : Int32) = nI 7 from rfl, pk_sub_toInt (by omega) (by decide), nI_toInt (by omega)]
      omega
    by_cases hc : l.length < i + 7
    · rw [if_pos (hcmp.mpr hc), g133_760]
      exact ⟨h, hh, g133_761 (by decide)⟩
    · rw [if_neg (fun q => hc (hcmp.mp q)), g133_27, g133_28, g133_29, zscr s5 (show i < l.length by omega) (by omega) rfl, Option.bind_some, g133_30, g133_32]
      obtain ⟨j, hj, ej⟩ := pk_andE (l.getD i 0) (m := 31) 5 (by decide)
      rw [ej]
      have step : ∀ h2 : ZH, I h2 → ∃ h3, I h3 ∧ zres 13 133 754 [.ref 5, .ref 6, .ref 256, .int (nI i)] [] h2 = some (some (.int 1), h3) := by
        intro h2 hh2
        rw [g133_754 rfl, g133_757, show nI i + 7 = nI (i + 7) from nI_add i 7]
        exact ih (n - 7) (by omega) (i + 7) h2 hh2 (by omega)
      have ent : ∃ h2, I h2 ∧ zres 13 133 33 [.ref 5, .ref 6, .ref 256, .int (nI i)] [.int (nI j)] h = zres 13 133 754 [.ref 5, .ref 6, .ref 256, .int (nI i)] [] h2 := by
        obtain ⟨p_page, p_picture, p_change, p_swap, p_drop, p_about, p_trees, p_tree, p_shape, p_side, p_cost, p_best, p_book, p_pages, p_leaf, p_pageOf, p_books, p_changed, p_undo⟩ := hp
        have hi : i + 7 ≤ l.length := by omega
        have hl2 : l.length < 2 ^ 31 := by omega
        have hfs : zf 133 33 = some (.tableswitch 721 0 18 #[91, 124, 187, 262, 295, 318, 341, 364, 407, 461, 524, 567, 600, 613, 626, 659, 682, 695, 708], 91) := by decide +kernel
        have hji : (nI j).toInt = (j : Int) := nI_toInt (by omega)
        match j, hj, hji with
        | 0, _, _ => rw [zr_tableIn (off := 91) (t := 124) hfs (by decide) (by decide) rfl]; exact lc_page h56 p_page hh hi hl2
        | 1, _, _ => rw [zr_tableIn (off := 124) (t := 157) hfs (by decide) (by decide) rfl]; exact lc_picture h56 p_picture hh hi hl2
        | 2, _, _ => rw [zr_tableIn (off := 187) (t := 220) hfs (by decide) (by decide) rfl]; exact lc_change h56 p_change hh hi hl2
        | 3, _, _ => rw [zr_tableIn (off := 262) (t := 295) hfs (by decide) (by decide) rfl]; exact lc_swap h56 p_swap hh hi hl2
        | 4, _, _ => rw [zr_tableIn (off := 295) (t := 328) hfs (by decide) (by decide) rfl]; exact lc_drop h56 p_drop hh hi hl2
        | 5, _, _ => rw [zr_tableIn (off := 318) (t := 351) hfs (by decide) (by decide) rfl]; exact lc_about h56 p_about hh hi hl2
        | 6, _, _ => rw [zr_tableIn (off := 341) (t := 374) hfs (by decide) (by decide) rfl]; exact lc_trees h56 p_trees hh hi hl2
        | 7, _, _ => rw [zr_tableIn (off := 364) (t := 397) hfs (by decide) (by decide) rfl]; exact lc_tree h56 p_tree hh hi hl2
        | 8, _, _ => rw [zr_tableIn (off := 407) (t := 440) hfs (by decide) (by decide) rfl]; exact lc_shape h56 p_shape hh hi hl2
        | 9, _, _ => rw [zr_tableIn (off := 461) (t := 494) hfs (by decide) (by decide) rfl]; exact lc_side h56 p_side hh hi hl2
        | 10, _, _ => rw [zr_tableIn (off := 524) (t := 557) hfs (by decide) (by decide) rfl]; exact lc_cost h56 p_cost hh hi hl2
        | 11, _, _ => rw [zr_tableIn (off := 567) (t := 600) hfs (by decide) (by decide) rfl]; exact lc_best h56 p_best hh hi hl2
        | 12, _, _ => rw [zr_tableIn (off := 600) (t := 633) hfs (by decide) (by decide) rfl]; exact lc_book h56 p_book hh hi hl2
        | 13, _, _ => rw [zr_tableIn (off := 613) (t := 646) hfs (by decide) (by decide) rfl]; exact lc_pages h56 p_pages hh hi hl2
        | 14, _, _ => rw [zr_tableIn (off := 626) (t := 659) hfs (by decide) (by decide) rfl]; exact lc_leaf h56 p_leaf hh hi hl2
        | 15, _, _ => rw [zr_tableIn (off := 659) (t := 692) hfs (by decide) (by decide) rfl]; exact lc_pageOf h56 p_pageOf hh hi hl2
        | 16, _, _ => rw [zr_tableIn (off := 682) (t := 715) hfs (by decide) (by decide) rfl]; exact lc_books h56 p_books hh hi hl2
        | 17, _, _ => rw [zr_tableIn (off := 695) (t := 728) hfs (by decide) (by decide) rfl]; exact lc_changed h56 p_changed hh hi hl2
        | 18, _, _ => rw [zr_tableIn (off := 708) (t := 741) hfs (by decide) (by decide) rfl]; exact lc_undo h56 p_undo hh hi hl2
        | j + 19, hj, hji => exact ⟨h, hh, zr_tableOut (t := 754) hfs (Or.inr (by rw [hji]; omega)) rfl⟩
      obtain ⟨h2, hh2, e2⟩ := ent
      rw [e2]
      exact step h2 hh2
/-- the law's answer, out of an invariant that the 19 calls keep -/
theorem law_ok {I : ZH → Prop} {l : List Int32} (h56 : ∀ h, I h → h[5]? = some (20, zint l) ∧ (h[6]?).map (fun c => c.1) = some 6) (hp : zPr I) (hl : l.length < 2 ^ 30) (h0 : I (zhS l)) : ∃ h2, I h2 ∧ zcl 14 133 [.ref 5] (zh0 l) = some (some (.int 1), h2) := by
  rw [zlaw_pre]
  exact law_loop h56 hp hl (l.length + 7) 0 (zhS l) h0 (by omega)
