/-! lay(k), expense() -/
def zTre (h : ZH) (t : Nat) : Prop := h[tb t]? = some (5, [.ref (tb t + 1), .ref (tb t + tM t)]) ∧ ∃ D, zNs (tb t) (tM t) (tT t) h D ∧ D 0 2 = 0 ∧ D 0 5 = 0
theorem tb_ok : ∀ t, t < 31 → 36 ≤ tb t ∧ tb t + tM t < 242 := by decide +kernel
theorem tb_df : ∀ t, t < 31 → ∀ s, s < 31 → t ≠ s → tb t + tM t < tb s ∨ tb s + tM s < tb t := by decide +kernel
theorem zTre_fr {h k : ZH} {t : Nat} (hT : zTre h t) (ht : t < 31) (hf : ∀ a : Nat, tb t ≤ a → a ≤ tb t + tM t → k[a]? = h[a]?) : zTre k t := by
  obtain ⟨h1, D, h2, h3⟩ := hT
  refine ⟨(hf _ (by omega) (by omega)).trans h1, D, fun v hv => (hf _ (by omega) (by omega)).trans (h2 v hv), h3⟩
theorem c_lay (d : Nat) {h : ZH} {n k W H : Nat} {w q : Nat → Nat} {le : Int32} {sa sb : Int64} {fw fq E ar : Nat → Int32} (hS : zSta h) (h29 : h[29]? = some (zShc (nI n) (nI W) (nI H) le sa sb)) (h30 : h[30]? = some (13, zfo)) (h31 : h[31]? = some (10, zia 4 fw)) (h32 : h[32]? = some (10, zia 4 fq)) (h34 : h[34]? = some (10, zia 4 ar)) (h35 : h[35]? = some (10, zia 16 E)) (hTr : ∀ t, t < 31 → zTre h t)
    (hn : n ≤ 4) (hk : k < th n) (hw : yOk n w q) (hfw : ∀ i, i < n → fw i = nI (w i) ∧ fq i = nI (q i)) (hW : W ≤ 400) (hH : H ≤ 200) :
    ∃ h' E' ar', zcl (d + 3) 37 [.ref 29, .int (nI k)] h = some (some (.int 1), h') ∧ h'[29]? = some (zShc (nI n) (nI W) (nI H) le (lN (yX (tT (tf n + k)) w q W H 0 0)) (lN (yX (tT (tf n + k)) w q W H 1 0))) ∧ h'[35]? = some (10, zia 16 E') ∧ h'[34]? = some (10, zia 4 ar') ∧ (∀ i, i < n → (∀ c, c < 4 → E' (4 * i + c) = nI (eE (yX (tT (tf n + k)) w q W H) (tT (tf n + k) 12 i) c)) ∧ ar' i = nI (eA (yX (tT (tf n + k)) w q W H) (tT (tf n + k) 12 i))) ∧ (∀ t, t < 31 → zTre h' t) ∧ ∀ a : Nat, (a < 29 ∨ (30 ≤ a ∧ a ≤ 33) ∨ 242 ≤ a) → h'[a]? = h[a]? := by
  have z0 : zcs [] ≤ 8 := by decide
  have zi : ∀ a, zcs [.int a] ≤ 8 := fun a => Nat.le_of_ble_eq_true rfl
  have zr : ∀ a, zcs [.ref a] ≤ 8 := fun a => Nat.le_of_ble_eq_true rfl
  obtain ⟨t1, t2, t3⟩ := tft n (by omega) k hk
  have hlt := th_lt n (by omega)
  generalize ht : tf n + k = t at *
  have hT := tok t1
  rw [t2] at hT
  obtain ⟨tb1, tb2⟩ := tb_ok t t1
  have hX := yX_lay (w := w) (h := q) (W := W) (H := H) hT
  obtain ⟨hT0, D, hNs, hD2, hD5⟩ := hTr t t1
  have u6 : zget h 29 4 6 = some (.int (nI n)) := (zget_c h29).trans rfl
  have hm := c_howMany d hS (nI n)
  rw [th_ok n (by omega)] at hm
  have h4 := hS 4 (by decide)
  rw [zint_zia] at h4
  have a4 := c_at_in (d + 1) h4 (Or.inr rfl) (i := nI n) rfl (show n < 5 by omega) (by decide)
  rw [tf_ok n (by omega)] at a4
  have ta := c_treeAt (d + 1) h29 h30 t1
  have hb4 : (h[29]?).map (fun c => c.1) = some 4 := by rw [h29]; rfl
  have hwi : ∀ x, Value.category (.int x) = 1 := fun _ => rfl
  have hwr : ∀ x, Value.category (.ref x) = 1 := fun _ => rfl
  have k0 : ¬ nI k < 0 := nI_pos (by omega)
  have k1 : ¬ nI (th n) ≤ nI k := nI_ge hk (by omega)
  have g51 : zget h (tb t) 5 1 = some (.ref (tb t + tM t)) := (zget_c hT0).trans rfl
  have ea : nI (tf n) + nI k = nI t := by rw [nI_add, ht]
  rw [e37]
  simp only [g37_0, g37_1, g37_4, g37_5, g37_6, g37_9, g37_12, u6, k0, k1, hm, zi, Option.bind_some, Option.toList_some, List.cons_append, List.nil_append, ↓reduceIte]
  simp only [g37_15, g37_16, g37_19, g37_20, g37_23, g37_26, g37_27, g37_28, g37_31, u6, a4, ta, ea, zr, z0, hb4, Option.bind_some, Option.toList_some, List.cons_append, List.nil_append]
  simp only [g37_35, g37_35n, g37_36, g37_36n, g37_37r, g37_37n, g37_42, g37_42n, g37_43, g37_46, g37_46n, hwi, hwr, g51, Option.bind_some]
  have hM0 := hT.1.1
  obtain ⟨k1', D1, e1, e2, e3, e4⟩ := lay_down (kk := nI k) d hT hX hw hn (show 35 ≤ tb t by omega) hfw (tM t) h D (Nat.le_refl _) hNs h29 h31 h32 (fun v hv hl => by omega)
  rw [if_neg (by omega)] at e1
  rw [e1]
  have f29 : k1'[29]? = some (zShc (nI n) (nI W) (nI H) le sa sb) := (e3 29 (by omega)).trans h29
  have fT0 : k1'[tb t]? = some (5, [.ref (tb t + 1), .ref (tb t + tM t)]) := (e3 (tb t) (by omega)).trans hT0
  have n0 : k1'[tb t + 1]? = some (zNd (tb t) (tM t) (tT t) 0 (D1 0)) := e2 0 hM0
  obtain ⟨d0, d1, d2⟩ := e4 0 hM0
  generalize hXd : yX (tT t) w q W H = X at *
  have g50 : zget k1' (tb t) 5 0 = some (.ref (tb t + 1)) := (zget_c fT0).trans rfl
  have g8 : zget k1' (tb t + 1) 3 8 = some (.long (lN (X 0 0))) := ((zget_c n0).trans rfl).trans (by rw [← d0]; rfl)
  have p10 : zput k1' 29 4 10 (.long (lN (X 0 0))) = some (k1'.set 29 (zShc (nI n) (nI W) (nI H) le (lN (X 0 0)) sb)) := zput_c f29 rfl rfl rfl
  simp only [g37_105, g37_106, g37_106n, g37_107, g37_110, g37_113, g50, g8, p10, Option.bind_some]
  generalize hk2 : k1'.set 29 (zShc (nI n) (nI W) (nI H) le (lN (X 0 0)) sb) = k2
  have fr2 : ∀ a : Nat, a ≠ 29 → k2[a]? = k1'[a]? := fun a ha => by rw [← hk2, zset_ne (Ne.symm ha)]
  have f29b : k2[29]? = some (zShc (nI n) (nI W) (nI H) le (lN (X 0 0)) sb) := by rw [← hk2]; exact zset_get f29
  have g50b : zget k2 (tb t) 5 0 = some (.ref (tb t + 1)) := (zget_c ((fr2 _ (by omega)).trans fT0)).trans rfl
  have g9 : zget k2 (tb t + 1) 3 9 = some (.long (lN (X 1 0))) := ((zget_c ((fr2 _ (by omega)).trans n0)).trans rfl).trans (by rw [← d1]; rfl)
  have p11 : zput k2 29 4 11 (.long (lN (X 1 0))) = some (k2.set 29 (zShc (nI n) (nI W) (nI H) le (lN (X 0 0)) (lN (X 1 0)))) := zput_c f29b rfl rfl rfl
  simp only [g37_116, g37_117, g37_117n, g37_118, g37_121, g37_124, g50b, g9, p11, Option.bind_some]
  generalize hk3 : k2.set 29 (zShc (nI n) (nI W) (nI H) le (lN (X 0 0)) (lN (X 1 0))) = k3
  have fr3 : ∀ a : Nat, a ≠ 29 → k3[a]? = k1'[a]? := fun a ha => by rw [← hk3, zset_ne (Ne.symm ha), fr2 a ha]
  have f29c : k3[29]? = some (zShc (nI n) (nI W) (nI H) le (lN (X 0 0)) (lN (X 1 0))) := by rw [← hk3]; exact zset_get f29b
  have g50c : zget k3 (tb t) 5 0 = some (.ref (tb t + 1)) := (zget_c ((fr3 _ (by omega)).trans fT0)).trans rfl
  have u7 : zget k3 29 4 7 = some (.int (nI W)) := (zget_c f29c).trans rfl
  have u8 : zget k3 29 4 8 = some (.int (nI H)) := (zget_c f29c).trans rfl
  have n0c : k3[tb t + 1]? = some (zNd (tb t) (tM t) (tT t) 0 (D1 0)) := (fr3 _ (by omega)).trans n0
  obtain ⟨bd0, bd1, -⟩ := yBd hT hX hw hW hH hM0
  have mb1 : W * X 1 0 < 2 ^ 63 := Nat.lt_of_le_of_lt (Nat.mul_le_mul hW (Nat.le_of_lt bd1)) (by decide)
  have mb2 : H * X 0 0 < 2 ^ 63 := Nat.lt_of_le_of_lt (Nat.mul_le_mul hH (Nat.le_of_lt bd0)) (by decide)
  have pp := c_placeOnPage (d + 1) n0c d0 d1 (show W < 2 ^ 31 by omega) (show H < 2 ^ 31 by omega) mb1 mb2
  have hb3 : (k3[tb t + 1]?).map (fun c => c.1) = some 3 := by rw [n0c]; rfl
  obtain ⟨x2, x3, x4, x5, x6, x7⟩ := hX.2.2.2.1
  have hcell : zNd (tb t) (tM t) (tT t) 0 (vp_updL (vp_updL (vp_updL (vp_updL (D1 0) 3 (lN (if W * X 1 0 ≤ H * X 0 0 then W else H * X 0 0))) 4 (lN (if W * X 1 0 ≤ H * X 0 0 then 1 else X 1 0))) 6 (lN (if W * X 1 0 ≤ H * X 0 0 then W * X 1 0 else H))) 7 (lN (if W * X 1 0 ≤ H * X 0 0 then X 0 0 else 1))) = zNd (tb t) (tM t) (tT t) 0 (fun c => lN (X c 0)) := by
    refine zNd_eq fun c hc => ?_
    match c, hc with
    | 0, _ => exact d0
    | 1, _ => exact d1
    | 2, _ => show D1 0 2 = lN (X 2 0); rw [d2 2 (by omega), hD2, x2]; rfl
    | 3, _ => show _ = lN (X 3 0); rw [x3]; rfl
    | 4, _ => show _ = lN (X 4 0); rw [x4]; rfl
    | 5, _ => show D1 0 5 = lN (X 5 0); rw [d2 5 (by omega), hD5, x5]; rfl
    | 6, _ => show _ = lN (X 6 0); rw [x6]; rfl
    | 7, _ => show _ = lN (X 7 0); rw [x7]; rfl
  rw [hcell] at pp
  generalize hk4 : k3.set (tb t + 1) (zNd (tb t) (tM t) (tT t) 0 (fun c => lN (X c 0))) = k4 at pp
  have fr4 : ∀ a : Nat, a ≠ tb t + 1 → k4[a]? = k3[a]? := fun a ha => by rw [← hk4, zset_ne (Ne.symm ha)]
  have g50d : zget k4 (tb t) 5 0 = some (.ref (tb t + 1)) := (zget_c ((fr4 _ (by omega)).trans ((fr3 _ (by omega)).trans fT0))).trans rfl
  simp only [g37_127, g37_127n, g37_128, g37_131, g37_132, g37_135, g37_136, g37_139, g37_142, g37_142n, g37_143, g37_146, g37_146n, g50c, g50d, u7, u8, z0, hb3, pp, hwr, Option.bind_some, Option.toList_none, List.nil_append]
  obtain ⟨h', E', ar', o1, o2, o3, o4, o5, o6⟩ := lay_up (kk := nI k) d hT hX hw hn hW hH (show 35 ≤ tb t by omega) (tM t) 0 k4 (fun v => if v = 0 then (fun c => lN (X c 0)) else D1 v) E ar (by omega) (fun v hv => by
      show _ = some (zNd (tb t) (tM t) (tT t) v (if v = 0 then (fun c => lN (X c 0)) else D1 v))
      by_cases z : v = 0
      · subst z
        rw [if_pos rfl, ← hk4]
        exact zset_get n0c
      · rw [if_neg z, fr4 _ (by omega), fr3 _ (by omega)]
        exact e2 v hv) ((fr4 29 (by omega)).trans f29c) ((fr4 35 (by omega)).trans ((fr3 35 (by decide)).trans ((e3 35 (by omega)).trans h35))) ((fr4 34 (by omega)).trans ((fr3 34 (by decide)).trans ((e3 34 (by omega)).trans h34))) (fun v hv => by
      by_cases z : v = 0
      · subst z
        rw [if_pos rfl]
        exact ⟨rfl, rfl, fun _ => rfl⟩
      · rw [if_neg z]
        exact ⟨(e4 v hv).1, (e4 v hv).2.1, fun hh => by omega⟩) (fun v hv hl => by omega)
  rw [if_neg (by omega)] at o1
  have fall : ∀ a : Nat, (a < tb t + 1 ∨ tb t + 1 + tM t ≤ a) → a ≠ 29 → a ≠ 34 → a ≠ 35 → h'[a]? = h[a]? := fun a q1 q2 q3 q4 => by
    rw [o3 a q1 q3 q4, fr4 a (by omega), fr3 a q2, e3 a q1]
  refine ⟨h', E', ar', o1, ?_, o4, o5, fun i hi => ?_, fun s hs => ?_, fun a ha => ?_⟩
  · rw [o3 29 (by omega) (by decide) (by decide), fr4 29 (by omega)]
    exact f29c
  · obtain ⟨l1, l2, l3, l4, -⟩ := hT.2.2.2 i hi
    have := o6 (tT t 12 i) l1 l1 l2
    rw [l4] at this
    exact this
  · by_cases z : s = t
    · subst z
      exact ⟨(fall (tb s) (by omega) (by omega) (by omega) (by omega)).trans hT0, _, o2, by show lN (X 2 0) = 0; rw [x2]; rfl, by show lN (X 5 0) = 0; rw [x5]; rfl⟩
    · obtain ⟨s1, s2⟩ := tb_ok s hs
      have df := tb_df t t1 s hs (Ne.symm z)
      exact zTre_fr (hTr s hs) hs fun a q1 q2 => fall a (by omega) (by omega) (by omega) (by omega)
  · exact fall a (by omega) (by omega) (by omega) (by omega)
theorem c_lay_no (d : Nat) {h : ZH} {n : Nat} {k W H le : Int32} {sa sb : Int64} (hS : zSta h) (h29 : h[29]? = some (zShc (nI n) W H le sa sb)) (hn : n ≤ 4) (hk : ¬ (0 ≤ k ∧ k < nI (th n))) : zcl (d + 3) 37 [.ref 29, .int k] h = some (some (.int 0), h) := by
  have zi : ∀ a, zcs [.int a] ≤ 8 := fun a => Nat.le_of_ble_eq_true rfl
  have u6 : zget h 29 4 6 = some (.int (nI n)) := (zget_c h29).trans rfl
  have hm := c_howMany d hS (nI n)
  rw [th_ok n (by omega)] at hm
  have hwi : ∀ x, Value.category (.int x) = 1 := fun _ => rfl
  have fin : zres (d + 2) 37 34 [.ref 29, .int k, zj, zj] [] h = some (some (.int 0), h) := by
    simp only [g37_34, g37_35, g37_35n, g37_36, g37_36n, g37_37r, g37_37n, hwi]
    rw [g37_40, g37_41 zzero]
  rw [e37]
  by_cases k0 : k < 0
  · simp only [g37_0, g37_1, k0, ↓reduceIte]
    exact fin
  · have k1 : nI (th n) ≤ k := i_nlt.mp fun z => hk ⟨i_nlt.mp k0, z⟩
    simp only [g37_0, g37_1, g37_4, g37_5, g37_6, g37_9, g37_12, u6, k0, k1, hm, zi, Option.bind_some, Option.toList_some, List.cons_append, List.nil_append, ↓reduceIte]
    exact fin
theorem i_sw (x y : Int32) : 0 - (x - y) = y - x := by grind
theorem i_ab {a c : Nat} (ha : a < 2 ^ 30) (hc : c < 2 ^ 30) : (if 0 ≤ nI a - nI c then nI a - nI c else 0 - (nI a - nI c)) = nI ((a - c) + (c - a)) := by
  by_cases z : c ≤ a
  · rw [pk_sub z, if_pos (nI_pos' (by omega)), show c - a = 0 by omega, Nat.add_zero]
  · rw [if_neg (i_nle.mpr (by exact pk_sneg hc (by omega))), i_sw, pk_sub (by omega), show a - c = 0 by omega, Nat.zero_add]
theorem c_expense (d : Nat) {h : ZH} {n W H : Nat} {a u : Nat → Nat} {le : Int32} {sa sb : Int64} {ar fv : Nat → Int32} (h29 : h[29]? = some (zShc (nI n) (nI W) (nI H) le sa sb)) (h33 : h[33]? = some (10, zia 4 fv)) (h34 : h[34]? = some (10, zia 4 ar)) (hn : n ≤ 4) (hn0 : 0 < n) (hu : ∀ i, i < n → fv i = nI (u i) ∧ 0 < u i ∧ u i ≤ 9) (ha : ∀ i, i < n → ar i = nI (a i)) (hs : ysum a n ≤ W * H) (hWH : W * H ≤ 80000) :
    zcl (d + 2) 40 [.ref 29] h = some (some (.int (nI (yCo a u (W * H) n))), h) := by
  have z0 : zcs [] ≤ 8 := by decide
  have zi : ∀ a, zcs [.int a] ≤ 8 := fun a => Nat.le_of_ble_eq_true rfl
  have zii : ∀ a c, zcs [.int a, .int c] ≤ 8 := fun a c => Nat.le_of_ble_eq_true rfl
  have ziii : ∀ a c e, zcs [.int a, .int c, .int e] ≤ 8 := fun a c e => Nat.le_of_ble_eq_true rfl
  have hwi : ∀ x, Value.category (.int x) = 1 := fun _ => rfl
  have hwj : Value.category zj = 1 := rfl
  have hwr : ∀ x, Value.category (.ref x) = 1 := fun _ => rfl
  have u6 : zget h 29 4 6 = some (.int (nI n)) := (zget_c h29).trans rfl
  have u3 : zget h 29 4 3 = some (.ref 33) := (zget_c h29).trans rfl
  have u4 : zget h 29 4 4 = some (.ref 34) := (zget_c h29).trans rfl
  have u7 : zget h 29 4 7 = some (.int (nI W)) := (zget_c h29).trans rfl
  have u8 : zget h 29 4 8 = some (.int (nI H)) := (zget_c h29).trans rfl
  have aa : ∀ i, i < n → zcl (d + 1) 75 [.ref 34, .int (nI i)] h = some (some (.int (nI (a i))), h) := fun i hi => by
    rw [c_at_in d h34 (Or.inl rfl) rfl (show i < 4 by omega) (by decide), ha i hi]
  have av : ∀ i, i < n → zcl (d + 1) 75 [.ref 33, .int (nI i)] h = some (some (.int (nI (u i))), h) := fun i hi => by
    rw [c_at_in d h33 (Or.inl rfl) rfl (show i < 4 by omega) (by decide), (hu i hi).1]
  have hV : ∀ m, m ≤ n → ysum u m ≤ 9 * m := by
    intro m
    induction m with
    | zero => intro _; exact Nat.le_refl _
    | succ m ih =>
      intro hm
      have := (hu m (by omega)).2.2
      have := ih (by omega)
      show ysum u m + u m ≤ 9 * (m + 1)
      omega
  have hVn := hV n (Nat.le_refl _)
  have hV0 : 0 < ysum u n := by
    have := ysum_mono (f := u) (show 1 ≤ n by omega)
    have e : ysum u 1 = 0 + u 0 := rfl
    have := (hu 0 hn0).2.1
    omega
  have hal : ∀ i, i < n → a i ≤ W * H := fun i hi => by
    have := ysum_mono (f := a) (show i + 1 ≤ n by omega)
    have e : ysum a (i + 1) = ysum a i + a i := rfl
    omega
  have loop2 : ∀ (m i : Nat), i + m = n → zres (d + 1) 40 47 [.ref 29, .int (nI (ysum a n)), .int (nI (ysum u n)), .int (nI (ysum (fun i => (a i * ysum u n - ysum a n * u i) + (ysum a n * u i - a i * ysum u n)) i)), .int (nI i)] [] h = some (some (.int (nI (yCo a u (W * H) n))), h) := by
    intro m
    induction m with
    | zero =>
      intro i hi
      obtain rfl : i = n := by omega
      have c1 : nI i ≤ nI i := nI_le (Nat.le_refl _) (by omega)
      have c2 : ¬ nI (ysum u i) ≤ 0 := nI_nle hV0 (by omega)
      have c3 : ¬ nI (ysum u i) = 0 := nI_ne0 hV0 (by omega)
      have hU := yU_le a u i
      have mm : 2 * ysum a i * ysum u i ≤ 2 * 80000 * 36 := Nat.mul_le_mul (by omega) (by omega)
      have dv := pk_div (a := yU a u i) (d := ysum u i) (by omega) hV0 (by omega)
      have e1 : nI W * nI H - nI (ysum a i) = nI (W * H - ysum a i) := by rw [pk_mul, pk_sub hs]
      simp only [g40_47, g40_49, g40_50, g40_53, u6, c1, Option.bind_some, ↓reduceIte]
      simp only [g40_91, g40_92, g40_95, g40_96, g40_99, g40_100, g40_101, g40_102, g40_103, u7, u8, c2, Option.bind_some, ↓reduceIte]
      simp only [g40_106, g40_107, g40_108, g40_109, g40_113, g40_114, c3, not_false_eq_true, e1]
      rw [show ysum (fun i_1 => a i_1 * ysum u i - ysum a i * u i_1 + (ysum a i * u i_1 - a i_1 * ysum u i)) i = yU a u i from rfl, dv, nI_add]
      rfl
    | succ m ih =>
      intro i hi
      have hin : i < n := by omega
      have c1 : ¬ nI n ≤ nI i := nI_ge hin (by omega)
      have m1 : a i * ysum u n ≤ 80000 * 36 := Nat.mul_le_mul (by have := hal i hin; omega) (by omega)
      have m2 : ysum a n * u i ≤ 80000 * 9 := Nat.mul_le_mul (by omega) (hu i hin).2.2
      have ab := i_ab (a := a i * ysum u n) (c := ysum a n * u i) (by omega) (by omega)
      simp only [g40_47, g40_49, g40_50, g40_53, u6, c1, Option.bind_some, ↓reduceIte]
      simp only [g40_56, g40_57, g40_58, g40_61, g40_63, g40_66, g40_67, g40_68, g40_69, g40_70, g40_73, g40_75, g40_78, g40_79, g40_80, g40_83, g40_84, g40_85, g40_88, u3, u4, aa i hin, av i hin, zi, zii, ziii, hwi, pk_mul, ab, nI_add, nI_1, Option.bind_some, Option.toList_some, List.cons_append, List.nil_append]
      exact ih (i + 1) (by omega)
  have loop1 : ∀ (m i : Nat), i + m = n → zres (d + 1) 40 6 [.ref 29, .int (nI (ysum a i)), .int (nI (ysum u i)), .int (nI i), zj] [] h = some (some (.int (nI (yCo a u (W * H) n))), h) := by
    intro m
    induction m with
    | zero =>
      intro i hi
      obtain rfl : i = n := by omega
      have c1 : nI i ≤ nI i := nI_le (Nat.le_refl _) (by omega)
      simp only [g40_6, g40_7, g40_8, g40_11, u6, c1, Option.bind_some, ↓reduceIte]
      simp only [g40_42, g40_43, g40_44, g40_45, hwi, hwj]
      exact loop2 i 0 (by omega)
    | succ m ih =>
      intro i hi
      have hin : i < n := by omega
      have c1 : ¬ nI n ≤ nI i := nI_ge hin (by omega)
      simp only [g40_6, g40_7, g40_8, g40_11, u6, c1, Option.bind_some, ↓reduceIte]
      simp only [g40_14, g40_15, g40_16, g40_19, g40_20, g40_23, g40_24, g40_25, g40_26, g40_27, g40_30, g40_31, g40_34, g40_35, g40_36, g40_39, u3, u4, aa i hin, av i hin, zi, zii, hwi, hwr, nI_add, nI_1, Option.bind_some, Option.toList_some, List.cons_append, List.nil_append]
      exact ih (i + 1) (by omega)
  rw [e40]
  simp only [g40_0, g40_1, g40_2, g40_3, g40_4, g40_5, hwi, hwj, hwr]
  exact loop1 n 0 (by omega)
