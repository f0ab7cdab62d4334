-- ===== of the skeleton: the law's own words =====
/-! THE CLAIM OUT OF ONE WALK OF THE LAW'S BODY. Your part is whole_start (and what it stands on); all else here is the same for every law, but numbers. -/
def R_law : String := "AlbumSetterLaw"
def lw_P (b : Addr) (xs : List Int32) (args : Array Value) (s : State) : Prop := args = #[.ref b] ∧ s.IntsAt b xs ∧ xs.length ≤ 3584 ∧ (Jvm.Cond.and given_1 narrow_1).before args s = true
def lw_Q (_ : Array Value) (s : State) (o : Outcome) (t : State) : Prop := o = .returned (some (.int 1)) ∧ Framed s o t [] 600000 7302250
def lw_Z (below : List Frame) (a : Array Value) (s : State) : State → Prop := fun t => ∃ o, t.status = .running ∧ Ended t below o ∧ lw_Q a s o t
/-- the law's own end, with 1 on the stack, nothing written that was there before, its room as the claim has it -/
theorem lw_ret {p : Program} {l : Launch} {e : Env} {s : State} {m : MethodId} {below : List Frame} {meth : Method} {c : Code} {b : Nat} (hx : p.tables.exec = Jvm.exec) (hb : c.code = code) (hr : meth.sig.returnType = ret) (hlocks : meth.locks = false) {pc : Nat} {H : Heap} {ls : Array Slot} (hdg : decode code pc = .ok (.ireturn, 1)) : W p l e room_1 s m #[Value.ref b] below meth c H [] 600000 7302250 (lw_Z below #[Value.ref b] s) (F0 m pc ls [.int 1]) := by
  intro T hT X
  obtain ⟨fs, hret, hrun, hended, hW, hframe⟩ := X.leave (v := some (.int 1)) (hlocks := hlocks) (fun h => by rw [hr] at h; cases h)
  have hmeth' : T.vm.method? m = some meth := X.method'
  refine ⟨T.setFrames fs, ?_, .returned (some (.int 1)), hrun, hended, rfl, ⟨_, rfl⟩, hW, hframe⟩
  jvm_step X.here [X.here.top, hx, hb, hdg, hmeth', hr, ret, narrow_b1]
  (try refine ⟨rfl, ?_⟩); (try refine ⟨rfl, ?_⟩)
  first | (intro acts; rw [hret _ acts rfl rfl rfl]) | rw [hret _ _ rfl rfl rfl]
  exact Steps.refl _
/-- what holds at the law's entry: the machine, the code, the tables' words (any of lw_tbl by 'hts w (by decide +kernel)'), the script of L ints xs at the cell b, what the Statement gives of the start (any of its parts by flat_of_before) -/
def lw_At (p : Program) (s : State) (m : MethodId) (meth : Method) (c : Code) (b L : Nat) (xs : Nat → Int32) : Prop :=
  p.tables.exec = Jvm.exec ∧ c.code = code ∧ meth.sig.returnType = ret ∧ c.maxLocals = 4 ∧ s.vm.findClass R_law = some m.cls ∧ (∀ w ∈ lw_tbl, w.before #[Value.ref b] s = true) ∧ va_X b L xs s s.heap ∧ b < s.heap.size ∧ meth.locks = false ∧ (Jvm.Cond.and given_1 narrow_1).before #[Value.ref b] s = true

/-! THE LAW'S START: the static arrays and the script are the first six cells -/
def zsv : Nat → List Int32 := fun k => match k with
  | 0 => [0, 1, 1, 3, 11]
  | 1 => [0, 0, 1, 2, 5]
  | 2 => [0, 0, 0, 0, 1, 1, 0, 0, 1, 1, 1, 0, 1, 2, 0, 0, 2, 1, 0, 0, 1, 1, 1, 1, 1, 1, 2, 0, 1, 2, 1, 0, 1, 3, 0, 0, 1, 3, 0, 0, 1, 3, 0, 0, 2, 1, 1, 0, 2, 2, 0, 0, 3, 1, 0, 0, 3, 1, 0, 0, 3, 1, 0, 0]
  | 3 => [0, 0, 0, 0, 0, 0, 0, 0, 0, 1, 2, 0, 0, 0, 1, 2]
  | _ => [0, 0, 1, 3, 9]
def zint (l : List Int32) : List Value := l.map .int
/-- the heap with which the law begins: its script is xs -/
def zh0 (xs : List Int32) : ZH := [(20, zint (zsv 0)), (20, zint (zsv 1)), (20, zint (zsv 2)), (20, zint (zsv 3)), (20, zint (zsv 4)), (20, zint xs)]
abbrev ztm (k : Nat) : Term := .static (zsC k) (zsN k) "[I"
theorem zflat : ∀ k ∈ List.range 5, Cond.arrayOf (ztm k) .int ∈ flatC (Jvm.Cond.and given_1 narrow_1) ∧ Cond.eq (.length (ztm k)) (.int (Int32.ofNat (zsv k).length)) ∈ flatC (Jvm.Cond.and given_1 narrow_1) ∧ ∀ j ∈ List.range (zsv k).length, Cond.eq (.elem (ztm k) (.int (Int32.ofNat j))) (.int ((zsv k).getD j 0)) ∈ flatC (Jvm.Cond.and given_1 narrow_1) := by decide +kernel
theorem zlst : ∀ k ∈ List.range 5, Cond.laysStatic (zsC k) (zsN k) "[I" ∈ lw_tbl ∧ Cond.initialized (zsC k) ∈ lw_tbl := by decide +kernel
theorem zG_tbl {w : Cond} (h : w ∈ zG) : w ∈ lw_tbl := (List.mem_filter.mp h).1
theorem zint_get (l : List Int32) {j : Nat} (hj : j < l.length) : (zint l).getD j .null = .int (l.getD j 0) := by
  unfold zint
  rw [List.getD_eq_getElem?_getD, List.getD_eq_getElem?_getD, List.getElem?_map, List.getElem?_eq_getElem hj]
  rfl
theorem zint_all (l : List Int32) : ∀ v ∈ zint l, zisI v = true := by
  intro v hv
  obtain ⟨x, -, rfl⟩ := List.mem_map.mp hv
  rfl
set_option maxRecDepth 100000 in
theorem zB133 : mB 133 = code := rfl
set_option maxHeartbeats 4000000 in
set_option maxRecDepth 100000 in
/-- the law comes to its end, if the abstract machine does -/
theorem zlaw {p : Program} {e : Env} {s : State} {m : MethodId} {below : List Frame} {meth : Method} {c : Code} (l : Launch) {b L : Nat} {xs : Nat → Int32} (C0 : lw_At p s m meth c b L xs) {f : Nat} {h' : ZH}
    (hrun : zM f 14 133 [.ref 5] (zh0 ((List.range L).map xs)) = some (some (.int 1), h')) (hc : h'.length ≤ 600000) (hz : zsl h' ≤ 7302250) (hL2 : L < 2 ^ 31) :
    W p l e room_1 s m #[Value.ref b] below meth c s.heap [] 0 0 (lw_Z below #[Value.ref b] s) (entryFrame m ([Value.ref b] : List Value).toArray 4) := by
  obtain ⟨hx, hb, hr, hml, hown, hts, hX, hbl, hlocks, hgv⟩ := id C0
  have hgv := flat_of_before _ hgv
  -- the static arrays
  have hst : ∀ k : Nat, k < 5 → ∃ t : Nat, va_Z (zsC k) (zsN k) "[I" (.ref t) (zA s.heap.size) s s.heap ∧ va_T .int t (zsv k).length (fun j => .int ((zsv k).getD j 0)) (zA s.heap.size) s s.heap := by
    intro k hk
    obtain ⟨g1, g2, g3⟩ := zflat k (List.mem_range.mpr hk)
    obtain ⟨i1, i2⟩ := zlst k (List.mem_range.mpr hk)
    have hA : ∀ a : Nat, a < s.heap.size → ¬ zA s.heap.size a := fun a h q => absurd (show s.heap.size ≤ a from q) (by omega)
    have hlen : (zsv k).length < 2 ^ 31 := by
      match k, hk with
      | 0, _ => decide
      | 1, _ => decide
      | 2, _ => decide
      | 3, _ => decide
      | 4, _ => decide
    obtain ⟨t, t1, t2⟩ := va_Tof (f := fun j => .int ((zsv k).getD j 0)) hlen (hgv _ g1) (va_eqt (hgv _ g2)) (fun j hj => va_eqt (hgv _ (g3 j (List.mem_range.mpr hj)))) hA
    exact ⟨t, va_Zof (hts _ i1) (hts _ i2) t1 hA, t2⟩
  have hst2 : ∃ sa : Nat → Nat, ∀ k : Nat, k < 5 → va_Z (zsC k) (zsN k) "[I" (.ref (sa k)) (zA s.heap.size) s s.heap ∧ va_T .int (sa k) (zsv k).length (fun j => .int ((zsv k).getD j 0)) (zA s.heap.size) s s.heap := by
    obtain ⟨t0, a0⟩ := hst 0 (by decide)
    obtain ⟨t1, a1⟩ := hst 1 (by decide)
    obtain ⟨t2, a2⟩ := hst 2 (by decide)
    obtain ⟨t3, a3⟩ := hst 3 (by decide)
    obtain ⟨t4, a4⟩ := hst 4 (by decide)
    refine ⟨fun k => match k with | 0 => t0 | 1 => t1 | 2 => t2 | 3 => t3 | _ => t4, fun k hk => ?_⟩
    match k, hk with
    | 0, _ => exact a0
    | 1, _ => exact a1
    | 2, _ => exact a2
    | 3, _ => exact a3
    | 4, _ => exact a4
  obtain ⟨sa, hsa⟩ := hst2
  -- classes and array classes
  have hkn : ∀ k : Nat, k < 8 → ∃ (cC : ClassId) (iS : Nat → Nat), u_Kn s (zR k) (zT k) (zN k) cC iS := fun k hk => u_known (C := zR k) (T := zT k) (N := zN k) (n := zN k) hts (fun w hw => zG_tbl (zuw k (List.mem_range.mpr hk) w hw)) (hts _ (zG_tbl (zin k (List.mem_range.mpr hk)).1))
  have hdC : ∃ (dC : Nat → ClassId) (dI : Nat → Nat → Nat), ∀ k : Nat, k < 8 → u_Kn s (zR k) (zT k) (zN k) (dC k) (dI k) := by
    refine ⟨fun k => if hk : k < 8 then (hkn k hk).choose else 0, fun k => if hk : k < 8 then (hkn k hk).choose_spec.choose else fun _ => 0, fun k hk => ?_⟩
    simp only [hk, dif_pos]
    exact (hkn k hk).choose_spec.choose_spec
  obtain ⟨dC, dI, hKc⟩ := hdC
  obtain ⟨cI, kI, compI, i1, i2, i3⟩ := Cond.arrayClass_spec (hts _ (zG_tbl zac.1))
  obtain ⟨cJ, kJ, compJ, j1, j2, j3⟩ := Cond.arrayClass_spec (hts _ (zG_tbl zac.2.1))
  obtain ⟨compA, cA, kA, a1, -, a2, a3, a4⟩ := Cond.arrayOver_spec (hts _ zao.1)
  obtain ⟨compT, cT, kT, t1, -, t2, t3, t4⟩ := Cond.arrayOver_spec (hts _ zao.2)
  have hdA : ∃ dA : Nat → ClassId, dA 0 = cI ∧ dA 1 = cJ ∧ dA 2 = cA ∧ dA 3 = cT := ⟨fun k => match k with | 0 => cI | 1 => cJ | 2 => cA | _ => cT, rfl, rfl, rfl, rfl⟩
  obtain ⟨dA, rfl, rfl, rfl, rfl⟩ := hdA
  have hKk : va_K (dC, dI) vwCl (ztys dA) s := by
    refine ⟨fun k q hq => ?_, fun k q hq => ?_⟩
    · have hk : k < 8 := (List.getElem?_eq_some_iff.mp hq).1
      have := (zvw k hk).symm.trans hq
      cases this
      exact hKc k hk
    · match k, hq with
      | 0, hq => cases hq; exact ⟨fun n z => ⟨fun k h => (by cases h), kI, i2, compI, i3⟩, i1⟩
      | 1, hq => cases hq; exact ⟨fun n z => ⟨fun k h => (by cases h), kJ, j2, compJ, j3⟩, j1⟩
      | 2, hq => cases hq; exact ⟨fun n z => ⟨fun k h => (by cases h), kA, a2, compA, a3⟩, kA, compA, a2, a3, a1, a4⟩
      | 3, hq => cases hq; exact ⟨fun n z => ⟨fun k h => (by cases h), kT, t2, compT, t3⟩, kT, compT, t2, t3, t1, t4⟩
      | k + 4, hq => simp at hq
  -- the addresses
  have hads : ∃ ad : Nat → Nat, (∀ k : Nat, k < 5 → ad k = sa k) ∧ ad 5 = b ∧ zAd ad s.heap.size := by
    refine ⟨fun k => if k < 5 then sa k else if k = 5 then b else s.heap.size + (k - 6), fun k hk => if_pos hk, rfl, fun k hk => ?_⟩
    show (if k < 5 then sa k else if k = 5 then b else s.heap.size + (k - 6)) = _
    rw [if_neg (by omega), if_neg (by omega)]
  obtain ⟨ad', ad5, adb, hAd⟩ := hads
  have hK : zK dC dI dA ad' s.heap.size s := by
    refine ⟨Nat.le_refl _, hKk, fun w hw => va_Nw.of (zNw_on hw) (hts w (List.mem_filter.mp hw).1), ⟨va_AO.of (hts _ zao.1), va_AO.of (hts _ zao.2)⟩, fun k hk => ?_⟩
    rw [ad5 k hk]
    exact (hsa k hk).1
  have hscr : va_T .int b L (fun j => .int (xs j)) (zA s.heap.size) s s.heap := by
    obtain ⟨scr, x1, x2, x3, x4, x5⟩ := hX
    exact ⟨scr, x1, x2, x3, by rw [x4]; exact Nat.le_refl _, by rw [x4] <;> rfl, x5, fun q => absurd (show s.heap.size ≤ b from q) (by omega)⟩
  have hW : zW dC dI dA ad' s.heap.size s (zh0 ((List.range L).map xs)) s.heap [] := by
    refine ⟨⟨Nat.le_refl 6, by show s.heap.size = s.heap.size + 0; rfl, fun k q hq => ?_⟩, fun k q hq => ?_, va_S.rf, fun k q hk hq => ?_⟩
    · have hk : k < 6 := (List.getElem?_eq_some_iff.mp hq).1
      have hq20 : q.1 = 20 ∧ ∀ v ∈ q.2, zisI v = true := by
        match k, hk, hq with
        | 0, _, hq => cases hq; exact ⟨rfl, zint_all _⟩
        | 1, _, hq => cases hq; exact ⟨rfl, zint_all _⟩
        | 2, _, hq => cases hq; exact ⟨rfl, zint_all _⟩
        | 3, _, hq => cases hq; exact ⟨rfl, zint_all _⟩
        | 4, _, hq => cases hq; exact ⟨rfl, zint_all _⟩
        | 5, _, hq => cases hq; exact ⟨rfl, zint_all _⟩
      exact ⟨Or.inl ⟨Or.inr hq20.1, hq20.2⟩, ⟨fun _ => hk, fun _ => hq20.1⟩⟩
    · rw [zw_get] at hq
      have : (zh0 ((List.range L).map xs))[k + 6]? = none := by
        rw [List.getElem?_eq_none_iff]
        show 6 ≤ k + 6
        omega
      rw [this] at hq
      cases hq
    · have stat : ∀ j : Nat, j < 5 → va_T .int (ad' j) (zint (zsv j)).length (fun i => (zint (zsv j)).getD i .null) (zA s.heap.size) s s.heap := by
        intro j hj
        rw [ad5 j hj]
        obtain ⟨cell, b1, b2, b3, b4, b5, b6, b7⟩ := (hsa j hj).2
        have hl : (zint (zsv j)).length = (zsv j).length := List.length_map _
        exact ⟨cell, b1, b2, b3, by rw [hl]; exact b4, by rw [hl]; exact b5, fun i hi => by rw [hl] at hi; exact (b6 i hi).trans (congrArg some (zint_get _ hi).symm), b7⟩
      match k, hk, hq with
      | 0, _, hq => cases hq; exact stat 0 (by decide)
      | 1, _, hq => cases hq; exact stat 1 (by decide)
      | 2, _, hq => cases hq; exact stat 2 (by decide)
      | 3, _, hq => cases hq; exact stat 3 (by decide)
      | 4, _, hq => cases hq; exact stat 4 (by decide)
      | 5, _, hq =>
        cases hq
        rw [adb]
        obtain ⟨cell, b1, b2, b3, b4, b5, b6, b7⟩ := hscr
        have hl : (zint ((List.range L).map xs)).length = L := by simp [zint]
        refine ⟨cell, b1, b2, b3, by rw [hl]; exact b4, by rw [hl]; exact b5, fun i hi => ?_, b7⟩
        dsimp only at hi ⊢
        rw [hl] at hi
        rw [zint_get _ (by simpa using hi), b6 i hi]
        congr 2
        rw [List.getD_eq_getElem?_getD, List.getElem?_map, List.getElem?_range hi]
        rfl
  unfold zM at hrun
  cases hE : zent 133 [.ref 5] with
  | none => rw [hE] at hrun; cases hrun
  | some L0 =>
    rw [hE] at hrun
    dsimp only at hrun
    have C : zC 133 p room_1 s m #[Value.ref b] meth c := ⟨hx, hb, hml, hown, fun w hw => hts w (zG_tbl hw), ⟨by decide, by decide⟩, fun q => absurd q (by decide), by decide⟩
    have hLo : zLo ad' ((lg_sl [Value.ref b] ++ List.replicate (4 - (lg_sl [Value.ref b]).length) Slot.unset).toArray) L0 := by
      have := z_entry (ad := ad') hE
      rw [show ([Value.ref 5] : List Value).map (zv ad') = [Value.ref b] from by show [Value.ref (ad' 5)] = _; rw [adb]] at this
      exact this
    have key := z_run (l := l) (e := e) (below := below) (Q := lw_Z below #[Value.ref b] s) (n0 := (zh0 ((List.range L).map xs)).length) (z0 := zsl (zh0 ((List.range L).map xs))) (hs := zh0 ((List.range L).map xs)) (r := some (.int 1)) (h' := h') (d := 13) (cal := zM f 13)
      (fun n as h r h1 q => ⟨zM_len f 13 n as h r h1 q, zM_met l dC dI dA ad' s.heap.size hAd f 13 n as h r h1 q⟩) C hAd hK (by decide) (by decide) (Nat.le_trans (Nat.sub_le _ _) hc) (Nat.le_trans (Nat.sub_le _ _) hz) ?_ f 0 L0 [] _ _ s.heap [] hrun hLo (zent_ok hE).1 hW (Nat.le_refl _) (Nat.le_refl _) (fun _ _ => rfl)
    · rw [Nat.sub_self, Nat.sub_self] at key
      rw [lg_entry_eq]
      exact key
    · intro pc L1 st ls H locs hI hL1 hW' h6
      refine va_forget (fun q hq => hW'.2.2.1.2.2 q hq) ?_
      refine W.widen (k := 600000) (n := 7302250) (Nat.le_trans (Nat.sub_le _ _) hc) (Nat.le_trans (Nat.sub_le _ _) hz) ?_
      rcases zret_ok hI with ⟨v, rfl, hv, hf, ty, hT, hnr⟩ | ⟨v, rfl, hv, hf, hT⟩ | ⟨v, rfl, hv, hR, hf, nm, hT⟩ | ⟨rfl, hv, hf, hT⟩
      · cases hv
        have hd := zf_ok hf
        rw [zB133] at hd
        exact lw_ret hx hb hr hlocks hd
      · cases hv
      · cases hT
      · cases hv
