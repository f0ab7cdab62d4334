section ZJ
variable {dC : Nat → ClassId} {dI : Nat → Nat → Nat} {dA : Nat → ClassId} {ad : Nat → Nat} {base : Nat}
variable {p : Program} {l : Launch} {e : Env} {R : Room} {s : State} {m : MethodId} {args : Array Value} {below : List Frame} {meth : Method} {c : Code} {H : Heap} {locs : List Loc} {cells slots : Nat} {Q : State → Prop}
theorem zald_ok {t : Nat} {h : ZH} {a : Nat} {i : Int32} {v : Value} (hz : zald t h a i = some v) : ∃ (cc : Nat) (vs : List Value), h[a]? = some (cc, vs) ∧ zarr t cc = true ∧ vs[i.toNatClampNeg]? = some v ∧ i.toNatClampNeg < vs.length ∧ vp_in i vs.length := by
  unfold zald at hz
  cases hk : h[a]? with
  | none => rw [hk] at hz; cases hz
  | some x =>
    obtain ⟨cc, vs⟩ := x
    rw [hk] at hz
    obtain ⟨h1, h2⟩ := zcnd hz
    obtain ⟨j, h3, h4⟩ := zbind h2
    obtain ⟨e1, e2, e3⟩ := zix_ok h3
    subst e1
    exact ⟨cc, vs, rfl, h1, h4, e2, e3⟩
theorem zast_ok {t : Nat} {h h' : ZH} {a : Nat} {i : Int32} {v : Value} (hz : zast t h a i v = some h') : ∃ vs : List Value, h[a]? = some (t, vs) ∧ h' = h.set a (t, vs.set i.toNatClampNeg v) ∧ i.toNatClampNeg < vs.length ∧ vp_in i vs.length := by
  unfold zast at hz
  cases hk : h[a]? with
  | none => rw [hk] at hz; cases hz
  | some x =>
    obtain ⟨cc, vs⟩ := x
    rw [hk] at hz
    obtain ⟨h1, h2⟩ := zcnd hz
    obtain ⟨j, h3, h4⟩ := Option.map_eq_some_iff.mp h2
    obtain ⟨e1, e2, e3⟩ := zix_ok h3
    subst e1
    have e4 : cc = t := Nat.eq_of_beq_eq_true h1
    subst e4
    exact ⟨vs, rfl, h4.symm, e2, e3⟩
theorem zgetD {vs : List Value} {j : Nat} {v : Value} (h : vs[j]? = some v) : vs.getD j .null = v := by
  rw [List.getD_eq_getElem?_getD, h]
  rfl
theorem zisI_of {v : Value} (h : zisI v = true) : ∃ x, v = .int x := by cases v <;> first | exact ⟨_, rfl⟩ | cases h
theorem zisL_of {v : Value} (h : zisL v = true) : ∃ x, v = .long x := by cases v <;> first | exact ⟨_, rfl⟩ | cases h
theorem zisR_of {v : Value} (h : zisR v = true) : v = .null ∨ ∃ x, v = .ref x := by cases v <;> first | exact Or.inr ⟨_, rfl⟩ | exact Or.inl rfl | cases h
theorem zok_I {vs : List Value} {t : Nat} (ht : t = 10 ∨ t = 20) (h : zok (t, vs)) : ∀ v ∈ vs, zisI v = true := by
  rcases h with ⟨-, h⟩ | ⟨z, -⟩ | ⟨z, -⟩ | ⟨z, -⟩
  · exact h
  all_goals (dsimp only at z; omega)
theorem zok_L {vs : List Value} (h : zok (11, vs)) : ∀ v ∈ vs, zisL v = true := by
  rcases h with ⟨z, -⟩ | ⟨-, h⟩ | ⟨z, -⟩ | ⟨z, -⟩
  · dsimp only at z; omega
  · exact h
  all_goals (dsimp only at z; omega)
theorem zok_R {vs : List Value} {t : Nat} (ht : t = 12 ∨ t = 13) (h : zok (t, vs)) : ∀ v ∈ vs, zisR v = true := by
  rcases h with ⟨z, -⟩ | ⟨z, -⟩ | ⟨-, h⟩ | ⟨z, -⟩
  · dsimp only at z; omega
  · dsimp only at z; omega
  · exact h
  · dsimp only at z; omega
theorem zset_all {vs : List Value} {f : Value → Bool} {j : Nat} {v : Value} (h : ∀ x ∈ vs, f x = true) (hv : f v = true) : ∀ x ∈ vs.set j v, f x = true := by
  intro x hx
  rcases List.mem_or_eq_of_mem_set hx with q | q
  · exact h x q
  · rw [q]; exact hv
theorem z_iald {mn pc a : Nat} {i : Int32} {ls : Array Slot} {h : ZH} {v : Value} {st : List Value} (C : zC mn p R s m args meth c) (hK : zK dC dI dA ad base s) (hW : zW dC dI dA ad base s h H locs) (hz : zald 10 h a i = some v) (hd : decode (mB mn) pc = .ok (.iaload, 1))
    (kk : W p l e R s m args below meth c H locs cells slots Q (F0 m (pc + 1) ls (zv ad v :: st))) : W p l e R s m args below meth c H locs cells slots Q (F0 m pc ls (.int i :: .ref (ad a) :: st)) := by
  obtain ⟨hx, hb, -⟩ := C
  obtain ⟨cc, vs, hk, hc, hv, hlt, hin⟩ := zald_ok hz
  have ht : cc = 10 ∨ cc = 20 := by
    simp only [zarr, Bool.or_eq_true] at hc
    exact hc.imp Nat.eq_of_beq_eq_true Nat.eq_of_beq_eq_true
  obtain ⟨x, rfl⟩ := zisI_of (zok_I ht (hW.1.2.2 a _ hk).1 v (List.mem_of_getElem? hv))
  rcases ht with rfl | rfl
  · have h6 := zW_6 hW hk (by simp)
    have hwk := zw_at (dA := dA) (ad := ad) hk h6
    refine va_iald (f := fun j => zi (vs.getD j .null)) hx hb hK.2.1 hW.2.1 (a - 6) 0 hwk rfl hin hd ?_
    rw [zgetD hv]
    exact kk
  · have ha : a < 6 := ((hW.1.2.2 a _ hk).2).mp rfl
    obtain ⟨cell, t1, t2, t3, t4, t5, t6, t7⟩ := hW.2.2.2 a _ ha hk
    refine W.iald (v := .int x) hx hb (by rw [hW.2.2.1.2.1 _ (Array.getElem?_eq_some_iff.mp t1).1 t7]; exact t1) t2 t3 ?_ ?_ rfl rfl hd kk
    · intro z
      rcases z with z | z
      · exact hin (Or.inl z)
      · dsimp only at t4; omega
    · rw [t6 _ hlt]
      exact congrArg some (zgetD hv)
theorem z_lald {mn pc a : Nat} {i : Int32} {ls : Array Slot} {h : ZH} {v : Value} {st : List Value} (C : zC mn p R s m args meth c) (hK : zK dC dI dA ad base s) (hW : zW dC dI dA ad base s h H locs) (hz : zald 11 h a i = some v) (hd : decode (mB mn) pc = .ok (.laload, 1))
    (kk : W p l e R s m args below meth c H locs cells slots Q (F0 m (pc + 1) ls (zv ad v :: st))) : W p l e R s m args below meth c H locs cells slots Q (F0 m pc ls (.int i :: .ref (ad a) :: st)) := by
  obtain ⟨hx, hb, -⟩ := C
  obtain ⟨cc, vs, hk, hc, hv, hlt, hin⟩ := zald_ok hz
  have ht : cc = 11 := Nat.eq_of_beq_eq_true hc
  subst ht
  obtain ⟨x, rfl⟩ := zisL_of (zok_L (hW.1.2.2 a _ hk).1 v (List.mem_of_getElem? hv))
  have h6 := zW_6 hW hk (by simp)
  have hwk := zw_at (dA := dA) (ad := ad) hk h6
  refine va_lald (f := fun j => zl (vs.getD j .null)) hx hb hK.2.1 hW.2.1 (a - 6) 1 hwk rfl hin hd ?_
  rw [zgetD hv]
  exact kk
theorem zv_rf {ad : Nat → Nat} {v : Value} (h : zisR v = true) : va_rf (zr ad v) = zv ad v := by
  rcases zisR_of h with rfl | ⟨x, rfl⟩ <;> rfl
theorem z_aald {mn pc a : Nat} {i : Int32} {ls : Array Slot} {h : ZH} {v : Value} {st : List Value} (C : zC mn p R s m args meth c) (hK : zK dC dI dA ad base s) (hW : zW dC dI dA ad base s h H locs) (hz : zald 12 h a i = some v) (hd : decode (mB mn) pc = .ok (.aaload, 1))
    (kk : W p l e R s m args below meth c H locs cells slots Q (F0 m (pc + 1) ls (zv ad v :: st))) : W p l e R s m args below meth c H locs cells slots Q (F0 m pc ls (.int i :: .ref (ad a) :: st)) := by
  obtain ⟨hx, hb, -⟩ := C
  obtain ⟨cc, vs, hk, hc, hv, hlt, hin⟩ := zald_ok hz
  have ht : cc = 12 ∨ cc = 13 := by
    simp only [zarr, Bool.or_eq_true] at hc
    exact hc.imp Nat.eq_of_beq_eq_true Nat.eq_of_beq_eq_true
  have hr := zok_R ht (hW.1.2.2 a _ hk).1 v (List.mem_of_getElem? hv)
  have h6 := zW_6 hW hk (by dsimp only; omega)
  have hwk := zw_at (dA := dA) (ad := ad) hk h6
  rcases ht with rfl | rfl
  · refine va_aldq (C := RX0) (f := fun j => zr ad (vs.getD j .null)) hx hb hK.2.1 hW.2.1 (a - 6) 2 hwk rfl hin hd ?_
    rw [zgetD hv, zv_rf hr]
    exact kk
  · refine va_aldq (C := RX5) (f := fun j => zr ad (vs.getD j .null)) hx hb hK.2.1 hW.2.1 (a - 6) 3 hwk rfl hin hd ?_
    rw [zgetD hv, zv_rf hr]
    exact kk
theorem z_alen {mn pc a : Nat} {n : Int32} {ls : Array Slot} {h : ZH} {st : List Value} (C : zC mn p R s m args meth c) (hK : zK dC dI dA ad base s) (hW : zW dC dI dA ad base s h H locs) (hz : zlen h a = some n) (hd : decode (mB mn) pc = .ok (.arraylength, 1))
    (kk : W p l e R s m args below meth c H locs cells slots Q (F0 m (pc + 1) ls (.int n :: st))) : W p l e R s m args below meth c H locs cells slots Q (F0 m pc ls (.ref (ad a) :: st)) := by
  obtain ⟨hx, hb, -⟩ := C
  unfold zlen at hz
  cases hk : h[a]? with
  | none => rw [hk] at hz; cases hz
  | some x =>
    obtain ⟨cc, vs⟩ := x
    rw [hk] at hz
    obtain ⟨h1, h2⟩ := zcnd hz
    have h3 : 10 ≤ cc := Nat.le_of_ble_eq_true h1
    have hok := (hW.1.2.2 a _ hk).1
    have hcs : cc = 20 ∨ cc = 10 ∨ cc = 11 ∨ cc = 12 ∨ cc = 13 := by
      rcases hok with ⟨z, -⟩ | ⟨z, -⟩ | ⟨z, -⟩ | ⟨z, -⟩ <;> (dsimp only at z; omega)
    have hn : Int32.ofNat vs.length = n := Option.some.inj h2
    rcases hcs with rfl | hcs
    · have ha : a < 6 := ((hW.1.2.2 a _ hk).2).mp rfl
      obtain ⟨cell, t1, t2, t3, t4, t5, t6, t7⟩ := hW.2.2.2 a _ ha hk
      exact W.alen (n := n) hx hb (by rw [hW.2.2.1.2.1 _ (Array.getElem?_eq_some_iff.mp t1).1 t7]; exact t1) t2 (by rw [t5]; exact hn) rfl rfl hd kk
    · have h6 := zW_6 hW hk (by dsimp only; omega)
      have hwk := zw_at (dA := dA) (ad := ad) hk h6
      rcases hcs with rfl | rfl | rfl | rfl
      · exact va_alen hx hb hK.2.1 hW.2.1 (a - 6) 0 hwk rfl hn hd kk
      · exact va_alen hx hb hK.2.1 hW.2.1 (a - 6) 1 hwk rfl hn hd kk
      · exact va_alen hx hb hK.2.1 hW.2.1 (a - 6) 2 hwk rfl hn hd kk
      · exact va_alen hx hb hK.2.1 hW.2.1 (a - 6) 3 hwk rfl hn hd kk
theorem zfun_set {α : Type} (g : Value → α) (d : Value) {vs : List Value} {j : Nat} {v : Value} (hj : j < vs.length) (q : Nat) : g ((vs.set j v).getD q d) = if q = j then g v else g (vs.getD q d) := by
  rw [List.getD_eq_getElem?_getD, List.getD_eq_getElem?_getD]
  by_cases h : q = j
  · subst h
    rw [List.getElem?_set_self hj, if_pos rfl]
    rfl
  · rw [List.getElem?_set_ne (Ne.symm h), if_neg h]
theorem z_iast {mn pc a : Nat} {i x : Int32} {ls : Array Slot} {h h' : ZH} {st : List Value} (C : zC mn p R s m args meth c) (hAd : zAd ad base) (hK : zK dC dI dA ad base s) (hW : zW dC dI dA ad base s h H locs) (hz : zast 10 h a i (.int x) = some h') (hd : decode (mB mn) pc = .ok (.iastore, 1))
    (kk : ∀ (H' : Heap) (locs' : List Loc), zW dC dI dA ad base s h' H' locs' → W p l e R s m args below meth c H' locs' cells slots Q (F0 m (pc + 1) ls st)) : W p l e R s m args below meth c H locs cells slots Q (F0 m pc ls (.int x :: .int i :: .ref (ad a) :: st)) := by
  obtain ⟨hx, hb, -⟩ := C
  obtain ⟨vs, hk, he, hlt, hin⟩ := zast_ok hz
  subst he
  have h6 := zW_6 hW hk (by simp)
  have hwk := zw_at (dA := dA) (ad := ad) hk h6
  have hok := zok_I (Or.inl rfl) (hW.1.2.2 a _ hk).1
  refine W.iast hx hb (hW.2.1 _ _ hwk) ((hK.2.1.2 0 _ rfl).1 _ (fun j => .int (zi (vs.getD j .null)))) (fun q => by cases q) (by show ¬ (i < 0 ∨ (arrV _ _ _).slots.size ≤ _); rw [arrV_size]; exact hin) rfl rfl hd fun H1 e1 z oq => ?_
  refine kk H1 _ (zW_set hAd hW hk h6 (Or.inl ⟨Or.inl rfl, zset_all hok rfl⟩) (by simp) ?_ z oq _ hK.1)
  show H1[ad a]? = some (vp_cell _ _)
  rw [e1]
  rw [vp_cell_i, vp_cell_i, arrV_store, List.length_set]
  congr 2
  funext q
  rw [zfun_set zi .null hlt]
  by_cases hq : q = i.toNatClampNeg
  · subst hq
    simp [updV, zi]
  · simp [updV, hq]
theorem z_last {mn pc a : Nat} {i : Int32} {x : Int64} {ls : Array Slot} {h h' : ZH} {st : List Value} (C : zC mn p R s m args meth c) (hAd : zAd ad base) (hK : zK dC dI dA ad base s) (hW : zW dC dI dA ad base s h H locs) (hz : zast 11 h a i (.long x) = some h') (hd : decode (mB mn) pc = .ok (.lastore, 1))
    (kk : ∀ (H' : Heap) (locs' : List Loc), zW dC dI dA ad base s h' H' locs' → W p l e R s m args below meth c H' locs' cells slots Q (F0 m (pc + 1) ls st)) : W p l e R s m args below meth c H locs cells slots Q (F0 m pc ls (.long x :: .int i :: .ref (ad a) :: st)) := by
  obtain ⟨hx, hb, -⟩ := C
  obtain ⟨vs, hk, he, hlt, hin⟩ := zast_ok hz
  subst he
  have h6 := zW_6 hW hk (by simp)
  have hwk := zw_at (dA := dA) (ad := ad) hk h6
  have hok := zok_L (hW.1.2.2 a _ hk).1
  refine W.last hx hb (hW.2.1 _ _ hwk) ((hK.2.1.2 1 _ rfl).1 _ (fun j => .long (zl (vs.getD j .null)))) (fun q => by cases q) (by show ¬ (i < 0 ∨ (arrV _ _ _).slots.size ≤ _); rw [arrV_size]; exact hin) rfl rfl hd fun H1 e1 z oq => ?_
  refine kk H1 _ (zW_set hAd hW hk h6 (Or.inr (Or.inl ⟨rfl, zset_all hok rfl⟩)) (by simp) ?_ z oq _ hK.1)
  show H1[ad a]? = some (vp_cell _ _)
  rw [e1]
  rw [vp_cell_l, vp_cell_l, arrV_store, List.length_set]
  congr 2
  funext q
  rw [zfun_set zl .null hlt]
  by_cases hq : q = i.toNatClampNeg
  · subst hq
    simp [updV, zl]
  · simp [updV, hq]
theorem z_aast0 {mn pc a b t ci t0 : Nat} {i : Int32} {ls : Array Slot} {h : ZH} {vs fs : List Value} {st : List Value} (C : zC mn p R s m args meth c) (hAd : zAd ad base) (hK : zK dC dI dA ad base s) (hW : zW dC dI dA ad base s h H locs) (hk : h[a]? = some (t, vs)) (hlt : i.toNatClampNeg < vs.length) (hin : vp_in i vs.length) (hbk : h[b]? = some (ci, fs)) (hci : ci < 8) (ht : t = 12 ∨ t = 13) (hty : (ztys dA)[t0]? = some (dA t0, .object (zR ci))) (hE : ∀ v : List Value, zE dA ad (t, v) = .inl (dA t0, v.length, .inr (.inr (.inr (.inr (fun j => zr ad (v.getD j .null))))))) (hd : decode (mB mn) pc = .ok (.aastore, 1))
    (kk : ∀ (H' : Heap) (locs' : List Loc), zW dC dI dA ad base s (h.set a (t, vs.set i.toNatClampNeg (.ref b))) H' locs' → W p l e R s m args below meth c H' locs' cells slots Q (F0 m (pc + 1) ls st)) : W p l e R s m args below meth c H locs cells slots Q (F0 m pc ls (.ref (ad b) :: .int i :: .ref (ad a) :: st)) := by
  obtain ⟨hx, hb, -⟩ := C
  have h6 := zW_6 hW hk (by dsimp only; omega)
  have hwk := zw_at (dA := dA) (ad := ad) hk h6
  rw [hE] at hwk
  have hb6 := zW_6 hW hbk (by dsimp only; omega)
  have hwb := zw_at (dA := dA) (ad := ad) hbk hb6
  rw [zE_obj hci] at hwb
  have hok := zok_R ht (hW.1.2.2 a _ hk).1
  have hc := zvw ci hci
  obtain ⟨kA, comp, hkA, hkd, hcomp, -⟩ := (hK.2.1.2 t0 _ hty).2
  obtain ⟨r', g1, cellv, g2, g3, g4, -⟩ := hW.2.1 _ _ hwb
  have hr' : r' = (zR ci, zT ci, zN ci) := Option.some.inj (g1.symm.trans hc)
  subst hr'
  obtain ⟨-, hfc, kC, hkC, -⟩ := hK.2.1.1 ci _ hc
  have hcv : cellv.cls = comp := by rw [g3]; exact Option.some.inj (hfc.symm.trans hcomp)
  have hkv : s.vm.classes[cellv.cls]? = some kC := by rw [g3]; exact hkC
  refine W.aast (t := .object (zR ci)) (comp := comp) (kcomp := kC) hx hb (hW.2.1 _ _ hwk) (fun q z => by cases z) (fun q => by cases q) hkA hkd rfl (by rw [← hcv]; exact hkv) ⟨fun z => hin (Or.inl z), by show _ < (arrV _ _ _).slots.size; rw [arrV_size]; exact hlt⟩ g2 (fun q z => by rw [g4] at z; cases z) hkv (by rw [hcv]; exact va_asg s.vm comp) rfl rfl hd fun H1 e1 z oq => ?_
  refine kk H1 _ (zW_set hAd hW hk h6 (Or.inr (Or.inr (Or.inl ⟨ht, zset_all hok rfl⟩))) (by dsimp only; omega) ?_ z oq _ hK.1)
  rw [hE]
  show H1[ad a]? = some (vp_cell _ _)
  rw [e1]
  rw [vp_cell_q, vp_cell_q, arrV_store, List.length_set]
  congr 2
  funext q
  rw [zfun_set (zr ad) .null hlt]
  by_cases hq : q = i.toNatClampNeg
  · subst hq
    simp [updV, zr, va_rf]
  · simp [updV, hq]
theorem z_aast {mn pc a b t : Nat} {i : Int32} {ls : Array Slot} {h h' : ZH} {st : List Value} (C : zC mn p R s m args meth c) (hAd : zAd ad base) (hK : zK dC dI dA ad base s) (hW : zW dC dI dA ad base s h H locs) (ht : zat h b = some t) (hz : zast t h a i (.ref b) = some h') (hd : decode (mB mn) pc = .ok (.aastore, 1))
    (kk : ∀ (H' : Heap) (locs' : List Loc), zW dC dI dA ad base s h' H' locs' → W p l e R s m args below meth c H' locs' cells slots Q (F0 m (pc + 1) ls st)) : W p l e R s m args below meth c H locs cells slots Q (F0 m pc ls (.ref (ad b) :: .int i :: .ref (ad a) :: st)) := by
  obtain ⟨vs, hk, he, hlt, hin⟩ := zast_ok hz
  subst he
  unfold zat at ht
  split at ht
  · rename_i fs hbk
    cases ht
    exact z_aast0 (t0 := 2) C hAd hK hW hk hlt hin hbk (by decide) (Or.inl rfl) rfl (fun v => rfl) hd kk
  · rename_i fs hbk
    cases ht
    exact z_aast0 (t0 := 3) C hAd hK hW hk hlt hin hbk (by decide) (Or.inr rfl) rfl (fun v => rfl) hd kk
  · cases ht
theorem z_new {mn pc idx : Nat} {ls : Array Slot} {h : ZH} {st : List Value} {q : Nat × Nat} (C : zC mn p R s m args meth c) (hAd : zAd ad base) (hK : zK dC dI dA ad base s) (hW : zW dC dI dA ad base s h H locs) (hq : zkl mn idx zCl = some q) (hd : decode (mB mn) pc = .ok (.new idx, 3)) (hcells : cells + 1 ≤ R.cells) (hslots : slots + zN q.1 ≤ R.slots)
    (kk : ∀ (H' : Heap), zW dC dI dA ad base s (h ++ [(q.1, zdef q.1)]) H' locs → W p l e R s m args below meth c H' locs (cells + 1) (slots + zN q.1) Q (F0 m (pc + 3) ls (.ref (ad h.length) :: st))) : W p l e R s m args below meth c H locs cells slots Q (F0 m pc ls st) := by
  obtain ⟨hx, hb, -, hown, hts, -⟩ := C
  obtain ⟨hi, hmem, e1, e2⟩ := zkl_ok hq
  obtain ⟨f1, f2⟩ := zCl_ok _ hmem
  obtain ⟨ci, pl⟩ := q
  dsimp only at f1 f2 hslots kk
  have hw := hts _ (zG_in f1 rfl)
  rw [e1, e2] at hw
  obtain ⟨g1, g2⟩ := zin ci (List.mem_range.mpr f2)
  have hin : ∀ w ∈ u_ws (zR ci) (zT ci) (zN ci), w ∈ zG := zuw ci (List.mem_range.mpr f2)
  have hc := zvw ci f2
  have hKn := hK.2.1.1 ci _ hc
  have hz0 : H.size = ad h.length := by rw [hAd _ hW.1.1]; exact hW.1.2.1
  refine W.newcK hx hb hown hw (hts _ g1) (hts _ g2) rfl hd hcells hslots hKn.2.1 rfl fun H1 kC hkC e1 z1 o1 => ?_
  have hlen : (zdef ci).length = zN ci := by simp [zdef]
  have hW' : zW dC dI dA ad base s (h ++ [(ci, zdef ci)]) H1 locs := by
    refine zW_push hAd hW (Or.inr (Or.inr (Or.inr ⟨f2, hlen⟩))) (by dsimp only; omega) ?_ z1 o1
    rw [zE_obj f2, ← hz0]
    refine ⟨_, hc, (u_born (zTy ci) hts hin hKn hkC e1 (zty_ok ci f2)).to fun j hj => ?_⟩
    have h1 : (zdef ci)[j]? = some (defaultValue (zTy ci j)) := by
      unfold zdef
      rw [List.getElem?_map, List.getElem?_range hj]
      rfl
    unfold vp_V
    rw [List.getD_eq_getElem?_getD, List.getElem?_map, h1]
    cases zTy ci j <;> rfl
  have := kk H1 hW'
  rw [← hz0] at this
  exact this
theorem z_newa {mn pc t : Nat} {n : Int32} {at_ : ArrayType} {ty : FieldType} {v0 : Value} {ls : Array Slot} {h : ZH} {st : List Value} (C : zC mn p R s m args meth c) (hAd : zAd ad base) (hK : zK dC dI dA ad base s) (hW : zW dC dI dA ad base s h H locs) (hty : newarray.typeOf at_ = ty) (htt : (t = 10 ∧ ty = .int ∧ v0 = .int 0) ∨ (t = 11 ∧ ty = .long ∧ v0 = .long 0)) (hn : ¬ n < 0) (hbig : ¬ 1000000 < n.toNatClampNeg) (hd : decode (mB mn) pc = .ok (.newarray at_, 2)) (hcells : cells + 1 ≤ R.cells) (hslots : slots + n.toNatClampNeg ≤ R.slots)
    (kk : ∀ (H' : Heap), zW dC dI dA ad base s (h ++ [(t, List.replicate n.toNatClampNeg v0)]) H' locs → W p l e R s m args below meth c H' locs (cells + 1) (slots + n.toNatClampNeg) Q (F0 m (pc + 2) ls (.ref (ad h.length) :: st))) : W p l e R s m args below meth c H locs cells slots Q (F0 m pc ls (.int n :: st)) := by
  obtain ⟨hx, hb, -, hown, hts, -⟩ := C
  have hz0 : H.size = ad h.length := by rw [hAd _ hW.1.1]; exact hW.1.2.1
  have harr : (Cond.arrayClass (newarray.typeOf at_)).before args s = true := by
    rw [hty]
    rcases htt with ⟨-, rfl, -⟩ | ⟨-, rfl, -⟩
    · exact hts _ zac.1
    · exact hts _ zac.2.1
  refine va_newaK hx hb harr rfl hd rfl hn rfl ?_ hcells hslots rfl fun H1 cA e1 z1 o1 hAr hNm => ?_
  · rw [hty]
    rcases htt with ⟨-, rfl, -⟩ | ⟨-, rfl, -⟩
    · show n.toNatClampNeg * 4 ≤ _; omega
    · show n.toNatClampNeg * 8 ≤ _; omega
  · have hW' : zW dC dI dA ad base s (h ++ [(t, List.replicate n.toNatClampNeg v0)]) H1 locs := by
      rw [hty] at e1 hNm
      rcases htt with ⟨rfl, rfl, rfl⟩ | ⟨rfl, rfl, rfl⟩
      · have hcA : cA = dA 0 := Option.some.inj (hNm.symm.trans (hK.2.1.2 0 _ rfl).2)
        subst hcA
        refine zW_push hAd hW (Or.inl ⟨Or.inl rfl, fun v hv => by rw [(List.mem_replicate.mp hv).2]; rfl⟩) (by simp) ?_ z1 o1
        show H1[ad h.length]? = some (vp_cell _ _)
        rw [← hz0, e1, vp_cell_i, List.length_replicate]
        congr 2
        funext j
        rw [List.getD_eq_getElem?_getD, List.getElem?_replicate]
        split <;> rfl
      · have hcA : cA = dA 1 := Option.some.inj (hNm.symm.trans (hK.2.1.2 1 _ rfl).2)
        subst hcA
        refine zW_push hAd hW (Or.inr (Or.inl ⟨rfl, fun v hv => by rw [(List.mem_replicate.mp hv).2]; rfl⟩)) (by simp) ?_ z1 o1
        show H1[ad h.length]? = some (vp_cell _ _)
        rw [← hz0, e1, vp_cell_l, List.length_replicate]
        congr 2
        funext j
        rw [List.getD_eq_getElem?_getD, List.getElem?_replicate]
        split <;> rfl
    have := kk H1 hW'
    rw [← hz0] at this
    exact this
theorem z_newq {mn pc t ci t0 idx pl : Nat} {n : Int32} {ls : Array Slot} {h : ZH} {st : List Value} (C : zC mn p R s m args meth c) (hAd : zAd ad base) (hK : zK dC dI dA ad base s) (hW : zW dC dI dA ad base s h H locs) (hq : zkl mn idx zCl = some (ci, pl)) (ht : t = 12 ∨ t = 13) (hao : va_AO (zR ci) s) (hty : (ztys dA)[t0]? = some (dA t0, .object (zR ci))) (hE : ∀ v : List Value, zE dA ad (t, v) = .inl (dA t0, v.length, .inr (.inr (.inr (.inr (fun j => zr ad (v.getD j .null))))))) (hn : ¬ n < 0) (hbig : ¬ 1000000 < n.toNatClampNeg) (hd : decode (mB mn) pc = .ok (.anewarray idx, 3)) (hcells : cells + 1 ≤ R.cells) (hslots : slots + n.toNatClampNeg ≤ R.slots)
    (kk : ∀ (H' : Heap), zW dC dI dA ad base s (h ++ [(t, List.replicate n.toNatClampNeg .null)]) H' locs → W p l e R s m args below meth c H' locs (cells + 1) (slots + n.toNatClampNeg) Q (F0 m (pc + 3) ls (.ref (ad h.length) :: st))) : W p l e R s m args below meth c H locs cells slots Q (F0 m pc ls (.int n :: st)) := by
  obtain ⟨hx, hb, -, hown, hts, -⟩ := C
  obtain ⟨hi, hmem, e1, e2⟩ := zkl_ok hq
  obtain ⟨f1, f2⟩ := zCl_ok _ hmem
  have hw := hts _ (zG_in f1 rfl)
  dsimp only at hw
  rw [e1, e2] at hw
  have hz0 : H.size = ad h.length := by rw [hAd _ hW.1.1]; exact hW.1.2.1
  refine W.anew (C := zR ci) hx hb hown hw hao.use rfl hd rfl hn (by omega) hcells hslots fun cA kA comp h1 h2 h3 h4 => ?_
  obtain ⟨-, -, -, -, -, hfn⟩ := (hK.2.1.2 t0 _ hty).2
  have hcA : cA = dA t0 := Option.some.inj (h1.symm.trans hfn)
  subst hcA
  have hW' : zW dC dI dA ad base s (h ++ [(t, List.replicate n.toNatClampNeg .null)]) (H.push { cls := dA t0, slots := Array.replicate n.toNatClampNeg .null, vm := .none }) locs := by
    refine zW_push hAd hW (Or.inr (Or.inr (Or.inl ⟨ht, fun v hv => by rw [(List.mem_replicate.mp hv).2]; rfl⟩))) (by dsimp only; omega) ?_ (by simp) (fun q hq => by rw [Array.getElem?_push, if_neg (Nat.ne_of_lt hq)])
    rw [hE]
    show (H.push _)[ad h.length]? = some (vp_cell _ _)
    rw [← hz0, vp_cell_q, List.length_replicate]
    have e3 : (fun j => va_rf (zr ad ((List.replicate n.toNatClampNeg Value.null).getD j .null))) = fun _ => Value.null := by
      funext j
      rw [List.getD_eq_getElem?_getD, List.getElem?_replicate]
      split <;> rfl
    rw [e3, ← arrV_new]
    simp
  have := kk _ hW'
  rw [← hz0] at this
  exact this
end ZJ
