/-! ONE INSTRUCTION -/
theorem zfit_ok {ty : FieldType} {v : Value} (ad : Nat → Nat) (h : zfit ty v = true) : narrow ty (zv ad v) = zv ad v ∧ fits ty (zv ad v) = true := by
  unfold zfit at h
  split at h
  · simp only [Bool.or_eq_true, beq_iff_eq] at h
    rcases h with rfl | rfl <;> exact ⟨rfl, rfl⟩
  all_goals first | exact ⟨rfl, rfl⟩ | cases h
theorem zsl_le_app (a b : ZH) : zsl a ≤ zsl (a ++ b) := by rw [zsl_app]; omega
theorem zjm_ok {pc t : Nat} {off : Int} (h : zjm pc off = some t) : (pc : Int) + off = (t : Int) := by
  unfold zjm at h
  split at h
  · rename_i x hx
    cases h
    exact hx
  · cases h
theorem zix_ok {i : Int32} {n j : Nat} (h : zix i n = some j) : j = i.toNatClampNeg ∧ j < n ∧ vp_in i n := by
  unfold zix at h
  split at h
  · cases h
  · rename_i h1
    split at h
    · rename_i h2
      cases h
      exact ⟨rfl, h2, fun q => q.elim h1 (fun q => absurd h2 (by omega))⟩
    · cases h
theorem zbind {α β : Type} {x : Option α} {f : α → Option β} {b : β} (h : x.bind f = some b) : ∃ a, x = some a ∧ f a = some b := Option.bind_eq_some_iff.mp h
theorem zcnd {α : Type} {b : Bool} {x : Option α} {y : α} (h : cond b x none = some y) : b = true ∧ x = some y := by
  cases b with
  | true => exact ⟨rfl, h⟩
  | false => cases h
theorem zkl_ok {α : Type} {m idx : Nat} {l : List (Nat × α)} {b : α} (h : zkl m idx l = some b) : idx < 1000 ∧ (zkey m idx, b) ∈ l ∧ zkey m idx / 1000 = mO m ∧ zkey m idx % 1000 = idx := by
  obtain ⟨h1, h2⟩ := zcnd h
  have h3 : idx < 1000 := by simpa [Nat.blt_eq] using h1
  refine ⟨h3, zlk_mem h2, ?_, ?_⟩
  · unfold zkey; omega
  · unfold zkey; omega
theorem zloadI {L : List Value} {k : Nat} {v : Value} (h : zload L k zisI = some v) : ∃ x, v = .int x ∧ L[k]? = some (.int x) := by
  unfold zload at h
  cases hv : L[k]? with
  | none => rw [hv] at h; cases h
  | some w =>
    rw [hv] at h
    obtain ⟨h1, h2⟩ := zcnd h
    cases h2
    cases v <;> first | exact ⟨_, rfl, rfl⟩ | cases h1
theorem zloadL {L : List Value} {k : Nat} {v : Value} (h : zload L k zisL = some v) : ∃ x, v = .long x ∧ L[k]? = some (.long x) := by
  unfold zload at h
  cases hv : L[k]? with
  | none => rw [hv] at h; cases h
  | some w =>
    rw [hv] at h
    obtain ⟨h1, h2⟩ := zcnd h
    cases h2
    cases v <;> first | exact ⟨_, rfl, rfl⟩ | cases h1
theorem zloadR {L : List Value} {k : Nat} {v : Value} (h : zload L k zisR = some v) : (v = .null ∧ L[k]? = some .null) ∨ ∃ x, v = .ref x ∧ L[k]? = some (.ref x) := by
  unfold zload at h
  cases hv : L[k]? with
  | none => rw [hv] at h; cases h
  | some w =>
    rw [hv] at h
    obtain ⟨h1, h2⟩ := zcnd h
    cases h2
    cases v <;> first | exact Or.inr ⟨_, rfl, rfl⟩ | exact Or.inl ⟨rfl, rfl⟩ | cases h1
/-- the constants of a frame -/
def zC (mn : Nat) (p : Program) (R : Room) (s : State) (m : MethodId) (args : Array Value) (meth : Method) (c : Code) : Prop :=
  p.tables.exec = Jvm.exec ∧ c.code = mB mn ∧ c.maxLocals = mL mn ∧ s.vm.findClass (zR (mO mn)) = some m.cls ∧ (∀ w ∈ zG, w.before args s = true) ∧ (1 ≤ R.frames ∧ 32 ≤ R.locals) ∧ ((mY mn).name = "<init>" → meth.name = "<init>") ∧ mn < 134
section ZI
variable {dC : Nat → ClassId} {dI : Nat → Nat → Nat} {dA : Nat → ClassId} {ad : Nat → Nat} {base : Nat}
variable {p : Program} {l : Launch} {e : Env} {R : Room} {s : State} {m : MethodId} {args : Array Value} {below : List Frame} {meth : Method} {c : Code} {H : Heap} {locs : List Loc} {cells slots : Nat} {Q : State → Prop}
theorem z_get {mn pc a : Nat} {ls : Array Slot} {h : ZH} {fs : List Value} {v : Value} {st : List Value} {q : Nat × Nat × Nat × Nat} {idx : Nat} (C : zC mn p R s m args meth c) (hK : zK dC dI dA ad base s) (hW : zW dC dI dA ad base s h H locs) (hq : zkl mn idx zFl = some q) (hd : decode (mB mn) pc = .ok (.getfield idx, 3)) (hk : h[a]? = some (q.1, fs)) (hv : fs[q.2.1]? = some v)
    (kk : W p l e R s m args below meth c H locs cells slots Q (F0 m (pc + 3) ls (zv ad v :: st))) : W p l e R s m args below meth c H locs cells slots Q (F0 m pc ls (.ref (ad a) :: st)) := by
  obtain ⟨hx, hb, -, hown, hts, -, -, -⟩ := C
  obtain ⟨hi, hmem, e1, e2⟩ := zkl_ok hq
  obtain ⟨f1, f2, f3⟩ := zFl_ok _ hmem
  obtain ⟨ci, j, nest, pl⟩ := q
  dsimp only at f1 f2 f3 hk hv
  have h6 : 6 ≤ a := zW_6 hW hk (by show ¬ ci = 20; omega)
  have hwk := zw_at (dA := dA) (ad := ad) hk h6
  rw [zE_obj f2] at hwk
  have hin : ∀ w ∈ u_ws (zR ci) (zT ci) (zN ci), w ∈ zG := zuw ci (List.mem_range.mpr f2)
  have hvm : (fs.map (zv ad))[j]? = some (zv ad v) := by rw [List.getElem?_map, hv]; rfl
  cases nest with
  | zero =>
    refine va_get (D := (dC, dI)) (C := zR ci) (T := zT ci) (N := zN ci) hx hb hts hin hown hK.2.1 hW.2.1 (a - 6) hwk (zvw ci f2) j f3 (ref := (zT ci j).1) (index := idx) ?_ (fun _ z => z) hvm hd kk
    have hw := hts _ (zG_in f1 rfl)
    unfold zFc at hw
    dsimp only at hw
    rw [e1, e2] at hw
    exact hw
  | succ n =>
    refine va_getN (D := (dC, dI)) (C := zR ci) (T := zT ci) (N := zN ci) (host := "AlbumSetter") hx hb hts hin hown hK.2.1 hW.2.1 (a - 6) hwk (zvw ci f2) j f3 (ref := (zT ci j).1) (index := idx) ?_ (fun _ z => z) hvm hd kk
    have hw : va_Nw _ s := hK.2.2.1 _ (zNw_in f1 rfl)
    unfold zFc at hw
    dsimp only at hw
    rw [e1, e2] at hw
    exact va_Nw.use rfl hw
theorem z_putat {h : ZH} {k ci j : Nat} {fs : List Value} {v : Value} (hc : ci < 8) (hl : j < fs.length) {cell : Cell} {H' : Heap} (q2 : cell.cls = dC ci) (q3 : cell.vm = .none) (q4 : ∀ k, k < zN ci → cell.slots[dI ci k]? = some (vp_V (fs.map (zv ad)) k)) (hap : ∀ x y, x < zN ci → y < zN ci → x ≠ y → dI ci x ≠ dI ci y) (hj : j < zN ci) (e1 : H'[ad k]? = some (cell.setSlot (dI ci j) (zv ad v))) :
    va_at (dC, dI) vwCl (ad k, zE dA ad (ci, fs.set j v)) H' := by
  rw [zE_obj hc]
  refine ⟨_, zvw ci hc, ?_⟩
  have hm : (fs.set j v).map (zv ad) = (fs.map (zv ad)).set j (zv ad v) := by rw [List.map_set]
  rw [hm]
  exact t_OB.to (V := updV (vp_V (fs.map (zv ad))) j (zv ad v)) ⟨_, e1, q2, q3, t_set q4 hap hj (zv ad v)⟩ (fun i _ => vp_updV_set (by rw [List.length_map]; exact hl) (zv ad v) i)
theorem z_put {mn pc a : Nat} {ls : Array Slot} {h : ZH} {fs : List Value} {v : Value} {st : List Value} {q : Nat × Nat × Nat × Nat} {idx : Nat} (C : zC mn p R s m args meth c) (hAd : zAd ad base) (hK : zK dC dI dA ad base s) (hW : zW dC dI dA ad base s h H locs) (hf : zf mn pc = some (.putfield idx, 3)) (hq : zkl mn idx zFl = some q) (hk : h[a]? = some (q.1, fs)) (hl : q.2.1 < fs.length) (hfit : zfit (zTy q.1 q.2.1) v = true)
    (kk : ∀ (H' : Heap) (locs' : List Loc), zW dC dI dA ad base s (h.set a (q.1, fs.set q.2.1 v)) H' locs' → W p l e R s m args below meth c H' locs' cells slots Q (F0 m (pc + 3) ls st)) : W p l e R s m args below meth c H locs cells slots Q (F0 m pc ls (zv ad v :: .ref (ad a) :: st)) := by
  obtain ⟨hx, hb, -, hown, hts, -, hnm, hmn⟩ := C
  have hd := zf_ok hf
  obtain ⟨hi, hmem, e1, e2⟩ := zkl_ok hq
  obtain ⟨f1, f2, f3⟩ := zFl_ok _ hmem
  have hpf : zpf mn = true := zpf_ok mn (List.mem_range.mpr hmn)
  have hpf2 := List.all_eq_true.mp hpf _ (zlk_mem hf)
  dsimp only at hpf2
  rw [hq] at hpf2
  obtain ⟨ci, j, nest, pl⟩ := q
  dsimp only at f1 f2 f3 hk hl hfit hpf2 kk
  have h6 : 6 ≤ a := zW_6 hW hk (by show ¬ ci = 20; omega)
  have hwk := zw_at (dA := dA) (ad := ad) hk h6
  rw [zE_obj f2] at hwk
  have hin : ∀ w ∈ u_ws (zR ci) (zT ci) (zN ci), w ∈ zG := zuw ci (List.mem_range.mpr f2)
  have hK1 := hK.2.1
  have hc := zvw ci f2
  have hap := va_apart (D := (dC, dI)) (own := zR ci) hts hin (zTy ci) (zty_ok ci f2) (znm ci f2) hK1 hc
  obtain ⟨r, h1, cell, q1, q2, q3, q4⟩ := hW.2.1 _ _ hwk
  have hr : r = (zR ci, zT ci, zN ci) := Option.some.inj (h1.symm.trans hc)
  subst hr
  obtain ⟨hS, hfc, kC, hkC, hkind⟩ := hK1.1 ci _ hc
  obtain ⟨cf, kf, fi, f, hif, hsl⟩ := hS j f3
  obtain ⟨hn, hft⟩ := zfit_ok ad hfit
  have hok : zok (ci, fs.set j v) := by
    have := (hW.1.2.2 a _ hk).1
    rcases this with ⟨z, -⟩ | ⟨z, -⟩ | ⟨z, -⟩ | ⟨z, z2⟩
    · dsimp only at z; omega
    · dsimp only at z; omega
    · dsimp only at z; omega
    · exact Or.inr (Or.inr (Or.inr ⟨z, by rw [List.length_set]; exact z2⟩))
  have fin : ∀ (H' : Heap) (i : Nat), H'[ad a]? = some (cell.setSlot (dI ci j) (zv ad v)) → H'.size = H.size → (∀ q, q ≠ ad a → H'[q]? = H[q]?) → zW dC dI dA ad base s (h.set a (ci, fs.set j v)) H' (locs ++ [⟨ad a, i⟩]) := by
    intro H' i g1 g2 g3
    exact zW_set hAd hW hk h6 hok (by show ¬ ci = 20; omega) (z_putat (h := h) f2 hl q2 q3 q4 hap f3 g1) g2 g3 i hK.1
  have hst := (u_facts hfc hkC (u_lays hts hin f3) hif).1
  have hlay := hts _ (hin _ (u_in_lay f3))
  cases nest with
  | zero =>
    have hw := hts _ (zG_in f1 rfl)
    unfold zFc at hw
    dsimp only at hw
    rw [e1, e2] at hw
    cases hfin : (zT ci j).2.2.2 with
    | false =>
      unfold u_lay at hlay
      rw [if_neg (by rw [hfin]; decide)] at hlay
      have h6 := u_store hfc hkC hkind hlay hif (zty_ok ci f2 j f3) hn hft
      refine W.putK hx hb (f := f) ⟨hown, hw, ⟨_, _, _, hif⟩, hst⟩ (by rw [q2]; exact h6) q1 q3 (by rw [hsl]; exact k2_hasslot (q4 j f3)) rfl rfl hd fun H' g1 g2 g3 => ?_
      rw [hsl] at g1
      exact kk H' _ (fin H' _ g1 g2 g3)
    | true =>
      rw [hfin] at hpf2
      simp only [Bool.not_true, Bool.false_or, Bool.and_eq_true, decide_eq_true_eq] at hpf2
      obtain ⟨p1, p2, -⟩ := hpf2
      have p2 : mO mn = ci := Nat.eq_of_beq_eq_true p2
      unfold u_lay at hlay
      rw [if_pos hfin] at hlay
      have hcf : m.cls = cf := by
        obtain ⟨_, _, c', _, _, _, -, -, hf', -, -, -, hown2, -⟩ := Cond.laysFinal_spec hlay
        have e1 : c' = cf := by have := hif.symm.trans hf'; simp at this; exact this.1.symm
        rw [zfinal ci (List.mem_range.mpr f2) j (List.mem_range.mpr f3)] at hown2
        rw [p2] at hown
        rw [← e1]; exact Option.some.inj (hown.symm.trans hown2)
      have h6 := u_fits hfc hkC hkind (Or.inr hlay) hif (zty_ok ci f2 j f3) hn hft
      refine W.putFinK hx hb hown hw hif hst hcf (hnm p1) (by rw [q2]; exact h6) q1 q3 (by rw [hsl]; exact k2_hasslot (q4 j f3)) rfl rfl hd fun H' g1 g2 g3 => ?_
      rw [hsl] at g1
      exact kk H' _ (fin H' _ g1 g2 g3)
  | succ n =>
    have hw : va_Nw _ s := hK.2.2.1 _ (zNw_in f1 rfl)
    unfold zFc at hw
    dsimp only at hw
    rw [e1, e2] at hw
    have hw := va_Nw.use (A := args) rfl hw
    have hfin : (zT ci j).2.2.2 = false := by
      cases hfin : (zT ci j).2.2.2 with
      | false => rfl
      | true =>
        rw [hfin] at hpf2
        simp only [Bool.not_true, Bool.false_or, Bool.and_eq_true] at hpf2
        exact absurd (show false = true from hpf2.2.2) (by decide)
    unfold u_lay at hlay
    rw [if_neg (by rw [hfin]; decide)] at hlay
    have h6 := u_store hfc hkC hkind hlay hif (zty_ok ci f2 j f3) hn hft
    refine va_WputK hx hb (f := f) hown hw hif hst (by rw [q2]; exact h6) q1 q3 (by rw [hsl]; exact k2_hasslot (q4 j f3)) rfl rfl hd fun H' g1 g2 g3 => ?_
    rw [hsl] at g1
    exact kk H' _ (fin H' _ g1 g2 g3)
end ZI
