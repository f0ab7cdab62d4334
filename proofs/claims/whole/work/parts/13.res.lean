/-! THE ABSTRACT MACHINE WITHOUT FUEL: zres (from a place in a method on) and zcl (a call), by equations -/
theorem zrun_mono {cal cal' : Nat → List Value → ZH → ZO} (hc : ∀ n as h x, cal n as h = some x → cal' n as h = some x) : ∀ (g g' m pc : Nat) (L st : List Value) (h : ZH) (x : Option Value × ZH), g ≤ g' → zrun cal g m pc L st h = some x → zrun cal' g' m pc L st h = some x
  | 0, g', m, pc, L, st, h, x, hg, hr => by cases hr
  | g + 1, 0, m, pc, L, st, h, x, hg, hr => by omega
  | g + 1, g' + 1, m, pc, L, st, h, x, hg, hr => by
    unfold zrun at hr ⊢
    cases hI : zI m pc L st h with
    | none => rw [hI] at hr; cases hr
    | some w =>
      rw [hI] at hr
      match w, hr with
      | .inl (pc', L', st', h'), hr => exact zrun_mono hc g g' m pc' L' st' h' x (by omega) hr
      | .inr (.inl (n, as, pc', L', st')), hr =>
        dsimp only at hr ⊢
        cases hq : cal n as h with
        | none => rw [hq] at hr; cases hr
        | some y =>
          obtain ⟨r, h1⟩ := y
          rw [hq] at hr
          rw [hc n as h (r, h1) hq]
          exact zrun_mono hc g g' m pc' L' (r.toList ++ st') h1 x (by omega) hr
      | .inr (.inr v), hr => exact hr
theorem zM_mono {f f' : Nat} (hf : f ≤ f') : ∀ (d n : Nat) (as : List Value) (h : ZH) (x : Option Value × ZH), zM f d n as h = some x → zM f' d n as h = some x
  | 0, n, as, h, x, hr => by cases hr
  | d + 1, n, as, h, x, hr => by
    unfold zM at hr ⊢
    cases hE : zent n as with
    | none => rw [hE] at hr; cases hr
    | some L =>
      rw [hE] at hr
      exact zrun_mono (zM_mono hf d) f f' n 0 L [] h x hf hr
def zP (d m pc : Nat) (L st : List Value) (h : ZH) (x : Option Value × ZH) : Prop := ∃ f, zrun (zM f d) f m pc L st h = some x
def zQ (d n : Nat) (as : List Value) (h : ZH) (x : Option Value × ZH) : Prop := ∃ f, zM f d n as h = some x
theorem zP_one {d m pc : Nat} {L st : List Value} {h : ZH} {x y : Option Value × ZH} (hx : zP d m pc L st h x) (hy : zP d m pc L st h y) : x = y := by
  obtain ⟨f, hf⟩ := hx
  obtain ⟨g, hg⟩ := hy
  have a := zrun_mono (zM_mono (Nat.le_max_left f g) d) f (max f g) m pc L st h x (Nat.le_max_left f g) hf
  have b := zrun_mono (zM_mono (Nat.le_max_right f g) d) g (max f g) m pc L st h y (Nat.le_max_right f g) hg
  exact Option.some.inj (a.symm.trans b)
theorem zQ_one {d n : Nat} {as : List Value} {h : ZH} {x y : Option Value × ZH} (hx : zQ d n as h x) (hy : zQ d n as h y) : x = y := by
  obtain ⟨f, hf⟩ := hx
  obtain ⟨g, hg⟩ := hy
  exact Option.some.inj ((zM_mono (Nat.le_max_left f g) d n as h x hf).symm.trans (zM_mono (Nat.le_max_right f g) d n as h y hg))
noncomputable def zres (d m pc : Nat) (L st : List Value) (h : ZH) : ZO := @dite _ (∃ x, zP d m pc L st h x) (Classical.propDecidable _) (fun q => some (Classical.choose q)) (fun _ => none)
noncomputable def zcl (d n : Nat) (as : List Value) (h : ZH) : ZO := @dite _ (∃ x, zQ d n as h x) (Classical.propDecidable _) (fun q => some (Classical.choose q)) (fun _ => none)
theorem zres_iff {d m pc : Nat} {L st : List Value} {h : ZH} {x : Option Value × ZH} : zres d m pc L st h = some x ↔ zP d m pc L st h x := by
  unfold zres
  by_cases q : ∃ x, zP d m pc L st h x
  · rw [dif_pos q]
    constructor
    · intro e
      have := Classical.choose_spec q
      rw [Option.some.inj e] at this
      exact this
    · intro e
      exact congrArg some (zP_one (Classical.choose_spec q) e)
  · rw [dif_neg q]
    exact ⟨fun e => (by cases e), fun e => absurd ⟨x, e⟩ q⟩
theorem zcl_iff {d n : Nat} {as : List Value} {h : ZH} {x : Option Value × ZH} : zcl d n as h = some x ↔ zQ d n as h x := by
  unfold zcl
  by_cases q : ∃ x, zQ d n as h x
  · rw [dif_pos q]
    constructor
    · intro e
      have := Classical.choose_spec q
      rw [Option.some.inj e] at this
      exact this
    · intro e
      exact congrArg some (zQ_one (Classical.choose_spec q) e)
  · rw [dif_neg q]
    exact ⟨fun e => (by cases e), fun e => absurd ⟨x, e⟩ q⟩
theorem zcl_of {f d n : Nat} {as : List Value} {h : ZH} {x : Option Value × ZH} (hr : zM f d n as h = some x) : zcl d n as h = some x := zcl_iff.mpr ⟨f, hr⟩
theorem zopt {α : Type} {a b : Option α} (h : ∀ x, a = some x ↔ b = some x) : a = b := by
  cases a with
  | some x => exact ((h x).mp rfl).symm
  | none =>
    cases b with
    | none => rfl
    | some y => exact absurd ((h y).mpr rfl) (by simp)
theorem zr_next {d m pc pc' : Nat} {L L' st st' : List Value} {h h' : ZH} (hI : zI m pc L st h = some (.inl (pc', L', st', h'))) : zres d m pc L st h = zres d m pc' L' st' h' := by
  refine zopt fun x => ?_
  rw [zres_iff, zres_iff]
  constructor
  · rintro ⟨f, hf⟩
    match f, hf with
    | 0, hf => cases hf
    | f + 1, hf =>
      have hf2 := hf
      unfold zrun at hf2
      rw [hI] at hf2
      exact ⟨f + 1, zrun_mono (fun _ _ _ _ q => q) f (f + 1) m pc' L' st' h' x (by omega) hf2⟩
  · rintro ⟨f, hf⟩
    refine ⟨f + 1, ?_⟩
    unfold zrun
    rw [hI]
    exact zrun_mono (zM_mono (by omega) d) f f m pc' L' st' h' x (by omega) hf
theorem zr_none {d m pc : Nat} {L st : List Value} {h : ZH} (hI : zI m pc L st h = none) : zres d m pc L st h = none := by
  refine zopt fun x => ?_
  rw [zres_iff]
  refine ⟨?_, fun q => by cases q⟩
  rintro ⟨f, hf⟩
  match f, hf with
  | 0, hf => cases hf
  | f + 1, hf =>
    unfold zrun at hf
    rw [hI] at hf
    cases hf
theorem zr_ret {d m pc : Nat} {L st : List Value} {h : ZH} {v : Option Value} (hI : zI m pc L st h = some (.inr (.inr v))) : zres d m pc L st h = some (v, h) := by
  rw [zres_iff]
  refine ⟨1, ?_⟩
  unfold zrun
  rw [hI]
theorem zr_call {d m pc pc' n : Nat} {L L' st st' as : List Value} {h : ZH} (hI : zI m pc L st h = some (.inr (.inl (n, as, pc', L', st')))) : zres d m pc L st h = (zcl d n as h).bind fun q => zres d m pc' L' (q.1.toList ++ st') q.2 := by
  refine zopt fun x => ?_
  rw [zres_iff, Option.bind_eq_some_iff]
  constructor
  · rintro ⟨f, hf⟩
    match f, hf with
    | 0, hf => cases hf
    | f + 1, hf =>
      unfold zrun at hf
      rw [hI] at hf
      dsimp only at hf
      cases hq : zM (f + 1) d n as h with
      | none => rw [hq] at hf; cases hf
      | some y =>
        obtain ⟨r, h1⟩ := y
        rw [hq] at hf
        exact ⟨(r, h1), zcl_of hq, zres_iff.mpr ⟨f + 1, zrun_mono (fun _ _ _ _ q => q) f (f + 1) m pc' L' _ h1 x (by omega) hf⟩⟩
  · rintro ⟨⟨r, h1⟩, hq, hr⟩
    obtain ⟨f, hf⟩ := zcl_iff.mp hq
    obtain ⟨g, hg⟩ := zres_iff.mp hr
    refine ⟨max f g + 1, ?_⟩
    unfold zrun
    rw [hI]
    dsimp only
    rw [zM_mono (show f ≤ max f g + 1 by omega) d n as h _ hf]
    exact zrun_mono (zM_mono (show g ≤ max f g + 1 by omega) d) g (max f g) m pc' L' _ h1 x (by omega) hg
theorem zcl_eq {d n : Nat} {as L : List Value} {h : ZH} (hE : zent n as = some L) : zcl (d + 1) n as h = zres d n 0 L [] h := by
  refine zopt fun x => ?_
  rw [zcl_iff, zres_iff]
  constructor
  · rintro ⟨f, hf⟩
    unfold zM at hf
    rw [hE] at hf
    exact ⟨f, hf⟩
  · rintro ⟨f, hf⟩
    refine ⟨f, ?_⟩
    unfold zM
    rw [hE]
    exact hf
/-! an equation an instruction -/
section ZQ
variable {d m pc : Nat} {L st : List Value} {h : ZH}
theorem zr_iconst {n : Int} {v : Int32} (hv : Int32.ofInt n = v) (hf : zf m pc = some (.iconst n, 1)) : zres d m pc L st h = zres d m (pc + 1) L (.int v :: st) h := by
  subst hv
  exact zr_next (by unfold zI; rw [hf]; rfl)
theorem zr_bipush {n : Int} {v : Int32} (hv : (Int8.ofInt n).toInt32 = v) (hf : zf m pc = some (.bipush n, 2)) : zres d m pc L st h = zres d m (pc + 2) L (.int v :: st) h := by
  subst hv
  exact zr_next (by unfold zI; rw [hf]; rfl)
theorem zr_sipush {n : Int} {v : Int32} (hv : (Int16.ofInt n).toInt32 = v) (hf : zf m pc = some (.sipush n, 3)) : zres d m pc L st h = zres d m (pc + 3) L (.int v :: st) h := by
  subst hv
  exact zr_next (by unfold zI; rw [hf]; rfl)
theorem zr_lconst {n : Fin 2} {v : Int64} (hv : Int64.ofNat (n : Nat) = v) (hf : zf m pc = some (.lconst n, 1)) : zres d m pc L st h = zres d m (pc + 1) L (.long v :: st) h := by
  subst hv
  exact zr_next (by unfold zI; rw [hf]; rfl)
theorem zr_null  (hf : zf m pc = some (.aconst_null, 1)) : zres d m pc L st h = zres d m (pc + 1) L (.null :: st) h := zr_next (by unfold zI; rw [hf]; rfl)
theorem zr_iload_n {k : Fin 4} {x : Int32} (hf : zf m pc = some (.iload_n k, 1)) (hl : L[(k : Nat)]? = some (.int x)) : zres d m pc L st h = zres d m (pc + 1) L (.int x :: st) h := zr_next (by unfold zI; rw [hf]; show (zload L (k : Nat) _).bind _ = _; unfold zload; rw [hl]; rfl)
theorem zr_iload {k : Nat} {x : Int32} (hf : zf m pc = some (.iload k, 2)) (hl : L[(k : Nat)]? = some (.int x)) : zres d m pc L st h = zres d m (pc + 2) L (.int x :: st) h := zr_next (by unfold zI; rw [hf]; show (zload L (k : Nat) _).bind _ = _; unfold zload; rw [hl]; rfl)
theorem zr_lload_n {k : Fin 4} {x : Int64} (hf : zf m pc = some (.lload_n k, 1)) (hl : L[(k : Nat)]? = some (.long x)) : zres d m pc L st h = zres d m (pc + 1) L (.long x :: st) h := zr_next (by unfold zI; rw [hf]; show (zload L (k : Nat) _).bind _ = _; unfold zload; rw [hl]; rfl)
theorem zr_lload {k : Nat} {x : Int64} (hf : zf m pc = some (.lload k, 2)) (hl : L[(k : Nat)]? = some (.long x)) : zres d m pc L st h = zres d m (pc + 2) L (.long x :: st) h := zr_next (by unfold zI; rw [hf]; show (zload L (k : Nat) _).bind _ = _; unfold zload; rw [hl]; rfl)
theorem zr_aload_n {k : Fin 4} {v : Value} (hf : zf m pc = some (.aload_n k, 1)) (hl : L[(k : Nat)]? = some v) (hv : zisR v = true) : zres d m pc L st h = zres d m (pc + 1) L (v :: st) h := zr_next (by unfold zI; rw [hf]; show (zload L (k : Nat) _).bind _ = _; unfold zload; rw [hl]; show (cond (zisR v) (some v) none).bind _ = _; rw [hv]; rfl)
theorem zr_aload {k : Nat} {v : Value} (hf : zf m pc = some (.aload k, 2)) (hl : L[(k : Nat)]? = some v) (hv : zisR v = true) : zres d m pc L st h = zres d m (pc + 2) L (v :: st) h := zr_next (by unfold zI; rw [hf]; show (zload L (k : Nat) _).bind _ = _; unfold zload; rw [hl]; show (cond (zisR v) (some v) none).bind _ = _; rw [hv]; rfl)
theorem zr_istore_n {k : Fin 4} {x : Int32} {L' : List Value} (hf : zf m pc = some (.istore_n k, 1)) (hs : zst (.int x) (k : Nat) L = some L') : zres d m pc L (.int x :: st) h = zres d m (pc + 1) L' st h := zr_next (by unfold zI; rw [hf]; show (zst (.int x) (k : Nat) L).bind _ = _; rw [hs]; rfl)
theorem zr_istore {k : Nat} {x : Int32} {L' : List Value} (hf : zf m pc = some (.istore k, 2)) (hs : zst (.int x) (k : Nat) L = some L') : zres d m pc L (.int x :: st) h = zres d m (pc + 2) L' st h := zr_next (by unfold zI; rw [hf]; show (zst (.int x) (k : Nat) L).bind _ = _; rw [hs]; rfl)
theorem zr_lstore_n {k : Fin 4} {x : Int64} {L' : List Value} (hf : zf m pc = some (.lstore_n k, 1)) (hs : zst (.long x) (k : Nat) L = some L') : zres d m pc L (.long x :: st) h = zres d m (pc + 1) L' st h := zr_next (by unfold zI; rw [hf]; show (zst (.long x) (k : Nat) L).bind _ = _; rw [hs]; rfl)
theorem zr_lstore {k : Nat} {x : Int64} {L' : List Value} (hf : zf m pc = some (.lstore k, 2)) (hs : zst (.long x) (k : Nat) L = some L') : zres d m pc L (.long x :: st) h = zres d m (pc + 2) L' st h := zr_next (by unfold zI; rw [hf]; show (zst (.long x) (k : Nat) L).bind _ = _; rw [hs]; rfl)
theorem zr_astore_n {k : Fin 4} {v : Value} {L' : List Value} (hf : zf m pc = some (.astore_n k, 1)) (hv : zisR v = true) (hs : zst v (k : Nat) L = some L') : zres d m pc L (v :: st) h = zres d m (pc + 1) L' st h := by
  rcases zisR_of hv with rfl | ⟨x, rfl⟩
  · exact zr_next (by unfold zI; rw [hf]; show (zst .null (k : Nat) L).bind _ = _; rw [hs]; rfl)
  · exact zr_next (by unfold zI; rw [hf]; show (zst (.ref x) (k : Nat) L).bind _ = _; rw [hs]; rfl)
theorem zr_astore {k : Nat} {v : Value} {L' : List Value} (hf : zf m pc = some (.astore k, 2)) (hv : zisR v = true) (hs : zst v (k : Nat) L = some L') : zres d m pc L (v :: st) h = zres d m (pc + 2) L' st h := by
  rcases zisR_of hv with rfl | ⟨x, rfl⟩
  · exact zr_next (by unfold zI; rw [hf]; show (zst .null (k : Nat) L).bind _ = _; rw [hs]; rfl)
  · exact zr_next (by unfold zI; rw [hf]; show (zst (.ref x) (k : Nat) L).bind _ = _; rw [hs]; rfl)
theorem zr_iinc {k : Nat} {n : Int} {x v : Int32} {L' : List Value} (hf : zf m pc = some (.iinc k n, 3)) (hl : L[k]? = some (.int x)) (hv : Int32.ofInt n = v) (hs : zst (.int (x + v)) k L = some L') : zres d m pc L st h = zres d m (pc + 3) L' st h := by
  subst hv
  exact zr_next (by unfold zI; rw [hf]; dsimp only; rw [hl]; show (zst (.int (x + Int32.ofInt n)) k L).bind _ = _; rw [hs]; rfl)
theorem zr_iadd {x y : Int32} (hf : zf m pc = some (.iadd, 1)) : zres d m pc L (.int y :: .int x :: st) h = zres d m (pc + 1) L (.int (x + y) :: st) h := zr_next (by unfold zI; rw [hf]; rfl)
theorem zr_isub {x y : Int32} (hf : zf m pc = some (.isub, 1)) : zres d m pc L (.int y :: .int x :: st) h = zres d m (pc + 1) L (.int (x - y) :: st) h := zr_next (by unfold zI; rw [hf]; rfl)
theorem zr_imul {x y : Int32} (hf : zf m pc = some (.imul, 1)) : zres d m pc L (.int y :: .int x :: st) h = zres d m (pc + 1) L (.int (x * y) :: st) h := zr_next (by unfold zI; rw [hf]; rfl)
theorem zr_iand {x y : Int32} (hf : zf m pc = some (.iand, 1)) : zres d m pc L (.int y :: .int x :: st) h = zres d m (pc + 1) L (.int (x &&& y) :: st) h := zr_next (by unfold zI; rw [hf]; rfl)
theorem zr_ishl {x y : Int32} (hf : zf m pc = some (.ishl, 1)) : zres d m pc L (.int y :: .int x :: st) h = zres d m (pc + 1) L (.int (x <<< (y &&& 31)) :: st) h := zr_next (by unfold zI; rw [hf]; rfl)
theorem zr_ishr {x y : Int32} (hf : zf m pc = some (.ishr, 1)) : zres d m pc L (.int y :: .int x :: st) h = zres d m (pc + 1) L (.int (x >>> (y &&& 31)) :: st) h := zr_next (by unfold zI; rw [hf]; rfl)
theorem zr_ladd {x y : Int64} (hf : zf m pc = some (.ladd, 1)) : zres d m pc L (.long y :: .long x :: st) h = zres d m (pc + 1) L (.long (x + y) :: st) h := zr_next (by unfold zI; rw [hf]; rfl)
theorem zr_lsub {x y : Int64} (hf : zf m pc = some (.lsub, 1)) : zres d m pc L (.long y :: .long x :: st) h = zres d m (pc + 1) L (.long (x - y) :: st) h := zr_next (by unfold zI; rw [hf]; rfl)
theorem zr_lmul {x y : Int64} (hf : zf m pc = some (.lmul, 1)) : zres d m pc L (.long y :: .long x :: st) h = zres d m (pc + 1) L (.long (x * y) :: st) h := zr_next (by unfold zI; rw [hf]; rfl)
theorem zr_lcmp {x y : Int64} (hf : zf m pc = some (.lcmp, 1)) : zres d m pc L (.long y :: .long x :: st) h = zres d m (pc + 1) L (.int (lg_cmp x y) :: st) h := zr_next (by unfold zI; rw [hf]; rfl)
theorem zr_idiv {x y : Int32} (hf : zf m pc = some (.idiv, 1)) (hy : ¬ y = 0) : zres d m pc L (.int y :: .int x :: st) h = zres d m (pc + 1) L (.int (x / y) :: st) h := zr_next (by unfold zI; rw [hf]; show (if y = 0 then none else _) = _; rw [if_neg hy])
theorem zr_irem {x y : Int32} (hf : zf m pc = some (.irem, 1)) (hy : ¬ y = 0) : zres d m pc L (.int y :: .int x :: st) h = zres d m (pc + 1) L (.int (x - x / y * y) :: st) h := zr_next (by unfold zI; rw [hf]; show (if y = 0 then none else _) = _; rw [if_neg hy])
theorem zr_ldiv {x y : Int64} (hf : zf m pc = some (.ldiv, 1)) (hy : ¬ y = 0) : zres d m pc L (.long y :: .long x :: st) h = zres d m (pc + 1) L (.long (x / y) :: st) h := zr_next (by unfold zI; rw [hf]; show (if y = 0 then none else _) = _; rw [if_neg hy])
theorem zr_lrem {x y : Int64} (hf : zf m pc = some (.lrem, 1)) (hy : ¬ y = 0) : zres d m pc L (.long y :: .long x :: st) h = zres d m (pc + 1) L (.long (x - x / y * y) :: st) h := zr_next (by unfold zI; rw [hf]; show (if y = 0 then none else _) = _; rw [if_neg hy])
theorem zr_ineg {x : Int32} (hf : zf m pc = some (.ineg, 1)) : zres d m pc L (.int x :: st) h = zres d m (pc + 1) L (.int (-x) :: st) h := zr_next (by unfold zI; rw [hf]; rfl)
theorem zr_lneg {x : Int64} (hf : zf m pc = some (.lneg, 1)) : zres d m pc L (.long x :: st) h = zres d m (pc + 1) L (.long (-x) :: st) h := zr_next (by unfold zI; rw [hf]; rfl)
theorem zr_i2l {x : Int32} (hf : zf m pc = some (.i2l, 1)) : zres d m pc L (.int x :: st) h = zres d m (pc + 1) L (.long x.toInt64 :: st) h := zr_next (by unfold zI; rw [hf]; rfl)
theorem zr_l2i {x : Int64} (hf : zf m pc = some (.l2i, 1)) : zres d m pc L (.long x :: st) h = zres d m (pc + 1) L (.int x.toInt32 :: st) h := zr_next (by unfold zI; rw [hf]; rfl)
theorem zr_dup {v : Value} (hf : zf m pc = some (.dup, 1)) (hv : v.category = 1) : zres d m pc L (v :: st) h = zres d m (pc + 1) L (v :: v :: st) h := zr_next (by unfold zI; rw [hf]; show cond (decide (v.category = 1)) _ none = _; rw [decide_eq_true hv]; rfl)
theorem zr_pop {v : Value} (hf : zf m pc = some (.pop, 1)) (hv : v.category = 1) : zres d m pc L (v :: st) h = zres d m (pc + 1) L st h := zr_next (by unfold zI; rw [hf]; show cond (decide (v.category = 1)) _ none = _; rw [decide_eq_true hv]; rfl)
theorem zr_goto {off : Int} {t : Nat} (hf : zf m pc = some (.goto off, 3)) (ht : zjm pc off = some t) : zres d m pc L st h = zres d m t L st h := zr_next (by unfold zI; rw [hf]; show (zjm pc off).bind _ = _; rw [ht]; rfl)
theorem zr_if_eq {x : Int32} {off : Int} {t : Nat} (hf : zf m pc = some (.ifCond .eq off, 3)) (ht : zjm pc off = some t) : zres d m pc L (.int x :: st) h = if x = 0 then zres d m t L st h else zres d m (pc + 3) L st h := by
  by_cases q : x = 0
  · rw [if_pos q]
    exact zr_next (by unfold zI; rw [hf]; show (zjm pc off).bind _ = _; rw [ht]; show cond (zcond .eq x 0) _ _ = _; rw [show zcond .eq x 0 = true from decide_eq_true q]; rfl)
  · rw [if_neg q]
    exact zr_next (by unfold zI; rw [hf]; show (zjm pc off).bind _ = _; rw [ht]; show cond (zcond .eq x 0) _ _ = _; rw [show zcond .eq x 0 = false from decide_eq_false q]; rfl)
theorem zr_icmp_eq {x y : Int32} {off : Int} {t : Nat} (hf : zf m pc = some (.if_icmp .eq off, 3)) (ht : zjm pc off = some t) : zres d m pc L (.int y :: .int x :: st) h = if x = y then zres d m t L st h else zres d m (pc + 3) L st h := by
  by_cases q : x = y
  · rw [if_pos q]
    exact zr_next (by unfold zI; rw [hf]; show (zjm pc off).bind _ = _; rw [ht]; show cond (zcond .eq x y) _ _ = _; rw [show zcond .eq x y = true from decide_eq_true q]; rfl)
  · rw [if_neg q]
    exact zr_next (by unfold zI; rw [hf]; show (zjm pc off).bind _ = _; rw [ht]; show cond (zcond .eq x y) _ _ = _; rw [show zcond .eq x y = false from decide_eq_false q]; rfl)
theorem zr_if_ne {x : Int32} {off : Int} {t : Nat} (hf : zf m pc = some (.ifCond .ne off, 3)) (ht : zjm pc off = some t) : zres d m pc L (.int x :: st) h = if ¬ x = 0 then zres d m t L st h else zres d m (pc + 3) L st h := by
  by_cases q : ¬ x = 0
  · rw [if_pos q]
    exact zr_next (by unfold zI; rw [hf]; show (zjm pc off).bind _ = _; rw [ht]; show cond (zcond .ne x 0) _ _ = _; rw [show zcond .ne x 0 = true from decide_eq_true q]; rfl)
  · rw [if_neg q]
    exact zr_next (by unfold zI; rw [hf]; show (zjm pc off).bind _ = _; rw [ht]; show cond (zcond .ne x 0) _ _ = _; rw [show zcond .ne x 0 = false from decide_eq_false q]; rfl)
theorem zr_icmp_ne {x y : Int32} {off : Int} {t : Nat} (hf : zf m pc = some (.if_icmp .ne off, 3)) (ht : zjm pc off = some t) : zres d m pc L (.int y :: .int x :: st) h = if ¬ x = y then zres d m t L st h else zres d m (pc + 3) L st h := by
  by_cases q : ¬ x = y
  · rw [if_pos q]
    exact zr_next (by unfold zI; rw [hf]; show (zjm pc off).bind _ = _; rw [ht]; show cond (zcond .ne x y) _ _ = _; rw [show zcond .ne x y = true from decide_eq_true q]; rfl)
  · rw [if_neg q]
    exact zr_next (by unfold zI; rw [hf]; show (zjm pc off).bind _ = _; rw [ht]; show cond (zcond .ne x y) _ _ = _; rw [show zcond .ne x y = false from decide_eq_false q]; rfl)
theorem zr_if_lt {x : Int32} {off : Int} {t : Nat} (hf : zf m pc = some (.ifCond .lt off, 3)) (ht : zjm pc off = some t) : zres d m pc L (.int x :: st) h = if x < 0 then zres d m t L st h else zres d m (pc + 3) L st h := by
  by_cases q : x < 0
  · rw [if_pos q]
    exact zr_next (by unfold zI; rw [hf]; show (zjm pc off).bind _ = _; rw [ht]; show cond (zcond .lt x 0) _ _ = _; rw [show zcond .lt x 0 = true from decide_eq_true q]; rfl)
  · rw [if_neg q]
    exact zr_next (by unfold zI; rw [hf]; show (zjm pc off).bind _ = _; rw [ht]; show cond (zcond .lt x 0) _ _ = _; rw [show zcond .lt x 0 = false from decide_eq_false q]; rfl)
theorem zr_icmp_lt {x y : Int32} {off : Int} {t : Nat} (hf : zf m pc = some (.if_icmp .lt off, 3)) (ht : zjm pc off = some t) : zres d m pc L (.int y :: .int x :: st) h = if x < y then zres d m t L st h else zres d m (pc + 3) L st h := by
  by_cases q : x < y
  · rw [if_pos q]
    exact zr_next (by unfold zI; rw [hf]; show (zjm pc off).bind _ = _; rw [ht]; show cond (zcond .lt x y) _ _ = _; rw [show zcond .lt x y = true from decide_eq_true q]; rfl)
  · rw [if_neg q]
    exact zr_next (by unfold zI; rw [hf]; show (zjm pc off).bind _ = _; rw [ht]; show cond (zcond .lt x y) _ _ = _; rw [show zcond .lt x y = false from decide_eq_false q]; rfl)
theorem zr_if_ge {x : Int32} {off : Int} {t : Nat} (hf : zf m pc = some (.ifCond .ge off, 3)) (ht : zjm pc off = some t) : zres d m pc L (.int x :: st) h = if 0 ≤ x then zres d m t L st h else zres d m (pc + 3) L st h := by
  by_cases q : 0 ≤ x
  · rw [if_pos q]
    exact zr_next (by unfold zI; rw [hf]; show (zjm pc off).bind _ = _; rw [ht]; show cond (zcond .ge x 0) _ _ = _; rw [show zcond .ge x 0 = true from decide_eq_true q]; rfl)
  · rw [if_neg q]
    exact zr_next (by unfold zI; rw [hf]; show (zjm pc off).bind _ = _; rw [ht]; show cond (zcond .ge x 0) _ _ = _; rw [show zcond .ge x 0 = false from decide_eq_false q]; rfl)
theorem zr_icmp_ge {x y : Int32} {off : Int} {t : Nat} (hf : zf m pc = some (.if_icmp .ge off, 3)) (ht : zjm pc off = some t) : zres d m pc L (.int y :: .int x :: st) h = if y ≤ x then zres d m t L st h else zres d m (pc + 3) L st h := by
  by_cases q : y ≤ x
  · rw [if_pos q]
    exact zr_next (by unfold zI; rw [hf]; show (zjm pc off).bind _ = _; rw [ht]; show cond (zcond .ge x y) _ _ = _; rw [show zcond .ge x y = true from decide_eq_true q]; rfl)
  · rw [if_neg q]
    exact zr_next (by unfold zI; rw [hf]; show (zjm pc off).bind _ = _; rw [ht]; show cond (zcond .ge x y) _ _ = _; rw [show zcond .ge x y = false from decide_eq_false q]; rfl)
theorem zr_if_gt {x : Int32} {off : Int} {t : Nat} (hf : zf m pc = some (.ifCond .gt off, 3)) (ht : zjm pc off = some t) : zres d m pc L (.int x :: st) h = if 0 < x then zres d m t L st h else zres d m (pc + 3) L st h := by
  by_cases q : 0 < x
  · rw [if_pos q]
    exact zr_next (by unfold zI; rw [hf]; show (zjm pc off).bind _ = _; rw [ht]; show cond (zcond .gt x 0) _ _ = _; rw [show zcond .gt x 0 = true from decide_eq_true q]; rfl)
  · rw [if_neg q]
    exact zr_next (by unfold zI; rw [hf]; show (zjm pc off).bind _ = _; rw [ht]; show cond (zcond .gt x 0) _ _ = _; rw [show zcond .gt x 0 = false from decide_eq_false q]; rfl)
theorem zr_icmp_gt {x y : Int32} {off : Int} {t : Nat} (hf : zf m pc = some (.if_icmp .gt off, 3)) (ht : zjm pc off = some t) : zres d m pc L (.int y :: .int x :: st) h = if y < x then zres d m t L st h else zres d m (pc + 3) L st h := by
  by_cases q : y < x
  · rw [if_pos q]
    exact zr_next (by unfold zI; rw [hf]; show (zjm pc off).bind _ = _; rw [ht]; show cond (zcond .gt x y) _ _ = _; rw [show zcond .gt x y = true from decide_eq_true q]; rfl)
  · rw [if_neg q]
    exact zr_next (by unfold zI; rw [hf]; show (zjm pc off).bind _ = _; rw [ht]; show cond (zcond .gt x y) _ _ = _; rw [show zcond .gt x y = false from decide_eq_false q]; rfl)
theorem zr_if_le {x : Int32} {off : Int} {t : Nat} (hf : zf m pc = some (.ifCond .le off, 3)) (ht : zjm pc off = some t) : zres d m pc L (.int x :: st) h = if x ≤ 0 then zres d m t L st h else zres d m (pc + 3) L st h := by
  by_cases q : x ≤ 0
  · rw [if_pos q]
    exact zr_next (by unfold zI; rw [hf]; show (zjm pc off).bind _ = _; rw [ht]; show cond (zcond .le x 0) _ _ = _; rw [show zcond .le x 0 = true from decide_eq_true q]; rfl)
  · rw [if_neg q]
    exact zr_next (by unfold zI; rw [hf]; show (zjm pc off).bind _ = _; rw [ht]; show cond (zcond .le x 0) _ _ = _; rw [show zcond .le x 0 = false from decide_eq_false q]; rfl)
theorem zr_icmp_le {x y : Int32} {off : Int} {t : Nat} (hf : zf m pc = some (.if_icmp .le off, 3)) (ht : zjm pc off = some t) : zres d m pc L (.int y :: .int x :: st) h = if x ≤ y then zres d m t L st h else zres d m (pc + 3) L st h := by
  by_cases q : x ≤ y
  · rw [if_pos q]
    exact zr_next (by unfold zI; rw [hf]; show (zjm pc off).bind _ = _; rw [ht]; show cond (zcond .le x y) _ _ = _; rw [show zcond .le x y = true from decide_eq_true q]; rfl)
  · rw [if_neg q]
    exact zr_next (by unfold zI; rw [hf]; show (zjm pc off).bind _ = _; rw [ht]; show cond (zcond .le x y) _ _ = _; rw [show zcond .le x y = false from decide_eq_false q]; rfl)
theorem zr_ifnullR {x : Nat} {off : Int} (hf : zf m pc = some (.ifnull off, 3)) : zres d m pc L (.ref x :: st) h = zres d m (pc + 3) L st h := zr_next (by unfold zI; rw [hf]; rfl)
theorem zr_ifnullN {off : Int} {t : Nat} (hf : zf m pc = some (.ifnull off, 3)) (ht : zjm pc off = some t) : zres d m pc L (.null :: st) h = zres d m t L st h := zr_next (by unfold zI; rw [hf]; show (zjm pc off).bind _ = _; rw [ht]; rfl)
theorem zr_ifnonnullN {off : Int} (hf : zf m pc = some (.ifnonnull off, 3)) : zres d m pc L (.null :: st) h = zres d m (pc + 3) L st h := zr_next (by unfold zI; rw [hf]; rfl)
theorem zr_ifnonnullR {x : Nat} {off : Int} {t : Nat} (hf : zf m pc = some (.ifnonnull off, 3)) (ht : zjm pc off = some t) : zres d m pc L (.ref x :: st) h = zres d m t L st h := zr_next (by unfold zI; rw [hf]; show (zjm pc off).bind _ = _; rw [ht]; rfl)
theorem zr_ldc {idx : Nat} {q : Int32 × Nat} (hf : zf m pc = some (.ldc idx, 2)) (hq : zkl m idx zKl = some q) : zres d m pc L st h = zres d m (pc + 2) L (.int q.1 :: st) h := zr_next (by unfold zI; rw [hf]; show (zkl m idx zKl).bind _ = _; rw [hq]; rfl)
theorem zr_ldc2 {idx : Nat} {q : Int64 × Nat} (hf : zf m pc = some (.ldc2_w idx, 3)) (hq : zkl m idx zLl = some q) : zres d m pc L st h = zres d m (pc + 3) L (.long q.1 :: st) h := zr_next (by unfold zI; rw [hf]; show (zkl m idx zLl).bind _ = _; rw [hq]; rfl)
theorem zr_getfield {a idx : Nat} {q : Nat × Nat × Nat × Nat} (hf : zf m pc = some (.getfield idx, 3)) (hq : zkl m idx zFl = some q) : zres d m pc L (.ref a :: st) h = (zget h a q.1 q.2.1).bind fun v => zres d m (pc + 3) L (v :: st) h := by
  cases hv : zget h a q.1 q.2.1 with
  | none => exact zr_none (by unfold zI; rw [hf]; show (zkl m idx zFl).bind _ = _; rw [hq]; show (zget h a q.1 q.2.1).bind _ = _; rw [hv]; rfl)
  | some w => exact zr_next (by unfold zI; rw [hf]; show (zkl m idx zFl).bind _ = _; rw [hq]; show (zget h a q.1 q.2.1).bind _ = _; rw [hv]; rfl)
theorem zr_putfield {a idx : Nat} {v0 : Value} {q : Nat × Nat × Nat × Nat} (hf : zf m pc = some (.putfield idx, 3)) (hq : zkl m idx zFl = some q) : zres d m pc L (v0 :: .ref a :: st) h = (zput h a q.1 q.2.1 v0).bind fun h' => zres d m (pc + 3) L st h' := by
  cases hv : zput h a q.1 q.2.1 v0 with
  | none => exact zr_none (by unfold zI; rw [hf]; show (zkl m idx zFl).bind _ = _; rw [hq]; show (zput h a q.1 q.2.1 v0).bind _ = _; rw [hv]; rfl)
  | some w => exact zr_next (by unfold zI; rw [hf]; show (zkl m idx zFl).bind _ = _; rw [hq]; show (zput h a q.1 q.2.1 v0).bind _ = _; rw [hv]; rfl)
theorem zr_getstatic {idx : Nat} {q : Nat × Nat} (hf : zf m pc = some (.getstatic idx, 3)) (hq : zkl m idx zSl = some q) : zres d m pc L st h = zres d m (pc + 3) L (.ref q.1 :: st) h := zr_next (by unfold zI; rw [hf]; show (zkl m idx zSl).bind _ = _; rw [hq]; rfl)
theorem zr_iaload {a : Nat} {i : Int32} (hf : zf m pc = some (.iaload, 1)) : zres d m pc L (.int i :: .ref a :: st) h = (zald 10 h a i).bind fun v => zres d m (pc + 1) L (v :: st) h := by
  cases hv : zald 10 h a i with
  | none => exact zr_none (by unfold zI; rw [hf]; show (zald 10 h a i).bind _ = _; rw [hv]; rfl)
  | some w => exact zr_next (by unfold zI; rw [hf]; show (zald 10 h a i).bind _ = _; rw [hv]; rfl)
theorem zr_laload {a : Nat} {i : Int32} (hf : zf m pc = some (.laload, 1)) : zres d m pc L (.int i :: .ref a :: st) h = (zald 11 h a i).bind fun v => zres d m (pc + 1) L (v :: st) h := by
  cases hv : zald 11 h a i with
  | none => exact zr_none (by unfold zI; rw [hf]; show (zald 11 h a i).bind _ = _; rw [hv]; rfl)
  | some w => exact zr_next (by unfold zI; rw [hf]; show (zald 11 h a i).bind _ = _; rw [hv]; rfl)
theorem zr_aaload {a : Nat} {i : Int32} (hf : zf m pc = some (.aaload, 1)) : zres d m pc L (.int i :: .ref a :: st) h = (zald 12 h a i).bind fun v => zres d m (pc + 1) L (v :: st) h := by
  cases hv : zald 12 h a i with
  | none => exact zr_none (by unfold zI; rw [hf]; show (zald 12 h a i).bind _ = _; rw [hv]; rfl)
  | some w => exact zr_next (by unfold zI; rw [hf]; show (zald 12 h a i).bind _ = _; rw [hv]; rfl)
theorem zr_iastore {a : Nat} {i : Int32} {x : Int32} (hf : zf m pc = some (.iastore, 1)) : zres d m pc L (.int x :: .int i :: .ref a :: st) h = (zast 10 h a i (.int x)).bind fun h' => zres d m (pc + 1) L st h' := by
  cases hv : zast 10 h a i (.int x) with
  | none => exact zr_none (by unfold zI; rw [hf]; show (zast 10 h a i (.int x)).bind _ = _; rw [hv]; rfl)
  | some w => exact zr_next (by unfold zI; rw [hf]; show (zast 10 h a i (.int x)).bind _ = _; rw [hv]; rfl)
theorem zr_lastore {a : Nat} {i : Int32} {x : Int64} (hf : zf m pc = some (.lastore, 1)) : zres d m pc L (.long x :: .int i :: .ref a :: st) h = (zast 11 h a i (.long x)).bind fun h' => zres d m (pc + 1) L st h' := by
  cases hv : zast 11 h a i (.long x) with
  | none => exact zr_none (by unfold zI; rw [hf]; show (zast 11 h a i (.long x)).bind _ = _; rw [hv]; rfl)
  | some w => exact zr_next (by unfold zI; rw [hf]; show (zast 11 h a i (.long x)).bind _ = _; rw [hv]; rfl)
theorem zr_aastore {a b t : Nat} {i : Int32} {h2 : ZH} (hf : zf m pc = some (.aastore, 1)) (ht : zat h b = some t) (hs : zast t h a i (.ref b) = some h2) : zres d m pc L (.ref b :: .int i :: .ref a :: st) h = zres d m (pc + 1) L st h2 := zr_next (by unfold zI; rw [hf]; show (zat h b).bind _ = _; rw [ht]; show (zast t h a i (.ref b)).bind _ = _; rw [hs]; rfl)
theorem zr_arraylength {a : Nat} (hf : zf m pc = some (.arraylength, 1)) : zres d m pc L (.ref a :: st) h = (zlen h a).bind fun n => zres d m (pc + 1) L (.int n :: st) h := by
  cases hv : zlen h a with
  | none => exact zr_none (by unfold zI; rw [hf]; show (zlen h a).bind _ = _; rw [hv]; rfl)
  | some w => exact zr_next (by unfold zI; rw [hf]; show (zlen h a).bind _ = _; rw [hv]; rfl)
theorem zr_tableIn {df lo hi : Int} {offs : Array Int} {len t : Nat} {x : Int32} {off : Int} (hf : zf m pc = some (.tableswitch df lo hi offs, len)) (h1 : ¬ (x.toInt < lo ∨ hi < x.toInt)) (ho : offs[(x.toInt - lo).toNat]? = some off) (ht : zjm pc off = some t) : zres d m pc L (.int x :: st) h = zres d m t L st h := zr_next (by unfold zI; rw [hf]; show (if x.toInt < lo ∨ hi < x.toInt then _ else _) = _; rw [if_neg h1, ho]; show (zjm pc off).bind _ = _; rw [ht]; rfl)
theorem zr_tableOut {df lo hi : Int} {offs : Array Int} {len t : Nat} {x : Int32} (hf : zf m pc = some (.tableswitch df lo hi offs, len)) (h1 : x.toInt < lo ∨ hi < x.toInt) (ht : zjm pc df = some t) : zres d m pc L (.int x :: st) h = zres d m t L st h := zr_next (by unfold zI; rw [hf]; show (if x.toInt < lo ∨ hi < x.toInt then _ else _) = _; rw [if_pos h1]; show (zjm pc df).bind _ = _; rw [ht]; rfl)
theorem zr_static {n idx : Nat} {pl : Nat × Nat} {as rs : List Value} (hf : zf m pc = some (.invokestatic idx, 3)) (hq : zkl m idx zMl = some (n, pl)) (hn : Nat.blt n 131 = true) (hk : mK n = 0) (hA : mA n ≤ st.length) (ha : (st.take (mA n)).reverse = as) (hr : st.drop (mA n) = rs) (h8 : zcs rs ≤ 8) : zres d m pc L st h = (zcl d n as h).bind fun q => zres d m (pc + 3) L (q.1.toList ++ rs) q.2 := by
  subst ha
  subst hr
  have hn : n < 131 := by simpa [Nat.blt_eq] using hn
  have e1 : Nat.beq n 131 = false := by cases hb : Nat.beq n 131 with
    | false => rfl
    | true => exact absurd (Nat.eq_of_beq_eq_true hb) (by omega)
  have e2 : Nat.beq n 132 = false := by cases hb : Nat.beq n 132 with
    | false => rfl
    | true => exact absurd (Nat.eq_of_beq_eq_true hb) (by omega)
  refine zr_call ?_
  unfold zI
  rw [hf]
  show (zkl m idx zMl).bind _ = _
  rw [hq]
  show cond (Nat.beq n 131) _ (cond (Nat.beq n 132) _ (zcall 0 n pc L st h)) = _
  rw [e1, e2]
  show zcall 0 n pc L st h = _
  unfold zcall
  rw [hk, show Nat.ble (mA n) st.length = true from Nat.ble_eq_true_of_le hA]
  show cond (Nat.ble (zcs (st.drop (mA n))) 8) _ none = _
  rw [Nat.ble_eq_true_of_le h8]
  rfl
theorem zr_virtual {n idx b : Nat} {pl : Nat × Nat} {as rs : List Value} (hf : zf m pc = some (.invokevirtual idx, 3)) (hq : zkl m idx zMl = some (n, pl)) (hk : mK n = 1) (hA : mA n ≤ st.length) (ha : (st.take (mA n)).reverse = as) (hr : st.drop (mA n) = .ref b :: rs) (h8 : zcs rs ≤ 8) (hb : (h[b]?).map (fun c => c.1) = some (mO n)) : zres d m pc L st h = (zcl d n (.ref b :: as) h).bind fun q => zres d m (pc + 3) L (q.1.toList ++ rs) q.2 := by
  subst ha
  obtain ⟨cb, hcb, hcb1⟩ := Option.map_eq_some_iff.mp hb
  obtain ⟨c1, c2⟩ := cb
  dsimp only at hcb1
  subst hcb1
  refine zr_call ?_
  unfold zI
  rw [hf]
  show (zkl m idx zMl).bind _ = _
  rw [hq]
  show zcall 1 n pc L st h = _
  unfold zcall
  rw [hk, show Nat.ble (mA n) st.length = true from Nat.ble_eq_true_of_le hA, hr]
  show cond (Nat.ble (zcs rs) 8) _ none = _
  rw [Nat.ble_eq_true_of_le h8, hcb]
  show cond (Nat.beq (mO n) (mO n)) _ none = _
  rw [Nat.beq_refl]
  rfl
theorem zr_special {n idx b : Nat} {pl : Nat × Nat} {as rs : List Value} (hf : zf m pc = some (.invokespecial idx, 3)) (hq : zkl m idx zMl = some (n, pl)) (hn : Nat.blt n 131 = true) (hk : mK n = 2) (hA : mA n ≤ st.length) (ha : (st.take (mA n)).reverse = as) (hr : st.drop (mA n) = .ref b :: rs) (h8 : zcs rs ≤ 8) : zres d m pc L st h = (zcl d n (.ref b :: as) h).bind fun q => zres d m (pc + 3) L (q.1.toList ++ rs) q.2 := by
  subst ha
  have hn : n < 131 := by simpa [Nat.blt_eq] using hn
  have e1 : Nat.beq n 999 = false := by cases hb : Nat.beq n 999 with
    | false => rfl
    | true => exact absurd (Nat.eq_of_beq_eq_true hb) (by omega)
  refine zr_call ?_
  unfold zI
  rw [hf]
  show (zkl m idx zMl).bind _ = _
  rw [hq]
  show cond (Nat.beq n 999) _ (zcall 2 n pc L st h) = _
  rw [e1]
  show zcall 2 n pc L st h = _
  unfold zcall
  rw [hk, show Nat.ble (mA n) st.length = true from Nat.ble_eq_true_of_le hA, hr]
  show cond (Nat.ble (zcs rs) 8) _ none = _
  rw [Nat.ble_eq_true_of_le h8]
  rfl
theorem zr_abs {idx : Nat} {pl : Nat × Nat} {x : Int32} (hf : zf m pc = some (.invokestatic idx, 3)) (hq : zkl m idx zMl = some (131, pl)) (h8 : zcs st ≤ 8) : zres d m pc L (.int x :: st) h = zres d m (pc + 3) L (.int (if 0 ≤ x then x else 0 - x) :: st) h := zr_next (by unfold zI; rw [hf]; show (zkl m idx zMl).bind _ = _; rw [hq]; show cond (Nat.ble (zcs st) 8) _ none = _; rw [Nat.ble_eq_true_of_le h8]; rfl)
theorem zr_min {idx : Nat} {pl : Nat × Nat} {x y : Int32} (hf : zf m pc = some (.invokestatic idx, 3)) (hq : zkl m idx zMl = some (132, pl)) (h8 : zcs st ≤ 8) : zres d m pc L (.int y :: .int x :: st) h = zres d m (pc + 3) L (.int (if y < x then y else x) :: st) h := zr_next (by unfold zI; rw [hf]; show (zkl m idx zMl).bind _ = _; rw [hq]; show cond (Nat.ble (zcs st) 8) _ none = _; rw [Nat.ble_eq_true_of_le h8]; rfl)
theorem zr_iret {v : Int32} (hf : zf m pc = some (.ireturn, 1)) (hT : mT m = some .int) : zres d m pc L [.int v] h = some (some (.int v), h) := zr_ret (by unfold zI; rw [hf]; dsimp only; rw [hT]; rfl)
theorem zr_zret {v : Int32} (hf : zf m pc = some (.ireturn, 1)) (hT : mT m = some .boolean) (hv : zfit .boolean (.int v) = true) : zres d m pc L [.int v] h = some (some (.int v), h) := zr_ret (by unfold zI; rw [hf]; dsimp only; rw [hT]; show cond (zfit .boolean (.int v)) _ none = _; rw [hv]; rfl)
theorem zr_lret {v : Int64} (hf : zf m pc = some (.lreturn, 1)) (hT : mT m = some .long) : zres d m pc L [.long v] h = some (some (.long v), h) := zr_ret (by unfold zI; rw [hf]; dsimp only; rw [hT]; rfl)
theorem zr_aret {v : Value} {nm : String} (hf : zf m pc = some (.areturn, 1)) (hT : mT m = some (.object nm)) (hv : zisR v = true) : zres d m pc L [v] h = some (some v, h) := zr_ret (by unfold zI; rw [hf]; dsimp only; rw [hT]; show cond (zisR v) _ none = _; rw [hv]; rfl)
theorem zr_vret (hf : zf m pc = some (.return_, 1)) (hT : mT m = none) : zres d m pc L [] h = some (none, h) := zr_ret (by unfold zI; rw [hf]; dsimp only; rw [hT]; rfl)
end ZQ
