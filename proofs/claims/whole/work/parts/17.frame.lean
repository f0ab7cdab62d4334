/-! pieces of a run, and the frame: a call over blank cells, with anything in their place -/
def zit (cal : Nat → List Value → ZH → ZO) : Nat → Nat → Nat → List Value → List Value → ZH → Option (Nat × List Value × List Value × ZH)
  | 0, _, pc, L, st, h => some (pc, L, st, h)
  | g + 1, m, pc, L, st, h => match zI m pc L st h with
    | none => none
    | some (.inl (pc', L', st', h')) => zit cal g m pc' L' st' h'
    | some (.inr (.inl (n, as, pc', L', st'))) => match cal n as h with
      | none => none
      | some (r, h') => zit cal g m pc' L' (r.toList ++ st') h'
    | some (.inr (.inr _)) => none
theorem zit_res {f d : Nat} : ∀ (g m pc : Nat) (L st : List Value) (h : ZH) (pc' : Nat) (L' st' : List Value) (h' : ZH), zit (zM f d) g m pc L st h = some (pc', L', st', h') → zres d m pc L st h = zres d m pc' L' st' h'
  | 0, m, pc, L, st, h, pc', L', st', h', hz => by
    cases hz
    rfl
  | g + 1, m, pc, L, st, h, pc', L', st', h', hz => by
    unfold zit at hz
    cases hI : zI m pc L st h with
    | none => rw [hI] at hz; cases hz
    | some w =>
      rw [hI] at hz
      match w, hI, hz with
      | .inl (pc1, L1, st1, h1), hI, hz =>
        rw [zr_next hI]
        exact zit_res g m pc1 L1 st1 h1 pc' L' st' h' hz
      | .inr (.inl (n, as, pc1, L1, st1)), hI, hz =>
        dsimp only at hz
        cases hc : zM f d n as h with
        | none => rw [hc] at hz; cases hz
        | some y =>
          obtain ⟨r, h1⟩ := y
          rw [hc] at hz
          rw [zr_call hI, zcl_of hc]
          exact zit_res g m pc1 L1 (r.toList ++ st1) h1 pc' L' st' h' hz
      | .inr (.inr v), hI, hz => cases hz
def zxv (v : Value) : Bool := match v with
  | .retAddr 1 => false
  | _ => true
def zxc (c : ZC) : Bool := !(Nat.beq c.1 9) && c.2.all zxv
theorem zvr_eq {v w : Value} (h : zvr v w) (hx : zxv v = true) : w = v := by
  rcases h with h | ⟨rfl, -⟩
  · exact h.symm
  · cases hx
theorem zlr_eq : ∀ {l k : List Value}, zlr l k → l.all zxv = true → k = l
  | [], k, h, _ => zlr_nil h
  | a :: l, k, h, hx => by
    obtain ⟨b, k', rfl, h1, h2⟩ := zlr_cons h
    simp only [List.all_cons, Bool.and_eq_true] at hx
    rw [zvr_eq h1 hx.1, zlr_eq h2 hx.2]
theorem zcr_eq {c e : ZC} (h : zcr c e) (hx : zxc c = true) : e = c := by
  obtain ⟨t, l⟩ := c
  obtain ⟨t2, l2⟩ := e
  unfold zxc at hx
  simp only [Bool.and_eq_true, Bool.not_eq_true'] at hx
  rcases h with h | ⟨h1, h2⟩
  · dsimp only at h hx
    rw [h] at hx
    exact absurd hx.1 (by decide)
  · dsimp only at h1 h2
    subst h1
    rw [zlr_eq h2 hx.2]
theorem zhr_eq : ∀ {h k : ZH}, zhr h k → h.all zxc = true → k = h
  | [], k, h, _ => zhr_nil h
  | a :: l, k, h, hx => by
    obtain ⟨b, k', rfl, h1, h2⟩ := zhr_cons h
    simp only [List.all_cons, Bool.and_eq_true] at hx
    rw [zcr_eq h1 hx.1, zhr_eq h2 hx.2]
theorem zhr_split : ∀ {a b k : ZH}, zhr (a ++ b) k → ∃ k1 k2, k = k1 ++ k2 ∧ zhr a k1 ∧ zhr b k2
  | [], b, k, h => ⟨[], k, rfl, trivial, h⟩
  | x :: a, b, k, h => by
    obtain ⟨y, k', rfl, h1, h2⟩ := zhr_cons h
    obtain ⟨k1, k2, e1, e2, e3⟩ := zhr_split h2
    exact ⟨y :: k1, k2, by rw [e1]; rfl, ⟨h1, e2⟩, e3⟩
theorem zhr_same : ∀ h : ZH, zhr h h
  | [] => trivial
  | c :: h => ⟨zcr_rf c, zhr_same h⟩
theorem zhr_blank : ∀ (k : ZH), zhr (List.replicate k.length (9, [])) k
  | [] => trivial
  | c :: k => ⟨Or.inl rfl, zhr_blank k⟩
theorem zmid {S A B : ZH} {i : Nat} (hi : i < A.length) : (S ++ (A ++ B))[S.length + i]? = A[i]? := by
  rw [List.getElem?_append_right (by omega), Nat.add_sub_cancel_left, List.getElem?_append_left hi]
theorem zM_frame {d n : Nat} {as : List Value} {r : Option Value} {S X Y k0 : ZH} (hr : zcl d n as (S ++ (List.replicate k0.length (9, []) ++ X)) = some (r, S ++ (List.replicate k0.length (9, []) ++ Y))) (hS : S.all zxc = true) (hY : Y.all zxc = true) :
    zcl d n as (S ++ (k0 ++ X)) = some (r, S ++ (k0 ++ Y)) := by
  obtain ⟨f, hf⟩ := zcl_iff.mp hr
  obtain ⟨k1, g1, g2, g3⟩ := zM_sim f d n as as _ _ (S ++ (k0 ++ X)) r hf (zlr_rf _) (zhr_app (zhr_same S) (zhr_app (zhr_blank k0) (zhr_same X)))
  rw [zcl_of g1]
  obtain ⟨a1, a2, rfl, b1, b2⟩ := zhr_split g2
  obtain ⟨a3, a4, rfl, b3, b4⟩ := zhr_split b2
  have e1 := zhr_eq b1 hS
  have e4 := zhr_eq b4 hY
  subst e1; subst e4
  have hl : a3.length = k0.length := by rw [zhr_len b3, List.length_replicate]
  have e3 : a3 = k0 := by
    apply List.ext_getElem?
    intro i
    by_cases hi : i < k0.length
    · have := (g3 (a1.length + i) ⟨(9, []), by rw [zmid (by rw [List.length_replicate]; exact hi), List.getElem?_replicate, if_pos hi], rfl⟩).1
      rw [zmid (by omega), zmid hi] at this
      exact this
    · rw [List.getElem?_eq_none (by omega), List.getElem?_eq_none (by omega)]
  rw [e3]
