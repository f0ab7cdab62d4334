/-! A RUN OF A METHOD, AND ITS CONTRACT -/
theorem zast_len {t : Nat} {h h' : ZH} {a : Nat} {i : Int32} {v : Value} (hz : zast t h a i v = some h') : h.length ≤ h'.length ∧ zsl h ≤ zsl h' := by
  obtain ⟨vs, g1, g2, -⟩ := zast_ok hz
  have e2 : zsl h' = zsl h := by rw [g2]; exact zsl_set g1 (by simp)
  exact ⟨by rw [g2, List.length_set]; exact Nat.le_refl _, by rw [e2]; exact Nat.le_refl _⟩
theorem zput_len {h h' : ZH} {a ci j : Nat} {v : Value} (hz : zput h a ci j v = some h') : h.length ≤ h'.length ∧ zsl h ≤ zsl h' := by
  unfold zput at hz
  cases hk : h[a]? with
  | none => rw [hk] at hz; cases hz
  | some x =>
    obtain ⟨cc, fs⟩ := x
    rw [hk] at hz
    obtain ⟨h1, h2⟩ := zcnd hz
    cases h2
    have e2 : zsl (h.set a (cc, fs.set j v)) = zsl h := zsl_set hk (by simp)
    exact ⟨by rw [List.length_set]; exact Nat.le_refl _, by rw [e2]; exact Nat.le_refl _⟩
theorem zapp_len (h : ZH) (x : ZC) : h.length ≤ (h ++ [x]).length ∧ zsl h ≤ zsl (h ++ [x]) := ⟨by simp, zsl_le_app _ _⟩
set_option maxHeartbeats 4000000 in
theorem zI_len {mn pc pc' : Nat} {L L' st st' : List Value} {h h' : ZH} (hs : zI mn pc L st h = some (.inl (pc', L', st', h'))) : h.length ≤ h'.length ∧ zsl h ≤ zsl h' := by
  unfold zI at hs
  cases hf : zf mn pc with
  | none => rw [hf] at hs; cases hs
  | some il =>
    obtain ⟨i, len⟩ := il
    rw [hf] at hs
    have hs1 := zcnd hs
    clear hs hf
    obtain ⟨hln, hs⟩ := hs1
    have hr : h.length ≤ h.length ∧ zsl h ≤ zsl h := ⟨Nat.le_refl _, Nat.le_refl _⟩
    cases i
    case putfield idx =>
      dsimp only at hs
      split at hs
      · obtain ⟨q, hq, hs⟩ := zbind hs
        obtain ⟨h1, hv, hs⟩ := zbind hs
        cases hs
        exact zput_len hv
      · cases hs
    case iastore =>
      dsimp only at hs
      split at hs
      · obtain ⟨h1, hv, hs⟩ := zbind hs
        cases hs
        exact zast_len hv
      · cases hs
    case lastore =>
      dsimp only at hs
      split at hs
      · obtain ⟨h1, hv, hs⟩ := zbind hs
        cases hs
        exact zast_len hv
      · cases hs
    case aastore =>
      dsimp only at hs
      split at hs
      · obtain ⟨t, ht, hs⟩ := zbind hs
        obtain ⟨h1, hv, hs⟩ := zbind hs
        cases hs
        exact zast_len hv
      · cases hs
    case new idx =>
      obtain ⟨q, hq, hs⟩ := zbind hs
      cases hs
      exact zapp_len _ _
    case newarray t =>
      dsimp only at hs
      split at hs
      · split at hs
        · cases hs
        · split at hs
          · cases hs
          · split at hs <;> cases hs <;> exact zapp_len _ _
      · cases hs
    case anewarray idx =>
      dsimp only at hs
      split at hs
      · split at hs
        · cases hs
        · split at hs
          · cases hs
          · obtain ⟨q, hq, hs⟩ := zbind hs
            split at hs <;> cases hs <;> exact zapp_len _ _
      · cases hs
    case invokestatic idx =>
      obtain ⟨q, hq, hs⟩ := zbind hs
      cases hb1 : Nat.beq q.1 131 with
      | true =>
        rw [hb1] at hs
        simp only [cond_true] at hs
        split at hs
        · obtain ⟨-, hs⟩ := zcnd hs
          cases hs
          exact hr
        · cases hs
      | false =>
        rw [hb1] at hs
        simp only [cond_false] at hs
        cases hb2 : Nat.beq q.1 132 with
        | true =>
          rw [hb2] at hs
          simp only [cond_true] at hs
          split at hs
          · obtain ⟨-, hs⟩ := zcnd hs
            cases hs
            exact hr
          · cases hs
        | false =>
          rw [hb2] at hs
          simp only [cond_false] at hs
          unfold zcall at hs
          obtain ⟨-, hs⟩ := zcnd hs
          obtain ⟨-, hs⟩ := zcnd hs
          cases hs
    case invokevirtual idx =>
      obtain ⟨q, hq, hs⟩ := zbind hs
      unfold zcall at hs
      obtain ⟨-, hs⟩ := zcnd hs
      split at hs
      · obtain ⟨-, hs⟩ := zcnd hs
        cases hs
      · obtain ⟨-, hs⟩ := zcnd hs
        split at hs
        · obtain ⟨-, hs⟩ := zcnd hs
          cases hs
        · cases hs
      · obtain ⟨-, hs⟩ := zcnd hs
        cases hs
      · cases hs
    case invokespecial idx =>
      obtain ⟨q, hq, hs⟩ := zbind hs
      cases hb1 : Nat.beq q.1 999 with
      | true =>
        rw [hb1] at hs
        simp only [cond_true] at hs
        split at hs
        · obtain ⟨-, hs⟩ := zcnd hs
          cases hs
          exact hr
        · cases hs
      | false =>
        rw [hb1] at hs
        simp only [cond_false] at hs
        unfold zcall at hs
        obtain ⟨-, hs⟩ := zcnd hs
        split at hs
        · obtain ⟨-, hs⟩ := zcnd hs
          cases hs
        · obtain ⟨-, hs⟩ := zcnd hs
          split at hs
          · obtain ⟨-, hs⟩ := zcnd hs
            cases hs
          · cases hs
        · obtain ⟨-, hs⟩ := zcnd hs
          cases hs
        · cases hs
    case ifCond cd off =>
      dsimp only at hs
      split at hs
      · obtain ⟨t, ht, hs⟩ := zbind hs
        cases hz : zcond cd _ 0 <;> (rw [hz] at hs; cases hs; exact hr)
      · cases hs
    case if_icmp cd off =>
      dsimp only at hs
      split at hs
      · rename_i y x r
        obtain ⟨t, ht, hs⟩ := zbind hs
        cases hz : zcond cd x y <;> (rw [hz] at hs; cases hs; exact hr)
      · cases hs
    case dup =>
      dsimp only at hs
      split at hs
      · obtain ⟨-, hs⟩ := zcnd hs
        cases hs
        exact hr
      · cases hs
    case pop =>
      dsimp only at hs
      split at hs
      · obtain ⟨-, hs⟩ := zcnd hs
        cases hs
        exact hr
      · cases hs
    case getfield idx =>
      dsimp only at hs
      split at hs
      · obtain ⟨q, hq, hs⟩ := zbind hs
        obtain ⟨v, hv, hs⟩ := zbind hs
        cases hs
        exact hr
      · cases hs
    case tableswitch d lo hi offs =>
      dsimp only at hs
      split at hs
      · split at hs
        · obtain ⟨t, ht, hs⟩ := zbind hs
          cases hs
          exact hr
        · obtain ⟨off, ho, hs⟩ := zbind hs
          obtain ⟨t, ht, hs⟩ := zbind hs
          cases hs
          exact hr
      · cases hs
    case ireturn =>
      dsimp only at hs
      split at hs
      · split at hs
        · cases hs
        · obtain ⟨-, hs⟩ := zcnd hs
          cases hs
        · cases hs
      · cases hs
    case areturn =>
      dsimp only at hs
      split at hs
      · split at hs
        · obtain ⟨-, hs⟩ := zcnd hs
          cases hs
        · cases hs
      · cases hs
    all_goals first
      | (cases hs <;> exact hr)
      | (obtain ⟨q, hq, hs⟩ := zbind hs; cases hs <;> exact hr)
      | (dsimp only at hs; split at hs <;> first | (cases hs <;> exact hr) | (obtain ⟨q, hq, hs⟩ := zbind hs; cases hs <;> exact hr) | (split at hs <;> (cases hs <;> exact hr)))
theorem zrun_len {cal : Nat → List Value → ZH → ZO} (hcal : ∀ n as h r h1, cal n as h = some (r, h1) → h.length ≤ h1.length ∧ zsl h ≤ zsl h1) : ∀ (g mn pc : Nat) (L st : List Value) (h h' : ZH) (r : Option Value), zrun cal g mn pc L st h = some (r, h') → h.length ≤ h'.length ∧ zsl h ≤ zsl h'
  | 0, mn, pc, L, st, h, h', r, hr => by cases hr
  | g + 1, mn, pc, L, st, h, h', r, hr => by
    unfold zrun at hr
    split at hr
    · cases hr
    · rename_i pc1 L1 st1 h1 hI
      have a1 := zI_len hI
      have a2 := zrun_len hcal g mn pc1 L1 st1 h1 h' r hr
      exact ⟨Nat.le_trans a1.1 a2.1, Nat.le_trans a1.2 a2.2⟩
    · split at hr
      · cases hr
      · rename_i r1 h1 hc
        have a1 := hcal _ _ _ _ _ hc
        have a2 := zrun_len hcal g _ _ _ _ h1 h' r hr
        exact ⟨Nat.le_trans a1.1 a2.1, Nat.le_trans a1.2 a2.2⟩
    · cases hr
      exact ⟨Nat.le_refl _, Nat.le_refl _⟩
theorem zM_len (f : Nat) : ∀ (d n : Nat) (as : List Value) (h : ZH) (r : Option Value) (h1 : ZH), zM f d n as h = some (r, h1) → h.length ≤ h1.length ∧ zsl h ≤ zsl h1
  | 0, n, as, h, r, h1, hr => by cases hr
  | d + 1, n, as, h, r, h1, hr => by
    unfold zM at hr
    split at hr
    · cases hr
    · exact zrun_len (zM_len f d) _ _ _ _ _ _ _ _ hr
