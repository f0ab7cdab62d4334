set_option maxHeartbeats 4000000 in
theorem zI_simC {m pc pc1 n : Nat} {L L1 st st1 K su as : List Value} {h k : ZH} (hs : zI m pc L st h = some (.inr (.inl (n, as, pc1, L1, st1)))) (hL : zlr L K) (hS : zlr st su) (hr : zhr h k) :
    ∃ (as2 K1 su1 : List Value), zI m pc K su k = some (.inr (.inl (n, as2, pc1, K1, su1))) ∧ zlr as as2 ∧ zlr L1 K1 ∧ zlr st1 su1 := by
  unfold zI at hs ⊢
  cases hf : zf m pc with
  | none => rw [hf] at hs; cases hs
  | some il =>
    obtain ⟨i, len⟩ := il
    rw [hf] at hs
    have hs1 := zcnd hs
    clear hs
    obtain ⟨hln, hs⟩ := hs1
    show ∃ (as2 K1 su1 : List Value), cond (zln i len) _ none = _ ∧ _
    rw [hln]
    cases i
    case invokestatic idx =>
      obtain ⟨q, hq, hs⟩ := zbind hs
      cases hq1 : Nat.beq q.1 131 with
      | true =>
        rw [hq1] at hs
        simp only [cond_true] at hs
        split at hs
        · obtain ⟨-, hs⟩ := zcnd hs
          cases hs
        · cases hs
      | false =>
        rw [hq1] at hs
        simp only [cond_false] at hs
        cases hq2 : Nat.beq q.1 132 with
        | true =>
          rw [hq2] at hs
          simp only [cond_true] at hs
          split at hs
          · obtain ⟨-, hs⟩ := zcnd hs
            cases hs
          · cases hs
        | false =>
          rw [hq2] at hs
          simp only [cond_false] at hs
          obtain ⟨as2, K1, su1, g1, g2⟩ := zcall_sim hL hS hr (fun z => absurd z (by decide)) hs
          refine ⟨as2, K1, su1, ?_, g2⟩
          show (zkl m idx zMl).bind _ = _
          rw [hq]
          show cond (Nat.beq q.1 131) _ (cond (Nat.beq q.1 132) _ (zcall 0 q.1 pc K su k)) = _
          rw [hq1, hq2]
          exact g1
    case invokevirtual idx =>
      obtain ⟨q, hq, hs⟩ := zbind hs
      have hk1 : mK q.1 = 1 := by
        have hs2 := hs
        unfold zcall at hs2
        obtain ⟨g0, -⟩ := zcnd hs2
        simp only [Bool.and_eq_true] at g0
        exact Nat.eq_of_beq_eq_true g0.1
      obtain ⟨as2, K1, su1, g1, g2⟩ := zcall_sim hL hS hr (fun _ => zK9 hq hk1) hs
      refine ⟨as2, K1, su1, ?_, g2⟩
      show (zkl m idx zMl).bind _ = _
      rw [hq]
      exact g1
    case invokespecial idx =>
      obtain ⟨q, hq, hs⟩ := zbind hs
      cases hq1 : Nat.beq q.1 999 with
      | true =>
        rw [hq1] at hs
        simp only [cond_true] at hs
        split at hs
        · obtain ⟨-, hs⟩ := zcnd hs
          cases hs
        · cases hs
      | false =>
        rw [hq1] at hs
        simp only [cond_false] at hs
        obtain ⟨as2, K1, su1, g1, g2⟩ := zcall_sim hL hS hr (fun z => absurd z (by decide)) hs
        refine ⟨as2, K1, su1, ?_, g2⟩
        show (zkl m idx zMl).bind _ = _
        rw [hq]
        show cond (Nat.beq q.1 999) _ (zcall 2 q.1 pc K su k) = _
        rw [hq1]
        exact g1
    case putfield idx =>
      dsimp only at hs
      split at hs
      · obtain ⟨q, hq, hs⟩ := zbind hs
        obtain ⟨h1, hv, hs⟩ := zbind hs
        cases hs
      · cases hs
    case aastore =>
      dsimp only at hs
      split at hs
      · obtain ⟨t, ht, hs⟩ := zbind hs
        obtain ⟨h1, hv, hs⟩ := zbind hs
        cases hs
      · cases hs
    case newarray t =>
      dsimp only at hs
      split at hs
      · split at hs
        · cases hs
        · split at hs
          · cases hs
          · split at hs <;> cases hs
      · cases hs
    case anewarray idx =>
      dsimp only at hs
      split at hs
      · split at hs
        · cases hs
        · split at hs
          · cases hs
          · obtain ⟨q, hq, hs⟩ := zbind hs
            split at hs <;> cases hs
      · cases hs
    case ifCond cd off =>
      dsimp only at hs
      split at hs
      · obtain ⟨t, ht, hs⟩ := zbind hs
        cases hz : zcond cd _ 0 <;> (rw [hz] at hs; cases hs)
      · cases hs
    case if_icmp cd off =>
      dsimp only at hs
      split at hs
      · rename_i y x r
        obtain ⟨t, ht, hs⟩ := zbind hs
        cases hz : zcond cd x y <;> (rw [hz] at hs; cases hs)
      · cases hs
    case dup =>
      dsimp only at hs
      split at hs
      · obtain ⟨-, hs⟩ := zcnd hs
        cases hs
      · cases hs
    case pop =>
      dsimp only at hs
      split at hs
      · obtain ⟨-, hs⟩ := zcnd hs
        cases hs
      · cases hs
    case getfield idx =>
      dsimp only at hs
      split at hs
      · obtain ⟨q, hq, hs⟩ := zbind hs
        obtain ⟨v, hv, hs⟩ := zbind hs
        cases hs
      · cases hs
    case tableswitch d lo hi offs =>
      dsimp only at hs
      split at hs
      · split at hs
        · obtain ⟨t, ht, hs⟩ := zbind hs
          cases hs
        · obtain ⟨off, ho, hs⟩ := zbind hs
          obtain ⟨t, ht, hs⟩ := zbind hs
          cases hs
      · cases hs
    case ireturn =>
      dsimp only at hs
      split at hs
      · split at hs
        · cases hs
        · obtain ⟨-, hs⟩ := zcnd hs
          cases hs
        · cases hs
      · cases hs
    case areturn =>
      dsimp only at hs
      split at hs
      · split at hs
        · obtain ⟨-, hs⟩ := zcnd hs
          cases hs
        · cases hs
      · cases hs
    all_goals first
      | (cases hs; done)
      | (dsimp only at hs; split at hs <;> first | (cases hs; done) | (obtain ⟨q, hq, hs⟩ := zbind hs; cases hs; done) | (split at hs <;> cases hs))
      | (have hs2 := Option.bind_eq_some_iff.mp hs; obtain ⟨q, hq, hs3⟩ := hs2; cases hs3; done)

theorem zI_simR {m pc : Nat} {L st K su : List Value} {h k : ZH} {v : Option Value} (hs : zI m pc L st h = some (.inr (.inr v))) (hS : zlr st su) : zI m pc K su k = some (.inr (.inr v)) := by
  rcases zret_ok hs with ⟨x, rfl, rfl, hf, ty, hT, hnr⟩ | ⟨x, rfl, rfl, hf, hT⟩ | ⟨x, rfl, rfl, hR, hf, nm, hT⟩ | ⟨rfl, rfl, hf, hT⟩
  · obtain ⟨b0, s0, e0, hb0, hT0⟩ := zlr_cons hS
    obtain rfl := zvr_int hb0
    obtain rfl := zlr_nil hT0
    subst e0
    unfold zI at hs ⊢
    rw [hf] at hs ⊢
    exact hs
  · obtain ⟨b0, s0, e0, hb0, hT0⟩ := zlr_cons hS
    obtain rfl := zvr_long hb0
    obtain rfl := zlr_nil hT0
    subst e0
    unfold zI at hs ⊢
    rw [hf] at hs ⊢
    exact hs
  · obtain ⟨b0, s0, e0, hb0, hT0⟩ := zlr_cons hS
    obtain rfl := zvr_R hb0 hR
    obtain rfl := zlr_nil hT0
    subst e0
    unfold zI at hs ⊢
    rw [hf] at hs ⊢
    exact hs
  · obtain rfl := zlr_nil hS
    unfold zI at hs ⊢
    rw [hf] at hs ⊢
    exact hs
theorem zrun_sim {cal : Nat → List Value → ZH → ZO} (hcal : ∀ n as as2 h h1 k r, cal n as h = some (r, h1) → zlr as as2 → zhr h k → ∃ k1, cal n as2 k = some (r, k1) ∧ zhr h1 k1 ∧ zkeep h h1 k k1) :
    ∀ (g m pc : Nat) (L st K su : List Value) (h h1 k : ZH) (r : Option Value), zrun cal g m pc L st h = some (r, h1) → zlr L K → zlr st su → zhr h k → ∃ k1, zrun cal g m pc K su k = some (r, k1) ∧ zhr h1 k1 ∧ zkeep h h1 k k1
  | 0, m, pc, L, st, K, su, h, h1, k, r, hz, hL, hS, hr => by cases hz
  | g + 1, m, pc, L, st, K, su, h, h1, k, r, hz, hL, hS, hr => by
    unfold zrun at hz ⊢
    cases hI : zI m pc L st h with
    | none => rw [hI] at hz; cases hz
    | some w =>
      rw [hI] at hz
      match w, hI, hz with
      | .inl (pc1, L1, st1, h2), hI, hz =>
        obtain ⟨K1, su1, k2, g1, g2, g3, g4, g5⟩ := zI_sim hI hL hS hr
        obtain ⟨k1, f1, f2, f3⟩ := zrun_sim hcal g m pc1 L1 st1 K1 su1 h2 h1 k2 r hz g2 g3 g4
        rw [g1]
        exact ⟨k1, f1, f2, zkeep_tr g5 f3⟩
      | .inr (.inl (n, as, pc1, L1, st1)), hI, hz =>
        obtain ⟨as2, K1, su1, g1, g2, g3, g4⟩ := zI_simC hI hL hS hr
        rw [g1]
        dsimp only at hz ⊢
        cases hc : cal n as h with
        | none => rw [hc] at hz; cases hz
        | some y =>
          obtain ⟨r1, h2⟩ := y
          rw [hc] at hz
          obtain ⟨k2, c1, c2, c3⟩ := hcal n as as2 h h2 k r1 hc g2 hr
          rw [c1]
          obtain ⟨k1, f1, f2, f3⟩ := zrun_sim hcal g m pc1 L1 (r1.toList ++ st1) K1 (r1.toList ++ su1) h2 h1 k2 r hz g3 (zlr_app (zlr_rf _) g4) c2
          exact ⟨k1, f1, f2, zkeep_tr c3 f3⟩
      | .inr (.inr v), hI, hz =>
        rw [zI_simR (K := K) (k := k) hI hS]
        cases hz
        exact ⟨k, rfl, hr, zkeep_rf⟩
theorem zlr_ex : ∀ {l k : List Value}, zlr l k → zlr (zex l) (zex k)
  | [], k, h => by rw [zlr_nil h]; trivial
  | a :: l, k, h => by
    obtain ⟨b, k', rfl, h1, h3⟩ := zlr_cons h
    show zlr (cond (decide (a.category = 2)) (a :: zj :: zex l) (a :: zex l)) (cond (decide (b.category = 2)) (b :: zj :: zex k') (b :: zex k'))
    rw [zvr_cat h1]
    cases decide (a.category = 2) with
    | true => exact zlr_c h1 (zlr_c (zvr_rf _) (zlr_ex h3))
    | false => exact zlr_c h1 (zlr_ex h3)
/-- a call over unknown ints and blank cells: the same over whatever fills them; what was blank stays as it is -/
theorem zM_sim (f : Nat) : ∀ (d n : Nat) (as as2 : List Value) (h h1 k : ZH) (r : Option Value), zM f d n as h = some (r, h1) → zlr as as2 → zhr h k → ∃ k1, zM f d n as2 k = some (r, k1) ∧ zhr h1 k1 ∧ zkeep h h1 k k1
  | 0, n, as, as2, h, h1, k, r, hz, ha, hr => by cases hz
  | d + 1, n, as, as2, h, h1, k, r, hz, ha, hr => by
    unfold zM at hz ⊢
    cases hE : zent n as with
    | none => rw [hE] at hz; cases hz
    | some L =>
      rw [hE] at hz
      have hx := zlr_ex ha
      have hE2 : ∃ L2, zent n as2 = some L2 ∧ zlr L L2 := by
        obtain ⟨e1, e2, e3⟩ := zent_ok hE
        unfold zent
        rw [zlr_len hx, Nat.ble_eq_true_of_le e2]
        exact ⟨_, rfl, by rw [e3]; exact zlr_app hx (zlr_rf _)⟩
      obtain ⟨L2, e1, e2⟩ := hE2
      rw [e1]
      exact zrun_sim (fun n as as2 h h1 k r => zM_sim f d n as as2 h h1 k r) f n 0 L [] L2 [] h h1 k r hz e2 trivial hr
